def TB : u_T := fun k => match k with
  | 0 => ("ValueBench", "tape", "LValueBench$Text;", true)
  | 1 => ("ValueBench", "result", "LValueBench$Text;", true)
  | 2 => ("ValueBench", "scratch", "LValueBench$Text;", true)
  | 3 => ("ValueBench", "registers", "[LValueBench$Row;", true)
  | 4 => ("ValueBench", "sorter", "LValueBench$Sorter;", true)
  | 5 => ("ValueBench", "spare", "LValueBench$Row;", false)
  | 6 => ("ValueBench", "place", "I", false)
  | _ => ("ValueBench", "reason", "I", false)
def tyB : Nat → FieldType := fun k => match k with
  | 0 => (.object "ValueBench$Text")
  | 1 => (.object "ValueBench$Text")
  | 2 => (.object "ValueBench$Text")
  | 3 => (.array (.object "ValueBench$Row"))
  | 4 => (.object "ValueBench$Sorter")
  | 5 => (.object "ValueBench$Row")
  | 6 => .int
  | _ => .int
theorem nmB : ∀ a, a < 8 → ∀ b, b < 8 → a ≠ b → (TB a).2.1 ≠ (TB b).2.1 := by decide +kernel
theorem tyB_ok : ∀ k, k < 8 → parseFieldDescriptor (TB k).2.2.1 = some (tyB k) := by decide +kernel
theorem inB : ∀ w ∈ u_ws "ValueBench" TB 8, w ∈ xw := List.forall_mem_cons.mpr ⟨xw_t (x_t1 (List.mem_of_getElem? (i := 103) rfl)) rfl, List.forall_mem_cons.mpr ⟨xw_t (x_t1 (List.mem_of_getElem? (i := 105) rfl)) rfl, List.forall_mem_cons.mpr ⟨xw_t (x_t1 (List.mem_of_getElem? (i := 107) rfl)) rfl, List.forall_mem_cons.mpr ⟨xw_t (x_t1 (List.mem_of_getElem? (i := 109) rfl)) rfl, List.forall_mem_cons.mpr ⟨xw_t (x_t1 (List.mem_of_getElem? (i := 111) rfl)) rfl, List.forall_mem_cons.mpr ⟨xw_t (x_t1 (List.mem_of_getElem? (i := 113) rfl)) rfl, List.forall_mem_cons.mpr ⟨xw_t (x_t1 (List.mem_of_getElem? (i := 115) rfl)) rfl, List.forall_mem_cons.mpr ⟨xw_t (x_t1 (List.mem_of_getElem? (i := 117) rfl)) rfl, fun _ h => absurd h List.not_mem_nil⟩⟩⟩⟩⟩⟩⟩⟩
def TT : u_T := fun k => match k with
  | 0 => ("ValueBench$Text", "bytes", "[B", true)
  | 1 => ("ValueBench$Text", "length", "I", false)
  | _ => ("ValueBench$Text", "over", "Z", false)
def tyT : Nat → FieldType := fun k => match k with
  | 0 => (.array .byte)
  | 1 => .int
  | _ => .boolean
theorem nmT : ∀ a, a < 3 → ∀ b, b < 3 → a ≠ b → (TT a).2.1 ≠ (TT b).2.1 := by decide +kernel
theorem tyT_ok : ∀ k, k < 3 → parseFieldDescriptor (TT k).2.2.1 = some (tyT k) := by decide +kernel
theorem inT : ∀ w ∈ u_ws "ValueBench$Text" TT 3, w ∈ xw := List.forall_mem_cons.mpr ⟨xw_t (x_t1 (List.mem_of_getElem? (i := 46) rfl)) rfl, List.forall_mem_cons.mpr ⟨xw_t (x_t1 (List.mem_of_getElem? (i := 48) rfl)) rfl, List.forall_mem_cons.mpr ⟨xw_t (x_t1 (List.mem_of_getElem? (i := 50) rfl)) rfl, fun _ h => absurd h List.not_mem_nil⟩⟩⟩
def TR : u_T := fun k => match k with
  | 0 => ("ValueBench$Row", "cells", "[J", true)
  | 1 => ("ValueBench$Row", "size", "I", false)
  | _ => ("ValueBench$Row", "over", "Z", false)
def tyR : Nat → FieldType := fun k => match k with
  | 0 => (.array .long)
  | 1 => .int
  | _ => .boolean
theorem nmR : ∀ a, a < 3 → ∀ b, b < 3 → a ≠ b → (TR a).2.1 ≠ (TR b).2.1 := by decide +kernel
theorem tyR_ok : ∀ k, k < 3 → parseFieldDescriptor (TR k).2.2.1 = some (tyR k) := by decide +kernel
theorem inR : ∀ w ∈ u_ws "ValueBench$Row" TR 3, w ∈ xw := List.forall_mem_cons.mpr ⟨xw_t (x_t1 (List.mem_of_getElem? (i := 87) rfl)) rfl, List.forall_mem_cons.mpr ⟨xw_t (x_t1 (List.mem_of_getElem? (i := 89) rfl)) rfl, List.forall_mem_cons.mpr ⟨xw_t (x_t1 (List.mem_of_getElem? (i := 91) rfl)) rfl, fun _ h => absurd h List.not_mem_nil⟩⟩⟩
def TSo : u_T := fun k => match k with
  | 0 => ("ValueBench$Sorter", "keyAt", "[I", true)
  | 1 => ("ValueBench$Sorter", "elementAt", "[I", true)
  | 2 => ("ValueBench$Sorter", "turns", "[I", false)
  | 3 => ("ValueBench$Sorter", "merged", "[I", false)
  | _ => ("ValueBench$Sorter", "total", "I", false)
def tyS : Nat → FieldType := fun k => match k with
  | 0 => (.array .int)
  | 1 => (.array .int)
  | 2 => (.array .int)
  | 3 => (.array .int)
  | _ => .int
theorem nmS : ∀ a, a < 5 → ∀ b, b < 5 → a ≠ b → (TSo a).2.1 ≠ (TSo b).2.1 := by decide +kernel
theorem tyS_ok : ∀ k, k < 5 → parseFieldDescriptor (TSo k).2.2.1 = some (tyS k) := by decide +kernel
theorem inS : ∀ w ∈ u_ws "ValueBench$Sorter" TSo 5, w ∈ xw := List.forall_mem_cons.mpr ⟨xw_t (x_t1 (List.mem_of_getElem? (i := 67) rfl)) rfl, List.forall_mem_cons.mpr ⟨xw_t (x_t1 (List.mem_of_getElem? (i := 69) rfl)) rfl, List.forall_mem_cons.mpr ⟨xw_t (x_t1 (List.mem_of_getElem? (i := 71) rfl)) rfl, List.forall_mem_cons.mpr ⟨xw_t (x_t1 (List.mem_of_getElem? (i := 73) rfl)) rfl, List.forall_mem_cons.mpr ⟨xw_t (x_t1 (List.mem_of_getElem? (i := 75) rfl)) rfl, fun _ h => absurd h List.not_mem_nil⟩⟩⟩⟩⟩
def TD : u_T := fun k => match k with
  | 0 => ("ValueBench$Reader", "source", "LValueBench$Text;", true)
  | 1 => ("ValueBench$Reader", "out", "LValueBench$Row;", true)
  | 2 => ("ValueBench$Reader", "at", "I", false)
  | _ => ("ValueBench$Reader", "place", "I", false)
def tyD : Nat → FieldType := fun k => match k with
  | 0 => (.object "ValueBench$Text")
  | 1 => (.object "ValueBench$Row")
  | 2 => .int
  | _ => .int
theorem nmD : ∀ a, a < 4 → ∀ b, b < 4 → a ≠ b → (TD a).2.1 ≠ (TD b).2.1 := by decide +kernel
theorem tyD_ok : ∀ k, k < 4 → parseFieldDescriptor (TD k).2.2.1 = some (tyD k) := by decide +kernel
theorem inD : ∀ w ∈ u_ws "ValueBench$Reader" TD 4, w ∈ xw := List.forall_mem_cons.mpr ⟨xw_t (x_t2 (List.mem_of_getElem? (i := 33) rfl)) rfl, List.forall_mem_cons.mpr ⟨xw_t (x_t2 (List.mem_of_getElem? (i := 35) rfl)) rfl, List.forall_mem_cons.mpr ⟨xw_t (x_t2 (List.mem_of_getElem? (i := 37) rfl)) rfl, List.forall_mem_cons.mpr ⟨xw_t (x_t2 (List.mem_of_getElem? (i := 39) rfl)) rfl, fun _ h => absurd h List.not_mem_nil⟩⟩⟩⟩
def TM : u_T := fun k => match k with
  | 0 => ("ValueBenchModel", "failed", "I", false)
  | 1 => ("ValueBenchModel", "made", "[LValueBenchModel$V;", false)
  | 2 => ("ValueBenchModel", "madeTop", "I", false)
  | 3 => ("ValueBenchModel", "chars", "[B", false)
  | 4 => ("ValueBenchModel", "charTop", "I", false)
  | 5 => ("ValueBenchModel", "kids", "[LValueBenchModel$V;", false)
  | 6 => ("ValueBenchModel", "names", "[LValueBenchModel$V;", false)
  | 7 => ("ValueBenchModel", "kidTop", "I", false)
  | 8 => ("ValueBenchModel", "reason", "I", false)
  | 9 => ("ValueBenchModel", "parts", "I", false)
  | 10 => ("ValueBenchModel", "waitKids", "[LValueBenchModel$V;", false)
  | 11 => ("ValueBenchModel", "waitNames", "[LValueBenchModel$V;", false)
  | 12 => ("ValueBenchModel", "waiting", "I", false)
  | 13 => ("ValueBenchModel", "index", "[I", false)
  | 14 => ("ValueBenchModel", "other", "[I", false)
  | 15 => ("ValueBenchModel", "source", "[B", false)
  | 16 => ("ValueBenchModel", "at", "I", false)
  | 17 => ("ValueBenchModel", "stop", "I", false)
  | 18 => ("ValueBenchModel", "opened", "I", false)
  | 19 => ("ValueBenchModel", "mostOpen", "I", false)
  | 20 => ("ValueBenchModel", "place", "I", false)
  | 21 => ("ValueBenchModel", "printed", "[B", false)
  | 22 => ("ValueBenchModel", "printedSize", "I", false)
  | 23 => ("ValueBenchModel", "mostPrinted", "I", false)
  | 24 => ("ValueBenchModel", "registers", "[[B", true)
  | 25 => ("ValueBenchModel", "registerSizes", "[I", true)
  | 26 => ("ValueBenchModel", "tape", "[B", true)
  | 27 => ("ValueBenchModel", "taped", "I", false)
  | 28 => ("ValueBenchModel", "result", "[B", true)
  | 29 => ("ValueBenchModel", "size", "I", false)
  | 30 => ("ValueBenchModel", "refused", "I", false)
  | _ => ("ValueBenchModel", "readPlace", "I", false)
def tyM : Nat → FieldType := fun k => match k with
  | 0 => .int
  | 1 => (.array (.object "ValueBenchModel$V"))
  | 2 => .int
  | 3 => (.array .byte)
  | 4 => .int
  | 5 => (.array (.object "ValueBenchModel$V"))
  | 6 => (.array (.object "ValueBenchModel$V"))
  | 7 => .int
  | 8 => .int
  | 9 => .int
  | 10 => (.array (.object "ValueBenchModel$V"))
  | 11 => (.array (.object "ValueBenchModel$V"))
  | 12 => .int
  | 13 => (.array .int)
  | 14 => (.array .int)
  | 15 => (.array .byte)
  | 16 => .int
  | 17 => .int
  | 18 => .int
  | 19 => .int
  | 20 => .int
  | 21 => (.array .byte)
  | 22 => .int
  | 23 => .int
  | 24 => (.array (.array .byte))
  | 25 => (.array .int)
  | 26 => (.array .byte)
  | 27 => .int
  | 28 => (.array .byte)
  | 29 => .int
  | 30 => .int
  | _ => .int
theorem nmM : ∀ a, a < 32 → ∀ b, b < 32 → a ≠ b → (TM a).2.1 ≠ (TM b).2.1 := by decide +kernel
theorem tyM_ok : ∀ k, k < 32 → parseFieldDescriptor (TM k).2.2.1 = some (tyM k) := by decide +kernel
theorem inM : ∀ w ∈ u_ws "ValueBenchModel" TM 32, w ∈ xw := List.forall_mem_cons.mpr ⟨xw_t (x_t5 (List.mem_of_getElem? (i := 119) rfl)) rfl, List.forall_mem_cons.mpr ⟨xw_t (x_t5 (List.mem_of_getElem? (i := 121) rfl)) rfl, List.forall_mem_cons.mpr ⟨xw_t (x_t5 (List.mem_of_getElem? (i := 123) rfl)) rfl, List.forall_mem_cons.mpr ⟨xw_t (x_t5 (List.mem_of_getElem? (i := 125) rfl)) rfl, List.forall_mem_cons.mpr ⟨xw_t (x_t5 (List.mem_of_getElem? (i := 127) rfl)) rfl, List.forall_mem_cons.mpr ⟨xw_t (x_t5 (List.mem_of_getElem? (i := 129) rfl)) rfl, List.forall_mem_cons.mpr ⟨xw_t (x_t5 (List.mem_of_getElem? (i := 131) rfl)) rfl, List.forall_mem_cons.mpr ⟨xw_t (x_t5 (List.mem_of_getElem? (i := 133) rfl)) rfl, List.forall_mem_cons.mpr ⟨xw_t (x_t5 (List.mem_of_getElem? (i := 135) rfl)) rfl, List.forall_mem_cons.mpr ⟨xw_t (x_t5 (List.mem_of_getElem? (i := 137) rfl)) rfl, List.forall_mem_cons.mpr ⟨xw_t (x_t5 (List.mem_of_getElem? (i := 139) rfl)) rfl, List.forall_mem_cons.mpr ⟨xw_t (x_t5 (List.mem_of_getElem? (i := 141) rfl)) rfl, List.forall_mem_cons.mpr ⟨xw_t (x_t5 (List.mem_of_getElem? (i := 143) rfl)) rfl, List.forall_mem_cons.mpr ⟨xw_t (x_t5 (List.mem_of_getElem? (i := 145) rfl)) rfl, List.forall_mem_cons.mpr ⟨xw_t (x_t5 (List.mem_of_getElem? (i := 147) rfl)) rfl, List.forall_mem_cons.mpr ⟨xw_t (x_t5 (List.mem_of_getElem? (i := 149) rfl)) rfl, List.forall_mem_cons.mpr ⟨xw_t (x_t5 (List.mem_of_getElem? (i := 151) rfl)) rfl, List.forall_mem_cons.mpr ⟨xw_t (x_t5 (List.mem_of_getElem? (i := 153) rfl)) rfl, List.forall_mem_cons.mpr ⟨xw_t (x_t5 (List.mem_of_getElem? (i := 155) rfl)) rfl, List.forall_mem_cons.mpr ⟨xw_t (x_t5 (List.mem_of_getElem? (i := 157) rfl)) rfl, List.forall_mem_cons.mpr ⟨xw_t (x_t5 (List.mem_of_getElem? (i := 159) rfl)) rfl, List.forall_mem_cons.mpr ⟨xw_t (x_t5 (List.mem_of_getElem? (i := 161) rfl)) rfl, List.forall_mem_cons.mpr ⟨xw_t (x_t5 (List.mem_of_getElem? (i := 163) rfl)) rfl, List.forall_mem_cons.mpr ⟨xw_t (x_t5 (List.mem_of_getElem? (i := 165) rfl)) rfl, List.forall_mem_cons.mpr ⟨xw_t (x_t5 (List.mem_of_getElem? (i := 167) rfl)) rfl, List.forall_mem_cons.mpr ⟨xw_t (x_t5 (List.mem_of_getElem? (i := 169) rfl)) rfl, List.forall_mem_cons.mpr ⟨xw_t (x_t5 (List.mem_of_getElem? (i := 171) rfl)) rfl, List.forall_mem_cons.mpr ⟨xw_t (x_t5 (List.mem_of_getElem? (i := 173) rfl)) rfl, List.forall_mem_cons.mpr ⟨xw_t (x_t5 (List.mem_of_getElem? (i := 175) rfl)) rfl, List.forall_mem_cons.mpr ⟨xw_t (x_t5 (List.mem_of_getElem? (i := 177) rfl)) rfl, List.forall_mem_cons.mpr ⟨xw_t (x_t5 (List.mem_of_getElem? (i := 179) rfl)) rfl, List.forall_mem_cons.mpr ⟨xw_t (x_t5 (List.mem_of_getElem? (i := 181) rfl)) rfl, fun _ h => absurd h List.not_mem_nil⟩⟩⟩⟩⟩⟩⟩⟩⟩⟩⟩⟩⟩⟩⟩⟩⟩⟩⟩⟩⟩⟩⟩⟩⟩⟩⟩⟩⟩⟩⟩⟩
def TV : u_T := fun k => match k with
  | 0 => ("ValueBenchModel$V", "kind", "I", false)
  | 1 => ("ValueBenchModel$V", "n", "J", false)
  | 2 => ("ValueBenchModel$V", "off", "I", false)
  | 3 => ("ValueBenchModel$V", "count", "I", false)
  | 4 => ("ValueBenchModel$V", "depth", "I", false)
  | _ => ("ValueBenchModel$V", "weight", "I", false)
def tyV : Nat → FieldType := fun k => match k with
  | 0 => .int
  | 1 => .long
  | 2 => .int
  | 3 => .int
  | 4 => .int
  | _ => .int
theorem nmV : ∀ a, a < 6 → ∀ b, b < 6 → a ≠ b → (TV a).2.1 ≠ (TV b).2.1 := by decide +kernel
theorem tyV_ok : ∀ k, k < 6 → parseFieldDescriptor (TV k).2.2.1 = some (tyV k) := by decide +kernel
theorem inV : ∀ w ∈ u_ws "ValueBenchModel$V" TV 6, w ∈ xw := List.forall_mem_cons.mpr ⟨xw_t (x_t6 (List.mem_of_getElem? (i := 28) rfl)) rfl, List.forall_mem_cons.mpr ⟨xw_t (x_t6 (List.mem_of_getElem? (i := 30) rfl)) rfl, List.forall_mem_cons.mpr ⟨xw_t (x_t6 (List.mem_of_getElem? (i := 32) rfl)) rfl, List.forall_mem_cons.mpr ⟨xw_t (x_t6 (List.mem_of_getElem? (i := 34) rfl)) rfl, List.forall_mem_cons.mpr ⟨xw_t (x_t6 (List.mem_of_getElem? (i := 36) rfl)) rfl, List.forall_mem_cons.mpr ⟨xw_t (x_t6 (List.mem_of_getElem? (i := 38) rfl)) rfl, fun _ h => absurd h List.not_mem_nil⟩⟩⟩⟩⟩⟩
abbrev xcl : List vw_C := [("ValueBench", TB, 8), ("ValueBench$Text", TT, 3), ("ValueBench$Row", TR, 3), ("ValueBench$Sorter", TSo, 5), ("ValueBench$Reader", TD, 4), ("ValueBenchModel", TM, 32), ("ValueBenchModel$V", TV, 6)]
abbrev xMet (l : Launch) (y : MethodName) (w : List Cond) (f cs sl lo : Nat) (D : va_G) (cT : Nat → ClassId) (aK aV : Nat → Nat) (sz : Nat) (av : List Value) (pre : va_W) (Q : (Nat → Prop) → Array Value → State → Outcome → State → Prop) : Prop := Met l y w { frames := f, cells := cs, slots := sl, locals := lo } (va_Pc av (xPre D xcl cT aK aV sz pre)) (Q (va_A pre sz)) cs sl (va_A pre sz)
abbrev xMetX (l : Launch) (y : MethodName) (w : List Cond) (f cs sl lo : Nat) (D : va_G) (cT : Nat → ClassId) (aK aV : Nat → Nat) (sz : Nat) (av : List Value) (pre : va_W) (X : String) (P : (Nat → Prop) → State → Prop) : Prop := vx_Met l y w { frames := f, cells := cs, slots := sl, locals := lo } (va_Pc av (xPre D xcl cT aK aV sz pre)) (fun _ _ _ _ => False) (vx_X (fun _ : Unit => True) (fun E _ t => E = X ∧ P (va_A pre sz) t) (va_A pre sz)) cs sl (va_A pre sz)
def yB_init : MethodName := ⟨"ValueBench", "<init>", "()V"⟩
def yR_init : MethodName := ⟨"ValueBench$Row", "<init>", "()V"⟩
def yR_after : MethodName := ⟨"ValueBench$Row", "after", "(I)I"⟩
def yR_cell : MethodName := ⟨"ValueBench$Row", "cell", "(I)J"⟩
def yR_clear : MethodName := ⟨"ValueBench$Row", "clear", "()V"⟩
def yR_close : MethodName := ⟨"ValueBench$Row", "close", "(III)V"⟩
def yR_code : MethodName := ⟨"ValueBench$Row", "code", "(II)I"⟩
def yR_element : MethodName := ⟨"ValueBench$Row", "element", "(IJ)I"⟩
def yR_hasPart : MethodName := ⟨"ValueBench$Row", "hasPart", "(IILValueBench$Row;I)Z"⟩
def yR_is : MethodName := ⟨"ValueBench$Row", "is", "(II)Z"⟩
def yR_isOver : MethodName := ⟨"ValueBench$Row", "isOver", "()Z"⟩
def yR_kind : MethodName := ⟨"ValueBench$Row", "kind", "(I)I"⟩
def yR_length : MethodName := ⟨"ValueBench$Row", "length", "(I)I"⟩
def yR_number : MethodName := ⟨"ValueBench$Row", "number", "(I)J"⟩
def yR_open : MethodName := ⟨"ValueBench$Row", "open", "()I"⟩
def yR_orderOfStrings : MethodName := ⟨"ValueBench$Row", "orderOfStrings", "(ILValueBench$Row;I)I"⟩
def yR_put : MethodName := ⟨"ValueBench$Row", "put", "(J)V"⟩
def yR_putCells : MethodName := ⟨"ValueBench$Row", "putCells", "(LValueBench$Row;II)V"⟩
def yR_putCopy : MethodName := ⟨"ValueBench$Row", "putCopy", "(LValueBench$Row;I)V"⟩
def yR_putInside : MethodName := ⟨"ValueBench$Row", "putInside", "(LValueBench$Row;I)V"⟩
def yR_putNull : MethodName := ⟨"ValueBench$Row", "putNull", "()V"⟩
def yR_putNumber : MethodName := ⟨"ValueBench$Row", "putNumber", "(J)V"⟩
def yR_putPart : MethodName := ⟨"ValueBench$Row", "putPart", "(LValueBench$Row;III)V"⟩
def yR_putText : MethodName := ⟨"ValueBench$Row", "putText", "(LValueBench$Text;)V"⟩
def yR_putTruth : MethodName := ⟨"ValueBench$Row", "putTruth", "(Z)V"⟩
def yR_size : MethodName := ⟨"ValueBench$Row", "size", "()I"⟩
def yR_valueOf : MethodName := ⟨"ValueBench$Row", "valueOf", "(ILValueBench$Row;I)I"⟩
def yS_init : MethodName := ⟨"ValueBench$Sorter", "<init>", "()V"⟩
def yT_init : MethodName := ⟨"ValueBench$Text", "<init>", "()V"⟩
def yT_add : MethodName := ⟨"ValueBench$Text", "add", "(I)V"⟩
def yT_addInt : MethodName := ⟨"ValueBench$Text", "addInt", "(I)V"⟩
def yT_addNumber : MethodName := ⟨"ValueBench$Text", "addNumber", "(J)V"⟩
def yT_addString : MethodName := ⟨"ValueBench$Text", "addString", "(LValueBench$Row;I)V"⟩
def yT_addWord : MethodName := ⟨"ValueBench$Text", "addWord", "(Ljava/lang/String;)V"⟩
def yT_at : MethodName := ⟨"ValueBench$Text", "at", "(I)I"⟩
def yT_clear : MethodName := ⟨"ValueBench$Text", "clear", "()V"⟩
def yT_isOver : MethodName := ⟨"ValueBench$Text", "isOver", "()Z"⟩
def yT_keep : MethodName := ⟨"ValueBench$Text", "keep", "(I)V"⟩
def yT_setOver : MethodName := ⟨"ValueBench$Text", "setOver", "()V"⟩
def yT_size : MethodName := ⟨"ValueBench$Text", "size", "()I"⟩
def yM_init : MethodName := ⟨"ValueBenchModel", "<init>", "()V"⟩
def yJS_charAt : MethodName := ⟨"java/lang/String", "charAt", "(I)C"⟩
def yJS_checkIndex : MethodName := ⟨"java/lang/String", "checkIndex", "(II)V"⟩
def yJS_coder : MethodName := ⟨"java/lang/String", "coder", "()B"⟩
def yJS_isLatin1 : MethodName := ⟨"java/lang/String", "isLatin1", "()Z"⟩
def yJS_length : MethodName := ⟨"java/lang/String", "length", "()I"⟩
def yJT_charAt : MethodName := ⟨"java/lang/StringLatin1", "charAt", "([BI)C"⟩
def yJP_checkIndex : MethodName := ⟨"jdk/internal/util/Preconditions", "checkIndex", "(IILjava/util/function/BiFunction;)I"⟩
def wyB_init : List Cond := .code yB_init prog_1_method_1_code 2 none :: xw
def wyR_init : List Cond := .code yR_init prog_8_method_1_code 1 none :: xw
def wyR_after : List Cond := .code yR_after prog_8_method_11_code 2 (some .int) :: xw
def wyR_cell : List Cond := .code yR_cell prog_8_method_5_code 2 (some .long) :: xw
def wyR_clear : List Cond := .code yR_clear prog_8_method_2_code 1 none :: xw
def wyR_close : List Cond := .code yR_close prog_8_method_26_code 4 none :: xw
def wyR_code : List Cond := .code yR_code prog_8_method_10_code 4 (some .int) :: xw
def wyR_element : List Cond := .code yR_element prog_8_method_12_code 6 (some .int) :: xw
def wyR_hasPart : List Cond := .code yR_hasPart prog_8_method_15_code 7 (some .boolean) :: xw
def wyR_is : List Cond := .code yR_is prog_8_method_7_code 3 (some .boolean) :: xw
def wyR_isOver : List Cond := .code yR_isOver prog_8_method_4_code 1 (some .boolean) :: xw
def wyR_kind : List Cond := .code yR_kind prog_8_method_6_code 2 (some .int) :: xw
def wyR_length : List Cond := .code yR_length prog_8_method_9_code 2 (some .int) :: xw
def wyR_number : List Cond := .code yR_number prog_8_method_8_code 2 (some .long) :: xw
def wyR_open : List Cond := .code yR_open prog_8_method_25_code 1 (some .int) :: xw
def wyR_orderOfStrings : List Cond := .code yR_orderOfStrings prog_8_method_14_code 10 (some .int) :: xw
def wyR_put : List Cond := .code yR_put prog_8_method_16_code 3 none :: xw
def wyR_putCells : List Cond := .code yR_putCells prog_8_method_24_code 4 none :: xw
def wyR_putCopy : List Cond := .code yR_putCopy prog_8_method_22_code 3 none :: xw
def wyR_putInside : List Cond := .code yR_putInside prog_8_method_23_code 3 none :: xw
def wyR_putNull : List Cond := .code yR_putNull prog_8_method_19_code 1 none :: xw
def wyR_putNumber : List Cond := .code yR_putNumber prog_8_method_17_code 3 none :: xw
def wyR_putPart : List Cond := .code yR_putPart prog_8_method_21_code 6 none :: xw
def wyR_putText : List Cond := .code yR_putText prog_8_method_20_code 4 none :: xw
def wyR_putTruth : List Cond := .code yR_putTruth prog_8_method_18_code 2 none :: xw
def wyR_size : List Cond := .code yR_size prog_8_method_3_code 1 (some .int) :: xw
def wyR_valueOf : List Cond := .code yR_valueOf prog_8_method_13_code 7 (some .int) :: xw
def wyS_init : List Cond := .code yS_init prog_10_method_1_code 1 none :: xw
def wyT_init : List Cond := .code yT_init prog_11_method_1_code 1 none :: xw
def wyT_add : List Cond := .code yT_add prog_11_method_8_code 2 none :: xw
def wyT_addInt : List Cond := .code yT_addInt prog_11_method_9_code 3 none :: xw
def wyT_addNumber : List Cond := .code yT_addNumber prog_11_method_12_code 7 none :: xw
def wyT_addString : List Cond := .code yT_addString prog_11_method_11_code 4 none :: xw
def wyT_addWord : List Cond := .code yT_addWord prog_11_method_10_code 3 none :: xw
def wyT_at : List Cond := .code yT_at prog_11_method_7_code 2 (some .int) :: xw
def wyT_clear : List Cond := .code yT_clear prog_11_method_2_code 1 none :: xw
def wyT_isOver : List Cond := .code yT_isOver prog_11_method_5_code 1 (some .boolean) :: xw
def wyT_keep : List Cond := .code yT_keep prog_11_method_3_code 2 none :: xw
def wyT_setOver : List Cond := .code yT_setOver prog_11_method_6_code 1 none :: xw
def wyT_size : List Cond := .code yT_size prog_11_method_4_code 1 (some .int) :: xw
def wyM_init : List Cond := .code yM_init prog_13_method_1_code 3 none :: xw
def wyJS_charAt : List Cond := .code yJS_charAt prog_23_method_56_code 2 (some .char) :: xw
def wyJS_checkIndex : List Cond := .code yJS_checkIndex prog_23_method_155_code 2 none :: xw
def wyJS_coder : List Cond := .code yJS_coder prog_23_method_152_code 1 (some .byte) :: xw
def wyJS_isLatin1 : List Cond := .code yJS_isLatin1 prog_23_method_154_code 1 (some .boolean) :: xw
def wyJS_length : List Cond := .code yJS_length prog_23_method_54_code 1 (some .int) :: xw
def wyJT_charAt : List Cond := .code yJT_charAt prog_24_method_2_code 2 (some .char) :: xw
def wyJP_checkIndex : List Cond := .code yJP_checkIndex prog_29_method_11_code 3 (some .int) :: xw
theorem kw_1_1 : (.initialized "ValueBench" : Cond) ∈ xw := xw_t (x_t1 (List.mem_of_getElem? (i := 1) rfl)) rfl
theorem kw_1_100 : (.fieldLink "ValueBench" 36 "ValueBench" "spare" "LValueBench$Row;" : Cond) ∈ xw := xw_t (x_t1 (List.mem_of_getElem? (i := 100) rfl)) rfl
theorem kw_1_101 : (.fieldLink "ValueBench" 40 "ValueBench" "place" "I" : Cond) ∈ xw := xw_t (x_t1 (List.mem_of_getElem? (i := 101) rfl)) rfl
theorem kw_1_102 : (.fieldLink "ValueBench" 44 "ValueBench" "reason" "I" : Cond) ∈ xw := xw_t (x_t1 (List.mem_of_getElem? (i := 102) rfl)) rfl
theorem kw_1_129 : (.instanceMethod yT_size : Cond) ∈ xw := xw_t (x_t1 (List.mem_of_getElem? (i := 129) rfl)) rfl
theorem kw_1_130 : (.selects "ValueBench$Text" yT_size yT_size : Cond) ∈ xw := xw_t (x_t1 (List.mem_of_getElem? (i := 130) rfl)) rfl
theorem kw_1_131 : (.code yT_size prog_11_method_4_code 1 (some .int) : Cond) ∈ xw := xw_t (x_t1 (List.mem_of_getElem? (i := 131) rfl)) rfl
theorem kw_1_15 : (.initialized "java/lang/Math" : Cond) ∈ xw := xw_t (x_t1 (List.mem_of_getElem? (i := 15) rfl)) rfl
theorem kw_1_2 : (.initialized "ValueBench$Text" : Cond) ∈ xw := xw_t (x_t1 (List.mem_of_getElem? (i := 2) rfl)) rfl
theorem kw_1_203 : (.code yT_addInt prog_11_method_9_code 3 none : Cond) ∈ xw := xw_t (x_t1 (List.mem_of_getElem? (i := 203) rfl)) rfl
theorem kw_1_204 : (.methodLink "ValueBench$Text" 32 yT_add : Cond) ∈ xw := xw_t (x_t1 (List.mem_of_getElem? (i := 204) rfl)) rfl
theorem kw_1_205 : (.instanceMethod yT_add : Cond) ∈ xw := xw_t (x_t1 (List.mem_of_getElem? (i := 205) rfl)) rfl
theorem kw_1_206 : (.selects "ValueBench$Text" yT_add yT_add : Cond) ∈ xw := xw_t (x_t1 (List.mem_of_getElem? (i := 206) rfl)) rfl
theorem kw_1_207 : (.code yT_add prog_11_method_8_code 2 none : Cond) ∈ xw := xw_t (x_t1 (List.mem_of_getElem? (i := 207) rfl)) rfl
theorem kw_1_22 : (.initialized "java/lang/System" : Cond) ∈ xw := xw_t (x_t1 (List.mem_of_getElem? (i := 22) rfl)) rfl
theorem kw_1_29 : (.classLink "ValueBenchLaw" 8 "ValueBench" : Cond) ∈ xw := xw_t (x_t1 (List.mem_of_getElem? (i := 29) rfl)) rfl
theorem kw_1_3 : (.initialized "ValueBench$Sorter" : Cond) ∈ xw := xw_t (x_t1 (List.mem_of_getElem? (i := 3) rfl)) rfl
theorem kw_1_30 : (.instantiable "ValueBench" 8 : Cond) ∈ xw := xw_t (x_t1 (List.mem_of_getElem? (i := 30) rfl)) rfl
theorem kw_1_31 : (.methodLink "ValueBenchLaw" 60 yB_init : Cond) ∈ xw := xw_t (x_t1 (List.mem_of_getElem? (i := 31) rfl)) rfl
theorem kw_1_32 : (.instanceMethod yB_init : Cond) ∈ xw := xw_t (x_t1 (List.mem_of_getElem? (i := 32) rfl)) rfl
theorem kw_1_33 : (.code yB_init prog_1_method_1_code 2 none : Cond) ∈ xw := xw_t (x_t1 (List.mem_of_getElem? (i := 33) rfl)) rfl
theorem kw_1_34 : (.methodLink "ValueBench" 1 objectInit : Cond) ∈ xw := xw_t (x_t1 (List.mem_of_getElem? (i := 34) rfl)) rfl
theorem kw_1_35 : (.instanceMethod objectInit : Cond) ∈ xw := xw_t (x_t1 (List.mem_of_getElem? (i := 35) rfl)) rfl
theorem kw_1_36 : (.code objectInit ⟨#[0xb1]⟩ 1 none : Cond) ∈ xw := xw_t (x_t1 (List.mem_of_getElem? (i := 36) rfl)) rfl
theorem kw_1_37 : (.classLink "ValueBench" 7 "ValueBench$Text" : Cond) ∈ xw := xw_t (x_t1 (List.mem_of_getElem? (i := 37) rfl)) rfl
theorem kw_1_38 : (.instantiable "ValueBench$Text" 3 : Cond) ∈ xw := xw_t (x_t1 (List.mem_of_getElem? (i := 38) rfl)) rfl
theorem kw_1_4 : (.initialized "ValueBench$Row" : Cond) ∈ xw := xw_t (x_t1 (List.mem_of_getElem? (i := 4) rfl)) rfl
theorem kw_1_40 : (.instanceMethod yT_init : Cond) ∈ xw := xw_t (x_t1 (List.mem_of_getElem? (i := 40) rfl)) rfl
theorem kw_1_41 : (.code yT_init prog_11_method_1_code 1 none : Cond) ∈ xw := xw_t (x_t1 (List.mem_of_getElem? (i := 41) rfl)) rfl
theorem kw_1_42 : (.methodLink "ValueBench$Text" 3 objectInit : Cond) ∈ xw := xw_t (x_t1 (List.mem_of_getElem? (i := 42) rfl)) rfl
theorem kw_1_43 : (.fieldLink "ValueBench$Text" 9 "ValueBench$Text" "bytes" "[B" : Cond) ∈ xw := xw_t (x_t1 (List.mem_of_getElem? (i := 43) rfl)) rfl
theorem kw_1_44 : (.fieldLink "ValueBench$Text" 15 "ValueBench$Text" "length" "I" : Cond) ∈ xw := xw_t (x_t1 (List.mem_of_getElem? (i := 44) rfl)) rfl
theorem kw_1_45 : (.fieldLink "ValueBench$Text" 19 "ValueBench$Text" "over" "Z" : Cond) ∈ xw := xw_t (x_t1 (List.mem_of_getElem? (i := 45) rfl)) rfl
theorem kw_1_5 : (.initialized "ValueBenchModel" : Cond) ∈ xw := xw_t (x_t1 (List.mem_of_getElem? (i := 5) rfl)) rfl
theorem kw_1_53 : (.arrayClass .byte : Cond) ∈ xw := xw_t (x_t1 (List.mem_of_getElem? (i := 53) rfl)) rfl
theorem kw_1_54 : (.classLink "ValueBench" 22 "ValueBench$Row" : Cond) ∈ xw := xw_t (x_t1 (List.mem_of_getElem? (i := 54) rfl)) rfl
theorem kw_1_56 : (.classLink "ValueBench" 28 "ValueBench$Sorter" : Cond) ∈ xw := xw_t (x_t1 (List.mem_of_getElem? (i := 56) rfl)) rfl
theorem kw_1_57 : (.instantiable "ValueBench$Sorter" 5 : Cond) ∈ xw := xw_t (x_t1 (List.mem_of_getElem? (i := 57) rfl)) rfl
theorem kw_1_59 : (.instanceMethod yS_init : Cond) ∈ xw := xw_t (x_t1 (List.mem_of_getElem? (i := 59) rfl)) rfl
theorem kw_1_6 : (.initialized "java/lang/String" : Cond) ∈ xw := xw_t (x_t1 (List.mem_of_getElem? (i := 6) rfl)) rfl
theorem kw_1_60 : (.code yS_init prog_10_method_1_code 1 none : Cond) ∈ xw := xw_t (x_t1 (List.mem_of_getElem? (i := 60) rfl)) rfl
theorem kw_1_61 : (.methodLink "ValueBench$Sorter" 3 objectInit : Cond) ∈ xw := xw_t (x_t1 (List.mem_of_getElem? (i := 61) rfl)) rfl
theorem kw_1_62 : (.fieldLink "ValueBench$Sorter" 11 "ValueBench$Sorter" "keyAt" "[I" : Cond) ∈ xw := xw_t (x_t1 (List.mem_of_getElem? (i := 62) rfl)) rfl
theorem kw_1_63 : (.fieldLink "ValueBench$Sorter" 15 "ValueBench$Sorter" "elementAt" "[I" : Cond) ∈ xw := xw_t (x_t1 (List.mem_of_getElem? (i := 63) rfl)) rfl
theorem kw_1_64 : (.fieldLink "ValueBench$Sorter" 18 "ValueBench$Sorter" "turns" "[I" : Cond) ∈ xw := xw_t (x_t1 (List.mem_of_getElem? (i := 64) rfl)) rfl
theorem kw_1_65 : (.fieldLink "ValueBench$Sorter" 21 "ValueBench$Sorter" "merged" "[I" : Cond) ∈ xw := xw_t (x_t1 (List.mem_of_getElem? (i := 65) rfl)) rfl
theorem kw_1_66 : (.fieldLink "ValueBench$Sorter" 24 "ValueBench$Sorter" "total" "I" : Cond) ∈ xw := xw_t (x_t1 (List.mem_of_getElem? (i := 66) rfl)) rfl
theorem kw_1_7 : (.initialized "java/lang/StringLatin1" : Cond) ∈ xw := xw_t (x_t1 (List.mem_of_getElem? (i := 7) rfl)) rfl
theorem kw_1_78 : (.arrayClass .int : Cond) ∈ xw := xw_t (x_t1 (List.mem_of_getElem? (i := 78) rfl)) rfl
theorem kw_1_79 : (.instantiable "ValueBench$Row" 3 : Cond) ∈ xw := xw_t (x_t1 (List.mem_of_getElem? (i := 79) rfl)) rfl
theorem kw_1_8 : (.initialized "jdk/internal/util/Preconditions" : Cond) ∈ xw := xw_t (x_t1 (List.mem_of_getElem? (i := 8) rfl)) rfl
theorem kw_1_81 : (.instanceMethod yR_init : Cond) ∈ xw := xw_t (x_t1 (List.mem_of_getElem? (i := 81) rfl)) rfl
theorem kw_1_82 : (.code yR_init prog_8_method_1_code 1 none : Cond) ∈ xw := xw_t (x_t1 (List.mem_of_getElem? (i := 82) rfl)) rfl
theorem kw_1_83 : (.methodLink "ValueBench$Row" 3 objectInit : Cond) ∈ xw := xw_t (x_t1 (List.mem_of_getElem? (i := 83) rfl)) rfl
theorem kw_1_84 : (.fieldLink "ValueBench$Row" 9 "ValueBench$Row" "cells" "[J" : Cond) ∈ xw := xw_t (x_t1 (List.mem_of_getElem? (i := 84) rfl)) rfl
theorem kw_1_85 : (.fieldLink "ValueBench$Row" 15 "ValueBench$Row" "size" "I" : Cond) ∈ xw := xw_t (x_t1 (List.mem_of_getElem? (i := 85) rfl)) rfl
theorem kw_1_86 : (.fieldLink "ValueBench$Row" 19 "ValueBench$Row" "over" "Z" : Cond) ∈ xw := xw_t (x_t1 (List.mem_of_getElem? (i := 86) rfl)) rfl
theorem kw_1_94 : (.arrayClass .long : Cond) ∈ xw := xw_t (x_t1 (List.mem_of_getElem? (i := 94) rfl)) rfl
theorem kw_1_95 : (.fieldLink "ValueBench" 10 "ValueBench" "tape" "LValueBench$Text;" : Cond) ∈ xw := xw_t (x_t1 (List.mem_of_getElem? (i := 95) rfl)) rfl
theorem kw_1_96 : (.fieldLink "ValueBench" 16 "ValueBench" "result" "LValueBench$Text;" : Cond) ∈ xw := xw_t (x_t1 (List.mem_of_getElem? (i := 96) rfl)) rfl
theorem kw_1_97 : (.fieldLink "ValueBench" 19 "ValueBench" "scratch" "LValueBench$Text;" : Cond) ∈ xw := xw_t (x_t1 (List.mem_of_getElem? (i := 97) rfl)) rfl
theorem kw_1_98 : (.fieldLink "ValueBench" 24 "ValueBench" "registers" "[LValueBench$Row;" : Cond) ∈ xw := xw_t (x_t1 (List.mem_of_getElem? (i := 98) rfl)) rfl
theorem kw_1_99 : (.fieldLink "ValueBench" 31 "ValueBench" "sorter" "LValueBench$Sorter;" : Cond) ∈ xw := xw_t (x_t1 (List.mem_of_getElem? (i := 99) rfl)) rfl
theorem kw_2_1 : (.code yT_keep prog_11_method_3_code 2 none : Cond) ∈ xw := xw_t (x_t2 (List.mem_of_getElem? (i := 1) rfl)) rfl
theorem kw_2_124 : (.instanceMethod yR_put : Cond) ∈ xw := xw_t (x_t2 (List.mem_of_getElem? (i := 124) rfl)) rfl
theorem kw_2_125 : (.selects "ValueBench$Row" yR_put yR_put : Cond) ∈ xw := xw_t (x_t2 (List.mem_of_getElem? (i := 125) rfl)) rfl
theorem kw_2_126 : (.code yR_put prog_8_method_16_code 3 none : Cond) ∈ xw := xw_t (x_t2 (List.mem_of_getElem? (i := 126) rfl)) rfl
theorem kw_2_134 : (.instanceMethod yR_open : Cond) ∈ xw := xw_t (x_t2 (List.mem_of_getElem? (i := 134) rfl)) rfl
theorem kw_2_135 : (.selects "ValueBench$Row" yR_open yR_open : Cond) ∈ xw := xw_t (x_t2 (List.mem_of_getElem? (i := 135) rfl)) rfl
theorem kw_2_136 : (.code yR_open prog_8_method_25_code 1 (some .int) : Cond) ∈ xw := xw_t (x_t2 (List.mem_of_getElem? (i := 136) rfl)) rfl
theorem kw_2_137 : (.methodLink "ValueBench$Row" 52 yR_put : Cond) ∈ xw := xw_t (x_t2 (List.mem_of_getElem? (i := 137) rfl)) rfl
theorem kw_2_163 : (.code yR_size prog_8_method_3_code 1 (some .int) : Cond) ∈ xw := xw_t (x_t2 (List.mem_of_getElem? (i := 163) rfl)) rfl
theorem kw_2_165 : (.instanceMethod yR_close : Cond) ∈ xw := xw_t (x_t2 (List.mem_of_getElem? (i := 165) rfl)) rfl
theorem kw_2_166 : (.selects "ValueBench$Row" yR_close yR_close : Cond) ∈ xw := xw_t (x_t2 (List.mem_of_getElem? (i := 166) rfl)) rfl
theorem kw_2_167 : (.code yR_close prog_8_method_26_code 4 none : Cond) ∈ xw := xw_t (x_t2 (List.mem_of_getElem? (i := 167) rfl)) rfl
theorem kw_2_187 : (.code yR_valueOf prog_8_method_13_code 7 (some .int) : Cond) ∈ xw := xw_t (x_t2 (List.mem_of_getElem? (i := 187) rfl)) rfl
theorem kw_2_188 : (.methodLink "ValueBench$Row" 32 yR_length : Cond) ∈ xw := xw_t (x_t2 (List.mem_of_getElem? (i := 188) rfl)) rfl
theorem kw_2_189 : (.instanceMethod yR_length : Cond) ∈ xw := xw_t (x_t2 (List.mem_of_getElem? (i := 189) rfl)) rfl
theorem kw_2_190 : (.selects "ValueBench$Row" yR_length yR_length : Cond) ∈ xw := xw_t (x_t2 (List.mem_of_getElem? (i := 190) rfl)) rfl
theorem kw_2_191 : (.code yR_length prog_8_method_9_code 2 (some .int) : Cond) ∈ xw := xw_t (x_t2 (List.mem_of_getElem? (i := 191) rfl)) rfl
theorem kw_2_192 : (.constant "ValueBench$Row" 27 65535 : Cond) ∈ xw := xw_t (x_t2 (List.mem_of_getElem? (i := 192) rfl)) rfl
theorem kw_2_193 : (.methodLink "ValueBench$Row" 35 yR_after : Cond) ∈ xw := xw_t (x_t2 (List.mem_of_getElem? (i := 193) rfl)) rfl
theorem kw_2_194 : (.instanceMethod yR_after : Cond) ∈ xw := xw_t (x_t2 (List.mem_of_getElem? (i := 194) rfl)) rfl
theorem kw_2_195 : (.selects "ValueBench$Row" yR_after yR_after : Cond) ∈ xw := xw_t (x_t2 (List.mem_of_getElem? (i := 195) rfl)) rfl
theorem kw_2_196 : (.code yR_after prog_8_method_11_code 2 (some .int) : Cond) ∈ xw := xw_t (x_t2 (List.mem_of_getElem? (i := 196) rfl)) rfl
theorem kw_2_197 : (.constantLong "ValueBench$Row" 28 7 : Cond) ∈ xw := xw_t (x_t2 (List.mem_of_getElem? (i := 197) rfl)) rfl
theorem kw_2_198 : (.constantLong "ValueBench$Row" 30 4 : Cond) ∈ xw := xw_t (x_t2 (List.mem_of_getElem? (i := 198) rfl)) rfl
theorem kw_2_199 : (.methodLink "ValueBench$Row" 38 yR_cell : Cond) ∈ xw := xw_t (x_t2 (List.mem_of_getElem? (i := 199) rfl)) rfl
theorem kw_2_2 : (.methodLink "ValueBench$Text" 23 Lib.Math.min.name : Cond) ∈ xw := xw_t (x_t2 (List.mem_of_getElem? (i := 2) rfl)) rfl
theorem kw_2_200 : (.instanceMethod yR_cell : Cond) ∈ xw := xw_t (x_t2 (List.mem_of_getElem? (i := 200) rfl)) rfl
theorem kw_2_201 : (.selects "ValueBench$Row" yR_cell yR_cell : Cond) ∈ xw := xw_t (x_t2 (List.mem_of_getElem? (i := 201) rfl)) rfl
theorem kw_2_202 : (.code yR_cell prog_8_method_5_code 2 (some .long) : Cond) ∈ xw := xw_t (x_t2 (List.mem_of_getElem? (i := 202) rfl)) rfl
theorem kw_2_203 : (.methodLink "ValueBench$Row" 42 yR_orderOfStrings : Cond) ∈ xw := xw_t (x_t2 (List.mem_of_getElem? (i := 203) rfl)) rfl
theorem kw_2_204 : (.instanceMethod yR_orderOfStrings : Cond) ∈ xw := xw_t (x_t2 (List.mem_of_getElem? (i := 204) rfl)) rfl
theorem kw_2_205 : (.selects "ValueBench$Row" yR_orderOfStrings yR_orderOfStrings : Cond) ∈ xw := xw_t (x_t2 (List.mem_of_getElem? (i := 205) rfl)) rfl
theorem kw_2_206 : (.code yR_orderOfStrings prog_8_method_14_code 10 (some .int) : Cond) ∈ xw := xw_t (x_t2 (List.mem_of_getElem? (i := 206) rfl)) rfl
theorem kw_2_22 : (.code yR_clear prog_8_method_2_code 1 none : Cond) ∈ xw := xw_t (x_t2 (List.mem_of_getElem? (i := 22) rfl)) rfl
theorem kw_2_228 : (.code yR_putNumber prog_8_method_17_code 3 none : Cond) ∈ xw := xw_t (x_t2 (List.mem_of_getElem? (i := 228) rfl)) rfl
theorem kw_2_229 : (.constantLong "ValueBench$Row" 50 3 : Cond) ∈ xw := xw_t (x_t2 (List.mem_of_getElem? (i := 229) rfl)) rfl
theorem kw_2_237 : (.code yT_clear prog_11_method_2_code 1 none : Cond) ∈ xw := xw_t (x_t2 (List.mem_of_getElem? (i := 237) rfl)) rfl
theorem kw_2_3 : (.static Lib.Math.min.name : Cond) ∈ xw := xw_t (x_t2 (List.mem_of_getElem? (i := 3) rfl)) rfl
theorem kw_2_4 : (.code Lib.Math.min.name Lib.Math.min.code 2 (some .int) : Cond) ∈ xw := xw_t (x_t2 (List.mem_of_getElem? (i := 4) rfl)) rfl
theorem kw_2_5 : (.methodLink "ValueBench$Text" 29 Lib.Math.max.name : Cond) ∈ xw := xw_t (x_t2 (List.mem_of_getElem? (i := 5) rfl)) rfl
theorem kw_2_56 : (.instanceMethod yT_at : Cond) ∈ xw := xw_t (x_t2 (List.mem_of_getElem? (i := 56) rfl)) rfl
theorem kw_2_57 : (.selects "ValueBench$Text" yT_at yT_at : Cond) ∈ xw := xw_t (x_t2 (List.mem_of_getElem? (i := 57) rfl)) rfl
theorem kw_2_58 : (.code yT_at prog_11_method_7_code 2 (some .int) : Cond) ∈ xw := xw_t (x_t2 (List.mem_of_getElem? (i := 58) rfl)) rfl
theorem kw_2_6 : (.static Lib.Math.max.name : Cond) ∈ xw := xw_t (x_t2 (List.mem_of_getElem? (i := 6) rfl)) rfl
theorem kw_2_68 : (.instanceMethod yJS_length : Cond) ∈ xw := xw_t (x_t2 (List.mem_of_getElem? (i := 68) rfl)) rfl
theorem kw_2_69 : (.selects "java/lang/String" yJS_length yJS_length : Cond) ∈ xw := xw_t (x_t2 (List.mem_of_getElem? (i := 69) rfl)) rfl
theorem kw_2_7 : (.code Lib.Math.max.name Lib.Math.max.code 2 (some .int) : Cond) ∈ xw := xw_t (x_t2 (List.mem_of_getElem? (i := 7) rfl)) rfl
theorem kw_2_70 : (.code yJS_length prog_23_method_54_code 1 (some .int) : Cond) ∈ xw := xw_t (x_t2 (List.mem_of_getElem? (i := 70) rfl)) rfl
theorem kw_2_71 : (.methodLink "java/lang/String" 335 yJS_coder : Cond) ∈ xw := xw_t (x_t2 (List.mem_of_getElem? (i := 71) rfl)) rfl
theorem kw_2_72 : (.instanceMethod yJS_coder : Cond) ∈ xw := xw_t (x_t2 (List.mem_of_getElem? (i := 72) rfl)) rfl
theorem kw_2_73 : (.selects "java/lang/String" yJS_coder yJS_coder : Cond) ∈ xw := xw_t (x_t2 (List.mem_of_getElem? (i := 73) rfl)) rfl
theorem kw_2_74 : (.code yJS_coder prog_23_method_152_code 1 (some .byte) : Cond) ∈ xw := xw_t (x_t2 (List.mem_of_getElem? (i := 74) rfl)) rfl
theorem kw_2_75 : (.fieldLink "java/lang/String" 38 "java/lang/String" "COMPACT_STRINGS" "Z" : Cond) ∈ xw := xw_t (x_t2 (List.mem_of_getElem? (i := 75) rfl)) rfl
theorem kw_2_78 : (.instanceMethod yJS_charAt : Cond) ∈ xw := xw_t (x_t2 (List.mem_of_getElem? (i := 78) rfl)) rfl
theorem kw_2_79 : (.selects "java/lang/String" yJS_charAt yJS_charAt : Cond) ∈ xw := xw_t (x_t2 (List.mem_of_getElem? (i := 79) rfl)) rfl
theorem kw_2_80 : (.code yJS_charAt prog_23_method_56_code 2 (some .char) : Cond) ∈ xw := xw_t (x_t2 (List.mem_of_getElem? (i := 80) rfl)) rfl
theorem kw_2_81 : (.methodLink "java/lang/String" 492 yJS_isLatin1 : Cond) ∈ xw := xw_t (x_t2 (List.mem_of_getElem? (i := 81) rfl)) rfl
theorem kw_2_82 : (.instanceMethod yJS_isLatin1 : Cond) ∈ xw := xw_t (x_t2 (List.mem_of_getElem? (i := 82) rfl)) rfl
theorem kw_2_83 : (.selects "java/lang/String" yJS_isLatin1 yJS_isLatin1 : Cond) ∈ xw := xw_t (x_t2 (List.mem_of_getElem? (i := 83) rfl)) rfl
theorem kw_2_84 : (.code yJS_isLatin1 prog_23_method_154_code 1 (some .boolean) : Cond) ∈ xw := xw_t (x_t2 (List.mem_of_getElem? (i := 84) rfl)) rfl
theorem kw_2_85 : (.methodLink "java/lang/String" 495 yJT_charAt : Cond) ∈ xw := xw_t (x_t2 (List.mem_of_getElem? (i := 85) rfl)) rfl
theorem kw_2_86 : (.static yJT_charAt : Cond) ∈ xw := xw_t (x_t2 (List.mem_of_getElem? (i := 86) rfl)) rfl
theorem kw_2_87 : (.code yJT_charAt prog_24_method_2_code 2 (some .char) : Cond) ∈ xw := xw_t (x_t2 (List.mem_of_getElem? (i := 87) rfl)) rfl
theorem kw_2_88 : (.methodLink "java/lang/StringLatin1" 9 yJS_checkIndex : Cond) ∈ xw := xw_t (x_t2 (List.mem_of_getElem? (i := 88) rfl)) rfl
theorem kw_2_89 : (.static yJS_checkIndex : Cond) ∈ xw := xw_t (x_t2 (List.mem_of_getElem? (i := 89) rfl)) rfl
theorem kw_2_90 : (.code yJS_checkIndex prog_23_method_155_code 2 none : Cond) ∈ xw := xw_t (x_t2 (List.mem_of_getElem? (i := 90) rfl)) rfl
theorem kw_2_91 : (.fieldLink "java/lang/String" 1053 "jdk/internal/util/Preconditions" "SIOOBE_FORMATTER" "Ljava/util/function/BiFunction;" : Cond) ∈ xw := xw_t (x_t2 (List.mem_of_getElem? (i := 91) rfl)) rfl
theorem kw_2_93 : (.methodLink "java/lang/String" 1059 yJP_checkIndex : Cond) ∈ xw := xw_t (x_t2 (List.mem_of_getElem? (i := 93) rfl)) rfl
theorem kw_2_94 : (.static yJP_checkIndex : Cond) ∈ xw := xw_t (x_t2 (List.mem_of_getElem? (i := 94) rfl)) rfl
theorem kw_2_95 : (.code yJP_checkIndex prog_29_method_11_code 3 (some .int) : Cond) ∈ xw := xw_t (x_t2 (List.mem_of_getElem? (i := 95) rfl)) rfl
theorem kw_3_126 : (.code yR_putCopy prog_8_method_22_code 3 none : Cond) ∈ xw := xw_t (x_t3 (List.mem_of_getElem? (i := 126) rfl)) rfl
theorem kw_3_127 : (.methodLink "ValueBench$Row" 77 yR_putCells : Cond) ∈ xw := xw_t (x_t3 (List.mem_of_getElem? (i := 127) rfl)) rfl
theorem kw_3_129 : (.instanceMethod yR_putCells : Cond) ∈ xw := xw_t (x_t3 (List.mem_of_getElem? (i := 129) rfl)) rfl
theorem kw_3_130 : (.code yR_putCells prog_8_method_24_code 4 none : Cond) ∈ xw := xw_t (x_t3 (List.mem_of_getElem? (i := 130) rfl)) rfl
theorem kw_3_131 : (.methodLink "ValueBench$Row" 81 arraycopyName : Cond) ∈ xw := xw_t (x_t3 (List.mem_of_getElem? (i := 131) rfl)) rfl
theorem kw_3_132 : (.static arraycopyName : Cond) ∈ xw := xw_t (x_t3 (List.mem_of_getElem? (i := 132) rfl)) rfl
theorem kw_3_133 : (.native arraycopyName : Cond) ∈ xw := xw_t (x_t3 (List.mem_of_getElem? (i := 133) rfl)) rfl
theorem kw_3_142 : (.code yR_putInside prog_8_method_23_code 3 none : Cond) ∈ xw := xw_t (x_t3 (List.mem_of_getElem? (i := 142) rfl)) rfl
theorem kw_3_196 : (.code yR_putNull prog_8_method_19_code 1 none : Cond) ∈ xw := xw_t (x_t3 (List.mem_of_getElem? (i := 196) rfl)) rfl
theorem kw_3_208 : (.code yR_putPart prog_8_method_21_code 6 none : Cond) ∈ xw := xw_t (x_t3 (List.mem_of_getElem? (i := 208) rfl)) rfl
theorem kw_3_209 : (.methodLink "ValueBench$Row" 58 yR_open : Cond) ∈ xw := xw_t (x_t3 (List.mem_of_getElem? (i := 209) rfl)) rfl
theorem kw_3_210 : (.methodLink "ValueBench$Row" 69 yR_close : Cond) ∈ xw := xw_t (x_t3 (List.mem_of_getElem? (i := 210) rfl)) rfl
theorem kw_3_217 : (.code yR_hasPart prog_8_method_15_code 7 (some .boolean) : Cond) ∈ xw := xw_t (x_t3 (List.mem_of_getElem? (i := 217) rfl)) rfl
theorem kw_3_218 : (.methodLink "ValueBench$Row" 46 yR_code : Cond) ∈ xw := xw_t (x_t3 (List.mem_of_getElem? (i := 218) rfl)) rfl
theorem kw_3_22 : (.instanceMethod yR_kind : Cond) ∈ xw := xw_t (x_t3 (List.mem_of_getElem? (i := 22) rfl)) rfl
theorem kw_3_23 : (.selects "ValueBench$Row" yR_kind yR_kind : Cond) ∈ xw := xw_t (x_t3 (List.mem_of_getElem? (i := 23) rfl)) rfl
theorem kw_3_24 : (.code yR_kind prog_8_method_6_code 2 (some .int) : Cond) ∈ xw := xw_t (x_t3 (List.mem_of_getElem? (i := 24) rfl)) rfl
theorem kw_3_29 : (.code yT_addWord prog_11_method_10_code 3 none : Cond) ∈ xw := xw_t (x_t3 (List.mem_of_getElem? (i := 29) rfl)) rfl
theorem kw_3_30 : (.methodLink "ValueBench$Text" 36 yJS_length : Cond) ∈ xw := xw_t (x_t3 (List.mem_of_getElem? (i := 30) rfl)) rfl
theorem kw_3_31 : (.methodLink "ValueBench$Text" 41 yJS_charAt : Cond) ∈ xw := xw_t (x_t3 (List.mem_of_getElem? (i := 31) rfl)) rfl
theorem kw_3_37 : (.code yR_number prog_8_method_8_code 2 (some .long) : Cond) ∈ xw := xw_t (x_t3 (List.mem_of_getElem? (i := 37) rfl)) rfl
theorem kw_3_41 : (.code yT_addNumber prog_11_method_12_code 7 none : Cond) ∈ xw := xw_t (x_t3 (List.mem_of_getElem? (i := 41) rfl)) rfl
theorem kw_3_42 : (.methodLink "ValueBench$Text" 53 Lib.MathLoose.abs_long.x : Cond) ∈ xw := xw_t (x_t3 (List.mem_of_getElem? (i := 42) rfl)) rfl
theorem kw_3_43 : (.static Lib.MathLoose.abs_long.x : Cond) ∈ xw := xw_t (x_t3 (List.mem_of_getElem? (i := 43) rfl)) rfl
theorem kw_3_44 : (.code Lib.MathLoose.abs_long.x Lib.MathLoose.abs_long.code 2 (some .long) : Cond) ∈ xw := xw_t (x_t3 (List.mem_of_getElem? (i := 44) rfl)) rfl
theorem kw_3_45 : (.constantLong "ValueBench$Text" 57 900719925474099 : Cond) ∈ xw := xw_t (x_t3 (List.mem_of_getElem? (i := 45) rfl)) rfl
theorem kw_3_46 : (.constantLong "ValueBench$Text" 59 10 : Cond) ∈ xw := xw_t (x_t3 (List.mem_of_getElem? (i := 46) rfl)) rfl
theorem kw_3_47 : (.constantLong "ValueBench$Text" 61 48 : Cond) ∈ xw := xw_t (x_t3 (List.mem_of_getElem? (i := 47) rfl)) rfl
theorem kw_3_54 : (.instanceMethod yR_code : Cond) ∈ xw := xw_t (x_t3 (List.mem_of_getElem? (i := 54) rfl)) rfl
theorem kw_3_55 : (.selects "ValueBench$Row" yR_code yR_code : Cond) ∈ xw := xw_t (x_t3 (List.mem_of_getElem? (i := 55) rfl)) rfl
theorem kw_3_56 : (.code yR_code prog_8_method_10_code 4 (some .int) : Cond) ∈ xw := xw_t (x_t3 (List.mem_of_getElem? (i := 56) rfl)) rfl
theorem kw_3_71 : (.code yT_setOver prog_11_method_6_code 1 none : Cond) ∈ xw := xw_t (x_t3 (List.mem_of_getElem? (i := 71) rfl)) rfl
theorem kw_3_75 : (.code yR_is prog_8_method_7_code 3 (some .boolean) : Cond) ∈ xw := xw_t (x_t3 (List.mem_of_getElem? (i := 75) rfl)) rfl
theorem kw_3_76 : (.methodLink "ValueBench$Row" 23 yR_kind : Cond) ∈ xw := xw_t (x_t3 (List.mem_of_getElem? (i := 76) rfl)) rfl
theorem kw_3_82 : (.code yR_isOver prog_8_method_4_code 1 (some .boolean) : Cond) ∈ xw := xw_t (x_t3 (List.mem_of_getElem? (i := 82) rfl)) rfl
theorem kw_3_84 : (.instanceMethod yT_isOver : Cond) ∈ xw := xw_t (x_t3 (List.mem_of_getElem? (i := 84) rfl)) rfl
theorem kw_3_85 : (.selects "ValueBench$Text" yT_isOver yT_isOver : Cond) ∈ xw := xw_t (x_t3 (List.mem_of_getElem? (i := 85) rfl)) rfl
theorem kw_3_86 : (.code yT_isOver prog_11_method_5_code 1 (some .boolean) : Cond) ∈ xw := xw_t (x_t3 (List.mem_of_getElem? (i := 86) rfl)) rfl
theorem kw_4_100 : (.methodLink "ValueBench$Text" 45 yR_length : Cond) ∈ xw := xw_t (x_t4 (List.mem_of_getElem? (i := 100) rfl)) rfl
theorem kw_4_101 : (.methodLink "ValueBench$Text" 50 yR_code : Cond) ∈ xw := xw_t (x_t4 (List.mem_of_getElem? (i := 101) rfl)) rfl
theorem kw_4_33 : (.code yR_putTruth prog_8_method_18_code 2 none : Cond) ∈ xw := xw_t (x_t4 (List.mem_of_getElem? (i := 33) rfl)) rfl
theorem kw_4_34 : (.constantLong "ValueBench$Row" 56 2 : Cond) ∈ xw := xw_t (x_t4 (List.mem_of_getElem? (i := 34) rfl)) rfl
theorem kw_4_86 : (.code yR_putText prog_8_method_20_code 4 none : Cond) ∈ xw := xw_t (x_t4 (List.mem_of_getElem? (i := 86) rfl)) rfl
theorem kw_4_87 : (.methodLink "ValueBench$Row" 62 yT_size : Cond) ∈ xw := xw_t (x_t4 (List.mem_of_getElem? (i := 87) rfl)) rfl
theorem kw_4_88 : (.methodLink "ValueBench$Row" 66 yT_at : Cond) ∈ xw := xw_t (x_t4 (List.mem_of_getElem? (i := 88) rfl)) rfl
theorem kw_4_89 : (.methodLink "ValueBench$Row" 73 yT_isOver : Cond) ∈ xw := xw_t (x_t4 (List.mem_of_getElem? (i := 89) rfl)) rfl
theorem kw_4_99 : (.code yT_addString prog_11_method_11_code 4 none : Cond) ∈ xw := xw_t (x_t4 (List.mem_of_getElem? (i := 99) rfl)) rfl
theorem kw_5_100 : (.fieldLink "ValueBenchModel" 31 "ValueBenchModel" "index" "[I" : Cond) ∈ xw := xw_t (x_t5 (List.mem_of_getElem? (i := 100) rfl)) rfl
theorem kw_5_101 : (.fieldLink "ValueBenchModel" 35 "ValueBenchModel" "other" "[I" : Cond) ∈ xw := xw_t (x_t5 (List.mem_of_getElem? (i := 101) rfl)) rfl
theorem kw_5_106 : (.fieldLink "ValueBenchModel" 38 "ValueBenchModel" "mostOpen" "I" : Cond) ∈ xw := xw_t (x_t5 (List.mem_of_getElem? (i := 106) rfl)) rfl
theorem kw_5_107 : (.fieldLink "ValueBenchModel" 42 "ValueBenchModel" "place" "I" : Cond) ∈ xw := xw_t (x_t5 (List.mem_of_getElem? (i := 107) rfl)) rfl
theorem kw_5_108 : (.fieldLink "ValueBenchModel" 45 "ValueBenchModel" "printed" "[B" : Cond) ∈ xw := xw_t (x_t5 (List.mem_of_getElem? (i := 108) rfl)) rfl
theorem kw_5_11 : (.code yR_element prog_8_method_12_code 6 (some .int) : Cond) ∈ xw := xw_t (x_t5 (List.mem_of_getElem? (i := 11) rfl)) rfl
theorem kw_5_110 : (.fieldLink "ValueBenchModel" 49 "ValueBenchModel" "mostPrinted" "I" : Cond) ∈ xw := xw_t (x_t5 (List.mem_of_getElem? (i := 110) rfl)) rfl
theorem kw_5_111 : (.fieldLink "ValueBenchModel" 54 "ValueBenchModel" "registers" "[[B" : Cond) ∈ xw := xw_t (x_t5 (List.mem_of_getElem? (i := 111) rfl)) rfl
theorem kw_5_112 : (.fieldLink "ValueBenchModel" 57 "ValueBenchModel" "registerSizes" "[I" : Cond) ∈ xw := xw_t (x_t5 (List.mem_of_getElem? (i := 112) rfl)) rfl
theorem kw_5_113 : (.fieldLink "ValueBenchModel" 60 "ValueBenchModel" "tape" "[B" : Cond) ∈ xw := xw_t (x_t5 (List.mem_of_getElem? (i := 113) rfl)) rfl
theorem kw_5_115 : (.fieldLink "ValueBenchModel" 63 "ValueBenchModel" "result" "[B" : Cond) ∈ xw := xw_t (x_t5 (List.mem_of_getElem? (i := 115) rfl)) rfl
theorem kw_5_118 : (.fieldLink "ValueBenchModel" 66 "ValueBenchModel" "readPlace" "I" : Cond) ∈ xw := xw_t (x_t5 (List.mem_of_getElem? (i := 118) rfl)) rfl
theorem kw_5_74 : (.classLink "ValueBenchLaw" 61 "ValueBenchModel" : Cond) ∈ xw := xw_t (x_t5 (List.mem_of_getElem? (i := 74) rfl)) rfl
theorem kw_5_75 : (.instantiable "ValueBenchModel" 32 : Cond) ∈ xw := xw_t (x_t5 (List.mem_of_getElem? (i := 75) rfl)) rfl
theorem kw_5_76 : (.methodLink "ValueBenchLaw" 63 yM_init : Cond) ∈ xw := xw_t (x_t5 (List.mem_of_getElem? (i := 76) rfl)) rfl
theorem kw_5_77 : (.instanceMethod yM_init : Cond) ∈ xw := xw_t (x_t5 (List.mem_of_getElem? (i := 77) rfl)) rfl
theorem kw_5_78 : (.code yM_init prog_13_method_1_code 3 none : Cond) ∈ xw := xw_t (x_t5 (List.mem_of_getElem? (i := 78) rfl)) rfl
theorem kw_5_79 : (.methodLink "ValueBenchModel" 1 objectInit : Cond) ∈ xw := xw_t (x_t5 (List.mem_of_getElem? (i := 79) rfl)) rfl
theorem kw_5_80 : (.classLink "ValueBenchModel" 7 "ValueBenchModel$V" : Cond) ∈ xw := xw_t (x_t5 (List.mem_of_getElem? (i := 80) rfl)) rfl
theorem kw_5_82 : (.constant "ValueBenchModel" 48 1000000000 : Cond) ∈ xw := xw_t (x_t5 (List.mem_of_getElem? (i := 82) rfl)) rfl
theorem kw_5_83 : (.classLink "ValueBenchModel" 52 "[[B" : Cond) ∈ xw := xw_t (x_t5 (List.mem_of_getElem? (i := 83) rfl)) rfl
theorem kw_5_86 : (.methodLink "ValueBenchModel" 71 yJS_charAt : Cond) ∈ xw := xw_t (x_t5 (List.mem_of_getElem? (i := 86) rfl)) rfl
theorem kw_5_88 : (.fieldLink "ValueBenchModel" 9 "ValueBenchModel" "made" "[LValueBenchModel$V;" : Cond) ∈ xw := xw_t (x_t5 (List.mem_of_getElem? (i := 88) rfl)) rfl
theorem kw_5_90 : (.fieldLink "ValueBenchModel" 15 "ValueBenchModel" "chars" "[B" : Cond) ∈ xw := xw_t (x_t5 (List.mem_of_getElem? (i := 90) rfl)) rfl
theorem kw_5_92 : (.fieldLink "ValueBenchModel" 19 "ValueBenchModel" "kids" "[LValueBenchModel$V;" : Cond) ∈ xw := xw_t (x_t5 (List.mem_of_getElem? (i := 92) rfl)) rfl
theorem kw_5_93 : (.fieldLink "ValueBenchModel" 22 "ValueBenchModel" "names" "[LValueBenchModel$V;" : Cond) ∈ xw := xw_t (x_t5 (List.mem_of_getElem? (i := 93) rfl)) rfl
theorem kw_5_97 : (.fieldLink "ValueBenchModel" 25 "ValueBenchModel" "waitKids" "[LValueBenchModel$V;" : Cond) ∈ xw := xw_t (x_t5 (List.mem_of_getElem? (i := 97) rfl)) rfl
theorem kw_5_98 : (.fieldLink "ValueBenchModel" 28 "ValueBenchModel" "waitNames" "[LValueBenchModel$V;" : Cond) ∈ xw := xw_t (x_t5 (List.mem_of_getElem? (i := 98) rfl)) rfl
theorem kw_7_133 : (.fieldLink "java/lang/String" 15 "java/lang/String" "coder" "B" : Cond) ∈ xw := xw_t (x_t7 (List.mem_of_getElem? (i := 133) rfl)) rfl
theorem kw_7_134 : (.fieldLink "java/lang/String" 9 "java/lang/String" "value" "[B" : Cond) ∈ xw := xw_t (x_t7 (List.mem_of_getElem? (i := 134) rfl)) rfl
theorem kp_R_putCells : (.selects "ValueBench$Row" yR_putCells yR_putCells : Cond) ∈ xw := xw_p (List.mem_map.mpr ⟨(yR_putCells, 3), List.mem_append_right _ (List.mem_append_left _ (List.mem_of_getElem? (i := 4) rfl)), rfl⟩) rfl
theorem dB_init_0 : decode prog_1_method_1_code 0 = .ok (.aload_n 0, 1) := by decide +kernel
theorem dB_init_1 : decode prog_1_method_1_code 1 = .ok (.invokespecial 1, 3) := by decide +kernel
theorem dB_init_4 : decode prog_1_method_1_code 4 = .ok (.aload_n 0, 1) := by decide +kernel
theorem dB_init_5 : decode prog_1_method_1_code 5 = .ok (.new 7, 3) := by decide +kernel
theorem dB_init_8 : decode prog_1_method_1_code 8 = .ok (.dup, 1) := by decide +kernel
theorem dB_init_9 : decode prog_1_method_1_code 9 = .ok (.invokespecial 9, 3) := by decide +kernel
theorem dB_init_12 : decode prog_1_method_1_code 12 = .ok (.putfield 10, 3) := by decide +kernel
theorem dB_init_15 : decode prog_1_method_1_code 15 = .ok (.aload_n 0, 1) := by decide +kernel
theorem dB_init_16 : decode prog_1_method_1_code 16 = .ok (.new 7, 3) := by decide +kernel
theorem dB_init_19 : decode prog_1_method_1_code 19 = .ok (.dup, 1) := by decide +kernel
theorem dB_init_20 : decode prog_1_method_1_code 20 = .ok (.invokespecial 9, 3) := by decide +kernel
theorem dB_init_23 : decode prog_1_method_1_code 23 = .ok (.putfield 16, 3) := by decide +kernel
theorem dB_init_26 : decode prog_1_method_1_code 26 = .ok (.aload_n 0, 1) := by decide +kernel
theorem dB_init_27 : decode prog_1_method_1_code 27 = .ok (.new 7, 3) := by decide +kernel
theorem dB_init_30 : decode prog_1_method_1_code 30 = .ok (.dup, 1) := by decide +kernel
theorem dB_init_31 : decode prog_1_method_1_code 31 = .ok (.invokespecial 9, 3) := by decide +kernel
theorem dB_init_34 : decode prog_1_method_1_code 34 = .ok (.putfield 19, 3) := by decide +kernel
theorem dB_init_37 : decode prog_1_method_1_code 37 = .ok (.aload_n 0, 1) := by decide +kernel
theorem dB_init_38 : decode prog_1_method_1_code 38 = .ok (.bipush 8, 2) := by decide +kernel
theorem dB_init_40 : decode prog_1_method_1_code 40 = .ok (.anewarray 22, 3) := by decide +kernel
theorem dB_init_43 : decode prog_1_method_1_code 43 = .ok (.putfield 24, 3) := by decide +kernel
theorem dB_init_46 : decode prog_1_method_1_code 46 = .ok (.aload_n 0, 1) := by decide +kernel
theorem dB_init_47 : decode prog_1_method_1_code 47 = .ok (.new 28, 3) := by decide +kernel
theorem dB_init_50 : decode prog_1_method_1_code 50 = .ok (.dup, 1) := by decide +kernel
theorem dB_init_51 : decode prog_1_method_1_code 51 = .ok (.invokespecial 30, 3) := by decide +kernel
theorem dB_init_54 : decode prog_1_method_1_code 54 = .ok (.putfield 31, 3) := by decide +kernel
theorem dB_init_57 : decode prog_1_method_1_code 57 = .ok (.aload_n 0, 1) := by decide +kernel
theorem dB_init_58 : decode prog_1_method_1_code 58 = .ok (.new 22, 3) := by decide +kernel
theorem dB_init_61 : decode prog_1_method_1_code 61 = .ok (.dup, 1) := by decide +kernel
theorem dB_init_62 : decode prog_1_method_1_code 62 = .ok (.invokespecial 35, 3) := by decide +kernel
theorem dB_init_65 : decode prog_1_method_1_code 65 = .ok (.putfield 36, 3) := by decide +kernel
theorem dB_init_68 : decode prog_1_method_1_code 68 = .ok (.aload_n 0, 1) := by decide +kernel
theorem dB_init_69 : decode prog_1_method_1_code 69 = .ok (.iconst (-1), 1) := by decide +kernel
theorem dB_init_70 : decode prog_1_method_1_code 70 = .ok (.putfield 40, 3) := by decide +kernel
theorem dB_init_73 : decode prog_1_method_1_code 73 = .ok (.aload_n 0, 1) := by decide +kernel
theorem dB_init_74 : decode prog_1_method_1_code 74 = .ok (.iconst 0, 1) := by decide +kernel
theorem dB_init_75 : decode prog_1_method_1_code 75 = .ok (.putfield 44, 3) := by decide +kernel
theorem dB_init_78 : decode prog_1_method_1_code 78 = .ok (.iconst 0, 1) := by decide +kernel
theorem dB_init_79 : decode prog_1_method_1_code 79 = .ok (.istore_n 1, 1) := by decide +kernel
theorem dB_init_80 : decode prog_1_method_1_code 80 = .ok (.iload_n 1, 1) := by decide +kernel
theorem dB_init_81 : decode prog_1_method_1_code 81 = .ok (.bipush 8, 2) := by decide +kernel
theorem dB_init_83 : decode prog_1_method_1_code 83 = .ok (.if_icmp .ge 22, 3) := by decide +kernel
theorem dB_init_86 : decode prog_1_method_1_code 86 = .ok (.aload_n 0, 1) := by decide +kernel
theorem dB_init_87 : decode prog_1_method_1_code 87 = .ok (.getfield 24, 3) := by decide +kernel
theorem dB_init_90 : decode prog_1_method_1_code 90 = .ok (.iload_n 1, 1) := by decide +kernel
theorem dB_init_91 : decode prog_1_method_1_code 91 = .ok (.new 22, 3) := by decide +kernel
theorem dB_init_94 : decode prog_1_method_1_code 94 = .ok (.dup, 1) := by decide +kernel
theorem dB_init_95 : decode prog_1_method_1_code 95 = .ok (.invokespecial 35, 3) := by decide +kernel
theorem dB_init_98 : decode prog_1_method_1_code 98 = .ok (.aastore, 1) := by decide +kernel
theorem dB_init_99 : decode prog_1_method_1_code 99 = .ok (.iinc 1 1, 3) := by decide +kernel
theorem dB_init_102 : decode prog_1_method_1_code 102 = .ok (.goto (-22), 3) := by decide +kernel
theorem dB_init_105 : decode prog_1_method_1_code 105 = .ok (.return_, 1) := by decide +kernel
theorem dJP_checkIndex_0 : decode prog_29_method_11_code 0 = .ok (.iload_n 0, 1) := by decide +kernel
theorem dJP_checkIndex_1 : decode prog_29_method_11_code 1 = .ok (.ifCond .lt 8, 3) := by decide +kernel
theorem dJP_checkIndex_4 : decode prog_29_method_11_code 4 = .ok (.iload_n 0, 1) := by decide +kernel
theorem dJP_checkIndex_5 : decode prog_29_method_11_code 5 = .ok (.iload_n 1, 1) := by decide +kernel
theorem dJP_checkIndex_6 : decode prog_29_method_11_code 6 = .ok (.if_icmp .lt 10, 3) := by decide +kernel
theorem dJP_checkIndex_16 : decode prog_29_method_11_code 16 = .ok (.iload_n 0, 1) := by decide +kernel
theorem dJP_checkIndex_17 : decode prog_29_method_11_code 17 = .ok (.ireturn, 1) := by decide +kernel
theorem dJS_charAt_0 : decode prog_23_method_56_code 0 = .ok (.aload_n 0, 1) := by decide +kernel
theorem dJS_charAt_1 : decode prog_23_method_56_code 1 = .ok (.invokevirtual 492, 3) := by decide +kernel
theorem dJS_charAt_4 : decode prog_23_method_56_code 4 = .ok (.ifCond .eq 12, 3) := by decide +kernel
theorem dJS_charAt_7 : decode prog_23_method_56_code 7 = .ok (.aload_n 0, 1) := by decide +kernel
theorem dJS_charAt_8 : decode prog_23_method_56_code 8 = .ok (.getfield 9, 3) := by decide +kernel
theorem dJS_charAt_11 : decode prog_23_method_56_code 11 = .ok (.iload_n 1, 1) := by decide +kernel
theorem dJS_charAt_12 : decode prog_23_method_56_code 12 = .ok (.invokestatic 495, 3) := by decide +kernel
theorem dJS_charAt_15 : decode prog_23_method_56_code 15 = .ok (.ireturn, 1) := by decide +kernel
theorem dJS_checkIndex_0 : decode prog_23_method_155_code 0 = .ok (.iload_n 0, 1) := by decide +kernel
theorem dJS_checkIndex_1 : decode prog_23_method_155_code 1 = .ok (.iload_n 1, 1) := by decide +kernel
theorem dJS_checkIndex_2 : decode prog_23_method_155_code 2 = .ok (.getstatic 1053, 3) := by decide +kernel
theorem dJS_checkIndex_5 : decode prog_23_method_155_code 5 = .ok (.invokestatic 1059, 3) := by decide +kernel
theorem dJS_checkIndex_8 : decode prog_23_method_155_code 8 = .ok (.pop, 1) := by decide +kernel
theorem dJS_checkIndex_9 : decode prog_23_method_155_code 9 = .ok (.return_, 1) := by decide +kernel
theorem dJS_coder_0 : decode prog_23_method_152_code 0 = .ok (.getstatic 38, 3) := by decide +kernel
theorem dJS_coder_3 : decode prog_23_method_152_code 3 = .ok (.ifCond .eq 10, 3) := by decide +kernel
theorem dJS_coder_6 : decode prog_23_method_152_code 6 = .ok (.aload_n 0, 1) := by decide +kernel
theorem dJS_coder_7 : decode prog_23_method_152_code 7 = .ok (.getfield 15, 3) := by decide +kernel
theorem dJS_coder_10 : decode prog_23_method_152_code 10 = .ok (.goto 4, 3) := by decide +kernel
theorem dJS_coder_14 : decode prog_23_method_152_code 14 = .ok (.ireturn, 1) := by decide +kernel
theorem dJS_isLatin1_0 : decode prog_23_method_154_code 0 = .ok (.getstatic 38, 3) := by decide +kernel
theorem dJS_isLatin1_3 : decode prog_23_method_154_code 3 = .ok (.ifCond .eq 14, 3) := by decide +kernel
theorem dJS_isLatin1_6 : decode prog_23_method_154_code 6 = .ok (.aload_n 0, 1) := by decide +kernel
theorem dJS_isLatin1_7 : decode prog_23_method_154_code 7 = .ok (.getfield 15, 3) := by decide +kernel
theorem dJS_isLatin1_10 : decode prog_23_method_154_code 10 = .ok (.ifCond .ne 7, 3) := by decide +kernel
theorem dJS_isLatin1_13 : decode prog_23_method_154_code 13 = .ok (.iconst 1, 1) := by decide +kernel
theorem dJS_isLatin1_14 : decode prog_23_method_154_code 14 = .ok (.goto 4, 3) := by decide +kernel
theorem dJS_isLatin1_18 : decode prog_23_method_154_code 18 = .ok (.ireturn, 1) := by decide +kernel
theorem dJS_length_0 : decode prog_23_method_54_code 0 = .ok (.aload_n 0, 1) := by decide +kernel
theorem dJS_length_1 : decode prog_23_method_54_code 1 = .ok (.getfield 9, 3) := by decide +kernel
theorem dJS_length_4 : decode prog_23_method_54_code 4 = .ok (.arraylength, 1) := by decide +kernel
theorem dJS_length_5 : decode prog_23_method_54_code 5 = .ok (.aload_n 0, 1) := by decide +kernel
theorem dJS_length_6 : decode prog_23_method_54_code 6 = .ok (.invokevirtual 335, 3) := by decide +kernel
theorem dJS_length_9 : decode prog_23_method_54_code 9 = .ok (.ishr, 1) := by decide +kernel
theorem dJS_length_10 : decode prog_23_method_54_code 10 = .ok (.ireturn, 1) := by decide +kernel
theorem dJT_charAt_0 : decode prog_24_method_2_code 0 = .ok (.iload_n 1, 1) := by decide +kernel
theorem dJT_charAt_1 : decode prog_24_method_2_code 1 = .ok (.aload_n 0, 1) := by decide +kernel
theorem dJT_charAt_2 : decode prog_24_method_2_code 2 = .ok (.arraylength, 1) := by decide +kernel
theorem dJT_charAt_3 : decode prog_24_method_2_code 3 = .ok (.invokestatic 9, 3) := by decide +kernel
theorem dJT_charAt_6 : decode prog_24_method_2_code 6 = .ok (.aload_n 0, 1) := by decide +kernel
theorem dJT_charAt_7 : decode prog_24_method_2_code 7 = .ok (.iload_n 1, 1) := by decide +kernel
theorem dJT_charAt_8 : decode prog_24_method_2_code 8 = .ok (.baload, 1) := by decide +kernel
theorem dJT_charAt_9 : decode prog_24_method_2_code 9 = .ok (.sipush 255, 3) := by decide +kernel
theorem dJT_charAt_12 : decode prog_24_method_2_code 12 = .ok (.iand, 1) := by decide +kernel
theorem dJT_charAt_13 : decode prog_24_method_2_code 13 = .ok (.i2c, 1) := by decide +kernel
theorem dJT_charAt_14 : decode prog_24_method_2_code 14 = .ok (.ireturn, 1) := by decide +kernel
theorem dL_law_0 : decode code 0 = .ok (.new 8, 3) := by decide +kernel
theorem dL_law_3 : decode code 3 = .ok (.dup, 1) := by decide +kernel
theorem dL_law_4 : decode code 4 = .ok (.invokespecial 60, 3) := by decide +kernel
theorem dL_law_7 : decode code 7 = .ok (.astore_n 1, 1) := by decide +kernel
theorem dL_law_8 : decode code 8 = .ok (.new 61, 3) := by decide +kernel
theorem dL_law_11 : decode code 11 = .ok (.dup, 1) := by decide +kernel
theorem dL_law_12 : decode code 12 = .ok (.invokespecial 63, 3) := by decide +kernel
theorem dL_law_15 : decode code 15 = .ok (.astore_n 2, 1) := by decide +kernel
theorem dL_law_16 : decode code 16 = .ok (.iconst 1, 1) := by decide +kernel
theorem dL_law_17 : decode code 17 = .ok (.newarray .long, 2) := by decide +kernel
theorem dL_law_19 : decode code 19 = .ok (.astore_n 3, 1) := by decide +kernel
theorem dL_law_20 : decode code 20 = .ok (.iconst 0, 1) := by decide +kernel
theorem dL_law_21 : decode code 21 = .ok (.istore 4, 2) := by decide +kernel
theorem dM_init_0 : decode prog_13_method_1_code 0 = .ok (.aload_n 0, 1) := by decide +kernel
theorem dM_init_1 : decode prog_13_method_1_code 1 = .ok (.invokespecial 1, 3) := by decide +kernel
theorem dM_init_4 : decode prog_13_method_1_code 4 = .ok (.aload_n 0, 1) := by decide +kernel
theorem dM_init_5 : decode prog_13_method_1_code 5 = .ok (.sipush 1024, 3) := by decide +kernel
theorem dM_init_8 : decode prog_13_method_1_code 8 = .ok (.anewarray 7, 3) := by decide +kernel
theorem dM_init_11 : decode prog_13_method_1_code 11 = .ok (.putfield 9, 3) := by decide +kernel
theorem dM_init_14 : decode prog_13_method_1_code 14 = .ok (.aload_n 0, 1) := by decide +kernel
theorem dM_init_15 : decode prog_13_method_1_code 15 = .ok (.sipush 4096, 3) := by decide +kernel
theorem dM_init_18 : decode prog_13_method_1_code 18 = .ok (.newarray .byte, 2) := by decide +kernel
theorem dM_init_20 : decode prog_13_method_1_code 20 = .ok (.putfield 15, 3) := by decide +kernel
theorem dM_init_23 : decode prog_13_method_1_code 23 = .ok (.aload_n 0, 1) := by decide +kernel
theorem dM_init_24 : decode prog_13_method_1_code 24 = .ok (.sipush 1024, 3) := by decide +kernel
theorem dM_init_27 : decode prog_13_method_1_code 27 = .ok (.anewarray 7, 3) := by decide +kernel
theorem dM_init_30 : decode prog_13_method_1_code 30 = .ok (.putfield 19, 3) := by decide +kernel
theorem dM_init_33 : decode prog_13_method_1_code 33 = .ok (.aload_n 0, 1) := by decide +kernel
theorem dM_init_34 : decode prog_13_method_1_code 34 = .ok (.sipush 1024, 3) := by decide +kernel
theorem dM_init_37 : decode prog_13_method_1_code 37 = .ok (.anewarray 7, 3) := by decide +kernel
theorem dM_init_40 : decode prog_13_method_1_code 40 = .ok (.putfield 22, 3) := by decide +kernel
theorem dM_init_43 : decode prog_13_method_1_code 43 = .ok (.aload_n 0, 1) := by decide +kernel
theorem dM_init_44 : decode prog_13_method_1_code 44 = .ok (.sipush 256, 3) := by decide +kernel
theorem dM_init_47 : decode prog_13_method_1_code 47 = .ok (.anewarray 7, 3) := by decide +kernel
theorem dM_init_50 : decode prog_13_method_1_code 50 = .ok (.putfield 25, 3) := by decide +kernel
theorem dM_init_53 : decode prog_13_method_1_code 53 = .ok (.aload_n 0, 1) := by decide +kernel
theorem dM_init_54 : decode prog_13_method_1_code 54 = .ok (.sipush 256, 3) := by decide +kernel
theorem dM_init_57 : decode prog_13_method_1_code 57 = .ok (.anewarray 7, 3) := by decide +kernel
theorem dM_init_60 : decode prog_13_method_1_code 60 = .ok (.putfield 28, 3) := by decide +kernel
theorem dM_init_63 : decode prog_13_method_1_code 63 = .ok (.aload_n 0, 1) := by decide +kernel
theorem dM_init_64 : decode prog_13_method_1_code 64 = .ok (.bipush 64, 2) := by decide +kernel
theorem dM_init_66 : decode prog_13_method_1_code 66 = .ok (.newarray .int, 2) := by decide +kernel
theorem dM_init_68 : decode prog_13_method_1_code 68 = .ok (.putfield 31, 3) := by decide +kernel
theorem dM_init_71 : decode prog_13_method_1_code 71 = .ok (.aload_n 0, 1) := by decide +kernel
theorem dM_init_72 : decode prog_13_method_1_code 72 = .ok (.bipush 64, 2) := by decide +kernel
theorem dM_init_74 : decode prog_13_method_1_code 74 = .ok (.newarray .int, 2) := by decide +kernel
theorem dM_init_76 : decode prog_13_method_1_code 76 = .ok (.putfield 35, 3) := by decide +kernel
theorem dM_init_79 : decode prog_13_method_1_code 79 = .ok (.aload_n 0, 1) := by decide +kernel
theorem dM_init_80 : decode prog_13_method_1_code 80 = .ok (.bipush 40, 2) := by decide +kernel
theorem dM_init_82 : decode prog_13_method_1_code 82 = .ok (.putfield 38, 3) := by decide +kernel
theorem dM_init_85 : decode prog_13_method_1_code 85 = .ok (.aload_n 0, 1) := by decide +kernel
theorem dM_init_86 : decode prog_13_method_1_code 86 = .ok (.iconst (-1), 1) := by decide +kernel
theorem dM_init_87 : decode prog_13_method_1_code 87 = .ok (.putfield 42, 3) := by decide +kernel
theorem dM_init_90 : decode prog_13_method_1_code 90 = .ok (.aload_n 0, 1) := by decide +kernel
theorem dM_init_91 : decode prog_13_method_1_code 91 = .ok (.sipush 1024, 3) := by decide +kernel
theorem dM_init_94 : decode prog_13_method_1_code 94 = .ok (.newarray .byte, 2) := by decide +kernel
theorem dM_init_96 : decode prog_13_method_1_code 96 = .ok (.putfield 45, 3) := by decide +kernel
theorem dM_init_99 : decode prog_13_method_1_code 99 = .ok (.aload_n 0, 1) := by decide +kernel
theorem dM_init_100 : decode prog_13_method_1_code 100 = .ok (.ldc 48, 2) := by decide +kernel
theorem dM_init_102 : decode prog_13_method_1_code 102 = .ok (.putfield 49, 3) := by decide +kernel
theorem dM_init_105 : decode prog_13_method_1_code 105 = .ok (.aload_n 0, 1) := by decide +kernel
theorem dM_init_106 : decode prog_13_method_1_code 106 = .ok (.bipush 8, 2) := by decide +kernel
theorem dM_init_108 : decode prog_13_method_1_code 108 = .ok (.sipush 4096, 3) := by decide +kernel
theorem dM_init_111 : decode prog_13_method_1_code 111 = .ok (.multianewarray 52 2, 4) := by decide +kernel
theorem dM_init_115 : decode prog_13_method_1_code 115 = .ok (.putfield 54, 3) := by decide +kernel
theorem dM_init_118 : decode prog_13_method_1_code 118 = .ok (.aload_n 0, 1) := by decide +kernel
theorem dM_init_119 : decode prog_13_method_1_code 119 = .ok (.bipush 8, 2) := by decide +kernel
theorem dM_init_121 : decode prog_13_method_1_code 121 = .ok (.newarray .int, 2) := by decide +kernel
theorem dM_init_123 : decode prog_13_method_1_code 123 = .ok (.putfield 57, 3) := by decide +kernel
theorem dM_init_126 : decode prog_13_method_1_code 126 = .ok (.aload_n 0, 1) := by decide +kernel
theorem dM_init_127 : decode prog_13_method_1_code 127 = .ok (.sipush 4096, 3) := by decide +kernel
theorem dM_init_130 : decode prog_13_method_1_code 130 = .ok (.newarray .byte, 2) := by decide +kernel
theorem dM_init_132 : decode prog_13_method_1_code 132 = .ok (.putfield 60, 3) := by decide +kernel
theorem dM_init_135 : decode prog_13_method_1_code 135 = .ok (.aload_n 0, 1) := by decide +kernel
theorem dM_init_136 : decode prog_13_method_1_code 136 = .ok (.sipush 4096, 3) := by decide +kernel
theorem dM_init_139 : decode prog_13_method_1_code 139 = .ok (.newarray .byte, 2) := by decide +kernel
theorem dM_init_141 : decode prog_13_method_1_code 141 = .ok (.putfield 63, 3) := by decide +kernel
theorem dM_init_144 : decode prog_13_method_1_code 144 = .ok (.aload_n 0, 1) := by decide +kernel
theorem dM_init_145 : decode prog_13_method_1_code 145 = .ok (.iconst (-1), 1) := by decide +kernel
theorem dM_init_146 : decode prog_13_method_1_code 146 = .ok (.putfield 66, 3) := by decide +kernel
theorem dM_init_149 : decode prog_13_method_1_code 149 = .ok (.iconst 0, 1) := by decide +kernel
theorem dM_init_150 : decode prog_13_method_1_code 150 = .ok (.istore_n 1, 1) := by decide +kernel
theorem dM_init_151 : decode prog_13_method_1_code 151 = .ok (.iload_n 1, 1) := by decide +kernel
theorem dM_init_152 : decode prog_13_method_1_code 152 = .ok (.bipush 8, 2) := by decide +kernel
theorem dM_init_154 : decode prog_13_method_1_code 154 = .ok (.if_icmp .ge 44, 3) := by decide +kernel
theorem dM_init_157 : decode prog_13_method_1_code 157 = .ok (.iconst 0, 1) := by decide +kernel
theorem dM_init_158 : decode prog_13_method_1_code 158 = .ok (.istore_n 2, 1) := by decide +kernel
theorem dM_init_159 : decode prog_13_method_1_code 159 = .ok (.iload_n 2, 1) := by decide +kernel
theorem dM_init_160 : decode prog_13_method_1_code 160 = .ok (.iconst 4, 1) := by decide +kernel
theorem dM_init_161 : decode prog_13_method_1_code 161 = .ok (.if_icmp .ge 24, 3) := by decide +kernel
theorem dM_init_164 : decode prog_13_method_1_code 164 = .ok (.aload_n 0, 1) := by decide +kernel
theorem dM_init_165 : decode prog_13_method_1_code 165 = .ok (.getfield 54, 3) := by decide +kernel
theorem dM_init_168 : decode prog_13_method_1_code 168 = .ok (.iload_n 1, 1) := by decide +kernel
theorem dM_init_169 : decode prog_13_method_1_code 169 = .ok (.aaload, 1) := by decide +kernel
theorem dM_init_170 : decode prog_13_method_1_code 170 = .ok (.iload_n 2, 1) := by decide +kernel
theorem dM_init_171 : decode prog_13_method_1_code 171 = .ok (.ldc 69, 2) := by decide +kernel
theorem dM_init_173 : decode prog_13_method_1_code 173 = .ok (.iload_n 2, 1) := by decide +kernel
theorem dM_init_174 : decode prog_13_method_1_code 174 = .ok (.invokevirtual 71, 3) := by decide +kernel
theorem dM_init_177 : decode prog_13_method_1_code 177 = .ok (.i2b, 1) := by decide +kernel
theorem dM_init_178 : decode prog_13_method_1_code 178 = .ok (.bastore, 1) := by decide +kernel
theorem dM_init_179 : decode prog_13_method_1_code 179 = .ok (.iinc 2 1, 3) := by decide +kernel
theorem dM_init_182 : decode prog_13_method_1_code 182 = .ok (.goto (-23), 3) := by decide +kernel
theorem dM_init_185 : decode prog_13_method_1_code 185 = .ok (.aload_n 0, 1) := by decide +kernel
theorem dM_init_186 : decode prog_13_method_1_code 186 = .ok (.getfield 57, 3) := by decide +kernel
theorem dM_init_189 : decode prog_13_method_1_code 189 = .ok (.iload_n 1, 1) := by decide +kernel
theorem dM_init_190 : decode prog_13_method_1_code 190 = .ok (.iconst 4, 1) := by decide +kernel
theorem dM_init_191 : decode prog_13_method_1_code 191 = .ok (.iastore, 1) := by decide +kernel
theorem dM_init_192 : decode prog_13_method_1_code 192 = .ok (.iinc 1 1, 3) := by decide +kernel
theorem dM_init_195 : decode prog_13_method_1_code 195 = .ok (.goto (-44), 3) := by decide +kernel
theorem dM_init_198 : decode prog_13_method_1_code 198 = .ok (.return_, 1) := by decide +kernel
theorem dR_after_0 : decode prog_8_method_11_code 0 = .ok (.iload_n 1, 1) := by decide +kernel
theorem dR_after_1 : decode prog_8_method_11_code 1 = .ok (.ifCond .lt 28, 3) := by decide +kernel
theorem dR_after_4 : decode prog_8_method_11_code 4 = .ok (.iload_n 1, 1) := by decide +kernel
theorem dR_after_5 : decode prog_8_method_11_code 5 = .ok (.aload_n 0, 1) := by decide +kernel
theorem dR_after_6 : decode prog_8_method_11_code 6 = .ok (.getfield 15, 3) := by decide +kernel
theorem dR_after_9 : decode prog_8_method_11_code 9 = .ok (.if_icmp .ge 20, 3) := by decide +kernel
theorem dR_after_12 : decode prog_8_method_11_code 12 = .ok (.aload_n 0, 1) := by decide +kernel
theorem dR_after_13 : decode prog_8_method_11_code 13 = .ok (.getfield 9, 3) := by decide +kernel
theorem dR_after_16 : decode prog_8_method_11_code 16 = .ok (.iload_n 1, 1) := by decide +kernel
theorem dR_after_17 : decode prog_8_method_11_code 17 = .ok (.laload, 1) := by decide +kernel
theorem dR_after_18 : decode prog_8_method_11_code 18 = .ok (.ldc2_w 28, 3) := by decide +kernel
theorem dR_after_21 : decode prog_8_method_11_code 21 = .ok (.land, 1) := by decide +kernel
theorem dR_after_22 : decode prog_8_method_11_code 22 = .ok (.ldc2_w 30, 3) := by decide +kernel
theorem dR_after_25 : decode prog_8_method_11_code 25 = .ok (.lcmp, 1) := by decide +kernel
theorem dR_after_26 : decode prog_8_method_11_code 26 = .ok (.ifCond .ge 7, 3) := by decide +kernel
theorem dR_after_29 : decode prog_8_method_11_code 29 = .ok (.iload_n 1, 1) := by decide +kernel
theorem dR_after_30 : decode prog_8_method_11_code 30 = .ok (.iconst 1, 1) := by decide +kernel
theorem dR_after_31 : decode prog_8_method_11_code 31 = .ok (.iadd, 1) := by decide +kernel
theorem dR_after_32 : decode prog_8_method_11_code 32 = .ok (.ireturn, 1) := by decide +kernel
theorem dR_after_33 : decode prog_8_method_11_code 33 = .ok (.iload_n 1, 1) := by decide +kernel
theorem dR_after_34 : decode prog_8_method_11_code 34 = .ok (.aload_n 0, 1) := by decide +kernel
theorem dR_after_35 : decode prog_8_method_11_code 35 = .ok (.getfield 9, 3) := by decide +kernel
theorem dR_after_38 : decode prog_8_method_11_code 38 = .ok (.iload_n 1, 1) := by decide +kernel
theorem dR_after_39 : decode prog_8_method_11_code 39 = .ok (.laload, 1) := by decide +kernel
theorem dR_after_40 : decode prog_8_method_11_code 40 = .ok (.bipush 19, 2) := by decide +kernel
theorem dR_after_42 : decode prog_8_method_11_code 42 = .ok (.lshr, 1) := by decide +kernel
theorem dR_after_43 : decode prog_8_method_11_code 43 = .ok (.l2i, 1) := by decide +kernel
theorem dR_after_44 : decode prog_8_method_11_code 44 = .ok (.iadd, 1) := by decide +kernel
theorem dR_after_45 : decode prog_8_method_11_code 45 = .ok (.ireturn, 1) := by decide +kernel
theorem dR_cell_0 : decode prog_8_method_5_code 0 = .ok (.iload_n 1, 1) := by decide +kernel
theorem dR_cell_1 : decode prog_8_method_5_code 1 = .ok (.ifCond .lt 20, 3) := by decide +kernel
theorem dR_cell_4 : decode prog_8_method_5_code 4 = .ok (.iload_n 1, 1) := by decide +kernel
theorem dR_cell_5 : decode prog_8_method_5_code 5 = .ok (.aload_n 0, 1) := by decide +kernel
theorem dR_cell_6 : decode prog_8_method_5_code 6 = .ok (.getfield 15, 3) := by decide +kernel
theorem dR_cell_9 : decode prog_8_method_5_code 9 = .ok (.if_icmp .ge 12, 3) := by decide +kernel
theorem dR_cell_12 : decode prog_8_method_5_code 12 = .ok (.aload_n 0, 1) := by decide +kernel
theorem dR_cell_13 : decode prog_8_method_5_code 13 = .ok (.getfield 9, 3) := by decide +kernel
theorem dR_cell_16 : decode prog_8_method_5_code 16 = .ok (.iload_n 1, 1) := by decide +kernel
theorem dR_cell_17 : decode prog_8_method_5_code 17 = .ok (.laload, 1) := by decide +kernel
theorem dR_cell_18 : decode prog_8_method_5_code 18 = .ok (.goto 4, 3) := by decide +kernel
theorem dR_cell_21 : decode prog_8_method_5_code 21 = .ok (.lconst 0, 1) := by decide +kernel
theorem dR_cell_22 : decode prog_8_method_5_code 22 = .ok (.lreturn, 1) := by decide +kernel
theorem dR_clear_0 : decode prog_8_method_2_code 0 = .ok (.aload_n 0, 1) := by decide +kernel
theorem dR_clear_1 : decode prog_8_method_2_code 1 = .ok (.iconst 0, 1) := by decide +kernel
theorem dR_clear_2 : decode prog_8_method_2_code 2 = .ok (.putfield 15, 3) := by decide +kernel
theorem dR_clear_5 : decode prog_8_method_2_code 5 = .ok (.aload_n 0, 1) := by decide +kernel
theorem dR_clear_6 : decode prog_8_method_2_code 6 = .ok (.iconst 0, 1) := by decide +kernel
theorem dR_clear_7 : decode prog_8_method_2_code 7 = .ok (.putfield 19, 3) := by decide +kernel
theorem dR_clear_10 : decode prog_8_method_2_code 10 = .ok (.return_, 1) := by decide +kernel
theorem dR_close_0 : decode prog_8_method_26_code 0 = .ok (.aload_n 0, 1) := by decide +kernel
theorem dR_close_1 : decode prog_8_method_26_code 1 = .ok (.getfield 19, 3) := by decide +kernel
theorem dR_close_4 : decode prog_8_method_26_code 4 = .ok (.ifCond .ne 39, 3) := by decide +kernel
theorem dR_close_7 : decode prog_8_method_26_code 7 = .ok (.iload_n 1, 1) := by decide +kernel
theorem dR_close_8 : decode prog_8_method_26_code 8 = .ok (.ifCond .lt 35, 3) := by decide +kernel
theorem dR_close_11 : decode prog_8_method_26_code 11 = .ok (.iload_n 1, 1) := by decide +kernel
theorem dR_close_12 : decode prog_8_method_26_code 12 = .ok (.aload_n 0, 1) := by decide +kernel
theorem dR_close_13 : decode prog_8_method_26_code 13 = .ok (.getfield 15, 3) := by decide +kernel
theorem dR_close_16 : decode prog_8_method_26_code 16 = .ok (.if_icmp .ge 27, 3) := by decide +kernel
theorem dR_close_19 : decode prog_8_method_26_code 19 = .ok (.aload_n 0, 1) := by decide +kernel
theorem dR_close_20 : decode prog_8_method_26_code 20 = .ok (.getfield 9, 3) := by decide +kernel
theorem dR_close_23 : decode prog_8_method_26_code 23 = .ok (.iload_n 1, 1) := by decide +kernel
theorem dR_close_24 : decode prog_8_method_26_code 24 = .ok (.aload_n 0, 1) := by decide +kernel
theorem dR_close_25 : decode prog_8_method_26_code 25 = .ok (.getfield 15, 3) := by decide +kernel
theorem dR_close_28 : decode prog_8_method_26_code 28 = .ok (.iload_n 1, 1) := by decide +kernel
theorem dR_close_29 : decode prog_8_method_26_code 29 = .ok (.isub, 1) := by decide +kernel
theorem dR_close_30 : decode prog_8_method_26_code 30 = .ok (.i2l, 1) := by decide +kernel
theorem dR_close_31 : decode prog_8_method_26_code 31 = .ok (.bipush 19, 2) := by decide +kernel
theorem dR_close_33 : decode prog_8_method_26_code 33 = .ok (.lshl, 1) := by decide +kernel
theorem dR_close_34 : decode prog_8_method_26_code 34 = .ok (.iload_n 3, 1) := by decide +kernel
theorem dR_close_35 : decode prog_8_method_26_code 35 = .ok (.i2l, 1) := by decide +kernel
theorem dR_close_36 : decode prog_8_method_26_code 36 = .ok (.iconst 3, 1) := by decide +kernel
theorem dR_close_37 : decode prog_8_method_26_code 37 = .ok (.lshl, 1) := by decide +kernel
theorem dR_close_38 : decode prog_8_method_26_code 38 = .ok (.lor, 1) := by decide +kernel
theorem dR_close_39 : decode prog_8_method_26_code 39 = .ok (.iload_n 2, 1) := by decide +kernel
theorem dR_close_40 : decode prog_8_method_26_code 40 = .ok (.i2l, 1) := by decide +kernel
theorem dR_close_41 : decode prog_8_method_26_code 41 = .ok (.lor, 1) := by decide +kernel
theorem dR_close_42 : decode prog_8_method_26_code 42 = .ok (.lastore, 1) := by decide +kernel
theorem dR_close_43 : decode prog_8_method_26_code 43 = .ok (.return_, 1) := by decide +kernel
theorem dR_code_0 : decode prog_8_method_10_code 0 = .ok (.iload_n 1, 1) := by decide +kernel
theorem dR_code_1 : decode prog_8_method_10_code 1 = .ok (.iconst 1, 1) := by decide +kernel
theorem dR_code_2 : decode prog_8_method_10_code 2 = .ok (.iadd, 1) := by decide +kernel
theorem dR_code_3 : decode prog_8_method_10_code 3 = .ok (.iload_n 2, 1) := by decide +kernel
theorem dR_code_4 : decode prog_8_method_10_code 4 = .ok (.iadd, 1) := by decide +kernel
theorem dR_code_5 : decode prog_8_method_10_code 5 = .ok (.istore_n 3, 1) := by decide +kernel
theorem dR_code_6 : decode prog_8_method_10_code 6 = .ok (.iload_n 3, 1) := by decide +kernel
theorem dR_code_7 : decode prog_8_method_10_code 7 = .ok (.ifCond .lt 21, 3) := by decide +kernel
theorem dR_code_10 : decode prog_8_method_10_code 10 = .ok (.iload_n 3, 1) := by decide +kernel
theorem dR_code_11 : decode prog_8_method_10_code 11 = .ok (.aload_n 0, 1) := by decide +kernel
theorem dR_code_12 : decode prog_8_method_10_code 12 = .ok (.getfield 15, 3) := by decide +kernel
theorem dR_code_15 : decode prog_8_method_10_code 15 = .ok (.if_icmp .ge 13, 3) := by decide +kernel
theorem dR_code_18 : decode prog_8_method_10_code 18 = .ok (.aload_n 0, 1) := by decide +kernel
theorem dR_code_19 : decode prog_8_method_10_code 19 = .ok (.getfield 9, 3) := by decide +kernel
theorem dR_code_22 : decode prog_8_method_10_code 22 = .ok (.iload_n 3, 1) := by decide +kernel
theorem dR_code_23 : decode prog_8_method_10_code 23 = .ok (.laload, 1) := by decide +kernel
theorem dR_code_24 : decode prog_8_method_10_code 24 = .ok (.l2i, 1) := by decide +kernel
theorem dR_code_25 : decode prog_8_method_10_code 25 = .ok (.goto 4, 3) := by decide +kernel
theorem dR_code_28 : decode prog_8_method_10_code 28 = .ok (.iconst 0, 1) := by decide +kernel
theorem dR_code_29 : decode prog_8_method_10_code 29 = .ok (.ireturn, 1) := by decide +kernel
theorem dR_element_0 : decode prog_8_method_12_code 0 = .ok (.iload_n 1, 1) := by decide +kernel
theorem dR_element_1 : decode prog_8_method_12_code 1 = .ok (.iconst 1, 1) := by decide +kernel
theorem dR_element_2 : decode prog_8_method_12_code 2 = .ok (.iadd, 1) := by decide +kernel
theorem dR_element_3 : decode prog_8_method_12_code 3 = .ok (.istore 4, 2) := by decide +kernel
theorem dR_element_5 : decode prog_8_method_12_code 5 = .ok (.iconst 0, 1) := by decide +kernel
theorem dR_element_6 : decode prog_8_method_12_code 6 = .ok (.istore 5, 2) := by decide +kernel
theorem dR_element_8 : decode prog_8_method_12_code 8 = .ok (.iload 5, 2) := by decide +kernel
theorem dR_element_10 : decode prog_8_method_12_code 10 = .ok (.aload_n 0, 1) := by decide +kernel
theorem dR_element_11 : decode prog_8_method_12_code 11 = .ok (.iload_n 1, 1) := by decide +kernel
theorem dR_element_12 : decode prog_8_method_12_code 12 = .ok (.invokevirtual 32, 3) := by decide +kernel
theorem dR_element_15 : decode prog_8_method_12_code 15 = .ok (.if_icmp .ge 25, 3) := by decide +kernel
theorem dR_element_18 : decode prog_8_method_12_code 18 = .ok (.iload 5, 2) := by decide +kernel
theorem dR_element_20 : decode prog_8_method_12_code 20 = .ok (.i2l, 1) := by decide +kernel
theorem dR_element_21 : decode prog_8_method_12_code 21 = .ok (.lload_n 2, 1) := by decide +kernel
theorem dR_element_22 : decode prog_8_method_12_code 22 = .ok (.lcmp, 1) := by decide +kernel
theorem dR_element_23 : decode prog_8_method_12_code 23 = .ok (.ifCond .ge 17, 3) := by decide +kernel
theorem dR_element_26 : decode prog_8_method_12_code 26 = .ok (.aload_n 0, 1) := by decide +kernel
theorem dR_element_27 : decode prog_8_method_12_code 27 = .ok (.iload 4, 2) := by decide +kernel
theorem dR_element_29 : decode prog_8_method_12_code 29 = .ok (.invokevirtual 35, 3) := by decide +kernel
theorem dR_element_32 : decode prog_8_method_12_code 32 = .ok (.istore 4, 2) := by decide +kernel
theorem dR_element_34 : decode prog_8_method_12_code 34 = .ok (.iinc 5 1, 3) := by decide +kernel
theorem dR_element_37 : decode prog_8_method_12_code 37 = .ok (.goto (-29), 3) := by decide +kernel
theorem dR_element_40 : decode prog_8_method_12_code 40 = .ok (.iload 4, 2) := by decide +kernel
theorem dR_element_42 : decode prog_8_method_12_code 42 = .ok (.ireturn, 1) := by decide +kernel
theorem dR_hasPart_0 : decode prog_8_method_15_code 0 = .ok (.aload_n 3, 1) := by decide +kernel
theorem dR_hasPart_1 : decode prog_8_method_15_code 1 = .ok (.iload 4, 2) := by decide +kernel
theorem dR_hasPart_3 : decode prog_8_method_15_code 3 = .ok (.invokevirtual 32, 3) := by decide +kernel
theorem dR_hasPart_6 : decode prog_8_method_15_code 6 = .ok (.istore 5, 2) := by decide +kernel
theorem dR_hasPart_8 : decode prog_8_method_15_code 8 = .ok (.iload_n 2, 1) := by decide +kernel
theorem dR_hasPart_9 : decode prog_8_method_15_code 9 = .ok (.ifCond .lt 15, 3) := by decide +kernel
theorem dR_hasPart_12 : decode prog_8_method_15_code 12 = .ok (.iload_n 2, 1) := by decide +kernel
theorem dR_hasPart_13 : decode prog_8_method_15_code 13 = .ok (.iload 5, 2) := by decide +kernel
theorem dR_hasPart_15 : decode prog_8_method_15_code 15 = .ok (.iadd, 1) := by decide +kernel
theorem dR_hasPart_16 : decode prog_8_method_15_code 16 = .ok (.aload_n 0, 1) := by decide +kernel
theorem dR_hasPart_17 : decode prog_8_method_15_code 17 = .ok (.iload_n 1, 1) := by decide +kernel
theorem dR_hasPart_18 : decode prog_8_method_15_code 18 = .ok (.invokevirtual 32, 3) := by decide +kernel
theorem dR_hasPart_21 : decode prog_8_method_15_code 21 = .ok (.if_icmp .le 5, 3) := by decide +kernel
theorem dR_hasPart_24 : decode prog_8_method_15_code 24 = .ok (.iconst 0, 1) := by decide +kernel
theorem dR_hasPart_25 : decode prog_8_method_15_code 25 = .ok (.ireturn, 1) := by decide +kernel
theorem dR_hasPart_26 : decode prog_8_method_15_code 26 = .ok (.iconst 0, 1) := by decide +kernel
theorem dR_hasPart_27 : decode prog_8_method_15_code 27 = .ok (.istore 6, 2) := by decide +kernel
theorem dR_hasPart_29 : decode prog_8_method_15_code 29 = .ok (.iload 6, 2) := by decide +kernel
theorem dR_hasPart_31 : decode prog_8_method_15_code 31 = .ok (.iload 5, 2) := by decide +kernel
theorem dR_hasPart_33 : decode prog_8_method_15_code 33 = .ok (.if_icmp .ge 31, 3) := by decide +kernel
theorem dR_hasPart_36 : decode prog_8_method_15_code 36 = .ok (.aload_n 0, 1) := by decide +kernel
theorem dR_hasPart_37 : decode prog_8_method_15_code 37 = .ok (.iload_n 1, 1) := by decide +kernel
theorem dR_hasPart_38 : decode prog_8_method_15_code 38 = .ok (.iload_n 2, 1) := by decide +kernel
theorem dR_hasPart_39 : decode prog_8_method_15_code 39 = .ok (.iload 6, 2) := by decide +kernel
theorem dR_hasPart_41 : decode prog_8_method_15_code 41 = .ok (.iadd, 1) := by decide +kernel
theorem dR_hasPart_42 : decode prog_8_method_15_code 42 = .ok (.invokevirtual 46, 3) := by decide +kernel
theorem dR_hasPart_45 : decode prog_8_method_15_code 45 = .ok (.aload_n 3, 1) := by decide +kernel
theorem dR_hasPart_46 : decode prog_8_method_15_code 46 = .ok (.iload 4, 2) := by decide +kernel
theorem dR_hasPart_48 : decode prog_8_method_15_code 48 = .ok (.iload 6, 2) := by decide +kernel
theorem dR_hasPart_50 : decode prog_8_method_15_code 50 = .ok (.invokevirtual 46, 3) := by decide +kernel
theorem dR_hasPart_53 : decode prog_8_method_15_code 53 = .ok (.if_icmp .eq 5, 3) := by decide +kernel
theorem dR_hasPart_56 : decode prog_8_method_15_code 56 = .ok (.iconst 0, 1) := by decide +kernel
theorem dR_hasPart_57 : decode prog_8_method_15_code 57 = .ok (.ireturn, 1) := by decide +kernel
theorem dR_hasPart_58 : decode prog_8_method_15_code 58 = .ok (.iinc 6 1, 3) := by decide +kernel
theorem dR_hasPart_61 : decode prog_8_method_15_code 61 = .ok (.goto (-32), 3) := by decide +kernel
theorem dR_hasPart_64 : decode prog_8_method_15_code 64 = .ok (.iconst 1, 1) := by decide +kernel
theorem dR_hasPart_65 : decode prog_8_method_15_code 65 = .ok (.ireturn, 1) := by decide +kernel
theorem dR_init_0 : decode prog_8_method_1_code 0 = .ok (.aload_n 0, 1) := by decide +kernel
theorem dR_init_1 : decode prog_8_method_1_code 1 = .ok (.invokespecial 3, 3) := by decide +kernel
theorem dR_init_4 : decode prog_8_method_1_code 4 = .ok (.aload_n 0, 1) := by decide +kernel
theorem dR_init_5 : decode prog_8_method_1_code 5 = .ok (.sipush 4096, 3) := by decide +kernel
theorem dR_init_8 : decode prog_8_method_1_code 8 = .ok (.newarray .long, 2) := by decide +kernel
theorem dR_init_10 : decode prog_8_method_1_code 10 = .ok (.putfield 9, 3) := by decide +kernel
theorem dR_init_13 : decode prog_8_method_1_code 13 = .ok (.aload_n 0, 1) := by decide +kernel
theorem dR_init_14 : decode prog_8_method_1_code 14 = .ok (.iconst 1, 1) := by decide +kernel
theorem dR_init_15 : decode prog_8_method_1_code 15 = .ok (.putfield 15, 3) := by decide +kernel
theorem dR_init_18 : decode prog_8_method_1_code 18 = .ok (.aload_n 0, 1) := by decide +kernel
theorem dR_init_19 : decode prog_8_method_1_code 19 = .ok (.iconst 0, 1) := by decide +kernel
theorem dR_init_20 : decode prog_8_method_1_code 20 = .ok (.putfield 19, 3) := by decide +kernel
theorem dR_init_23 : decode prog_8_method_1_code 23 = .ok (.return_, 1) := by decide +kernel
theorem dR_is_0 : decode prog_8_method_7_code 0 = .ok (.aload_n 0, 1) := by decide +kernel
theorem dR_is_1 : decode prog_8_method_7_code 1 = .ok (.iload_n 1, 1) := by decide +kernel
theorem dR_is_2 : decode prog_8_method_7_code 2 = .ok (.invokevirtual 23, 3) := by decide +kernel
theorem dR_is_5 : decode prog_8_method_7_code 5 = .ok (.iload_n 2, 1) := by decide +kernel
theorem dR_is_6 : decode prog_8_method_7_code 6 = .ok (.if_icmp .ne 7, 3) := by decide +kernel
theorem dR_is_9 : decode prog_8_method_7_code 9 = .ok (.iconst 1, 1) := by decide +kernel
theorem dR_is_10 : decode prog_8_method_7_code 10 = .ok (.goto 4, 3) := by decide +kernel
theorem dR_is_13 : decode prog_8_method_7_code 13 = .ok (.iconst 0, 1) := by decide +kernel
theorem dR_is_14 : decode prog_8_method_7_code 14 = .ok (.ireturn, 1) := by decide +kernel
theorem dR_isOver_0 : decode prog_8_method_4_code 0 = .ok (.aload_n 0, 1) := by decide +kernel
theorem dR_isOver_1 : decode prog_8_method_4_code 1 = .ok (.getfield 19, 3) := by decide +kernel
theorem dR_isOver_4 : decode prog_8_method_4_code 4 = .ok (.ireturn, 1) := by decide +kernel
theorem dR_kind_0 : decode prog_8_method_6_code 0 = .ok (.iload_n 1, 1) := by decide +kernel
theorem dR_kind_1 : decode prog_8_method_6_code 1 = .ok (.ifCond .lt 24, 3) := by decide +kernel
theorem dR_kind_4 : decode prog_8_method_6_code 4 = .ok (.iload_n 1, 1) := by decide +kernel
theorem dR_kind_5 : decode prog_8_method_6_code 5 = .ok (.aload_n 0, 1) := by decide +kernel
theorem dR_kind_6 : decode prog_8_method_6_code 6 = .ok (.getfield 15, 3) := by decide +kernel
theorem dR_kind_9 : decode prog_8_method_6_code 9 = .ok (.if_icmp .ge 16, 3) := by decide +kernel
theorem dR_kind_12 : decode prog_8_method_6_code 12 = .ok (.aload_n 0, 1) := by decide +kernel
theorem dR_kind_13 : decode prog_8_method_6_code 13 = .ok (.getfield 9, 3) := by decide +kernel
theorem dR_kind_16 : decode prog_8_method_6_code 16 = .ok (.iload_n 1, 1) := by decide +kernel
theorem dR_kind_17 : decode prog_8_method_6_code 17 = .ok (.laload, 1) := by decide +kernel
theorem dR_kind_18 : decode prog_8_method_6_code 18 = .ok (.l2i, 1) := by decide +kernel
theorem dR_kind_19 : decode prog_8_method_6_code 19 = .ok (.bipush 7, 2) := by decide +kernel
theorem dR_kind_21 : decode prog_8_method_6_code 21 = .ok (.iand, 1) := by decide +kernel
theorem dR_kind_22 : decode prog_8_method_6_code 22 = .ok (.goto 4, 3) := by decide +kernel
theorem dR_kind_25 : decode prog_8_method_6_code 25 = .ok (.iconst 0, 1) := by decide +kernel
theorem dR_kind_26 : decode prog_8_method_6_code 26 = .ok (.ireturn, 1) := by decide +kernel
theorem dR_length_0 : decode prog_8_method_9_code 0 = .ok (.iload_n 1, 1) := by decide +kernel
theorem dR_length_1 : decode prog_8_method_9_code 1 = .ok (.ifCond .lt 26, 3) := by decide +kernel
theorem dR_length_4 : decode prog_8_method_9_code 4 = .ok (.iload_n 1, 1) := by decide +kernel
theorem dR_length_5 : decode prog_8_method_9_code 5 = .ok (.aload_n 0, 1) := by decide +kernel
theorem dR_length_6 : decode prog_8_method_9_code 6 = .ok (.getfield 15, 3) := by decide +kernel
theorem dR_length_9 : decode prog_8_method_9_code 9 = .ok (.if_icmp .ge 18, 3) := by decide +kernel
theorem dR_length_12 : decode prog_8_method_9_code 12 = .ok (.aload_n 0, 1) := by decide +kernel
theorem dR_length_13 : decode prog_8_method_9_code 13 = .ok (.getfield 9, 3) := by decide +kernel
theorem dR_length_16 : decode prog_8_method_9_code 16 = .ok (.iload_n 1, 1) := by decide +kernel
theorem dR_length_17 : decode prog_8_method_9_code 17 = .ok (.laload, 1) := by decide +kernel
theorem dR_length_18 : decode prog_8_method_9_code 18 = .ok (.iconst 3, 1) := by decide +kernel
theorem dR_length_19 : decode prog_8_method_9_code 19 = .ok (.lshr, 1) := by decide +kernel
theorem dR_length_20 : decode prog_8_method_9_code 20 = .ok (.l2i, 1) := by decide +kernel
theorem dR_length_21 : decode prog_8_method_9_code 21 = .ok (.ldc 27, 2) := by decide +kernel
theorem dR_length_23 : decode prog_8_method_9_code 23 = .ok (.iand, 1) := by decide +kernel
theorem dR_length_24 : decode prog_8_method_9_code 24 = .ok (.goto 4, 3) := by decide +kernel
theorem dR_length_27 : decode prog_8_method_9_code 27 = .ok (.iconst 0, 1) := by decide +kernel
theorem dR_length_28 : decode prog_8_method_9_code 28 = .ok (.ireturn, 1) := by decide +kernel
theorem dR_number_0 : decode prog_8_method_8_code 0 = .ok (.iload_n 1, 1) := by decide +kernel
theorem dR_number_1 : decode prog_8_method_8_code 1 = .ok (.ifCond .lt 22, 3) := by decide +kernel
theorem dR_number_4 : decode prog_8_method_8_code 4 = .ok (.iload_n 1, 1) := by decide +kernel
theorem dR_number_5 : decode prog_8_method_8_code 5 = .ok (.aload_n 0, 1) := by decide +kernel
theorem dR_number_6 : decode prog_8_method_8_code 6 = .ok (.getfield 15, 3) := by decide +kernel
theorem dR_number_9 : decode prog_8_method_8_code 9 = .ok (.if_icmp .ge 14, 3) := by decide +kernel
theorem dR_number_12 : decode prog_8_method_8_code 12 = .ok (.aload_n 0, 1) := by decide +kernel
theorem dR_number_13 : decode prog_8_method_8_code 13 = .ok (.getfield 9, 3) := by decide +kernel
theorem dR_number_16 : decode prog_8_method_8_code 16 = .ok (.iload_n 1, 1) := by decide +kernel
theorem dR_number_17 : decode prog_8_method_8_code 17 = .ok (.laload, 1) := by decide +kernel
theorem dR_number_18 : decode prog_8_method_8_code 18 = .ok (.iconst 3, 1) := by decide +kernel
theorem dR_number_19 : decode prog_8_method_8_code 19 = .ok (.lshr, 1) := by decide +kernel
theorem dR_number_20 : decode prog_8_method_8_code 20 = .ok (.goto 4, 3) := by decide +kernel
theorem dR_number_23 : decode prog_8_method_8_code 23 = .ok (.lconst 0, 1) := by decide +kernel
theorem dR_number_24 : decode prog_8_method_8_code 24 = .ok (.lreturn, 1) := by decide +kernel
theorem dR_open_0 : decode prog_8_method_25_code 0 = .ok (.aload_n 0, 1) := by decide +kernel
theorem dR_open_1 : decode prog_8_method_25_code 1 = .ok (.lconst 0, 1) := by decide +kernel
theorem dR_open_2 : decode prog_8_method_25_code 2 = .ok (.invokevirtual 52, 3) := by decide +kernel
theorem dR_open_5 : decode prog_8_method_25_code 5 = .ok (.aload_n 0, 1) := by decide +kernel
theorem dR_open_6 : decode prog_8_method_25_code 6 = .ok (.getfield 15, 3) := by decide +kernel
theorem dR_open_9 : decode prog_8_method_25_code 9 = .ok (.iconst 1, 1) := by decide +kernel
theorem dR_open_10 : decode prog_8_method_25_code 10 = .ok (.isub, 1) := by decide +kernel
theorem dR_open_11 : decode prog_8_method_25_code 11 = .ok (.ireturn, 1) := by decide +kernel
theorem dR_orderOfStrings_0 : decode prog_8_method_14_code 0 = .ok (.iload_n 1, 1) := by decide +kernel
theorem dR_orderOfStrings_1 : decode prog_8_method_14_code 1 = .ok (.ifCond .lt 23, 3) := by decide +kernel
theorem dR_orderOfStrings_4 : decode prog_8_method_14_code 4 = .ok (.iload_n 1, 1) := by decide +kernel
theorem dR_orderOfStrings_5 : decode prog_8_method_14_code 5 = .ok (.aload_n 0, 1) := by decide +kernel
theorem dR_orderOfStrings_6 : decode prog_8_method_14_code 6 = .ok (.getfield 15, 3) := by decide +kernel
theorem dR_orderOfStrings_9 : decode prog_8_method_14_code 9 = .ok (.if_icmp .ge 15, 3) := by decide +kernel
theorem dR_orderOfStrings_12 : decode prog_8_method_14_code 12 = .ok (.iload_n 3, 1) := by decide +kernel
theorem dR_orderOfStrings_13 : decode prog_8_method_14_code 13 = .ok (.ifCond .lt 11, 3) := by decide +kernel
theorem dR_orderOfStrings_16 : decode prog_8_method_14_code 16 = .ok (.iload_n 3, 1) := by decide +kernel
theorem dR_orderOfStrings_17 : decode prog_8_method_14_code 17 = .ok (.aload_n 2, 1) := by decide +kernel
theorem dR_orderOfStrings_18 : decode prog_8_method_14_code 18 = .ok (.getfield 15, 3) := by decide +kernel
theorem dR_orderOfStrings_21 : decode prog_8_method_14_code 21 = .ok (.if_icmp .lt 5, 3) := by decide +kernel
theorem dR_orderOfStrings_24 : decode prog_8_method_14_code 24 = .ok (.iconst 0, 1) := by decide +kernel
theorem dR_orderOfStrings_25 : decode prog_8_method_14_code 25 = .ok (.ireturn, 1) := by decide +kernel
theorem dR_orderOfStrings_26 : decode prog_8_method_14_code 26 = .ok (.aload_n 0, 1) := by decide +kernel
theorem dR_orderOfStrings_27 : decode prog_8_method_14_code 27 = .ok (.getfield 9, 3) := by decide +kernel
theorem dR_orderOfStrings_30 : decode prog_8_method_14_code 30 = .ok (.iload_n 1, 1) := by decide +kernel
theorem dR_orderOfStrings_31 : decode prog_8_method_14_code 31 = .ok (.laload, 1) := by decide +kernel
theorem dR_orderOfStrings_32 : decode prog_8_method_14_code 32 = .ok (.iconst 3, 1) := by decide +kernel
theorem dR_orderOfStrings_33 : decode prog_8_method_14_code 33 = .ok (.lshr, 1) := by decide +kernel
theorem dR_orderOfStrings_34 : decode prog_8_method_14_code 34 = .ok (.l2i, 1) := by decide +kernel
theorem dR_orderOfStrings_35 : decode prog_8_method_14_code 35 = .ok (.ldc 27, 2) := by decide +kernel
theorem dR_orderOfStrings_37 : decode prog_8_method_14_code 37 = .ok (.iand, 1) := by decide +kernel
theorem dR_orderOfStrings_38 : decode prog_8_method_14_code 38 = .ok (.istore 4, 2) := by decide +kernel
theorem dR_orderOfStrings_40 : decode prog_8_method_14_code 40 = .ok (.aload_n 2, 1) := by decide +kernel
theorem dR_orderOfStrings_41 : decode prog_8_method_14_code 41 = .ok (.getfield 9, 3) := by decide +kernel
theorem dR_orderOfStrings_44 : decode prog_8_method_14_code 44 = .ok (.iload_n 3, 1) := by decide +kernel
theorem dR_orderOfStrings_45 : decode prog_8_method_14_code 45 = .ok (.laload, 1) := by decide +kernel
theorem dR_orderOfStrings_46 : decode prog_8_method_14_code 46 = .ok (.iconst 3, 1) := by decide +kernel
theorem dR_orderOfStrings_47 : decode prog_8_method_14_code 47 = .ok (.lshr, 1) := by decide +kernel
theorem dR_orderOfStrings_48 : decode prog_8_method_14_code 48 = .ok (.l2i, 1) := by decide +kernel
theorem dR_orderOfStrings_49 : decode prog_8_method_14_code 49 = .ok (.ldc 27, 2) := by decide +kernel
theorem dR_orderOfStrings_51 : decode prog_8_method_14_code 51 = .ok (.iand, 1) := by decide +kernel
theorem dR_orderOfStrings_52 : decode prog_8_method_14_code 52 = .ok (.istore 5, 2) := by decide +kernel
theorem dR_orderOfStrings_54 : decode prog_8_method_14_code 54 = .ok (.iload 4, 2) := by decide +kernel
theorem dR_orderOfStrings_56 : decode prog_8_method_14_code 56 = .ok (.iload 5, 2) := by decide +kernel
theorem dR_orderOfStrings_58 : decode prog_8_method_14_code 58 = .ok (.if_icmp .ge 8, 3) := by decide +kernel
theorem dR_orderOfStrings_61 : decode prog_8_method_14_code 61 = .ok (.iload 4, 2) := by decide +kernel
theorem dR_orderOfStrings_63 : decode prog_8_method_14_code 63 = .ok (.goto 5, 3) := by decide +kernel
theorem dR_orderOfStrings_66 : decode prog_8_method_14_code 66 = .ok (.iload 5, 2) := by decide +kernel
theorem dR_orderOfStrings_68 : decode prog_8_method_14_code 68 = .ok (.istore 6, 2) := by decide +kernel
theorem dR_orderOfStrings_70 : decode prog_8_method_14_code 70 = .ok (.iconst 1, 1) := by decide +kernel
theorem dR_orderOfStrings_71 : decode prog_8_method_14_code 71 = .ok (.istore 7, 2) := by decide +kernel
theorem dR_orderOfStrings_73 : decode prog_8_method_14_code 73 = .ok (.iload 7, 2) := by decide +kernel
theorem dR_orderOfStrings_75 : decode prog_8_method_14_code 75 = .ok (.iload 6, 2) := by decide +kernel
theorem dR_orderOfStrings_77 : decode prog_8_method_14_code 77 = .ok (.if_icmp .gt 72, 3) := by decide +kernel
theorem dR_orderOfStrings_80 : decode prog_8_method_14_code 80 = .ok (.iload_n 1, 1) := by decide +kernel
theorem dR_orderOfStrings_81 : decode prog_8_method_14_code 81 = .ok (.iload 7, 2) := by decide +kernel
theorem dR_orderOfStrings_83 : decode prog_8_method_14_code 83 = .ok (.iadd, 1) := by decide +kernel
theorem dR_orderOfStrings_84 : decode prog_8_method_14_code 84 = .ok (.aload_n 0, 1) := by decide +kernel
theorem dR_orderOfStrings_85 : decode prog_8_method_14_code 85 = .ok (.getfield 15, 3) := by decide +kernel
theorem dR_orderOfStrings_88 : decode prog_8_method_14_code 88 = .ok (.if_icmp .ge 61, 3) := by decide +kernel
theorem dR_orderOfStrings_91 : decode prog_8_method_14_code 91 = .ok (.iload_n 3, 1) := by decide +kernel
theorem dR_orderOfStrings_92 : decode prog_8_method_14_code 92 = .ok (.iload 7, 2) := by decide +kernel
theorem dR_orderOfStrings_94 : decode prog_8_method_14_code 94 = .ok (.iadd, 1) := by decide +kernel
theorem dR_orderOfStrings_95 : decode prog_8_method_14_code 95 = .ok (.aload_n 2, 1) := by decide +kernel
theorem dR_orderOfStrings_96 : decode prog_8_method_14_code 96 = .ok (.getfield 15, 3) := by decide +kernel
theorem dR_orderOfStrings_99 : decode prog_8_method_14_code 99 = .ok (.if_icmp .ge 50, 3) := by decide +kernel
theorem dR_orderOfStrings_102 : decode prog_8_method_14_code 102 = .ok (.aload_n 0, 1) := by decide +kernel
theorem dR_orderOfStrings_103 : decode prog_8_method_14_code 103 = .ok (.getfield 9, 3) := by decide +kernel
theorem dR_orderOfStrings_106 : decode prog_8_method_14_code 106 = .ok (.iload_n 1, 1) := by decide +kernel
theorem dR_orderOfStrings_107 : decode prog_8_method_14_code 107 = .ok (.iload 7, 2) := by decide +kernel
theorem dR_orderOfStrings_109 : decode prog_8_method_14_code 109 = .ok (.iadd, 1) := by decide +kernel
theorem dR_orderOfStrings_110 : decode prog_8_method_14_code 110 = .ok (.laload, 1) := by decide +kernel
theorem dR_orderOfStrings_111 : decode prog_8_method_14_code 111 = .ok (.aload_n 2, 1) := by decide +kernel
theorem dR_orderOfStrings_112 : decode prog_8_method_14_code 112 = .ok (.getfield 9, 3) := by decide +kernel
theorem dR_orderOfStrings_115 : decode prog_8_method_14_code 115 = .ok (.iload_n 3, 1) := by decide +kernel
theorem dR_orderOfStrings_116 : decode prog_8_method_14_code 116 = .ok (.iload 7, 2) := by decide +kernel
theorem dR_orderOfStrings_118 : decode prog_8_method_14_code 118 = .ok (.iadd, 1) := by decide +kernel
theorem dR_orderOfStrings_119 : decode prog_8_method_14_code 119 = .ok (.laload, 1) := by decide +kernel
theorem dR_orderOfStrings_120 : decode prog_8_method_14_code 120 = .ok (.lsub, 1) := by decide +kernel
theorem dR_orderOfStrings_121 : decode prog_8_method_14_code 121 = .ok (.lstore 8, 2) := by decide +kernel
theorem dR_orderOfStrings_123 : decode prog_8_method_14_code 123 = .ok (.lload 8, 2) := by decide +kernel
theorem dR_orderOfStrings_125 : decode prog_8_method_14_code 125 = .ok (.lconst 0, 1) := by decide +kernel
theorem dR_orderOfStrings_126 : decode prog_8_method_14_code 126 = .ok (.lcmp, 1) := by decide +kernel
theorem dR_orderOfStrings_127 : decode prog_8_method_14_code 127 = .ok (.ifCond .eq 16, 3) := by decide +kernel
theorem dR_orderOfStrings_130 : decode prog_8_method_14_code 130 = .ok (.lload 8, 2) := by decide +kernel
theorem dR_orderOfStrings_132 : decode prog_8_method_14_code 132 = .ok (.lconst 0, 1) := by decide +kernel
theorem dR_orderOfStrings_133 : decode prog_8_method_14_code 133 = .ok (.lcmp, 1) := by decide +kernel
theorem dR_orderOfStrings_134 : decode prog_8_method_14_code 134 = .ok (.ifCond .ge 7, 3) := by decide +kernel
theorem dR_orderOfStrings_137 : decode prog_8_method_14_code 137 = .ok (.iconst (-1), 1) := by decide +kernel
theorem dR_orderOfStrings_138 : decode prog_8_method_14_code 138 = .ok (.goto 4, 3) := by decide +kernel
theorem dR_orderOfStrings_141 : decode prog_8_method_14_code 141 = .ok (.iconst 1, 1) := by decide +kernel
theorem dR_orderOfStrings_142 : decode prog_8_method_14_code 142 = .ok (.ireturn, 1) := by decide +kernel
theorem dR_orderOfStrings_143 : decode prog_8_method_14_code 143 = .ok (.iinc 7 1, 3) := by decide +kernel
theorem dR_orderOfStrings_146 : decode prog_8_method_14_code 146 = .ok (.goto (-73), 3) := by decide +kernel
theorem dR_orderOfStrings_149 : decode prog_8_method_14_code 149 = .ok (.iload 4, 2) := by decide +kernel
theorem dR_orderOfStrings_151 : decode prog_8_method_14_code 151 = .ok (.iload 5, 2) := by decide +kernel
theorem dR_orderOfStrings_153 : decode prog_8_method_14_code 153 = .ok (.if_icmp .ne 7, 3) := by decide +kernel
theorem dR_orderOfStrings_156 : decode prog_8_method_14_code 156 = .ok (.iconst 0, 1) := by decide +kernel
theorem dR_orderOfStrings_157 : decode prog_8_method_14_code 157 = .ok (.goto 15, 3) := by decide +kernel
theorem dR_orderOfStrings_160 : decode prog_8_method_14_code 160 = .ok (.iload 4, 2) := by decide +kernel
theorem dR_orderOfStrings_162 : decode prog_8_method_14_code 162 = .ok (.iload 5, 2) := by decide +kernel
theorem dR_orderOfStrings_164 : decode prog_8_method_14_code 164 = .ok (.if_icmp .ge 7, 3) := by decide +kernel
theorem dR_orderOfStrings_167 : decode prog_8_method_14_code 167 = .ok (.iconst (-1), 1) := by decide +kernel
theorem dR_orderOfStrings_168 : decode prog_8_method_14_code 168 = .ok (.goto 4, 3) := by decide +kernel
theorem dR_orderOfStrings_171 : decode prog_8_method_14_code 171 = .ok (.iconst 1, 1) := by decide +kernel
theorem dR_orderOfStrings_172 : decode prog_8_method_14_code 172 = .ok (.ireturn, 1) := by decide +kernel
theorem dR_put_0 : decode prog_8_method_16_code 0 = .ok (.aload_n 0, 1) := by decide +kernel
theorem dR_put_1 : decode prog_8_method_16_code 1 = .ok (.getfield 19, 3) := by decide +kernel
theorem dR_put_4 : decode prog_8_method_16_code 4 = .ok (.ifCond .ne 13, 3) := by decide +kernel
theorem dR_put_7 : decode prog_8_method_16_code 7 = .ok (.aload_n 0, 1) := by decide +kernel
theorem dR_put_8 : decode prog_8_method_16_code 8 = .ok (.getfield 15, 3) := by decide +kernel
theorem dR_put_11 : decode prog_8_method_16_code 11 = .ok (.sipush 4096, 3) := by decide +kernel
theorem dR_put_14 : decode prog_8_method_16_code 14 = .ok (.if_icmp .lt 9, 3) := by decide +kernel
theorem dR_put_17 : decode prog_8_method_16_code 17 = .ok (.aload_n 0, 1) := by decide +kernel
theorem dR_put_18 : decode prog_8_method_16_code 18 = .ok (.iconst 1, 1) := by decide +kernel
theorem dR_put_19 : decode prog_8_method_16_code 19 = .ok (.putfield 19, 3) := by decide +kernel
theorem dR_put_22 : decode prog_8_method_16_code 22 = .ok (.return_, 1) := by decide +kernel
theorem dR_put_23 : decode prog_8_method_16_code 23 = .ok (.aload_n 0, 1) := by decide +kernel
theorem dR_put_24 : decode prog_8_method_16_code 24 = .ok (.getfield 9, 3) := by decide +kernel
theorem dR_put_27 : decode prog_8_method_16_code 27 = .ok (.aload_n 0, 1) := by decide +kernel
theorem dR_put_28 : decode prog_8_method_16_code 28 = .ok (.getfield 15, 3) := by decide +kernel
theorem dR_put_31 : decode prog_8_method_16_code 31 = .ok (.lload_n 1, 1) := by decide +kernel
theorem dR_put_32 : decode prog_8_method_16_code 32 = .ok (.lastore, 1) := by decide +kernel
theorem dR_put_33 : decode prog_8_method_16_code 33 = .ok (.aload_n 0, 1) := by decide +kernel
theorem dR_put_34 : decode prog_8_method_16_code 34 = .ok (.dup, 1) := by decide +kernel
theorem dR_put_35 : decode prog_8_method_16_code 35 = .ok (.getfield 15, 3) := by decide +kernel
theorem dR_put_38 : decode prog_8_method_16_code 38 = .ok (.iconst 1, 1) := by decide +kernel
theorem dR_put_39 : decode prog_8_method_16_code 39 = .ok (.iadd, 1) := by decide +kernel
theorem dR_put_40 : decode prog_8_method_16_code 40 = .ok (.putfield 15, 3) := by decide +kernel
theorem dR_put_43 : decode prog_8_method_16_code 43 = .ok (.return_, 1) := by decide +kernel
theorem dR_putCells_0 : decode prog_8_method_24_code 0 = .ok (.aload_n 0, 1) := by decide +kernel
theorem dR_putCells_1 : decode prog_8_method_24_code 1 = .ok (.getfield 19, 3) := by decide +kernel
theorem dR_putCells_4 : decode prog_8_method_24_code 4 = .ok (.ifCond .ne 33, 3) := by decide +kernel
theorem dR_putCells_7 : decode prog_8_method_24_code 7 = .ok (.iload_n 2, 1) := by decide +kernel
theorem dR_putCells_8 : decode prog_8_method_24_code 8 = .ok (.ifCond .lt 29, 3) := by decide +kernel
theorem dR_putCells_11 : decode prog_8_method_24_code 11 = .ok (.iload_n 3, 1) := by decide +kernel
theorem dR_putCells_12 : decode prog_8_method_24_code 12 = .ok (.ifCond .lt 25, 3) := by decide +kernel
theorem dR_putCells_15 : decode prog_8_method_24_code 15 = .ok (.iload_n 2, 1) := by decide +kernel
theorem dR_putCells_16 : decode prog_8_method_24_code 16 = .ok (.iload_n 3, 1) := by decide +kernel
theorem dR_putCells_17 : decode prog_8_method_24_code 17 = .ok (.iadd, 1) := by decide +kernel
theorem dR_putCells_18 : decode prog_8_method_24_code 18 = .ok (.aload_n 1, 1) := by decide +kernel
theorem dR_putCells_19 : decode prog_8_method_24_code 19 = .ok (.getfield 15, 3) := by decide +kernel
theorem dR_putCells_22 : decode prog_8_method_24_code 22 = .ok (.if_icmp .gt 15, 3) := by decide +kernel
theorem dR_putCells_25 : decode prog_8_method_24_code 25 = .ok (.aload_n 0, 1) := by decide +kernel
theorem dR_putCells_26 : decode prog_8_method_24_code 26 = .ok (.getfield 15, 3) := by decide +kernel
theorem dR_putCells_29 : decode prog_8_method_24_code 29 = .ok (.iload_n 3, 1) := by decide +kernel
theorem dR_putCells_30 : decode prog_8_method_24_code 30 = .ok (.iadd, 1) := by decide +kernel
theorem dR_putCells_31 : decode prog_8_method_24_code 31 = .ok (.sipush 4096, 3) := by decide +kernel
theorem dR_putCells_34 : decode prog_8_method_24_code 34 = .ok (.if_icmp .le 9, 3) := by decide +kernel
theorem dR_putCells_37 : decode prog_8_method_24_code 37 = .ok (.aload_n 0, 1) := by decide +kernel
theorem dR_putCells_38 : decode prog_8_method_24_code 38 = .ok (.iconst 1, 1) := by decide +kernel
theorem dR_putCells_39 : decode prog_8_method_24_code 39 = .ok (.putfield 19, 3) := by decide +kernel
theorem dR_putCells_42 : decode prog_8_method_24_code 42 = .ok (.return_, 1) := by decide +kernel
theorem dR_putCells_43 : decode prog_8_method_24_code 43 = .ok (.aload_n 1, 1) := by decide +kernel
theorem dR_putCells_44 : decode prog_8_method_24_code 44 = .ok (.getfield 9, 3) := by decide +kernel
theorem dR_putCells_47 : decode prog_8_method_24_code 47 = .ok (.iload_n 2, 1) := by decide +kernel
theorem dR_putCells_48 : decode prog_8_method_24_code 48 = .ok (.aload_n 0, 1) := by decide +kernel
theorem dR_putCells_49 : decode prog_8_method_24_code 49 = .ok (.getfield 9, 3) := by decide +kernel
theorem dR_putCells_52 : decode prog_8_method_24_code 52 = .ok (.aload_n 0, 1) := by decide +kernel
theorem dR_putCells_53 : decode prog_8_method_24_code 53 = .ok (.getfield 15, 3) := by decide +kernel
theorem dR_putCells_56 : decode prog_8_method_24_code 56 = .ok (.iload_n 3, 1) := by decide +kernel
theorem dR_putCells_57 : decode prog_8_method_24_code 57 = .ok (.invokestatic 81, 3) := by decide +kernel
theorem dR_putCells_60 : decode prog_8_method_24_code 60 = .ok (.aload_n 0, 1) := by decide +kernel
theorem dR_putCells_61 : decode prog_8_method_24_code 61 = .ok (.dup, 1) := by decide +kernel
theorem dR_putCells_62 : decode prog_8_method_24_code 62 = .ok (.getfield 15, 3) := by decide +kernel
theorem dR_putCells_65 : decode prog_8_method_24_code 65 = .ok (.iload_n 3, 1) := by decide +kernel
theorem dR_putCells_66 : decode prog_8_method_24_code 66 = .ok (.iadd, 1) := by decide +kernel
theorem dR_putCells_67 : decode prog_8_method_24_code 67 = .ok (.putfield 15, 3) := by decide +kernel
theorem dR_putCells_70 : decode prog_8_method_24_code 70 = .ok (.return_, 1) := by decide +kernel
theorem dR_putCopy_0 : decode prog_8_method_22_code 0 = .ok (.aload_n 0, 1) := by decide +kernel
theorem dR_putCopy_1 : decode prog_8_method_22_code 1 = .ok (.aload_n 1, 1) := by decide +kernel
theorem dR_putCopy_2 : decode prog_8_method_22_code 2 = .ok (.iload_n 2, 1) := by decide +kernel
theorem dR_putCopy_3 : decode prog_8_method_22_code 3 = .ok (.aload_n 1, 1) := by decide +kernel
theorem dR_putCopy_4 : decode prog_8_method_22_code 4 = .ok (.iload_n 2, 1) := by decide +kernel
theorem dR_putCopy_5 : decode prog_8_method_22_code 5 = .ok (.invokevirtual 35, 3) := by decide +kernel
theorem dR_putCopy_8 : decode prog_8_method_22_code 8 = .ok (.iload_n 2, 1) := by decide +kernel
theorem dR_putCopy_9 : decode prog_8_method_22_code 9 = .ok (.isub, 1) := by decide +kernel
theorem dR_putCopy_10 : decode prog_8_method_22_code 10 = .ok (.invokevirtual 77, 3) := by decide +kernel
theorem dR_putCopy_13 : decode prog_8_method_22_code 13 = .ok (.return_, 1) := by decide +kernel
theorem dR_putInside_0 : decode prog_8_method_23_code 0 = .ok (.aload_n 0, 1) := by decide +kernel
theorem dR_putInside_1 : decode prog_8_method_23_code 1 = .ok (.aload_n 1, 1) := by decide +kernel
theorem dR_putInside_2 : decode prog_8_method_23_code 2 = .ok (.iload_n 2, 1) := by decide +kernel
theorem dR_putInside_3 : decode prog_8_method_23_code 3 = .ok (.iconst 1, 1) := by decide +kernel
theorem dR_putInside_4 : decode prog_8_method_23_code 4 = .ok (.iadd, 1) := by decide +kernel
theorem dR_putInside_5 : decode prog_8_method_23_code 5 = .ok (.aload_n 1, 1) := by decide +kernel
theorem dR_putInside_6 : decode prog_8_method_23_code 6 = .ok (.iload_n 2, 1) := by decide +kernel
theorem dR_putInside_7 : decode prog_8_method_23_code 7 = .ok (.invokevirtual 35, 3) := by decide +kernel
theorem dR_putInside_10 : decode prog_8_method_23_code 10 = .ok (.iload_n 2, 1) := by decide +kernel
theorem dR_putInside_11 : decode prog_8_method_23_code 11 = .ok (.isub, 1) := by decide +kernel
theorem dR_putInside_12 : decode prog_8_method_23_code 12 = .ok (.iconst 1, 1) := by decide +kernel
theorem dR_putInside_13 : decode prog_8_method_23_code 13 = .ok (.isub, 1) := by decide +kernel
theorem dR_putInside_14 : decode prog_8_method_23_code 14 = .ok (.invokevirtual 77, 3) := by decide +kernel
theorem dR_putInside_17 : decode prog_8_method_23_code 17 = .ok (.return_, 1) := by decide +kernel
theorem dR_putNull_0 : decode prog_8_method_19_code 0 = .ok (.aload_n 0, 1) := by decide +kernel
theorem dR_putNull_1 : decode prog_8_method_19_code 1 = .ok (.lconst 0, 1) := by decide +kernel
theorem dR_putNull_2 : decode prog_8_method_19_code 2 = .ok (.invokevirtual 52, 3) := by decide +kernel
theorem dR_putNull_5 : decode prog_8_method_19_code 5 = .ok (.return_, 1) := by decide +kernel
theorem dR_putNumber_0 : decode prog_8_method_17_code 0 = .ok (.aload_n 0, 1) := by decide +kernel
theorem dR_putNumber_1 : decode prog_8_method_17_code 1 = .ok (.lload_n 1, 1) := by decide +kernel
theorem dR_putNumber_2 : decode prog_8_method_17_code 2 = .ok (.iconst 3, 1) := by decide +kernel
theorem dR_putNumber_3 : decode prog_8_method_17_code 3 = .ok (.lshl, 1) := by decide +kernel
theorem dR_putNumber_4 : decode prog_8_method_17_code 4 = .ok (.ldc2_w 50, 3) := by decide +kernel
theorem dR_putNumber_7 : decode prog_8_method_17_code 7 = .ok (.lor, 1) := by decide +kernel
theorem dR_putNumber_8 : decode prog_8_method_17_code 8 = .ok (.invokevirtual 52, 3) := by decide +kernel
theorem dR_putNumber_11 : decode prog_8_method_17_code 11 = .ok (.return_, 1) := by decide +kernel
theorem dR_putPart_0 : decode prog_8_method_21_code 0 = .ok (.aload_n 0, 1) := by decide +kernel
theorem dR_putPart_1 : decode prog_8_method_21_code 1 = .ok (.invokevirtual 58, 3) := by decide +kernel
theorem dR_putPart_4 : decode prog_8_method_21_code 4 = .ok (.istore 5, 2) := by decide +kernel
theorem dR_putPart_6 : decode prog_8_method_21_code 6 = .ok (.aload_n 0, 1) := by decide +kernel
theorem dR_putPart_7 : decode prog_8_method_21_code 7 = .ok (.aload_n 1, 1) := by decide +kernel
theorem dR_putPart_8 : decode prog_8_method_21_code 8 = .ok (.iload_n 2, 1) := by decide +kernel
theorem dR_putPart_9 : decode prog_8_method_21_code 9 = .ok (.iconst 1, 1) := by decide +kernel
theorem dR_putPart_10 : decode prog_8_method_21_code 10 = .ok (.iadd, 1) := by decide +kernel
theorem dR_putPart_11 : decode prog_8_method_21_code 11 = .ok (.iload_n 3, 1) := by decide +kernel
theorem dR_putPart_12 : decode prog_8_method_21_code 12 = .ok (.iadd, 1) := by decide +kernel
theorem dR_putPart_13 : decode prog_8_method_21_code 13 = .ok (.iload 4, 2) := by decide +kernel
theorem dR_putPart_15 : decode prog_8_method_21_code 15 = .ok (.iload_n 3, 1) := by decide +kernel
theorem dR_putPart_16 : decode prog_8_method_21_code 16 = .ok (.isub, 1) := by decide +kernel
theorem dR_putPart_17 : decode prog_8_method_21_code 17 = .ok (.invokevirtual 77, 3) := by decide +kernel
theorem dR_putPart_20 : decode prog_8_method_21_code 20 = .ok (.aload_n 0, 1) := by decide +kernel
theorem dR_putPart_21 : decode prog_8_method_21_code 21 = .ok (.iload 5, 2) := by decide +kernel
theorem dR_putPart_23 : decode prog_8_method_21_code 23 = .ok (.iconst 4, 1) := by decide +kernel
theorem dR_putPart_24 : decode prog_8_method_21_code 24 = .ok (.iload 4, 2) := by decide +kernel
theorem dR_putPart_26 : decode prog_8_method_21_code 26 = .ok (.iload_n 3, 1) := by decide +kernel
theorem dR_putPart_27 : decode prog_8_method_21_code 27 = .ok (.isub, 1) := by decide +kernel
theorem dR_putPart_28 : decode prog_8_method_21_code 28 = .ok (.invokevirtual 69, 3) := by decide +kernel
theorem dR_putPart_31 : decode prog_8_method_21_code 31 = .ok (.return_, 1) := by decide +kernel
theorem dR_putText_0 : decode prog_8_method_20_code 0 = .ok (.aload_n 0, 1) := by decide +kernel
theorem dR_putText_1 : decode prog_8_method_20_code 1 = .ok (.invokevirtual 58, 3) := by decide +kernel
theorem dR_putText_4 : decode prog_8_method_20_code 4 = .ok (.istore_n 2, 1) := by decide +kernel
theorem dR_putText_5 : decode prog_8_method_20_code 5 = .ok (.iconst 0, 1) := by decide +kernel
theorem dR_putText_6 : decode prog_8_method_20_code 6 = .ok (.istore_n 3, 1) := by decide +kernel
theorem dR_putText_7 : decode prog_8_method_20_code 7 = .ok (.iload_n 3, 1) := by decide +kernel
theorem dR_putText_8 : decode prog_8_method_20_code 8 = .ok (.aload_n 1, 1) := by decide +kernel
theorem dR_putText_9 : decode prog_8_method_20_code 9 = .ok (.invokevirtual 62, 3) := by decide +kernel
theorem dR_putText_12 : decode prog_8_method_20_code 12 = .ok (.if_icmp .ge 19, 3) := by decide +kernel
theorem dR_putText_15 : decode prog_8_method_20_code 15 = .ok (.aload_n 0, 1) := by decide +kernel
theorem dR_putText_16 : decode prog_8_method_20_code 16 = .ok (.aload_n 1, 1) := by decide +kernel
theorem dR_putText_17 : decode prog_8_method_20_code 17 = .ok (.iload_n 3, 1) := by decide +kernel
theorem dR_putText_18 : decode prog_8_method_20_code 18 = .ok (.invokevirtual 66, 3) := by decide +kernel
theorem dR_putText_21 : decode prog_8_method_20_code 21 = .ok (.i2l, 1) := by decide +kernel
theorem dR_putText_22 : decode prog_8_method_20_code 22 = .ok (.invokevirtual 52, 3) := by decide +kernel
theorem dR_putText_25 : decode prog_8_method_20_code 25 = .ok (.iinc 3 1, 3) := by decide +kernel
theorem dR_putText_28 : decode prog_8_method_20_code 28 = .ok (.goto (-21), 3) := by decide +kernel
theorem dR_putText_31 : decode prog_8_method_20_code 31 = .ok (.aload_n 0, 1) := by decide +kernel
theorem dR_putText_32 : decode prog_8_method_20_code 32 = .ok (.iload_n 2, 1) := by decide +kernel
theorem dR_putText_33 : decode prog_8_method_20_code 33 = .ok (.iconst 4, 1) := by decide +kernel
theorem dR_putText_34 : decode prog_8_method_20_code 34 = .ok (.aload_n 1, 1) := by decide +kernel
theorem dR_putText_35 : decode prog_8_method_20_code 35 = .ok (.invokevirtual 62, 3) := by decide +kernel
theorem dR_putText_38 : decode prog_8_method_20_code 38 = .ok (.invokevirtual 69, 3) := by decide +kernel
theorem dR_putText_41 : decode prog_8_method_20_code 41 = .ok (.aload_n 0, 1) := by decide +kernel
theorem dR_putText_42 : decode prog_8_method_20_code 42 = .ok (.aload_n 0, 1) := by decide +kernel
theorem dR_putText_43 : decode prog_8_method_20_code 43 = .ok (.getfield 19, 3) := by decide +kernel
theorem dR_putText_46 : decode prog_8_method_20_code 46 = .ok (.ifCond .ne 10, 3) := by decide +kernel
theorem dR_putText_49 : decode prog_8_method_20_code 49 = .ok (.aload_n 1, 1) := by decide +kernel
theorem dR_putText_50 : decode prog_8_method_20_code 50 = .ok (.invokevirtual 73, 3) := by decide +kernel
theorem dR_putText_53 : decode prog_8_method_20_code 53 = .ok (.ifCond .eq 7, 3) := by decide +kernel
theorem dR_putText_56 : decode prog_8_method_20_code 56 = .ok (.iconst 1, 1) := by decide +kernel
theorem dR_putText_57 : decode prog_8_method_20_code 57 = .ok (.goto 4, 3) := by decide +kernel
theorem dR_putText_60 : decode prog_8_method_20_code 60 = .ok (.iconst 0, 1) := by decide +kernel
theorem dR_putText_61 : decode prog_8_method_20_code 61 = .ok (.putfield 19, 3) := by decide +kernel
theorem dR_putText_64 : decode prog_8_method_20_code 64 = .ok (.return_, 1) := by decide +kernel
theorem dR_putTruth_0 : decode prog_8_method_18_code 0 = .ok (.aload_n 0, 1) := by decide +kernel
theorem dR_putTruth_1 : decode prog_8_method_18_code 1 = .ok (.iload_n 1, 1) := by decide +kernel
theorem dR_putTruth_2 : decode prog_8_method_18_code 2 = .ok (.ifCond .eq 9, 3) := by decide +kernel
theorem dR_putTruth_5 : decode prog_8_method_18_code 5 = .ok (.ldc2_w 56, 3) := by decide +kernel
theorem dR_putTruth_8 : decode prog_8_method_18_code 8 = .ok (.goto 4, 3) := by decide +kernel
theorem dR_putTruth_11 : decode prog_8_method_18_code 11 = .ok (.lconst 1, 1) := by decide +kernel
theorem dR_putTruth_12 : decode prog_8_method_18_code 12 = .ok (.invokevirtual 52, 3) := by decide +kernel
theorem dR_putTruth_15 : decode prog_8_method_18_code 15 = .ok (.return_, 1) := by decide +kernel
theorem dR_size_0 : decode prog_8_method_3_code 0 = .ok (.aload_n 0, 1) := by decide +kernel
theorem dR_size_1 : decode prog_8_method_3_code 1 = .ok (.getfield 15, 3) := by decide +kernel
theorem dR_size_4 : decode prog_8_method_3_code 4 = .ok (.ireturn, 1) := by decide +kernel
theorem dR_valueOf_0 : decode prog_8_method_13_code 0 = .ok (.iload_n 1, 1) := by decide +kernel
theorem dR_valueOf_1 : decode prog_8_method_13_code 1 = .ok (.iconst 1, 1) := by decide +kernel
theorem dR_valueOf_2 : decode prog_8_method_13_code 2 = .ok (.iadd, 1) := by decide +kernel
theorem dR_valueOf_3 : decode prog_8_method_13_code 3 = .ok (.istore 4, 2) := by decide +kernel
theorem dR_valueOf_5 : decode prog_8_method_13_code 5 = .ok (.iconst 0, 1) := by decide +kernel
theorem dR_valueOf_6 : decode prog_8_method_13_code 6 = .ok (.istore 5, 2) := by decide +kernel
theorem dR_valueOf_8 : decode prog_8_method_13_code 8 = .ok (.iload 5, 2) := by decide +kernel
theorem dR_valueOf_10 : decode prog_8_method_13_code 10 = .ok (.aload_n 0, 1) := by decide +kernel
theorem dR_valueOf_11 : decode prog_8_method_13_code 11 = .ok (.iload_n 1, 1) := by decide +kernel
theorem dR_valueOf_12 : decode prog_8_method_13_code 12 = .ok (.invokevirtual 32, 3) := by decide +kernel
theorem dR_valueOf_15 : decode prog_8_method_13_code 15 = .ok (.if_icmp .ge 54, 3) := by decide +kernel
theorem dR_valueOf_18 : decode prog_8_method_13_code 18 = .ok (.aload_n 0, 1) := by decide +kernel
theorem dR_valueOf_19 : decode prog_8_method_13_code 19 = .ok (.iload 4, 2) := by decide +kernel
theorem dR_valueOf_21 : decode prog_8_method_13_code 21 = .ok (.invokevirtual 35, 3) := by decide +kernel
theorem dR_valueOf_24 : decode prog_8_method_13_code 24 = .ok (.istore 6, 2) := by decide +kernel
theorem dR_valueOf_26 : decode prog_8_method_13_code 26 = .ok (.aload_n 0, 1) := by decide +kernel
theorem dR_valueOf_27 : decode prog_8_method_13_code 27 = .ok (.iload 4, 2) := by decide +kernel
theorem dR_valueOf_29 : decode prog_8_method_13_code 29 = .ok (.invokevirtual 38, 3) := by decide +kernel
theorem dR_valueOf_32 : decode prog_8_method_13_code 32 = .ok (.aload_n 2, 1) := by decide +kernel
theorem dR_valueOf_33 : decode prog_8_method_13_code 33 = .ok (.iload_n 3, 1) := by decide +kernel
theorem dR_valueOf_34 : decode prog_8_method_13_code 34 = .ok (.invokevirtual 38, 3) := by decide +kernel
theorem dR_valueOf_37 : decode prog_8_method_13_code 37 = .ok (.lcmp, 1) := by decide +kernel
theorem dR_valueOf_38 : decode prog_8_method_13_code 38 = .ok (.ifCond .ne 17, 3) := by decide +kernel
theorem dR_valueOf_41 : decode prog_8_method_13_code 41 = .ok (.aload_n 0, 1) := by decide +kernel
theorem dR_valueOf_42 : decode prog_8_method_13_code 42 = .ok (.iload 4, 2) := by decide +kernel
theorem dR_valueOf_44 : decode prog_8_method_13_code 44 = .ok (.aload_n 2, 1) := by decide +kernel
theorem dR_valueOf_45 : decode prog_8_method_13_code 45 = .ok (.iload_n 3, 1) := by decide +kernel
theorem dR_valueOf_46 : decode prog_8_method_13_code 46 = .ok (.invokevirtual 42, 3) := by decide +kernel
theorem dR_valueOf_49 : decode prog_8_method_13_code 49 = .ok (.ifCond .ne 6, 3) := by decide +kernel
theorem dR_valueOf_52 : decode prog_8_method_13_code 52 = .ok (.iload 6, 2) := by decide +kernel
theorem dR_valueOf_54 : decode prog_8_method_13_code 54 = .ok (.ireturn, 1) := by decide +kernel
theorem dR_valueOf_55 : decode prog_8_method_13_code 55 = .ok (.aload_n 0, 1) := by decide +kernel
theorem dR_valueOf_56 : decode prog_8_method_13_code 56 = .ok (.iload 6, 2) := by decide +kernel
theorem dR_valueOf_58 : decode prog_8_method_13_code 58 = .ok (.invokevirtual 35, 3) := by decide +kernel
theorem dR_valueOf_61 : decode prog_8_method_13_code 61 = .ok (.istore 4, 2) := by decide +kernel
theorem dR_valueOf_63 : decode prog_8_method_13_code 63 = .ok (.iinc 5 1, 3) := by decide +kernel
theorem dR_valueOf_66 : decode prog_8_method_13_code 66 = .ok (.goto (-58), 3) := by decide +kernel
theorem dR_valueOf_69 : decode prog_8_method_13_code 69 = .ok (.iconst (-1), 1) := by decide +kernel
theorem dR_valueOf_70 : decode prog_8_method_13_code 70 = .ok (.ireturn, 1) := by decide +kernel
theorem dS_init_0 : decode prog_10_method_1_code 0 = .ok (.aload_n 0, 1) := by decide +kernel
theorem dS_init_1 : decode prog_10_method_1_code 1 = .ok (.invokespecial 3, 3) := by decide +kernel
theorem dS_init_4 : decode prog_10_method_1_code 4 = .ok (.aload_n 0, 1) := by decide +kernel
theorem dS_init_5 : decode prog_10_method_1_code 5 = .ok (.sipush 2048, 3) := by decide +kernel
theorem dS_init_8 : decode prog_10_method_1_code 8 = .ok (.newarray .int, 2) := by decide +kernel
theorem dS_init_10 : decode prog_10_method_1_code 10 = .ok (.putfield 11, 3) := by decide +kernel
theorem dS_init_13 : decode prog_10_method_1_code 13 = .ok (.aload_n 0, 1) := by decide +kernel
theorem dS_init_14 : decode prog_10_method_1_code 14 = .ok (.sipush 2048, 3) := by decide +kernel
theorem dS_init_17 : decode prog_10_method_1_code 17 = .ok (.newarray .int, 2) := by decide +kernel
theorem dS_init_19 : decode prog_10_method_1_code 19 = .ok (.putfield 15, 3) := by decide +kernel
theorem dS_init_22 : decode prog_10_method_1_code 22 = .ok (.aload_n 0, 1) := by decide +kernel
theorem dS_init_23 : decode prog_10_method_1_code 23 = .ok (.sipush 2048, 3) := by decide +kernel
theorem dS_init_26 : decode prog_10_method_1_code 26 = .ok (.newarray .int, 2) := by decide +kernel
theorem dS_init_28 : decode prog_10_method_1_code 28 = .ok (.putfield 18, 3) := by decide +kernel
theorem dS_init_31 : decode prog_10_method_1_code 31 = .ok (.aload_n 0, 1) := by decide +kernel
theorem dS_init_32 : decode prog_10_method_1_code 32 = .ok (.sipush 2048, 3) := by decide +kernel
theorem dS_init_35 : decode prog_10_method_1_code 35 = .ok (.newarray .int, 2) := by decide +kernel
theorem dS_init_37 : decode prog_10_method_1_code 37 = .ok (.putfield 21, 3) := by decide +kernel
theorem dS_init_40 : decode prog_10_method_1_code 40 = .ok (.aload_n 0, 1) := by decide +kernel
theorem dS_init_41 : decode prog_10_method_1_code 41 = .ok (.iconst 0, 1) := by decide +kernel
theorem dS_init_42 : decode prog_10_method_1_code 42 = .ok (.putfield 24, 3) := by decide +kernel
theorem dS_init_45 : decode prog_10_method_1_code 45 = .ok (.return_, 1) := by decide +kernel
theorem dT_add_0 : decode prog_11_method_8_code 0 = .ok (.aload_n 0, 1) := by decide +kernel
theorem dT_add_1 : decode prog_11_method_8_code 1 = .ok (.getfield 15, 3) := by decide +kernel
theorem dT_add_4 : decode prog_11_method_8_code 4 = .ok (.sipush 4096, 3) := by decide +kernel
theorem dT_add_7 : decode prog_11_method_8_code 7 = .ok (.if_icmp .lt 9, 3) := by decide +kernel
theorem dT_add_10 : decode prog_11_method_8_code 10 = .ok (.aload_n 0, 1) := by decide +kernel
theorem dT_add_11 : decode prog_11_method_8_code 11 = .ok (.iconst 1, 1) := by decide +kernel
theorem dT_add_12 : decode prog_11_method_8_code 12 = .ok (.putfield 19, 3) := by decide +kernel
theorem dT_add_15 : decode prog_11_method_8_code 15 = .ok (.return_, 1) := by decide +kernel
theorem dT_add_16 : decode prog_11_method_8_code 16 = .ok (.aload_n 0, 1) := by decide +kernel
theorem dT_add_17 : decode prog_11_method_8_code 17 = .ok (.getfield 9, 3) := by decide +kernel
theorem dT_add_20 : decode prog_11_method_8_code 20 = .ok (.aload_n 0, 1) := by decide +kernel
theorem dT_add_21 : decode prog_11_method_8_code 21 = .ok (.getfield 15, 3) := by decide +kernel
theorem dT_add_24 : decode prog_11_method_8_code 24 = .ok (.iload_n 1, 1) := by decide +kernel
theorem dT_add_25 : decode prog_11_method_8_code 25 = .ok (.i2b, 1) := by decide +kernel
theorem dT_add_26 : decode prog_11_method_8_code 26 = .ok (.bastore, 1) := by decide +kernel
theorem dT_add_27 : decode prog_11_method_8_code 27 = .ok (.aload_n 0, 1) := by decide +kernel
theorem dT_add_28 : decode prog_11_method_8_code 28 = .ok (.dup, 1) := by decide +kernel
theorem dT_add_29 : decode prog_11_method_8_code 29 = .ok (.getfield 15, 3) := by decide +kernel
theorem dT_add_32 : decode prog_11_method_8_code 32 = .ok (.iconst 1, 1) := by decide +kernel
theorem dT_add_33 : decode prog_11_method_8_code 33 = .ok (.iadd, 1) := by decide +kernel
theorem dT_add_34 : decode prog_11_method_8_code 34 = .ok (.putfield 15, 3) := by decide +kernel
theorem dT_add_37 : decode prog_11_method_8_code 37 = .ok (.return_, 1) := by decide +kernel
theorem dT_addInt_0 : decode prog_11_method_9_code 0 = .ok (.bipush 24, 2) := by decide +kernel
theorem dT_addInt_2 : decode prog_11_method_9_code 2 = .ok (.istore_n 2, 1) := by decide +kernel
theorem dT_addInt_3 : decode prog_11_method_9_code 3 = .ok (.iload_n 2, 1) := by decide +kernel
theorem dT_addInt_4 : decode prog_11_method_9_code 4 = .ok (.ifCond .lt 16, 3) := by decide +kernel
theorem dT_addInt_7 : decode prog_11_method_9_code 7 = .ok (.aload_n 0, 1) := by decide +kernel
theorem dT_addInt_8 : decode prog_11_method_9_code 8 = .ok (.iload_n 1, 1) := by decide +kernel
theorem dT_addInt_9 : decode prog_11_method_9_code 9 = .ok (.iload_n 2, 1) := by decide +kernel
theorem dT_addInt_10 : decode prog_11_method_9_code 10 = .ok (.ishr, 1) := by decide +kernel
theorem dT_addInt_11 : decode prog_11_method_9_code 11 = .ok (.invokevirtual 32, 3) := by decide +kernel
theorem dT_addInt_14 : decode prog_11_method_9_code 14 = .ok (.iinc 2 (-8), 3) := by decide +kernel
theorem dT_addInt_17 : decode prog_11_method_9_code 17 = .ok (.goto (-14), 3) := by decide +kernel
theorem dT_addInt_20 : decode prog_11_method_9_code 20 = .ok (.return_, 1) := by decide +kernel
theorem dT_addNumber_0 : decode prog_11_method_12_code 0 = .ok (.lload_n 1, 1) := by decide +kernel
theorem dT_addNumber_1 : decode prog_11_method_12_code 1 = .ok (.lconst 0, 1) := by decide +kernel
theorem dT_addNumber_2 : decode prog_11_method_12_code 2 = .ok (.lcmp, 1) := by decide +kernel
theorem dT_addNumber_3 : decode prog_11_method_12_code 3 = .ok (.ifCond .ge 9, 3) := by decide +kernel
theorem dT_addNumber_6 : decode prog_11_method_12_code 6 = .ok (.aload_n 0, 1) := by decide +kernel
theorem dT_addNumber_7 : decode prog_11_method_12_code 7 = .ok (.bipush 45, 2) := by decide +kernel
theorem dT_addNumber_9 : decode prog_11_method_12_code 9 = .ok (.invokevirtual 32, 3) := by decide +kernel
theorem dT_addNumber_12 : decode prog_11_method_12_code 12 = .ok (.lload_n 1, 1) := by decide +kernel
theorem dT_addNumber_13 : decode prog_11_method_12_code 13 = .ok (.invokestatic 53, 3) := by decide +kernel
theorem dT_addNumber_16 : decode prog_11_method_12_code 16 = .ok (.lstore_n 3, 1) := by decide +kernel
theorem dT_addNumber_17 : decode prog_11_method_12_code 17 = .ok (.lconst 1, 1) := by decide +kernel
theorem dT_addNumber_18 : decode prog_11_method_12_code 18 = .ok (.lstore 5, 2) := by decide +kernel
theorem dT_addNumber_20 : decode prog_11_method_12_code 20 = .ok (.lload 5, 2) := by decide +kernel
theorem dT_addNumber_22 : decode prog_11_method_12_code 22 = .ok (.ldc2_w 57, 3) := by decide +kernel
theorem dT_addNumber_25 : decode prog_11_method_12_code 25 = .ok (.lcmp, 1) := by decide +kernel
theorem dT_addNumber_26 : decode prog_11_method_12_code 26 = .ok (.ifCond .gt 25, 3) := by decide +kernel
theorem dT_addNumber_29 : decode prog_11_method_12_code 29 = .ok (.lload_n 3, 1) := by decide +kernel
theorem dT_addNumber_30 : decode prog_11_method_12_code 30 = .ok (.lload 5, 2) := by decide +kernel
theorem dT_addNumber_32 : decode prog_11_method_12_code 32 = .ok (.ldiv, 1) := by decide +kernel
theorem dT_addNumber_33 : decode prog_11_method_12_code 33 = .ok (.ldc2_w 59, 3) := by decide +kernel
theorem dT_addNumber_36 : decode prog_11_method_12_code 36 = .ok (.lcmp, 1) := by decide +kernel
theorem dT_addNumber_37 : decode prog_11_method_12_code 37 = .ok (.ifCond .lt 14, 3) := by decide +kernel
theorem dT_addNumber_40 : decode prog_11_method_12_code 40 = .ok (.lload 5, 2) := by decide +kernel
theorem dT_addNumber_42 : decode prog_11_method_12_code 42 = .ok (.ldc2_w 59, 3) := by decide +kernel
theorem dT_addNumber_45 : decode prog_11_method_12_code 45 = .ok (.lmul, 1) := by decide +kernel
theorem dT_addNumber_46 : decode prog_11_method_12_code 46 = .ok (.lstore 5, 2) := by decide +kernel
theorem dT_addNumber_48 : decode prog_11_method_12_code 48 = .ok (.goto (-28), 3) := by decide +kernel
theorem dT_addNumber_51 : decode prog_11_method_12_code 51 = .ok (.lload 5, 2) := by decide +kernel
theorem dT_addNumber_53 : decode prog_11_method_12_code 53 = .ok (.lconst 0, 1) := by decide +kernel
theorem dT_addNumber_54 : decode prog_11_method_12_code 54 = .ok (.lcmp, 1) := by decide +kernel
theorem dT_addNumber_55 : decode prog_11_method_12_code 55 = .ok (.ifCond .le 31, 3) := by decide +kernel
theorem dT_addNumber_58 : decode prog_11_method_12_code 58 = .ok (.aload_n 0, 1) := by decide +kernel
theorem dT_addNumber_59 : decode prog_11_method_12_code 59 = .ok (.ldc2_w 61, 3) := by decide +kernel
theorem dT_addNumber_62 : decode prog_11_method_12_code 62 = .ok (.lload_n 3, 1) := by decide +kernel
theorem dT_addNumber_63 : decode prog_11_method_12_code 63 = .ok (.lload 5, 2) := by decide +kernel
theorem dT_addNumber_65 : decode prog_11_method_12_code 65 = .ok (.ldiv, 1) := by decide +kernel
theorem dT_addNumber_66 : decode prog_11_method_12_code 66 = .ok (.ldc2_w 59, 3) := by decide +kernel
theorem dT_addNumber_69 : decode prog_11_method_12_code 69 = .ok (.lrem, 1) := by decide +kernel
theorem dT_addNumber_70 : decode prog_11_method_12_code 70 = .ok (.ladd, 1) := by decide +kernel
theorem dT_addNumber_71 : decode prog_11_method_12_code 71 = .ok (.l2i, 1) := by decide +kernel
theorem dT_addNumber_72 : decode prog_11_method_12_code 72 = .ok (.invokevirtual 32, 3) := by decide +kernel
theorem dT_addNumber_75 : decode prog_11_method_12_code 75 = .ok (.lload 5, 2) := by decide +kernel
theorem dT_addNumber_77 : decode prog_11_method_12_code 77 = .ok (.ldc2_w 59, 3) := by decide +kernel
theorem dT_addNumber_80 : decode prog_11_method_12_code 80 = .ok (.ldiv, 1) := by decide +kernel
theorem dT_addNumber_81 : decode prog_11_method_12_code 81 = .ok (.lstore 5, 2) := by decide +kernel
theorem dT_addNumber_83 : decode prog_11_method_12_code 83 = .ok (.goto (-32), 3) := by decide +kernel
theorem dT_addNumber_86 : decode prog_11_method_12_code 86 = .ok (.return_, 1) := by decide +kernel
theorem dT_addString_0 : decode prog_11_method_11_code 0 = .ok (.iconst 0, 1) := by decide +kernel
theorem dT_addString_1 : decode prog_11_method_11_code 1 = .ok (.istore_n 3, 1) := by decide +kernel
theorem dT_addString_2 : decode prog_11_method_11_code 2 = .ok (.iload_n 3, 1) := by decide +kernel
theorem dT_addString_3 : decode prog_11_method_11_code 3 = .ok (.aload_n 1, 1) := by decide +kernel
theorem dT_addString_4 : decode prog_11_method_11_code 4 = .ok (.iload_n 2, 1) := by decide +kernel
theorem dT_addString_5 : decode prog_11_method_11_code 5 = .ok (.invokevirtual 45, 3) := by decide +kernel
theorem dT_addString_8 : decode prog_11_method_11_code 8 = .ok (.if_icmp .ge 19, 3) := by decide +kernel
theorem dT_addString_11 : decode prog_11_method_11_code 11 = .ok (.aload_n 0, 1) := by decide +kernel
theorem dT_addString_12 : decode prog_11_method_11_code 12 = .ok (.aload_n 1, 1) := by decide +kernel
theorem dT_addString_13 : decode prog_11_method_11_code 13 = .ok (.iload_n 2, 1) := by decide +kernel
theorem dT_addString_14 : decode prog_11_method_11_code 14 = .ok (.iload_n 3, 1) := by decide +kernel
theorem dT_addString_15 : decode prog_11_method_11_code 15 = .ok (.invokevirtual 50, 3) := by decide +kernel
theorem dT_addString_18 : decode prog_11_method_11_code 18 = .ok (.invokevirtual 32, 3) := by decide +kernel
theorem dT_addString_21 : decode prog_11_method_11_code 21 = .ok (.iinc 3 1, 3) := by decide +kernel
theorem dT_addString_24 : decode prog_11_method_11_code 24 = .ok (.goto (-22), 3) := by decide +kernel
theorem dT_addString_27 : decode prog_11_method_11_code 27 = .ok (.return_, 1) := by decide +kernel
theorem dT_addWord_0 : decode prog_11_method_10_code 0 = .ok (.iconst 0, 1) := by decide +kernel
theorem dT_addWord_1 : decode prog_11_method_10_code 1 = .ok (.istore_n 2, 1) := by decide +kernel
theorem dT_addWord_2 : decode prog_11_method_10_code 2 = .ok (.iload_n 2, 1) := by decide +kernel
theorem dT_addWord_3 : decode prog_11_method_10_code 3 = .ok (.aload_n 1, 1) := by decide +kernel
theorem dT_addWord_4 : decode prog_11_method_10_code 4 = .ok (.invokevirtual 36, 3) := by decide +kernel
theorem dT_addWord_7 : decode prog_11_method_10_code 7 = .ok (.if_icmp .ge 18, 3) := by decide +kernel
theorem dT_addWord_10 : decode prog_11_method_10_code 10 = .ok (.aload_n 0, 1) := by decide +kernel
theorem dT_addWord_11 : decode prog_11_method_10_code 11 = .ok (.aload_n 1, 1) := by decide +kernel
theorem dT_addWord_12 : decode prog_11_method_10_code 12 = .ok (.iload_n 2, 1) := by decide +kernel
theorem dT_addWord_13 : decode prog_11_method_10_code 13 = .ok (.invokevirtual 41, 3) := by decide +kernel
theorem dT_addWord_16 : decode prog_11_method_10_code 16 = .ok (.invokevirtual 32, 3) := by decide +kernel
theorem dT_addWord_19 : decode prog_11_method_10_code 19 = .ok (.iinc 2 1, 3) := by decide +kernel
theorem dT_addWord_22 : decode prog_11_method_10_code 22 = .ok (.goto (-20), 3) := by decide +kernel
theorem dT_addWord_25 : decode prog_11_method_10_code 25 = .ok (.return_, 1) := by decide +kernel
theorem dT_at_0 : decode prog_11_method_7_code 0 = .ok (.iload_n 1, 1) := by decide +kernel
theorem dT_at_1 : decode prog_11_method_7_code 1 = .ok (.ifCond .lt 24, 3) := by decide +kernel
theorem dT_at_4 : decode prog_11_method_7_code 4 = .ok (.iload_n 1, 1) := by decide +kernel
theorem dT_at_5 : decode prog_11_method_7_code 5 = .ok (.aload_n 0, 1) := by decide +kernel
theorem dT_at_6 : decode prog_11_method_7_code 6 = .ok (.getfield 15, 3) := by decide +kernel
theorem dT_at_9 : decode prog_11_method_7_code 9 = .ok (.if_icmp .ge 16, 3) := by decide +kernel
theorem dT_at_12 : decode prog_11_method_7_code 12 = .ok (.aload_n 0, 1) := by decide +kernel
theorem dT_at_13 : decode prog_11_method_7_code 13 = .ok (.getfield 9, 3) := by decide +kernel
theorem dT_at_16 : decode prog_11_method_7_code 16 = .ok (.iload_n 1, 1) := by decide +kernel
theorem dT_at_17 : decode prog_11_method_7_code 17 = .ok (.baload, 1) := by decide +kernel
theorem dT_at_18 : decode prog_11_method_7_code 18 = .ok (.sipush 255, 3) := by decide +kernel
theorem dT_at_21 : decode prog_11_method_7_code 21 = .ok (.iand, 1) := by decide +kernel
theorem dT_at_22 : decode prog_11_method_7_code 22 = .ok (.goto 4, 3) := by decide +kernel
theorem dT_at_25 : decode prog_11_method_7_code 25 = .ok (.iconst (-1), 1) := by decide +kernel
theorem dT_at_26 : decode prog_11_method_7_code 26 = .ok (.ireturn, 1) := by decide +kernel
theorem dT_clear_0 : decode prog_11_method_2_code 0 = .ok (.aload_n 0, 1) := by decide +kernel
theorem dT_clear_1 : decode prog_11_method_2_code 1 = .ok (.iconst 0, 1) := by decide +kernel
theorem dT_clear_2 : decode prog_11_method_2_code 2 = .ok (.putfield 15, 3) := by decide +kernel
theorem dT_clear_5 : decode prog_11_method_2_code 5 = .ok (.aload_n 0, 1) := by decide +kernel
theorem dT_clear_6 : decode prog_11_method_2_code 6 = .ok (.iconst 0, 1) := by decide +kernel
theorem dT_clear_7 : decode prog_11_method_2_code 7 = .ok (.putfield 19, 3) := by decide +kernel
theorem dT_clear_10 : decode prog_11_method_2_code 10 = .ok (.return_, 1) := by decide +kernel
theorem dT_init_0 : decode prog_11_method_1_code 0 = .ok (.aload_n 0, 1) := by decide +kernel
theorem dT_init_1 : decode prog_11_method_1_code 1 = .ok (.invokespecial 3, 3) := by decide +kernel
theorem dT_init_4 : decode prog_11_method_1_code 4 = .ok (.aload_n 0, 1) := by decide +kernel
theorem dT_init_5 : decode prog_11_method_1_code 5 = .ok (.sipush 4096, 3) := by decide +kernel
theorem dT_init_8 : decode prog_11_method_1_code 8 = .ok (.newarray .byte, 2) := by decide +kernel
theorem dT_init_10 : decode prog_11_method_1_code 10 = .ok (.putfield 9, 3) := by decide +kernel
theorem dT_init_13 : decode prog_11_method_1_code 13 = .ok (.aload_n 0, 1) := by decide +kernel
theorem dT_init_14 : decode prog_11_method_1_code 14 = .ok (.iconst 0, 1) := by decide +kernel
theorem dT_init_15 : decode prog_11_method_1_code 15 = .ok (.putfield 15, 3) := by decide +kernel
theorem dT_init_18 : decode prog_11_method_1_code 18 = .ok (.aload_n 0, 1) := by decide +kernel
theorem dT_init_19 : decode prog_11_method_1_code 19 = .ok (.iconst 0, 1) := by decide +kernel
theorem dT_init_20 : decode prog_11_method_1_code 20 = .ok (.putfield 19, 3) := by decide +kernel
theorem dT_init_23 : decode prog_11_method_1_code 23 = .ok (.return_, 1) := by decide +kernel
theorem dT_isOver_0 : decode prog_11_method_5_code 0 = .ok (.aload_n 0, 1) := by decide +kernel
theorem dT_isOver_1 : decode prog_11_method_5_code 1 = .ok (.getfield 19, 3) := by decide +kernel
theorem dT_isOver_4 : decode prog_11_method_5_code 4 = .ok (.ireturn, 1) := by decide +kernel
theorem dT_keep_0 : decode prog_11_method_3_code 0 = .ok (.aload_n 0, 1) := by decide +kernel
theorem dT_keep_1 : decode prog_11_method_3_code 1 = .ok (.iconst 0, 1) := by decide +kernel
theorem dT_keep_2 : decode prog_11_method_3_code 2 = .ok (.iload_n 1, 1) := by decide +kernel
theorem dT_keep_3 : decode prog_11_method_3_code 3 = .ok (.aload_n 0, 1) := by decide +kernel
theorem dT_keep_4 : decode prog_11_method_3_code 4 = .ok (.getfield 15, 3) := by decide +kernel
theorem dT_keep_7 : decode prog_11_method_3_code 7 = .ok (.invokestatic 23, 3) := by decide +kernel
theorem dT_keep_10 : decode prog_11_method_3_code 10 = .ok (.invokestatic 29, 3) := by decide +kernel
theorem dT_keep_13 : decode prog_11_method_3_code 13 = .ok (.putfield 15, 3) := by decide +kernel
theorem dT_keep_16 : decode prog_11_method_3_code 16 = .ok (.return_, 1) := by decide +kernel
theorem dT_setOver_0 : decode prog_11_method_6_code 0 = .ok (.aload_n 0, 1) := by decide +kernel
theorem dT_setOver_1 : decode prog_11_method_6_code 1 = .ok (.iconst 1, 1) := by decide +kernel
theorem dT_setOver_2 : decode prog_11_method_6_code 2 = .ok (.putfield 19, 3) := by decide +kernel
theorem dT_setOver_5 : decode prog_11_method_6_code 5 = .ok (.return_, 1) := by decide +kernel
theorem dT_size_0 : decode prog_11_method_4_code 0 = .ok (.aload_n 0, 1) := by decide +kernel
theorem dT_size_1 : decode prog_11_method_4_code 1 = .ok (.getfield 15, 3) := by decide +kernel
theorem dT_size_4 : decode prog_11_method_4_code 4 = .ok (.ireturn, 1) := by decide +kernel
