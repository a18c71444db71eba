def TB : u_T := fun k => match k with
  | 0 => ("ValueBench", "tape", "LValueBench$Text;", true)
  | 1 => ("ValueBench", "result", "LValueBench$Text;", true)
  | 2 => ("ValueBench", "scratch", "LValueBench$Text;", true)
  | 3 => ("ValueBench", "registers", "[LValueBench$Row;", true)
  | 4 => ("ValueBench", "sorter", "LValueBench$Sorter;", true)
  | 5 => ("ValueBench", "spare", "LValueBench$Row;", false)
  | 6 => ("ValueBench", "place", "I", false)
  | _ => ("ValueBench", "reason", "I", false)
def tyB : Nat → FieldType := fun k => match k with
  | 0 => (.object "ValueBench$Text")
  | 1 => (.object "ValueBench$Text")
  | 2 => (.object "ValueBench$Text")
  | 3 => (.array (.object "ValueBench$Row"))
  | 4 => (.object "ValueBench$Sorter")
  | 5 => (.object "ValueBench$Row")
  | 6 => .int
  | _ => .int
theorem nmB : ∀ a, a < 8 → ∀ b, b < 8 → a ≠ b → (TB a).2.1 ≠ (TB b).2.1 := by decide +kernel
theorem tyB_ok : ∀ k, k < 8 → parseFieldDescriptor (TB k).2.2.1 = some (tyB k) := by decide +kernel
theorem inB : ∀ w ∈ u_ws "ValueBench" TB 8, w ∈ xw := List.forall_mem_cons.mpr ⟨xw_t (x_t1 (List.mem_of_getElem? (i := 103) rfl)) rfl, List.forall_mem_cons.mpr ⟨xw_t (x_t1 (List.mem_of_getElem? (i := 105) rfl)) rfl, List.forall_mem_cons.mpr ⟨xw_t (x_t1 (List.mem_of_getElem? (i := 107) rfl)) rfl, List.forall_mem_cons.mpr ⟨xw_t (x_t1 (List.mem_of_getElem? (i := 109) rfl)) rfl, List.forall_mem_cons.mpr ⟨xw_t (x_t1 (List.mem_of_getElem? (i := 111) rfl)) rfl, List.forall_mem_cons.mpr ⟨xw_t (x_t1 (List.mem_of_getElem? (i := 113) rfl)) rfl, List.forall_mem_cons.mpr ⟨xw_t (x_t1 (List.mem_of_getElem? (i := 115) rfl)) rfl, List.forall_mem_cons.mpr ⟨xw_t (x_t1 (List.mem_of_getElem? (i := 117) rfl)) rfl, fun _ h => absurd h List.not_mem_nil⟩⟩⟩⟩⟩⟩⟩⟩
def TT : u_T := fun k => match k with
  | 0 => ("ValueBench$Text", "bytes", "[B", true)
  | 1 => ("ValueBench$Text", "length", "I", false)
  | _ => ("ValueBench$Text", "over", "Z", false)
def tyT : Nat → FieldType := fun k => match k with
  | 0 => (.array .byte)
  | 1 => .int
  | _ => .boolean
theorem nmT : ∀ a, a < 3 → ∀ b, b < 3 → a ≠ b → (TT a).2.1 ≠ (TT b).2.1 := by decide +kernel
theorem tyT_ok : ∀ k, k < 3 → parseFieldDescriptor (TT k).2.2.1 = some (tyT k) := by decide +kernel
theorem inT : ∀ w ∈ u_ws "ValueBench$Text" TT 3, w ∈ xw := List.forall_mem_cons.mpr ⟨xw_t (x_t1 (List.mem_of_getElem? (i := 46) rfl)) rfl, List.forall_mem_cons.mpr ⟨xw_t (x_t1 (List.mem_of_getElem? (i := 48) rfl)) rfl, List.forall_mem_cons.mpr ⟨xw_t (x_t1 (List.mem_of_getElem? (i := 50) rfl)) rfl, fun _ h => absurd h List.not_mem_nil⟩⟩⟩
def TR : u_T := fun k => match k with
  | 0 => ("ValueBench$Row", "cells", "[J", true)
  | 1 => ("ValueBench$Row", "size", "I", false)
  | _ => ("ValueBench$Row", "over", "Z", false)
def tyR : Nat → FieldType := fun k => match k with
  | 0 => (.array .long)
  | 1 => .int
  | _ => .boolean
theorem nmR : ∀ a, a < 3 → ∀ b, b < 3 → a ≠ b → (TR a).2.1 ≠ (TR b).2.1 := by decide +kernel
theorem tyR_ok : ∀ k, k < 3 → parseFieldDescriptor (TR k).2.2.1 = some (tyR k) := by decide +kernel
theorem inR : ∀ w ∈ u_ws "ValueBench$Row" TR 3, w ∈ xw := List.forall_mem_cons.mpr ⟨xw_t (x_t1 (List.mem_of_getElem? (i := 87) rfl)) rfl, List.forall_mem_cons.mpr ⟨xw_t (x_t1 (List.mem_of_getElem? (i := 89) rfl)) rfl, List.forall_mem_cons.mpr ⟨xw_t (x_t1 (List.mem_of_getElem? (i := 91) rfl)) rfl, fun _ h => absurd h List.not_mem_nil⟩⟩⟩
def TS : u_T := fun k => match k with
  | 0 => ("ValueBench$Sorter", "keyAt", "[I", true)
  | 1 => ("ValueBench$Sorter", "elementAt", "[I", true)
  | 2 => ("ValueBench$Sorter", "turns", "[I", false)
  | 3 => ("ValueBench$Sorter", "merged", "[I", false)
  | _ => ("ValueBench$Sorter", "total", "I", false)
def tyS : Nat → FieldType := fun k => match k with
  | 0 => (.array .int)
  | 1 => (.array .int)
  | 2 => (.array .int)
  | 3 => (.array .int)
  | _ => .int
theorem nmS : ∀ a, a < 5 → ∀ b, b < 5 → a ≠ b → (TS a).2.1 ≠ (TS b).2.1 := by decide +kernel
theorem tyS_ok : ∀ k, k < 5 → parseFieldDescriptor (TS k).2.2.1 = some (tyS k) := by decide +kernel
theorem inS : ∀ w ∈ u_ws "ValueBench$Sorter" TS 5, w ∈ xw := List.forall_mem_cons.mpr ⟨xw_t (x_t1 (List.mem_of_getElem? (i := 67) rfl)) rfl, List.forall_mem_cons.mpr ⟨xw_t (x_t1 (List.mem_of_getElem? (i := 69) rfl)) rfl, List.forall_mem_cons.mpr ⟨xw_t (x_t1 (List.mem_of_getElem? (i := 71) rfl)) rfl, List.forall_mem_cons.mpr ⟨xw_t (x_t1 (List.mem_of_getElem? (i := 73) rfl)) rfl, List.forall_mem_cons.mpr ⟨xw_t (x_t1 (List.mem_of_getElem? (i := 75) rfl)) rfl, fun _ h => absurd h List.not_mem_nil⟩⟩⟩⟩⟩
def TD : u_T := fun k => match k with
  | 0 => ("ValueBench$Reader", "source", "LValueBench$Text;", true)
  | 1 => ("ValueBench$Reader", "out", "LValueBench$Row;", true)
  | 2 => ("ValueBench$Reader", "at", "I", false)
  | _ => ("ValueBench$Reader", "place", "I", false)
def tyD : Nat → FieldType := fun k => match k with
  | 0 => (.object "ValueBench$Text")
  | 1 => (.object "ValueBench$Row")
  | 2 => .int
  | _ => .int
theorem nmD : ∀ a, a < 4 → ∀ b, b < 4 → a ≠ b → (TD a).2.1 ≠ (TD b).2.1 := by decide +kernel
theorem tyD_ok : ∀ k, k < 4 → parseFieldDescriptor (TD k).2.2.1 = some (tyD k) := by decide +kernel
theorem inD : ∀ w ∈ u_ws "ValueBench$Reader" TD 4, w ∈ xw := List.forall_mem_cons.mpr ⟨xw_t (x_t2 (List.mem_of_getElem? (i := 33) rfl)) rfl, List.forall_mem_cons.mpr ⟨xw_t (x_t2 (List.mem_of_getElem? (i := 35) rfl)) rfl, List.forall_mem_cons.mpr ⟨xw_t (x_t2 (List.mem_of_getElem? (i := 37) rfl)) rfl, List.forall_mem_cons.mpr ⟨xw_t (x_t2 (List.mem_of_getElem? (i := 39) rfl)) rfl, fun _ h => absurd h List.not_mem_nil⟩⟩⟩⟩
def TM : u_T := fun k => match k with
  | 0 => ("ValueBenchModel", "failed", "I", false)
  | 1 => ("ValueBenchModel", "made", "[LValueBenchModel$V;", false)
  | 2 => ("ValueBenchModel", "madeTop", "I", false)
  | 3 => ("ValueBenchModel", "chars", "[B", false)
  | 4 => ("ValueBenchModel", "charTop", "I", false)
  | 5 => ("ValueBenchModel", "kids", "[LValueBenchModel$V;", false)
  | 6 => ("ValueBenchModel", "names", "[LValueBenchModel$V;", false)
  | 7 => ("ValueBenchModel", "kidTop", "I", false)
  | 8 => ("ValueBenchModel", "reason", "I", false)
  | 9 => ("ValueBenchModel", "parts", "I", false)
  | 10 => ("ValueBenchModel", "waitKids", "[LValueBenchModel$V;", false)
  | 11 => ("ValueBenchModel", "waitNames", "[LValueBenchModel$V;", false)
  | 12 => ("ValueBenchModel", "waiting", "I", false)
  | 13 => ("ValueBenchModel", "index", "[I", false)
  | 14 => ("ValueBenchModel", "other", "[I", false)
  | 15 => ("ValueBenchModel", "source", "[B", false)
  | 16 => ("ValueBenchModel", "at", "I", false)
  | 17 => ("ValueBenchModel", "stop", "I", false)
  | 18 => ("ValueBenchModel", "opened", "I", false)
  | 19 => ("ValueBenchModel", "mostOpen", "I", false)
  | 20 => ("ValueBenchModel", "place", "I", false)
  | 21 => ("ValueBenchModel", "printed", "[B", false)
  | 22 => ("ValueBenchModel", "printedSize", "I", false)
  | 23 => ("ValueBenchModel", "mostPrinted", "I", false)
  | 24 => ("ValueBenchModel", "registers", "[[B", true)
  | 25 => ("ValueBenchModel", "registerSizes", "[I", true)
  | 26 => ("ValueBenchModel", "tape", "[B", true)
  | 27 => ("ValueBenchModel", "taped", "I", false)
  | 28 => ("ValueBenchModel", "result", "[B", true)
  | 29 => ("ValueBenchModel", "size", "I", false)
  | 30 => ("ValueBenchModel", "refused", "I", false)
  | _ => ("ValueBenchModel", "readPlace", "I", false)
def tyM : Nat → FieldType := fun k => match k with
  | 0 => .int
  | 1 => (.array (.object "ValueBenchModel$V"))
  | 2 => .int
  | 3 => (.array .byte)
  | 4 => .int
  | 5 => (.array (.object "ValueBenchModel$V"))
  | 6 => (.array (.object "ValueBenchModel$V"))
  | 7 => .int
  | 8 => .int
  | 9 => .int
  | 10 => (.array (.object "ValueBenchModel$V"))
  | 11 => (.array (.object "ValueBenchModel$V"))
  | 12 => .int
  | 13 => (.array .int)
  | 14 => (.array .int)
  | 15 => (.array .byte)
  | 16 => .int
  | 17 => .int
  | 18 => .int
  | 19 => .int
  | 20 => .int
  | 21 => (.array .byte)
  | 22 => .int
  | 23 => .int
  | 24 => (.array (.array .byte))
  | 25 => (.array .int)
  | 26 => (.array .byte)
  | 27 => .int
  | 28 => (.array .byte)
  | 29 => .int
  | 30 => .int
  | _ => .int
theorem nmM : ∀ a, a < 32 → ∀ b, b < 32 → a ≠ b → (TM a).2.1 ≠ (TM b).2.1 := by decide +kernel
theorem tyM_ok : ∀ k, k < 32 → parseFieldDescriptor (TM k).2.2.1 = some (tyM k) := by decide +kernel
theorem inM : ∀ w ∈ u_ws "ValueBenchModel" TM 32, w ∈ xw := List.forall_mem_cons.mpr ⟨xw_t (x_t5 (List.mem_of_getElem? (i := 119) rfl)) rfl, List.forall_mem_cons.mpr ⟨xw_t (x_t5 (List.mem_of_getElem? (i := 121) rfl)) rfl, List.forall_mem_cons.mpr ⟨xw_t (x_t5 (List.mem_of_getElem? (i := 123) rfl)) rfl, List.forall_mem_cons.mpr ⟨xw_t (x_t5 (List.mem_of_getElem? (i := 125) rfl)) rfl, List.forall_mem_cons.mpr ⟨xw_t (x_t5 (List.mem_of_getElem? (i := 127) rfl)) rfl, List.forall_mem_cons.mpr ⟨xw_t (x_t5 (List.mem_of_getElem? (i := 129) rfl)) rfl, List.forall_mem_cons.mpr ⟨xw_t (x_t5 (List.mem_of_getElem? (i := 131) rfl)) rfl, List.forall_mem_cons.mpr ⟨xw_t (x_t5 (List.mem_of_getElem? (i := 133) rfl)) rfl, List.forall_mem_cons.mpr ⟨xw_t (x_t5 (List.mem_of_getElem? (i := 135) rfl)) rfl, List.forall_mem_cons.mpr ⟨xw_t (x_t5 (List.mem_of_getElem? (i := 137) rfl)) rfl, List.forall_mem_cons.mpr ⟨xw_t (x_t5 (List.mem_of_getElem? (i := 139) rfl)) rfl, List.forall_mem_cons.mpr ⟨xw_t (x_t5 (List.mem_of_getElem? (i := 141) rfl)) rfl, List.forall_mem_cons.mpr ⟨xw_t (x_t5 (List.mem_of_getElem? (i := 143) rfl)) rfl, List.forall_mem_cons.mpr ⟨xw_t (x_t5 (List.mem_of_getElem? (i := 145) rfl)) rfl, List.forall_mem_cons.mpr ⟨xw_t (x_t5 (List.mem_of_getElem? (i := 147) rfl)) rfl, List.forall_mem_cons.mpr ⟨xw_t (x_t5 (List.mem_of_getElem? (i := 149) rfl)) rfl, List.forall_mem_cons.mpr ⟨xw_t (x_t5 (List.mem_of_getElem? (i := 151) rfl)) rfl, List.forall_mem_cons.mpr ⟨xw_t (x_t5 (List.mem_of_getElem? (i := 153) rfl)) rfl, List.forall_mem_cons.mpr ⟨xw_t (x_t5 (List.mem_of_getElem? (i := 155) rfl)) rfl, List.forall_mem_cons.mpr ⟨xw_t (x_t5 (List.mem_of_getElem? (i := 157) rfl)) rfl, List.forall_mem_cons.mpr ⟨xw_t (x_t5 (List.mem_of_getElem? (i := 159) rfl)) rfl, List.forall_mem_cons.mpr ⟨xw_t (x_t5 (List.mem_of_getElem? (i := 161) rfl)) rfl, List.forall_mem_cons.mpr ⟨xw_t (x_t5 (List.mem_of_getElem? (i := 163) rfl)) rfl, List.forall_mem_cons.mpr ⟨xw_t (x_t5 (List.mem_of_getElem? (i := 165) rfl)) rfl, List.forall_mem_cons.mpr ⟨xw_t (x_t5 (List.mem_of_getElem? (i := 167) rfl)) rfl, List.forall_mem_cons.mpr ⟨xw_t (x_t5 (List.mem_of_getElem? (i := 169) rfl)) rfl, List.forall_mem_cons.mpr ⟨xw_t (x_t5 (List.mem_of_getElem? (i := 171) rfl)) rfl, List.forall_mem_cons.mpr ⟨xw_t (x_t5 (List.mem_of_getElem? (i := 173) rfl)) rfl, List.forall_mem_cons.mpr ⟨xw_t (x_t5 (List.mem_of_getElem? (i := 175) rfl)) rfl, List.forall_mem_cons.mpr ⟨xw_t (x_t5 (List.mem_of_getElem? (i := 177) rfl)) rfl, List.forall_mem_cons.mpr ⟨xw_t (x_t5 (List.mem_of_getElem? (i := 179) rfl)) rfl, List.forall_mem_cons.mpr ⟨xw_t (x_t5 (List.mem_of_getElem? (i := 181) rfl)) rfl, fun _ h => absurd h List.not_mem_nil⟩⟩⟩⟩⟩⟩⟩⟩⟩⟩⟩⟩⟩⟩⟩⟩⟩⟩⟩⟩⟩⟩⟩⟩⟩⟩⟩⟩⟩⟩⟩⟩
def TV : u_T := fun k => match k with
  | 0 => ("ValueBenchModel$V", "kind", "I", false)
  | 1 => ("ValueBenchModel$V", "n", "J", false)
  | 2 => ("ValueBenchModel$V", "off", "I", false)
  | 3 => ("ValueBenchModel$V", "count", "I", false)
  | 4 => ("ValueBenchModel$V", "depth", "I", false)
  | _ => ("ValueBenchModel$V", "weight", "I", false)
def tyV : Nat → FieldType := fun k => match k with
  | 0 => .int
  | 1 => .long
  | 2 => .int
  | 3 => .int
  | 4 => .int
  | _ => .int
theorem nmV : ∀ a, a < 6 → ∀ b, b < 6 → a ≠ b → (TV a).2.1 ≠ (TV b).2.1 := by decide +kernel
theorem tyV_ok : ∀ k, k < 6 → parseFieldDescriptor (TV k).2.2.1 = some (tyV k) := by decide +kernel
theorem inV : ∀ w ∈ u_ws "ValueBenchModel$V" TV 6, w ∈ xw := List.forall_mem_cons.mpr ⟨xw_t (x_t6 (List.mem_of_getElem? (i := 28) rfl)) rfl, List.forall_mem_cons.mpr ⟨xw_t (x_t6 (List.mem_of_getElem? (i := 30) rfl)) rfl, List.forall_mem_cons.mpr ⟨xw_t (x_t6 (List.mem_of_getElem? (i := 32) rfl)) rfl, List.forall_mem_cons.mpr ⟨xw_t (x_t6 (List.mem_of_getElem? (i := 34) rfl)) rfl, List.forall_mem_cons.mpr ⟨xw_t (x_t6 (List.mem_of_getElem? (i := 36) rfl)) rfl, List.forall_mem_cons.mpr ⟨xw_t (x_t6 (List.mem_of_getElem? (i := 38) rfl)) rfl, fun _ h => absurd h List.not_mem_nil⟩⟩⟩⟩⟩⟩
abbrev xcl : List vw_C := [("ValueBench", TB, 8), ("ValueBench$Text", TT, 3), ("ValueBench$Row", TR, 3), ("ValueBench$Sorter", TS, 5), ("ValueBench$Reader", TD, 4), ("ValueBenchModel", TM, 32), ("ValueBenchModel$V", TV, 6)]
def yB_count : MethodName := ⟨"ValueBench", "count", "(I)I"⟩
def yB_demand : MethodName := ⟨"ValueBench", "demand", "(Z)V"⟩
def yB_end : MethodName := ⟨"ValueBench", "end", "(I)I"⟩
def yB_isRegister : MethodName := ⟨"ValueBench", "isRegister", "(I)Z"⟩
def yB_isWithin : MethodName := ⟨"ValueBench", "isWithin", "(II)Z"⟩
def yB_print : MethodName := ⟨"ValueBench", "print", "(I)I"⟩
def yB_word : MethodName := ⟨"ValueBench", "word", "(I)J"⟩
def yP_write : MethodName := ⟨"ValueBench$Printer", "write", "(LValueBench$Row;ILValueBench$Text;I)V"⟩
def yR_kind : MethodName := ⟨"ValueBench$Row", "kind", "(I)I"⟩
def yT_add : MethodName := ⟨"ValueBench$Text", "add", "(I)V"⟩
def yT_addWord : MethodName := ⟨"ValueBench$Text", "addWord", "(Ljava/lang/String;)V"⟩
def yT_clear : MethodName := ⟨"ValueBench$Text", "clear", "()V"⟩
def yT_size : MethodName := ⟨"ValueBench$Text", "size", "()I"⟩
def yJS_charAt : MethodName := ⟨"java/lang/String", "charAt", "(I)C"⟩
def yJS_checkIndex : MethodName := ⟨"java/lang/String", "checkIndex", "(II)V"⟩
def yJS_coder : MethodName := ⟨"java/lang/String", "coder", "()B"⟩
def yJS_isLatin1 : MethodName := ⟨"java/lang/String", "isLatin1", "()Z"⟩
def yJS_length : MethodName := ⟨"java/lang/String", "length", "()I"⟩
def yJT_charAt : MethodName := ⟨"java/lang/StringLatin1", "charAt", "([BI)C"⟩
def yJP_checkIndex : MethodName := ⟨"jdk/internal/util/Preconditions", "checkIndex", "(IILjava/util/function/BiFunction;)I"⟩
def wyB_count : List Cond := .code yB_count prog_1_method_13_code 2 (some .int) :: xw
def wyB_demand : List Cond := .code yB_demand prog_1_method_16_code 1 none :: xw
def wyB_end : List Cond := .code yB_end prog_1_method_3_code 2 (some .int) :: xw
def wyB_isRegister : List Cond := .code yB_isRegister prog_1_method_14_code 1 (some .boolean) :: xw
def wyB_isWithin : List Cond := .code yB_isWithin prog_1_method_15_code 2 (some .boolean) :: xw
def wyB_print : List Cond := .code yB_print prog_1_method_5_code 2 (some .int) :: xw
def wyB_word : List Cond := .code yB_word prog_1_method_12_code 5 (some .long) :: xw
def wyP_write : List Cond := .code yP_write prog_6_method_2_code 4 none :: xw
def wyR_kind : List Cond := .code yR_kind prog_8_method_6_code 2 (some .int) :: xw
def wyT_add : List Cond := .code yT_add prog_11_method_8_code 2 none :: xw
def wyT_addWord : List Cond := .code yT_addWord prog_11_method_10_code 3 none :: xw
def wyT_clear : List Cond := .code yT_clear prog_11_method_2_code 1 none :: xw
def wyT_size : List Cond := .code yT_size prog_11_method_4_code 1 (some .int) :: xw
def wyJS_charAt : List Cond := .code yJS_charAt prog_23_method_56_code 2 (some .char) :: xw
def wyJS_checkIndex : List Cond := .code yJS_checkIndex prog_23_method_155_code 2 none :: xw
def wyJS_coder : List Cond := .code yJS_coder prog_23_method_152_code 1 (some .byte) :: xw
def wyJS_isLatin1 : List Cond := .code yJS_isLatin1 prog_23_method_154_code 1 (some .boolean) :: xw
def wyJS_length : List Cond := .code yJS_length prog_23_method_54_code 1 (some .int) :: xw
def wyJT_charAt : List Cond := .code yJT_charAt prog_24_method_2_code 2 (some .char) :: xw
def wyJP_checkIndex : List Cond := .code yJP_checkIndex prog_29_method_11_code 3 (some .int) :: xw
theorem kw_1_1 : (.initialized "ValueBench" : Cond) ∈ xw := xw_t (x_t1 (List.mem_of_getElem? (i := 1) rfl)) rfl
theorem kw_1_128 : (.methodLink "ValueBench" 47 yT_size : Cond) ∈ xw := xw_t (x_t1 (List.mem_of_getElem? (i := 128) rfl)) rfl
theorem kw_1_129 : (.instanceMethod yT_size : Cond) ∈ xw := xw_t (x_t1 (List.mem_of_getElem? (i := 129) rfl)) rfl
theorem kw_1_13 : (.initialized "java/lang/IndexOutOfBoundsException" : Cond) ∈ xw := xw_t (x_t1 (List.mem_of_getElem? (i := 13) rfl)) rfl
theorem kw_1_130 : (.selects "ValueBench$Text" yT_size yT_size : Cond) ∈ xw := xw_t (x_t1 (List.mem_of_getElem? (i := 130) rfl)) rfl
theorem kw_1_131 : (.code yT_size prog_11_method_4_code 1 (some .int) : Cond) ∈ xw := xw_t (x_t1 (List.mem_of_getElem? (i := 131) rfl)) rfl
theorem kw_1_132 : (.classLink "ValueBench" 51 "java/lang/IndexOutOfBoundsException" : Cond) ∈ xw := xw_t (x_t1 (List.mem_of_getElem? (i := 132) rfl)) rfl
theorem kw_1_14 : (.initialized "java/lang/IllegalArgumentException" : Cond) ∈ xw := xw_t (x_t1 (List.mem_of_getElem? (i := 14) rfl)) rfl
theorem kw_1_18 : (.initialized "ValueBench$Printer" : Cond) ∈ xw := xw_t (x_t1 (List.mem_of_getElem? (i := 18) rfl)) rfl
theorem kw_1_2 : (.initialized "ValueBench$Text" : Cond) ∈ xw := xw_t (x_t1 (List.mem_of_getElem? (i := 2) rfl)) rfl
theorem kw_1_204 : (.methodLink "ValueBench$Text" 32 yT_add : Cond) ∈ xw := xw_t (x_t1 (List.mem_of_getElem? (i := 204) rfl)) rfl
theorem kw_1_205 : (.instanceMethod yT_add : Cond) ∈ xw := xw_t (x_t1 (List.mem_of_getElem? (i := 205) rfl)) rfl
theorem kw_1_206 : (.selects "ValueBench$Text" yT_add yT_add : Cond) ∈ xw := xw_t (x_t1 (List.mem_of_getElem? (i := 206) rfl)) rfl
theorem kw_1_207 : (.code yT_add prog_11_method_8_code 2 none : Cond) ∈ xw := xw_t (x_t1 (List.mem_of_getElem? (i := 207) rfl)) rfl
theorem kw_1_215 : (.code yB_end prog_1_method_3_code 2 (some .int) : Cond) ∈ xw := xw_t (x_t1 (List.mem_of_getElem? (i := 215) rfl)) rfl
theorem kw_1_216 : (.methodLink "ValueBench" 62 yB_isWithin : Cond) ∈ xw := xw_t (x_t1 (List.mem_of_getElem? (i := 216) rfl)) rfl
theorem kw_1_217 : (.static yB_isWithin : Cond) ∈ xw := xw_t (x_t1 (List.mem_of_getElem? (i := 217) rfl)) rfl
theorem kw_1_218 : (.code yB_isWithin prog_1_method_15_code 2 (some .boolean) : Cond) ∈ xw := xw_t (x_t1 (List.mem_of_getElem? (i := 218) rfl)) rfl
theorem kw_1_219 : (.methodLink "ValueBench" 66 yB_demand : Cond) ∈ xw := xw_t (x_t1 (List.mem_of_getElem? (i := 219) rfl)) rfl
theorem kw_1_220 : (.static yB_demand : Cond) ∈ xw := xw_t (x_t1 (List.mem_of_getElem? (i := 220) rfl)) rfl
theorem kw_1_221 : (.code yB_demand prog_1_method_16_code 1 none : Cond) ∈ xw := xw_t (x_t1 (List.mem_of_getElem? (i := 221) rfl)) rfl
theorem kw_1_222 : (.classLink "ValueBench" 149 "java/lang/IllegalArgumentException" : Cond) ∈ xw := xw_t (x_t1 (List.mem_of_getElem? (i := 222) rfl)) rfl
theorem kw_1_4 : (.initialized "ValueBench$Row" : Cond) ∈ xw := xw_t (x_t1 (List.mem_of_getElem? (i := 4) rfl)) rfl
theorem kw_1_43 : (.fieldLink "ValueBench$Text" 9 "ValueBench$Text" "bytes" "[B" : Cond) ∈ xw := xw_t (x_t1 (List.mem_of_getElem? (i := 43) rfl)) rfl
theorem kw_1_44 : (.fieldLink "ValueBench$Text" 15 "ValueBench$Text" "length" "I" : Cond) ∈ xw := xw_t (x_t1 (List.mem_of_getElem? (i := 44) rfl)) rfl
theorem kw_1_45 : (.fieldLink "ValueBench$Text" 19 "ValueBench$Text" "over" "Z" : Cond) ∈ xw := xw_t (x_t1 (List.mem_of_getElem? (i := 45) rfl)) rfl
theorem kw_1_6 : (.initialized "java/lang/String" : Cond) ∈ xw := xw_t (x_t1 (List.mem_of_getElem? (i := 6) rfl)) rfl
theorem kw_1_7 : (.initialized "java/lang/StringLatin1" : Cond) ∈ xw := xw_t (x_t1 (List.mem_of_getElem? (i := 7) rfl)) rfl
theorem kw_1_8 : (.initialized "jdk/internal/util/Preconditions" : Cond) ∈ xw := xw_t (x_t1 (List.mem_of_getElem? (i := 8) rfl)) rfl
theorem kw_1_84 : (.fieldLink "ValueBench$Row" 9 "ValueBench$Row" "cells" "[J" : Cond) ∈ xw := xw_t (x_t1 (List.mem_of_getElem? (i := 84) rfl)) rfl
theorem kw_1_85 : (.fieldLink "ValueBench$Row" 15 "ValueBench$Row" "size" "I" : Cond) ∈ xw := xw_t (x_t1 (List.mem_of_getElem? (i := 85) rfl)) rfl
theorem kw_1_95 : (.fieldLink "ValueBench" 10 "ValueBench" "tape" "LValueBench$Text;" : Cond) ∈ xw := xw_t (x_t1 (List.mem_of_getElem? (i := 95) rfl)) rfl
theorem kw_1_96 : (.fieldLink "ValueBench" 16 "ValueBench" "result" "LValueBench$Text;" : Cond) ∈ xw := xw_t (x_t1 (List.mem_of_getElem? (i := 96) rfl)) rfl
theorem kw_1_98 : (.fieldLink "ValueBench" 24 "ValueBench" "registers" "[LValueBench$Row;" : Cond) ∈ xw := xw_t (x_t1 (List.mem_of_getElem? (i := 98) rfl)) rfl
theorem kw_2_16 : (.methodLink "ValueBench" 73 yB_isRegister : Cond) ∈ xw := xw_t (x_t2 (List.mem_of_getElem? (i := 16) rfl)) rfl
theorem kw_2_17 : (.static yB_isRegister : Cond) ∈ xw := xw_t (x_t2 (List.mem_of_getElem? (i := 17) rfl)) rfl
theorem kw_2_18 : (.code yB_isRegister prog_1_method_14_code 1 (some .boolean) : Cond) ∈ xw := xw_t (x_t2 (List.mem_of_getElem? (i := 18) rfl)) rfl
theorem kw_2_234 : (.methodLink "ValueBench" 88 yT_clear : Cond) ∈ xw := xw_t (x_t2 (List.mem_of_getElem? (i := 234) rfl)) rfl
theorem kw_2_235 : (.instanceMethod yT_clear : Cond) ∈ xw := xw_t (x_t2 (List.mem_of_getElem? (i := 235) rfl)) rfl
theorem kw_2_236 : (.selects "ValueBench$Text" yT_clear yT_clear : Cond) ∈ xw := xw_t (x_t2 (List.mem_of_getElem? (i := 236) rfl)) rfl
theorem kw_2_237 : (.code yT_clear prog_11_method_2_code 1 none : Cond) ∈ xw := xw_t (x_t2 (List.mem_of_getElem? (i := 237) rfl)) rfl
theorem kw_2_68 : (.instanceMethod yJS_length : Cond) ∈ xw := xw_t (x_t2 (List.mem_of_getElem? (i := 68) rfl)) rfl
theorem kw_2_69 : (.selects "java/lang/String" yJS_length yJS_length : Cond) ∈ xw := xw_t (x_t2 (List.mem_of_getElem? (i := 69) rfl)) rfl
theorem kw_2_70 : (.code yJS_length prog_23_method_54_code 1 (some .int) : Cond) ∈ xw := xw_t (x_t2 (List.mem_of_getElem? (i := 70) rfl)) rfl
theorem kw_2_71 : (.methodLink "java/lang/String" 335 yJS_coder : Cond) ∈ xw := xw_t (x_t2 (List.mem_of_getElem? (i := 71) rfl)) rfl
theorem kw_2_72 : (.instanceMethod yJS_coder : Cond) ∈ xw := xw_t (x_t2 (List.mem_of_getElem? (i := 72) rfl)) rfl
theorem kw_2_73 : (.selects "java/lang/String" yJS_coder yJS_coder : Cond) ∈ xw := xw_t (x_t2 (List.mem_of_getElem? (i := 73) rfl)) rfl
theorem kw_2_74 : (.code yJS_coder prog_23_method_152_code 1 (some .byte) : Cond) ∈ xw := xw_t (x_t2 (List.mem_of_getElem? (i := 74) rfl)) rfl
theorem kw_2_75 : (.fieldLink "java/lang/String" 38 "java/lang/String" "COMPACT_STRINGS" "Z" : Cond) ∈ xw := xw_t (x_t2 (List.mem_of_getElem? (i := 75) rfl)) rfl
theorem kw_2_78 : (.instanceMethod yJS_charAt : Cond) ∈ xw := xw_t (x_t2 (List.mem_of_getElem? (i := 78) rfl)) rfl
theorem kw_2_79 : (.selects "java/lang/String" yJS_charAt yJS_charAt : Cond) ∈ xw := xw_t (x_t2 (List.mem_of_getElem? (i := 79) rfl)) rfl
theorem kw_2_80 : (.code yJS_charAt prog_23_method_56_code 2 (some .char) : Cond) ∈ xw := xw_t (x_t2 (List.mem_of_getElem? (i := 80) rfl)) rfl
theorem kw_2_81 : (.methodLink "java/lang/String" 492 yJS_isLatin1 : Cond) ∈ xw := xw_t (x_t2 (List.mem_of_getElem? (i := 81) rfl)) rfl
theorem kw_2_82 : (.instanceMethod yJS_isLatin1 : Cond) ∈ xw := xw_t (x_t2 (List.mem_of_getElem? (i := 82) rfl)) rfl
theorem kw_2_83 : (.selects "java/lang/String" yJS_isLatin1 yJS_isLatin1 : Cond) ∈ xw := xw_t (x_t2 (List.mem_of_getElem? (i := 83) rfl)) rfl
theorem kw_2_84 : (.code yJS_isLatin1 prog_23_method_154_code 1 (some .boolean) : Cond) ∈ xw := xw_t (x_t2 (List.mem_of_getElem? (i := 84) rfl)) rfl
theorem kw_2_85 : (.methodLink "java/lang/String" 495 yJT_charAt : Cond) ∈ xw := xw_t (x_t2 (List.mem_of_getElem? (i := 85) rfl)) rfl
theorem kw_2_86 : (.static yJT_charAt : Cond) ∈ xw := xw_t (x_t2 (List.mem_of_getElem? (i := 86) rfl)) rfl
theorem kw_2_87 : (.code yJT_charAt prog_24_method_2_code 2 (some .char) : Cond) ∈ xw := xw_t (x_t2 (List.mem_of_getElem? (i := 87) rfl)) rfl
theorem kw_2_88 : (.methodLink "java/lang/StringLatin1" 9 yJS_checkIndex : Cond) ∈ xw := xw_t (x_t2 (List.mem_of_getElem? (i := 88) rfl)) rfl
theorem kw_2_89 : (.static yJS_checkIndex : Cond) ∈ xw := xw_t (x_t2 (List.mem_of_getElem? (i := 89) rfl)) rfl
theorem kw_2_90 : (.code yJS_checkIndex prog_23_method_155_code 2 none : Cond) ∈ xw := xw_t (x_t2 (List.mem_of_getElem? (i := 90) rfl)) rfl
theorem kw_2_91 : (.fieldLink "java/lang/String" 1053 "jdk/internal/util/Preconditions" "SIOOBE_FORMATTER" "Ljava/util/function/BiFunction;" : Cond) ∈ xw := xw_t (x_t2 (List.mem_of_getElem? (i := 91) rfl)) rfl
theorem kw_2_93 : (.methodLink "java/lang/String" 1059 yJP_checkIndex : Cond) ∈ xw := xw_t (x_t2 (List.mem_of_getElem? (i := 93) rfl)) rfl
theorem kw_2_94 : (.static yJP_checkIndex : Cond) ∈ xw := xw_t (x_t2 (List.mem_of_getElem? (i := 94) rfl)) rfl
theorem kw_2_95 : (.code yJP_checkIndex prog_29_method_11_code 3 (some .int) : Cond) ∈ xw := xw_t (x_t2 (List.mem_of_getElem? (i := 95) rfl)) rfl
theorem kw_3_18 : (.methodLink "ValueBench" 98 yP_write : Cond) ∈ xw := xw_t (x_t3 (List.mem_of_getElem? (i := 18) rfl)) rfl
theorem kw_3_19 : (.static yP_write : Cond) ∈ xw := xw_t (x_t3 (List.mem_of_getElem? (i := 19) rfl)) rfl
theorem kw_3_20 : (.code yP_write prog_6_method_2_code 4 none : Cond) ∈ xw := xw_t (x_t3 (List.mem_of_getElem? (i := 20) rfl)) rfl
theorem kw_3_21 : (.methodLink "ValueBench$Printer" 9 yR_kind : Cond) ∈ xw := xw_t (x_t3 (List.mem_of_getElem? (i := 21) rfl)) rfl
theorem kw_3_22 : (.instanceMethod yR_kind : Cond) ∈ xw := xw_t (x_t3 (List.mem_of_getElem? (i := 22) rfl)) rfl
theorem kw_3_23 : (.selects "ValueBench$Row" yR_kind yR_kind : Cond) ∈ xw := xw_t (x_t3 (List.mem_of_getElem? (i := 23) rfl)) rfl
theorem kw_3_24 : (.code yR_kind prog_8_method_6_code 2 (some .int) : Cond) ∈ xw := xw_t (x_t3 (List.mem_of_getElem? (i := 24) rfl)) rfl
theorem kw_3_26 : (.methodLink "ValueBench$Printer" 17 yT_addWord : Cond) ∈ xw := xw_t (x_t3 (List.mem_of_getElem? (i := 26) rfl)) rfl
theorem kw_3_27 : (.instanceMethod yT_addWord : Cond) ∈ xw := xw_t (x_t3 (List.mem_of_getElem? (i := 27) rfl)) rfl
theorem kw_3_28 : (.selects "ValueBench$Text" yT_addWord yT_addWord : Cond) ∈ xw := xw_t (x_t3 (List.mem_of_getElem? (i := 28) rfl)) rfl
theorem kw_3_29 : (.code yT_addWord prog_11_method_10_code 3 none : Cond) ∈ xw := xw_t (x_t3 (List.mem_of_getElem? (i := 29) rfl)) rfl
theorem kw_3_30 : (.methodLink "ValueBench$Text" 36 yJS_length : Cond) ∈ xw := xw_t (x_t3 (List.mem_of_getElem? (i := 30) rfl)) rfl
theorem kw_3_31 : (.methodLink "ValueBench$Text" 41 yJS_charAt : Cond) ∈ xw := xw_t (x_t3 (List.mem_of_getElem? (i := 31) rfl)) rfl
theorem kw_3_94 : (.code yB_print prog_1_method_5_code 2 (some .int) : Cond) ∈ xw := xw_t (x_t3 (List.mem_of_getElem? (i := 94) rfl)) rfl
theorem kw_5_63 : (.code yB_word prog_1_method_12_code 5 (some .long) : Cond) ∈ xw := xw_t (x_t5 (List.mem_of_getElem? (i := 63) rfl)) rfl
theorem kw_5_73 : (.code yB_count prog_1_method_13_code 2 (some .int) : Cond) ∈ xw := xw_t (x_t5 (List.mem_of_getElem? (i := 73) rfl)) rfl
theorem kw_7_133 : (.fieldLink "java/lang/String" 15 "java/lang/String" "coder" "B" : Cond) ∈ xw := xw_t (x_t7 (List.mem_of_getElem? (i := 133) rfl)) rfl
theorem kw_7_134 : (.fieldLink "java/lang/String" 9 "java/lang/String" "value" "[B" : Cond) ∈ xw := xw_t (x_t7 (List.mem_of_getElem? (i := 134) rfl)) rfl
theorem xat_B_153 : ∀ w ∈ (vx_atS "ValueBench" 153 "java/lang/IllegalArgumentException" ["java/lang/RuntimeException", "java/lang/Exception"]).filter goodWord, w ∈ xw := fun w h => List.mem_filter.mpr ⟨(by decide +kernel : ∀ w ∈ (vx_atS "ValueBench" 153 "java/lang/IllegalArgumentException" ["java/lang/RuntimeException", "java/lang/Exception"]).filter goodWord, w ∈ lw_tbl) w h, (List.mem_filter.mp h).2⟩
theorem xat_B_55 : ∀ w ∈ (vx_atS "ValueBench" 55 "java/lang/IndexOutOfBoundsException" ["java/lang/RuntimeException", "java/lang/Exception"]).filter goodWord, w ∈ xw := fun w h => List.mem_filter.mpr ⟨(by decide +kernel : ∀ w ∈ (vx_atS "ValueBench" 55 "java/lang/IndexOutOfBoundsException" ["java/lang/RuntimeException", "java/lang/Exception"]).filter goodWord, w ∈ lw_tbl) w h, (List.mem_filter.mp h).2⟩
theorem dB_count_0 : decode prog_1_method_13_code 0 = .ok (.iload_n 1, 1) := by decide +kernel
theorem dB_count_1 : decode prog_1_method_13_code 1 = .ok (.iconst 3, 1) := by decide +kernel
theorem dB_count_2 : decode prog_1_method_13_code 2 = .ok (.invokestatic 62, 3) := by decide +kernel
theorem dB_count_5 : decode prog_1_method_13_code 5 = .ok (.invokestatic 66, 3) := by decide +kernel
theorem dB_count_8 : decode prog_1_method_13_code 8 = .ok (.iload_n 1, 1) := by decide +kernel
theorem dB_count_9 : decode prog_1_method_13_code 9 = .ok (.tableswitch 48 0 2 #[27, 35, 43], 27) := by decide +kernel
theorem dB_count_36 : decode prog_1_method_13_code 36 = .ok (.aload_n 0, 1) := by decide +kernel
theorem dB_count_37 : decode prog_1_method_13_code 37 = .ok (.getfield 10, 3) := by decide +kernel
theorem dB_count_40 : decode prog_1_method_13_code 40 = .ok (.invokevirtual 47, 3) := by decide +kernel
theorem dB_count_43 : decode prog_1_method_13_code 43 = .ok (.ireturn, 1) := by decide +kernel
theorem dB_demand_0 : decode prog_1_method_16_code 0 = .ok (.iload_n 0, 1) := by decide +kernel
theorem dB_demand_1 : decode prog_1_method_16_code 1 = .ok (.ifCond .ne 13, 3) := by decide +kernel
theorem dB_demand_4 : decode prog_1_method_16_code 4 = .ok (.new 149, 3) := by decide +kernel
theorem dB_demand_7 : decode prog_1_method_16_code 7 = .ok (.dup, 1) := by decide +kernel
theorem dB_demand_8 : decode prog_1_method_16_code 8 = .ok (.ldc 151, 2) := by decide +kernel
theorem dB_demand_10 : decode prog_1_method_16_code 10 = .ok (.invokespecial 153, 3) := by decide +kernel
theorem dB_demand_13 : decode prog_1_method_16_code 13 = .ok (.athrow, 1) := by decide +kernel
theorem dB_demand_14 : decode prog_1_method_16_code 14 = .ok (.return_, 1) := by decide +kernel
theorem dB_end_0 : decode prog_1_method_3_code 0 = .ok (.iload_n 1, 1) := by decide +kernel
theorem dB_end_1 : decode prog_1_method_3_code 1 = .ok (.aload_n 0, 1) := by decide +kernel
theorem dB_end_2 : decode prog_1_method_3_code 2 = .ok (.getfield 10, 3) := by decide +kernel
theorem dB_end_5 : decode prog_1_method_3_code 5 = .ok (.invokevirtual 47, 3) := by decide +kernel
theorem dB_end_8 : decode prog_1_method_3_code 8 = .ok (.invokestatic 62, 3) := by decide +kernel
theorem dB_end_11 : decode prog_1_method_3_code 11 = .ok (.invokestatic 66, 3) := by decide +kernel
theorem dB_isRegister_0 : decode prog_1_method_14_code 0 = .ok (.iload_n 0, 1) := by decide +kernel
theorem dB_isRegister_1 : decode prog_1_method_14_code 1 = .ok (.bipush 7, 2) := by decide +kernel
theorem dB_isRegister_3 : decode prog_1_method_14_code 3 = .ok (.invokestatic 62, 3) := by decide +kernel
theorem dB_isRegister_6 : decode prog_1_method_14_code 6 = .ok (.ireturn, 1) := by decide +kernel
theorem dB_isWithin_0 : decode prog_1_method_15_code 0 = .ok (.iload_n 0, 1) := by decide +kernel
theorem dB_isWithin_1 : decode prog_1_method_15_code 1 = .ok (.ifCond .lt 12, 3) := by decide +kernel
theorem dB_isWithin_4 : decode prog_1_method_15_code 4 = .ok (.iload_n 0, 1) := by decide +kernel
theorem dB_isWithin_5 : decode prog_1_method_15_code 5 = .ok (.iload_n 1, 1) := by decide +kernel
theorem dB_isWithin_6 : decode prog_1_method_15_code 6 = .ok (.if_icmp .gt 7, 3) := by decide +kernel
theorem dB_isWithin_9 : decode prog_1_method_15_code 9 = .ok (.iconst 1, 1) := by decide +kernel
theorem dB_isWithin_10 : decode prog_1_method_15_code 10 = .ok (.goto 4, 3) := by decide +kernel
theorem dB_isWithin_13 : decode prog_1_method_15_code 13 = .ok (.iconst 0, 1) := by decide +kernel
theorem dB_isWithin_14 : decode prog_1_method_15_code 14 = .ok (.ireturn, 1) := by decide +kernel
theorem dB_print_0 : decode prog_1_method_5_code 0 = .ok (.iload_n 1, 1) := by decide +kernel
theorem dB_print_1 : decode prog_1_method_5_code 1 = .ok (.invokestatic 73, 3) := by decide +kernel
theorem dB_print_4 : decode prog_1_method_5_code 4 = .ok (.invokestatic 66, 3) := by decide +kernel
theorem dB_print_7 : decode prog_1_method_5_code 7 = .ok (.aload_n 0, 1) := by decide +kernel
theorem dB_print_8 : decode prog_1_method_5_code 8 = .ok (.getfield 16, 3) := by decide +kernel
theorem dB_print_11 : decode prog_1_method_5_code 11 = .ok (.invokevirtual 88, 3) := by decide +kernel
theorem dB_print_14 : decode prog_1_method_5_code 14 = .ok (.aload_n 0, 1) := by decide +kernel
theorem dB_print_15 : decode prog_1_method_5_code 15 = .ok (.getfield 24, 3) := by decide +kernel
theorem dB_print_18 : decode prog_1_method_5_code 18 = .ok (.iload_n 1, 1) := by decide +kernel
theorem dB_print_19 : decode prog_1_method_5_code 19 = .ok (.aaload, 1) := by decide +kernel
theorem dB_print_20 : decode prog_1_method_5_code 20 = .ok (.iconst 0, 1) := by decide +kernel
theorem dB_print_21 : decode prog_1_method_5_code 21 = .ok (.aload_n 0, 1) := by decide +kernel
theorem dB_print_22 : decode prog_1_method_5_code 22 = .ok (.getfield 16, 3) := by decide +kernel
theorem dB_print_25 : decode prog_1_method_5_code 25 = .ok (.iconst 0, 1) := by decide +kernel
theorem dB_print_26 : decode prog_1_method_5_code 26 = .ok (.invokestatic 98, 3) := by decide +kernel
theorem dB_print_29 : decode prog_1_method_5_code 29 = .ok (.aload_n 0, 1) := by decide +kernel
theorem dB_print_30 : decode prog_1_method_5_code 30 = .ok (.getfield 16, 3) := by decide +kernel
theorem dB_print_33 : decode prog_1_method_5_code 33 = .ok (.invokevirtual 47, 3) := by decide +kernel
theorem dB_print_36 : decode prog_1_method_5_code 36 = .ok (.ireturn, 1) := by decide +kernel
theorem dB_word_0 : decode prog_1_method_12_code 0 = .ok (.iload_n 1, 1) := by decide +kernel
theorem dB_word_1 : decode prog_1_method_12_code 1 = .ok (.ifCond .lt 14, 3) := by decide +kernel
theorem dB_word_4 : decode prog_1_method_12_code 4 = .ok (.iload_n 1, 1) := by decide +kernel
theorem dB_word_5 : decode prog_1_method_12_code 5 = .ok (.aload_n 0, 1) := by decide +kernel
theorem dB_word_6 : decode prog_1_method_12_code 6 = .ok (.getfield 16, 3) := by decide +kernel
theorem dB_word_9 : decode prog_1_method_12_code 9 = .ok (.invokevirtual 47, 3) := by decide +kernel
theorem dB_word_12 : decode prog_1_method_12_code 12 = .ok (.if_icmp .lt 13, 3) := by decide +kernel
theorem dB_word_15 : decode prog_1_method_12_code 15 = .ok (.new 51, 3) := by decide +kernel
theorem dB_word_18 : decode prog_1_method_12_code 18 = .ok (.dup, 1) := by decide +kernel
theorem dB_word_19 : decode prog_1_method_12_code 19 = .ok (.ldc 138, 2) := by decide +kernel
theorem dB_word_21 : decode prog_1_method_12_code 21 = .ok (.invokespecial 55, 3) := by decide +kernel
theorem dB_word_24 : decode prog_1_method_12_code 24 = .ok (.athrow, 1) := by decide +kernel
theorem dJP_checkIndex_0 : decode prog_29_method_11_code 0 = .ok (.iload_n 0, 1) := by decide +kernel
theorem dJP_checkIndex_1 : decode prog_29_method_11_code 1 = .ok (.ifCond .lt 8, 3) := by decide +kernel
theorem dJP_checkIndex_4 : decode prog_29_method_11_code 4 = .ok (.iload_n 0, 1) := by decide +kernel
theorem dJP_checkIndex_5 : decode prog_29_method_11_code 5 = .ok (.iload_n 1, 1) := by decide +kernel
theorem dJP_checkIndex_6 : decode prog_29_method_11_code 6 = .ok (.if_icmp .lt 10, 3) := by decide +kernel
theorem dJP_checkIndex_16 : decode prog_29_method_11_code 16 = .ok (.iload_n 0, 1) := by decide +kernel
theorem dJP_checkIndex_17 : decode prog_29_method_11_code 17 = .ok (.ireturn, 1) := by decide +kernel
theorem dJS_charAt_0 : decode prog_23_method_56_code 0 = .ok (.aload_n 0, 1) := by decide +kernel
theorem dJS_charAt_1 : decode prog_23_method_56_code 1 = .ok (.invokevirtual 492, 3) := by decide +kernel
theorem dJS_charAt_4 : decode prog_23_method_56_code 4 = .ok (.ifCond .eq 12, 3) := by decide +kernel
theorem dJS_charAt_7 : decode prog_23_method_56_code 7 = .ok (.aload_n 0, 1) := by decide +kernel
theorem dJS_charAt_8 : decode prog_23_method_56_code 8 = .ok (.getfield 9, 3) := by decide +kernel
theorem dJS_charAt_11 : decode prog_23_method_56_code 11 = .ok (.iload_n 1, 1) := by decide +kernel
theorem dJS_charAt_12 : decode prog_23_method_56_code 12 = .ok (.invokestatic 495, 3) := by decide +kernel
theorem dJS_charAt_15 : decode prog_23_method_56_code 15 = .ok (.ireturn, 1) := by decide +kernel
theorem dJS_checkIndex_0 : decode prog_23_method_155_code 0 = .ok (.iload_n 0, 1) := by decide +kernel
theorem dJS_checkIndex_1 : decode prog_23_method_155_code 1 = .ok (.iload_n 1, 1) := by decide +kernel
theorem dJS_checkIndex_2 : decode prog_23_method_155_code 2 = .ok (.getstatic 1053, 3) := by decide +kernel
theorem dJS_checkIndex_5 : decode prog_23_method_155_code 5 = .ok (.invokestatic 1059, 3) := by decide +kernel
theorem dJS_checkIndex_8 : decode prog_23_method_155_code 8 = .ok (.pop, 1) := by decide +kernel
theorem dJS_checkIndex_9 : decode prog_23_method_155_code 9 = .ok (.return_, 1) := by decide +kernel
theorem dJS_coder_0 : decode prog_23_method_152_code 0 = .ok (.getstatic 38, 3) := by decide +kernel
theorem dJS_coder_3 : decode prog_23_method_152_code 3 = .ok (.ifCond .eq 10, 3) := by decide +kernel
theorem dJS_coder_6 : decode prog_23_method_152_code 6 = .ok (.aload_n 0, 1) := by decide +kernel
theorem dJS_coder_7 : decode prog_23_method_152_code 7 = .ok (.getfield 15, 3) := by decide +kernel
theorem dJS_coder_10 : decode prog_23_method_152_code 10 = .ok (.goto 4, 3) := by decide +kernel
theorem dJS_coder_14 : decode prog_23_method_152_code 14 = .ok (.ireturn, 1) := by decide +kernel
theorem dJS_isLatin1_0 : decode prog_23_method_154_code 0 = .ok (.getstatic 38, 3) := by decide +kernel
theorem dJS_isLatin1_3 : decode prog_23_method_154_code 3 = .ok (.ifCond .eq 14, 3) := by decide +kernel
theorem dJS_isLatin1_6 : decode prog_23_method_154_code 6 = .ok (.aload_n 0, 1) := by decide +kernel
theorem dJS_isLatin1_7 : decode prog_23_method_154_code 7 = .ok (.getfield 15, 3) := by decide +kernel
theorem dJS_isLatin1_10 : decode prog_23_method_154_code 10 = .ok (.ifCond .ne 7, 3) := by decide +kernel
theorem dJS_isLatin1_13 : decode prog_23_method_154_code 13 = .ok (.iconst 1, 1) := by decide +kernel
theorem dJS_isLatin1_14 : decode prog_23_method_154_code 14 = .ok (.goto 4, 3) := by decide +kernel
theorem dJS_isLatin1_18 : decode prog_23_method_154_code 18 = .ok (.ireturn, 1) := by decide +kernel
theorem dJS_length_0 : decode prog_23_method_54_code 0 = .ok (.aload_n 0, 1) := by decide +kernel
theorem dJS_length_1 : decode prog_23_method_54_code 1 = .ok (.getfield 9, 3) := by decide +kernel
theorem dJS_length_4 : decode prog_23_method_54_code 4 = .ok (.arraylength, 1) := by decide +kernel
theorem dJS_length_5 : decode prog_23_method_54_code 5 = .ok (.aload_n 0, 1) := by decide +kernel
theorem dJS_length_6 : decode prog_23_method_54_code 6 = .ok (.invokevirtual 335, 3) := by decide +kernel
theorem dJS_length_9 : decode prog_23_method_54_code 9 = .ok (.ishr, 1) := by decide +kernel
theorem dJS_length_10 : decode prog_23_method_54_code 10 = .ok (.ireturn, 1) := by decide +kernel
theorem dJT_charAt_0 : decode prog_24_method_2_code 0 = .ok (.iload_n 1, 1) := by decide +kernel
theorem dJT_charAt_1 : decode prog_24_method_2_code 1 = .ok (.aload_n 0, 1) := by decide +kernel
theorem dJT_charAt_2 : decode prog_24_method_2_code 2 = .ok (.arraylength, 1) := by decide +kernel
theorem dJT_charAt_3 : decode prog_24_method_2_code 3 = .ok (.invokestatic 9, 3) := by decide +kernel
theorem dJT_charAt_6 : decode prog_24_method_2_code 6 = .ok (.aload_n 0, 1) := by decide +kernel
theorem dJT_charAt_7 : decode prog_24_method_2_code 7 = .ok (.iload_n 1, 1) := by decide +kernel
theorem dJT_charAt_8 : decode prog_24_method_2_code 8 = .ok (.baload, 1) := by decide +kernel
theorem dJT_charAt_9 : decode prog_24_method_2_code 9 = .ok (.sipush 255, 3) := by decide +kernel
theorem dJT_charAt_12 : decode prog_24_method_2_code 12 = .ok (.iand, 1) := by decide +kernel
theorem dJT_charAt_13 : decode prog_24_method_2_code 13 = .ok (.i2c, 1) := by decide +kernel
theorem dJT_charAt_14 : decode prog_24_method_2_code 14 = .ok (.ireturn, 1) := by decide +kernel
theorem dP_write_0 : decode prog_6_method_2_code 0 = .ok (.aload_n 0, 1) := by decide +kernel
theorem dP_write_1 : decode prog_6_method_2_code 1 = .ok (.iload_n 1, 1) := by decide +kernel
theorem dP_write_2 : decode prog_6_method_2_code 2 = .ok (.invokevirtual 9, 3) := by decide +kernel
theorem dP_write_5 : decode prog_6_method_2_code 5 = .ok (.tableswitch 83 0 4 #[35, 44, 53, 62, 74], 35) := by decide +kernel
theorem dP_write_40 : decode prog_6_method_2_code 40 = .ok (.aload_n 2, 1) := by decide +kernel
theorem dP_write_41 : decode prog_6_method_2_code 41 = .ok (.ldc 15, 2) := by decide +kernel
theorem dP_write_43 : decode prog_6_method_2_code 43 = .ok (.invokevirtual 17, 3) := by decide +kernel
theorem dP_write_46 : decode prog_6_method_2_code 46 = .ok (.goto 49, 3) := by decide +kernel
theorem dP_write_95 : decode prog_6_method_2_code 95 = .ok (.return_, 1) := by decide +kernel
theorem dR_kind_0 : decode prog_8_method_6_code 0 = .ok (.iload_n 1, 1) := by decide +kernel
theorem dR_kind_1 : decode prog_8_method_6_code 1 = .ok (.ifCond .lt 24, 3) := by decide +kernel
theorem dR_kind_4 : decode prog_8_method_6_code 4 = .ok (.iload_n 1, 1) := by decide +kernel
theorem dR_kind_5 : decode prog_8_method_6_code 5 = .ok (.aload_n 0, 1) := by decide +kernel
theorem dR_kind_6 : decode prog_8_method_6_code 6 = .ok (.getfield 15, 3) := by decide +kernel
theorem dR_kind_9 : decode prog_8_method_6_code 9 = .ok (.if_icmp .ge 16, 3) := by decide +kernel
theorem dR_kind_12 : decode prog_8_method_6_code 12 = .ok (.aload_n 0, 1) := by decide +kernel
theorem dR_kind_13 : decode prog_8_method_6_code 13 = .ok (.getfield 9, 3) := by decide +kernel
theorem dR_kind_16 : decode prog_8_method_6_code 16 = .ok (.iload_n 1, 1) := by decide +kernel
theorem dR_kind_17 : decode prog_8_method_6_code 17 = .ok (.laload, 1) := by decide +kernel
theorem dR_kind_18 : decode prog_8_method_6_code 18 = .ok (.l2i, 1) := by decide +kernel
theorem dR_kind_19 : decode prog_8_method_6_code 19 = .ok (.bipush 7, 2) := by decide +kernel
theorem dR_kind_21 : decode prog_8_method_6_code 21 = .ok (.iand, 1) := by decide +kernel
theorem dR_kind_22 : decode prog_8_method_6_code 22 = .ok (.goto 4, 3) := by decide +kernel
theorem dR_kind_26 : decode prog_8_method_6_code 26 = .ok (.ireturn, 1) := by decide +kernel
theorem dT_add_0 : decode prog_11_method_8_code 0 = .ok (.aload_n 0, 1) := by decide +kernel
theorem dT_add_1 : decode prog_11_method_8_code 1 = .ok (.getfield 15, 3) := by decide +kernel
theorem dT_add_4 : decode prog_11_method_8_code 4 = .ok (.sipush 4096, 3) := by decide +kernel
theorem dT_add_7 : decode prog_11_method_8_code 7 = .ok (.if_icmp .lt 9, 3) := by decide +kernel
theorem dT_add_16 : decode prog_11_method_8_code 16 = .ok (.aload_n 0, 1) := by decide +kernel
theorem dT_add_17 : decode prog_11_method_8_code 17 = .ok (.getfield 9, 3) := by decide +kernel
theorem dT_add_20 : decode prog_11_method_8_code 20 = .ok (.aload_n 0, 1) := by decide +kernel
theorem dT_add_21 : decode prog_11_method_8_code 21 = .ok (.getfield 15, 3) := by decide +kernel
theorem dT_add_24 : decode prog_11_method_8_code 24 = .ok (.iload_n 1, 1) := by decide +kernel
theorem dT_add_25 : decode prog_11_method_8_code 25 = .ok (.i2b, 1) := by decide +kernel
theorem dT_add_26 : decode prog_11_method_8_code 26 = .ok (.bastore, 1) := by decide +kernel
theorem dT_add_27 : decode prog_11_method_8_code 27 = .ok (.aload_n 0, 1) := by decide +kernel
theorem dT_add_28 : decode prog_11_method_8_code 28 = .ok (.dup, 1) := by decide +kernel
theorem dT_add_29 : decode prog_11_method_8_code 29 = .ok (.getfield 15, 3) := by decide +kernel
theorem dT_add_32 : decode prog_11_method_8_code 32 = .ok (.iconst 1, 1) := by decide +kernel
theorem dT_add_33 : decode prog_11_method_8_code 33 = .ok (.iadd, 1) := by decide +kernel
theorem dT_add_34 : decode prog_11_method_8_code 34 = .ok (.putfield 15, 3) := by decide +kernel
theorem dT_add_37 : decode prog_11_method_8_code 37 = .ok (.return_, 1) := by decide +kernel
theorem dT_addWord_0 : decode prog_11_method_10_code 0 = .ok (.iconst 0, 1) := by decide +kernel
theorem dT_addWord_1 : decode prog_11_method_10_code 1 = .ok (.istore_n 2, 1) := by decide +kernel
theorem dT_addWord_2 : decode prog_11_method_10_code 2 = .ok (.iload_n 2, 1) := by decide +kernel
theorem dT_addWord_3 : decode prog_11_method_10_code 3 = .ok (.aload_n 1, 1) := by decide +kernel
theorem dT_addWord_4 : decode prog_11_method_10_code 4 = .ok (.invokevirtual 36, 3) := by decide +kernel
theorem dT_addWord_7 : decode prog_11_method_10_code 7 = .ok (.if_icmp .ge 18, 3) := by decide +kernel
theorem dT_addWord_10 : decode prog_11_method_10_code 10 = .ok (.aload_n 0, 1) := by decide +kernel
theorem dT_addWord_11 : decode prog_11_method_10_code 11 = .ok (.aload_n 1, 1) := by decide +kernel
theorem dT_addWord_12 : decode prog_11_method_10_code 12 = .ok (.iload_n 2, 1) := by decide +kernel
theorem dT_addWord_13 : decode prog_11_method_10_code 13 = .ok (.invokevirtual 41, 3) := by decide +kernel
theorem dT_addWord_16 : decode prog_11_method_10_code 16 = .ok (.invokevirtual 32, 3) := by decide +kernel
theorem dT_addWord_19 : decode prog_11_method_10_code 19 = .ok (.iinc 2 1, 3) := by decide +kernel
theorem dT_addWord_22 : decode prog_11_method_10_code 22 = .ok (.goto (-20), 3) := by decide +kernel
theorem dT_addWord_25 : decode prog_11_method_10_code 25 = .ok (.return_, 1) := by decide +kernel
theorem dT_clear_0 : decode prog_11_method_2_code 0 = .ok (.aload_n 0, 1) := by decide +kernel
theorem dT_clear_1 : decode prog_11_method_2_code 1 = .ok (.iconst 0, 1) := by decide +kernel
theorem dT_clear_2 : decode prog_11_method_2_code 2 = .ok (.putfield 15, 3) := by decide +kernel
theorem dT_clear_5 : decode prog_11_method_2_code 5 = .ok (.aload_n 0, 1) := by decide +kernel
theorem dT_clear_6 : decode prog_11_method_2_code 6 = .ok (.iconst 0, 1) := by decide +kernel
theorem dT_clear_7 : decode prog_11_method_2_code 7 = .ok (.putfield 19, 3) := by decide +kernel
theorem dT_clear_10 : decode prog_11_method_2_code 10 = .ok (.return_, 1) := by decide +kernel
theorem dT_size_0 : decode prog_11_method_4_code 0 = .ok (.aload_n 0, 1) := by decide +kernel
theorem dT_size_1 : decode prog_11_method_4_code 1 = .ok (.getfield 15, 3) := by decide +kernel
theorem dT_size_4 : decode prog_11_method_4_code 4 = .ok (.ireturn, 1) := by decide +kernel
