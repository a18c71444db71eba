def TB : u_T := fun k => match k with
  | 0 => ("ValueBench", "tape", "LValueBench$Text;", true)
  | 1 => ("ValueBench", "result", "LValueBench$Text;", true)
  | 2 => ("ValueBench", "scratch", "LValueBench$Text;", true)
  | 3 => ("ValueBench", "registers", "[LValueBench$Row;", true)
  | 4 => ("ValueBench", "sorter", "LValueBench$Sorter;", true)
  | 5 => ("ValueBench", "spare", "LValueBench$Row;", false)
  | 6 => ("ValueBench", "place", "I", false)
  | _ => ("ValueBench", "reason", "I", false)
def tyB : Nat → FieldType := fun k => match k with
  | 0 => (.object "ValueBench$Text")
  | 1 => (.object "ValueBench$Text")
  | 2 => (.object "ValueBench$Text")
  | 3 => (.array (.object "ValueBench$Row"))
  | 4 => (.object "ValueBench$Sorter")
  | 5 => (.object "ValueBench$Row")
  | 6 => .int
  | _ => .int
theorem nmB : ∀ a, a < 8 → ∀ b, b < 8 → a ≠ b → (TB a).2.1 ≠ (TB b).2.1 := by decide +kernel
theorem tyB_ok : ∀ k, k < 8 → parseFieldDescriptor (TB k).2.2.1 = some (tyB k) := by decide +kernel
theorem inB : ∀ w ∈ u_ws "ValueBench" TB 8, w ∈ xw := List.forall_mem_cons.mpr ⟨xw_t (x_t1 (List.mem_of_getElem? (i := 103) rfl)) rfl, List.forall_mem_cons.mpr ⟨xw_t (x_t1 (List.mem_of_getElem? (i := 105) rfl)) rfl, List.forall_mem_cons.mpr ⟨xw_t (x_t1 (List.mem_of_getElem? (i := 107) rfl)) rfl, List.forall_mem_cons.mpr ⟨xw_t (x_t1 (List.mem_of_getElem? (i := 109) rfl)) rfl, List.forall_mem_cons.mpr ⟨xw_t (x_t1 (List.mem_of_getElem? (i := 111) rfl)) rfl, List.forall_mem_cons.mpr ⟨xw_t (x_t1 (List.mem_of_getElem? (i := 113) rfl)) rfl, List.forall_mem_cons.mpr ⟨xw_t (x_t1 (List.mem_of_getElem? (i := 115) rfl)) rfl, List.forall_mem_cons.mpr ⟨xw_t (x_t1 (List.mem_of_getElem? (i := 117) rfl)) rfl, fun _ h => absurd h List.not_mem_nil⟩⟩⟩⟩⟩⟩⟩⟩
def TT : u_T := fun k => match k with
  | 0 => ("ValueBench$Text", "bytes", "[B", true)
  | 1 => ("ValueBench$Text", "length", "I", false)
  | _ => ("ValueBench$Text", "over", "Z", false)
def tyT : Nat → FieldType := fun k => match k with
  | 0 => (.array .byte)
  | 1 => .int
  | _ => .boolean
theorem nmT : ∀ a, a < 3 → ∀ b, b < 3 → a ≠ b → (TT a).2.1 ≠ (TT b).2.1 := by decide +kernel
theorem tyT_ok : ∀ k, k < 3 → parseFieldDescriptor (TT k).2.2.1 = some (tyT k) := by decide +kernel
theorem inT : ∀ w ∈ u_ws "ValueBench$Text" TT 3, w ∈ xw := List.forall_mem_cons.mpr ⟨xw_t (x_t1 (List.mem_of_getElem? (i := 46) rfl)) rfl, List.forall_mem_cons.mpr ⟨xw_t (x_t1 (List.mem_of_getElem? (i := 48) rfl)) rfl, List.forall_mem_cons.mpr ⟨xw_t (x_t1 (List.mem_of_getElem? (i := 50) rfl)) rfl, fun _ h => absurd h List.not_mem_nil⟩⟩⟩
def TR : u_T := fun k => match k with
  | 0 => ("ValueBench$Row", "cells", "[J", true)
  | 1 => ("ValueBench$Row", "size", "I", false)
  | _ => ("ValueBench$Row", "over", "Z", false)
def tyR : Nat → FieldType := fun k => match k with
  | 0 => (.array .long)
  | 1 => .int
  | _ => .boolean
theorem nmR : ∀ a, a < 3 → ∀ b, b < 3 → a ≠ b → (TR a).2.1 ≠ (TR b).2.1 := by decide +kernel
theorem tyR_ok : ∀ k, k < 3 → parseFieldDescriptor (TR k).2.2.1 = some (tyR k) := by decide +kernel
theorem inR : ∀ w ∈ u_ws "ValueBench$Row" TR 3, w ∈ xw := List.forall_mem_cons.mpr ⟨xw_t (x_t1 (List.mem_of_getElem? (i := 87) rfl)) rfl, List.forall_mem_cons.mpr ⟨xw_t (x_t1 (List.mem_of_getElem? (i := 89) rfl)) rfl, List.forall_mem_cons.mpr ⟨xw_t (x_t1 (List.mem_of_getElem? (i := 91) rfl)) rfl, fun _ h => absurd h List.not_mem_nil⟩⟩⟩
def TS : u_T := fun k => match k with
  | 0 => ("ValueBench$Sorter", "keyAt", "[I", true)
  | 1 => ("ValueBench$Sorter", "elementAt", "[I", true)
  | 2 => ("ValueBench$Sorter", "turns", "[I", false)
  | 3 => ("ValueBench$Sorter", "merged", "[I", false)
  | _ => ("ValueBench$Sorter", "total", "I", false)
def tyS : Nat → FieldType := fun k => match k with
  | 0 => (.array .int)
  | 1 => (.array .int)
  | 2 => (.array .int)
  | 3 => (.array .int)
  | _ => .int
theorem nmS : ∀ a, a < 5 → ∀ b, b < 5 → a ≠ b → (TS a).2.1 ≠ (TS b).2.1 := by decide +kernel
theorem tyS_ok : ∀ k, k < 5 → parseFieldDescriptor (TS k).2.2.1 = some (tyS k) := by decide +kernel
theorem inS : ∀ w ∈ u_ws "ValueBench$Sorter" TS 5, w ∈ xw := List.forall_mem_cons.mpr ⟨xw_t (x_t1 (List.mem_of_getElem? (i := 67) rfl)) rfl, List.forall_mem_cons.mpr ⟨xw_t (x_t1 (List.mem_of_getElem? (i := 69) rfl)) rfl, List.forall_mem_cons.mpr ⟨xw_t (x_t1 (List.mem_of_getElem? (i := 71) rfl)) rfl, List.forall_mem_cons.mpr ⟨xw_t (x_t1 (List.mem_of_getElem? (i := 73) rfl)) rfl, List.forall_mem_cons.mpr ⟨xw_t (x_t1 (List.mem_of_getElem? (i := 75) rfl)) rfl, fun _ h => absurd h List.not_mem_nil⟩⟩⟩⟩⟩
def TD : u_T := fun k => match k with
  | 0 => ("ValueBench$Reader", "source", "LValueBench$Text;", true)
  | 1 => ("ValueBench$Reader", "out", "LValueBench$Row;", true)
  | 2 => ("ValueBench$Reader", "at", "I", false)
  | _ => ("ValueBench$Reader", "place", "I", false)
def tyD : Nat → FieldType := fun k => match k with
  | 0 => (.object "ValueBench$Text")
  | 1 => (.object "ValueBench$Row")
  | 2 => .int
  | _ => .int
theorem nmD : ∀ a, a < 4 → ∀ b, b < 4 → a ≠ b → (TD a).2.1 ≠ (TD b).2.1 := by decide +kernel
theorem tyD_ok : ∀ k, k < 4 → parseFieldDescriptor (TD k).2.2.1 = some (tyD k) := by decide +kernel
theorem inD : ∀ w ∈ u_ws "ValueBench$Reader" TD 4, w ∈ xw := List.forall_mem_cons.mpr ⟨xw_t (x_t2 (List.mem_of_getElem? (i := 33) rfl)) rfl, List.forall_mem_cons.mpr ⟨xw_t (x_t2 (List.mem_of_getElem? (i := 35) rfl)) rfl, List.forall_mem_cons.mpr ⟨xw_t (x_t2 (List.mem_of_getElem? (i := 37) rfl)) rfl, List.forall_mem_cons.mpr ⟨xw_t (x_t2 (List.mem_of_getElem? (i := 39) rfl)) rfl, fun _ h => absurd h List.not_mem_nil⟩⟩⟩⟩
def TM : u_T := fun k => match k with
  | 0 => ("ValueBenchModel", "failed", "I", false)
  | 1 => ("ValueBenchModel", "made", "[LValueBenchModel$V;", false)
  | 2 => ("ValueBenchModel", "madeTop", "I", false)
  | 3 => ("ValueBenchModel", "chars", "[B", false)
  | 4 => ("ValueBenchModel", "charTop", "I", false)
  | 5 => ("ValueBenchModel", "kids", "[LValueBenchModel$V;", false)
  | 6 => ("ValueBenchModel", "names", "[LValueBenchModel$V;", false)
  | 7 => ("ValueBenchModel", "kidTop", "I", false)
  | 8 => ("ValueBenchModel", "reason", "I", false)
  | 9 => ("ValueBenchModel", "parts", "I", false)
  | 10 => ("ValueBenchModel", "waitKids", "[LValueBenchModel$V;", false)
  | 11 => ("ValueBenchModel", "waitNames", "[LValueBenchModel$V;", false)
  | 12 => ("ValueBenchModel", "waiting", "I", false)
  | 13 => ("ValueBenchModel", "index", "[I", false)
  | 14 => ("ValueBenchModel", "other", "[I", false)
  | 15 => ("ValueBenchModel", "source", "[B", false)
  | 16 => ("ValueBenchModel", "at", "I", false)
  | 17 => ("ValueBenchModel", "stop", "I", false)
  | 18 => ("ValueBenchModel", "opened", "I", false)
  | 19 => ("ValueBenchModel", "mostOpen", "I", false)
  | 20 => ("ValueBenchModel", "place", "I", false)
  | 21 => ("ValueBenchModel", "printed", "[B", false)
  | 22 => ("ValueBenchModel", "printedSize", "I", false)
  | 23 => ("ValueBenchModel", "mostPrinted", "I", false)
  | 24 => ("ValueBenchModel", "registers", "[[B", true)
  | 25 => ("ValueBenchModel", "registerSizes", "[I", true)
  | 26 => ("ValueBenchModel", "tape", "[B", true)
  | 27 => ("ValueBenchModel", "taped", "I", false)
  | 28 => ("ValueBenchModel", "result", "[B", true)
  | 29 => ("ValueBenchModel", "size", "I", false)
  | 30 => ("ValueBenchModel", "refused", "I", false)
  | _ => ("ValueBenchModel", "readPlace", "I", false)
def tyM : Nat → FieldType := fun k => match k with
  | 0 => .int
  | 1 => (.array (.object "ValueBenchModel$V"))
  | 2 => .int
  | 3 => (.array .byte)
  | 4 => .int
  | 5 => (.array (.object "ValueBenchModel$V"))
  | 6 => (.array (.object "ValueBenchModel$V"))
  | 7 => .int
  | 8 => .int
  | 9 => .int
  | 10 => (.array (.object "ValueBenchModel$V"))
  | 11 => (.array (.object "ValueBenchModel$V"))
  | 12 => .int
  | 13 => (.array .int)
  | 14 => (.array .int)
  | 15 => (.array .byte)
  | 16 => .int
  | 17 => .int
  | 18 => .int
  | 19 => .int
  | 20 => .int
  | 21 => (.array .byte)
  | 22 => .int
  | 23 => .int
  | 24 => (.array (.array .byte))
  | 25 => (.array .int)
  | 26 => (.array .byte)
  | 27 => .int
  | 28 => (.array .byte)
  | 29 => .int
  | 30 => .int
  | _ => .int
theorem nmM : ∀ a, a < 32 → ∀ b, b < 32 → a ≠ b → (TM a).2.1 ≠ (TM b).2.1 := by decide +kernel
theorem tyM_ok : ∀ k, k < 32 → parseFieldDescriptor (TM k).2.2.1 = some (tyM k) := by decide +kernel
theorem inM : ∀ w ∈ u_ws "ValueBenchModel" TM 32, w ∈ xw := List.forall_mem_cons.mpr ⟨xw_t (x_t5 (List.mem_of_getElem? (i := 119) rfl)) rfl, List.forall_mem_cons.mpr ⟨xw_t (x_t5 (List.mem_of_getElem? (i := 121) rfl)) rfl, List.forall_mem_cons.mpr ⟨xw_t (x_t5 (List.mem_of_getElem? (i := 123) rfl)) rfl, List.forall_mem_cons.mpr ⟨xw_t (x_t5 (List.mem_of_getElem? (i := 125) rfl)) rfl, List.forall_mem_cons.mpr ⟨xw_t (x_t5 (List.mem_of_getElem? (i := 127) rfl)) rfl, List.forall_mem_cons.mpr ⟨xw_t (x_t5 (List.mem_of_getElem? (i := 129) rfl)) rfl, List.forall_mem_cons.mpr ⟨xw_t (x_t5 (List.mem_of_getElem? (i := 131) rfl)) rfl, List.forall_mem_cons.mpr ⟨xw_t (x_t5 (List.mem_of_getElem? (i := 133) rfl)) rfl, List.forall_mem_cons.mpr ⟨xw_t (x_t5 (List.mem_of_getElem? (i := 135) rfl)) rfl, List.forall_mem_cons.mpr ⟨xw_t (x_t5 (List.mem_of_getElem? (i := 137) rfl)) rfl, List.forall_mem_cons.mpr ⟨xw_t (x_t5 (List.mem_of_getElem? (i := 139) rfl)) rfl, List.forall_mem_cons.mpr ⟨xw_t (x_t5 (List.mem_of_getElem? (i := 141) rfl)) rfl, List.forall_mem_cons.mpr ⟨xw_t (x_t5 (List.mem_of_getElem? (i := 143) rfl)) rfl, List.forall_mem_cons.mpr ⟨xw_t (x_t5 (List.mem_of_getElem? (i := 145) rfl)) rfl, List.forall_mem_cons.mpr ⟨xw_t (x_t5 (List.mem_of_getElem? (i := 147) rfl)) rfl, List.forall_mem_cons.mpr ⟨xw_t (x_t5 (List.mem_of_getElem? (i := 149) rfl)) rfl, List.forall_mem_cons.mpr ⟨xw_t (x_t5 (List.mem_of_getElem? (i := 151) rfl)) rfl, List.forall_mem_cons.mpr ⟨xw_t (x_t5 (List.mem_of_getElem? (i := 153) rfl)) rfl, List.forall_mem_cons.mpr ⟨xw_t (x_t5 (List.mem_of_getElem? (i := 155) rfl)) rfl, List.forall_mem_cons.mpr ⟨xw_t (x_t5 (List.mem_of_getElem? (i := 157) rfl)) rfl, List.forall_mem_cons.mpr ⟨xw_t (x_t5 (List.mem_of_getElem? (i := 159) rfl)) rfl, List.forall_mem_cons.mpr ⟨xw_t (x_t5 (List.mem_of_getElem? (i := 161) rfl)) rfl, List.forall_mem_cons.mpr ⟨xw_t (x_t5 (List.mem_of_getElem? (i := 163) rfl)) rfl, List.forall_mem_cons.mpr ⟨xw_t (x_t5 (List.mem_of_getElem? (i := 165) rfl)) rfl, List.forall_mem_cons.mpr ⟨xw_t (x_t5 (List.mem_of_getElem? (i := 167) rfl)) rfl, List.forall_mem_cons.mpr ⟨xw_t (x_t5 (List.mem_of_getElem? (i := 169) rfl)) rfl, List.forall_mem_cons.mpr ⟨xw_t (x_t5 (List.mem_of_getElem? (i := 171) rfl)) rfl, List.forall_mem_cons.mpr ⟨xw_t (x_t5 (List.mem_of_getElem? (i := 173) rfl)) rfl, List.forall_mem_cons.mpr ⟨xw_t (x_t5 (List.mem_of_getElem? (i := 175) rfl)) rfl, List.forall_mem_cons.mpr ⟨xw_t (x_t5 (List.mem_of_getElem? (i := 177) rfl)) rfl, List.forall_mem_cons.mpr ⟨xw_t (x_t5 (List.mem_of_getElem? (i := 179) rfl)) rfl, List.forall_mem_cons.mpr ⟨xw_t (x_t5 (List.mem_of_getElem? (i := 181) rfl)) rfl, fun _ h => absurd h List.not_mem_nil⟩⟩⟩⟩⟩⟩⟩⟩⟩⟩⟩⟩⟩⟩⟩⟩⟩⟩⟩⟩⟩⟩⟩⟩⟩⟩⟩⟩⟩⟩⟩⟩
def TV : u_T := fun k => match k with
  | 0 => ("ValueBenchModel$V", "kind", "I", false)
  | 1 => ("ValueBenchModel$V", "n", "J", false)
  | 2 => ("ValueBenchModel$V", "off", "I", false)
  | 3 => ("ValueBenchModel$V", "count", "I", false)
  | 4 => ("ValueBenchModel$V", "depth", "I", false)
  | _ => ("ValueBenchModel$V", "weight", "I", false)
def tyV : Nat → FieldType := fun k => match k with
  | 0 => .int
  | 1 => .long
  | 2 => .int
  | 3 => .int
  | 4 => .int
  | _ => .int
theorem nmV : ∀ a, a < 6 → ∀ b, b < 6 → a ≠ b → (TV a).2.1 ≠ (TV b).2.1 := by decide +kernel
theorem tyV_ok : ∀ k, k < 6 → parseFieldDescriptor (TV k).2.2.1 = some (tyV k) := by decide +kernel
theorem inV : ∀ w ∈ u_ws "ValueBenchModel$V" TV 6, w ∈ xw := List.forall_mem_cons.mpr ⟨xw_t (x_t6 (List.mem_of_getElem? (i := 28) rfl)) rfl, List.forall_mem_cons.mpr ⟨xw_t (x_t6 (List.mem_of_getElem? (i := 30) rfl)) rfl, List.forall_mem_cons.mpr ⟨xw_t (x_t6 (List.mem_of_getElem? (i := 32) rfl)) rfl, List.forall_mem_cons.mpr ⟨xw_t (x_t6 (List.mem_of_getElem? (i := 34) rfl)) rfl, List.forall_mem_cons.mpr ⟨xw_t (x_t6 (List.mem_of_getElem? (i := 36) rfl)) rfl, List.forall_mem_cons.mpr ⟨xw_t (x_t6 (List.mem_of_getElem? (i := 38) rfl)) rfl, fun _ h => absurd h List.not_mem_nil⟩⟩⟩⟩⟩⟩
abbrev xcl : List vw_C := [("ValueBench", TB, 8), ("ValueBench$Text", TT, 3), ("ValueBench$Row", TR, 3), ("ValueBench$Sorter", TS, 5), ("ValueBench$Reader", TD, 4), ("ValueBenchModel", TM, 32), ("ValueBenchModel$V", TV, 6)]
def yB_init : MethodName := ⟨"ValueBench", "<init>", "()V"⟩
def yR_init : MethodName := ⟨"ValueBench$Row", "<init>", "()V"⟩
def yS_init : MethodName := ⟨"ValueBench$Sorter", "<init>", "()V"⟩
def yT_init : MethodName := ⟨"ValueBench$Text", "<init>", "()V"⟩
def wyB_init : List Cond := .code yB_init prog_1_method_1_code 2 none :: xw
def wyR_init : List Cond := .code yR_init prog_8_method_1_code 1 none :: xw
def wyS_init : List Cond := .code yS_init prog_10_method_1_code 1 none :: xw
def wyT_init : List Cond := .code yT_init prog_11_method_1_code 1 none :: xw
theorem kw_1_100 : (.fieldLink "ValueBench" 36 "ValueBench" "spare" "LValueBench$Row;" : Cond) ∈ xw := xw_t (x_t1 (List.mem_of_getElem? (i := 100) rfl)) rfl
theorem kw_1_101 : (.fieldLink "ValueBench" 40 "ValueBench" "place" "I" : Cond) ∈ xw := xw_t (x_t1 (List.mem_of_getElem? (i := 101) rfl)) rfl
theorem kw_1_102 : (.fieldLink "ValueBench" 44 "ValueBench" "reason" "I" : Cond) ∈ xw := xw_t (x_t1 (List.mem_of_getElem? (i := 102) rfl)) rfl
theorem kw_1_2 : (.initialized "ValueBench$Text" : Cond) ∈ xw := xw_t (x_t1 (List.mem_of_getElem? (i := 2) rfl)) rfl
theorem kw_1_3 : (.initialized "ValueBench$Sorter" : Cond) ∈ xw := xw_t (x_t1 (List.mem_of_getElem? (i := 3) rfl)) rfl
theorem kw_1_33 : (.code yB_init prog_1_method_1_code 2 none : Cond) ∈ xw := xw_t (x_t1 (List.mem_of_getElem? (i := 33) rfl)) rfl
theorem kw_1_34 : (.methodLink "ValueBench" 1 objectInit : Cond) ∈ xw := xw_t (x_t1 (List.mem_of_getElem? (i := 34) rfl)) rfl
theorem kw_1_35 : (.instanceMethod objectInit : Cond) ∈ xw := xw_t (x_t1 (List.mem_of_getElem? (i := 35) rfl)) rfl
theorem kw_1_36 : (.code objectInit ⟨#[0xb1]⟩ 1 none : Cond) ∈ xw := xw_t (x_t1 (List.mem_of_getElem? (i := 36) rfl)) rfl
theorem kw_1_37 : (.classLink "ValueBench" 7 "ValueBench$Text" : Cond) ∈ xw := xw_t (x_t1 (List.mem_of_getElem? (i := 37) rfl)) rfl
theorem kw_1_38 : (.instantiable "ValueBench$Text" 3 : Cond) ∈ xw := xw_t (x_t1 (List.mem_of_getElem? (i := 38) rfl)) rfl
theorem kw_1_4 : (.initialized "ValueBench$Row" : Cond) ∈ xw := xw_t (x_t1 (List.mem_of_getElem? (i := 4) rfl)) rfl
theorem kw_1_40 : (.instanceMethod yT_init : Cond) ∈ xw := xw_t (x_t1 (List.mem_of_getElem? (i := 40) rfl)) rfl
theorem kw_1_41 : (.code yT_init prog_11_method_1_code 1 none : Cond) ∈ xw := xw_t (x_t1 (List.mem_of_getElem? (i := 41) rfl)) rfl
theorem kw_1_42 : (.methodLink "ValueBench$Text" 3 objectInit : Cond) ∈ xw := xw_t (x_t1 (List.mem_of_getElem? (i := 42) rfl)) rfl
theorem kw_1_43 : (.fieldLink "ValueBench$Text" 9 "ValueBench$Text" "bytes" "[B" : Cond) ∈ xw := xw_t (x_t1 (List.mem_of_getElem? (i := 43) rfl)) rfl
theorem kw_1_44 : (.fieldLink "ValueBench$Text" 15 "ValueBench$Text" "length" "I" : Cond) ∈ xw := xw_t (x_t1 (List.mem_of_getElem? (i := 44) rfl)) rfl
theorem kw_1_45 : (.fieldLink "ValueBench$Text" 19 "ValueBench$Text" "over" "Z" : Cond) ∈ xw := xw_t (x_t1 (List.mem_of_getElem? (i := 45) rfl)) rfl
theorem kw_1_53 : (.arrayClass .byte : Cond) ∈ xw := xw_t (x_t1 (List.mem_of_getElem? (i := 53) rfl)) rfl
theorem kw_1_54 : (.classLink "ValueBench" 22 "ValueBench$Row" : Cond) ∈ xw := xw_t (x_t1 (List.mem_of_getElem? (i := 54) rfl)) rfl
theorem kw_1_56 : (.classLink "ValueBench" 28 "ValueBench$Sorter" : Cond) ∈ xw := xw_t (x_t1 (List.mem_of_getElem? (i := 56) rfl)) rfl
theorem kw_1_57 : (.instantiable "ValueBench$Sorter" 5 : Cond) ∈ xw := xw_t (x_t1 (List.mem_of_getElem? (i := 57) rfl)) rfl
theorem kw_1_59 : (.instanceMethod yS_init : Cond) ∈ xw := xw_t (x_t1 (List.mem_of_getElem? (i := 59) rfl)) rfl
theorem kw_1_60 : (.code yS_init prog_10_method_1_code 1 none : Cond) ∈ xw := xw_t (x_t1 (List.mem_of_getElem? (i := 60) rfl)) rfl
theorem kw_1_61 : (.methodLink "ValueBench$Sorter" 3 objectInit : Cond) ∈ xw := xw_t (x_t1 (List.mem_of_getElem? (i := 61) rfl)) rfl
theorem kw_1_62 : (.fieldLink "ValueBench$Sorter" 11 "ValueBench$Sorter" "keyAt" "[I" : Cond) ∈ xw := xw_t (x_t1 (List.mem_of_getElem? (i := 62) rfl)) rfl
theorem kw_1_63 : (.fieldLink "ValueBench$Sorter" 15 "ValueBench$Sorter" "elementAt" "[I" : Cond) ∈ xw := xw_t (x_t1 (List.mem_of_getElem? (i := 63) rfl)) rfl
theorem kw_1_64 : (.fieldLink "ValueBench$Sorter" 18 "ValueBench$Sorter" "turns" "[I" : Cond) ∈ xw := xw_t (x_t1 (List.mem_of_getElem? (i := 64) rfl)) rfl
theorem kw_1_65 : (.fieldLink "ValueBench$Sorter" 21 "ValueBench$Sorter" "merged" "[I" : Cond) ∈ xw := xw_t (x_t1 (List.mem_of_getElem? (i := 65) rfl)) rfl
theorem kw_1_66 : (.fieldLink "ValueBench$Sorter" 24 "ValueBench$Sorter" "total" "I" : Cond) ∈ xw := xw_t (x_t1 (List.mem_of_getElem? (i := 66) rfl)) rfl
theorem kw_1_78 : (.arrayClass .int : Cond) ∈ xw := xw_t (x_t1 (List.mem_of_getElem? (i := 78) rfl)) rfl
theorem kw_1_79 : (.instantiable "ValueBench$Row" 3 : Cond) ∈ xw := xw_t (x_t1 (List.mem_of_getElem? (i := 79) rfl)) rfl
theorem kw_1_81 : (.instanceMethod yR_init : Cond) ∈ xw := xw_t (x_t1 (List.mem_of_getElem? (i := 81) rfl)) rfl
theorem kw_1_82 : (.code yR_init prog_8_method_1_code 1 none : Cond) ∈ xw := xw_t (x_t1 (List.mem_of_getElem? (i := 82) rfl)) rfl
theorem kw_1_83 : (.methodLink "ValueBench$Row" 3 objectInit : Cond) ∈ xw := xw_t (x_t1 (List.mem_of_getElem? (i := 83) rfl)) rfl
theorem kw_1_84 : (.fieldLink "ValueBench$Row" 9 "ValueBench$Row" "cells" "[J" : Cond) ∈ xw := xw_t (x_t1 (List.mem_of_getElem? (i := 84) rfl)) rfl
theorem kw_1_85 : (.fieldLink "ValueBench$Row" 15 "ValueBench$Row" "size" "I" : Cond) ∈ xw := xw_t (x_t1 (List.mem_of_getElem? (i := 85) rfl)) rfl
theorem kw_1_86 : (.fieldLink "ValueBench$Row" 19 "ValueBench$Row" "over" "Z" : Cond) ∈ xw := xw_t (x_t1 (List.mem_of_getElem? (i := 86) rfl)) rfl
theorem kw_1_94 : (.arrayClass .long : Cond) ∈ xw := xw_t (x_t1 (List.mem_of_getElem? (i := 94) rfl)) rfl
theorem kw_1_95 : (.fieldLink "ValueBench" 10 "ValueBench" "tape" "LValueBench$Text;" : Cond) ∈ xw := xw_t (x_t1 (List.mem_of_getElem? (i := 95) rfl)) rfl
theorem kw_1_96 : (.fieldLink "ValueBench" 16 "ValueBench" "result" "LValueBench$Text;" : Cond) ∈ xw := xw_t (x_t1 (List.mem_of_getElem? (i := 96) rfl)) rfl
theorem kw_1_97 : (.fieldLink "ValueBench" 19 "ValueBench" "scratch" "LValueBench$Text;" : Cond) ∈ xw := xw_t (x_t1 (List.mem_of_getElem? (i := 97) rfl)) rfl
theorem kw_1_98 : (.fieldLink "ValueBench" 24 "ValueBench" "registers" "[LValueBench$Row;" : Cond) ∈ xw := xw_t (x_t1 (List.mem_of_getElem? (i := 98) rfl)) rfl
theorem kw_1_99 : (.fieldLink "ValueBench" 31 "ValueBench" "sorter" "LValueBench$Sorter;" : Cond) ∈ xw := xw_t (x_t1 (List.mem_of_getElem? (i := 99) rfl)) rfl
theorem dB_init_0 : decode prog_1_method_1_code 0 = .ok (.aload_n 0, 1) := by decide +kernel
theorem dB_init_1 : decode prog_1_method_1_code 1 = .ok (.invokespecial 1, 3) := by decide +kernel
theorem dB_init_4 : decode prog_1_method_1_code 4 = .ok (.aload_n 0, 1) := by decide +kernel
theorem dB_init_5 : decode prog_1_method_1_code 5 = .ok (.new 7, 3) := by decide +kernel
theorem dB_init_8 : decode prog_1_method_1_code 8 = .ok (.dup, 1) := by decide +kernel
theorem dB_init_9 : decode prog_1_method_1_code 9 = .ok (.invokespecial 9, 3) := by decide +kernel
theorem dB_init_12 : decode prog_1_method_1_code 12 = .ok (.putfield 10, 3) := by decide +kernel
theorem dB_init_15 : decode prog_1_method_1_code 15 = .ok (.aload_n 0, 1) := by decide +kernel
theorem dB_init_16 : decode prog_1_method_1_code 16 = .ok (.new 7, 3) := by decide +kernel
theorem dB_init_19 : decode prog_1_method_1_code 19 = .ok (.dup, 1) := by decide +kernel
theorem dB_init_20 : decode prog_1_method_1_code 20 = .ok (.invokespecial 9, 3) := by decide +kernel
theorem dB_init_23 : decode prog_1_method_1_code 23 = .ok (.putfield 16, 3) := by decide +kernel
theorem dB_init_26 : decode prog_1_method_1_code 26 = .ok (.aload_n 0, 1) := by decide +kernel
theorem dB_init_27 : decode prog_1_method_1_code 27 = .ok (.new 7, 3) := by decide +kernel
theorem dB_init_30 : decode prog_1_method_1_code 30 = .ok (.dup, 1) := by decide +kernel
theorem dB_init_31 : decode prog_1_method_1_code 31 = .ok (.invokespecial 9, 3) := by decide +kernel
theorem dB_init_34 : decode prog_1_method_1_code 34 = .ok (.putfield 19, 3) := by decide +kernel
theorem dB_init_37 : decode prog_1_method_1_code 37 = .ok (.aload_n 0, 1) := by decide +kernel
theorem dB_init_38 : decode prog_1_method_1_code 38 = .ok (.bipush 8, 2) := by decide +kernel
theorem dB_init_40 : decode prog_1_method_1_code 40 = .ok (.anewarray 22, 3) := by decide +kernel
theorem dB_init_43 : decode prog_1_method_1_code 43 = .ok (.putfield 24, 3) := by decide +kernel
theorem dB_init_46 : decode prog_1_method_1_code 46 = .ok (.aload_n 0, 1) := by decide +kernel
theorem dB_init_47 : decode prog_1_method_1_code 47 = .ok (.new 28, 3) := by decide +kernel
theorem dB_init_50 : decode prog_1_method_1_code 50 = .ok (.dup, 1) := by decide +kernel
theorem dB_init_51 : decode prog_1_method_1_code 51 = .ok (.invokespecial 30, 3) := by decide +kernel
theorem dB_init_54 : decode prog_1_method_1_code 54 = .ok (.putfield 31, 3) := by decide +kernel
theorem dB_init_57 : decode prog_1_method_1_code 57 = .ok (.aload_n 0, 1) := by decide +kernel
theorem dB_init_58 : decode prog_1_method_1_code 58 = .ok (.new 22, 3) := by decide +kernel
theorem dB_init_61 : decode prog_1_method_1_code 61 = .ok (.dup, 1) := by decide +kernel
theorem dB_init_62 : decode prog_1_method_1_code 62 = .ok (.invokespecial 35, 3) := by decide +kernel
theorem dB_init_65 : decode prog_1_method_1_code 65 = .ok (.putfield 36, 3) := by decide +kernel
theorem dB_init_68 : decode prog_1_method_1_code 68 = .ok (.aload_n 0, 1) := by decide +kernel
theorem dB_init_69 : decode prog_1_method_1_code 69 = .ok (.iconst (-1), 1) := by decide +kernel
theorem dB_init_70 : decode prog_1_method_1_code 70 = .ok (.putfield 40, 3) := by decide +kernel
theorem dB_init_73 : decode prog_1_method_1_code 73 = .ok (.aload_n 0, 1) := by decide +kernel
theorem dB_init_74 : decode prog_1_method_1_code 74 = .ok (.iconst 0, 1) := by decide +kernel
theorem dB_init_75 : decode prog_1_method_1_code 75 = .ok (.putfield 44, 3) := by decide +kernel
theorem dB_init_78 : decode prog_1_method_1_code 78 = .ok (.iconst 0, 1) := by decide +kernel
theorem dB_init_79 : decode prog_1_method_1_code 79 = .ok (.istore_n 1, 1) := by decide +kernel
theorem dB_init_80 : decode prog_1_method_1_code 80 = .ok (.iload_n 1, 1) := by decide +kernel
theorem dB_init_81 : decode prog_1_method_1_code 81 = .ok (.bipush 8, 2) := by decide +kernel
theorem dB_init_83 : decode prog_1_method_1_code 83 = .ok (.if_icmp .ge 22, 3) := by decide +kernel
theorem dB_init_86 : decode prog_1_method_1_code 86 = .ok (.aload_n 0, 1) := by decide +kernel
theorem dB_init_87 : decode prog_1_method_1_code 87 = .ok (.getfield 24, 3) := by decide +kernel
theorem dB_init_90 : decode prog_1_method_1_code 90 = .ok (.iload_n 1, 1) := by decide +kernel
theorem dB_init_91 : decode prog_1_method_1_code 91 = .ok (.new 22, 3) := by decide +kernel
theorem dB_init_94 : decode prog_1_method_1_code 94 = .ok (.dup, 1) := by decide +kernel
theorem dB_init_95 : decode prog_1_method_1_code 95 = .ok (.invokespecial 35, 3) := by decide +kernel
theorem dB_init_98 : decode prog_1_method_1_code 98 = .ok (.aastore, 1) := by decide +kernel
theorem dB_init_99 : decode prog_1_method_1_code 99 = .ok (.iinc 1 1, 3) := by decide +kernel
theorem dB_init_102 : decode prog_1_method_1_code 102 = .ok (.goto (-22), 3) := by decide +kernel
theorem dB_init_105 : decode prog_1_method_1_code 105 = .ok (.return_, 1) := by decide +kernel
theorem dR_init_0 : decode prog_8_method_1_code 0 = .ok (.aload_n 0, 1) := by decide +kernel
theorem dR_init_1 : decode prog_8_method_1_code 1 = .ok (.invokespecial 3, 3) := by decide +kernel
theorem dR_init_4 : decode prog_8_method_1_code 4 = .ok (.aload_n 0, 1) := by decide +kernel
theorem dR_init_5 : decode prog_8_method_1_code 5 = .ok (.sipush 4096, 3) := by decide +kernel
theorem dR_init_8 : decode prog_8_method_1_code 8 = .ok (.newarray .long, 2) := by decide +kernel
theorem dR_init_10 : decode prog_8_method_1_code 10 = .ok (.putfield 9, 3) := by decide +kernel
theorem dR_init_13 : decode prog_8_method_1_code 13 = .ok (.aload_n 0, 1) := by decide +kernel
theorem dR_init_14 : decode prog_8_method_1_code 14 = .ok (.iconst 1, 1) := by decide +kernel
theorem dR_init_15 : decode prog_8_method_1_code 15 = .ok (.putfield 15, 3) := by decide +kernel
theorem dR_init_18 : decode prog_8_method_1_code 18 = .ok (.aload_n 0, 1) := by decide +kernel
theorem dR_init_19 : decode prog_8_method_1_code 19 = .ok (.iconst 0, 1) := by decide +kernel
theorem dR_init_20 : decode prog_8_method_1_code 20 = .ok (.putfield 19, 3) := by decide +kernel
theorem dR_init_23 : decode prog_8_method_1_code 23 = .ok (.return_, 1) := by decide +kernel
theorem dS_init_0 : decode prog_10_method_1_code 0 = .ok (.aload_n 0, 1) := by decide +kernel
theorem dS_init_1 : decode prog_10_method_1_code 1 = .ok (.invokespecial 3, 3) := by decide +kernel
theorem dS_init_4 : decode prog_10_method_1_code 4 = .ok (.aload_n 0, 1) := by decide +kernel
theorem dS_init_5 : decode prog_10_method_1_code 5 = .ok (.sipush 2048, 3) := by decide +kernel
theorem dS_init_8 : decode prog_10_method_1_code 8 = .ok (.newarray .int, 2) := by decide +kernel
theorem dS_init_10 : decode prog_10_method_1_code 10 = .ok (.putfield 11, 3) := by decide +kernel
theorem dS_init_13 : decode prog_10_method_1_code 13 = .ok (.aload_n 0, 1) := by decide +kernel
theorem dS_init_14 : decode prog_10_method_1_code 14 = .ok (.sipush 2048, 3) := by decide +kernel
theorem dS_init_17 : decode prog_10_method_1_code 17 = .ok (.newarray .int, 2) := by decide +kernel
theorem dS_init_19 : decode prog_10_method_1_code 19 = .ok (.putfield 15, 3) := by decide +kernel
theorem dS_init_22 : decode prog_10_method_1_code 22 = .ok (.aload_n 0, 1) := by decide +kernel
theorem dS_init_23 : decode prog_10_method_1_code 23 = .ok (.sipush 2048, 3) := by decide +kernel
theorem dS_init_26 : decode prog_10_method_1_code 26 = .ok (.newarray .int, 2) := by decide +kernel
theorem dS_init_28 : decode prog_10_method_1_code 28 = .ok (.putfield 18, 3) := by decide +kernel
theorem dS_init_31 : decode prog_10_method_1_code 31 = .ok (.aload_n 0, 1) := by decide +kernel
theorem dS_init_32 : decode prog_10_method_1_code 32 = .ok (.sipush 2048, 3) := by decide +kernel
theorem dS_init_35 : decode prog_10_method_1_code 35 = .ok (.newarray .int, 2) := by decide +kernel
theorem dS_init_37 : decode prog_10_method_1_code 37 = .ok (.putfield 21, 3) := by decide +kernel
theorem dS_init_40 : decode prog_10_method_1_code 40 = .ok (.aload_n 0, 1) := by decide +kernel
theorem dS_init_41 : decode prog_10_method_1_code 41 = .ok (.iconst 0, 1) := by decide +kernel
theorem dS_init_42 : decode prog_10_method_1_code 42 = .ok (.putfield 24, 3) := by decide +kernel
theorem dS_init_45 : decode prog_10_method_1_code 45 = .ok (.return_, 1) := by decide +kernel
theorem dT_init_0 : decode prog_11_method_1_code 0 = .ok (.aload_n 0, 1) := by decide +kernel
theorem dT_init_1 : decode prog_11_method_1_code 1 = .ok (.invokespecial 3, 3) := by decide +kernel
theorem dT_init_4 : decode prog_11_method_1_code 4 = .ok (.aload_n 0, 1) := by decide +kernel
theorem dT_init_5 : decode prog_11_method_1_code 5 = .ok (.sipush 4096, 3) := by decide +kernel
theorem dT_init_8 : decode prog_11_method_1_code 8 = .ok (.newarray .byte, 2) := by decide +kernel
theorem dT_init_10 : decode prog_11_method_1_code 10 = .ok (.putfield 9, 3) := by decide +kernel
theorem dT_init_13 : decode prog_11_method_1_code 13 = .ok (.aload_n 0, 1) := by decide +kernel
theorem dT_init_14 : decode prog_11_method_1_code 14 = .ok (.iconst 0, 1) := by decide +kernel
theorem dT_init_15 : decode prog_11_method_1_code 15 = .ok (.putfield 15, 3) := by decide +kernel
theorem dT_init_18 : decode prog_11_method_1_code 18 = .ok (.aload_n 0, 1) := by decide +kernel
theorem dT_init_19 : decode prog_11_method_1_code 19 = .ok (.iconst 0, 1) := by decide +kernel
theorem dT_init_20 : decode prog_11_method_1_code 20 = .ok (.putfield 19, 3) := by decide +kernel
theorem dT_init_23 : decode prog_11_method_1_code 23 = .ok (.return_, 1) := by decide +kernel
