def yB_binary : MethodName := ⟨"ValueBench", "binary", "(IIII)V"⟩
def yB_compare : MethodName := ⟨"ValueBench", "compare", "(II)I"⟩
def yB_count : MethodName := ⟨"ValueBench", "count", "(I)I"⟩
def yB_demand : MethodName := ⟨"ValueBench", "demand", "(Z)V"⟩
def yB_demandDone : MethodName := ⟨"ValueBench", "demandDone", "(I)V"⟩
def yB_end : MethodName := ⟨"ValueBench", "end", "(I)I"⟩
def yB_feed : MethodName := ⟨"ValueBench", "feed", "(IIIII)I"⟩
def yB_isRegister : MethodName := ⟨"ValueBench", "isRegister", "(I)Z"⟩
def yB_isWithin : MethodName := ⟨"ValueBench", "isWithin", "(II)Z"⟩
def yB_keepSpare : MethodName := ⟨"ValueBench", "keepSpare", "(I)I"⟩
def yB_one : MethodName := ⟨"ValueBench", "one", "(III)V"⟩
def yB_print : MethodName := ⟨"ValueBench", "print", "(I)I"⟩
def yB_read : MethodName := ⟨"ValueBench", "read", "(I)I"⟩
def yB_same : MethodName := ⟨"ValueBench", "same", "(II)Z"⟩
def yB_sort : MethodName := ⟨"ValueBench", "sort", "(IIII)V"⟩
def yB_two : MethodName := ⟨"ValueBench", "two", "(IIII)V"⟩
def yB_word : MethodName := ⟨"ValueBench", "word", "(I)J"⟩
def yL_binary : MethodName := ⟨"ValueBenchLaw", "binary", "(LValueBench;IIII)I"⟩
def yL_compare : MethodName := ⟨"ValueBenchLaw", "compare", "(LValueBench;II[J)I"⟩
def yL_count : MethodName := ⟨"ValueBenchLaw", "count", "(LValueBench;I[J)I"⟩
def yL_end : MethodName := ⟨"ValueBenchLaw", "end", "(LValueBench;I[J)I"⟩
def yL_feed : MethodName := ⟨"ValueBenchLaw", "feed", "(LValueBench;IIIII[J)I"⟩
def yL_one : MethodName := ⟨"ValueBenchLaw", "one", "(LValueBench;III)I"⟩
def yL_print : MethodName := ⟨"ValueBenchLaw", "print", "(LValueBench;I[J)I"⟩
def yL_read : MethodName := ⟨"ValueBenchLaw", "read", "(LValueBench;I[J)I"⟩
def yL_same : MethodName := ⟨"ValueBenchLaw", "same", "(LValueBench;II[J)I"⟩
def yL_sort : MethodName := ⟨"ValueBenchLaw", "sort", "(LValueBench;IIII)I"⟩
def yL_two : MethodName := ⟨"ValueBenchLaw", "two", "(LValueBench;IIII)I"⟩
def yL_word : MethodName := ⟨"ValueBenchLaw", "word", "(LValueBench;I[J)I"⟩
def wyB_binary : List Cond := .code yB_binary prog_1_method_6_code 5 none :: xw
def wyB_compare : List Cond := .code yB_compare prog_1_method_7_code 3 (some .int) :: xw
def wyB_count : List Cond := .code yB_count prog_1_method_13_code 2 (some .int) :: xw
def wyB_demand : List Cond := .code yB_demand prog_1_method_16_code 1 none :: xw
def wyB_demandDone : List Cond := .code yB_demandDone prog_1_method_17_code 2 none :: xw
def wyB_end : List Cond := .code yB_end prog_1_method_3_code 2 (some .int) :: xw
def wyB_feed : List Cond := .code yB_feed prog_1_method_2_code 6 (some .int) :: xw
def wyB_isRegister : List Cond := .code yB_isRegister prog_1_method_14_code 1 (some .boolean) :: xw
def wyB_isWithin : List Cond := .code yB_isWithin prog_1_method_15_code 2 (some .boolean) :: xw
def wyB_keepSpare : List Cond := .code yB_keepSpare prog_1_method_18_code 3 (some .int) :: xw
def wyB_one : List Cond := .code yB_one prog_1_method_9_code 4 none :: xw
def wyB_print : List Cond := .code yB_print prog_1_method_5_code 2 (some .int) :: xw
def wyB_read : List Cond := .code yB_read prog_1_method_4_code 2 (some .int) :: xw
def wyB_same : List Cond := .code yB_same prog_1_method_8_code 3 (some .boolean) :: xw
def wyB_sort : List Cond := .code yB_sort prog_1_method_11_code 5 none :: xw
def wyB_two : List Cond := .code yB_two prog_1_method_10_code 5 none :: xw
def wyB_word : List Cond := .code yB_word prog_1_method_12_code 5 (some .long) :: xw
def wyL_binary : List Cond := .codeWith yL_binary method_7_code 6 (some .int) [(0, 9, 12, 19), (0, 9, 16, 33), (0, 9, 20, 13)] :: xw
def wyL_compare : List Cond := .codeWith yL_compare method_8_code 5 (some .int) [(0, 10, 13, 19)] :: xw
def wyL_count : List Cond := .codeWith yL_count method_14_code 4 (some .int) [(0, 9, 12, 19)] :: xw
def wyL_end : List Cond := .codeWith yL_end method_4_code 4 (some .int) [(0, 9, 12, 19)] :: xw
def wyL_feed : List Cond := .codeWith yL_feed method_3_code 8 (some .int) [(0, 16, 19, 13)] :: xw
def wyL_one : List Cond := .codeWith yL_one method_10_code 5 (some .int) [(0, 7, 10, 19), (0, 7, 14, 33), (0, 7, 18, 13)] :: xw
def wyL_print : List Cond := .codeWith yL_print method_6_code 4 (some .int) [(0, 9, 12, 19)] :: xw
def wyL_read : List Cond := .codeWith yL_read method_5_code 4 (some .int) [(0, 9, 12, 19), (0, 9, 15, 24), (0, 9, 18, 13)] :: xw
def wyL_same : List Cond := .codeWith yL_same method_9_code 5 (some .int) [(0, 17, 20, 19)] :: xw
def wyL_sort : List Cond := .codeWith yL_sort method_12_code 6 (some .int) [(0, 9, 12, 19), (0, 9, 16, 33), (0, 9, 20, 13)] :: xw
def wyL_two : List Cond := .codeWith yL_two method_11_code 6 (some .int) [(0, 9, 12, 19), (0, 9, 16, 33), (0, 9, 20, 13)] :: xw
def wyL_word : List Cond := .codeWith yL_word method_13_code 4 (some .int) [(0, 8, 11, 13)] :: xw
theorem kw_1_122 : (.codeWith yL_feed method_3_code 8 (some .int) [(0, 16, 19, 13)] : Cond) ∈ xw := xw_t (x_t1 (List.mem_of_getElem? (i := 122) rfl)) rfl
theorem kw_1_123 : (.classLink "ValueBenchLaw" 13 "java/lang/IndexOutOfBoundsException" : Cond) ∈ xw := xw_t (x_t1 (List.mem_of_getElem? (i := 123) rfl)) rfl
theorem kw_1_124 : (.methodLink "ValueBenchLaw" 7 yB_feed : Cond) ∈ xw := xw_t (x_t1 (List.mem_of_getElem? (i := 124) rfl)) rfl
theorem kw_1_125 : (.instanceMethod yB_feed : Cond) ∈ xw := xw_t (x_t1 (List.mem_of_getElem? (i := 125) rfl)) rfl
theorem kw_1_126 : (.selects "ValueBench" yB_feed yB_feed : Cond) ∈ xw := xw_t (x_t1 (List.mem_of_getElem? (i := 126) rfl)) rfl
theorem kw_1_127 : (.code yB_feed prog_1_method_2_code 6 (some .int) : Cond) ∈ xw := xw_t (x_t1 (List.mem_of_getElem? (i := 127) rfl)) rfl
theorem kw_1_128 : (.methodLink "ValueBench" 47 yT_size : Cond) ∈ xw := xw_t (x_t1 (List.mem_of_getElem? (i := 128) rfl)) rfl
theorem kw_1_13 : (.initialized "java/lang/IndexOutOfBoundsException" : Cond) ∈ xw := xw_t (x_t1 (List.mem_of_getElem? (i := 13) rfl)) rfl
theorem kw_1_132 : (.classLink "ValueBench" 51 "java/lang/IndexOutOfBoundsException" : Cond) ∈ xw := xw_t (x_t1 (List.mem_of_getElem? (i := 132) rfl)) rfl
theorem kw_1_14 : (.initialized "java/lang/IllegalArgumentException" : Cond) ∈ xw := xw_t (x_t1 (List.mem_of_getElem? (i := 14) rfl)) rfl
theorem kw_1_17 : (.initialized "java/lang/UnsupportedOperationException" : Cond) ∈ xw := xw_t (x_t1 (List.mem_of_getElem? (i := 17) rfl)) rfl
theorem kw_1_20 : (.initialized "java/lang/ArithmeticException" : Cond) ∈ xw := xw_t (x_t1 (List.mem_of_getElem? (i := 20) rfl)) rfl
theorem kw_1_200 : (.methodLink "ValueBench" 58 yT_addInt : Cond) ∈ xw := xw_t (x_t1 (List.mem_of_getElem? (i := 200) rfl)) rfl
theorem kw_1_201 : (.instanceMethod yT_addInt : Cond) ∈ xw := xw_t (x_t1 (List.mem_of_getElem? (i := 201) rfl)) rfl
theorem kw_1_202 : (.selects "ValueBench$Text" yT_addInt yT_addInt : Cond) ∈ xw := xw_t (x_t1 (List.mem_of_getElem? (i := 202) rfl)) rfl
theorem kw_1_210 : (.codeWith yL_end method_4_code 4 (some .int) [(0, 9, 12, 19)] : Cond) ∈ xw := xw_t (x_t1 (List.mem_of_getElem? (i := 210) rfl)) rfl
theorem kw_1_211 : (.classLink "ValueBenchLaw" 19 "java/lang/IllegalArgumentException" : Cond) ∈ xw := xw_t (x_t1 (List.mem_of_getElem? (i := 211) rfl)) rfl
theorem kw_1_212 : (.methodLink "ValueBenchLaw" 15 yB_end : Cond) ∈ xw := xw_t (x_t1 (List.mem_of_getElem? (i := 212) rfl)) rfl
theorem kw_1_213 : (.instanceMethod yB_end : Cond) ∈ xw := xw_t (x_t1 (List.mem_of_getElem? (i := 213) rfl)) rfl
theorem kw_1_214 : (.selects "ValueBench" yB_end yB_end : Cond) ∈ xw := xw_t (x_t1 (List.mem_of_getElem? (i := 214) rfl)) rfl
theorem kw_1_215 : (.code yB_end prog_1_method_3_code 2 (some .int) : Cond) ∈ xw := xw_t (x_t1 (List.mem_of_getElem? (i := 215) rfl)) rfl
theorem kw_1_216 : (.methodLink "ValueBench" 62 yB_isWithin : Cond) ∈ xw := xw_t (x_t1 (List.mem_of_getElem? (i := 216) rfl)) rfl
theorem kw_1_217 : (.static yB_isWithin : Cond) ∈ xw := xw_t (x_t1 (List.mem_of_getElem? (i := 217) rfl)) rfl
theorem kw_1_218 : (.code yB_isWithin prog_1_method_15_code 2 (some .boolean) : Cond) ∈ xw := xw_t (x_t1 (List.mem_of_getElem? (i := 218) rfl)) rfl
theorem kw_1_219 : (.methodLink "ValueBench" 66 yB_demand : Cond) ∈ xw := xw_t (x_t1 (List.mem_of_getElem? (i := 219) rfl)) rfl
theorem kw_1_220 : (.static yB_demand : Cond) ∈ xw := xw_t (x_t1 (List.mem_of_getElem? (i := 220) rfl)) rfl
theorem kw_1_221 : (.code yB_demand prog_1_method_16_code 1 none : Cond) ∈ xw := xw_t (x_t1 (List.mem_of_getElem? (i := 221) rfl)) rfl
theorem kw_1_222 : (.classLink "ValueBench" 149 "java/lang/IllegalArgumentException" : Cond) ∈ xw := xw_t (x_t1 (List.mem_of_getElem? (i := 222) rfl)) rfl
theorem kw_1_238 : (.methodLink "ValueBench" 70 yT_keep : Cond) ∈ xw := xw_t (x_t1 (List.mem_of_getElem? (i := 238) rfl)) rfl
theorem kw_1_239 : (.instanceMethod yT_keep : Cond) ∈ xw := xw_t (x_t1 (List.mem_of_getElem? (i := 239) rfl)) rfl
theorem kw_2_0 : (.selects "ValueBench$Text" yT_keep yT_keep : Cond) ∈ xw := xw_t (x_t2 (List.mem_of_getElem? (i := 0) rfl)) rfl
theorem kw_2_10 : (.codeWith yL_read method_5_code 4 (some .int) [(0, 9, 12, 19), (0, 9, 15, 24), (0, 9, 18, 13)] : Cond) ∈ xw := xw_t (x_t2 (List.mem_of_getElem? (i := 10) rfl)) rfl
theorem kw_2_11 : (.classLink "ValueBenchLaw" 24 "java/lang/UnsupportedOperationException" : Cond) ∈ xw := xw_t (x_t2 (List.mem_of_getElem? (i := 11) rfl)) rfl
theorem kw_2_12 : (.methodLink "ValueBenchLaw" 21 yB_read : Cond) ∈ xw := xw_t (x_t2 (List.mem_of_getElem? (i := 12) rfl)) rfl
theorem kw_2_13 : (.instanceMethod yB_read : Cond) ∈ xw := xw_t (x_t2 (List.mem_of_getElem? (i := 13) rfl)) rfl
theorem kw_2_14 : (.selects "ValueBench" yB_read yB_read : Cond) ∈ xw := xw_t (x_t2 (List.mem_of_getElem? (i := 14) rfl)) rfl
theorem kw_2_15 : (.code yB_read prog_1_method_4_code 2 (some .int) : Cond) ∈ xw := xw_t (x_t2 (List.mem_of_getElem? (i := 15) rfl)) rfl
theorem kw_2_16 : (.methodLink "ValueBench" 73 yB_isRegister : Cond) ∈ xw := xw_t (x_t2 (List.mem_of_getElem? (i := 16) rfl)) rfl
theorem kw_2_17 : (.static yB_isRegister : Cond) ∈ xw := xw_t (x_t2 (List.mem_of_getElem? (i := 17) rfl)) rfl
theorem kw_2_18 : (.code yB_isRegister prog_1_method_14_code 1 (some .boolean) : Cond) ∈ xw := xw_t (x_t2 (List.mem_of_getElem? (i := 18) rfl)) rfl
theorem kw_2_19 : (.methodLink "ValueBench" 77 yR_clear : Cond) ∈ xw := xw_t (x_t2 (List.mem_of_getElem? (i := 19) rfl)) rfl
theorem kw_2_20 : (.instanceMethod yR_clear : Cond) ∈ xw := xw_t (x_t2 (List.mem_of_getElem? (i := 20) rfl)) rfl
theorem kw_2_21 : (.selects "ValueBench$Row" yR_clear yR_clear : Cond) ∈ xw := xw_t (x_t2 (List.mem_of_getElem? (i := 21) rfl)) rfl
theorem kw_2_23 : (.classLink "ValueBench" 80 "ValueBench$Reader" : Cond) ∈ xw := xw_t (x_t2 (List.mem_of_getElem? (i := 23) rfl)) rfl
theorem kw_2_234 : (.methodLink "ValueBench" 88 yT_clear : Cond) ∈ xw := xw_t (x_t2 (List.mem_of_getElem? (i := 234) rfl)) rfl
theorem kw_2_238 : (.classLink "ValueBench" 89 "java/lang/UnsupportedOperationException" : Cond) ∈ xw := xw_t (x_t2 (List.mem_of_getElem? (i := 238) rfl)) rfl
theorem kw_2_25 : (.methodLink "ValueBench" 82 yD_init : Cond) ∈ xw := xw_t (x_t2 (List.mem_of_getElem? (i := 25) rfl)) rfl
theorem kw_2_42 : (.methodLink "ValueBench" 85 yD_readValue : Cond) ∈ xw := xw_t (x_t2 (List.mem_of_getElem? (i := 42) rfl)) rfl
theorem kw_3_100 : (.instanceMethod yB_binary : Cond) ∈ xw := xw_t (x_t3 (List.mem_of_getElem? (i := 100) rfl)) rfl
theorem kw_3_101 : (.selects "ValueBench" yB_binary yB_binary : Cond) ∈ xw := xw_t (x_t3 (List.mem_of_getElem? (i := 101) rfl)) rfl
theorem kw_3_102 : (.code yB_binary prog_1_method_6_code 5 none : Cond) ∈ xw := xw_t (x_t3 (List.mem_of_getElem? (i := 102) rfl)) rfl
theorem kw_3_103 : (.methodLink "ValueBench" 104 yA_apply : Cond) ∈ xw := xw_t (x_t3 (List.mem_of_getElem? (i := 103) rfl)) rfl
theorem kw_3_104 : (.static yA_apply : Cond) ∈ xw := xw_t (x_t3 (List.mem_of_getElem? (i := 104) rfl)) rfl
theorem kw_3_14 : (.methodLink "ValueBench" 94 yB_keepSpare : Cond) ∈ xw := xw_t (x_t3 (List.mem_of_getElem? (i := 14) rfl)) rfl
theorem kw_3_16 : (.instanceMethod yB_keepSpare : Cond) ∈ xw := xw_t (x_t3 (List.mem_of_getElem? (i := 16) rfl)) rfl
theorem kw_3_17 : (.code yB_keepSpare prog_1_method_18_code 3 (some .int) : Cond) ∈ xw := xw_t (x_t3 (List.mem_of_getElem? (i := 17) rfl)) rfl
theorem kw_3_18 : (.methodLink "ValueBench" 98 yP_write : Cond) ∈ xw := xw_t (x_t3 (List.mem_of_getElem? (i := 18) rfl)) rfl
theorem kw_3_219 : (.methodLink "ValueBench" 110 yB_demandDone : Cond) ∈ xw := xw_t (x_t3 (List.mem_of_getElem? (i := 219) rfl)) rfl
theorem kw_3_221 : (.instanceMethod yB_demandDone : Cond) ∈ xw := xw_t (x_t3 (List.mem_of_getElem? (i := 221) rfl)) rfl
theorem kw_3_222 : (.code yB_demandDone prog_1_method_17_code 2 none : Cond) ∈ xw := xw_t (x_t3 (List.mem_of_getElem? (i := 222) rfl)) rfl
theorem kw_3_223 : (.classLink "ValueBench" 154 "java/lang/ArithmeticException" : Cond) ∈ xw := xw_t (x_t3 (List.mem_of_getElem? (i := 223) rfl)) rfl
theorem kw_3_79 : (.methodLink "ValueBench" 167 yR_isOver : Cond) ∈ xw := xw_t (x_t3 (List.mem_of_getElem? (i := 79) rfl)) rfl
theorem kw_3_83 : (.methodLink "ValueBench" 171 yT_isOver : Cond) ∈ xw := xw_t (x_t3 (List.mem_of_getElem? (i := 83) rfl)) rfl
theorem kw_3_90 : (.codeWith yL_print method_6_code 4 (some .int) [(0, 9, 12, 19)] : Cond) ∈ xw := xw_t (x_t3 (List.mem_of_getElem? (i := 90) rfl)) rfl
theorem kw_3_91 : (.methodLink "ValueBenchLaw" 26 yB_print : Cond) ∈ xw := xw_t (x_t3 (List.mem_of_getElem? (i := 91) rfl)) rfl
theorem kw_3_92 : (.instanceMethod yB_print : Cond) ∈ xw := xw_t (x_t3 (List.mem_of_getElem? (i := 92) rfl)) rfl
theorem kw_3_93 : (.selects "ValueBench" yB_print yB_print : Cond) ∈ xw := xw_t (x_t3 (List.mem_of_getElem? (i := 93) rfl)) rfl
theorem kw_3_94 : (.code yB_print prog_1_method_5_code 2 (some .int) : Cond) ∈ xw := xw_t (x_t3 (List.mem_of_getElem? (i := 94) rfl)) rfl
theorem kw_3_97 : (.codeWith yL_binary method_7_code 6 (some .int) [(0, 9, 12, 19), (0, 9, 16, 33), (0, 9, 20, 13)] : Cond) ∈ xw := xw_t (x_t3 (List.mem_of_getElem? (i := 97) rfl)) rfl
theorem kw_3_98 : (.classLink "ValueBenchLaw" 33 "java/lang/ArithmeticException" : Cond) ∈ xw := xw_t (x_t3 (List.mem_of_getElem? (i := 98) rfl)) rfl
theorem kw_3_99 : (.methodLink "ValueBenchLaw" 29 yB_binary : Cond) ∈ xw := xw_t (x_t3 (List.mem_of_getElem? (i := 99) rfl)) rfl
theorem kw_4_10 : (.methodLink "ValueBench" 113 yO_of : Cond) ∈ xw := xw_t (x_t4 (List.mem_of_getElem? (i := 10) rfl)) rfl
theorem kw_4_13 : (.codeWith yL_same method_9_code 5 (some .int) [(0, 17, 20, 19)] : Cond) ∈ xw := xw_t (x_t4 (List.mem_of_getElem? (i := 13) rfl)) rfl
theorem kw_4_139 : (.codeWith yL_two method_11_code 6 (some .int) [(0, 9, 12, 19), (0, 9, 16, 33), (0, 9, 20, 13)] : Cond) ∈ xw := xw_t (x_t4 (List.mem_of_getElem? (i := 139) rfl)) rfl
theorem kw_4_14 : (.methodLink "ValueBenchLaw" 39 yB_same : Cond) ∈ xw := xw_t (x_t4 (List.mem_of_getElem? (i := 14) rfl)) rfl
theorem kw_4_140 : (.methodLink "ValueBenchLaw" 47 yB_two : Cond) ∈ xw := xw_t (x_t4 (List.mem_of_getElem? (i := 140) rfl)) rfl
theorem kw_4_141 : (.instanceMethod yB_two : Cond) ∈ xw := xw_t (x_t4 (List.mem_of_getElem? (i := 141) rfl)) rfl
theorem kw_4_142 : (.selects "ValueBench" yB_two yB_two : Cond) ∈ xw := xw_t (x_t4 (List.mem_of_getElem? (i := 142) rfl)) rfl
theorem kw_4_143 : (.code yB_two prog_1_method_10_code 5 none : Cond) ∈ xw := xw_t (x_t4 (List.mem_of_getElem? (i := 143) rfl)) rfl
theorem kw_4_144 : (.methodLink "ValueBench" 128 yH_apply : Cond) ∈ xw := xw_t (x_t4 (List.mem_of_getElem? (i := 144) rfl)) rfl
theorem kw_4_145 : (.static yH_apply : Cond) ∈ xw := xw_t (x_t4 (List.mem_of_getElem? (i := 145) rfl)) rfl
theorem kw_4_15 : (.instanceMethod yB_same : Cond) ∈ xw := xw_t (x_t4 (List.mem_of_getElem? (i := 15) rfl)) rfl
theorem kw_4_16 : (.selects "ValueBench" yB_same yB_same : Cond) ∈ xw := xw_t (x_t4 (List.mem_of_getElem? (i := 16) rfl)) rfl
theorem kw_4_17 : (.code yB_same prog_1_method_8_code 3 (some .boolean) : Cond) ∈ xw := xw_t (x_t4 (List.mem_of_getElem? (i := 17) rfl)) rfl
theorem kw_4_18 : (.methodLink "ValueBench" 119 yO_isSame : Cond) ∈ xw := xw_t (x_t4 (List.mem_of_getElem? (i := 18) rfl)) rfl
theorem kw_4_21 : (.codeWith yL_one method_10_code 5 (some .int) [(0, 7, 10, 19), (0, 7, 14, 33), (0, 7, 18, 13)] : Cond) ∈ xw := xw_t (x_t4 (List.mem_of_getElem? (i := 21) rfl)) rfl
theorem kw_4_22 : (.methodLink "ValueBenchLaw" 43 yB_one : Cond) ∈ xw := xw_t (x_t4 (List.mem_of_getElem? (i := 22) rfl)) rfl
theorem kw_4_23 : (.instanceMethod yB_one : Cond) ∈ xw := xw_t (x_t4 (List.mem_of_getElem? (i := 23) rfl)) rfl
theorem kw_4_24 : (.selects "ValueBench" yB_one yB_one : Cond) ∈ xw := xw_t (x_t4 (List.mem_of_getElem? (i := 24) rfl)) rfl
theorem kw_4_25 : (.code yB_one prog_1_method_9_code 4 none : Cond) ∈ xw := xw_t (x_t4 (List.mem_of_getElem? (i := 25) rfl)) rfl
theorem kw_4_26 : (.methodLink "ValueBench" 123 yG_apply : Cond) ∈ xw := xw_t (x_t4 (List.mem_of_getElem? (i := 26) rfl)) rfl
theorem kw_4_27 : (.static yG_apply : Cond) ∈ xw := xw_t (x_t4 (List.mem_of_getElem? (i := 27) rfl)) rfl
theorem kw_4_5 : (.codeWith yL_compare method_8_code 5 (some .int) [(0, 10, 13, 19)] : Cond) ∈ xw := xw_t (x_t4 (List.mem_of_getElem? (i := 5) rfl)) rfl
theorem kw_4_6 : (.methodLink "ValueBenchLaw" 35 yB_compare : Cond) ∈ xw := xw_t (x_t4 (List.mem_of_getElem? (i := 6) rfl)) rfl
theorem kw_4_7 : (.instanceMethod yB_compare : Cond) ∈ xw := xw_t (x_t4 (List.mem_of_getElem? (i := 7) rfl)) rfl
theorem kw_4_8 : (.selects "ValueBench" yB_compare yB_compare : Cond) ∈ xw := xw_t (x_t4 (List.mem_of_getElem? (i := 8) rfl)) rfl
theorem kw_4_9 : (.code yB_compare prog_1_method_7_code 3 (some .int) : Cond) ∈ xw := xw_t (x_t4 (List.mem_of_getElem? (i := 9) rfl)) rfl
theorem kw_5_14 : (.codeWith yL_sort method_12_code 6 (some .int) [(0, 9, 12, 19), (0, 9, 16, 33), (0, 9, 20, 13)] : Cond) ∈ xw := xw_t (x_t5 (List.mem_of_getElem? (i := 14) rfl)) rfl
theorem kw_5_15 : (.methodLink "ValueBenchLaw" 50 yB_sort : Cond) ∈ xw := xw_t (x_t5 (List.mem_of_getElem? (i := 15) rfl)) rfl
theorem kw_5_16 : (.instanceMethod yB_sort : Cond) ∈ xw := xw_t (x_t5 (List.mem_of_getElem? (i := 16) rfl)) rfl
theorem kw_5_17 : (.selects "ValueBench" yB_sort yB_sort : Cond) ∈ xw := xw_t (x_t5 (List.mem_of_getElem? (i := 17) rfl)) rfl
theorem kw_5_18 : (.code yB_sort prog_1_method_11_code 5 none : Cond) ∈ xw := xw_t (x_t5 (List.mem_of_getElem? (i := 18) rfl)) rfl
theorem kw_5_19 : (.methodLink "ValueBench" 133 yK_apply : Cond) ∈ xw := xw_t (x_t5 (List.mem_of_getElem? (i := 19) rfl)) rfl
theorem kw_5_20 : (.static yK_apply : Cond) ∈ xw := xw_t (x_t5 (List.mem_of_getElem? (i := 20) rfl)) rfl
theorem kw_5_59 : (.codeWith yL_word method_13_code 4 (some .int) [(0, 8, 11, 13)] : Cond) ∈ xw := xw_t (x_t5 (List.mem_of_getElem? (i := 59) rfl)) rfl
theorem kw_5_60 : (.methodLink "ValueBenchLaw" 53 yB_word : Cond) ∈ xw := xw_t (x_t5 (List.mem_of_getElem? (i := 60) rfl)) rfl
theorem kw_5_61 : (.instanceMethod yB_word : Cond) ∈ xw := xw_t (x_t5 (List.mem_of_getElem? (i := 61) rfl)) rfl
theorem kw_5_62 : (.selects "ValueBench" yB_word yB_word : Cond) ∈ xw := xw_t (x_t5 (List.mem_of_getElem? (i := 62) rfl)) rfl
theorem kw_5_63 : (.code yB_word prog_1_method_12_code 5 (some .long) : Cond) ∈ xw := xw_t (x_t5 (List.mem_of_getElem? (i := 63) rfl)) rfl
theorem kw_5_65 : (.methodLink "ValueBench" 140 yT_at : Cond) ∈ xw := xw_t (x_t5 (List.mem_of_getElem? (i := 65) rfl)) rfl
theorem kw_5_66 : (.methodLink "ValueBench" 143 Lib.Math.max.name : Cond) ∈ xw := xw_t (x_t5 (List.mem_of_getElem? (i := 66) rfl)) rfl
theorem kw_5_69 : (.codeWith yL_count method_14_code 4 (some .int) [(0, 9, 12, 19)] : Cond) ∈ xw := xw_t (x_t5 (List.mem_of_getElem? (i := 69) rfl)) rfl
theorem kw_5_70 : (.methodLink "ValueBenchLaw" 57 yB_count : Cond) ∈ xw := xw_t (x_t5 (List.mem_of_getElem? (i := 70) rfl)) rfl
theorem kw_5_71 : (.instanceMethod yB_count : Cond) ∈ xw := xw_t (x_t5 (List.mem_of_getElem? (i := 71) rfl)) rfl
theorem kw_5_72 : (.selects "ValueBench" yB_count yB_count : Cond) ∈ xw := xw_t (x_t5 (List.mem_of_getElem? (i := 72) rfl)) rfl
theorem kw_5_73 : (.code yB_count prog_1_method_13_code 2 (some .int) : Cond) ∈ xw := xw_t (x_t5 (List.mem_of_getElem? (i := 73) rfl)) rfl
theorem kp_B_demandDone : (.selects "ValueBench" yB_demandDone yB_demandDone : Cond) ∈ xw := xw_p (List.mem_map.mpr ⟨(yB_demandDone, 8), List.mem_append_right _ (List.mem_append_left _ (List.mem_of_getElem? (i := 5) rfl)), rfl⟩) rfl
theorem kp_B_keepSpare : (.selects "ValueBench" yB_keepSpare yB_keepSpare : Cond) ∈ xw := xw_p (List.mem_map.mpr ⟨(yB_keepSpare, 8), List.mem_append_right _ (List.mem_append_left _ (List.mem_of_getElem? (i := 3) rfl)), rfl⟩) rfl
theorem xat_B_149_153 : ∀ w ∈ (vx_atS "ValueBench" 153 "java/lang/IllegalArgumentException" ["java/lang/RuntimeException", "java/lang/Exception"]).filter goodWord, w ∈ xw := fun w h => List.mem_filter.mpr ⟨(by decide +kernel : ∀ w ∈ (vx_atS "ValueBench" 153 "java/lang/IllegalArgumentException" ["java/lang/RuntimeException", "java/lang/Exception"]).filter goodWord, w ∈ lw_tbl) w h, (List.mem_filter.mp h).2⟩
theorem xat_B_149_153_b : ∀ w ∈ (vx_atS "ValueBench" 153 "java/lang/IllegalArgumentException" ["java/lang/RuntimeException", "java/lang/Exception"]).filter (fun w => !goodWord w), w ∈ ([.castable "java/lang/IllegalArgumentException" "java/lang/IllegalArgumentException", .declares ⟨"java/lang/RuntimeException", "<init>", "(Ljava/lang/String;)V"⟩, .declares ⟨"java/lang/Exception", "<init>", "(Ljava/lang/String;)V"⟩, .declares ⟨"java/lang/Throwable", "<init>", "(Ljava/lang/String;)V"⟩] : List Cond) := by decide +kernel
theorem xat_B_149_153_g : ∀ w ∈ Cond.classLink "ValueBench" 149 "java/lang/IllegalArgumentException" :: Cond.initialized "java/lang/IllegalArgumentException" :: vx_atS "ValueBench" 153 "java/lang/IllegalArgumentException" ["java/lang/RuntimeException", "java/lang/Exception"], vx_ot w = true := by decide +kernel
theorem xat_B_154_158 : ∀ w ∈ (vx_atS "ValueBench" 158 "java/lang/ArithmeticException" ["java/lang/RuntimeException", "java/lang/Exception"]).filter goodWord, w ∈ xw := fun w h => List.mem_filter.mpr ⟨(by decide +kernel : ∀ w ∈ (vx_atS "ValueBench" 158 "java/lang/ArithmeticException" ["java/lang/RuntimeException", "java/lang/Exception"]).filter goodWord, w ∈ lw_tbl) w h, (List.mem_filter.mp h).2⟩
theorem xat_B_154_158_b : ∀ w ∈ (vx_atS "ValueBench" 158 "java/lang/ArithmeticException" ["java/lang/RuntimeException", "java/lang/Exception"]).filter (fun w => !goodWord w), w ∈ ([.castable "java/lang/ArithmeticException" "java/lang/ArithmeticException", .declares ⟨"java/lang/RuntimeException", "<init>", "(Ljava/lang/String;)V"⟩, .declares ⟨"java/lang/Exception", "<init>", "(Ljava/lang/String;)V"⟩, .declares ⟨"java/lang/Throwable", "<init>", "(Ljava/lang/String;)V"⟩] : List Cond) := by decide +kernel
theorem xat_B_154_158_g : ∀ w ∈ Cond.classLink "ValueBench" 154 "java/lang/ArithmeticException" :: Cond.initialized "java/lang/ArithmeticException" :: vx_atS "ValueBench" 158 "java/lang/ArithmeticException" ["java/lang/RuntimeException", "java/lang/Exception"], vx_ot w = true := by decide +kernel
theorem xat_B_51_55 : ∀ w ∈ (vx_atS "ValueBench" 55 "java/lang/IndexOutOfBoundsException" ["java/lang/RuntimeException", "java/lang/Exception"]).filter goodWord, w ∈ xw := fun w h => List.mem_filter.mpr ⟨(by decide +kernel : ∀ w ∈ (vx_atS "ValueBench" 55 "java/lang/IndexOutOfBoundsException" ["java/lang/RuntimeException", "java/lang/Exception"]).filter goodWord, w ∈ lw_tbl) w h, (List.mem_filter.mp h).2⟩
theorem xat_B_51_55_b : ∀ w ∈ (vx_atS "ValueBench" 55 "java/lang/IndexOutOfBoundsException" ["java/lang/RuntimeException", "java/lang/Exception"]).filter (fun w => !goodWord w), w ∈ ([.castable "java/lang/IndexOutOfBoundsException" "java/lang/IndexOutOfBoundsException", .declares ⟨"java/lang/RuntimeException", "<init>", "(Ljava/lang/String;)V"⟩, .declares ⟨"java/lang/Exception", "<init>", "(Ljava/lang/String;)V"⟩, .declares ⟨"java/lang/Throwable", "<init>", "(Ljava/lang/String;)V"⟩] : List Cond) := by decide +kernel
theorem xat_B_51_55_g : ∀ w ∈ Cond.classLink "ValueBench" 51 "java/lang/IndexOutOfBoundsException" :: Cond.initialized "java/lang/IndexOutOfBoundsException" :: vx_atS "ValueBench" 55 "java/lang/IndexOutOfBoundsException" ["java/lang/RuntimeException", "java/lang/Exception"], vx_ot w = true := by decide +kernel
theorem xat_B_89_93 : ∀ w ∈ (vx_atS "ValueBench" 93 "java/lang/UnsupportedOperationException" ["java/lang/RuntimeException", "java/lang/Exception"]).filter goodWord, w ∈ xw := fun w h => List.mem_filter.mpr ⟨(by decide +kernel : ∀ w ∈ (vx_atS "ValueBench" 93 "java/lang/UnsupportedOperationException" ["java/lang/RuntimeException", "java/lang/Exception"]).filter goodWord, w ∈ lw_tbl) w h, (List.mem_filter.mp h).2⟩
theorem xat_B_89_93_b : ∀ w ∈ (vx_atS "ValueBench" 93 "java/lang/UnsupportedOperationException" ["java/lang/RuntimeException", "java/lang/Exception"]).filter (fun w => !goodWord w), w ∈ ([.castable "java/lang/UnsupportedOperationException" "java/lang/UnsupportedOperationException", .declares ⟨"java/lang/RuntimeException", "<init>", "(Ljava/lang/String;)V"⟩, .declares ⟨"java/lang/Exception", "<init>", "(Ljava/lang/String;)V"⟩, .declares ⟨"java/lang/Throwable", "<init>", "(Ljava/lang/String;)V"⟩] : List Cond) := by decide +kernel
theorem xat_B_89_93_g : ∀ w ∈ Cond.classLink "ValueBench" 89 "java/lang/UnsupportedOperationException" :: Cond.initialized "java/lang/UnsupportedOperationException" :: vx_atS "ValueBench" 93 "java/lang/UnsupportedOperationException" ["java/lang/RuntimeException", "java/lang/Exception"], vx_ot w = true := by decide +kernel
theorem dB_binary_0 : decode prog_1_method_6_code 0 = .ok (.iload_n 1, 1) := by decide +kernel
theorem dB_binary_1 : decode prog_1_method_6_code 1 = .ok (.invokestatic 73, 3) := by decide +kernel
theorem dB_binary_4 : decode prog_1_method_6_code 4 = .ok (.ifCond .eq 30, 3) := by decide +kernel
theorem dB_binary_7 : decode prog_1_method_6_code 7 = .ok (.iload_n 2, 1) := by decide +kernel
theorem dB_binary_8 : decode prog_1_method_6_code 8 = .ok (.iconst 4, 1) := by decide +kernel
theorem dB_binary_9 : decode prog_1_method_6_code 9 = .ok (.invokestatic 62, 3) := by decide +kernel
theorem dB_binary_12 : decode prog_1_method_6_code 12 = .ok (.ifCond .eq 22, 3) := by decide +kernel
theorem dB_binary_15 : decode prog_1_method_6_code 15 = .ok (.iload_n 3, 1) := by decide +kernel
theorem dB_binary_16 : decode prog_1_method_6_code 16 = .ok (.invokestatic 73, 3) := by decide +kernel
theorem dB_binary_19 : decode prog_1_method_6_code 19 = .ok (.ifCond .eq 15, 3) := by decide +kernel
theorem dB_binary_22 : decode prog_1_method_6_code 22 = .ok (.iload 4, 2) := by decide +kernel
theorem dB_binary_24 : decode prog_1_method_6_code 24 = .ok (.invokestatic 73, 3) := by decide +kernel
theorem dB_binary_27 : decode prog_1_method_6_code 27 = .ok (.ifCond .eq 7, 3) := by decide +kernel
theorem dB_binary_30 : decode prog_1_method_6_code 30 = .ok (.iconst 1, 1) := by decide +kernel
theorem dB_binary_31 : decode prog_1_method_6_code 31 = .ok (.goto 4, 3) := by decide +kernel
theorem dB_binary_34 : decode prog_1_method_6_code 34 = .ok (.iconst 0, 1) := by decide +kernel
theorem dB_binary_35 : decode prog_1_method_6_code 35 = .ok (.invokestatic 66, 3) := by decide +kernel
theorem dB_binary_38 : decode prog_1_method_6_code 38 = .ok (.aload_n 0, 1) := by decide +kernel
theorem dB_binary_39 : decode prog_1_method_6_code 39 = .ok (.getfield 36, 3) := by decide +kernel
theorem dB_binary_42 : decode prog_1_method_6_code 42 = .ok (.invokevirtual 77, 3) := by decide +kernel
theorem dB_binary_45 : decode prog_1_method_6_code 45 = .ok (.aload_n 0, 1) := by decide +kernel
theorem dB_binary_46 : decode prog_1_method_6_code 46 = .ok (.iload_n 2, 1) := by decide +kernel
theorem dB_binary_47 : decode prog_1_method_6_code 47 = .ok (.aload_n 0, 1) := by decide +kernel
theorem dB_binary_48 : decode prog_1_method_6_code 48 = .ok (.getfield 24, 3) := by decide +kernel
theorem dB_binary_51 : decode prog_1_method_6_code 51 = .ok (.iload_n 3, 1) := by decide +kernel
theorem dB_binary_52 : decode prog_1_method_6_code 52 = .ok (.aaload, 1) := by decide +kernel
theorem dB_binary_53 : decode prog_1_method_6_code 53 = .ok (.aload_n 0, 1) := by decide +kernel
theorem dB_binary_54 : decode prog_1_method_6_code 54 = .ok (.getfield 24, 3) := by decide +kernel
theorem dB_binary_57 : decode prog_1_method_6_code 57 = .ok (.iload 4, 2) := by decide +kernel
theorem dB_binary_59 : decode prog_1_method_6_code 59 = .ok (.aaload, 1) := by decide +kernel
theorem dB_binary_60 : decode prog_1_method_6_code 60 = .ok (.aload_n 0, 1) := by decide +kernel
theorem dB_binary_61 : decode prog_1_method_6_code 61 = .ok (.getfield 36, 3) := by decide +kernel
theorem dB_binary_64 : decode prog_1_method_6_code 64 = .ok (.invokestatic 104, 3) := by decide +kernel
theorem dB_binary_67 : decode prog_1_method_6_code 67 = .ok (.invokevirtual 110, 3) := by decide +kernel
theorem dB_binary_70 : decode prog_1_method_6_code 70 = .ok (.aload_n 0, 1) := by decide +kernel
theorem dB_binary_71 : decode prog_1_method_6_code 71 = .ok (.iload_n 1, 1) := by decide +kernel
theorem dB_binary_72 : decode prog_1_method_6_code 72 = .ok (.invokevirtual 94, 3) := by decide +kernel
theorem dB_binary_75 : decode prog_1_method_6_code 75 = .ok (.pop, 1) := by decide +kernel
theorem dB_binary_76 : decode prog_1_method_6_code 76 = .ok (.return_, 1) := by decide +kernel
theorem dB_compare_0 : decode prog_1_method_7_code 0 = .ok (.iload_n 1, 1) := by decide +kernel
theorem dB_compare_1 : decode prog_1_method_7_code 1 = .ok (.invokestatic 73, 3) := by decide +kernel
theorem dB_compare_4 : decode prog_1_method_7_code 4 = .ok (.ifCond .eq 14, 3) := by decide +kernel
theorem dB_compare_7 : decode prog_1_method_7_code 7 = .ok (.iload_n 2, 1) := by decide +kernel
theorem dB_compare_8 : decode prog_1_method_7_code 8 = .ok (.invokestatic 73, 3) := by decide +kernel
theorem dB_compare_11 : decode prog_1_method_7_code 11 = .ok (.ifCond .eq 7, 3) := by decide +kernel
theorem dB_compare_14 : decode prog_1_method_7_code 14 = .ok (.iconst 1, 1) := by decide +kernel
theorem dB_compare_15 : decode prog_1_method_7_code 15 = .ok (.goto 4, 3) := by decide +kernel
theorem dB_compare_18 : decode prog_1_method_7_code 18 = .ok (.iconst 0, 1) := by decide +kernel
theorem dB_compare_19 : decode prog_1_method_7_code 19 = .ok (.invokestatic 66, 3) := by decide +kernel
theorem dB_compare_22 : decode prog_1_method_7_code 22 = .ok (.aload_n 0, 1) := by decide +kernel
theorem dB_compare_23 : decode prog_1_method_7_code 23 = .ok (.getfield 24, 3) := by decide +kernel
theorem dB_compare_26 : decode prog_1_method_7_code 26 = .ok (.iload_n 1, 1) := by decide +kernel
theorem dB_compare_27 : decode prog_1_method_7_code 27 = .ok (.aaload, 1) := by decide +kernel
theorem dB_compare_28 : decode prog_1_method_7_code 28 = .ok (.iconst 0, 1) := by decide +kernel
theorem dB_compare_29 : decode prog_1_method_7_code 29 = .ok (.aload_n 0, 1) := by decide +kernel
theorem dB_compare_30 : decode prog_1_method_7_code 30 = .ok (.getfield 24, 3) := by decide +kernel
theorem dB_compare_33 : decode prog_1_method_7_code 33 = .ok (.iload_n 2, 1) := by decide +kernel
theorem dB_compare_34 : decode prog_1_method_7_code 34 = .ok (.aaload, 1) := by decide +kernel
theorem dB_compare_35 : decode prog_1_method_7_code 35 = .ok (.iconst 0, 1) := by decide +kernel
theorem dB_compare_36 : decode prog_1_method_7_code 36 = .ok (.iconst 0, 1) := by decide +kernel
theorem dB_compare_37 : decode prog_1_method_7_code 37 = .ok (.invokestatic 113, 3) := by decide +kernel
theorem dB_compare_40 : decode prog_1_method_7_code 40 = .ok (.ireturn, 1) := by decide +kernel
theorem dB_count_0 : decode prog_1_method_13_code 0 = .ok (.iload_n 1, 1) := by decide +kernel
theorem dB_count_1 : decode prog_1_method_13_code 1 = .ok (.iconst 3, 1) := by decide +kernel
theorem dB_count_2 : decode prog_1_method_13_code 2 = .ok (.invokestatic 62, 3) := by decide +kernel
theorem dB_count_5 : decode prog_1_method_13_code 5 = .ok (.invokestatic 66, 3) := by decide +kernel
theorem dB_count_8 : decode prog_1_method_13_code 8 = .ok (.iload_n 1, 1) := by decide +kernel
theorem dB_count_9 : decode prog_1_method_13_code 9 = .ok (.tableswitch 48 0 2 #[27, 35, 43], 27) := by decide +kernel
theorem dB_count_36 : decode prog_1_method_13_code 36 = .ok (.aload_n 0, 1) := by decide +kernel
theorem dB_count_37 : decode prog_1_method_13_code 37 = .ok (.getfield 10, 3) := by decide +kernel
theorem dB_count_40 : decode prog_1_method_13_code 40 = .ok (.invokevirtual 47, 3) := by decide +kernel
theorem dB_count_43 : decode prog_1_method_13_code 43 = .ok (.ireturn, 1) := by decide +kernel
theorem dB_count_44 : decode prog_1_method_13_code 44 = .ok (.aload_n 0, 1) := by decide +kernel
theorem dB_count_45 : decode prog_1_method_13_code 45 = .ok (.getfield 16, 3) := by decide +kernel
theorem dB_count_48 : decode prog_1_method_13_code 48 = .ok (.invokevirtual 47, 3) := by decide +kernel
theorem dB_count_51 : decode prog_1_method_13_code 51 = .ok (.ireturn, 1) := by decide +kernel
theorem dB_count_52 : decode prog_1_method_13_code 52 = .ok (.aload_n 0, 1) := by decide +kernel
theorem dB_count_53 : decode prog_1_method_13_code 53 = .ok (.getfield 40, 3) := by decide +kernel
theorem dB_count_56 : decode prog_1_method_13_code 56 = .ok (.ireturn, 1) := by decide +kernel
theorem dB_count_57 : decode prog_1_method_13_code 57 = .ok (.aload_n 0, 1) := by decide +kernel
theorem dB_count_58 : decode prog_1_method_13_code 58 = .ok (.getfield 44, 3) := by decide +kernel
theorem dB_count_61 : decode prog_1_method_13_code 61 = .ok (.ireturn, 1) := by decide +kernel
theorem dB_demand_0 : decode prog_1_method_16_code 0 = .ok (.iload_n 0, 1) := by decide +kernel
theorem dB_demand_1 : decode prog_1_method_16_code 1 = .ok (.ifCond .ne 13, 3) := by decide +kernel
theorem dB_demand_4 : decode prog_1_method_16_code 4 = .ok (.new 149, 3) := by decide +kernel
theorem dB_demand_7 : decode prog_1_method_16_code 7 = .ok (.dup, 1) := by decide +kernel
theorem dB_demand_8 : decode prog_1_method_16_code 8 = .ok (.ldc 151, 2) := by decide +kernel
theorem dB_demand_10 : decode prog_1_method_16_code 10 = .ok (.invokespecial 153, 3) := by decide +kernel
theorem dB_demand_13 : decode prog_1_method_16_code 13 = .ok (.athrow, 1) := by decide +kernel
theorem dB_demand_14 : decode prog_1_method_16_code 14 = .ok (.return_, 1) := by decide +kernel
theorem dB_demandDone_0 : decode prog_1_method_17_code 0 = .ok (.iload_n 1, 1) := by decide +kernel
theorem dB_demandDone_1 : decode prog_1_method_17_code 1 = .ok (.ifCond .ne 4, 3) := by decide +kernel
theorem dB_demandDone_4 : decode prog_1_method_17_code 4 = .ok (.return_, 1) := by decide +kernel
theorem dB_demandDone_5 : decode prog_1_method_17_code 5 = .ok (.aload_n 0, 1) := by decide +kernel
theorem dB_demandDone_6 : decode prog_1_method_17_code 6 = .ok (.iload_n 1, 1) := by decide +kernel
theorem dB_demandDone_7 : decode prog_1_method_17_code 7 = .ok (.putfield 44, 3) := by decide +kernel
theorem dB_demandDone_10 : decode prog_1_method_17_code 10 = .ok (.iload_n 1, 1) := by decide +kernel
theorem dB_demandDone_11 : decode prog_1_method_17_code 11 = .ok (.tableswitch 69 1 4 #[29, 39, 49, 59], 29) := by decide +kernel
theorem dB_demandDone_40 : decode prog_1_method_17_code 40 = .ok (.new 154, 3) := by decide +kernel
theorem dB_demandDone_43 : decode prog_1_method_17_code 43 = .ok (.dup, 1) := by decide +kernel
theorem dB_demandDone_44 : decode prog_1_method_17_code 44 = .ok (.ldc 156, 2) := by decide +kernel
theorem dB_demandDone_46 : decode prog_1_method_17_code 46 = .ok (.invokespecial 158, 3) := by decide +kernel
theorem dB_demandDone_49 : decode prog_1_method_17_code 49 = .ok (.athrow, 1) := by decide +kernel
theorem dB_demandDone_50 : decode prog_1_method_17_code 50 = .ok (.new 154, 3) := by decide +kernel
theorem dB_demandDone_53 : decode prog_1_method_17_code 53 = .ok (.dup, 1) := by decide +kernel
theorem dB_demandDone_54 : decode prog_1_method_17_code 54 = .ok (.ldc 159, 2) := by decide +kernel
theorem dB_demandDone_56 : decode prog_1_method_17_code 56 = .ok (.invokespecial 158, 3) := by decide +kernel
theorem dB_demandDone_59 : decode prog_1_method_17_code 59 = .ok (.athrow, 1) := by decide +kernel
theorem dB_demandDone_60 : decode prog_1_method_17_code 60 = .ok (.new 154, 3) := by decide +kernel
theorem dB_demandDone_63 : decode prog_1_method_17_code 63 = .ok (.dup, 1) := by decide +kernel
theorem dB_demandDone_64 : decode prog_1_method_17_code 64 = .ok (.ldc 161, 2) := by decide +kernel
theorem dB_demandDone_66 : decode prog_1_method_17_code 66 = .ok (.invokespecial 158, 3) := by decide +kernel
theorem dB_demandDone_69 : decode prog_1_method_17_code 69 = .ok (.athrow, 1) := by decide +kernel
theorem dB_demandDone_70 : decode prog_1_method_17_code 70 = .ok (.new 154, 3) := by decide +kernel
theorem dB_demandDone_73 : decode prog_1_method_17_code 73 = .ok (.dup, 1) := by decide +kernel
theorem dB_demandDone_74 : decode prog_1_method_17_code 74 = .ok (.ldc 163, 2) := by decide +kernel
theorem dB_demandDone_76 : decode prog_1_method_17_code 76 = .ok (.invokespecial 158, 3) := by decide +kernel
theorem dB_demandDone_79 : decode prog_1_method_17_code 79 = .ok (.athrow, 1) := by decide +kernel
theorem dB_demandDone_80 : decode prog_1_method_17_code 80 = .ok (.new 154, 3) := by decide +kernel
theorem dB_demandDone_83 : decode prog_1_method_17_code 83 = .ok (.dup, 1) := by decide +kernel
theorem dB_demandDone_84 : decode prog_1_method_17_code 84 = .ok (.ldc 165, 2) := by decide +kernel
theorem dB_demandDone_86 : decode prog_1_method_17_code 86 = .ok (.invokespecial 158, 3) := by decide +kernel
theorem dB_demandDone_89 : decode prog_1_method_17_code 89 = .ok (.athrow, 1) := by decide +kernel
theorem dB_end_0 : decode prog_1_method_3_code 0 = .ok (.iload_n 1, 1) := by decide +kernel
theorem dB_end_1 : decode prog_1_method_3_code 1 = .ok (.aload_n 0, 1) := by decide +kernel
theorem dB_end_2 : decode prog_1_method_3_code 2 = .ok (.getfield 10, 3) := by decide +kernel
theorem dB_end_5 : decode prog_1_method_3_code 5 = .ok (.invokevirtual 47, 3) := by decide +kernel
theorem dB_end_8 : decode prog_1_method_3_code 8 = .ok (.invokestatic 62, 3) := by decide +kernel
theorem dB_end_11 : decode prog_1_method_3_code 11 = .ok (.invokestatic 66, 3) := by decide +kernel
theorem dB_end_14 : decode prog_1_method_3_code 14 = .ok (.aload_n 0, 1) := by decide +kernel
theorem dB_end_15 : decode prog_1_method_3_code 15 = .ok (.getfield 10, 3) := by decide +kernel
theorem dB_end_18 : decode prog_1_method_3_code 18 = .ok (.iload_n 1, 1) := by decide +kernel
theorem dB_end_19 : decode prog_1_method_3_code 19 = .ok (.invokevirtual 70, 3) := by decide +kernel
theorem dB_end_22 : decode prog_1_method_3_code 22 = .ok (.iload_n 1, 1) := by decide +kernel
theorem dB_end_23 : decode prog_1_method_3_code 23 = .ok (.ireturn, 1) := by decide +kernel
theorem dB_feed_0 : decode prog_1_method_2_code 0 = .ok (.aload_n 0, 1) := by decide +kernel
theorem dB_feed_1 : decode prog_1_method_2_code 1 = .ok (.getfield 10, 3) := by decide +kernel
theorem dB_feed_4 : decode prog_1_method_2_code 4 = .ok (.invokevirtual 47, 3) := by decide +kernel
theorem dB_feed_7 : decode prog_1_method_2_code 7 = .ok (.bipush 20, 2) := by decide +kernel
theorem dB_feed_9 : decode prog_1_method_2_code 9 = .ok (.iadd, 1) := by decide +kernel
theorem dB_feed_10 : decode prog_1_method_2_code 10 = .ok (.sipush 4096, 3) := by decide +kernel
theorem dB_feed_13 : decode prog_1_method_2_code 13 = .ok (.if_icmp .le 13, 3) := by decide +kernel
theorem dB_feed_16 : decode prog_1_method_2_code 16 = .ok (.new 51, 3) := by decide +kernel
theorem dB_feed_19 : decode prog_1_method_2_code 19 = .ok (.dup, 1) := by decide +kernel
theorem dB_feed_20 : decode prog_1_method_2_code 20 = .ok (.ldc 53, 2) := by decide +kernel
theorem dB_feed_22 : decode prog_1_method_2_code 22 = .ok (.invokespecial 55, 3) := by decide +kernel
theorem dB_feed_25 : decode prog_1_method_2_code 25 = .ok (.athrow, 1) := by decide +kernel
theorem dB_feed_26 : decode prog_1_method_2_code 26 = .ok (.aload_n 0, 1) := by decide +kernel
theorem dB_feed_27 : decode prog_1_method_2_code 27 = .ok (.getfield 10, 3) := by decide +kernel
theorem dB_feed_30 : decode prog_1_method_2_code 30 = .ok (.iload_n 1, 1) := by decide +kernel
theorem dB_feed_31 : decode prog_1_method_2_code 31 = .ok (.invokevirtual 58, 3) := by decide +kernel
theorem dB_feed_34 : decode prog_1_method_2_code 34 = .ok (.aload_n 0, 1) := by decide +kernel
theorem dB_feed_35 : decode prog_1_method_2_code 35 = .ok (.getfield 10, 3) := by decide +kernel
theorem dB_feed_38 : decode prog_1_method_2_code 38 = .ok (.iload_n 2, 1) := by decide +kernel
theorem dB_feed_39 : decode prog_1_method_2_code 39 = .ok (.invokevirtual 58, 3) := by decide +kernel
theorem dB_feed_42 : decode prog_1_method_2_code 42 = .ok (.aload_n 0, 1) := by decide +kernel
theorem dB_feed_43 : decode prog_1_method_2_code 43 = .ok (.getfield 10, 3) := by decide +kernel
theorem dB_feed_46 : decode prog_1_method_2_code 46 = .ok (.iload_n 3, 1) := by decide +kernel
theorem dB_feed_47 : decode prog_1_method_2_code 47 = .ok (.invokevirtual 58, 3) := by decide +kernel
theorem dB_feed_50 : decode prog_1_method_2_code 50 = .ok (.aload_n 0, 1) := by decide +kernel
theorem dB_feed_51 : decode prog_1_method_2_code 51 = .ok (.getfield 10, 3) := by decide +kernel
theorem dB_feed_54 : decode prog_1_method_2_code 54 = .ok (.iload 4, 2) := by decide +kernel
theorem dB_feed_56 : decode prog_1_method_2_code 56 = .ok (.invokevirtual 58, 3) := by decide +kernel
theorem dB_feed_59 : decode prog_1_method_2_code 59 = .ok (.aload_n 0, 1) := by decide +kernel
theorem dB_feed_60 : decode prog_1_method_2_code 60 = .ok (.getfield 10, 3) := by decide +kernel
theorem dB_feed_63 : decode prog_1_method_2_code 63 = .ok (.iload 5, 2) := by decide +kernel
theorem dB_feed_65 : decode prog_1_method_2_code 65 = .ok (.invokevirtual 58, 3) := by decide +kernel
theorem dB_feed_68 : decode prog_1_method_2_code 68 = .ok (.aload_n 0, 1) := by decide +kernel
theorem dB_feed_69 : decode prog_1_method_2_code 69 = .ok (.getfield 10, 3) := by decide +kernel
theorem dB_feed_72 : decode prog_1_method_2_code 72 = .ok (.invokevirtual 47, 3) := by decide +kernel
theorem dB_feed_75 : decode prog_1_method_2_code 75 = .ok (.ireturn, 1) := by decide +kernel
theorem dB_isRegister_0 : decode prog_1_method_14_code 0 = .ok (.iload_n 0, 1) := by decide +kernel
theorem dB_isRegister_1 : decode prog_1_method_14_code 1 = .ok (.bipush 7, 2) := by decide +kernel
theorem dB_isRegister_3 : decode prog_1_method_14_code 3 = .ok (.invokestatic 62, 3) := by decide +kernel
theorem dB_isRegister_6 : decode prog_1_method_14_code 6 = .ok (.ireturn, 1) := by decide +kernel
theorem dB_isWithin_0 : decode prog_1_method_15_code 0 = .ok (.iload_n 0, 1) := by decide +kernel
theorem dB_isWithin_1 : decode prog_1_method_15_code 1 = .ok (.ifCond .lt 12, 3) := by decide +kernel
theorem dB_isWithin_4 : decode prog_1_method_15_code 4 = .ok (.iload_n 0, 1) := by decide +kernel
theorem dB_isWithin_5 : decode prog_1_method_15_code 5 = .ok (.iload_n 1, 1) := by decide +kernel
theorem dB_isWithin_6 : decode prog_1_method_15_code 6 = .ok (.if_icmp .gt 7, 3) := by decide +kernel
theorem dB_isWithin_9 : decode prog_1_method_15_code 9 = .ok (.iconst 1, 1) := by decide +kernel
theorem dB_isWithin_10 : decode prog_1_method_15_code 10 = .ok (.goto 4, 3) := by decide +kernel
theorem dB_isWithin_13 : decode prog_1_method_15_code 13 = .ok (.iconst 0, 1) := by decide +kernel
theorem dB_isWithin_14 : decode prog_1_method_15_code 14 = .ok (.ireturn, 1) := by decide +kernel
theorem dB_keepSpare_0 : decode prog_1_method_18_code 0 = .ok (.aload_n 0, 1) := by decide +kernel
theorem dB_keepSpare_1 : decode prog_1_method_18_code 1 = .ok (.getfield 19, 3) := by decide +kernel
theorem dB_keepSpare_4 : decode prog_1_method_18_code 4 = .ok (.invokevirtual 88, 3) := by decide +kernel
theorem dB_keepSpare_7 : decode prog_1_method_18_code 7 = .ok (.aload_n 0, 1) := by decide +kernel
theorem dB_keepSpare_8 : decode prog_1_method_18_code 8 = .ok (.getfield 36, 3) := by decide +kernel
theorem dB_keepSpare_11 : decode prog_1_method_18_code 11 = .ok (.iconst 0, 1) := by decide +kernel
theorem dB_keepSpare_12 : decode prog_1_method_18_code 12 = .ok (.aload_n 0, 1) := by decide +kernel
theorem dB_keepSpare_13 : decode prog_1_method_18_code 13 = .ok (.getfield 19, 3) := by decide +kernel
theorem dB_keepSpare_16 : decode prog_1_method_18_code 16 = .ok (.iconst 0, 1) := by decide +kernel
theorem dB_keepSpare_17 : decode prog_1_method_18_code 17 = .ok (.invokestatic 98, 3) := by decide +kernel
theorem dB_keepSpare_20 : decode prog_1_method_18_code 20 = .ok (.aload_n 0, 1) := by decide +kernel
theorem dB_keepSpare_21 : decode prog_1_method_18_code 21 = .ok (.getfield 36, 3) := by decide +kernel
theorem dB_keepSpare_24 : decode prog_1_method_18_code 24 = .ok (.invokevirtual 167, 3) := by decide +kernel
theorem dB_keepSpare_27 : decode prog_1_method_18_code 27 = .ok (.ifCond .ne 13, 3) := by decide +kernel
theorem dB_keepSpare_30 : decode prog_1_method_18_code 30 = .ok (.aload_n 0, 1) := by decide +kernel
theorem dB_keepSpare_31 : decode prog_1_method_18_code 31 = .ok (.getfield 19, 3) := by decide +kernel
theorem dB_keepSpare_34 : decode prog_1_method_18_code 34 = .ok (.invokevirtual 171, 3) := by decide +kernel
theorem dB_keepSpare_37 : decode prog_1_method_18_code 37 = .ok (.ifCond .eq 13, 3) := by decide +kernel
theorem dB_keepSpare_40 : decode prog_1_method_18_code 40 = .ok (.new 51, 3) := by decide +kernel
theorem dB_keepSpare_43 : decode prog_1_method_18_code 43 = .ok (.dup, 1) := by decide +kernel
theorem dB_keepSpare_44 : decode prog_1_method_18_code 44 = .ok (.ldc 172, 2) := by decide +kernel
theorem dB_keepSpare_46 : decode prog_1_method_18_code 46 = .ok (.invokespecial 55, 3) := by decide +kernel
theorem dB_keepSpare_49 : decode prog_1_method_18_code 49 = .ok (.athrow, 1) := by decide +kernel
theorem dB_keepSpare_50 : decode prog_1_method_18_code 50 = .ok (.aload_n 0, 1) := by decide +kernel
theorem dB_keepSpare_51 : decode prog_1_method_18_code 51 = .ok (.getfield 24, 3) := by decide +kernel
theorem dB_keepSpare_54 : decode prog_1_method_18_code 54 = .ok (.iload_n 1, 1) := by decide +kernel
theorem dB_keepSpare_55 : decode prog_1_method_18_code 55 = .ok (.aaload, 1) := by decide +kernel
theorem dB_keepSpare_56 : decode prog_1_method_18_code 56 = .ok (.astore_n 2, 1) := by decide +kernel
theorem dB_keepSpare_57 : decode prog_1_method_18_code 57 = .ok (.aload_n 0, 1) := by decide +kernel
theorem dB_keepSpare_58 : decode prog_1_method_18_code 58 = .ok (.getfield 24, 3) := by decide +kernel
theorem dB_keepSpare_61 : decode prog_1_method_18_code 61 = .ok (.iload_n 1, 1) := by decide +kernel
theorem dB_keepSpare_62 : decode prog_1_method_18_code 62 = .ok (.aload_n 0, 1) := by decide +kernel
theorem dB_keepSpare_63 : decode prog_1_method_18_code 63 = .ok (.getfield 36, 3) := by decide +kernel
theorem dB_keepSpare_66 : decode prog_1_method_18_code 66 = .ok (.aastore, 1) := by decide +kernel
theorem dB_keepSpare_67 : decode prog_1_method_18_code 67 = .ok (.aload_n 0, 1) := by decide +kernel
theorem dB_keepSpare_68 : decode prog_1_method_18_code 68 = .ok (.aload_n 2, 1) := by decide +kernel
theorem dB_keepSpare_69 : decode prog_1_method_18_code 69 = .ok (.putfield 36, 3) := by decide +kernel
theorem dB_keepSpare_72 : decode prog_1_method_18_code 72 = .ok (.aload_n 0, 1) := by decide +kernel
theorem dB_keepSpare_73 : decode prog_1_method_18_code 73 = .ok (.getfield 19, 3) := by decide +kernel
theorem dB_keepSpare_76 : decode prog_1_method_18_code 76 = .ok (.invokevirtual 47, 3) := by decide +kernel
theorem dB_keepSpare_79 : decode prog_1_method_18_code 79 = .ok (.ireturn, 1) := by decide +kernel
theorem dB_one_0 : decode prog_1_method_9_code 0 = .ok (.iload_n 1, 1) := by decide +kernel
theorem dB_one_1 : decode prog_1_method_9_code 1 = .ok (.invokestatic 73, 3) := by decide +kernel
theorem dB_one_4 : decode prog_1_method_9_code 4 = .ok (.ifCond .eq 23, 3) := by decide +kernel
theorem dB_one_7 : decode prog_1_method_9_code 7 = .ok (.iload_n 2, 1) := by decide +kernel
theorem dB_one_8 : decode prog_1_method_9_code 8 = .ok (.bipush 13, 2) := by decide +kernel
theorem dB_one_10 : decode prog_1_method_9_code 10 = .ok (.invokestatic 62, 3) := by decide +kernel
theorem dB_one_13 : decode prog_1_method_9_code 13 = .ok (.ifCond .eq 14, 3) := by decide +kernel
theorem dB_one_16 : decode prog_1_method_9_code 16 = .ok (.iload_n 3, 1) := by decide +kernel
theorem dB_one_17 : decode prog_1_method_9_code 17 = .ok (.invokestatic 73, 3) := by decide +kernel
theorem dB_one_20 : decode prog_1_method_9_code 20 = .ok (.ifCond .eq 7, 3) := by decide +kernel
theorem dB_one_23 : decode prog_1_method_9_code 23 = .ok (.iconst 1, 1) := by decide +kernel
theorem dB_one_24 : decode prog_1_method_9_code 24 = .ok (.goto 4, 3) := by decide +kernel
theorem dB_one_27 : decode prog_1_method_9_code 27 = .ok (.iconst 0, 1) := by decide +kernel
theorem dB_one_28 : decode prog_1_method_9_code 28 = .ok (.invokestatic 66, 3) := by decide +kernel
theorem dB_one_31 : decode prog_1_method_9_code 31 = .ok (.aload_n 0, 1) := by decide +kernel
theorem dB_one_32 : decode prog_1_method_9_code 32 = .ok (.getfield 36, 3) := by decide +kernel
theorem dB_one_35 : decode prog_1_method_9_code 35 = .ok (.invokevirtual 77, 3) := by decide +kernel
theorem dB_one_38 : decode prog_1_method_9_code 38 = .ok (.aload_n 0, 1) := by decide +kernel
theorem dB_one_39 : decode prog_1_method_9_code 39 = .ok (.iload_n 2, 1) := by decide +kernel
theorem dB_one_40 : decode prog_1_method_9_code 40 = .ok (.aload_n 0, 1) := by decide +kernel
theorem dB_one_41 : decode prog_1_method_9_code 41 = .ok (.getfield 24, 3) := by decide +kernel
theorem dB_one_44 : decode prog_1_method_9_code 44 = .ok (.iload_n 3, 1) := by decide +kernel
theorem dB_one_45 : decode prog_1_method_9_code 45 = .ok (.aaload, 1) := by decide +kernel
theorem dB_one_46 : decode prog_1_method_9_code 46 = .ok (.aload_n 0, 1) := by decide +kernel
theorem dB_one_47 : decode prog_1_method_9_code 47 = .ok (.getfield 19, 3) := by decide +kernel
theorem dB_one_50 : decode prog_1_method_9_code 50 = .ok (.aload_n 0, 1) := by decide +kernel
theorem dB_one_51 : decode prog_1_method_9_code 51 = .ok (.getfield 31, 3) := by decide +kernel
theorem dB_one_54 : decode prog_1_method_9_code 54 = .ok (.aload_n 0, 1) := by decide +kernel
theorem dB_one_55 : decode prog_1_method_9_code 55 = .ok (.getfield 36, 3) := by decide +kernel
theorem dB_one_58 : decode prog_1_method_9_code 58 = .ok (.invokestatic 123, 3) := by decide +kernel
theorem dB_one_61 : decode prog_1_method_9_code 61 = .ok (.invokevirtual 110, 3) := by decide +kernel
theorem dB_one_64 : decode prog_1_method_9_code 64 = .ok (.aload_n 0, 1) := by decide +kernel
theorem dB_one_65 : decode prog_1_method_9_code 65 = .ok (.iload_n 1, 1) := by decide +kernel
theorem dB_one_66 : decode prog_1_method_9_code 66 = .ok (.invokevirtual 94, 3) := by decide +kernel
theorem dB_one_69 : decode prog_1_method_9_code 69 = .ok (.pop, 1) := by decide +kernel
theorem dB_one_70 : decode prog_1_method_9_code 70 = .ok (.return_, 1) := by decide +kernel
theorem dB_print_0 : decode prog_1_method_5_code 0 = .ok (.iload_n 1, 1) := by decide +kernel
theorem dB_print_1 : decode prog_1_method_5_code 1 = .ok (.invokestatic 73, 3) := by decide +kernel
theorem dB_print_4 : decode prog_1_method_5_code 4 = .ok (.invokestatic 66, 3) := by decide +kernel
theorem dB_print_7 : decode prog_1_method_5_code 7 = .ok (.aload_n 0, 1) := by decide +kernel
theorem dB_print_8 : decode prog_1_method_5_code 8 = .ok (.getfield 16, 3) := by decide +kernel
theorem dB_print_11 : decode prog_1_method_5_code 11 = .ok (.invokevirtual 88, 3) := by decide +kernel
theorem dB_print_14 : decode prog_1_method_5_code 14 = .ok (.aload_n 0, 1) := by decide +kernel
theorem dB_print_15 : decode prog_1_method_5_code 15 = .ok (.getfield 24, 3) := by decide +kernel
theorem dB_print_18 : decode prog_1_method_5_code 18 = .ok (.iload_n 1, 1) := by decide +kernel
theorem dB_print_19 : decode prog_1_method_5_code 19 = .ok (.aaload, 1) := by decide +kernel
theorem dB_print_20 : decode prog_1_method_5_code 20 = .ok (.iconst 0, 1) := by decide +kernel
theorem dB_print_21 : decode prog_1_method_5_code 21 = .ok (.aload_n 0, 1) := by decide +kernel
theorem dB_print_22 : decode prog_1_method_5_code 22 = .ok (.getfield 16, 3) := by decide +kernel
theorem dB_print_25 : decode prog_1_method_5_code 25 = .ok (.iconst 0, 1) := by decide +kernel
theorem dB_print_26 : decode prog_1_method_5_code 26 = .ok (.invokestatic 98, 3) := by decide +kernel
theorem dB_print_29 : decode prog_1_method_5_code 29 = .ok (.aload_n 0, 1) := by decide +kernel
theorem dB_print_30 : decode prog_1_method_5_code 30 = .ok (.getfield 16, 3) := by decide +kernel
theorem dB_print_33 : decode prog_1_method_5_code 33 = .ok (.invokevirtual 47, 3) := by decide +kernel
theorem dB_print_36 : decode prog_1_method_5_code 36 = .ok (.ireturn, 1) := by decide +kernel
theorem dB_read_0 : decode prog_1_method_4_code 0 = .ok (.iload_n 1, 1) := by decide +kernel
theorem dB_read_1 : decode prog_1_method_4_code 1 = .ok (.invokestatic 73, 3) := by decide +kernel
theorem dB_read_4 : decode prog_1_method_4_code 4 = .ok (.invokestatic 66, 3) := by decide +kernel
theorem dB_read_7 : decode prog_1_method_4_code 7 = .ok (.aload_n 0, 1) := by decide +kernel
theorem dB_read_8 : decode prog_1_method_4_code 8 = .ok (.getfield 36, 3) := by decide +kernel
theorem dB_read_11 : decode prog_1_method_4_code 11 = .ok (.invokevirtual 77, 3) := by decide +kernel
theorem dB_read_14 : decode prog_1_method_4_code 14 = .ok (.aload_n 0, 1) := by decide +kernel
theorem dB_read_15 : decode prog_1_method_4_code 15 = .ok (.new 80, 3) := by decide +kernel
theorem dB_read_18 : decode prog_1_method_4_code 18 = .ok (.dup, 1) := by decide +kernel
theorem dB_read_19 : decode prog_1_method_4_code 19 = .ok (.aload_n 0, 1) := by decide +kernel
theorem dB_read_20 : decode prog_1_method_4_code 20 = .ok (.getfield 10, 3) := by decide +kernel
theorem dB_read_23 : decode prog_1_method_4_code 23 = .ok (.aload_n 0, 1) := by decide +kernel
theorem dB_read_24 : decode prog_1_method_4_code 24 = .ok (.getfield 36, 3) := by decide +kernel
theorem dB_read_27 : decode prog_1_method_4_code 27 = .ok (.invokespecial 82, 3) := by decide +kernel
theorem dB_read_30 : decode prog_1_method_4_code 30 = .ok (.invokevirtual 85, 3) := by decide +kernel
theorem dB_read_33 : decode prog_1_method_4_code 33 = .ok (.putfield 40, 3) := by decide +kernel
theorem dB_read_36 : decode prog_1_method_4_code 36 = .ok (.aload_n 0, 1) := by decide +kernel
theorem dB_read_37 : decode prog_1_method_4_code 37 = .ok (.getfield 10, 3) := by decide +kernel
theorem dB_read_40 : decode prog_1_method_4_code 40 = .ok (.invokevirtual 88, 3) := by decide +kernel
theorem dB_read_43 : decode prog_1_method_4_code 43 = .ok (.aload_n 0, 1) := by decide +kernel
theorem dB_read_44 : decode prog_1_method_4_code 44 = .ok (.getfield 40, 3) := by decide +kernel
theorem dB_read_47 : decode prog_1_method_4_code 47 = .ok (.iconst (-1), 1) := by decide +kernel
theorem dB_read_48 : decode prog_1_method_4_code 48 = .ok (.if_icmp .eq 13, 3) := by decide +kernel
theorem dB_read_51 : decode prog_1_method_4_code 51 = .ok (.new 89, 3) := by decide +kernel
theorem dB_read_54 : decode prog_1_method_4_code 54 = .ok (.dup, 1) := by decide +kernel
theorem dB_read_55 : decode prog_1_method_4_code 55 = .ok (.ldc 91, 2) := by decide +kernel
theorem dB_read_57 : decode prog_1_method_4_code 57 = .ok (.invokespecial 93, 3) := by decide +kernel
theorem dB_read_60 : decode prog_1_method_4_code 60 = .ok (.athrow, 1) := by decide +kernel
theorem dB_read_61 : decode prog_1_method_4_code 61 = .ok (.aload_n 0, 1) := by decide +kernel
theorem dB_read_62 : decode prog_1_method_4_code 62 = .ok (.iload_n 1, 1) := by decide +kernel
theorem dB_read_63 : decode prog_1_method_4_code 63 = .ok (.invokevirtual 94, 3) := by decide +kernel
theorem dB_read_66 : decode prog_1_method_4_code 66 = .ok (.ireturn, 1) := by decide +kernel
theorem dB_same_0 : decode prog_1_method_8_code 0 = .ok (.iload_n 1, 1) := by decide +kernel
theorem dB_same_1 : decode prog_1_method_8_code 1 = .ok (.invokestatic 73, 3) := by decide +kernel
theorem dB_same_4 : decode prog_1_method_8_code 4 = .ok (.ifCond .eq 14, 3) := by decide +kernel
theorem dB_same_7 : decode prog_1_method_8_code 7 = .ok (.iload_n 2, 1) := by decide +kernel
theorem dB_same_8 : decode prog_1_method_8_code 8 = .ok (.invokestatic 73, 3) := by decide +kernel
theorem dB_same_11 : decode prog_1_method_8_code 11 = .ok (.ifCond .eq 7, 3) := by decide +kernel
theorem dB_same_14 : decode prog_1_method_8_code 14 = .ok (.iconst 1, 1) := by decide +kernel
theorem dB_same_15 : decode prog_1_method_8_code 15 = .ok (.goto 4, 3) := by decide +kernel
theorem dB_same_18 : decode prog_1_method_8_code 18 = .ok (.iconst 0, 1) := by decide +kernel
theorem dB_same_19 : decode prog_1_method_8_code 19 = .ok (.invokestatic 66, 3) := by decide +kernel
theorem dB_same_22 : decode prog_1_method_8_code 22 = .ok (.aload_n 0, 1) := by decide +kernel
theorem dB_same_23 : decode prog_1_method_8_code 23 = .ok (.getfield 24, 3) := by decide +kernel
theorem dB_same_26 : decode prog_1_method_8_code 26 = .ok (.iload_n 1, 1) := by decide +kernel
theorem dB_same_27 : decode prog_1_method_8_code 27 = .ok (.aaload, 1) := by decide +kernel
theorem dB_same_28 : decode prog_1_method_8_code 28 = .ok (.iconst 0, 1) := by decide +kernel
theorem dB_same_29 : decode prog_1_method_8_code 29 = .ok (.aload_n 0, 1) := by decide +kernel
theorem dB_same_30 : decode prog_1_method_8_code 30 = .ok (.getfield 24, 3) := by decide +kernel
theorem dB_same_33 : decode prog_1_method_8_code 33 = .ok (.iload_n 2, 1) := by decide +kernel
theorem dB_same_34 : decode prog_1_method_8_code 34 = .ok (.aaload, 1) := by decide +kernel
theorem dB_same_35 : decode prog_1_method_8_code 35 = .ok (.iconst 0, 1) := by decide +kernel
theorem dB_same_36 : decode prog_1_method_8_code 36 = .ok (.invokestatic 119, 3) := by decide +kernel
theorem dB_same_39 : decode prog_1_method_8_code 39 = .ok (.ireturn, 1) := by decide +kernel
theorem dB_sort_0 : decode prog_1_method_11_code 0 = .ok (.iload_n 1, 1) := by decide +kernel
theorem dB_sort_1 : decode prog_1_method_11_code 1 = .ok (.invokestatic 73, 3) := by decide +kernel
theorem dB_sort_4 : decode prog_1_method_11_code 4 = .ok (.ifCond .eq 30, 3) := by decide +kernel
theorem dB_sort_7 : decode prog_1_method_11_code 7 = .ok (.iload_n 2, 1) := by decide +kernel
theorem dB_sort_8 : decode prog_1_method_11_code 8 = .ok (.iconst 4, 1) := by decide +kernel
theorem dB_sort_9 : decode prog_1_method_11_code 9 = .ok (.invokestatic 62, 3) := by decide +kernel
theorem dB_sort_12 : decode prog_1_method_11_code 12 = .ok (.ifCond .eq 22, 3) := by decide +kernel
theorem dB_sort_15 : decode prog_1_method_11_code 15 = .ok (.iload_n 3, 1) := by decide +kernel
theorem dB_sort_16 : decode prog_1_method_11_code 16 = .ok (.invokestatic 73, 3) := by decide +kernel
theorem dB_sort_19 : decode prog_1_method_11_code 19 = .ok (.ifCond .eq 15, 3) := by decide +kernel
theorem dB_sort_22 : decode prog_1_method_11_code 22 = .ok (.iload 4, 2) := by decide +kernel
theorem dB_sort_24 : decode prog_1_method_11_code 24 = .ok (.invokestatic 73, 3) := by decide +kernel
theorem dB_sort_27 : decode prog_1_method_11_code 27 = .ok (.ifCond .eq 7, 3) := by decide +kernel
theorem dB_sort_30 : decode prog_1_method_11_code 30 = .ok (.iconst 1, 1) := by decide +kernel
theorem dB_sort_31 : decode prog_1_method_11_code 31 = .ok (.goto 4, 3) := by decide +kernel
theorem dB_sort_34 : decode prog_1_method_11_code 34 = .ok (.iconst 0, 1) := by decide +kernel
theorem dB_sort_35 : decode prog_1_method_11_code 35 = .ok (.invokestatic 66, 3) := by decide +kernel
theorem dB_sort_38 : decode prog_1_method_11_code 38 = .ok (.aload_n 0, 1) := by decide +kernel
theorem dB_sort_39 : decode prog_1_method_11_code 39 = .ok (.getfield 36, 3) := by decide +kernel
theorem dB_sort_42 : decode prog_1_method_11_code 42 = .ok (.invokevirtual 77, 3) := by decide +kernel
theorem dB_sort_45 : decode prog_1_method_11_code 45 = .ok (.aload_n 0, 1) := by decide +kernel
theorem dB_sort_46 : decode prog_1_method_11_code 46 = .ok (.iload_n 2, 1) := by decide +kernel
theorem dB_sort_47 : decode prog_1_method_11_code 47 = .ok (.aload_n 0, 1) := by decide +kernel
theorem dB_sort_48 : decode prog_1_method_11_code 48 = .ok (.getfield 24, 3) := by decide +kernel
theorem dB_sort_51 : decode prog_1_method_11_code 51 = .ok (.iload_n 3, 1) := by decide +kernel
theorem dB_sort_52 : decode prog_1_method_11_code 52 = .ok (.aaload, 1) := by decide +kernel
theorem dB_sort_53 : decode prog_1_method_11_code 53 = .ok (.aload_n 0, 1) := by decide +kernel
theorem dB_sort_54 : decode prog_1_method_11_code 54 = .ok (.getfield 24, 3) := by decide +kernel
theorem dB_sort_57 : decode prog_1_method_11_code 57 = .ok (.iload 4, 2) := by decide +kernel
theorem dB_sort_59 : decode prog_1_method_11_code 59 = .ok (.aaload, 1) := by decide +kernel
theorem dB_sort_60 : decode prog_1_method_11_code 60 = .ok (.aload_n 0, 1) := by decide +kernel
theorem dB_sort_61 : decode prog_1_method_11_code 61 = .ok (.getfield 31, 3) := by decide +kernel
theorem dB_sort_64 : decode prog_1_method_11_code 64 = .ok (.aload_n 0, 1) := by decide +kernel
theorem dB_sort_65 : decode prog_1_method_11_code 65 = .ok (.getfield 36, 3) := by decide +kernel
theorem dB_sort_68 : decode prog_1_method_11_code 68 = .ok (.invokestatic 133, 3) := by decide +kernel
theorem dB_sort_71 : decode prog_1_method_11_code 71 = .ok (.invokevirtual 110, 3) := by decide +kernel
theorem dB_sort_74 : decode prog_1_method_11_code 74 = .ok (.aload_n 0, 1) := by decide +kernel
theorem dB_sort_75 : decode prog_1_method_11_code 75 = .ok (.iload_n 1, 1) := by decide +kernel
theorem dB_sort_76 : decode prog_1_method_11_code 76 = .ok (.invokevirtual 94, 3) := by decide +kernel
theorem dB_sort_79 : decode prog_1_method_11_code 79 = .ok (.pop, 1) := by decide +kernel
theorem dB_sort_80 : decode prog_1_method_11_code 80 = .ok (.return_, 1) := by decide +kernel
theorem dB_two_0 : decode prog_1_method_10_code 0 = .ok (.iload_n 1, 1) := by decide +kernel
theorem dB_two_1 : decode prog_1_method_10_code 1 = .ok (.invokestatic 73, 3) := by decide +kernel
theorem dB_two_4 : decode prog_1_method_10_code 4 = .ok (.ifCond .eq 31, 3) := by decide +kernel
theorem dB_two_7 : decode prog_1_method_10_code 7 = .ok (.iload_n 2, 1) := by decide +kernel
theorem dB_two_8 : decode prog_1_method_10_code 8 = .ok (.bipush 9, 2) := by decide +kernel
theorem dB_two_10 : decode prog_1_method_10_code 10 = .ok (.invokestatic 62, 3) := by decide +kernel
theorem dB_two_13 : decode prog_1_method_10_code 13 = .ok (.ifCond .eq 22, 3) := by decide +kernel
theorem dB_two_16 : decode prog_1_method_10_code 16 = .ok (.iload_n 3, 1) := by decide +kernel
theorem dB_two_17 : decode prog_1_method_10_code 17 = .ok (.invokestatic 73, 3) := by decide +kernel
theorem dB_two_20 : decode prog_1_method_10_code 20 = .ok (.ifCond .eq 15, 3) := by decide +kernel
theorem dB_two_23 : decode prog_1_method_10_code 23 = .ok (.iload 4, 2) := by decide +kernel
theorem dB_two_25 : decode prog_1_method_10_code 25 = .ok (.invokestatic 73, 3) := by decide +kernel
theorem dB_two_28 : decode prog_1_method_10_code 28 = .ok (.ifCond .eq 7, 3) := by decide +kernel
theorem dB_two_31 : decode prog_1_method_10_code 31 = .ok (.iconst 1, 1) := by decide +kernel
theorem dB_two_32 : decode prog_1_method_10_code 32 = .ok (.goto 4, 3) := by decide +kernel
theorem dB_two_35 : decode prog_1_method_10_code 35 = .ok (.iconst 0, 1) := by decide +kernel
theorem dB_two_36 : decode prog_1_method_10_code 36 = .ok (.invokestatic 66, 3) := by decide +kernel
theorem dB_two_39 : decode prog_1_method_10_code 39 = .ok (.aload_n 0, 1) := by decide +kernel
theorem dB_two_40 : decode prog_1_method_10_code 40 = .ok (.getfield 36, 3) := by decide +kernel
theorem dB_two_43 : decode prog_1_method_10_code 43 = .ok (.invokevirtual 77, 3) := by decide +kernel
theorem dB_two_46 : decode prog_1_method_10_code 46 = .ok (.aload_n 0, 1) := by decide +kernel
theorem dB_two_47 : decode prog_1_method_10_code 47 = .ok (.iload_n 2, 1) := by decide +kernel
theorem dB_two_48 : decode prog_1_method_10_code 48 = .ok (.aload_n 0, 1) := by decide +kernel
theorem dB_two_49 : decode prog_1_method_10_code 49 = .ok (.getfield 24, 3) := by decide +kernel
theorem dB_two_52 : decode prog_1_method_10_code 52 = .ok (.iload_n 3, 1) := by decide +kernel
theorem dB_two_53 : decode prog_1_method_10_code 53 = .ok (.aaload, 1) := by decide +kernel
theorem dB_two_54 : decode prog_1_method_10_code 54 = .ok (.aload_n 0, 1) := by decide +kernel
theorem dB_two_55 : decode prog_1_method_10_code 55 = .ok (.getfield 24, 3) := by decide +kernel
theorem dB_two_58 : decode prog_1_method_10_code 58 = .ok (.iload 4, 2) := by decide +kernel
theorem dB_two_60 : decode prog_1_method_10_code 60 = .ok (.aaload, 1) := by decide +kernel
theorem dB_two_61 : decode prog_1_method_10_code 61 = .ok (.aload_n 0, 1) := by decide +kernel
theorem dB_two_62 : decode prog_1_method_10_code 62 = .ok (.getfield 19, 3) := by decide +kernel
theorem dB_two_65 : decode prog_1_method_10_code 65 = .ok (.aload_n 0, 1) := by decide +kernel
theorem dB_two_66 : decode prog_1_method_10_code 66 = .ok (.getfield 36, 3) := by decide +kernel
theorem dB_two_69 : decode prog_1_method_10_code 69 = .ok (.invokestatic 128, 3) := by decide +kernel
theorem dB_two_72 : decode prog_1_method_10_code 72 = .ok (.invokevirtual 110, 3) := by decide +kernel
theorem dB_two_75 : decode prog_1_method_10_code 75 = .ok (.aload_n 0, 1) := by decide +kernel
theorem dB_two_76 : decode prog_1_method_10_code 76 = .ok (.iload_n 1, 1) := by decide +kernel
theorem dB_two_77 : decode prog_1_method_10_code 77 = .ok (.invokevirtual 94, 3) := by decide +kernel
theorem dB_two_80 : decode prog_1_method_10_code 80 = .ok (.pop, 1) := by decide +kernel
theorem dB_two_81 : decode prog_1_method_10_code 81 = .ok (.return_, 1) := by decide +kernel
theorem dB_word_0 : decode prog_1_method_12_code 0 = .ok (.iload_n 1, 1) := by decide +kernel
theorem dB_word_1 : decode prog_1_method_12_code 1 = .ok (.ifCond .lt 14, 3) := by decide +kernel
theorem dB_word_4 : decode prog_1_method_12_code 4 = .ok (.iload_n 1, 1) := by decide +kernel
theorem dB_word_5 : decode prog_1_method_12_code 5 = .ok (.aload_n 0, 1) := by decide +kernel
theorem dB_word_6 : decode prog_1_method_12_code 6 = .ok (.getfield 16, 3) := by decide +kernel
theorem dB_word_9 : decode prog_1_method_12_code 9 = .ok (.invokevirtual 47, 3) := by decide +kernel
theorem dB_word_12 : decode prog_1_method_12_code 12 = .ok (.if_icmp .lt 13, 3) := by decide +kernel
theorem dB_word_15 : decode prog_1_method_12_code 15 = .ok (.new 51, 3) := by decide +kernel
theorem dB_word_18 : decode prog_1_method_12_code 18 = .ok (.dup, 1) := by decide +kernel
theorem dB_word_19 : decode prog_1_method_12_code 19 = .ok (.ldc 138, 2) := by decide +kernel
theorem dB_word_21 : decode prog_1_method_12_code 21 = .ok (.invokespecial 55, 3) := by decide +kernel
theorem dB_word_24 : decode prog_1_method_12_code 24 = .ok (.athrow, 1) := by decide +kernel
theorem dB_word_25 : decode prog_1_method_12_code 25 = .ok (.lconst 0, 1) := by decide +kernel
theorem dB_word_26 : decode prog_1_method_12_code 26 = .ok (.lstore_n 2, 1) := by decide +kernel
theorem dB_word_27 : decode prog_1_method_12_code 27 = .ok (.iconst 0, 1) := by decide +kernel
theorem dB_word_28 : decode prog_1_method_12_code 28 = .ok (.istore 4, 2) := by decide +kernel
theorem dB_word_30 : decode prog_1_method_12_code 30 = .ok (.iload 4, 2) := by decide +kernel
theorem dB_word_32 : decode prog_1_method_12_code 32 = .ok (.bipush 8, 2) := by decide +kernel
theorem dB_word_34 : decode prog_1_method_12_code 34 = .ok (.if_icmp .ge 31, 3) := by decide +kernel
theorem dB_word_37 : decode prog_1_method_12_code 37 = .ok (.lload_n 2, 1) := by decide +kernel
theorem dB_word_38 : decode prog_1_method_12_code 38 = .ok (.bipush 8, 2) := by decide +kernel
theorem dB_word_40 : decode prog_1_method_12_code 40 = .ok (.lshl, 1) := by decide +kernel
theorem dB_word_41 : decode prog_1_method_12_code 41 = .ok (.aload_n 0, 1) := by decide +kernel
theorem dB_word_42 : decode prog_1_method_12_code 42 = .ok (.getfield 16, 3) := by decide +kernel
theorem dB_word_45 : decode prog_1_method_12_code 45 = .ok (.iload_n 1, 1) := by decide +kernel
theorem dB_word_46 : decode prog_1_method_12_code 46 = .ok (.iload 4, 2) := by decide +kernel
theorem dB_word_48 : decode prog_1_method_12_code 48 = .ok (.iadd, 1) := by decide +kernel
theorem dB_word_49 : decode prog_1_method_12_code 49 = .ok (.invokevirtual 140, 3) := by decide +kernel
theorem dB_word_52 : decode prog_1_method_12_code 52 = .ok (.iconst 0, 1) := by decide +kernel
theorem dB_word_53 : decode prog_1_method_12_code 53 = .ok (.invokestatic 143, 3) := by decide +kernel
theorem dB_word_56 : decode prog_1_method_12_code 56 = .ok (.i2l, 1) := by decide +kernel
theorem dB_word_57 : decode prog_1_method_12_code 57 = .ok (.lor, 1) := by decide +kernel
theorem dB_word_58 : decode prog_1_method_12_code 58 = .ok (.lstore_n 2, 1) := by decide +kernel
theorem dB_word_59 : decode prog_1_method_12_code 59 = .ok (.iinc 4 1, 3) := by decide +kernel
theorem dB_word_62 : decode prog_1_method_12_code 62 = .ok (.goto (-32), 3) := by decide +kernel
theorem dB_word_65 : decode prog_1_method_12_code 65 = .ok (.lload_n 2, 1) := by decide +kernel
theorem dB_word_66 : decode prog_1_method_12_code 66 = .ok (.lreturn, 1) := by decide +kernel
theorem dL_binary_0 : decode method_7_code 0 = .ok (.aload_n 0, 1) := by decide +kernel
theorem dL_binary_1 : decode method_7_code 1 = .ok (.iload_n 1, 1) := by decide +kernel
theorem dL_binary_2 : decode method_7_code 2 = .ok (.iload_n 2, 1) := by decide +kernel
theorem dL_binary_3 : decode method_7_code 3 = .ok (.iload_n 3, 1) := by decide +kernel
theorem dL_binary_4 : decode method_7_code 4 = .ok (.iload 4, 2) := by decide +kernel
theorem dL_binary_6 : decode method_7_code 6 = .ok (.invokevirtual 29, 3) := by decide +kernel
theorem dL_binary_9 : decode method_7_code 9 = .ok (.goto 15, 3) := by decide +kernel
theorem dL_binary_12 : decode method_7_code 12 = .ok (.astore 5, 2) := by decide +kernel
theorem dL_binary_14 : decode method_7_code 14 = .ok (.iconst 1, 1) := by decide +kernel
theorem dL_binary_15 : decode method_7_code 15 = .ok (.ireturn, 1) := by decide +kernel
theorem dL_binary_16 : decode method_7_code 16 = .ok (.astore 5, 2) := by decide +kernel
theorem dL_binary_18 : decode method_7_code 18 = .ok (.iconst 2, 1) := by decide +kernel
theorem dL_binary_19 : decode method_7_code 19 = .ok (.ireturn, 1) := by decide +kernel
theorem dL_binary_20 : decode method_7_code 20 = .ok (.astore 5, 2) := by decide +kernel
theorem dL_binary_22 : decode method_7_code 22 = .ok (.iconst 3, 1) := by decide +kernel
theorem dL_binary_23 : decode method_7_code 23 = .ok (.ireturn, 1) := by decide +kernel
theorem dL_binary_24 : decode method_7_code 24 = .ok (.iconst 0, 1) := by decide +kernel
theorem dL_binary_25 : decode method_7_code 25 = .ok (.ireturn, 1) := by decide +kernel
theorem dL_compare_0 : decode method_8_code 0 = .ok (.aload_n 3, 1) := by decide +kernel
theorem dL_compare_1 : decode method_8_code 1 = .ok (.iconst 0, 1) := by decide +kernel
theorem dL_compare_2 : decode method_8_code 2 = .ok (.aload_n 0, 1) := by decide +kernel
theorem dL_compare_3 : decode method_8_code 3 = .ok (.iload_n 1, 1) := by decide +kernel
theorem dL_compare_4 : decode method_8_code 4 = .ok (.iload_n 2, 1) := by decide +kernel
theorem dL_compare_5 : decode method_8_code 5 = .ok (.invokevirtual 35, 3) := by decide +kernel
theorem dL_compare_8 : decode method_8_code 8 = .ok (.i2l, 1) := by decide +kernel
theorem dL_compare_9 : decode method_8_code 9 = .ok (.lastore, 1) := by decide +kernel
theorem dL_compare_10 : decode method_8_code 10 = .ok (.goto 7, 3) := by decide +kernel
theorem dL_compare_13 : decode method_8_code 13 = .ok (.astore 4, 2) := by decide +kernel
theorem dL_compare_15 : decode method_8_code 15 = .ok (.iconst 1, 1) := by decide +kernel
theorem dL_compare_16 : decode method_8_code 16 = .ok (.ireturn, 1) := by decide +kernel
theorem dL_compare_17 : decode method_8_code 17 = .ok (.iconst 0, 1) := by decide +kernel
theorem dL_compare_18 : decode method_8_code 18 = .ok (.ireturn, 1) := by decide +kernel
theorem dL_count_0 : decode method_14_code 0 = .ok (.aload_n 2, 1) := by decide +kernel
theorem dL_count_1 : decode method_14_code 1 = .ok (.iconst 0, 1) := by decide +kernel
theorem dL_count_2 : decode method_14_code 2 = .ok (.aload_n 0, 1) := by decide +kernel
theorem dL_count_3 : decode method_14_code 3 = .ok (.iload_n 1, 1) := by decide +kernel
theorem dL_count_4 : decode method_14_code 4 = .ok (.invokevirtual 57, 3) := by decide +kernel
theorem dL_count_7 : decode method_14_code 7 = .ok (.i2l, 1) := by decide +kernel
theorem dL_count_8 : decode method_14_code 8 = .ok (.lastore, 1) := by decide +kernel
theorem dL_count_9 : decode method_14_code 9 = .ok (.goto 6, 3) := by decide +kernel
theorem dL_count_12 : decode method_14_code 12 = .ok (.astore_n 3, 1) := by decide +kernel
theorem dL_count_13 : decode method_14_code 13 = .ok (.iconst 1, 1) := by decide +kernel
theorem dL_count_14 : decode method_14_code 14 = .ok (.ireturn, 1) := by decide +kernel
theorem dL_count_15 : decode method_14_code 15 = .ok (.iconst 0, 1) := by decide +kernel
theorem dL_count_16 : decode method_14_code 16 = .ok (.ireturn, 1) := by decide +kernel
theorem dL_end_0 : decode method_4_code 0 = .ok (.aload_n 2, 1) := by decide +kernel
theorem dL_end_1 : decode method_4_code 1 = .ok (.iconst 0, 1) := by decide +kernel
theorem dL_end_2 : decode method_4_code 2 = .ok (.aload_n 0, 1) := by decide +kernel
theorem dL_end_3 : decode method_4_code 3 = .ok (.iload_n 1, 1) := by decide +kernel
theorem dL_end_4 : decode method_4_code 4 = .ok (.invokevirtual 15, 3) := by decide +kernel
theorem dL_end_7 : decode method_4_code 7 = .ok (.i2l, 1) := by decide +kernel
theorem dL_end_8 : decode method_4_code 8 = .ok (.lastore, 1) := by decide +kernel
theorem dL_end_9 : decode method_4_code 9 = .ok (.goto 6, 3) := by decide +kernel
theorem dL_end_12 : decode method_4_code 12 = .ok (.astore_n 3, 1) := by decide +kernel
theorem dL_end_13 : decode method_4_code 13 = .ok (.iconst 1, 1) := by decide +kernel
theorem dL_end_14 : decode method_4_code 14 = .ok (.ireturn, 1) := by decide +kernel
theorem dL_end_15 : decode method_4_code 15 = .ok (.iconst 0, 1) := by decide +kernel
theorem dL_end_16 : decode method_4_code 16 = .ok (.ireturn, 1) := by decide +kernel
theorem dL_feed_0 : decode method_3_code 0 = .ok (.aload 6, 2) := by decide +kernel
theorem dL_feed_2 : decode method_3_code 2 = .ok (.iconst 0, 1) := by decide +kernel
theorem dL_feed_3 : decode method_3_code 3 = .ok (.aload_n 0, 1) := by decide +kernel
theorem dL_feed_4 : decode method_3_code 4 = .ok (.iload_n 1, 1) := by decide +kernel
theorem dL_feed_5 : decode method_3_code 5 = .ok (.iload_n 2, 1) := by decide +kernel
theorem dL_feed_6 : decode method_3_code 6 = .ok (.iload_n 3, 1) := by decide +kernel
theorem dL_feed_7 : decode method_3_code 7 = .ok (.iload 4, 2) := by decide +kernel
theorem dL_feed_9 : decode method_3_code 9 = .ok (.iload 5, 2) := by decide +kernel
theorem dL_feed_11 : decode method_3_code 11 = .ok (.invokevirtual 7, 3) := by decide +kernel
theorem dL_feed_14 : decode method_3_code 14 = .ok (.i2l, 1) := by decide +kernel
theorem dL_feed_15 : decode method_3_code 15 = .ok (.lastore, 1) := by decide +kernel
theorem dL_feed_16 : decode method_3_code 16 = .ok (.goto 7, 3) := by decide +kernel
theorem dL_feed_19 : decode method_3_code 19 = .ok (.astore 7, 2) := by decide +kernel
theorem dL_feed_21 : decode method_3_code 21 = .ok (.iconst 1, 1) := by decide +kernel
theorem dL_feed_22 : decode method_3_code 22 = .ok (.ireturn, 1) := by decide +kernel
theorem dL_feed_23 : decode method_3_code 23 = .ok (.iconst 0, 1) := by decide +kernel
theorem dL_feed_24 : decode method_3_code 24 = .ok (.ireturn, 1) := by decide +kernel
theorem dL_one_0 : decode method_10_code 0 = .ok (.aload_n 0, 1) := by decide +kernel
theorem dL_one_1 : decode method_10_code 1 = .ok (.iload_n 1, 1) := by decide +kernel
theorem dL_one_2 : decode method_10_code 2 = .ok (.iload_n 2, 1) := by decide +kernel
theorem dL_one_3 : decode method_10_code 3 = .ok (.iload_n 3, 1) := by decide +kernel
theorem dL_one_4 : decode method_10_code 4 = .ok (.invokevirtual 43, 3) := by decide +kernel
theorem dL_one_7 : decode method_10_code 7 = .ok (.goto 15, 3) := by decide +kernel
theorem dL_one_10 : decode method_10_code 10 = .ok (.astore 4, 2) := by decide +kernel
theorem dL_one_12 : decode method_10_code 12 = .ok (.iconst 1, 1) := by decide +kernel
theorem dL_one_13 : decode method_10_code 13 = .ok (.ireturn, 1) := by decide +kernel
theorem dL_one_14 : decode method_10_code 14 = .ok (.astore 4, 2) := by decide +kernel
theorem dL_one_16 : decode method_10_code 16 = .ok (.iconst 2, 1) := by decide +kernel
theorem dL_one_17 : decode method_10_code 17 = .ok (.ireturn, 1) := by decide +kernel
theorem dL_one_18 : decode method_10_code 18 = .ok (.astore 4, 2) := by decide +kernel
theorem dL_one_20 : decode method_10_code 20 = .ok (.iconst 3, 1) := by decide +kernel
theorem dL_one_21 : decode method_10_code 21 = .ok (.ireturn, 1) := by decide +kernel
theorem dL_one_22 : decode method_10_code 22 = .ok (.iconst 0, 1) := by decide +kernel
theorem dL_one_23 : decode method_10_code 23 = .ok (.ireturn, 1) := by decide +kernel
theorem dL_print_0 : decode method_6_code 0 = .ok (.aload_n 2, 1) := by decide +kernel
theorem dL_print_1 : decode method_6_code 1 = .ok (.iconst 0, 1) := by decide +kernel
theorem dL_print_2 : decode method_6_code 2 = .ok (.aload_n 0, 1) := by decide +kernel
theorem dL_print_3 : decode method_6_code 3 = .ok (.iload_n 1, 1) := by decide +kernel
theorem dL_print_4 : decode method_6_code 4 = .ok (.invokevirtual 26, 3) := by decide +kernel
theorem dL_print_7 : decode method_6_code 7 = .ok (.i2l, 1) := by decide +kernel
theorem dL_print_8 : decode method_6_code 8 = .ok (.lastore, 1) := by decide +kernel
theorem dL_print_9 : decode method_6_code 9 = .ok (.goto 6, 3) := by decide +kernel
theorem dL_print_12 : decode method_6_code 12 = .ok (.astore_n 3, 1) := by decide +kernel
theorem dL_print_13 : decode method_6_code 13 = .ok (.iconst 1, 1) := by decide +kernel
theorem dL_print_14 : decode method_6_code 14 = .ok (.ireturn, 1) := by decide +kernel
theorem dL_print_15 : decode method_6_code 15 = .ok (.iconst 0, 1) := by decide +kernel
theorem dL_print_16 : decode method_6_code 16 = .ok (.ireturn, 1) := by decide +kernel
theorem dL_read_0 : decode method_5_code 0 = .ok (.aload_n 2, 1) := by decide +kernel
theorem dL_read_1 : decode method_5_code 1 = .ok (.iconst 0, 1) := by decide +kernel
theorem dL_read_2 : decode method_5_code 2 = .ok (.aload_n 0, 1) := by decide +kernel
theorem dL_read_3 : decode method_5_code 3 = .ok (.iload_n 1, 1) := by decide +kernel
theorem dL_read_4 : decode method_5_code 4 = .ok (.invokevirtual 21, 3) := by decide +kernel
theorem dL_read_7 : decode method_5_code 7 = .ok (.i2l, 1) := by decide +kernel
theorem dL_read_8 : decode method_5_code 8 = .ok (.lastore, 1) := by decide +kernel
theorem dL_read_9 : decode method_5_code 9 = .ok (.goto 12, 3) := by decide +kernel
theorem dL_read_12 : decode method_5_code 12 = .ok (.astore_n 3, 1) := by decide +kernel
theorem dL_read_13 : decode method_5_code 13 = .ok (.iconst 1, 1) := by decide +kernel
theorem dL_read_14 : decode method_5_code 14 = .ok (.ireturn, 1) := by decide +kernel
theorem dL_read_15 : decode method_5_code 15 = .ok (.astore_n 3, 1) := by decide +kernel
theorem dL_read_16 : decode method_5_code 16 = .ok (.iconst 2, 1) := by decide +kernel
theorem dL_read_17 : decode method_5_code 17 = .ok (.ireturn, 1) := by decide +kernel
theorem dL_read_18 : decode method_5_code 18 = .ok (.astore_n 3, 1) := by decide +kernel
theorem dL_read_19 : decode method_5_code 19 = .ok (.iconst 3, 1) := by decide +kernel
theorem dL_read_20 : decode method_5_code 20 = .ok (.ireturn, 1) := by decide +kernel
theorem dL_read_21 : decode method_5_code 21 = .ok (.iconst 0, 1) := by decide +kernel
theorem dL_read_22 : decode method_5_code 22 = .ok (.ireturn, 1) := by decide +kernel
theorem dL_same_0 : decode method_9_code 0 = .ok (.aload_n 3, 1) := by decide +kernel
theorem dL_same_1 : decode method_9_code 1 = .ok (.iconst 0, 1) := by decide +kernel
theorem dL_same_2 : decode method_9_code 2 = .ok (.aload_n 0, 1) := by decide +kernel
theorem dL_same_3 : decode method_9_code 3 = .ok (.iload_n 1, 1) := by decide +kernel
theorem dL_same_4 : decode method_9_code 4 = .ok (.iload_n 2, 1) := by decide +kernel
theorem dL_same_5 : decode method_9_code 5 = .ok (.invokevirtual 39, 3) := by decide +kernel
theorem dL_same_8 : decode method_9_code 8 = .ok (.ifCond .eq 7, 3) := by decide +kernel
theorem dL_same_11 : decode method_9_code 11 = .ok (.lconst 1, 1) := by decide +kernel
theorem dL_same_12 : decode method_9_code 12 = .ok (.goto 4, 3) := by decide +kernel
theorem dL_same_15 : decode method_9_code 15 = .ok (.lconst 0, 1) := by decide +kernel
theorem dL_same_16 : decode method_9_code 16 = .ok (.lastore, 1) := by decide +kernel
theorem dL_same_17 : decode method_9_code 17 = .ok (.goto 7, 3) := by decide +kernel
theorem dL_same_20 : decode method_9_code 20 = .ok (.astore 4, 2) := by decide +kernel
theorem dL_same_22 : decode method_9_code 22 = .ok (.iconst 1, 1) := by decide +kernel
theorem dL_same_23 : decode method_9_code 23 = .ok (.ireturn, 1) := by decide +kernel
theorem dL_same_24 : decode method_9_code 24 = .ok (.iconst 0, 1) := by decide +kernel
theorem dL_same_25 : decode method_9_code 25 = .ok (.ireturn, 1) := by decide +kernel
theorem dL_sort_0 : decode method_12_code 0 = .ok (.aload_n 0, 1) := by decide +kernel
theorem dL_sort_1 : decode method_12_code 1 = .ok (.iload_n 1, 1) := by decide +kernel
theorem dL_sort_2 : decode method_12_code 2 = .ok (.iload_n 2, 1) := by decide +kernel
theorem dL_sort_3 : decode method_12_code 3 = .ok (.iload_n 3, 1) := by decide +kernel
theorem dL_sort_4 : decode method_12_code 4 = .ok (.iload 4, 2) := by decide +kernel
theorem dL_sort_6 : decode method_12_code 6 = .ok (.invokevirtual 50, 3) := by decide +kernel
theorem dL_sort_9 : decode method_12_code 9 = .ok (.goto 15, 3) := by decide +kernel
theorem dL_sort_12 : decode method_12_code 12 = .ok (.astore 5, 2) := by decide +kernel
theorem dL_sort_14 : decode method_12_code 14 = .ok (.iconst 1, 1) := by decide +kernel
theorem dL_sort_15 : decode method_12_code 15 = .ok (.ireturn, 1) := by decide +kernel
theorem dL_sort_16 : decode method_12_code 16 = .ok (.astore 5, 2) := by decide +kernel
theorem dL_sort_18 : decode method_12_code 18 = .ok (.iconst 2, 1) := by decide +kernel
theorem dL_sort_19 : decode method_12_code 19 = .ok (.ireturn, 1) := by decide +kernel
theorem dL_sort_20 : decode method_12_code 20 = .ok (.astore 5, 2) := by decide +kernel
theorem dL_sort_22 : decode method_12_code 22 = .ok (.iconst 3, 1) := by decide +kernel
theorem dL_sort_23 : decode method_12_code 23 = .ok (.ireturn, 1) := by decide +kernel
theorem dL_sort_24 : decode method_12_code 24 = .ok (.iconst 0, 1) := by decide +kernel
theorem dL_sort_25 : decode method_12_code 25 = .ok (.ireturn, 1) := by decide +kernel
theorem dL_two_0 : decode method_11_code 0 = .ok (.aload_n 0, 1) := by decide +kernel
theorem dL_two_1 : decode method_11_code 1 = .ok (.iload_n 1, 1) := by decide +kernel
theorem dL_two_2 : decode method_11_code 2 = .ok (.iload_n 2, 1) := by decide +kernel
theorem dL_two_3 : decode method_11_code 3 = .ok (.iload_n 3, 1) := by decide +kernel
theorem dL_two_4 : decode method_11_code 4 = .ok (.iload 4, 2) := by decide +kernel
theorem dL_two_6 : decode method_11_code 6 = .ok (.invokevirtual 47, 3) := by decide +kernel
theorem dL_two_9 : decode method_11_code 9 = .ok (.goto 15, 3) := by decide +kernel
theorem dL_two_12 : decode method_11_code 12 = .ok (.astore 5, 2) := by decide +kernel
theorem dL_two_14 : decode method_11_code 14 = .ok (.iconst 1, 1) := by decide +kernel
theorem dL_two_15 : decode method_11_code 15 = .ok (.ireturn, 1) := by decide +kernel
theorem dL_two_16 : decode method_11_code 16 = .ok (.astore 5, 2) := by decide +kernel
theorem dL_two_18 : decode method_11_code 18 = .ok (.iconst 2, 1) := by decide +kernel
theorem dL_two_19 : decode method_11_code 19 = .ok (.ireturn, 1) := by decide +kernel
theorem dL_two_20 : decode method_11_code 20 = .ok (.astore 5, 2) := by decide +kernel
theorem dL_two_22 : decode method_11_code 22 = .ok (.iconst 3, 1) := by decide +kernel
theorem dL_two_23 : decode method_11_code 23 = .ok (.ireturn, 1) := by decide +kernel
theorem dL_two_24 : decode method_11_code 24 = .ok (.iconst 0, 1) := by decide +kernel
theorem dL_two_25 : decode method_11_code 25 = .ok (.ireturn, 1) := by decide +kernel
theorem dL_word_0 : decode method_13_code 0 = .ok (.aload_n 2, 1) := by decide +kernel
theorem dL_word_1 : decode method_13_code 1 = .ok (.iconst 0, 1) := by decide +kernel
theorem dL_word_2 : decode method_13_code 2 = .ok (.aload_n 0, 1) := by decide +kernel
theorem dL_word_3 : decode method_13_code 3 = .ok (.iload_n 1, 1) := by decide +kernel
theorem dL_word_4 : decode method_13_code 4 = .ok (.invokevirtual 53, 3) := by decide +kernel
theorem dL_word_7 : decode method_13_code 7 = .ok (.lastore, 1) := by decide +kernel
theorem dL_word_8 : decode method_13_code 8 = .ok (.goto 6, 3) := by decide +kernel
theorem dL_word_11 : decode method_13_code 11 = .ok (.astore_n 3, 1) := by decide +kernel
theorem dL_word_12 : decode method_13_code 12 = .ok (.iconst 1, 1) := by decide +kernel
theorem dL_word_13 : decode method_13_code 13 = .ok (.ireturn, 1) := by decide +kernel
theorem dL_word_14 : decode method_13_code 14 = .ok (.iconst 0, 1) := by decide +kernel
theorem dL_word_15 : decode method_13_code 15 = .ok (.ireturn, 1) := by decide +kernel
