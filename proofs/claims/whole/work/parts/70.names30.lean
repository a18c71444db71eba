def yM_added : MethodName := ⟨"ValueBenchModel", "added", "(LValueBenchModel$V;LValueBenchModel$V;)LValueBenchModel$V;"⟩
def yM_alike : MethodName := ⟨"ValueBenchModel", "alike", "(LValueBenchModel$V;LValueBenchModel$V;)Z"⟩
def yM_array : MethodName := ⟨"ValueBenchModel", "array", "(LValueBenchModel$V;)LValueBenchModel$V;"⟩
def yM_at : MethodName := ⟨"ValueBenchModel", "at", "(LValueBenchModel$V;LValueBenchModel$V;)LValueBenchModel$V;"⟩
def yM_bad : MethodName := ⟨"ValueBenchModel", "bad", "(I)V"⟩
def yM_begin : MethodName := ⟨"ValueBenchModel", "begin", "()V"⟩
def yM_begins : MethodName := ⟨"ValueBenchModel", "begins", "(LValueBenchModel$V;LValueBenchModel$V;I)Z"⟩
def yM_binary0 : MethodName := ⟨"ValueBenchModel", "binary", "(IIII)V"⟩
def yM_binary1 : MethodName := ⟨"ValueBenchModel", "binary", "(ILValueBenchModel$V;LValueBenchModel$V;)LValueBenchModel$V;"⟩
def yM_blanks : MethodName := ⟨"ValueBenchModel", "blanks", "()V"⟩
def yM_cased : MethodName := ⟨"ValueBenchModel", "cased", "(LValueBenchModel$V;Z)LValueBenchModel$V;"⟩
def yM_clear : MethodName := ⟨"ValueBenchModel", "clear", "()V"⟩
def yM_compare : MethodName := ⟨"ValueBenchModel", "compare", "(II)I"⟩
def yM_contains : MethodName := ⟨"ValueBenchModel", "contains", "(LValueBenchModel$V;LValueBenchModel$V;)Z"⟩
def yM_count : MethodName := ⟨"ValueBenchModel", "count", "(I)I"⟩
def yM_digit : MethodName := ⟨"ValueBenchModel", "digit", "(I)Z"⟩
def yM_elements : MethodName := ⟨"ValueBenchModel", "elements", "()LValueBenchModel$V;"⟩
def yM_end : MethodName := ⟨"ValueBenchModel", "end", "(I)I"⟩
def yM_escaped : MethodName := ⟨"ValueBenchModel", "escaped", "(I)V"⟩
def yM_explode : MethodName := ⟨"ValueBenchModel", "explode", "(LValueBenchModel$V;)LValueBenchModel$V;"⟩
def yM_fail : MethodName := ⟨"ValueBenchModel", "fail", "(I)I"⟩
def yM_feed : MethodName := ⟨"ValueBenchModel", "feed", "(IIIII)I"⟩
def yM_finish : MethodName := ⟨"ValueBenchModel", "finish", "(IIIII)V"⟩
def yM_flat : MethodName := ⟨"ValueBenchModel", "flat", "(LValueBenchModel$V;J)V"⟩
def yM_flatten : MethodName := ⟨"ValueBenchModel", "flatten", "(LValueBenchModel$V;LValueBenchModel$V;)LValueBenchModel$V;"⟩
def yM_following : MethodName := ⟨"ValueBenchModel", "following", "(LValueBenchModel$V;LValueBenchModel$V;)LValueBenchModel$V;"⟩
def yM_fresh : MethodName := ⟨"ValueBenchModel", "fresh", "(I)LValueBenchModel$V;"⟩
def yM_fromJson : MethodName := ⟨"ValueBenchModel", "fromJson", "(LValueBenchModel$V;)LValueBenchModel$V;"⟩
def yM_has : MethodName := ⟨"ValueBenchModel", "has", "(LValueBenchModel$V;LValueBenchModel$V;)LValueBenchModel$V;"⟩
def yM_hex : MethodName := ⟨"ValueBenchModel", "hex", "(I)I"⟩
def yM_implode : MethodName := ⟨"ValueBenchModel", "implode", "(LValueBenchModel$V;)LValueBenchModel$V;"⟩
def yM_indices : MethodName := ⟨"ValueBenchModel", "indices", "(LValueBenchModel$V;LValueBenchModel$V;)LValueBenchModel$V;"⟩
def yM_isTrue : MethodName := ⟨"ValueBenchModel", "isTrue", "(LValueBenchModel$V;)Z"⟩
def yM_joined : MethodName := ⟨"ValueBenchModel", "joined", "(LValueBenchModel$V;LValueBenchModel$V;)LValueBenchModel$V;"⟩
def yM_json : MethodName := ⟨"ValueBenchModel", "json", "([BII)LValueBenchModel$V;"⟩
def yM_jsonNumber : MethodName := ⟨"ValueBenchModel", "jsonNumber", "()LValueBenchModel$V;"⟩
def yM_jsonString : MethodName := ⟨"ValueBenchModel", "jsonString", "()LValueBenchModel$V;"⟩
def yM_keys : MethodName := ⟨"ValueBenchModel", "keys", "(LValueBenchModel$V;Z)LValueBenchModel$V;"⟩
def yM_keysOf : MethodName := ⟨"ValueBenchModel", "keysOf", "(LValueBenchModel$V;Z)LValueBenchModel$V;"⟩
def yM_kid : MethodName := ⟨"ValueBenchModel", "kid", "(LValueBenchModel$V;I)LValueBenchModel$V;"⟩
def yM_length : MethodName := ⟨"ValueBenchModel", "length", "(LValueBenchModel$V;)LValueBenchModel$V;"⟩
def yM_letter : MethodName := ⟨"ValueBenchModel", "letter", "(I)V"⟩
def yM_letters : MethodName := ⟨"ValueBenchModel", "letters", "(LValueBenchModel$V;)V"⟩
def yM_limit : MethodName := ⟨"ValueBenchModel", "limit", "()LValueBenchModel$V;"⟩
def yM_members : MethodName := ⟨"ValueBenchModel", "members", "()LValueBenchModel$V;"⟩
def yM_merged : MethodName := ⟨"ValueBenchModel", "merged", "(LValueBenchModel$V;LValueBenchModel$V;)LValueBenchModel$V;"⟩
def yM_name : MethodName := ⟨"ValueBenchModel", "name", "(LValueBenchModel$V;I)LValueBenchModel$V;"⟩
def yM_number : MethodName := ⟨"ValueBenchModel", "number", "(J)LValueBenchModel$V;"⟩
def yM_objects : MethodName := ⟨"ValueBenchModel", "objects", "(LValueBenchModel$V;LValueBenchModel$V;)I"⟩
def yM_one0 : MethodName := ⟨"ValueBenchModel", "one", "(III)V"⟩
def yM_one1 : MethodName := ⟨"ValueBenchModel", "one", "(ILValueBenchModel$V;)LValueBenchModel$V;"⟩
def yM_order : MethodName := ⟨"ValueBenchModel", "order", "(LValueBenchModel$V;LValueBenchModel$V;)I"⟩
def yM_out : MethodName := ⟨"ValueBenchModel", "out", "(I)Z"⟩
def yM_part : MethodName := ⟨"ValueBenchModel", "part", "(LValueBenchModel$V;II)LValueBenchModel$V;"⟩
def yM_peek : MethodName := ⟨"ValueBenchModel", "peek", "()I"⟩
def yM_piece : MethodName := ⟨"ValueBenchModel", "piece", "(LValueBenchModel$V;II)LValueBenchModel$V;"⟩
def yM_place : MethodName := ⟨"ValueBenchModel", "place", "(LValueBenchModel$V;LValueBenchModel$V;)I"⟩
def yM_print0 : MethodName := ⟨"ValueBenchModel", "print", "(I)I"⟩
def yM_print1 : MethodName := ⟨"ValueBenchModel", "print", "(LValueBenchModel$V;)V"⟩
def yM_put0 : MethodName := ⟨"ValueBenchModel", "put", "(I)V"⟩
def yM_put1 : MethodName := ⟨"ValueBenchModel", "put", "(Ljava/lang/String;)V"⟩
def yM_putHex : MethodName := ⟨"ValueBenchModel", "putHex", "(I)V"⟩
def yM_putNumber : MethodName := ⟨"ValueBenchModel", "putNumber", "(J)V"⟩
def yM_putString : MethodName := ⟨"ValueBenchModel", "putString", "(LValueBenchModel$V;)V"⟩
def yM_ranked : MethodName := ⟨"ValueBenchModel", "ranked", "(LValueBenchModel$V;)V"⟩
def yM_read : MethodName := ⟨"ValueBenchModel", "read", "(I)I"⟩
def yM_refuse : MethodName := ⟨"ValueBenchModel", "refuse", "(I)LValueBenchModel$V;"⟩
def yM_register : MethodName := ⟨"ValueBenchModel", "register", "(I)LValueBenchModel$V;"⟩
def yM_reversed : MethodName := ⟨"ValueBenchModel", "reversed", "(LValueBenchModel$V;)LValueBenchModel$V;"⟩
def yM_same0 : MethodName := ⟨"ValueBenchModel", "same", "(II)Z"⟩
def yM_same1 : MethodName := ⟨"ValueBenchModel", "same", "(LValueBenchModel$V;LValueBenchModel$V;)Z"⟩
def yM_sameText : MethodName := ⟨"ValueBenchModel", "sameText", "(LValueBenchModel$V;LValueBenchModel$V;)Z"⟩
def yM_says : MethodName := ⟨"ValueBenchModel", "says", "(Ljava/lang/String;I)LValueBenchModel$V;"⟩
def yM_sort0 : MethodName := ⟨"ValueBenchModel", "sort", "(IIII)V"⟩
def yM_sort1 : MethodName := ⟨"ValueBenchModel", "sort", "(LValueBenchModel$V;LValueBenchModel$V;I)LValueBenchModel$V;"⟩
def yM_split : MethodName := ⟨"ValueBenchModel", "split", "(LValueBenchModel$V;LValueBenchModel$V;)LValueBenchModel$V;"⟩
def yM_store : MethodName := ⟨"ValueBenchModel", "store", "(ILValueBenchModel$V;)I"⟩
def yM_string : MethodName := ⟨"ValueBenchModel", "string", "(I)LValueBenchModel$V;"⟩
def yM_text : MethodName := ⟨"ValueBenchModel", "text", "(LValueBenchModel$V;)LValueBenchModel$V;"⟩
def yM_thrown : MethodName := ⟨"ValueBenchModel", "thrown", "()I"⟩
def yM_times : MethodName := ⟨"ValueBenchModel", "times", "(LValueBenchModel$V;LValueBenchModel$V;)LValueBenchModel$V;"⟩
def yM_toNumber : MethodName := ⟨"ValueBenchModel", "toNumber", "(LValueBenchModel$V;)LValueBenchModel$V;"⟩
def yM_told : MethodName := ⟨"ValueBenchModel", "told", "(LValueBenchModel$V;)LValueBenchModel$V;"⟩
def yM_truth : MethodName := ⟨"ValueBenchModel", "truth", "(Z)LValueBenchModel$V;"⟩
def yM_two0 : MethodName := ⟨"ValueBenchModel", "two", "(IIII)V"⟩
def yM_two1 : MethodName := ⟨"ValueBenchModel", "two", "(ILValueBenchModel$V;LValueBenchModel$V;)LValueBenchModel$V;"⟩
def yM_value : MethodName := ⟨"ValueBenchModel", "value", "()LValueBenchModel$V;"⟩
def yM_wait : MethodName := ⟨"ValueBenchModel", "wait", "(LValueBenchModel$V;LValueBenchModel$V;)V"⟩
def yM_whole : MethodName := ⟨"ValueBenchModel", "whole", "(II)LValueBenchModel$V;"⟩
def yM_without : MethodName := ⟨"ValueBenchModel", "without", "(LValueBenchModel$V;LValueBenchModel$V;)LValueBenchModel$V;"⟩
def yM_word : MethodName := ⟨"ValueBenchModel", "word", "(I)J"⟩
def yV_init : MethodName := ⟨"ValueBenchModel$V", "<init>", "()V"⟩
def wyM_added : List Cond := .code yM_added prog_13_method_49_code 6 (some (.object "ValueBenchModel$V")) :: xw
def wyM_alike : List Cond := .code yM_alike prog_13_method_69_code 3 (some .boolean) :: xw
def wyM_array : List Cond := .code yM_array prog_13_method_55_code 2 (some (.object "ValueBenchModel$V")) :: xw
def wyM_at : List Cond := .code yM_at prog_13_method_75_code 5 (some (.object "ValueBenchModel$V")) :: xw
def wyM_bad : List Cond := .code yM_bad prog_13_method_28_code 2 none :: xw
def wyM_begin : List Cond := .code yM_begin prog_13_method_78_code 1 none :: xw
def wyM_begins : List Cond := .code yM_begins prog_13_method_68_code 5 (some .boolean) :: xw
def wyM_binary0 : List Cond := .code yM_binary0 prog_13_method_89_code 5 none :: xw
def wyM_binary1 : List Cond := .code yM_binary1 prog_13_method_48_code 4 (some (.object "ValueBenchModel$V")) :: xw
def wyM_blanks : List Cond := .code yM_blanks prog_13_method_31_code 1 none :: xw
def wyM_cased : List Cond := .code yM_cased prog_13_method_64_code 6 (some (.object "ValueBenchModel$V")) :: xw
def wyM_clear : List Cond := .code yM_clear prog_13_method_18_code 1 none :: xw
def wyM_compare : List Cond := .code yM_compare prog_13_method_91_code 4 (some .int) :: xw
def wyM_contains : List Cond := .code yM_contains prog_13_method_70_code 6 (some .boolean) :: xw
def wyM_count : List Cond := .code yM_count prog_13_method_88_code 2 (some .int) :: xw
def wyM_digit : List Cond := .code yM_digit prog_13_method_30_code 1 (some .boolean) :: xw
def wyM_elements : List Cond := .code yM_elements prog_13_method_39_code 4 (some (.object "ValueBenchModel$V")) :: xw
def wyM_end : List Cond := .code yM_end prog_13_method_83_code 2 (some .int) :: xw
def wyM_escaped : List Cond := .code yM_escaped prog_13_method_37_code 5 none :: xw
def wyM_explode : List Cond := .code yM_explode prog_13_method_62_code 4 (some (.object "ValueBenchModel$V")) :: xw
def wyM_fail : List Cond := .code yM_fail prog_13_method_3_code 2 (some .int) :: xw
def wyM_feed : List Cond := .code yM_feed prog_13_method_82_code 8 (some .int) :: xw
def wyM_finish : List Cond := .codeWith yM_finish prog_13_method_90_code 10 none [(0, 128, 131, 83), (0, 128, 149, 86)] :: xw
def wyM_flat : List Cond := .code yM_flat prog_13_method_73_code 6 none :: xw
def wyM_flatten : List Cond := .code yM_flatten prog_13_method_74_code 4 (some (.object "ValueBenchModel$V")) :: xw
def wyM_following : List Cond := .code yM_following prog_13_method_23_code 6 (some (.object "ValueBenchModel$V")) :: xw
def wyM_fresh : List Cond := .code yM_fresh prog_13_method_6_code 4 (some (.object "ValueBenchModel$V")) :: xw
def wyM_fromJson : List Cond := .codeWith yM_fromJson prog_13_method_60_code 10 (some (.object "ValueBenchModel$V")) [(49, 72, 75, 205)] :: xw
def wyM_has : List Cond := .code yM_has prog_13_method_67_code 3 (some (.object "ValueBenchModel$V")) :: xw
def wyM_hex : List Cond := .code yM_hex prog_13_method_36_code 1 (some .int) :: xw
def wyM_implode : List Cond := .code yM_implode prog_13_method_63_code 4 (some (.object "ValueBenchModel$V")) :: xw
def wyM_indices : List Cond := .code yM_indices prog_13_method_72_code 9 (some (.object "ValueBenchModel$V")) :: xw
def wyM_isTrue : List Cond := .code yM_isTrue prog_13_method_65_code 2 (some .boolean) :: xw
def wyM_joined : List Cond := .code yM_joined prog_13_method_71_code 8 (some (.object "ValueBenchModel$V")) :: xw
def wyM_json : List Cond := .code yM_json prog_13_method_32_code 5 (some (.object "ValueBenchModel$V")) :: xw
def wyM_jsonNumber : List Cond := .code yM_jsonNumber prog_13_method_35_code 5 (some (.object "ValueBenchModel$V")) :: xw
def wyM_jsonString : List Cond := .code yM_jsonString prog_13_method_38_code 3 (some (.object "ValueBenchModel$V")) :: xw
def wyM_keys : List Cond := .code yM_keys prog_13_method_25_code 5 (some (.object "ValueBenchModel$V")) :: xw
def wyM_keysOf : List Cond := .code yM_keysOf prog_13_method_58_code 5 (some (.object "ValueBenchModel$V")) :: xw
def wyM_kid : List Cond := .code yM_kid prog_13_method_16_code 3 (some (.object "ValueBenchModel$V")) :: xw
def wyM_length : List Cond := .code yM_length prog_13_method_57_code 2 (some (.object "ValueBenchModel$V")) :: xw
def wyM_letter : List Cond := .code yM_letter prog_13_method_9_code 4 none :: xw
def wyM_letters : List Cond := .code yM_letters prog_13_method_12_code 3 none :: xw
def wyM_limit : List Cond := .code yM_limit prog_13_method_5_code 1 (some (.object "ValueBenchModel$V")) :: xw
def wyM_members : List Cond := .code yM_members prog_13_method_40_code 6 (some (.object "ValueBenchModel$V")) :: xw
def wyM_merged : List Cond := .code yM_merged prog_13_method_52_code 8 (some (.object "ValueBenchModel$V")) :: xw
def wyM_name : List Cond := .code yM_name prog_13_method_17_code 3 (some (.object "ValueBenchModel$V")) :: xw
def wyM_number : List Cond := .code yM_number prog_13_method_7_code 4 (some (.object "ValueBenchModel$V")) :: xw
def wyM_objects : List Cond := .code yM_objects prog_13_method_24_code 7 (some .int) :: xw
def wyM_one0 : List Cond := .code yM_one0 prog_13_method_92_code 4 none :: xw
def wyM_one1 : List Cond := .code yM_one1 prog_13_method_66_code 3 (some (.object "ValueBenchModel$V")) :: xw
def wyM_order : List Cond := .code yM_order prog_13_method_22_code 5 (some .int) :: xw
def wyM_out : List Cond := .code yM_out prog_13_method_77_code 2 (some .boolean) :: xw
def wyM_part : List Cond := .code yM_part prog_13_method_54_code 4 (some (.object "ValueBenchModel$V")) :: xw
def wyM_peek : List Cond := .code yM_peek prog_13_method_29_code 1 (some .int) :: xw
def wyM_piece : List Cond := .code yM_piece prog_13_method_13_code 5 (some (.object "ValueBenchModel$V")) :: xw
def wyM_place : List Cond := .code yM_place prog_13_method_20_code 4 (some .int) :: xw
def wyM_print0 : List Cond := .code yM_print0 prog_13_method_85_code 3 (some .int) :: xw
def wyM_print1 : List Cond := .code yM_print1 prog_13_method_46_code 3 none :: xw
def wyM_put0 : List Cond := .code yM_put0 prog_13_method_41_code 4 none :: xw
def wyM_put1 : List Cond := .code yM_put1 prog_13_method_42_code 3 none :: xw
def wyM_putHex : List Cond := .code yM_putHex prog_13_method_44_code 2 none :: xw
def wyM_putNumber : List Cond := .code yM_putNumber prog_13_method_43_code 7 none :: xw
def wyM_putString : List Cond := .code yM_putString prog_13_method_45_code 4 none :: xw
def wyM_ranked : List Cond := .code yM_ranked prog_13_method_26_code 11 none :: xw
def wyM_read : List Cond := .codeWith yM_read prog_13_method_84_code 4 (some .int) [(39, 54, 55, 205), (39, 54, 70, 86)] :: xw
def wyM_refuse : List Cond := .code yM_refuse prog_13_method_4_code 2 (some (.object "ValueBenchModel$V")) :: xw
def wyM_register : List Cond := .code yM_register prog_13_method_79_code 2 (some (.object "ValueBenchModel$V")) :: xw
def wyM_reversed : List Cond := .code yM_reversed prog_13_method_61_code 4 (some (.object "ValueBenchModel$V")) :: xw
def wyM_same0 : List Cond := .code yM_same0 prog_13_method_86_code 3 (some .boolean) :: xw
def wyM_same1 : List Cond := .code yM_same1 prog_13_method_21_code 5 (some .boolean) :: xw
def wyM_sameText : List Cond := .code yM_sameText prog_13_method_19_code 4 (some .boolean) :: xw
def wyM_says : List Cond := .code yM_says prog_13_method_33_code 4 (some (.object "ValueBenchModel$V")) :: xw
def wyM_sort0 : List Cond := .code yM_sort0 prog_13_method_94_code 5 none :: xw
def wyM_sort1 : List Cond := .code yM_sort1 prog_13_method_27_code 10 (some (.object "ValueBenchModel$V")) :: xw
def wyM_split : List Cond := .code yM_split prog_13_method_53_code 8 (some (.object "ValueBenchModel$V")) :: xw
def wyM_store : List Cond := .code yM_store prog_13_method_80_code 4 (some .int) :: xw
def wyM_string : List Cond := .code yM_string prog_13_method_10_code 3 (some (.object "ValueBenchModel$V")) :: xw
def wyM_text : List Cond := .code yM_text prog_13_method_56_code 2 (some (.object "ValueBenchModel$V")) :: xw
def wyM_thrown : List Cond := .code yM_thrown prog_13_method_2_code 1 (some .int) :: xw
def wyM_times : List Cond := .code yM_times prog_13_method_51_code 7 (some (.object "ValueBenchModel$V")) :: xw
def wyM_toNumber : List Cond := .code yM_toNumber prog_13_method_59_code 7 (some (.object "ValueBenchModel$V")) :: xw
def wyM_told : List Cond := .code yM_told prog_13_method_47_code 6 (some (.object "ValueBenchModel$V")) :: xw
def wyM_truth : List Cond := .code yM_truth prog_13_method_8_code 2 (some (.object "ValueBenchModel$V")) :: xw
def wyM_two0 : List Cond := .code yM_two0 prog_13_method_93_code 5 none :: xw
def wyM_two1 : List Cond := .code yM_two1 prog_13_method_76_code 4 (some (.object "ValueBenchModel$V")) :: xw
def wyM_value : List Cond := .code yM_value prog_13_method_34_code 3 (some (.object "ValueBenchModel$V")) :: xw
def wyM_wait : List Cond := .code yM_wait prog_13_method_14_code 6 none :: xw
def wyM_whole : List Cond := .code yM_whole prog_13_method_15_code 8 (some (.object "ValueBenchModel$V")) :: xw
def wyM_without : List Cond := .code yM_without prog_13_method_50_code 7 (some (.object "ValueBenchModel$V")) :: xw
def wyM_word : List Cond := .code yM_word prog_13_method_87_code 5 (some .long) :: xw
def wyV_init : List Cond := .code yV_init prog_14_method_1_code 1 none :: xw
theorem kw_1_19 : (.initialized "ValueBenchModel$V" : Cond) ∈ xw := xw_t (x_t1 (List.mem_of_getElem? (i := 19) rfl)) rfl
theorem kw_5_102 : (.fieldLink "ValueBenchModel" 214 "ValueBenchModel" "source" "[B" : Cond) ∈ xw := xw_t (x_t5 (List.mem_of_getElem? (i := 102) rfl)) rfl
theorem kw_5_103 : (.fieldLink "ValueBenchModel" 208 "ValueBenchModel" "at" "I" : Cond) ∈ xw := xw_t (x_t5 (List.mem_of_getElem? (i := 103) rfl)) rfl
theorem kw_5_104 : (.fieldLink "ValueBenchModel" 211 "ValueBenchModel" "stop" "I" : Cond) ∈ xw := xw_t (x_t5 (List.mem_of_getElem? (i := 104) rfl)) rfl
theorem kw_5_105 : (.fieldLink "ValueBenchModel" 220 "ValueBenchModel" "opened" "I" : Cond) ∈ xw := xw_t (x_t5 (List.mem_of_getElem? (i := 105) rfl)) rfl
theorem kw_5_109 : (.fieldLink "ValueBenchModel" 276 "ValueBenchModel" "printedSize" "I" : Cond) ∈ xw := xw_t (x_t5 (List.mem_of_getElem? (i := 109) rfl)) rfl
theorem kw_5_114 : (.fieldLink "ValueBenchModel" 421 "ValueBenchModel" "taped" "I" : Cond) ∈ xw := xw_t (x_t5 (List.mem_of_getElem? (i := 114) rfl)) rfl
theorem kw_5_116 : (.fieldLink "ValueBenchModel" 434 "ValueBenchModel" "size" "I" : Cond) ∈ xw := xw_t (x_t5 (List.mem_of_getElem? (i := 116) rfl)) rfl
theorem kw_5_117 : (.fieldLink "ValueBenchModel" 415 "ValueBenchModel" "refused" "I" : Cond) ∈ xw := xw_t (x_t5 (List.mem_of_getElem? (i := 117) rfl)) rfl
theorem kw_5_187 : (.code yM_thrown prog_13_method_2_code 1 (some .int) : Cond) ∈ xw := xw_t (x_t5 (List.mem_of_getElem? (i := 187) rfl)) rfl
theorem kw_5_191 : (.code yM_feed prog_13_method_82_code 8 (some .int) : Cond) ∈ xw := xw_t (x_t5 (List.mem_of_getElem? (i := 191) rfl)) rfl
theorem kw_5_192 : (.methodLink "ValueBenchModel" 418 yM_fail : Cond) ∈ xw := xw_t (x_t5 (List.mem_of_getElem? (i := 192) rfl)) rfl
theorem kw_5_194 : (.instanceMethod yM_fail : Cond) ∈ xw := xw_t (x_t5 (List.mem_of_getElem? (i := 194) rfl)) rfl
theorem kw_5_195 : (.code yM_fail prog_13_method_3_code 2 (some .int) : Cond) ∈ xw := xw_t (x_t5 (List.mem_of_getElem? (i := 195) rfl)) rfl
theorem kw_5_199 : (.code yM_end prog_13_method_83_code 2 (some .int) : Cond) ∈ xw := xw_t (x_t5 (List.mem_of_getElem? (i := 199) rfl)) rfl
theorem kw_5_203 : (.codeWith yM_read prog_13_method_84_code 4 (some .int) [(39, 54, 55, 205), (39, 54, 70, 86)] : Cond) ∈ xw := xw_t (x_t5 (List.mem_of_getElem? (i := 203) rfl)) rfl
theorem kw_5_204 : (.classLink "ValueBenchModel" 205 "java/lang/UnsupportedOperationException" : Cond) ∈ xw := xw_t (x_t5 (List.mem_of_getElem? (i := 204) rfl)) rfl
theorem kw_5_205 : (.classLink "ValueBenchModel" 86 "java/lang/IndexOutOfBoundsException" : Cond) ∈ xw := xw_t (x_t5 (List.mem_of_getElem? (i := 205) rfl)) rfl
theorem kw_5_206 : (.methodLink "ValueBenchModel" 424 yM_begin : Cond) ∈ xw := xw_t (x_t5 (List.mem_of_getElem? (i := 206) rfl)) rfl
theorem kw_5_208 : (.instanceMethod yM_begin : Cond) ∈ xw := xw_t (x_t5 (List.mem_of_getElem? (i := 208) rfl)) rfl
theorem kw_5_209 : (.code yM_begin prog_13_method_78_code 1 none : Cond) ∈ xw := xw_t (x_t5 (List.mem_of_getElem? (i := 209) rfl)) rfl
theorem kw_5_210 : (.methodLink "ValueBenchModel" 412 yM_clear : Cond) ∈ xw := xw_t (x_t5 (List.mem_of_getElem? (i := 210) rfl)) rfl
theorem kw_5_212 : (.instanceMethod yM_clear : Cond) ∈ xw := xw_t (x_t5 (List.mem_of_getElem? (i := 212) rfl)) rfl
theorem kw_5_213 : (.code yM_clear prog_13_method_18_code 1 none : Cond) ∈ xw := xw_t (x_t5 (List.mem_of_getElem? (i := 213) rfl)) rfl
theorem kw_5_214 : (.methodLink "ValueBenchModel" 427 yM_out : Cond) ∈ xw := xw_t (x_t5 (List.mem_of_getElem? (i := 214) rfl)) rfl
theorem kw_5_216 : (.instanceMethod yM_out : Cond) ∈ xw := xw_t (x_t5 (List.mem_of_getElem? (i := 216) rfl)) rfl
theorem kw_5_217 : (.code yM_out prog_13_method_77_code 2 (some .boolean) : Cond) ∈ xw := xw_t (x_t5 (List.mem_of_getElem? (i := 217) rfl)) rfl
theorem kw_5_218 : (.methodLink "ValueBenchModel" 344 yM_json : Cond) ∈ xw := xw_t (x_t5 (List.mem_of_getElem? (i := 218) rfl)) rfl
theorem kw_5_220 : (.instanceMethod yM_json : Cond) ∈ xw := xw_t (x_t5 (List.mem_of_getElem? (i := 220) rfl)) rfl
theorem kw_5_221 : (.code yM_json prog_13_method_32_code 5 (some (.object "ValueBenchModel$V")) : Cond) ∈ xw := xw_t (x_t5 (List.mem_of_getElem? (i := 221) rfl)) rfl
theorem kw_5_222 : (.methodLink "ValueBenchModel" 223 yM_value : Cond) ∈ xw := xw_t (x_t5 (List.mem_of_getElem? (i := 222) rfl)) rfl
theorem kw_5_224 : (.instanceMethod yM_value : Cond) ∈ xw := xw_t (x_t5 (List.mem_of_getElem? (i := 224) rfl)) rfl
theorem kw_5_225 : (.code yM_value prog_13_method_34_code 3 (some (.object "ValueBenchModel$V")) : Cond) ∈ xw := xw_t (x_t5 (List.mem_of_getElem? (i := 225) rfl)) rfl
theorem kw_5_226 : (.methodLink "ValueBenchModel" 226 yM_blanks : Cond) ∈ xw := xw_t (x_t5 (List.mem_of_getElem? (i := 226) rfl)) rfl
theorem kw_5_228 : (.instanceMethod yM_blanks : Cond) ∈ xw := xw_t (x_t5 (List.mem_of_getElem? (i := 228) rfl)) rfl
theorem kw_5_229 : (.code yM_blanks prog_13_method_31_code 1 none : Cond) ∈ xw := xw_t (x_t5 (List.mem_of_getElem? (i := 229) rfl)) rfl
theorem kw_5_230 : (.methodLink "ValueBenchModel" 217 yM_peek : Cond) ∈ xw := xw_t (x_t5 (List.mem_of_getElem? (i := 230) rfl)) rfl
theorem kw_5_232 : (.instanceMethod yM_peek : Cond) ∈ xw := xw_t (x_t5 (List.mem_of_getElem? (i := 232) rfl)) rfl
theorem kw_5_233 : (.code yM_peek prog_13_method_29_code 1 (some .int) : Cond) ∈ xw := xw_t (x_t5 (List.mem_of_getElem? (i := 233) rfl)) rfl
theorem kw_5_234 : (.methodLink "ValueBenchModel" 232 yM_says : Cond) ∈ xw := xw_t (x_t5 (List.mem_of_getElem? (i := 234) rfl)) rfl
theorem kw_5_236 : (.instanceMethod yM_says : Cond) ∈ xw := xw_t (x_t5 (List.mem_of_getElem? (i := 236) rfl)) rfl
theorem kw_5_237 : (.code yM_says prog_13_method_33_code 4 (some (.object "ValueBenchModel$V")) : Cond) ∈ xw := xw_t (x_t5 (List.mem_of_getElem? (i := 237) rfl)) rfl
theorem kw_5_238 : (.methodLink "ValueBenchModel" 131 yJS_length : Cond) ∈ xw := xw_t (x_t5 (List.mem_of_getElem? (i := 238) rfl)) rfl
theorem kw_5_239 : (.methodLink "ValueBenchModel" 229 yM_bad : Cond) ∈ xw := xw_t (x_t5 (List.mem_of_getElem? (i := 239) rfl)) rfl
theorem kw_5_87 : (.fieldLink "ValueBenchModel" 77 "ValueBenchModel" "failed" "I" : Cond) ∈ xw := xw_t (x_t5 (List.mem_of_getElem? (i := 87) rfl)) rfl
theorem kw_5_89 : (.fieldLink "ValueBenchModel" 89 "ValueBenchModel" "madeTop" "I" : Cond) ∈ xw := xw_t (x_t5 (List.mem_of_getElem? (i := 89) rfl)) rfl
theorem kw_5_91 : (.fieldLink "ValueBenchModel" 123 "ValueBenchModel" "charTop" "I" : Cond) ∈ xw := xw_t (x_t5 (List.mem_of_getElem? (i := 91) rfl)) rfl
theorem kw_5_94 : (.fieldLink "ValueBenchModel" 145 "ValueBenchModel" "kidTop" "I" : Cond) ∈ xw := xw_t (x_t5 (List.mem_of_getElem? (i := 94) rfl)) rfl
theorem kw_5_95 : (.fieldLink "ValueBenchModel" 80 "ValueBenchModel" "reason" "I" : Cond) ∈ xw := xw_t (x_t5 (List.mem_of_getElem? (i := 95) rfl)) rfl
theorem kw_5_96 : (.fieldLink "ValueBenchModel" 156 "ValueBenchModel" "parts" "I" : Cond) ∈ xw := xw_t (x_t5 (List.mem_of_getElem? (i := 96) rfl)) rfl
theorem kw_5_99 : (.fieldLink "ValueBenchModel" 142 "ValueBenchModel" "waiting" "I" : Cond) ∈ xw := xw_t (x_t5 (List.mem_of_getElem? (i := 99) rfl)) rfl
theorem kw_6_1 : (.instanceMethod yM_bad : Cond) ∈ xw := xw_t (x_t6 (List.mem_of_getElem? (i := 1) rfl)) rfl
theorem kw_6_101 : (.instanceMethod yM_elements : Cond) ∈ xw := xw_t (x_t6 (List.mem_of_getElem? (i := 101) rfl)) rfl
theorem kw_6_102 : (.code yM_elements prog_13_method_39_code 4 (some (.object "ValueBenchModel$V")) : Cond) ∈ xw := xw_t (x_t6 (List.mem_of_getElem? (i := 102) rfl)) rfl
theorem kw_6_103 : (.methodLink "ValueBenchModel" 190 yM_whole : Cond) ∈ xw := xw_t (x_t6 (List.mem_of_getElem? (i := 103) rfl)) rfl
theorem kw_6_105 : (.instanceMethod yM_whole : Cond) ∈ xw := xw_t (x_t6 (List.mem_of_getElem? (i := 105) rfl)) rfl
theorem kw_6_106 : (.code yM_whole prog_13_method_15_code 8 (some (.object "ValueBenchModel$V")) : Cond) ∈ xw := xw_t (x_t6 (List.mem_of_getElem? (i := 106) rfl)) rfl
theorem kw_6_107 : (.methodLink "ValueBenchModel" 148 Lib.Math.max.name : Cond) ∈ xw := xw_t (x_t6 (List.mem_of_getElem? (i := 107) rfl)) rfl
theorem kw_6_108 : (.constantLong "ValueBenchModel" 154 60000 : Cond) ∈ xw := xw_t (x_t6 (List.mem_of_getElem? (i := 108) rfl)) rfl
theorem kw_6_109 : (.methodLink "ValueBenchModel" 186 yM_wait : Cond) ∈ xw := xw_t (x_t6 (List.mem_of_getElem? (i := 109) rfl)) rfl
theorem kw_6_111 : (.instanceMethod yM_wait : Cond) ∈ xw := xw_t (x_t6 (List.mem_of_getElem? (i := 111) rfl)) rfl
theorem kw_6_112 : (.code yM_wait prog_13_method_14_code 6 none : Cond) ∈ xw := xw_t (x_t6 (List.mem_of_getElem? (i := 112) rfl)) rfl
theorem kw_6_113 : (.methodLink "ValueBenchModel" 253 yM_members : Cond) ∈ xw := xw_t (x_t6 (List.mem_of_getElem? (i := 113) rfl)) rfl
theorem kw_6_115 : (.instanceMethod yM_members : Cond) ∈ xw := xw_t (x_t6 (List.mem_of_getElem? (i := 115) rfl)) rfl
theorem kw_6_116 : (.code yM_members prog_13_method_40_code 6 (some (.object "ValueBenchModel$V")) : Cond) ∈ xw := xw_t (x_t6 (List.mem_of_getElem? (i := 116) rfl)) rfl
theorem kw_6_117 : (.methodLink "ValueBenchModel" 163 yM_sameText : Cond) ∈ xw := xw_t (x_t6 (List.mem_of_getElem? (i := 117) rfl)) rfl
theorem kw_6_119 : (.instanceMethod yM_sameText : Cond) ∈ xw := xw_t (x_t6 (List.mem_of_getElem? (i := 119) rfl)) rfl
theorem kw_6_120 : (.code yM_sameText prog_13_method_19_code 4 (some .boolean) : Cond) ∈ xw := xw_t (x_t6 (List.mem_of_getElem? (i := 120) rfl)) rfl
theorem kw_6_121 : (.methodLink "ValueBenchModel" 430 yM_store : Cond) ∈ xw := xw_t (x_t6 (List.mem_of_getElem? (i := 121) rfl)) rfl
theorem kw_6_123 : (.instanceMethod yM_store : Cond) ∈ xw := xw_t (x_t6 (List.mem_of_getElem? (i := 123) rfl)) rfl
theorem kw_6_124 : (.code yM_store prog_13_method_80_code 4 (some .int) : Cond) ∈ xw := xw_t (x_t6 (List.mem_of_getElem? (i := 124) rfl)) rfl
theorem kw_6_125 : (.methodLink "ValueBenchModel" 299 yM_print1 : Cond) ∈ xw := xw_t (x_t6 (List.mem_of_getElem? (i := 125) rfl)) rfl
theorem kw_6_127 : (.instanceMethod yM_print1 : Cond) ∈ xw := xw_t (x_t6 (List.mem_of_getElem? (i := 127) rfl)) rfl
theorem kw_6_128 : (.code yM_print1 prog_13_method_46_code 3 none : Cond) ∈ xw := xw_t (x_t6 (List.mem_of_getElem? (i := 128) rfl)) rfl
theorem kw_6_129 : (.methodLink "ValueBenchModel" 286 yM_put1 : Cond) ∈ xw := xw_t (x_t6 (List.mem_of_getElem? (i := 129) rfl)) rfl
theorem kw_6_13 : (.methodLink "ValueBenchModel" 120 yM_fresh : Cond) ∈ xw := xw_t (x_t6 (List.mem_of_getElem? (i := 13) rfl)) rfl
theorem kw_6_131 : (.instanceMethod yM_put1 : Cond) ∈ xw := xw_t (x_t6 (List.mem_of_getElem? (i := 131) rfl)) rfl
theorem kw_6_132 : (.code yM_put1 prog_13_method_42_code 3 none : Cond) ∈ xw := xw_t (x_t6 (List.mem_of_getElem? (i := 132) rfl)) rfl
theorem kw_6_133 : (.methodLink "ValueBenchModel" 279 yM_put0 : Cond) ∈ xw := xw_t (x_t6 (List.mem_of_getElem? (i := 133) rfl)) rfl
theorem kw_6_135 : (.instanceMethod yM_put0 : Cond) ∈ xw := xw_t (x_t6 (List.mem_of_getElem? (i := 135) rfl)) rfl
theorem kw_6_136 : (.code yM_put0 prog_13_method_41_code 4 none : Cond) ∈ xw := xw_t (x_t6 (List.mem_of_getElem? (i := 136) rfl)) rfl
theorem kw_6_137 : (.methodLink "ValueBenchModel" 292 yM_putNumber : Cond) ∈ xw := xw_t (x_t6 (List.mem_of_getElem? (i := 137) rfl)) rfl
theorem kw_6_139 : (.instanceMethod yM_putNumber : Cond) ∈ xw := xw_t (x_t6 (List.mem_of_getElem? (i := 139) rfl)) rfl
theorem kw_6_140 : (.code yM_putNumber prog_13_method_43_code 7 none : Cond) ∈ xw := xw_t (x_t6 (List.mem_of_getElem? (i := 140) rfl)) rfl
theorem kw_6_141 : (.constantLong "ValueBenchModel" 282 9 : Cond) ∈ xw := xw_t (x_t6 (List.mem_of_getElem? (i := 141) rfl)) rfl
theorem kw_6_142 : (.methodLink "ValueBenchModel" 296 yM_putString : Cond) ∈ xw := xw_t (x_t6 (List.mem_of_getElem? (i := 142) rfl)) rfl
theorem kw_6_144 : (.instanceMethod yM_putString : Cond) ∈ xw := xw_t (x_t6 (List.mem_of_getElem? (i := 144) rfl)) rfl
theorem kw_6_145 : (.code yM_putString prog_13_method_45_code 4 none : Cond) ∈ xw := xw_t (x_t6 (List.mem_of_getElem? (i := 145) rfl)) rfl
theorem kw_6_147 : (.methodLink "ValueBenchModel" 289 yM_putHex : Cond) ∈ xw := xw_t (x_t6 (List.mem_of_getElem? (i := 147) rfl)) rfl
theorem kw_6_149 : (.instanceMethod yM_putHex : Cond) ∈ xw := xw_t (x_t6 (List.mem_of_getElem? (i := 149) rfl)) rfl
theorem kw_6_15 : (.instanceMethod yM_fresh : Cond) ∈ xw := xw_t (x_t6 (List.mem_of_getElem? (i := 15) rfl)) rfl
theorem kw_6_150 : (.code yM_putHex prog_13_method_44_code 2 none : Cond) ∈ xw := xw_t (x_t6 (List.mem_of_getElem? (i := 150) rfl)) rfl
theorem kw_6_151 : (.methodLink "ValueBenchModel" 159 yM_name : Cond) ∈ xw := xw_t (x_t6 (List.mem_of_getElem? (i := 151) rfl)) rfl
theorem kw_6_153 : (.instanceMethod yM_name : Cond) ∈ xw := xw_t (x_t6 (List.mem_of_getElem? (i := 153) rfl)) rfl
theorem kw_6_154 : (.code yM_name prog_13_method_17_code 3 (some (.object "ValueBenchModel$V")) : Cond) ∈ xw := xw_t (x_t6 (List.mem_of_getElem? (i := 154) rfl)) rfl
theorem kw_6_155 : (.methodLink "ValueBenchModel" 170 yM_kid : Cond) ∈ xw := xw_t (x_t6 (List.mem_of_getElem? (i := 155) rfl)) rfl
theorem kw_6_157 : (.instanceMethod yM_kid : Cond) ∈ xw := xw_t (x_t6 (List.mem_of_getElem? (i := 157) rfl)) rfl
theorem kw_6_158 : (.code yM_kid prog_13_method_16_code 3 (some (.object "ValueBenchModel$V")) : Cond) ∈ xw := xw_t (x_t6 (List.mem_of_getElem? (i := 158) rfl)) rfl
theorem kw_6_16 : (.code yM_fresh prog_13_method_6_code 4 (some (.object "ValueBenchModel$V")) : Cond) ∈ xw := xw_t (x_t6 (List.mem_of_getElem? (i := 16) rfl)) rfl
theorem kw_6_162 : (.code yM_print0 prog_13_method_85_code 3 (some .int) : Cond) ∈ xw := xw_t (x_t6 (List.mem_of_getElem? (i := 162) rfl)) rfl
theorem kw_6_166 : (.code yM_same0 prog_13_method_86_code 3 (some .boolean) : Cond) ∈ xw := xw_t (x_t6 (List.mem_of_getElem? (i := 166) rfl)) rfl
theorem kw_6_167 : (.methodLink "ValueBenchModel" 437 yM_register : Cond) ∈ xw := xw_t (x_t6 (List.mem_of_getElem? (i := 167) rfl)) rfl
theorem kw_6_169 : (.instanceMethod yM_register : Cond) ∈ xw := xw_t (x_t6 (List.mem_of_getElem? (i := 169) rfl)) rfl
theorem kw_6_17 : (.instantiable "ValueBenchModel$V" 6 : Cond) ∈ xw := xw_t (x_t6 (List.mem_of_getElem? (i := 17) rfl)) rfl
theorem kw_6_170 : (.code yM_register prog_13_method_79_code 2 (some (.object "ValueBenchModel$V")) : Cond) ∈ xw := xw_t (x_t6 (List.mem_of_getElem? (i := 170) rfl)) rfl
theorem kw_6_171 : (.methodLink "ValueBenchModel" 173 yM_same1 : Cond) ∈ xw := xw_t (x_t6 (List.mem_of_getElem? (i := 171) rfl)) rfl
theorem kw_6_173 : (.instanceMethod yM_same1 : Cond) ∈ xw := xw_t (x_t6 (List.mem_of_getElem? (i := 173) rfl)) rfl
theorem kw_6_174 : (.code yM_same1 prog_13_method_21_code 5 (some .boolean) : Cond) ∈ xw := xw_t (x_t6 (List.mem_of_getElem? (i := 174) rfl)) rfl
theorem kw_6_175 : (.methodLink "ValueBenchModel" 167 yM_place : Cond) ∈ xw := xw_t (x_t6 (List.mem_of_getElem? (i := 175) rfl)) rfl
theorem kw_6_177 : (.instanceMethod yM_place : Cond) ∈ xw := xw_t (x_t6 (List.mem_of_getElem? (i := 177) rfl)) rfl
theorem kw_6_178 : (.code yM_place prog_13_method_20_code 4 (some .int) : Cond) ∈ xw := xw_t (x_t6 (List.mem_of_getElem? (i := 178) rfl)) rfl
theorem kw_6_182 : (.code yM_word prog_13_method_87_code 5 (some .long) : Cond) ∈ xw := xw_t (x_t6 (List.mem_of_getElem? (i := 182) rfl)) rfl
theorem kw_6_183 : (.constantLong "ValueBenchModel" 440 256 : Cond) ∈ xw := xw_t (x_t6 (List.mem_of_getElem? (i := 183) rfl)) rfl
theorem kw_6_187 : (.code yM_count prog_13_method_88_code 2 (some .int) : Cond) ∈ xw := xw_t (x_t6 (List.mem_of_getElem? (i := 187) rfl)) rfl
theorem kw_6_19 : (.instanceMethod yV_init : Cond) ∈ xw := xw_t (x_t6 (List.mem_of_getElem? (i := 19) rfl)) rfl
theorem kw_6_191 : (.code yM_binary0 prog_13_method_89_code 5 none : Cond) ∈ xw := xw_t (x_t6 (List.mem_of_getElem? (i := 191) rfl)) rfl
theorem kw_6_192 : (.methodLink "ValueBenchModel" 442 yM_finish : Cond) ∈ xw := xw_t (x_t6 (List.mem_of_getElem? (i := 192) rfl)) rfl
theorem kw_6_194 : (.instanceMethod yM_finish : Cond) ∈ xw := xw_t (x_t6 (List.mem_of_getElem? (i := 194) rfl)) rfl
theorem kw_6_195 : (.codeWith yM_finish prog_13_method_90_code 10 none [(0, 128, 131, 83), (0, 128, 149, 86)] : Cond) ∈ xw := xw_t (x_t6 (List.mem_of_getElem? (i := 195) rfl)) rfl
theorem kw_6_196 : (.methodLink "ValueBenchModel" 446 yM_binary1 : Cond) ∈ xw := xw_t (x_t6 (List.mem_of_getElem? (i := 196) rfl)) rfl
theorem kw_6_198 : (.instanceMethod yM_binary1 : Cond) ∈ xw := xw_t (x_t6 (List.mem_of_getElem? (i := 198) rfl)) rfl
theorem kw_6_199 : (.code yM_binary1 prog_13_method_48_code 4 (some (.object "ValueBenchModel$V")) : Cond) ∈ xw := xw_t (x_t6 (List.mem_of_getElem? (i := 199) rfl)) rfl
theorem kw_6_2 : (.code yM_bad prog_13_method_28_code 2 none : Cond) ∈ xw := xw_t (x_t6 (List.mem_of_getElem? (i := 2) rfl)) rfl
theorem kw_6_20 : (.code yV_init prog_14_method_1_code 1 none : Cond) ∈ xw := xw_t (x_t6 (List.mem_of_getElem? (i := 20) rfl)) rfl
theorem kw_6_200 : (.methodLink "ValueBenchModel" 302 yM_added : Cond) ∈ xw := xw_t (x_t6 (List.mem_of_getElem? (i := 200) rfl)) rfl
theorem kw_6_202 : (.instanceMethod yM_added : Cond) ∈ xw := xw_t (x_t6 (List.mem_of_getElem? (i := 202) rfl)) rfl
theorem kw_6_203 : (.code yM_added prog_13_method_49_code 6 (some (.object "ValueBenchModel$V")) : Cond) ∈ xw := xw_t (x_t6 (List.mem_of_getElem? (i := 203) rfl)) rfl
theorem kw_6_204 : (.methodLink "ValueBenchModel" 314 yM_letters : Cond) ∈ xw := xw_t (x_t6 (List.mem_of_getElem? (i := 204) rfl)) rfl
theorem kw_6_206 : (.instanceMethod yM_letters : Cond) ∈ xw := xw_t (x_t6 (List.mem_of_getElem? (i := 206) rfl)) rfl
theorem kw_6_207 : (.code yM_letters prog_13_method_12_code 3 none : Cond) ∈ xw := xw_t (x_t6 (List.mem_of_getElem? (i := 207) rfl)) rfl
theorem kw_6_208 : (.methodLink "ValueBenchModel" 305 yM_without : Cond) ∈ xw := xw_t (x_t6 (List.mem_of_getElem? (i := 208) rfl)) rfl
theorem kw_6_21 : (.methodLink "ValueBenchModel$V" 1 objectInit : Cond) ∈ xw := xw_t (x_t6 (List.mem_of_getElem? (i := 21) rfl)) rfl
theorem kw_6_210 : (.instanceMethod yM_without : Cond) ∈ xw := xw_t (x_t6 (List.mem_of_getElem? (i := 210) rfl)) rfl
theorem kw_6_211 : (.code yM_without prog_13_method_50_code 7 (some (.object "ValueBenchModel$V")) : Cond) ∈ xw := xw_t (x_t6 (List.mem_of_getElem? (i := 211) rfl)) rfl
theorem kw_6_212 : (.methodLink "ValueBenchModel" 308 yM_times : Cond) ∈ xw := xw_t (x_t6 (List.mem_of_getElem? (i := 212) rfl)) rfl
theorem kw_6_214 : (.instanceMethod yM_times : Cond) ∈ xw := xw_t (x_t6 (List.mem_of_getElem? (i := 214) rfl)) rfl
theorem kw_6_215 : (.code yM_times prog_13_method_51_code 7 (some (.object "ValueBenchModel$V")) : Cond) ∈ xw := xw_t (x_t6 (List.mem_of_getElem? (i := 215) rfl)) rfl
theorem kw_6_216 : (.methodLink "ValueBenchModel" 317 Lib.MathLoose.abs_long.x : Cond) ∈ xw := xw_t (x_t6 (List.mem_of_getElem? (i := 216) rfl)) rfl
theorem kw_6_217 : (.methodLink "ValueBenchModel" 321 yM_merged : Cond) ∈ xw := xw_t (x_t6 (List.mem_of_getElem? (i := 217) rfl)) rfl
theorem kw_6_219 : (.instanceMethod yM_merged : Cond) ∈ xw := xw_t (x_t6 (List.mem_of_getElem? (i := 219) rfl)) rfl
theorem kw_6_220 : (.code yM_merged prog_13_method_52_code 8 (some (.object "ValueBenchModel$V")) : Cond) ∈ xw := xw_t (x_t6 (List.mem_of_getElem? (i := 220) rfl)) rfl
theorem kw_6_221 : (.constantLong "ValueBenchModel" 324 600000 : Cond) ∈ xw := xw_t (x_t6 (List.mem_of_getElem? (i := 221) rfl)) rfl
theorem kw_6_222 : (.methodLink "ValueBenchModel" 311 yM_split : Cond) ∈ xw := xw_t (x_t6 (List.mem_of_getElem? (i := 222) rfl)) rfl
theorem kw_6_224 : (.instanceMethod yM_split : Cond) ∈ xw := xw_t (x_t6 (List.mem_of_getElem? (i := 224) rfl)) rfl
theorem kw_6_225 : (.code yM_split prog_13_method_53_code 8 (some (.object "ValueBenchModel$V")) : Cond) ∈ xw := xw_t (x_t6 (List.mem_of_getElem? (i := 225) rfl)) rfl
theorem kw_6_226 : (.methodLink "ValueBenchModel" 326 yM_part : Cond) ∈ xw := xw_t (x_t6 (List.mem_of_getElem? (i := 226) rfl)) rfl
theorem kw_6_228 : (.instanceMethod yM_part : Cond) ∈ xw := xw_t (x_t6 (List.mem_of_getElem? (i := 228) rfl)) rfl
theorem kw_6_229 : (.code yM_part prog_13_method_54_code 4 (some (.object "ValueBenchModel$V")) : Cond) ∈ xw := xw_t (x_t6 (List.mem_of_getElem? (i := 229) rfl)) rfl
theorem kw_6_230 : (.methodLink "ValueBenchModel" 330 yM_piece : Cond) ∈ xw := xw_t (x_t6 (List.mem_of_getElem? (i := 230) rfl)) rfl
theorem kw_6_232 : (.instanceMethod yM_piece : Cond) ∈ xw := xw_t (x_t6 (List.mem_of_getElem? (i := 232) rfl)) rfl
theorem kw_6_233 : (.code yM_piece prog_13_method_13_code 5 (some (.object "ValueBenchModel$V")) : Cond) ∈ xw := xw_t (x_t6 (List.mem_of_getElem? (i := 233) rfl)) rfl
theorem kw_6_234 : (.methodLink "ValueBenchModel" 450 yM_one1 : Cond) ∈ xw := xw_t (x_t6 (List.mem_of_getElem? (i := 234) rfl)) rfl
theorem kw_6_236 : (.instanceMethod yM_one1 : Cond) ∈ xw := xw_t (x_t6 (List.mem_of_getElem? (i := 236) rfl)) rfl
theorem kw_6_237 : (.code yM_one1 prog_13_method_66_code 3 (some (.object "ValueBenchModel$V")) : Cond) ∈ xw := xw_t (x_t6 (List.mem_of_getElem? (i := 237) rfl)) rfl
theorem kw_6_238 : (.methodLink "ValueBenchModel" 350 yM_isTrue : Cond) ∈ xw := xw_t (x_t6 (List.mem_of_getElem? (i := 238) rfl)) rfl
theorem kw_6_43 : (.methodLink "ValueBenchModel" 240 yM_jsonString : Cond) ∈ xw := xw_t (x_t6 (List.mem_of_getElem? (i := 43) rfl)) rfl
theorem kw_6_45 : (.instanceMethod yM_jsonString : Cond) ∈ xw := xw_t (x_t6 (List.mem_of_getElem? (i := 45) rfl)) rfl
theorem kw_6_46 : (.code yM_jsonString prog_13_method_38_code 3 (some (.object "ValueBenchModel$V")) : Cond) ∈ xw := xw_t (x_t6 (List.mem_of_getElem? (i := 46) rfl)) rfl
theorem kw_6_47 : (.methodLink "ValueBenchModel" 273 yM_escaped : Cond) ∈ xw := xw_t (x_t6 (List.mem_of_getElem? (i := 47) rfl)) rfl
theorem kw_6_49 : (.instanceMethod yM_escaped : Cond) ∈ xw := xw_t (x_t6 (List.mem_of_getElem? (i := 49) rfl)) rfl
theorem kw_6_50 : (.code yM_escaped prog_13_method_37_code 5 none : Cond) ∈ xw := xw_t (x_t6 (List.mem_of_getElem? (i := 50) rfl)) rfl
theorem kw_6_51 : (.methodLink "ValueBenchModel" 135 yM_letter : Cond) ∈ xw := xw_t (x_t6 (List.mem_of_getElem? (i := 51) rfl)) rfl
theorem kw_6_53 : (.instanceMethod yM_letter : Cond) ∈ xw := xw_t (x_t6 (List.mem_of_getElem? (i := 53) rfl)) rfl
theorem kw_6_54 : (.code yM_letter prog_13_method_9_code 4 none : Cond) ∈ xw := xw_t (x_t6 (List.mem_of_getElem? (i := 54) rfl)) rfl
theorem kw_6_55 : (.methodLink "ValueBenchModel" 269 yM_hex : Cond) ∈ xw := xw_t (x_t6 (List.mem_of_getElem? (i := 55) rfl)) rfl
theorem kw_6_56 : (.static yM_hex : Cond) ∈ xw := xw_t (x_t6 (List.mem_of_getElem? (i := 56) rfl)) rfl
theorem kw_6_57 : (.code yM_hex prog_13_method_36_code 1 (some .int) : Cond) ∈ xw := xw_t (x_t6 (List.mem_of_getElem? (i := 57) rfl)) rfl
theorem kw_6_58 : (.methodLink "ValueBenchModel" 139 yM_string : Cond) ∈ xw := xw_t (x_t6 (List.mem_of_getElem? (i := 58) rfl)) rfl
theorem kw_6_60 : (.instanceMethod yM_string : Cond) ∈ xw := xw_t (x_t6 (List.mem_of_getElem? (i := 60) rfl)) rfl
theorem kw_6_61 : (.code yM_string prog_13_method_10_code 3 (some (.object "ValueBenchModel$V")) : Cond) ∈ xw := xw_t (x_t6 (List.mem_of_getElem? (i := 61) rfl)) rfl
theorem kw_6_62 : (.constant "ValueBenchModel" 126 60000 : Cond) ∈ xw := xw_t (x_t6 (List.mem_of_getElem? (i := 62) rfl)) rfl
theorem kw_6_63 : (.methodLink "ValueBenchModel" 127 yM_limit : Cond) ∈ xw := xw_t (x_t6 (List.mem_of_getElem? (i := 63) rfl)) rfl
theorem kw_6_65 : (.instanceMethod yM_limit : Cond) ∈ xw := xw_t (x_t6 (List.mem_of_getElem? (i := 65) rfl)) rfl
theorem kw_6_66 : (.code yM_limit prog_13_method_5_code 1 (some (.object "ValueBenchModel$V")) : Cond) ∈ xw := xw_t (x_t6 (List.mem_of_getElem? (i := 66) rfl)) rfl
theorem kw_6_71 : (.methodLink "ValueBenchModel" 243 yM_digit : Cond) ∈ xw := xw_t (x_t6 (List.mem_of_getElem? (i := 71) rfl)) rfl
theorem kw_6_72 : (.static yM_digit : Cond) ∈ xw := xw_t (x_t6 (List.mem_of_getElem? (i := 72) rfl)) rfl
theorem kw_6_73 : (.code yM_digit prog_13_method_30_code 1 (some .boolean) : Cond) ∈ xw := xw_t (x_t6 (List.mem_of_getElem? (i := 73) rfl)) rfl
theorem kw_6_74 : (.methodLink "ValueBenchModel" 247 yM_jsonNumber : Cond) ∈ xw := xw_t (x_t6 (List.mem_of_getElem? (i := 74) rfl)) rfl
theorem kw_6_76 : (.instanceMethod yM_jsonNumber : Cond) ∈ xw := xw_t (x_t6 (List.mem_of_getElem? (i := 76) rfl)) rfl
theorem kw_6_77 : (.code yM_jsonNumber prog_13_method_35_code 5 (some (.object "ValueBenchModel$V")) : Cond) ∈ xw := xw_t (x_t6 (List.mem_of_getElem? (i := 77) rfl)) rfl
theorem kw_6_78 : (.constantLong "ValueBenchModel" 256 10 : Cond) ∈ xw := xw_t (x_t6 (List.mem_of_getElem? (i := 78) rfl)) rfl
theorem kw_6_79 : (.constantLong "ValueBenchModel" 258 48 : Cond) ∈ xw := xw_t (x_t6 (List.mem_of_getElem? (i := 79) rfl)) rfl
theorem kw_6_80 : (.constantLong "ValueBenchModel" 260 100000000000000000 : Cond) ∈ xw := xw_t (x_t6 (List.mem_of_getElem? (i := 80) rfl)) rfl
theorem kw_6_81 : (.methodLink "ValueBenchModel" 262 Lib.MathLoose.min_long.x : Cond) ∈ xw := xw_t (x_t6 (List.mem_of_getElem? (i := 81) rfl)) rfl
theorem kw_6_82 : (.static Lib.MathLoose.min_long.x : Cond) ∈ xw := xw_t (x_t6 (List.mem_of_getElem? (i := 82) rfl)) rfl
theorem kw_6_83 : (.code Lib.MathLoose.min_long.x Lib.MathLoose.min_long.code 4 (some .long) : Cond) ∈ xw := xw_t (x_t6 (List.mem_of_getElem? (i := 83) rfl)) rfl
theorem kw_6_84 : (.constantLong "ValueBenchModel" 112 9007199254740991 : Cond) ∈ xw := xw_t (x_t6 (List.mem_of_getElem? (i := 84) rfl)) rfl
theorem kw_6_85 : (.methodLink "ValueBenchModel" 265 yM_number : Cond) ∈ xw := xw_t (x_t6 (List.mem_of_getElem? (i := 85) rfl)) rfl
theorem kw_6_87 : (.instanceMethod yM_number : Cond) ∈ xw := xw_t (x_t6 (List.mem_of_getElem? (i := 87) rfl)) rfl
theorem kw_6_88 : (.code yM_number prog_13_method_7_code 4 (some (.object "ValueBenchModel$V")) : Cond) ∈ xw := xw_t (x_t6 (List.mem_of_getElem? (i := 88) rfl)) rfl
theorem kw_6_89 : (.constantLong "ValueBenchModel" 114 (-9007199254740991) : Cond) ∈ xw := xw_t (x_t6 (List.mem_of_getElem? (i := 89) rfl)) rfl
theorem kw_6_90 : (.methodLink "ValueBenchModel" 116 yM_refuse : Cond) ∈ xw := xw_t (x_t6 (List.mem_of_getElem? (i := 90) rfl)) rfl
theorem kw_6_92 : (.instanceMethod yM_refuse : Cond) ∈ xw := xw_t (x_t6 (List.mem_of_getElem? (i := 92) rfl)) rfl
theorem kw_6_93 : (.code yM_refuse prog_13_method_4_code 2 (some (.object "ValueBenchModel$V")) : Cond) ∈ xw := xw_t (x_t6 (List.mem_of_getElem? (i := 93) rfl)) rfl
theorem kw_6_94 : (.classLink "ValueBenchModel" 83 "java/lang/ArithmeticException" : Cond) ∈ xw := xw_t (x_t6 (List.mem_of_getElem? (i := 94) rfl)) rfl
theorem kw_6_99 : (.methodLink "ValueBenchModel" 250 yM_elements : Cond) ∈ xw := xw_t (x_t6 (List.mem_of_getElem? (i := 99) rfl)) rfl
theorem kw_7_0 : (.instanceMethod yM_isTrue : Cond) ∈ xw := xw_t (x_t7 (List.mem_of_getElem? (i := 0) rfl)) rfl
theorem kw_7_1 : (.code yM_isTrue prog_13_method_65_code 2 (some .boolean) : Cond) ∈ xw := xw_t (x_t7 (List.mem_of_getElem? (i := 1) rfl)) rfl
theorem kw_7_10 : (.methodLink "ValueBenchModel" 360 yM_keysOf : Cond) ∈ xw := xw_t (x_t7 (List.mem_of_getElem? (i := 10) rfl)) rfl
theorem kw_7_100 : (.methodLink "ValueBenchModel" 398 yM_indices : Cond) ∈ xw := xw_t (x_t7 (List.mem_of_getElem? (i := 100) rfl)) rfl
theorem kw_7_102 : (.instanceMethod yM_indices : Cond) ∈ xw := xw_t (x_t7 (List.mem_of_getElem? (i := 102) rfl)) rfl
theorem kw_7_103 : (.code yM_indices prog_13_method_72_code 9 (some (.object "ValueBenchModel$V")) : Cond) ∈ xw := xw_t (x_t7 (List.mem_of_getElem? (i := 103) rfl)) rfl
theorem kw_7_104 : (.methodLink "ValueBenchModel" 407 yM_flatten : Cond) ∈ xw := xw_t (x_t7 (List.mem_of_getElem? (i := 104) rfl)) rfl
theorem kw_7_106 : (.instanceMethod yM_flatten : Cond) ∈ xw := xw_t (x_t7 (List.mem_of_getElem? (i := 106) rfl)) rfl
theorem kw_7_107 : (.code yM_flatten prog_13_method_74_code 4 (some (.object "ValueBenchModel$V")) : Cond) ∈ xw := xw_t (x_t7 (List.mem_of_getElem? (i := 107) rfl)) rfl
theorem kw_7_108 : (.methodLink "ValueBenchModel" 394 yM_flat : Cond) ∈ xw := xw_t (x_t7 (List.mem_of_getElem? (i := 108) rfl)) rfl
theorem kw_7_110 : (.instanceMethod yM_flat : Cond) ∈ xw := xw_t (x_t7 (List.mem_of_getElem? (i := 110) rfl)) rfl
theorem kw_7_111 : (.code yM_flat prog_13_method_73_code 6 none : Cond) ∈ xw := xw_t (x_t7 (List.mem_of_getElem? (i := 111) rfl)) rfl
theorem kw_7_112 : (.methodLink "ValueBenchModel" 410 yM_at : Cond) ∈ xw := xw_t (x_t7 (List.mem_of_getElem? (i := 112) rfl)) rfl
theorem kw_7_114 : (.instanceMethod yM_at : Cond) ∈ xw := xw_t (x_t7 (List.mem_of_getElem? (i := 114) rfl)) rfl
theorem kw_7_115 : (.code yM_at prog_13_method_75_code 5 (some (.object "ValueBenchModel$V")) : Cond) ∈ xw := xw_t (x_t7 (List.mem_of_getElem? (i := 115) rfl)) rfl
theorem kw_7_119 : (.code yM_compare prog_13_method_91_code 4 (some .int) : Cond) ∈ xw := xw_t (x_t7 (List.mem_of_getElem? (i := 119) rfl)) rfl
theorem kw_7_12 : (.instanceMethod yM_keysOf : Cond) ∈ xw := xw_t (x_t7 (List.mem_of_getElem? (i := 12) rfl)) rfl
theorem kw_7_123 : (.code yM_one0 prog_13_method_92_code 4 none : Cond) ∈ xw := xw_t (x_t7 (List.mem_of_getElem? (i := 123) rfl)) rfl
theorem kw_7_127 : (.code yM_two0 prog_13_method_93_code 5 none : Cond) ∈ xw := xw_t (x_t7 (List.mem_of_getElem? (i := 127) rfl)) rfl
theorem kw_7_13 : (.code yM_keysOf prog_13_method_58_code 5 (some (.object "ValueBenchModel$V")) : Cond) ∈ xw := xw_t (x_t7 (List.mem_of_getElem? (i := 13) rfl)) rfl
theorem kw_7_131 : (.code yM_sort0 prog_13_method_94_code 5 none : Cond) ∈ xw := xw_t (x_t7 (List.mem_of_getElem? (i := 131) rfl)) rfl
theorem kw_7_14 : (.methodLink "ValueBenchModel" 333 yM_keys : Cond) ∈ xw := xw_t (x_t7 (List.mem_of_getElem? (i := 14) rfl)) rfl
theorem kw_7_16 : (.instanceMethod yM_keys : Cond) ∈ xw := xw_t (x_t7 (List.mem_of_getElem? (i := 16) rfl)) rfl
theorem kw_7_17 : (.code yM_keys prog_13_method_25_code 5 (some (.object "ValueBenchModel$V")) : Cond) ∈ xw := xw_t (x_t7 (List.mem_of_getElem? (i := 17) rfl)) rfl
theorem kw_7_18 : (.methodLink "ValueBenchModel" 194 yM_sort1 : Cond) ∈ xw := xw_t (x_t7 (List.mem_of_getElem? (i := 18) rfl)) rfl
theorem kw_7_2 : (.methodLink "ValueBenchModel" 354 yM_truth : Cond) ∈ xw := xw_t (x_t7 (List.mem_of_getElem? (i := 2) rfl)) rfl
theorem kw_7_20 : (.instanceMethod yM_sort1 : Cond) ∈ xw := xw_t (x_t7 (List.mem_of_getElem? (i := 20) rfl)) rfl
theorem kw_7_21 : (.code yM_sort1 prog_13_method_27_code 10 (some (.object "ValueBenchModel$V")) : Cond) ∈ xw := xw_t (x_t7 (List.mem_of_getElem? (i := 21) rfl)) rfl
theorem kw_7_22 : (.methodLink "ValueBenchModel" 176 yM_order : Cond) ∈ xw := xw_t (x_t7 (List.mem_of_getElem? (i := 22) rfl)) rfl
theorem kw_7_24 : (.instanceMethod yM_order : Cond) ∈ xw := xw_t (x_t7 (List.mem_of_getElem? (i := 24) rfl)) rfl
theorem kw_7_25 : (.code yM_order prog_13_method_22_code 5 (some .int) : Cond) ∈ xw := xw_t (x_t7 (List.mem_of_getElem? (i := 25) rfl)) rfl
theorem kw_7_26 : (.methodLink "ValueBenchModel" 179 yM_objects : Cond) ∈ xw := xw_t (x_t7 (List.mem_of_getElem? (i := 26) rfl)) rfl
theorem kw_7_28 : (.instanceMethod yM_objects : Cond) ∈ xw := xw_t (x_t7 (List.mem_of_getElem? (i := 28) rfl)) rfl
theorem kw_7_29 : (.code yM_objects prog_13_method_24_code 7 (some .int) : Cond) ∈ xw := xw_t (x_t7 (List.mem_of_getElem? (i := 29) rfl)) rfl
theorem kw_7_30 : (.methodLink "ValueBenchModel" 182 yM_following : Cond) ∈ xw := xw_t (x_t7 (List.mem_of_getElem? (i := 30) rfl)) rfl
theorem kw_7_32 : (.instanceMethod yM_following : Cond) ∈ xw := xw_t (x_t7 (List.mem_of_getElem? (i := 32) rfl)) rfl
theorem kw_7_33 : (.code yM_following prog_13_method_23_code 6 (some (.object "ValueBenchModel$V")) : Cond) ∈ xw := xw_t (x_t7 (List.mem_of_getElem? (i := 33) rfl)) rfl
theorem kw_7_34 : (.methodLink "ValueBenchModel" 201 yM_ranked : Cond) ∈ xw := xw_t (x_t7 (List.mem_of_getElem? (i := 34) rfl)) rfl
theorem kw_7_36 : (.instanceMethod yM_ranked : Cond) ∈ xw := xw_t (x_t7 (List.mem_of_getElem? (i := 36) rfl)) rfl
theorem kw_7_37 : (.code yM_ranked prog_13_method_26_code 11 none : Cond) ∈ xw := xw_t (x_t7 (List.mem_of_getElem? (i := 37) rfl)) rfl
theorem kw_7_38 : (.methodLink "ValueBenchModel" 198 Lib.Math.min.name : Cond) ∈ xw := xw_t (x_t7 (List.mem_of_getElem? (i := 38) rfl)) rfl
theorem kw_7_39 : (.methodLink "ValueBenchModel" 337 yM_array : Cond) ∈ xw := xw_t (x_t7 (List.mem_of_getElem? (i := 39) rfl)) rfl
theorem kw_7_4 : (.instanceMethod yM_truth : Cond) ∈ xw := xw_t (x_t7 (List.mem_of_getElem? (i := 4) rfl)) rfl
theorem kw_7_41 : (.instanceMethod yM_array : Cond) ∈ xw := xw_t (x_t7 (List.mem_of_getElem? (i := 41) rfl)) rfl
theorem kw_7_42 : (.code yM_array prog_13_method_55_code 2 (some (.object "ValueBenchModel$V")) : Cond) ∈ xw := xw_t (x_t7 (List.mem_of_getElem? (i := 42) rfl)) rfl
theorem kw_7_43 : (.methodLink "ValueBenchModel" 363 yM_told : Cond) ∈ xw := xw_t (x_t7 (List.mem_of_getElem? (i := 43) rfl)) rfl
theorem kw_7_45 : (.instanceMethod yM_told : Cond) ∈ xw := xw_t (x_t7 (List.mem_of_getElem? (i := 45) rfl)) rfl
theorem kw_7_46 : (.code yM_told prog_13_method_47_code 6 (some (.object "ValueBenchModel$V")) : Cond) ∈ xw := xw_t (x_t7 (List.mem_of_getElem? (i := 46) rfl)) rfl
theorem kw_7_47 : (.methodLink "ValueBenchModel" 366 yM_toNumber : Cond) ∈ xw := xw_t (x_t7 (List.mem_of_getElem? (i := 47) rfl)) rfl
theorem kw_7_49 : (.instanceMethod yM_toNumber : Cond) ∈ xw := xw_t (x_t7 (List.mem_of_getElem? (i := 49) rfl)) rfl
theorem kw_7_5 : (.code yM_truth prog_13_method_8_code 2 (some (.object "ValueBenchModel$V")) : Cond) ∈ xw := xw_t (x_t7 (List.mem_of_getElem? (i := 5) rfl)) rfl
theorem kw_7_50 : (.code yM_toNumber prog_13_method_59_code 7 (some (.object "ValueBenchModel$V")) : Cond) ∈ xw := xw_t (x_t7 (List.mem_of_getElem? (i := 50) rfl)) rfl
theorem kw_7_51 : (.methodLink "ValueBenchModel" 341 yM_text : Cond) ∈ xw := xw_t (x_t7 (List.mem_of_getElem? (i := 51) rfl)) rfl
theorem kw_7_53 : (.instanceMethod yM_text : Cond) ∈ xw := xw_t (x_t7 (List.mem_of_getElem? (i := 53) rfl)) rfl
theorem kw_7_54 : (.code yM_text prog_13_method_56_code 2 (some (.object "ValueBenchModel$V")) : Cond) ∈ xw := xw_t (x_t7 (List.mem_of_getElem? (i := 54) rfl)) rfl
theorem kw_7_55 : (.methodLink "ValueBenchModel" 369 yM_fromJson : Cond) ∈ xw := xw_t (x_t7 (List.mem_of_getElem? (i := 55) rfl)) rfl
theorem kw_7_57 : (.instanceMethod yM_fromJson : Cond) ∈ xw := xw_t (x_t7 (List.mem_of_getElem? (i := 57) rfl)) rfl
theorem kw_7_58 : (.codeWith yM_fromJson prog_13_method_60_code 10 (some (.object "ValueBenchModel$V")) [(49, 72, 75, 205)] : Cond) ∈ xw := xw_t (x_t7 (List.mem_of_getElem? (i := 58) rfl)) rfl
theorem kw_7_59 : (.methodLink "ValueBenchModel" 372 yM_reversed : Cond) ∈ xw := xw_t (x_t7 (List.mem_of_getElem? (i := 59) rfl)) rfl
theorem kw_7_6 : (.methodLink "ValueBenchModel" 358 yM_length : Cond) ∈ xw := xw_t (x_t7 (List.mem_of_getElem? (i := 6) rfl)) rfl
theorem kw_7_61 : (.instanceMethod yM_reversed : Cond) ∈ xw := xw_t (x_t7 (List.mem_of_getElem? (i := 61) rfl)) rfl
theorem kw_7_62 : (.code yM_reversed prog_13_method_61_code 4 (some (.object "ValueBenchModel$V")) : Cond) ∈ xw := xw_t (x_t7 (List.mem_of_getElem? (i := 62) rfl)) rfl
theorem kw_7_63 : (.methodLink "ValueBenchModel" 375 yM_explode : Cond) ∈ xw := xw_t (x_t7 (List.mem_of_getElem? (i := 63) rfl)) rfl
theorem kw_7_65 : (.instanceMethod yM_explode : Cond) ∈ xw := xw_t (x_t7 (List.mem_of_getElem? (i := 65) rfl)) rfl
theorem kw_7_66 : (.code yM_explode prog_13_method_62_code 4 (some (.object "ValueBenchModel$V")) : Cond) ∈ xw := xw_t (x_t7 (List.mem_of_getElem? (i := 66) rfl)) rfl
theorem kw_7_67 : (.methodLink "ValueBenchModel" 378 yM_implode : Cond) ∈ xw := xw_t (x_t7 (List.mem_of_getElem? (i := 67) rfl)) rfl
theorem kw_7_69 : (.instanceMethod yM_implode : Cond) ∈ xw := xw_t (x_t7 (List.mem_of_getElem? (i := 69) rfl)) rfl
theorem kw_7_70 : (.code yM_implode prog_13_method_63_code 4 (some (.object "ValueBenchModel$V")) : Cond) ∈ xw := xw_t (x_t7 (List.mem_of_getElem? (i := 70) rfl)) rfl
theorem kw_7_71 : (.constantLong "ValueBenchModel" 348 127 : Cond) ∈ xw := xw_t (x_t7 (List.mem_of_getElem? (i := 71) rfl)) rfl
theorem kw_7_72 : (.methodLink "ValueBenchModel" 381 yM_cased : Cond) ∈ xw := xw_t (x_t7 (List.mem_of_getElem? (i := 72) rfl)) rfl
theorem kw_7_74 : (.instanceMethod yM_cased : Cond) ∈ xw := xw_t (x_t7 (List.mem_of_getElem? (i := 74) rfl)) rfl
theorem kw_7_75 : (.code yM_cased prog_13_method_64_code 6 (some (.object "ValueBenchModel$V")) : Cond) ∈ xw := xw_t (x_t7 (List.mem_of_getElem? (i := 75) rfl)) rfl
theorem kw_7_76 : (.methodLink "ValueBenchModel" 454 yM_two1 : Cond) ∈ xw := xw_t (x_t7 (List.mem_of_getElem? (i := 76) rfl)) rfl
theorem kw_7_78 : (.instanceMethod yM_two1 : Cond) ∈ xw := xw_t (x_t7 (List.mem_of_getElem? (i := 78) rfl)) rfl
theorem kw_7_79 : (.code yM_two1 prog_13_method_76_code 4 (some (.object "ValueBenchModel$V")) : Cond) ∈ xw := xw_t (x_t7 (List.mem_of_getElem? (i := 79) rfl)) rfl
theorem kw_7_8 : (.instanceMethod yM_length : Cond) ∈ xw := xw_t (x_t7 (List.mem_of_getElem? (i := 8) rfl)) rfl
theorem kw_7_80 : (.methodLink "ValueBenchModel" 401 yM_has : Cond) ∈ xw := xw_t (x_t7 (List.mem_of_getElem? (i := 80) rfl)) rfl
theorem kw_7_82 : (.instanceMethod yM_has : Cond) ∈ xw := xw_t (x_t7 (List.mem_of_getElem? (i := 82) rfl)) rfl
theorem kw_7_83 : (.code yM_has prog_13_method_67_code 3 (some (.object "ValueBenchModel$V")) : Cond) ∈ xw := xw_t (x_t7 (List.mem_of_getElem? (i := 83) rfl)) rfl
theorem kw_7_84 : (.methodLink "ValueBenchModel" 384 yM_alike : Cond) ∈ xw := xw_t (x_t7 (List.mem_of_getElem? (i := 84) rfl)) rfl
theorem kw_7_86 : (.instanceMethod yM_alike : Cond) ∈ xw := xw_t (x_t7 (List.mem_of_getElem? (i := 86) rfl)) rfl
theorem kw_7_87 : (.code yM_alike prog_13_method_69_code 3 (some .boolean) : Cond) ∈ xw := xw_t (x_t7 (List.mem_of_getElem? (i := 87) rfl)) rfl
theorem kw_7_88 : (.methodLink "ValueBenchModel" 391 yM_contains : Cond) ∈ xw := xw_t (x_t7 (List.mem_of_getElem? (i := 88) rfl)) rfl
theorem kw_7_9 : (.code yM_length prog_13_method_57_code 2 (some (.object "ValueBenchModel$V")) : Cond) ∈ xw := xw_t (x_t7 (List.mem_of_getElem? (i := 9) rfl)) rfl
theorem kw_7_90 : (.instanceMethod yM_contains : Cond) ∈ xw := xw_t (x_t7 (List.mem_of_getElem? (i := 90) rfl)) rfl
theorem kw_7_91 : (.code yM_contains prog_13_method_70_code 6 (some .boolean) : Cond) ∈ xw := xw_t (x_t7 (List.mem_of_getElem? (i := 91) rfl)) rfl
theorem kw_7_92 : (.methodLink "ValueBenchModel" 387 yM_begins : Cond) ∈ xw := xw_t (x_t7 (List.mem_of_getElem? (i := 92) rfl)) rfl
theorem kw_7_94 : (.instanceMethod yM_begins : Cond) ∈ xw := xw_t (x_t7 (List.mem_of_getElem? (i := 94) rfl)) rfl
theorem kw_7_95 : (.code yM_begins prog_13_method_68_code 5 (some .boolean) : Cond) ∈ xw := xw_t (x_t7 (List.mem_of_getElem? (i := 95) rfl)) rfl
theorem kw_7_96 : (.methodLink "ValueBenchModel" 404 yM_joined : Cond) ∈ xw := xw_t (x_t7 (List.mem_of_getElem? (i := 96) rfl)) rfl
theorem kw_7_98 : (.instanceMethod yM_joined : Cond) ∈ xw := xw_t (x_t7 (List.mem_of_getElem? (i := 98) rfl)) rfl
theorem kw_7_99 : (.code yM_joined prog_13_method_71_code 8 (some (.object "ValueBenchModel$V")) : Cond) ∈ xw := xw_t (x_t7 (List.mem_of_getElem? (i := 99) rfl)) rfl
theorem kp_M_added : (.selects "ValueBenchModel" yM_added yM_added : Cond) ∈ xw := xw_p (List.mem_map.mpr ⟨(yM_added, 32), List.mem_append_right _ (List.mem_append_right _ (List.mem_append_right _ (List.mem_append_left _ (List.mem_of_getElem? (i := 13) rfl)))), rfl⟩) rfl
theorem kp_M_alike : (.selects "ValueBenchModel" yM_alike yM_alike : Cond) ∈ xw := xw_p (List.mem_map.mpr ⟨(yM_alike, 32), List.mem_append_right _ (List.mem_append_right _ (List.mem_append_right _ (List.mem_append_right _ (List.mem_append_right _ (List.mem_append_left _ (List.mem_of_getElem? (i := 11) rfl)))))), rfl⟩) rfl
theorem kp_M_array : (.selects "ValueBenchModel" yM_array yM_array : Cond) ∈ xw := xw_p (List.mem_map.mpr ⟨(yM_array, 32), List.mem_append_right _ (List.mem_append_right _ (List.mem_append_right _ (List.mem_append_right _ (List.mem_append_right _ (List.mem_append_left _ (List.mem_of_getElem? (i := 0) rfl)))))), rfl⟩) rfl
theorem kp_M_at : (.selects "ValueBenchModel" yM_at yM_at : Cond) ∈ xw := xw_p (List.mem_map.mpr ⟨(yM_at, 32), List.mem_append_right _ (List.mem_append_right _ (List.mem_append_right _ (List.mem_append_right _ (List.mem_append_right _ (List.mem_append_right _ (List.mem_of_getElem? (i := 2) rfl)))))), rfl⟩) rfl
theorem kp_M_bad : (.selects "ValueBenchModel" yM_bad yM_bad : Cond) ∈ xw := xw_p (List.mem_map.mpr ⟨(yM_bad, 32), List.mem_append_right _ (List.mem_append_right _ (List.mem_append_left _ (List.mem_of_getElem? (i := 0) rfl))), rfl⟩) rfl
theorem kp_M_begin : (.selects "ValueBenchModel" yM_begin yM_begin : Cond) ∈ xw := xw_p (List.mem_map.mpr ⟨(yM_begin, 32), List.mem_append_right _ (List.mem_append_left _ (List.mem_of_getElem? (i := 8) rfl)), rfl⟩) rfl
theorem kp_M_begins : (.selects "ValueBenchModel" yM_begins yM_begins : Cond) ∈ xw := xw_p (List.mem_map.mpr ⟨(yM_begins, 32), List.mem_append_right _ (List.mem_append_right _ (List.mem_append_right _ (List.mem_append_right _ (List.mem_append_right _ (List.mem_append_left _ (List.mem_of_getElem? (i := 13) rfl)))))), rfl⟩) rfl
theorem kp_M_binary1 : (.selects "ValueBenchModel" yM_binary1 yM_binary1 : Cond) ∈ xw := xw_p (List.mem_map.mpr ⟨(yM_binary1, 32), List.mem_append_right _ (List.mem_append_right _ (List.mem_append_right _ (List.mem_append_left _ (List.mem_of_getElem? (i := 12) rfl)))), rfl⟩) rfl
theorem kp_M_blanks : (.selects "ValueBenchModel" yM_blanks yM_blanks : Cond) ∈ xw := xw_p (List.mem_map.mpr ⟨(yM_blanks, 32), List.mem_append_right _ (List.mem_append_left _ (List.mem_of_getElem? (i := 13) rfl)), rfl⟩) rfl
theorem kp_M_cased : (.selects "ValueBenchModel" yM_cased yM_cased : Cond) ∈ xw := xw_p (List.mem_map.mpr ⟨(yM_cased, 32), List.mem_append_right _ (List.mem_append_right _ (List.mem_append_right _ (List.mem_append_right _ (List.mem_append_right _ (List.mem_append_left _ (List.mem_of_getElem? (i := 8) rfl)))))), rfl⟩) rfl
theorem kp_M_clear : (.selects "ValueBenchModel" yM_clear yM_clear : Cond) ∈ xw := xw_p (List.mem_map.mpr ⟨(yM_clear, 32), List.mem_append_right _ (List.mem_append_left _ (List.mem_of_getElem? (i := 9) rfl)), rfl⟩) rfl
theorem kp_M_contains : (.selects "ValueBenchModel" yM_contains yM_contains : Cond) ∈ xw := xw_p (List.mem_map.mpr ⟨(yM_contains, 32), List.mem_append_right _ (List.mem_append_right _ (List.mem_append_right _ (List.mem_append_right _ (List.mem_append_right _ (List.mem_append_left _ (List.mem_of_getElem? (i := 12) rfl)))))), rfl⟩) rfl
theorem kp_M_elements : (.selects "ValueBenchModel" yM_elements yM_elements : Cond) ∈ xw := xw_p (List.mem_map.mpr ⟨(yM_elements, 32), List.mem_append_right _ (List.mem_append_right _ (List.mem_append_left _ (List.mem_of_getElem? (i := 10) rfl))), rfl⟩) rfl
theorem kp_M_escaped : (.selects "ValueBenchModel" yM_escaped yM_escaped : Cond) ∈ xw := xw_p (List.mem_map.mpr ⟨(yM_escaped, 32), List.mem_append_right _ (List.mem_append_right _ (List.mem_append_left _ (List.mem_of_getElem? (i := 3) rfl))), rfl⟩) rfl
theorem kp_M_explode : (.selects "ValueBenchModel" yM_explode yM_explode : Cond) ∈ xw := xw_p (List.mem_map.mpr ⟨(yM_explode, 32), List.mem_append_right _ (List.mem_append_right _ (List.mem_append_right _ (List.mem_append_right _ (List.mem_append_right _ (List.mem_append_left _ (List.mem_of_getElem? (i := 6) rfl)))))), rfl⟩) rfl
theorem kp_M_fail : (.selects "ValueBenchModel" yM_fail yM_fail : Cond) ∈ xw := xw_p (List.mem_map.mpr ⟨(yM_fail, 32), List.mem_append_right _ (List.mem_append_left _ (List.mem_of_getElem? (i := 7) rfl)), rfl⟩) rfl
theorem kp_M_finish : (.selects "ValueBenchModel" yM_finish yM_finish : Cond) ∈ xw := xw_p (List.mem_map.mpr ⟨(yM_finish, 32), List.mem_append_right _ (List.mem_append_right _ (List.mem_append_right _ (List.mem_append_left _ (List.mem_of_getElem? (i := 11) rfl)))), rfl⟩) rfl
theorem kp_M_flat : (.selects "ValueBenchModel" yM_flat yM_flat : Cond) ∈ xw := xw_p (List.mem_map.mpr ⟨(yM_flat, 32), List.mem_append_right _ (List.mem_append_right _ (List.mem_append_right _ (List.mem_append_right _ (List.mem_append_right _ (List.mem_append_right _ (List.mem_of_getElem? (i := 1) rfl)))))), rfl⟩) rfl
theorem kp_M_flatten : (.selects "ValueBenchModel" yM_flatten yM_flatten : Cond) ∈ xw := xw_p (List.mem_map.mpr ⟨(yM_flatten, 32), List.mem_append_right _ (List.mem_append_right _ (List.mem_append_right _ (List.mem_append_right _ (List.mem_append_right _ (List.mem_append_right _ (List.mem_of_getElem? (i := 0) rfl)))))), rfl⟩) rfl
theorem kp_M_following : (.selects "ValueBenchModel" yM_following yM_following : Cond) ∈ xw := xw_p (List.mem_map.mpr ⟨(yM_following, 32), List.mem_append_right _ (List.mem_append_right _ (List.mem_append_right _ (List.mem_append_right _ (List.mem_append_left _ (List.mem_of_getElem? (i := 14) rfl))))), rfl⟩) rfl
theorem kp_M_fresh : (.selects "ValueBenchModel" yM_fresh yM_fresh : Cond) ∈ xw := xw_p (List.mem_map.mpr ⟨(yM_fresh, 32), List.mem_append_right _ (List.mem_append_right _ (List.mem_append_left _ (List.mem_of_getElem? (i := 1) rfl))), rfl⟩) rfl
theorem kp_M_fromJson : (.selects "ValueBenchModel" yM_fromJson yM_fromJson : Cond) ∈ xw := xw_p (List.mem_map.mpr ⟨(yM_fromJson, 32), List.mem_append_right _ (List.mem_append_right _ (List.mem_append_right _ (List.mem_append_right _ (List.mem_append_right _ (List.mem_append_left _ (List.mem_of_getElem? (i := 4) rfl)))))), rfl⟩) rfl
theorem kp_M_has : (.selects "ValueBenchModel" yM_has yM_has : Cond) ∈ xw := xw_p (List.mem_map.mpr ⟨(yM_has, 32), List.mem_append_right _ (List.mem_append_right _ (List.mem_append_right _ (List.mem_append_right _ (List.mem_append_right _ (List.mem_append_left _ (List.mem_of_getElem? (i := 10) rfl)))))), rfl⟩) rfl
theorem kp_M_implode : (.selects "ValueBenchModel" yM_implode yM_implode : Cond) ∈ xw := xw_p (List.mem_map.mpr ⟨(yM_implode, 32), List.mem_append_right _ (List.mem_append_right _ (List.mem_append_right _ (List.mem_append_right _ (List.mem_append_right _ (List.mem_append_left _ (List.mem_of_getElem? (i := 7) rfl)))))), rfl⟩) rfl
theorem kp_M_indices : (.selects "ValueBenchModel" yM_indices yM_indices : Cond) ∈ xw := xw_p (List.mem_map.mpr ⟨(yM_indices, 32), List.mem_append_right _ (List.mem_append_right _ (List.mem_append_right _ (List.mem_append_right _ (List.mem_append_right _ (List.mem_append_left _ (List.mem_of_getElem? (i := 15) rfl)))))), rfl⟩) rfl
theorem kp_M_isTrue : (.selects "ValueBenchModel" yM_isTrue yM_isTrue : Cond) ∈ xw := xw_p (List.mem_map.mpr ⟨(yM_isTrue, 32), List.mem_append_right _ (List.mem_append_right _ (List.mem_append_right _ (List.mem_append_right _ (List.mem_append_left _ (List.mem_of_getElem? (i := 6) rfl))))), rfl⟩) rfl
theorem kp_M_joined : (.selects "ValueBenchModel" yM_joined yM_joined : Cond) ∈ xw := xw_p (List.mem_map.mpr ⟨(yM_joined, 32), List.mem_append_right _ (List.mem_append_right _ (List.mem_append_right _ (List.mem_append_right _ (List.mem_append_right _ (List.mem_append_left _ (List.mem_of_getElem? (i := 14) rfl)))))), rfl⟩) rfl
theorem kp_M_json : (.selects "ValueBenchModel" yM_json yM_json : Cond) ∈ xw := xw_p (List.mem_map.mpr ⟨(yM_json, 32), List.mem_append_right _ (List.mem_append_left _ (List.mem_of_getElem? (i := 11) rfl)), rfl⟩) rfl
theorem kp_M_jsonNumber : (.selects "ValueBenchModel" yM_jsonNumber yM_jsonNumber : Cond) ∈ xw := xw_p (List.mem_map.mpr ⟨(yM_jsonNumber, 32), List.mem_append_right _ (List.mem_append_right _ (List.mem_append_left _ (List.mem_of_getElem? (i := 7) rfl))), rfl⟩) rfl
theorem kp_M_jsonString : (.selects "ValueBenchModel" yM_jsonString yM_jsonString : Cond) ∈ xw := xw_p (List.mem_map.mpr ⟨(yM_jsonString, 32), List.mem_append_right _ (List.mem_append_right _ (List.mem_append_left _ (List.mem_of_getElem? (i := 2) rfl))), rfl⟩) rfl
theorem kp_M_keys : (.selects "ValueBenchModel" yM_keys yM_keys : Cond) ∈ xw := xw_p (List.mem_map.mpr ⟨(yM_keys, 32), List.mem_append_right _ (List.mem_append_right _ (List.mem_append_right _ (List.mem_append_right _ (List.mem_append_left _ (List.mem_of_getElem? (i := 10) rfl))))), rfl⟩) rfl
theorem kp_M_keysOf : (.selects "ValueBenchModel" yM_keysOf yM_keysOf : Cond) ∈ xw := xw_p (List.mem_map.mpr ⟨(yM_keysOf, 32), List.mem_append_right _ (List.mem_append_right _ (List.mem_append_right _ (List.mem_append_right _ (List.mem_append_left _ (List.mem_of_getElem? (i := 9) rfl))))), rfl⟩) rfl
theorem kp_M_kid : (.selects "ValueBenchModel" yM_kid yM_kid : Cond) ∈ xw := xw_p (List.mem_map.mpr ⟨(yM_kid, 32), List.mem_append_right _ (List.mem_append_right _ (List.mem_append_right _ (List.mem_append_left _ (List.mem_of_getElem? (i := 7) rfl)))), rfl⟩) rfl
theorem kp_M_length : (.selects "ValueBenchModel" yM_length yM_length : Cond) ∈ xw := xw_p (List.mem_map.mpr ⟨(yM_length, 32), List.mem_append_right _ (List.mem_append_right _ (List.mem_append_right _ (List.mem_append_right _ (List.mem_append_left _ (List.mem_of_getElem? (i := 8) rfl))))), rfl⟩) rfl
theorem kp_M_letter : (.selects "ValueBenchModel" yM_letter yM_letter : Cond) ∈ xw := xw_p (List.mem_map.mpr ⟨(yM_letter, 32), List.mem_append_right _ (List.mem_append_right _ (List.mem_append_left _ (List.mem_of_getElem? (i := 4) rfl))), rfl⟩) rfl
theorem kp_M_letters : (.selects "ValueBenchModel" yM_letters yM_letters : Cond) ∈ xw := xw_p (List.mem_map.mpr ⟨(yM_letters, 32), List.mem_append_right _ (List.mem_append_right _ (List.mem_append_right _ (List.mem_append_left _ (List.mem_of_getElem? (i := 14) rfl)))), rfl⟩) rfl
theorem kp_M_limit : (.selects "ValueBenchModel" yM_limit yM_limit : Cond) ∈ xw := xw_p (List.mem_map.mpr ⟨(yM_limit, 32), List.mem_append_right _ (List.mem_append_right _ (List.mem_append_left _ (List.mem_of_getElem? (i := 6) rfl))), rfl⟩) rfl
theorem kp_M_members : (.selects "ValueBenchModel" yM_members yM_members : Cond) ∈ xw := xw_p (List.mem_map.mpr ⟨(yM_members, 32), List.mem_append_right _ (List.mem_append_right _ (List.mem_append_left _ (List.mem_of_getElem? (i := 13) rfl))), rfl⟩) rfl
theorem kp_M_merged : (.selects "ValueBenchModel" yM_merged yM_merged : Cond) ∈ xw := xw_p (List.mem_map.mpr ⟨(yM_merged, 32), List.mem_append_right _ (List.mem_append_right _ (List.mem_append_right _ (List.mem_append_right _ (List.mem_append_left _ (List.mem_of_getElem? (i := 1) rfl))))), rfl⟩) rfl
theorem kp_M_name : (.selects "ValueBenchModel" yM_name yM_name : Cond) ∈ xw := xw_p (List.mem_map.mpr ⟨(yM_name, 32), List.mem_append_right _ (List.mem_append_right _ (List.mem_append_right _ (List.mem_append_left _ (List.mem_of_getElem? (i := 6) rfl)))), rfl⟩) rfl
theorem kp_M_number : (.selects "ValueBenchModel" yM_number yM_number : Cond) ∈ xw := xw_p (List.mem_map.mpr ⟨(yM_number, 32), List.mem_append_right _ (List.mem_append_right _ (List.mem_append_left _ (List.mem_of_getElem? (i := 8) rfl))), rfl⟩) rfl
theorem kp_M_objects : (.selects "ValueBenchModel" yM_objects yM_objects : Cond) ∈ xw := xw_p (List.mem_map.mpr ⟨(yM_objects, 32), List.mem_append_right _ (List.mem_append_right _ (List.mem_append_right _ (List.mem_append_right _ (List.mem_append_left _ (List.mem_of_getElem? (i := 13) rfl))))), rfl⟩) rfl
theorem kp_M_one1 : (.selects "ValueBenchModel" yM_one1 yM_one1 : Cond) ∈ xw := xw_p (List.mem_map.mpr ⟨(yM_one1, 32), List.mem_append_right _ (List.mem_append_right _ (List.mem_append_right _ (List.mem_append_right _ (List.mem_append_left _ (List.mem_of_getElem? (i := 5) rfl))))), rfl⟩) rfl
theorem kp_M_order : (.selects "ValueBenchModel" yM_order yM_order : Cond) ∈ xw := xw_p (List.mem_map.mpr ⟨(yM_order, 32), List.mem_append_right _ (List.mem_append_right _ (List.mem_append_right _ (List.mem_append_right _ (List.mem_append_left _ (List.mem_of_getElem? (i := 12) rfl))))), rfl⟩) rfl
theorem kp_M_out : (.selects "ValueBenchModel" yM_out yM_out : Cond) ∈ xw := xw_p (List.mem_map.mpr ⟨(yM_out, 32), List.mem_append_right _ (List.mem_append_left _ (List.mem_of_getElem? (i := 10) rfl)), rfl⟩) rfl
theorem kp_M_part : (.selects "ValueBenchModel" yM_part yM_part : Cond) ∈ xw := xw_p (List.mem_map.mpr ⟨(yM_part, 32), List.mem_append_right _ (List.mem_append_right _ (List.mem_append_right _ (List.mem_append_right _ (List.mem_append_left _ (List.mem_of_getElem? (i := 3) rfl))))), rfl⟩) rfl
theorem kp_M_peek : (.selects "ValueBenchModel" yM_peek yM_peek : Cond) ∈ xw := xw_p (List.mem_map.mpr ⟨(yM_peek, 32), List.mem_append_right _ (List.mem_append_left _ (List.mem_of_getElem? (i := 14) rfl)), rfl⟩) rfl
theorem kp_M_piece : (.selects "ValueBenchModel" yM_piece yM_piece : Cond) ∈ xw := xw_p (List.mem_map.mpr ⟨(yM_piece, 32), List.mem_append_right _ (List.mem_append_right _ (List.mem_append_right _ (List.mem_append_right _ (List.mem_append_left _ (List.mem_of_getElem? (i := 4) rfl))))), rfl⟩) rfl
theorem kp_M_place : (.selects "ValueBenchModel" yM_place yM_place : Cond) ∈ xw := xw_p (List.mem_map.mpr ⟨(yM_place, 32), List.mem_append_right _ (List.mem_append_right _ (List.mem_append_right _ (List.mem_append_left _ (List.mem_of_getElem? (i := 10) rfl)))), rfl⟩) rfl
theorem kp_M_print1 : (.selects "ValueBenchModel" yM_print1 yM_print1 : Cond) ∈ xw := xw_p (List.mem_map.mpr ⟨(yM_print1, 32), List.mem_append_right _ (List.mem_append_right _ (List.mem_append_right _ (List.mem_append_left _ (List.mem_of_getElem? (i := 0) rfl)))), rfl⟩) rfl
theorem kp_M_put0 : (.selects "ValueBenchModel" yM_put0 yM_put0 : Cond) ∈ xw := xw_p (List.mem_map.mpr ⟨(yM_put0, 32), List.mem_append_right _ (List.mem_append_right _ (List.mem_append_right _ (List.mem_append_left _ (List.mem_of_getElem? (i := 2) rfl)))), rfl⟩) rfl
theorem kp_M_put1 : (.selects "ValueBenchModel" yM_put1 yM_put1 : Cond) ∈ xw := xw_p (List.mem_map.mpr ⟨(yM_put1, 32), List.mem_append_right _ (List.mem_append_right _ (List.mem_append_right _ (List.mem_append_left _ (List.mem_of_getElem? (i := 1) rfl)))), rfl⟩) rfl
theorem kp_M_putHex : (.selects "ValueBenchModel" yM_putHex yM_putHex : Cond) ∈ xw := xw_p (List.mem_map.mpr ⟨(yM_putHex, 32), List.mem_append_right _ (List.mem_append_right _ (List.mem_append_right _ (List.mem_append_left _ (List.mem_of_getElem? (i := 5) rfl)))), rfl⟩) rfl
theorem kp_M_putNumber : (.selects "ValueBenchModel" yM_putNumber yM_putNumber : Cond) ∈ xw := xw_p (List.mem_map.mpr ⟨(yM_putNumber, 32), List.mem_append_right _ (List.mem_append_right _ (List.mem_append_right _ (List.mem_append_left _ (List.mem_of_getElem? (i := 3) rfl)))), rfl⟩) rfl
theorem kp_M_putString : (.selects "ValueBenchModel" yM_putString yM_putString : Cond) ∈ xw := xw_p (List.mem_map.mpr ⟨(yM_putString, 32), List.mem_append_right _ (List.mem_append_right _ (List.mem_append_right _ (List.mem_append_left _ (List.mem_of_getElem? (i := 4) rfl)))), rfl⟩) rfl
theorem kp_M_ranked : (.selects "ValueBenchModel" yM_ranked yM_ranked : Cond) ∈ xw := xw_p (List.mem_map.mpr ⟨(yM_ranked, 32), List.mem_append_right _ (List.mem_append_right _ (List.mem_append_right _ (List.mem_append_right _ (List.mem_append_left _ (List.mem_of_getElem? (i := 15) rfl))))), rfl⟩) rfl
theorem kp_M_refuse : (.selects "ValueBenchModel" yM_refuse yM_refuse : Cond) ∈ xw := xw_p (List.mem_map.mpr ⟨(yM_refuse, 32), List.mem_append_right _ (List.mem_append_right _ (List.mem_append_left _ (List.mem_of_getElem? (i := 9) rfl))), rfl⟩) rfl
theorem kp_M_register : (.selects "ValueBenchModel" yM_register yM_register : Cond) ∈ xw := xw_p (List.mem_map.mpr ⟨(yM_register, 32), List.mem_append_right _ (List.mem_append_right _ (List.mem_append_right _ (List.mem_append_left _ (List.mem_of_getElem? (i := 8) rfl)))), rfl⟩) rfl
theorem kp_M_reversed : (.selects "ValueBenchModel" yM_reversed yM_reversed : Cond) ∈ xw := xw_p (List.mem_map.mpr ⟨(yM_reversed, 32), List.mem_append_right _ (List.mem_append_right _ (List.mem_append_right _ (List.mem_append_right _ (List.mem_append_right _ (List.mem_append_left _ (List.mem_of_getElem? (i := 5) rfl)))))), rfl⟩) rfl
theorem kp_M_same1 : (.selects "ValueBenchModel" yM_same1 yM_same1 : Cond) ∈ xw := xw_p (List.mem_map.mpr ⟨(yM_same1, 32), List.mem_append_right _ (List.mem_append_right _ (List.mem_append_right _ (List.mem_append_left _ (List.mem_of_getElem? (i := 9) rfl)))), rfl⟩) rfl
theorem kp_M_sameText : (.selects "ValueBenchModel" yM_sameText yM_sameText : Cond) ∈ xw := xw_p (List.mem_map.mpr ⟨(yM_sameText, 32), List.mem_append_right _ (List.mem_append_right _ (List.mem_append_left _ (List.mem_of_getElem? (i := 14) rfl))), rfl⟩) rfl
theorem kp_M_says : (.selects "ValueBenchModel" yM_says yM_says : Cond) ∈ xw := xw_p (List.mem_map.mpr ⟨(yM_says, 32), List.mem_append_right _ (List.mem_append_left _ (List.mem_of_getElem? (i := 15) rfl)), rfl⟩) rfl
theorem kp_M_sort1 : (.selects "ValueBenchModel" yM_sort1 yM_sort1 : Cond) ∈ xw := xw_p (List.mem_map.mpr ⟨(yM_sort1, 32), List.mem_append_right _ (List.mem_append_right _ (List.mem_append_right _ (List.mem_append_right _ (List.mem_append_left _ (List.mem_of_getElem? (i := 11) rfl))))), rfl⟩) rfl
theorem kp_M_split : (.selects "ValueBenchModel" yM_split yM_split : Cond) ∈ xw := xw_p (List.mem_map.mpr ⟨(yM_split, 32), List.mem_append_right _ (List.mem_append_right _ (List.mem_append_right _ (List.mem_append_right _ (List.mem_append_left _ (List.mem_of_getElem? (i := 2) rfl))))), rfl⟩) rfl
theorem kp_M_store : (.selects "ValueBenchModel" yM_store yM_store : Cond) ∈ xw := xw_p (List.mem_map.mpr ⟨(yM_store, 32), List.mem_append_right _ (List.mem_append_right _ (List.mem_append_left _ (List.mem_of_getElem? (i := 15) rfl))), rfl⟩) rfl
theorem kp_M_string : (.selects "ValueBenchModel" yM_string yM_string : Cond) ∈ xw := xw_p (List.mem_map.mpr ⟨(yM_string, 32), List.mem_append_right _ (List.mem_append_right _ (List.mem_append_left _ (List.mem_of_getElem? (i := 5) rfl))), rfl⟩) rfl
theorem kp_M_text : (.selects "ValueBenchModel" yM_text yM_text : Cond) ∈ xw := xw_p (List.mem_map.mpr ⟨(yM_text, 32), List.mem_append_right _ (List.mem_append_right _ (List.mem_append_right _ (List.mem_append_right _ (List.mem_append_right _ (List.mem_append_left _ (List.mem_of_getElem? (i := 3) rfl)))))), rfl⟩) rfl
theorem kp_M_times : (.selects "ValueBenchModel" yM_times yM_times : Cond) ∈ xw := xw_p (List.mem_map.mpr ⟨(yM_times, 32), List.mem_append_right _ (List.mem_append_right _ (List.mem_append_right _ (List.mem_append_right _ (List.mem_append_left _ (List.mem_of_getElem? (i := 0) rfl))))), rfl⟩) rfl
theorem kp_M_toNumber : (.selects "ValueBenchModel" yM_toNumber yM_toNumber : Cond) ∈ xw := xw_p (List.mem_map.mpr ⟨(yM_toNumber, 32), List.mem_append_right _ (List.mem_append_right _ (List.mem_append_right _ (List.mem_append_right _ (List.mem_append_right _ (List.mem_append_left _ (List.mem_of_getElem? (i := 2) rfl)))))), rfl⟩) rfl
theorem kp_M_told : (.selects "ValueBenchModel" yM_told yM_told : Cond) ∈ xw := xw_p (List.mem_map.mpr ⟨(yM_told, 32), List.mem_append_right _ (List.mem_append_right _ (List.mem_append_right _ (List.mem_append_right _ (List.mem_append_right _ (List.mem_append_left _ (List.mem_of_getElem? (i := 1) rfl)))))), rfl⟩) rfl
theorem kp_M_truth : (.selects "ValueBenchModel" yM_truth yM_truth : Cond) ∈ xw := xw_p (List.mem_map.mpr ⟨(yM_truth, 32), List.mem_append_right _ (List.mem_append_right _ (List.mem_append_right _ (List.mem_append_right _ (List.mem_append_left _ (List.mem_of_getElem? (i := 7) rfl))))), rfl⟩) rfl
theorem kp_M_two1 : (.selects "ValueBenchModel" yM_two1 yM_two1 : Cond) ∈ xw := xw_p (List.mem_map.mpr ⟨(yM_two1, 32), List.mem_append_right _ (List.mem_append_right _ (List.mem_append_right _ (List.mem_append_right _ (List.mem_append_right _ (List.mem_append_left _ (List.mem_of_getElem? (i := 9) rfl)))))), rfl⟩) rfl
theorem kp_M_value : (.selects "ValueBenchModel" yM_value yM_value : Cond) ∈ xw := xw_p (List.mem_map.mpr ⟨(yM_value, 32), List.mem_append_right _ (List.mem_append_left _ (List.mem_of_getElem? (i := 12) rfl)), rfl⟩) rfl
theorem kp_M_wait : (.selects "ValueBenchModel" yM_wait yM_wait : Cond) ∈ xw := xw_p (List.mem_map.mpr ⟨(yM_wait, 32), List.mem_append_right _ (List.mem_append_right _ (List.mem_append_left _ (List.mem_of_getElem? (i := 12) rfl))), rfl⟩) rfl
theorem kp_M_whole : (.selects "ValueBenchModel" yM_whole yM_whole : Cond) ∈ xw := xw_p (List.mem_map.mpr ⟨(yM_whole, 32), List.mem_append_right _ (List.mem_append_right _ (List.mem_append_left _ (List.mem_of_getElem? (i := 11) rfl))), rfl⟩) rfl
theorem kp_M_without : (.selects "ValueBenchModel" yM_without yM_without : Cond) ∈ xw := xw_p (List.mem_map.mpr ⟨(yM_without, 32), List.mem_append_right _ (List.mem_append_right _ (List.mem_append_right _ (List.mem_append_left _ (List.mem_of_getElem? (i := 15) rfl)))), rfl⟩) rfl
theorem xat_M_205_207 : ∀ w ∈ (vx_at0 "ValueBenchModel" 207 "java/lang/UnsupportedOperationException" ["java/lang/RuntimeException", "java/lang/Exception"]).filter goodWord, w ∈ xw := fun w h => List.mem_filter.mpr ⟨(by decide +kernel : ∀ w ∈ (vx_at0 "ValueBenchModel" 207 "java/lang/UnsupportedOperationException" ["java/lang/RuntimeException", "java/lang/Exception"]).filter goodWord, w ∈ lw_tbl) w h, (List.mem_filter.mp h).2⟩
theorem xat_M_205_207_b : ∀ w ∈ (vx_at0 "ValueBenchModel" 207 "java/lang/UnsupportedOperationException" ["java/lang/RuntimeException", "java/lang/Exception"]).filter (fun w => !goodWord w), w ∈ ([.castable "java/lang/UnsupportedOperationException" "java/lang/UnsupportedOperationException", .declares ⟨"java/lang/RuntimeException", "<init>", "()V"⟩, .declares ⟨"java/lang/Exception", "<init>", "()V"⟩, .declares ⟨"java/lang/Throwable", "<init>", "()V"⟩] : List Cond) := by decide +kernel
theorem xat_M_205_207_g : ∀ w ∈ Cond.classLink "ValueBenchModel" 205 "java/lang/UnsupportedOperationException" :: Cond.initialized "java/lang/UnsupportedOperationException" :: vx_at0 "ValueBenchModel" 207 "java/lang/UnsupportedOperationException" ["java/lang/RuntimeException", "java/lang/Exception"], vx_ot w = true := by decide +kernel
theorem xat_M_83_85 : ∀ w ∈ (vx_at0 "ValueBenchModel" 85 "java/lang/ArithmeticException" ["java/lang/RuntimeException", "java/lang/Exception"]).filter goodWord, w ∈ xw := fun w h => List.mem_filter.mpr ⟨(by decide +kernel : ∀ w ∈ (vx_at0 "ValueBenchModel" 85 "java/lang/ArithmeticException" ["java/lang/RuntimeException", "java/lang/Exception"]).filter goodWord, w ∈ lw_tbl) w h, (List.mem_filter.mp h).2⟩
theorem xat_M_83_85_b : ∀ w ∈ (vx_at0 "ValueBenchModel" 85 "java/lang/ArithmeticException" ["java/lang/RuntimeException", "java/lang/Exception"]).filter (fun w => !goodWord w), w ∈ ([.castable "java/lang/ArithmeticException" "java/lang/ArithmeticException", .declares ⟨"java/lang/RuntimeException", "<init>", "()V"⟩, .declares ⟨"java/lang/Exception", "<init>", "()V"⟩, .declares ⟨"java/lang/Throwable", "<init>", "()V"⟩] : List Cond) := by decide +kernel
theorem xat_M_83_85_g : ∀ w ∈ Cond.classLink "ValueBenchModel" 83 "java/lang/ArithmeticException" :: Cond.initialized "java/lang/ArithmeticException" :: vx_at0 "ValueBenchModel" 85 "java/lang/ArithmeticException" ["java/lang/RuntimeException", "java/lang/Exception"], vx_ot w = true := by decide +kernel
theorem xat_M_86_88 : ∀ w ∈ (vx_at0 "ValueBenchModel" 88 "java/lang/IndexOutOfBoundsException" ["java/lang/RuntimeException", "java/lang/Exception"]).filter goodWord, w ∈ xw := fun w h => List.mem_filter.mpr ⟨(by decide +kernel : ∀ w ∈ (vx_at0 "ValueBenchModel" 88 "java/lang/IndexOutOfBoundsException" ["java/lang/RuntimeException", "java/lang/Exception"]).filter goodWord, w ∈ lw_tbl) w h, (List.mem_filter.mp h).2⟩
theorem xat_M_86_88_b : ∀ w ∈ (vx_at0 "ValueBenchModel" 88 "java/lang/IndexOutOfBoundsException" ["java/lang/RuntimeException", "java/lang/Exception"]).filter (fun w => !goodWord w), w ∈ ([.castable "java/lang/IndexOutOfBoundsException" "java/lang/IndexOutOfBoundsException", .declares ⟨"java/lang/RuntimeException", "<init>", "()V"⟩, .declares ⟨"java/lang/Exception", "<init>", "()V"⟩, .declares ⟨"java/lang/Throwable", "<init>", "()V"⟩] : List Cond) := by decide +kernel
theorem xat_M_86_88_g : ∀ w ∈ Cond.classLink "ValueBenchModel" 86 "java/lang/IndexOutOfBoundsException" :: Cond.initialized "java/lang/IndexOutOfBoundsException" :: vx_at0 "ValueBenchModel" 88 "java/lang/IndexOutOfBoundsException" ["java/lang/RuntimeException", "java/lang/Exception"], vx_ot w = true := by decide +kernel
theorem dM_added_0 : decode prog_13_method_49_code 0 = .ok (.aload_n 1, 1) := by decide +kernel
theorem dM_added_1 : decode prog_13_method_49_code 1 = .ok (.getfield 93, 3) := by decide +kernel
theorem dM_added_4 : decode prog_13_method_49_code 4 = .ok (.ifCond .ne 5, 3) := by decide +kernel
theorem dM_added_7 : decode prog_13_method_49_code 7 = .ok (.aload_n 2, 1) := by decide +kernel
theorem dM_added_8 : decode prog_13_method_49_code 8 = .ok (.areturn, 1) := by decide +kernel
theorem dM_added_9 : decode prog_13_method_49_code 9 = .ok (.aload_n 2, 1) := by decide +kernel
theorem dM_added_10 : decode prog_13_method_49_code 10 = .ok (.getfield 93, 3) := by decide +kernel
theorem dM_added_13 : decode prog_13_method_49_code 13 = .ok (.ifCond .ne 5, 3) := by decide +kernel
theorem dM_added_16 : decode prog_13_method_49_code 16 = .ok (.aload_n 1, 1) := by decide +kernel
theorem dM_added_17 : decode prog_13_method_49_code 17 = .ok (.areturn, 1) := by decide +kernel
theorem dM_added_18 : decode prog_13_method_49_code 18 = .ok (.aload_n 1, 1) := by decide +kernel
theorem dM_added_19 : decode prog_13_method_49_code 19 = .ok (.getfield 93, 3) := by decide +kernel
theorem dM_added_22 : decode prog_13_method_49_code 22 = .ok (.aload_n 2, 1) := by decide +kernel
theorem dM_added_23 : decode prog_13_method_49_code 23 = .ok (.getfield 93, 3) := by decide +kernel
theorem dM_added_26 : decode prog_13_method_49_code 26 = .ok (.if_icmp .ne 11, 3) := by decide +kernel
theorem dM_added_29 : decode prog_13_method_49_code 29 = .ok (.aload_n 1, 1) := by decide +kernel
theorem dM_added_30 : decode prog_13_method_49_code 30 = .ok (.getfield 93, 3) := by decide +kernel
theorem dM_added_33 : decode prog_13_method_49_code 33 = .ok (.iconst 3, 1) := by decide +kernel
theorem dM_added_34 : decode prog_13_method_49_code 34 = .ok (.if_icmp .ge 9, 3) := by decide +kernel
theorem dM_added_37 : decode prog_13_method_49_code 37 = .ok (.aload_n 0, 1) := by decide +kernel
theorem dM_added_38 : decode prog_13_method_49_code 38 = .ok (.iconst 1, 1) := by decide +kernel
theorem dM_added_39 : decode prog_13_method_49_code 39 = .ok (.invokevirtual 116, 3) := by decide +kernel
theorem dM_added_43 : decode prog_13_method_49_code 43 = .ok (.aload_n 1, 1) := by decide +kernel
theorem dM_added_44 : decode prog_13_method_49_code 44 = .ok (.getfield 93, 3) := by decide +kernel
theorem dM_added_47 : decode prog_13_method_49_code 47 = .ok (.iconst 3, 1) := by decide +kernel
theorem dM_added_48 : decode prog_13_method_49_code 48 = .ok (.if_icmp .ne 17, 3) := by decide +kernel
theorem dM_added_51 : decode prog_13_method_49_code 51 = .ok (.aload_n 0, 1) := by decide +kernel
theorem dM_added_52 : decode prog_13_method_49_code 52 = .ok (.aload_n 1, 1) := by decide +kernel
theorem dM_added_53 : decode prog_13_method_49_code 53 = .ok (.getfield 96, 3) := by decide +kernel
theorem dM_added_56 : decode prog_13_method_49_code 56 = .ok (.aload_n 2, 1) := by decide +kernel
theorem dM_added_57 : decode prog_13_method_49_code 57 = .ok (.getfield 96, 3) := by decide +kernel
theorem dM_added_60 : decode prog_13_method_49_code 60 = .ok (.ladd, 1) := by decide +kernel
theorem dM_added_61 : decode prog_13_method_49_code 61 = .ok (.invokevirtual 265, 3) := by decide +kernel
theorem dM_added_64 : decode prog_13_method_49_code 64 = .ok (.areturn, 1) := by decide +kernel
theorem dM_added_65 : decode prog_13_method_49_code 65 = .ok (.aload_n 1, 1) := by decide +kernel
theorem dM_added_66 : decode prog_13_method_49_code 66 = .ok (.getfield 93, 3) := by decide +kernel
theorem dM_added_69 : decode prog_13_method_49_code 69 = .ok (.iconst 4, 1) := by decide +kernel
theorem dM_added_70 : decode prog_13_method_49_code 70 = .ok (.if_icmp .ne 24, 3) := by decide +kernel
theorem dM_added_73 : decode prog_13_method_49_code 73 = .ok (.aload_n 0, 1) := by decide +kernel
theorem dM_added_74 : decode prog_13_method_49_code 74 = .ok (.getfield 123, 3) := by decide +kernel
theorem dM_added_77 : decode prog_13_method_49_code 77 = .ok (.istore_n 3, 1) := by decide +kernel
theorem dM_added_78 : decode prog_13_method_49_code 78 = .ok (.aload_n 0, 1) := by decide +kernel
theorem dM_added_79 : decode prog_13_method_49_code 79 = .ok (.aload_n 1, 1) := by decide +kernel
theorem dM_added_80 : decode prog_13_method_49_code 80 = .ok (.invokevirtual 314, 3) := by decide +kernel
theorem dM_added_83 : decode prog_13_method_49_code 83 = .ok (.aload_n 0, 1) := by decide +kernel
theorem dM_added_84 : decode prog_13_method_49_code 84 = .ok (.aload_n 2, 1) := by decide +kernel
theorem dM_added_85 : decode prog_13_method_49_code 85 = .ok (.invokevirtual 314, 3) := by decide +kernel
theorem dM_added_88 : decode prog_13_method_49_code 88 = .ok (.aload_n 0, 1) := by decide +kernel
theorem dM_added_89 : decode prog_13_method_49_code 89 = .ok (.iload_n 3, 1) := by decide +kernel
theorem dM_added_90 : decode prog_13_method_49_code 90 = .ok (.invokevirtual 139, 3) := by decide +kernel
theorem dM_added_93 : decode prog_13_method_49_code 93 = .ok (.areturn, 1) := by decide +kernel
theorem dM_added_94 : decode prog_13_method_49_code 94 = .ok (.aload_n 0, 1) := by decide +kernel
theorem dM_added_95 : decode prog_13_method_49_code 95 = .ok (.getfield 142, 3) := by decide +kernel
theorem dM_added_98 : decode prog_13_method_49_code 98 = .ok (.istore_n 3, 1) := by decide +kernel
theorem dM_added_99 : decode prog_13_method_49_code 99 = .ok (.iconst 0, 1) := by decide +kernel
theorem dM_added_100 : decode prog_13_method_49_code 100 = .ok (.istore 4, 2) := by decide +kernel
theorem dM_added_102 : decode prog_13_method_49_code 102 = .ok (.iload 4, 2) := by decide +kernel
theorem dM_added_104 : decode prog_13_method_49_code 104 = .ok (.aload_n 1, 1) := by decide +kernel
theorem dM_added_105 : decode prog_13_method_49_code 105 = .ok (.getfield 103, 3) := by decide +kernel
theorem dM_added_108 : decode prog_13_method_49_code 108 = .ok (.if_icmp .ge 82, 3) := by decide +kernel
theorem dM_added_111 : decode prog_13_method_49_code 111 = .ok (.aload_n 1, 1) := by decide +kernel
theorem dM_added_112 : decode prog_13_method_49_code 112 = .ok (.getfield 93, 3) := by decide +kernel
theorem dM_added_115 : decode prog_13_method_49_code 115 = .ok (.bipush 6, 2) := by decide +kernel
theorem dM_added_117 : decode prog_13_method_49_code 117 = .ok (.if_icmp .ne 18, 3) := by decide +kernel
theorem dM_added_120 : decode prog_13_method_49_code 120 = .ok (.aload_n 0, 1) := by decide +kernel
theorem dM_added_121 : decode prog_13_method_49_code 121 = .ok (.aload_n 2, 1) := by decide +kernel
theorem dM_added_122 : decode prog_13_method_49_code 122 = .ok (.aload_n 0, 1) := by decide +kernel
theorem dM_added_123 : decode prog_13_method_49_code 123 = .ok (.aload_n 1, 1) := by decide +kernel
theorem dM_added_124 : decode prog_13_method_49_code 124 = .ok (.iload 4, 2) := by decide +kernel
theorem dM_added_126 : decode prog_13_method_49_code 126 = .ok (.invokevirtual 159, 3) := by decide +kernel
theorem dM_added_129 : decode prog_13_method_49_code 129 = .ok (.invokevirtual 167, 3) := by decide +kernel
theorem dM_added_132 : decode prog_13_method_49_code 132 = .ok (.goto 4, 3) := by decide +kernel
theorem dM_added_135 : decode prog_13_method_49_code 135 = .ok (.iconst (-1), 1) := by decide +kernel
theorem dM_added_136 : decode prog_13_method_49_code 136 = .ok (.istore 5, 2) := by decide +kernel
theorem dM_added_138 : decode prog_13_method_49_code 138 = .ok (.aload_n 0, 1) := by decide +kernel
theorem dM_added_139 : decode prog_13_method_49_code 139 = .ok (.aload_n 1, 1) := by decide +kernel
theorem dM_added_140 : decode prog_13_method_49_code 140 = .ok (.getfield 93, 3) := by decide +kernel
theorem dM_added_143 : decode prog_13_method_49_code 143 = .ok (.bipush 6, 2) := by decide +kernel
theorem dM_added_145 : decode prog_13_method_49_code 145 = .ok (.if_icmp .ne 13, 3) := by decide +kernel
theorem dM_added_148 : decode prog_13_method_49_code 148 = .ok (.aload_n 0, 1) := by decide +kernel
theorem dM_added_149 : decode prog_13_method_49_code 149 = .ok (.aload_n 1, 1) := by decide +kernel
theorem dM_added_150 : decode prog_13_method_49_code 150 = .ok (.iload 4, 2) := by decide +kernel
theorem dM_added_152 : decode prog_13_method_49_code 152 = .ok (.invokevirtual 159, 3) := by decide +kernel
theorem dM_added_155 : decode prog_13_method_49_code 155 = .ok (.goto 4, 3) := by decide +kernel
theorem dM_added_158 : decode prog_13_method_49_code 158 = .ok (.aconst_null, 1) := by decide +kernel
theorem dM_added_159 : decode prog_13_method_49_code 159 = .ok (.iload 5, 2) := by decide +kernel
theorem dM_added_161 : decode prog_13_method_49_code 161 = .ok (.ifCond .ge 13, 3) := by decide +kernel
theorem dM_added_164 : decode prog_13_method_49_code 164 = .ok (.aload_n 0, 1) := by decide +kernel
theorem dM_added_165 : decode prog_13_method_49_code 165 = .ok (.aload_n 1, 1) := by decide +kernel
theorem dM_added_166 : decode prog_13_method_49_code 166 = .ok (.iload 4, 2) := by decide +kernel
theorem dM_added_168 : decode prog_13_method_49_code 168 = .ok (.invokevirtual 170, 3) := by decide +kernel
theorem dM_added_171 : decode prog_13_method_49_code 171 = .ok (.goto 10, 3) := by decide +kernel
theorem dM_added_174 : decode prog_13_method_49_code 174 = .ok (.aload_n 0, 1) := by decide +kernel
theorem dM_added_175 : decode prog_13_method_49_code 175 = .ok (.aload_n 2, 1) := by decide +kernel
theorem dM_added_176 : decode prog_13_method_49_code 176 = .ok (.iload 5, 2) := by decide +kernel
theorem dM_added_178 : decode prog_13_method_49_code 178 = .ok (.invokevirtual 170, 3) := by decide +kernel
theorem dM_added_181 : decode prog_13_method_49_code 181 = .ok (.invokevirtual 186, 3) := by decide +kernel
theorem dM_added_184 : decode prog_13_method_49_code 184 = .ok (.iinc 4 1, 3) := by decide +kernel
theorem dM_added_187 : decode prog_13_method_49_code 187 = .ok (.goto (-85), 3) := by decide +kernel
theorem dM_added_190 : decode prog_13_method_49_code 190 = .ok (.iconst 0, 1) := by decide +kernel
theorem dM_added_191 : decode prog_13_method_49_code 191 = .ok (.istore 4, 2) := by decide +kernel
theorem dM_added_193 : decode prog_13_method_49_code 193 = .ok (.iload 4, 2) := by decide +kernel
theorem dM_added_195 : decode prog_13_method_49_code 195 = .ok (.aload_n 2, 1) := by decide +kernel
theorem dM_added_196 : decode prog_13_method_49_code 196 = .ok (.getfield 103, 3) := by decide +kernel
theorem dM_added_199 : decode prog_13_method_49_code 199 = .ok (.if_icmp .ge 63, 3) := by decide +kernel
theorem dM_added_202 : decode prog_13_method_49_code 202 = .ok (.aload_n 1, 1) := by decide +kernel
theorem dM_added_203 : decode prog_13_method_49_code 203 = .ok (.getfield 93, 3) := by decide +kernel
theorem dM_added_206 : decode prog_13_method_49_code 206 = .ok (.iconst 5, 1) := by decide +kernel
theorem dM_added_207 : decode prog_13_method_49_code 207 = .ok (.if_icmp .eq 18, 3) := by decide +kernel
theorem dM_added_210 : decode prog_13_method_49_code 210 = .ok (.aload_n 0, 1) := by decide +kernel
theorem dM_added_211 : decode prog_13_method_49_code 211 = .ok (.aload_n 1, 1) := by decide +kernel
theorem dM_added_212 : decode prog_13_method_49_code 212 = .ok (.aload_n 0, 1) := by decide +kernel
theorem dM_added_213 : decode prog_13_method_49_code 213 = .ok (.aload_n 2, 1) := by decide +kernel
theorem dM_added_214 : decode prog_13_method_49_code 214 = .ok (.iload 4, 2) := by decide +kernel
theorem dM_added_216 : decode prog_13_method_49_code 216 = .ok (.invokevirtual 159, 3) := by decide +kernel
theorem dM_added_219 : decode prog_13_method_49_code 219 = .ok (.invokevirtual 167, 3) := by decide +kernel
theorem dM_added_222 : decode prog_13_method_49_code 222 = .ok (.ifCond .ge 34, 3) := by decide +kernel
theorem dM_added_225 : decode prog_13_method_49_code 225 = .ok (.aload_n 0, 1) := by decide +kernel
theorem dM_added_226 : decode prog_13_method_49_code 226 = .ok (.aload_n 1, 1) := by decide +kernel
theorem dM_added_227 : decode prog_13_method_49_code 227 = .ok (.getfield 93, 3) := by decide +kernel
theorem dM_added_230 : decode prog_13_method_49_code 230 = .ok (.bipush 6, 2) := by decide +kernel
theorem dM_added_232 : decode prog_13_method_49_code 232 = .ok (.if_icmp .ne 13, 3) := by decide +kernel
theorem dM_added_235 : decode prog_13_method_49_code 235 = .ok (.aload_n 0, 1) := by decide +kernel
theorem dM_added_236 : decode prog_13_method_49_code 236 = .ok (.aload_n 2, 1) := by decide +kernel
theorem dM_added_237 : decode prog_13_method_49_code 237 = .ok (.iload 4, 2) := by decide +kernel
theorem dM_added_239 : decode prog_13_method_49_code 239 = .ok (.invokevirtual 159, 3) := by decide +kernel
theorem dM_added_242 : decode prog_13_method_49_code 242 = .ok (.goto 4, 3) := by decide +kernel
theorem dM_added_245 : decode prog_13_method_49_code 245 = .ok (.aconst_null, 1) := by decide +kernel
theorem dM_added_246 : decode prog_13_method_49_code 246 = .ok (.aload_n 0, 1) := by decide +kernel
theorem dM_added_247 : decode prog_13_method_49_code 247 = .ok (.aload_n 2, 1) := by decide +kernel
theorem dM_added_248 : decode prog_13_method_49_code 248 = .ok (.iload 4, 2) := by decide +kernel
theorem dM_added_250 : decode prog_13_method_49_code 250 = .ok (.invokevirtual 170, 3) := by decide +kernel
theorem dM_added_253 : decode prog_13_method_49_code 253 = .ok (.invokevirtual 186, 3) := by decide +kernel
theorem dM_added_256 : decode prog_13_method_49_code 256 = .ok (.iinc 4 1, 3) := by decide +kernel
theorem dM_added_259 : decode prog_13_method_49_code 259 = .ok (.goto (-66), 3) := by decide +kernel
theorem dM_added_262 : decode prog_13_method_49_code 262 = .ok (.aload_n 0, 1) := by decide +kernel
theorem dM_added_263 : decode prog_13_method_49_code 263 = .ok (.aload_n 1, 1) := by decide +kernel
theorem dM_added_264 : decode prog_13_method_49_code 264 = .ok (.getfield 93, 3) := by decide +kernel
theorem dM_added_267 : decode prog_13_method_49_code 267 = .ok (.iload_n 3, 1) := by decide +kernel
theorem dM_added_268 : decode prog_13_method_49_code 268 = .ok (.invokevirtual 190, 3) := by decide +kernel
theorem dM_added_271 : decode prog_13_method_49_code 271 = .ok (.areturn, 1) := by decide +kernel
theorem dM_alike_0 : decode prog_13_method_69_code 0 = .ok (.aload_n 1, 1) := by decide +kernel
theorem dM_alike_1 : decode prog_13_method_69_code 1 = .ok (.getfield 93, 3) := by decide +kernel
theorem dM_alike_4 : decode prog_13_method_69_code 4 = .ok (.aload_n 2, 1) := by decide +kernel
theorem dM_alike_5 : decode prog_13_method_69_code 5 = .ok (.getfield 93, 3) := by decide +kernel
theorem dM_alike_8 : decode prog_13_method_69_code 8 = .ok (.if_icmp .eq 30, 3) := by decide +kernel
theorem dM_alike_11 : decode prog_13_method_69_code 11 = .ok (.aload_n 1, 1) := by decide +kernel
theorem dM_alike_12 : decode prog_13_method_69_code 12 = .ok (.getfield 93, 3) := by decide +kernel
theorem dM_alike_15 : decode prog_13_method_69_code 15 = .ok (.aload_n 2, 1) := by decide +kernel
theorem dM_alike_16 : decode prog_13_method_69_code 16 = .ok (.getfield 93, 3) := by decide +kernel
theorem dM_alike_19 : decode prog_13_method_69_code 19 = .ok (.iadd, 1) := by decide +kernel
theorem dM_alike_20 : decode prog_13_method_69_code 20 = .ok (.iconst 3, 1) := by decide +kernel
theorem dM_alike_21 : decode prog_13_method_69_code 21 = .ok (.if_icmp .ne 21, 3) := by decide +kernel
theorem dM_alike_24 : decode prog_13_method_69_code 24 = .ok (.aload_n 1, 1) := by decide +kernel
theorem dM_alike_25 : decode prog_13_method_69_code 25 = .ok (.getfield 93, 3) := by decide +kernel
theorem dM_alike_28 : decode prog_13_method_69_code 28 = .ok (.ifCond .le 14, 3) := by decide +kernel
theorem dM_alike_31 : decode prog_13_method_69_code 31 = .ok (.aload_n 2, 1) := by decide +kernel
theorem dM_alike_32 : decode prog_13_method_69_code 32 = .ok (.getfield 93, 3) := by decide +kernel
theorem dM_alike_35 : decode prog_13_method_69_code 35 = .ok (.ifCond .le 7, 3) := by decide +kernel
theorem dM_alike_38 : decode prog_13_method_69_code 38 = .ok (.iconst 1, 1) := by decide +kernel
theorem dM_alike_39 : decode prog_13_method_69_code 39 = .ok (.goto 4, 3) := by decide +kernel
theorem dM_alike_42 : decode prog_13_method_69_code 42 = .ok (.iconst 0, 1) := by decide +kernel
theorem dM_alike_43 : decode prog_13_method_69_code 43 = .ok (.ireturn, 1) := by decide +kernel
theorem dM_array_0 : decode prog_13_method_55_code 0 = .ok (.aload_n 1, 1) := by decide +kernel
theorem dM_array_1 : decode prog_13_method_55_code 1 = .ok (.getfield 93, 3) := by decide +kernel
theorem dM_array_4 : decode prog_13_method_55_code 4 = .ok (.iconst 5, 1) := by decide +kernel
theorem dM_array_5 : decode prog_13_method_55_code 5 = .ok (.if_icmp .ne 7, 3) := by decide +kernel
theorem dM_array_8 : decode prog_13_method_55_code 8 = .ok (.aload_n 1, 1) := by decide +kernel
theorem dM_array_9 : decode prog_13_method_55_code 9 = .ok (.goto 8, 3) := by decide +kernel
theorem dM_array_12 : decode prog_13_method_55_code 12 = .ok (.aload_n 0, 1) := by decide +kernel
theorem dM_array_13 : decode prog_13_method_55_code 13 = .ok (.iconst 1, 1) := by decide +kernel
theorem dM_array_14 : decode prog_13_method_55_code 14 = .ok (.invokevirtual 116, 3) := by decide +kernel
theorem dM_array_17 : decode prog_13_method_55_code 17 = .ok (.areturn, 1) := by decide +kernel
theorem dM_at_0 : decode prog_13_method_75_code 0 = .ok (.aload_n 1, 1) := by decide +kernel
theorem dM_at_1 : decode prog_13_method_75_code 1 = .ok (.getfield 93, 3) := by decide +kernel
theorem dM_at_4 : decode prog_13_method_75_code 4 = .ok (.ifCond .ne 28, 3) := by decide +kernel
theorem dM_at_7 : decode prog_13_method_75_code 7 = .ok (.aload_n 2, 1) := by decide +kernel
theorem dM_at_8 : decode prog_13_method_75_code 8 = .ok (.getfield 93, 3) := by decide +kernel
theorem dM_at_11 : decode prog_13_method_75_code 11 = .ok (.ifCond .eq 19, 3) := by decide +kernel
theorem dM_at_14 : decode prog_13_method_75_code 14 = .ok (.aload_n 2, 1) := by decide +kernel
theorem dM_at_15 : decode prog_13_method_75_code 15 = .ok (.getfield 93, 3) := by decide +kernel
theorem dM_at_18 : decode prog_13_method_75_code 18 = .ok (.iconst 3, 1) := by decide +kernel
theorem dM_at_19 : decode prog_13_method_75_code 19 = .ok (.if_icmp .eq 11, 3) := by decide +kernel
theorem dM_at_22 : decode prog_13_method_75_code 22 = .ok (.aload_n 2, 1) := by decide +kernel
theorem dM_at_23 : decode prog_13_method_75_code 23 = .ok (.getfield 93, 3) := by decide +kernel
theorem dM_at_26 : decode prog_13_method_75_code 26 = .ok (.iconst 4, 1) := by decide +kernel
theorem dM_at_27 : decode prog_13_method_75_code 27 = .ok (.if_icmp .ne 5, 3) := by decide +kernel
theorem dM_at_30 : decode prog_13_method_75_code 30 = .ok (.aload_n 1, 1) := by decide +kernel
theorem dM_at_31 : decode prog_13_method_75_code 31 = .ok (.areturn, 1) := by decide +kernel
theorem dM_at_32 : decode prog_13_method_75_code 32 = .ok (.aload_n 1, 1) := by decide +kernel
theorem dM_at_33 : decode prog_13_method_75_code 33 = .ok (.getfield 93, 3) := by decide +kernel
theorem dM_at_36 : decode prog_13_method_75_code 36 = .ok (.bipush 6, 2) := by decide +kernel
theorem dM_at_38 : decode prog_13_method_75_code 38 = .ok (.if_icmp .ne 37, 3) := by decide +kernel
theorem dM_at_41 : decode prog_13_method_75_code 41 = .ok (.aload_n 2, 1) := by decide +kernel
theorem dM_at_42 : decode prog_13_method_75_code 42 = .ok (.getfield 93, 3) := by decide +kernel
theorem dM_at_45 : decode prog_13_method_75_code 45 = .ok (.iconst 4, 1) := by decide +kernel
theorem dM_at_46 : decode prog_13_method_75_code 46 = .ok (.if_icmp .ne 29, 3) := by decide +kernel
theorem dM_at_49 : decode prog_13_method_75_code 49 = .ok (.aload_n 0, 1) := by decide +kernel
theorem dM_at_50 : decode prog_13_method_75_code 50 = .ok (.aload_n 1, 1) := by decide +kernel
theorem dM_at_51 : decode prog_13_method_75_code 51 = .ok (.aload_n 2, 1) := by decide +kernel
theorem dM_at_52 : decode prog_13_method_75_code 52 = .ok (.invokevirtual 167, 3) := by decide +kernel
theorem dM_at_55 : decode prog_13_method_75_code 55 = .ok (.istore_n 3, 1) := by decide +kernel
theorem dM_at_56 : decode prog_13_method_75_code 56 = .ok (.iload_n 3, 1) := by decide +kernel
theorem dM_at_57 : decode prog_13_method_75_code 57 = .ok (.ifCond .ge 11, 3) := by decide +kernel
theorem dM_at_60 : decode prog_13_method_75_code 60 = .ok (.aload_n 0, 1) := by decide +kernel
theorem dM_at_61 : decode prog_13_method_75_code 61 = .ok (.iconst 0, 1) := by decide +kernel
theorem dM_at_62 : decode prog_13_method_75_code 62 = .ok (.invokevirtual 120, 3) := by decide +kernel
theorem dM_at_65 : decode prog_13_method_75_code 65 = .ok (.goto 9, 3) := by decide +kernel
theorem dM_at_68 : decode prog_13_method_75_code 68 = .ok (.aload_n 0, 1) := by decide +kernel
theorem dM_at_69 : decode prog_13_method_75_code 69 = .ok (.aload_n 1, 1) := by decide +kernel
theorem dM_at_70 : decode prog_13_method_75_code 70 = .ok (.iload_n 3, 1) := by decide +kernel
theorem dM_at_71 : decode prog_13_method_75_code 71 = .ok (.invokevirtual 170, 3) := by decide +kernel
theorem dM_at_74 : decode prog_13_method_75_code 74 = .ok (.areturn, 1) := by decide +kernel
theorem dM_at_75 : decode prog_13_method_75_code 75 = .ok (.aload_n 1, 1) := by decide +kernel
theorem dM_at_76 : decode prog_13_method_75_code 76 = .ok (.getfield 93, 3) := by decide +kernel
theorem dM_at_79 : decode prog_13_method_75_code 79 = .ok (.iconst 5, 1) := by decide +kernel
theorem dM_at_80 : decode prog_13_method_75_code 80 = .ok (.if_icmp .eq 9, 3) := by decide +kernel
theorem dM_at_83 : decode prog_13_method_75_code 83 = .ok (.aload_n 0, 1) := by decide +kernel
theorem dM_at_84 : decode prog_13_method_75_code 84 = .ok (.iconst 1, 1) := by decide +kernel
theorem dM_at_85 : decode prog_13_method_75_code 85 = .ok (.invokevirtual 116, 3) := by decide +kernel
theorem dM_at_89 : decode prog_13_method_75_code 89 = .ok (.aload_n 2, 1) := by decide +kernel
theorem dM_at_90 : decode prog_13_method_75_code 90 = .ok (.getfield 93, 3) := by decide +kernel
theorem dM_at_93 : decode prog_13_method_75_code 93 = .ok (.iconst 5, 1) := by decide +kernel
theorem dM_at_94 : decode prog_13_method_75_code 94 = .ok (.if_icmp .ne 10, 3) := by decide +kernel
theorem dM_at_97 : decode prog_13_method_75_code 97 = .ok (.aload_n 0, 1) := by decide +kernel
theorem dM_at_98 : decode prog_13_method_75_code 98 = .ok (.aload_n 1, 1) := by decide +kernel
theorem dM_at_99 : decode prog_13_method_75_code 99 = .ok (.aload_n 2, 1) := by decide +kernel
theorem dM_at_100 : decode prog_13_method_75_code 100 = .ok (.invokevirtual 398, 3) := by decide +kernel
theorem dM_at_103 : decode prog_13_method_75_code 103 = .ok (.areturn, 1) := by decide +kernel
theorem dM_at_104 : decode prog_13_method_75_code 104 = .ok (.aload_n 2, 1) := by decide +kernel
theorem dM_at_105 : decode prog_13_method_75_code 105 = .ok (.getfield 93, 3) := by decide +kernel
theorem dM_at_108 : decode prog_13_method_75_code 108 = .ok (.iconst 3, 1) := by decide +kernel
theorem dM_at_109 : decode prog_13_method_75_code 109 = .ok (.if_icmp .eq 9, 3) := by decide +kernel
theorem dM_at_112 : decode prog_13_method_75_code 112 = .ok (.aload_n 0, 1) := by decide +kernel
theorem dM_at_113 : decode prog_13_method_75_code 113 = .ok (.iconst 1, 1) := by decide +kernel
theorem dM_at_114 : decode prog_13_method_75_code 114 = .ok (.invokevirtual 116, 3) := by decide +kernel
theorem dM_at_118 : decode prog_13_method_75_code 118 = .ok (.aload_n 2, 1) := by decide +kernel
theorem dM_at_119 : decode prog_13_method_75_code 119 = .ok (.getfield 96, 3) := by decide +kernel
theorem dM_at_122 : decode prog_13_method_75_code 122 = .ok (.lconst 0, 1) := by decide +kernel
theorem dM_at_123 : decode prog_13_method_75_code 123 = .ok (.lcmp, 1) := by decide +kernel
theorem dM_at_124 : decode prog_13_method_75_code 124 = .ok (.ifCond .ge 16, 3) := by decide +kernel
theorem dM_at_127 : decode prog_13_method_75_code 127 = .ok (.aload_n 2, 1) := by decide +kernel
theorem dM_at_128 : decode prog_13_method_75_code 128 = .ok (.getfield 96, 3) := by decide +kernel
theorem dM_at_131 : decode prog_13_method_75_code 131 = .ok (.aload_n 1, 1) := by decide +kernel
theorem dM_at_132 : decode prog_13_method_75_code 132 = .ok (.getfield 103, 3) := by decide +kernel
theorem dM_at_135 : decode prog_13_method_75_code 135 = .ok (.i2l, 1) := by decide +kernel
theorem dM_at_136 : decode prog_13_method_75_code 136 = .ok (.ladd, 1) := by decide +kernel
theorem dM_at_137 : decode prog_13_method_75_code 137 = .ok (.goto 7, 3) := by decide +kernel
theorem dM_at_140 : decode prog_13_method_75_code 140 = .ok (.aload_n 2, 1) := by decide +kernel
theorem dM_at_141 : decode prog_13_method_75_code 141 = .ok (.getfield 96, 3) := by decide +kernel
theorem dM_at_144 : decode prog_13_method_75_code 144 = .ok (.lstore_n 3, 1) := by decide +kernel
theorem dM_at_145 : decode prog_13_method_75_code 145 = .ok (.lload_n 3, 1) := by decide +kernel
theorem dM_at_146 : decode prog_13_method_75_code 146 = .ok (.lconst 0, 1) := by decide +kernel
theorem dM_at_147 : decode prog_13_method_75_code 147 = .ok (.lcmp, 1) := by decide +kernel
theorem dM_at_148 : decode prog_13_method_75_code 148 = .ok (.ifCond .lt 13, 3) := by decide +kernel
theorem dM_at_151 : decode prog_13_method_75_code 151 = .ok (.lload_n 3, 1) := by decide +kernel
theorem dM_at_152 : decode prog_13_method_75_code 152 = .ok (.aload_n 1, 1) := by decide +kernel
theorem dM_at_153 : decode prog_13_method_75_code 153 = .ok (.getfield 103, 3) := by decide +kernel
theorem dM_at_156 : decode prog_13_method_75_code 156 = .ok (.i2l, 1) := by decide +kernel
theorem dM_at_157 : decode prog_13_method_75_code 157 = .ok (.lcmp, 1) := by decide +kernel
theorem dM_at_158 : decode prog_13_method_75_code 158 = .ok (.ifCond .lt 11, 3) := by decide +kernel
theorem dM_at_161 : decode prog_13_method_75_code 161 = .ok (.aload_n 0, 1) := by decide +kernel
theorem dM_at_162 : decode prog_13_method_75_code 162 = .ok (.iconst 0, 1) := by decide +kernel
theorem dM_at_163 : decode prog_13_method_75_code 163 = .ok (.invokevirtual 120, 3) := by decide +kernel
theorem dM_at_166 : decode prog_13_method_75_code 166 = .ok (.goto 10, 3) := by decide +kernel
theorem dM_at_169 : decode prog_13_method_75_code 169 = .ok (.aload_n 0, 1) := by decide +kernel
theorem dM_at_170 : decode prog_13_method_75_code 170 = .ok (.aload_n 1, 1) := by decide +kernel
theorem dM_at_171 : decode prog_13_method_75_code 171 = .ok (.lload_n 3, 1) := by decide +kernel
theorem dM_at_172 : decode prog_13_method_75_code 172 = .ok (.l2i, 1) := by decide +kernel
theorem dM_at_173 : decode prog_13_method_75_code 173 = .ok (.invokevirtual 170, 3) := by decide +kernel
theorem dM_at_176 : decode prog_13_method_75_code 176 = .ok (.areturn, 1) := by decide +kernel
theorem dM_bad_0 : decode prog_13_method_28_code 0 = .ok (.aload_n 0, 1) := by decide +kernel
theorem dM_bad_1 : decode prog_13_method_28_code 1 = .ok (.iload_n 1, 1) := by decide +kernel
theorem dM_bad_2 : decode prog_13_method_28_code 2 = .ok (.putfield 42, 3) := by decide +kernel
theorem dM_bad_5 : decode prog_13_method_28_code 5 = .ok (.new 205, 3) := by decide +kernel
theorem dM_bad_8 : decode prog_13_method_28_code 8 = .ok (.dup, 1) := by decide +kernel
theorem dM_bad_9 : decode prog_13_method_28_code 9 = .ok (.invokespecial 207, 3) := by decide +kernel
theorem dM_bad_12 : decode prog_13_method_28_code 12 = .ok (.athrow, 1) := by decide +kernel
theorem dM_begin_0 : decode prog_13_method_78_code 0 = .ok (.aload_n 0, 1) := by decide +kernel
theorem dM_begin_1 : decode prog_13_method_78_code 1 = .ok (.iconst 0, 1) := by decide +kernel
theorem dM_begin_2 : decode prog_13_method_78_code 2 = .ok (.putfield 77, 3) := by decide +kernel
theorem dM_begin_5 : decode prog_13_method_78_code 5 = .ok (.aload_n 0, 1) := by decide +kernel
theorem dM_begin_6 : decode prog_13_method_78_code 6 = .ok (.invokevirtual 412, 3) := by decide +kernel
theorem dM_begin_9 : decode prog_13_method_78_code 9 = .ok (.aload_n 0, 1) := by decide +kernel
theorem dM_begin_10 : decode prog_13_method_78_code 10 = .ok (.iconst 0, 1) := by decide +kernel
theorem dM_begin_11 : decode prog_13_method_78_code 11 = .ok (.putfield 276, 3) := by decide +kernel
theorem dM_begin_14 : decode prog_13_method_78_code 14 = .ok (.aload_n 0, 1) := by decide +kernel
theorem dM_begin_15 : decode prog_13_method_78_code 15 = .ok (.ldc 48, 2) := by decide +kernel
theorem dM_begin_17 : decode prog_13_method_78_code 17 = .ok (.putfield 49, 3) := by decide +kernel
theorem dM_begin_20 : decode prog_13_method_78_code 20 = .ok (.return_, 1) := by decide +kernel
theorem dM_begins_0 : decode prog_13_method_68_code 0 = .ok (.iload_n 3, 1) := by decide +kernel
theorem dM_begins_1 : decode prog_13_method_68_code 1 = .ok (.ifCond .lt 16, 3) := by decide +kernel
theorem dM_begins_4 : decode prog_13_method_68_code 4 = .ok (.iload_n 3, 1) := by decide +kernel
theorem dM_begins_5 : decode prog_13_method_68_code 5 = .ok (.aload_n 2, 1) := by decide +kernel
theorem dM_begins_6 : decode prog_13_method_68_code 6 = .ok (.getfield 103, 3) := by decide +kernel
theorem dM_begins_9 : decode prog_13_method_68_code 9 = .ok (.iadd, 1) := by decide +kernel
theorem dM_begins_10 : decode prog_13_method_68_code 10 = .ok (.aload_n 1, 1) := by decide +kernel
theorem dM_begins_11 : decode prog_13_method_68_code 11 = .ok (.getfield 103, 3) := by decide +kernel
theorem dM_begins_14 : decode prog_13_method_68_code 14 = .ok (.if_icmp .le 5, 3) := by decide +kernel
theorem dM_begins_17 : decode prog_13_method_68_code 17 = .ok (.iconst 0, 1) := by decide +kernel
theorem dM_begins_18 : decode prog_13_method_68_code 18 = .ok (.ireturn, 1) := by decide +kernel
theorem dM_begins_19 : decode prog_13_method_68_code 19 = .ok (.iconst 0, 1) := by decide +kernel
theorem dM_begins_20 : decode prog_13_method_68_code 20 = .ok (.istore 4, 2) := by decide +kernel
theorem dM_begins_22 : decode prog_13_method_68_code 22 = .ok (.iload 4, 2) := by decide +kernel
theorem dM_begins_24 : decode prog_13_method_68_code 24 = .ok (.aload_n 2, 1) := by decide +kernel
theorem dM_begins_25 : decode prog_13_method_68_code 25 = .ok (.getfield 103, 3) := by decide +kernel
theorem dM_begins_28 : decode prog_13_method_68_code 28 = .ok (.if_icmp .ge 40, 3) := by decide +kernel
theorem dM_begins_31 : decode prog_13_method_68_code 31 = .ok (.aload_n 0, 1) := by decide +kernel
theorem dM_begins_32 : decode prog_13_method_68_code 32 = .ok (.getfield 15, 3) := by decide +kernel
theorem dM_begins_35 : decode prog_13_method_68_code 35 = .ok (.aload_n 1, 1) := by decide +kernel
theorem dM_begins_36 : decode prog_13_method_68_code 36 = .ok (.getfield 100, 3) := by decide +kernel
theorem dM_begins_39 : decode prog_13_method_68_code 39 = .ok (.iload_n 3, 1) := by decide +kernel
theorem dM_begins_40 : decode prog_13_method_68_code 40 = .ok (.iadd, 1) := by decide +kernel
theorem dM_begins_41 : decode prog_13_method_68_code 41 = .ok (.iload 4, 2) := by decide +kernel
theorem dM_begins_43 : decode prog_13_method_68_code 43 = .ok (.iadd, 1) := by decide +kernel
theorem dM_begins_44 : decode prog_13_method_68_code 44 = .ok (.baload, 1) := by decide +kernel
theorem dM_begins_45 : decode prog_13_method_68_code 45 = .ok (.aload_n 0, 1) := by decide +kernel
theorem dM_begins_46 : decode prog_13_method_68_code 46 = .ok (.getfield 15, 3) := by decide +kernel
theorem dM_begins_49 : decode prog_13_method_68_code 49 = .ok (.aload_n 2, 1) := by decide +kernel
theorem dM_begins_50 : decode prog_13_method_68_code 50 = .ok (.getfield 100, 3) := by decide +kernel
theorem dM_begins_53 : decode prog_13_method_68_code 53 = .ok (.iload 4, 2) := by decide +kernel
theorem dM_begins_55 : decode prog_13_method_68_code 55 = .ok (.iadd, 1) := by decide +kernel
theorem dM_begins_56 : decode prog_13_method_68_code 56 = .ok (.baload, 1) := by decide +kernel
theorem dM_begins_57 : decode prog_13_method_68_code 57 = .ok (.if_icmp .eq 5, 3) := by decide +kernel
theorem dM_begins_60 : decode prog_13_method_68_code 60 = .ok (.iconst 0, 1) := by decide +kernel
theorem dM_begins_61 : decode prog_13_method_68_code 61 = .ok (.ireturn, 1) := by decide +kernel
theorem dM_begins_62 : decode prog_13_method_68_code 62 = .ok (.iinc 4 1, 3) := by decide +kernel
theorem dM_begins_65 : decode prog_13_method_68_code 65 = .ok (.goto (-43), 3) := by decide +kernel
theorem dM_begins_68 : decode prog_13_method_68_code 68 = .ok (.iconst 1, 1) := by decide +kernel
theorem dM_begins_69 : decode prog_13_method_68_code 69 = .ok (.ireturn, 1) := by decide +kernel
theorem dM_binary0_0 : decode prog_13_method_89_code 0 = .ok (.aload_n 0, 1) := by decide +kernel
theorem dM_binary0_1 : decode prog_13_method_89_code 1 = .ok (.invokevirtual 424, 3) := by decide +kernel
theorem dM_binary0_4 : decode prog_13_method_89_code 4 = .ok (.aload_n 0, 1) := by decide +kernel
theorem dM_binary0_5 : decode prog_13_method_89_code 5 = .ok (.iload_n 1, 1) := by decide +kernel
theorem dM_binary0_6 : decode prog_13_method_89_code 6 = .ok (.invokevirtual 427, 3) := by decide +kernel
theorem dM_binary0_9 : decode prog_13_method_89_code 9 = .ok (.ifCond .ne 29, 3) := by decide +kernel
theorem dM_binary0_12 : decode prog_13_method_89_code 12 = .ok (.iload_n 2, 1) := by decide +kernel
theorem dM_binary0_13 : decode prog_13_method_89_code 13 = .ok (.ifCond .lt 25, 3) := by decide +kernel
theorem dM_binary0_16 : decode prog_13_method_89_code 16 = .ok (.iload_n 2, 1) := by decide +kernel
theorem dM_binary0_17 : decode prog_13_method_89_code 17 = .ok (.iconst 4, 1) := by decide +kernel
theorem dM_binary0_18 : decode prog_13_method_89_code 18 = .ok (.if_icmp .gt 20, 3) := by decide +kernel
theorem dM_binary0_21 : decode prog_13_method_89_code 21 = .ok (.aload_n 0, 1) := by decide +kernel
theorem dM_binary0_22 : decode prog_13_method_89_code 22 = .ok (.iload_n 3, 1) := by decide +kernel
theorem dM_binary0_23 : decode prog_13_method_89_code 23 = .ok (.invokevirtual 427, 3) := by decide +kernel
theorem dM_binary0_26 : decode prog_13_method_89_code 26 = .ok (.ifCond .ne 12, 3) := by decide +kernel
theorem dM_binary0_29 : decode prog_13_method_89_code 29 = .ok (.aload_n 0, 1) := by decide +kernel
theorem dM_binary0_30 : decode prog_13_method_89_code 30 = .ok (.iload 4, 2) := by decide +kernel
theorem dM_binary0_32 : decode prog_13_method_89_code 32 = .ok (.invokevirtual 427, 3) := by decide +kernel
theorem dM_binary0_35 : decode prog_13_method_89_code 35 = .ok (.ifCond .eq 11, 3) := by decide +kernel
theorem dM_binary0_38 : decode prog_13_method_89_code 38 = .ok (.aload_n 0, 1) := by decide +kernel
theorem dM_binary0_39 : decode prog_13_method_89_code 39 = .ok (.iconst 1, 1) := by decide +kernel
theorem dM_binary0_40 : decode prog_13_method_89_code 40 = .ok (.putfield 77, 3) := by decide +kernel
theorem dM_binary0_43 : decode prog_13_method_89_code 43 = .ok (.goto 13, 3) := by decide +kernel
theorem dM_binary0_46 : decode prog_13_method_89_code 46 = .ok (.aload_n 0, 1) := by decide +kernel
theorem dM_binary0_47 : decode prog_13_method_89_code 47 = .ok (.iload_n 1, 1) := by decide +kernel
theorem dM_binary0_48 : decode prog_13_method_89_code 48 = .ok (.iconst 0, 1) := by decide +kernel
theorem dM_binary0_49 : decode prog_13_method_89_code 49 = .ok (.iload_n 2, 1) := by decide +kernel
theorem dM_binary0_50 : decode prog_13_method_89_code 50 = .ok (.iload_n 3, 1) := by decide +kernel
theorem dM_binary0_51 : decode prog_13_method_89_code 51 = .ok (.iload 4, 2) := by decide +kernel
theorem dM_binary0_53 : decode prog_13_method_89_code 53 = .ok (.invokevirtual 442, 3) := by decide +kernel
theorem dM_binary0_56 : decode prog_13_method_89_code 56 = .ok (.return_, 1) := by decide +kernel
theorem dM_binary1_0 : decode prog_13_method_48_code 0 = .ok (.iload_n 1, 1) := by decide +kernel
theorem dM_binary1_1 : decode prog_13_method_48_code 1 = .ok (.tableswitch 182 0 3 #[31, 38, 99, 106], 31) := by decide +kernel
theorem dM_binary1_32 : decode prog_13_method_48_code 32 = .ok (.aload_n 0, 1) := by decide +kernel
theorem dM_binary1_33 : decode prog_13_method_48_code 33 = .ok (.aload_n 2, 1) := by decide +kernel
theorem dM_binary1_34 : decode prog_13_method_48_code 34 = .ok (.aload_n 3, 1) := by decide +kernel
theorem dM_binary1_35 : decode prog_13_method_48_code 35 = .ok (.invokevirtual 302, 3) := by decide +kernel
theorem dM_binary1_38 : decode prog_13_method_48_code 38 = .ok (.areturn, 1) := by decide +kernel
theorem dM_binary1_39 : decode prog_13_method_48_code 39 = .ok (.aload_n 2, 1) := by decide +kernel
theorem dM_binary1_40 : decode prog_13_method_48_code 40 = .ok (.getfield 93, 3) := by decide +kernel
theorem dM_binary1_43 : decode prog_13_method_48_code 43 = .ok (.iconst 3, 1) := by decide +kernel
theorem dM_binary1_44 : decode prog_13_method_48_code 44 = .ok (.if_icmp .ne 25, 3) := by decide +kernel
theorem dM_binary1_47 : decode prog_13_method_48_code 47 = .ok (.aload_n 3, 1) := by decide +kernel
theorem dM_binary1_48 : decode prog_13_method_48_code 48 = .ok (.getfield 93, 3) := by decide +kernel
theorem dM_binary1_51 : decode prog_13_method_48_code 51 = .ok (.iconst 3, 1) := by decide +kernel
theorem dM_binary1_52 : decode prog_13_method_48_code 52 = .ok (.if_icmp .ne 17, 3) := by decide +kernel
theorem dM_binary1_55 : decode prog_13_method_48_code 55 = .ok (.aload_n 0, 1) := by decide +kernel
theorem dM_binary1_56 : decode prog_13_method_48_code 56 = .ok (.aload_n 2, 1) := by decide +kernel
theorem dM_binary1_57 : decode prog_13_method_48_code 57 = .ok (.getfield 96, 3) := by decide +kernel
theorem dM_binary1_60 : decode prog_13_method_48_code 60 = .ok (.aload_n 3, 1) := by decide +kernel
theorem dM_binary1_61 : decode prog_13_method_48_code 61 = .ok (.getfield 96, 3) := by decide +kernel
theorem dM_binary1_64 : decode prog_13_method_48_code 64 = .ok (.lsub, 1) := by decide +kernel
theorem dM_binary1_65 : decode prog_13_method_48_code 65 = .ok (.invokevirtual 265, 3) := by decide +kernel
theorem dM_binary1_68 : decode prog_13_method_48_code 68 = .ok (.areturn, 1) := by decide +kernel
theorem dM_binary1_69 : decode prog_13_method_48_code 69 = .ok (.aload_n 2, 1) := by decide +kernel
theorem dM_binary1_70 : decode prog_13_method_48_code 70 = .ok (.getfield 93, 3) := by decide +kernel
theorem dM_binary1_73 : decode prog_13_method_48_code 73 = .ok (.iconst 5, 1) := by decide +kernel
theorem dM_binary1_74 : decode prog_13_method_48_code 74 = .ok (.if_icmp .ne 20, 3) := by decide +kernel
theorem dM_binary1_77 : decode prog_13_method_48_code 77 = .ok (.aload_n 3, 1) := by decide +kernel
theorem dM_binary1_78 : decode prog_13_method_48_code 78 = .ok (.getfield 93, 3) := by decide +kernel
theorem dM_binary1_81 : decode prog_13_method_48_code 81 = .ok (.iconst 5, 1) := by decide +kernel
theorem dM_binary1_82 : decode prog_13_method_48_code 82 = .ok (.if_icmp .ne 12, 3) := by decide +kernel
theorem dM_binary1_85 : decode prog_13_method_48_code 85 = .ok (.aload_n 0, 1) := by decide +kernel
theorem dM_binary1_86 : decode prog_13_method_48_code 86 = .ok (.aload_n 2, 1) := by decide +kernel
theorem dM_binary1_87 : decode prog_13_method_48_code 87 = .ok (.aload_n 3, 1) := by decide +kernel
theorem dM_binary1_88 : decode prog_13_method_48_code 88 = .ok (.invokevirtual 305, 3) := by decide +kernel
theorem dM_binary1_91 : decode prog_13_method_48_code 91 = .ok (.goto 8, 3) := by decide +kernel
theorem dM_binary1_94 : decode prog_13_method_48_code 94 = .ok (.aload_n 0, 1) := by decide +kernel
theorem dM_binary1_95 : decode prog_13_method_48_code 95 = .ok (.iconst 1, 1) := by decide +kernel
theorem dM_binary1_96 : decode prog_13_method_48_code 96 = .ok (.invokevirtual 116, 3) := by decide +kernel
theorem dM_binary1_99 : decode prog_13_method_48_code 99 = .ok (.areturn, 1) := by decide +kernel
theorem dM_binary1_100 : decode prog_13_method_48_code 100 = .ok (.aload_n 0, 1) := by decide +kernel
theorem dM_binary1_101 : decode prog_13_method_48_code 101 = .ok (.aload_n 2, 1) := by decide +kernel
theorem dM_binary1_102 : decode prog_13_method_48_code 102 = .ok (.aload_n 3, 1) := by decide +kernel
theorem dM_binary1_103 : decode prog_13_method_48_code 103 = .ok (.invokevirtual 308, 3) := by decide +kernel
theorem dM_binary1_106 : decode prog_13_method_48_code 106 = .ok (.areturn, 1) := by decide +kernel
theorem dM_binary1_107 : decode prog_13_method_48_code 107 = .ok (.aload_n 2, 1) := by decide +kernel
theorem dM_binary1_108 : decode prog_13_method_48_code 108 = .ok (.getfield 93, 3) := by decide +kernel
theorem dM_binary1_111 : decode prog_13_method_48_code 111 = .ok (.iconst 4, 1) := by decide +kernel
theorem dM_binary1_112 : decode prog_13_method_48_code 112 = .ok (.if_icmp .ne 18, 3) := by decide +kernel
theorem dM_binary1_115 : decode prog_13_method_48_code 115 = .ok (.aload_n 3, 1) := by decide +kernel
theorem dM_binary1_116 : decode prog_13_method_48_code 116 = .ok (.getfield 93, 3) := by decide +kernel
theorem dM_binary1_119 : decode prog_13_method_48_code 119 = .ok (.iconst 4, 1) := by decide +kernel
theorem dM_binary1_120 : decode prog_13_method_48_code 120 = .ok (.if_icmp .ne 10, 3) := by decide +kernel
theorem dM_binary1_123 : decode prog_13_method_48_code 123 = .ok (.aload_n 0, 1) := by decide +kernel
theorem dM_binary1_124 : decode prog_13_method_48_code 124 = .ok (.aload_n 2, 1) := by decide +kernel
theorem dM_binary1_125 : decode prog_13_method_48_code 125 = .ok (.aload_n 3, 1) := by decide +kernel
theorem dM_binary1_126 : decode prog_13_method_48_code 126 = .ok (.invokevirtual 311, 3) := by decide +kernel
theorem dM_binary1_129 : decode prog_13_method_48_code 129 = .ok (.areturn, 1) := by decide +kernel
theorem dM_binary1_130 : decode prog_13_method_48_code 130 = .ok (.aload_n 2, 1) := by decide +kernel
theorem dM_binary1_131 : decode prog_13_method_48_code 131 = .ok (.getfield 93, 3) := by decide +kernel
theorem dM_binary1_134 : decode prog_13_method_48_code 134 = .ok (.iconst 3, 1) := by decide +kernel
theorem dM_binary1_135 : decode prog_13_method_48_code 135 = .ok (.if_icmp .ne 11, 3) := by decide +kernel
theorem dM_binary1_138 : decode prog_13_method_48_code 138 = .ok (.aload_n 3, 1) := by decide +kernel
theorem dM_binary1_139 : decode prog_13_method_48_code 139 = .ok (.getfield 93, 3) := by decide +kernel
theorem dM_binary1_142 : decode prog_13_method_48_code 142 = .ok (.iconst 3, 1) := by decide +kernel
theorem dM_binary1_143 : decode prog_13_method_48_code 143 = .ok (.if_icmp .eq 9, 3) := by decide +kernel
theorem dM_binary1_146 : decode prog_13_method_48_code 146 = .ok (.aload_n 0, 1) := by decide +kernel
theorem dM_binary1_147 : decode prog_13_method_48_code 147 = .ok (.iconst 1, 1) := by decide +kernel
theorem dM_binary1_148 : decode prog_13_method_48_code 148 = .ok (.invokevirtual 116, 3) := by decide +kernel
theorem dM_binary1_152 : decode prog_13_method_48_code 152 = .ok (.aload_n 3, 1) := by decide +kernel
theorem dM_binary1_153 : decode prog_13_method_48_code 153 = .ok (.getfield 96, 3) := by decide +kernel
theorem dM_binary1_156 : decode prog_13_method_48_code 156 = .ok (.lconst 0, 1) := by decide +kernel
theorem dM_binary1_157 : decode prog_13_method_48_code 157 = .ok (.lcmp, 1) := by decide +kernel
theorem dM_binary1_158 : decode prog_13_method_48_code 158 = .ok (.ifCond .ne 11, 3) := by decide +kernel
theorem dM_binary1_161 : decode prog_13_method_48_code 161 = .ok (.aload_n 0, 1) := by decide +kernel
theorem dM_binary1_162 : decode prog_13_method_48_code 162 = .ok (.iconst 3, 1) := by decide +kernel
theorem dM_binary1_163 : decode prog_13_method_48_code 163 = .ok (.invokevirtual 116, 3) := by decide +kernel
theorem dM_binary1_169 : decode prog_13_method_48_code 169 = .ok (.aload_n 0, 1) := by decide +kernel
theorem dM_binary1_170 : decode prog_13_method_48_code 170 = .ok (.aload_n 2, 1) := by decide +kernel
theorem dM_binary1_171 : decode prog_13_method_48_code 171 = .ok (.getfield 96, 3) := by decide +kernel
theorem dM_binary1_174 : decode prog_13_method_48_code 174 = .ok (.aload_n 3, 1) := by decide +kernel
theorem dM_binary1_175 : decode prog_13_method_48_code 175 = .ok (.getfield 96, 3) := by decide +kernel
theorem dM_binary1_178 : decode prog_13_method_48_code 178 = .ok (.ldiv, 1) := by decide +kernel
theorem dM_binary1_179 : decode prog_13_method_48_code 179 = .ok (.invokevirtual 265, 3) := by decide +kernel
theorem dM_binary1_182 : decode prog_13_method_48_code 182 = .ok (.areturn, 1) := by decide +kernel
theorem dM_binary1_183 : decode prog_13_method_48_code 183 = .ok (.aload_n 2, 1) := by decide +kernel
theorem dM_binary1_184 : decode prog_13_method_48_code 184 = .ok (.getfield 93, 3) := by decide +kernel
theorem dM_binary1_187 : decode prog_13_method_48_code 187 = .ok (.iconst 3, 1) := by decide +kernel
theorem dM_binary1_188 : decode prog_13_method_48_code 188 = .ok (.if_icmp .ne 11, 3) := by decide +kernel
theorem dM_binary1_191 : decode prog_13_method_48_code 191 = .ok (.aload_n 3, 1) := by decide +kernel
theorem dM_binary1_192 : decode prog_13_method_48_code 192 = .ok (.getfield 93, 3) := by decide +kernel
theorem dM_binary1_195 : decode prog_13_method_48_code 195 = .ok (.iconst 3, 1) := by decide +kernel
theorem dM_binary1_196 : decode prog_13_method_48_code 196 = .ok (.if_icmp .eq 9, 3) := by decide +kernel
theorem dM_binary1_199 : decode prog_13_method_48_code 199 = .ok (.aload_n 0, 1) := by decide +kernel
theorem dM_binary1_200 : decode prog_13_method_48_code 200 = .ok (.iconst 1, 1) := by decide +kernel
theorem dM_binary1_201 : decode prog_13_method_48_code 201 = .ok (.invokevirtual 116, 3) := by decide +kernel
theorem dM_binary1_205 : decode prog_13_method_48_code 205 = .ok (.aload_n 3, 1) := by decide +kernel
theorem dM_binary1_206 : decode prog_13_method_48_code 206 = .ok (.getfield 96, 3) := by decide +kernel
theorem dM_binary1_209 : decode prog_13_method_48_code 209 = .ok (.lconst 0, 1) := by decide +kernel
theorem dM_binary1_210 : decode prog_13_method_48_code 210 = .ok (.lcmp, 1) := by decide +kernel
theorem dM_binary1_211 : decode prog_13_method_48_code 211 = .ok (.ifCond .ne 11, 3) := by decide +kernel
theorem dM_binary1_214 : decode prog_13_method_48_code 214 = .ok (.aload_n 0, 1) := by decide +kernel
theorem dM_binary1_215 : decode prog_13_method_48_code 215 = .ok (.iconst 3, 1) := by decide +kernel
theorem dM_binary1_216 : decode prog_13_method_48_code 216 = .ok (.invokevirtual 116, 3) := by decide +kernel
theorem dM_binary1_222 : decode prog_13_method_48_code 222 = .ok (.aload_n 0, 1) := by decide +kernel
theorem dM_binary1_223 : decode prog_13_method_48_code 223 = .ok (.aload_n 2, 1) := by decide +kernel
theorem dM_binary1_224 : decode prog_13_method_48_code 224 = .ok (.getfield 96, 3) := by decide +kernel
theorem dM_binary1_227 : decode prog_13_method_48_code 227 = .ok (.aload_n 3, 1) := by decide +kernel
theorem dM_binary1_228 : decode prog_13_method_48_code 228 = .ok (.getfield 96, 3) := by decide +kernel
theorem dM_binary1_231 : decode prog_13_method_48_code 231 = .ok (.lrem, 1) := by decide +kernel
theorem dM_binary1_232 : decode prog_13_method_48_code 232 = .ok (.invokevirtual 265, 3) := by decide +kernel
theorem dM_binary1_235 : decode prog_13_method_48_code 235 = .ok (.areturn, 1) := by decide +kernel
theorem dM_blanks_0 : decode prog_13_method_31_code 0 = .ok (.aload_n 0, 1) := by decide +kernel
theorem dM_blanks_1 : decode prog_13_method_31_code 1 = .ok (.invokevirtual 217, 3) := by decide +kernel
theorem dM_blanks_4 : decode prog_13_method_31_code 4 = .ok (.bipush 32, 2) := by decide +kernel
theorem dM_blanks_6 : decode prog_13_method_31_code 6 = .ok (.if_icmp .eq 39, 3) := by decide +kernel
theorem dM_blanks_9 : decode prog_13_method_31_code 9 = .ok (.aload_n 0, 1) := by decide +kernel
theorem dM_blanks_10 : decode prog_13_method_31_code 10 = .ok (.invokevirtual 217, 3) := by decide +kernel
theorem dM_blanks_13 : decode prog_13_method_31_code 13 = .ok (.bipush 9, 2) := by decide +kernel
theorem dM_blanks_15 : decode prog_13_method_31_code 15 = .ok (.if_icmp .lt 43, 3) := by decide +kernel
theorem dM_blanks_18 : decode prog_13_method_31_code 18 = .ok (.aload_n 0, 1) := by decide +kernel
theorem dM_blanks_19 : decode prog_13_method_31_code 19 = .ok (.invokevirtual 217, 3) := by decide +kernel
theorem dM_blanks_22 : decode prog_13_method_31_code 22 = .ok (.bipush 13, 2) := by decide +kernel
theorem dM_blanks_24 : decode prog_13_method_31_code 24 = .ok (.if_icmp .gt 34, 3) := by decide +kernel
theorem dM_blanks_27 : decode prog_13_method_31_code 27 = .ok (.aload_n 0, 1) := by decide +kernel
theorem dM_blanks_28 : decode prog_13_method_31_code 28 = .ok (.invokevirtual 217, 3) := by decide +kernel
theorem dM_blanks_31 : decode prog_13_method_31_code 31 = .ok (.bipush 11, 2) := by decide +kernel
theorem dM_blanks_33 : decode prog_13_method_31_code 33 = .ok (.if_icmp .eq 25, 3) := by decide +kernel
theorem dM_blanks_36 : decode prog_13_method_31_code 36 = .ok (.aload_n 0, 1) := by decide +kernel
theorem dM_blanks_37 : decode prog_13_method_31_code 37 = .ok (.invokevirtual 217, 3) := by decide +kernel
theorem dM_blanks_40 : decode prog_13_method_31_code 40 = .ok (.bipush 12, 2) := by decide +kernel
theorem dM_blanks_42 : decode prog_13_method_31_code 42 = .ok (.if_icmp .eq 16, 3) := by decide +kernel
theorem dM_blanks_45 : decode prog_13_method_31_code 45 = .ok (.aload_n 0, 1) := by decide +kernel
theorem dM_blanks_46 : decode prog_13_method_31_code 46 = .ok (.dup, 1) := by decide +kernel
theorem dM_blanks_47 : decode prog_13_method_31_code 47 = .ok (.getfield 208, 3) := by decide +kernel
theorem dM_blanks_50 : decode prog_13_method_31_code 50 = .ok (.iconst 1, 1) := by decide +kernel
theorem dM_blanks_51 : decode prog_13_method_31_code 51 = .ok (.iadd, 1) := by decide +kernel
theorem dM_blanks_52 : decode prog_13_method_31_code 52 = .ok (.putfield 208, 3) := by decide +kernel
theorem dM_blanks_55 : decode prog_13_method_31_code 55 = .ok (.goto (-55), 3) := by decide +kernel
theorem dM_blanks_58 : decode prog_13_method_31_code 58 = .ok (.return_, 1) := by decide +kernel
theorem dM_cased_0 : decode prog_13_method_64_code 0 = .ok (.aload_n 0, 1) := by decide +kernel
theorem dM_cased_1 : decode prog_13_method_64_code 1 = .ok (.getfield 123, 3) := by decide +kernel
theorem dM_cased_4 : decode prog_13_method_64_code 4 = .ok (.istore_n 3, 1) := by decide +kernel
theorem dM_cased_5 : decode prog_13_method_64_code 5 = .ok (.iconst 0, 1) := by decide +kernel
theorem dM_cased_6 : decode prog_13_method_64_code 6 = .ok (.istore 4, 2) := by decide +kernel
theorem dM_cased_8 : decode prog_13_method_64_code 8 = .ok (.iload 4, 2) := by decide +kernel
theorem dM_cased_10 : decode prog_13_method_64_code 10 = .ok (.aload_n 0, 1) := by decide +kernel
theorem dM_cased_11 : decode prog_13_method_64_code 11 = .ok (.aload_n 1, 1) := by decide +kernel
theorem dM_cased_12 : decode prog_13_method_64_code 12 = .ok (.invokevirtual 341, 3) := by decide +kernel
theorem dM_cased_15 : decode prog_13_method_64_code 15 = .ok (.getfield 103, 3) := by decide +kernel
theorem dM_cased_18 : decode prog_13_method_64_code 18 = .ok (.if_icmp .ge 74, 3) := by decide +kernel
theorem dM_cased_21 : decode prog_13_method_64_code 21 = .ok (.aload_n 0, 1) := by decide +kernel
theorem dM_cased_22 : decode prog_13_method_64_code 22 = .ok (.getfield 15, 3) := by decide +kernel
theorem dM_cased_25 : decode prog_13_method_64_code 25 = .ok (.aload_n 1, 1) := by decide +kernel
theorem dM_cased_26 : decode prog_13_method_64_code 26 = .ok (.getfield 100, 3) := by decide +kernel
theorem dM_cased_29 : decode prog_13_method_64_code 29 = .ok (.iload 4, 2) := by decide +kernel
theorem dM_cased_31 : decode prog_13_method_64_code 31 = .ok (.iadd, 1) := by decide +kernel
theorem dM_cased_32 : decode prog_13_method_64_code 32 = .ok (.baload, 1) := by decide +kernel
theorem dM_cased_33 : decode prog_13_method_64_code 33 = .ok (.istore 5, 2) := by decide +kernel
theorem dM_cased_35 : decode prog_13_method_64_code 35 = .ok (.iload_n 2, 1) := by decide +kernel
theorem dM_cased_36 : decode prog_13_method_64_code 36 = .ok (.ifCond .eq 23, 3) := by decide +kernel
theorem dM_cased_39 : decode prog_13_method_64_code 39 = .ok (.iload 5, 2) := by decide +kernel
theorem dM_cased_41 : decode prog_13_method_64_code 41 = .ok (.bipush 97, 2) := by decide +kernel
theorem dM_cased_43 : decode prog_13_method_64_code 43 = .ok (.if_icmp .lt 16, 3) := by decide +kernel
theorem dM_cased_46 : decode prog_13_method_64_code 46 = .ok (.iload 5, 2) := by decide +kernel
theorem dM_cased_48 : decode prog_13_method_64_code 48 = .ok (.bipush 122, 2) := by decide +kernel
theorem dM_cased_50 : decode prog_13_method_64_code 50 = .ok (.if_icmp .gt 9, 3) := by decide +kernel
theorem dM_cased_53 : decode prog_13_method_64_code 53 = .ok (.iinc 5 (-32), 3) := by decide +kernel
theorem dM_cased_56 : decode prog_13_method_64_code 56 = .ok (.goto 24, 3) := by decide +kernel
theorem dM_cased_59 : decode prog_13_method_64_code 59 = .ok (.iload_n 2, 1) := by decide +kernel
theorem dM_cased_60 : decode prog_13_method_64_code 60 = .ok (.ifCond .ne 20, 3) := by decide +kernel
theorem dM_cased_63 : decode prog_13_method_64_code 63 = .ok (.iload 5, 2) := by decide +kernel
theorem dM_cased_65 : decode prog_13_method_64_code 65 = .ok (.bipush 65, 2) := by decide +kernel
theorem dM_cased_67 : decode prog_13_method_64_code 67 = .ok (.if_icmp .lt 13, 3) := by decide +kernel
theorem dM_cased_70 : decode prog_13_method_64_code 70 = .ok (.iload 5, 2) := by decide +kernel
theorem dM_cased_72 : decode prog_13_method_64_code 72 = .ok (.bipush 90, 2) := by decide +kernel
theorem dM_cased_74 : decode prog_13_method_64_code 74 = .ok (.if_icmp .gt 6, 3) := by decide +kernel
theorem dM_cased_77 : decode prog_13_method_64_code 77 = .ok (.iinc 5 32, 3) := by decide +kernel
theorem dM_cased_80 : decode prog_13_method_64_code 80 = .ok (.aload_n 0, 1) := by decide +kernel
theorem dM_cased_81 : decode prog_13_method_64_code 81 = .ok (.iload 5, 2) := by decide +kernel
theorem dM_cased_83 : decode prog_13_method_64_code 83 = .ok (.invokevirtual 135, 3) := by decide +kernel
theorem dM_cased_86 : decode prog_13_method_64_code 86 = .ok (.iinc 4 1, 3) := by decide +kernel
theorem dM_cased_89 : decode prog_13_method_64_code 89 = .ok (.goto (-81), 3) := by decide +kernel
theorem dM_cased_92 : decode prog_13_method_64_code 92 = .ok (.aload_n 0, 1) := by decide +kernel
theorem dM_cased_93 : decode prog_13_method_64_code 93 = .ok (.iload_n 3, 1) := by decide +kernel
theorem dM_cased_94 : decode prog_13_method_64_code 94 = .ok (.invokevirtual 139, 3) := by decide +kernel
theorem dM_cased_97 : decode prog_13_method_64_code 97 = .ok (.areturn, 1) := by decide +kernel
theorem dM_clear_0 : decode prog_13_method_18_code 0 = .ok (.aload_n 0, 1) := by decide +kernel
theorem dM_clear_1 : decode prog_13_method_18_code 1 = .ok (.iconst 0, 1) := by decide +kernel
theorem dM_clear_2 : decode prog_13_method_18_code 2 = .ok (.putfield 89, 3) := by decide +kernel
theorem dM_clear_5 : decode prog_13_method_18_code 5 = .ok (.aload_n 0, 1) := by decide +kernel
theorem dM_clear_6 : decode prog_13_method_18_code 6 = .ok (.iconst 0, 1) := by decide +kernel
theorem dM_clear_7 : decode prog_13_method_18_code 7 = .ok (.putfield 123, 3) := by decide +kernel
theorem dM_clear_10 : decode prog_13_method_18_code 10 = .ok (.aload_n 0, 1) := by decide +kernel
theorem dM_clear_11 : decode prog_13_method_18_code 11 = .ok (.iconst 0, 1) := by decide +kernel
theorem dM_clear_12 : decode prog_13_method_18_code 12 = .ok (.putfield 145, 3) := by decide +kernel
theorem dM_clear_15 : decode prog_13_method_18_code 15 = .ok (.aload_n 0, 1) := by decide +kernel
theorem dM_clear_16 : decode prog_13_method_18_code 16 = .ok (.iconst 0, 1) := by decide +kernel
theorem dM_clear_17 : decode prog_13_method_18_code 17 = .ok (.putfield 142, 3) := by decide +kernel
theorem dM_clear_20 : decode prog_13_method_18_code 20 = .ok (.aload_n 0, 1) := by decide +kernel
theorem dM_clear_21 : decode prog_13_method_18_code 21 = .ok (.iconst 0, 1) := by decide +kernel
theorem dM_clear_22 : decode prog_13_method_18_code 22 = .ok (.putfield 156, 3) := by decide +kernel
theorem dM_clear_25 : decode prog_13_method_18_code 25 = .ok (.return_, 1) := by decide +kernel
theorem dM_compare_0 : decode prog_13_method_91_code 0 = .ok (.aload_n 0, 1) := by decide +kernel
theorem dM_compare_1 : decode prog_13_method_91_code 1 = .ok (.invokevirtual 424, 3) := by decide +kernel
theorem dM_compare_4 : decode prog_13_method_91_code 4 = .ok (.aload_n 0, 1) := by decide +kernel
theorem dM_compare_5 : decode prog_13_method_91_code 5 = .ok (.iload_n 1, 1) := by decide +kernel
theorem dM_compare_6 : decode prog_13_method_91_code 6 = .ok (.invokevirtual 427, 3) := by decide +kernel
theorem dM_compare_9 : decode prog_13_method_91_code 9 = .ok (.ifCond .ne 11, 3) := by decide +kernel
theorem dM_compare_12 : decode prog_13_method_91_code 12 = .ok (.aload_n 0, 1) := by decide +kernel
theorem dM_compare_13 : decode prog_13_method_91_code 13 = .ok (.iload_n 2, 1) := by decide +kernel
theorem dM_compare_14 : decode prog_13_method_91_code 14 = .ok (.invokevirtual 427, 3) := by decide +kernel
theorem dM_compare_17 : decode prog_13_method_91_code 17 = .ok (.ifCond .eq 9, 3) := by decide +kernel
theorem dM_compare_20 : decode prog_13_method_91_code 20 = .ok (.aload_n 0, 1) := by decide +kernel
theorem dM_compare_21 : decode prog_13_method_91_code 21 = .ok (.iconst 1, 1) := by decide +kernel
theorem dM_compare_22 : decode prog_13_method_91_code 22 = .ok (.invokevirtual 418, 3) := by decide +kernel
theorem dM_compare_25 : decode prog_13_method_91_code 25 = .ok (.ireturn, 1) := by decide +kernel
theorem dM_compare_26 : decode prog_13_method_91_code 26 = .ok (.aload_n 0, 1) := by decide +kernel
theorem dM_compare_27 : decode prog_13_method_91_code 27 = .ok (.aload_n 0, 1) := by decide +kernel
theorem dM_compare_28 : decode prog_13_method_91_code 28 = .ok (.iload_n 1, 1) := by decide +kernel
theorem dM_compare_29 : decode prog_13_method_91_code 29 = .ok (.invokevirtual 437, 3) := by decide +kernel
theorem dM_compare_32 : decode prog_13_method_91_code 32 = .ok (.aload_n 0, 1) := by decide +kernel
theorem dM_compare_33 : decode prog_13_method_91_code 33 = .ok (.iload_n 2, 1) := by decide +kernel
theorem dM_compare_34 : decode prog_13_method_91_code 34 = .ok (.invokevirtual 437, 3) := by decide +kernel
theorem dM_compare_37 : decode prog_13_method_91_code 37 = .ok (.invokevirtual 176, 3) := by decide +kernel
theorem dM_compare_40 : decode prog_13_method_91_code 40 = .ok (.istore_n 3, 1) := by decide +kernel
theorem dM_compare_41 : decode prog_13_method_91_code 41 = .ok (.iload_n 3, 1) := by decide +kernel
theorem dM_compare_42 : decode prog_13_method_91_code 42 = .ok (.ifCond .ge 7, 3) := by decide +kernel
theorem dM_compare_45 : decode prog_13_method_91_code 45 = .ok (.iconst (-1), 1) := by decide +kernel
theorem dM_compare_46 : decode prog_13_method_91_code 46 = .ok (.goto 12, 3) := by decide +kernel
theorem dM_compare_49 : decode prog_13_method_91_code 49 = .ok (.iload_n 3, 1) := by decide +kernel
theorem dM_compare_50 : decode prog_13_method_91_code 50 = .ok (.ifCond .le 7, 3) := by decide +kernel
theorem dM_compare_53 : decode prog_13_method_91_code 53 = .ok (.iconst 1, 1) := by decide +kernel
theorem dM_compare_54 : decode prog_13_method_91_code 54 = .ok (.goto 4, 3) := by decide +kernel
theorem dM_compare_57 : decode prog_13_method_91_code 57 = .ok (.iconst 0, 1) := by decide +kernel
theorem dM_compare_58 : decode prog_13_method_91_code 58 = .ok (.ireturn, 1) := by decide +kernel
theorem dM_contains_0 : decode prog_13_method_70_code 0 = .ok (.aload_n 0, 1) := by decide +kernel
theorem dM_contains_1 : decode prog_13_method_70_code 1 = .ok (.aload_n 1, 1) := by decide +kernel
theorem dM_contains_2 : decode prog_13_method_70_code 2 = .ok (.aload_n 2, 1) := by decide +kernel
theorem dM_contains_3 : decode prog_13_method_70_code 3 = .ok (.invokevirtual 384, 3) := by decide +kernel
theorem dM_contains_6 : decode prog_13_method_70_code 6 = .ok (.ifCond .ne 5, 3) := by decide +kernel
theorem dM_contains_9 : decode prog_13_method_70_code 9 = .ok (.iconst 0, 1) := by decide +kernel
theorem dM_contains_10 : decode prog_13_method_70_code 10 = .ok (.ireturn, 1) := by decide +kernel
theorem dM_contains_11 : decode prog_13_method_70_code 11 = .ok (.aload_n 1, 1) := by decide +kernel
theorem dM_contains_12 : decode prog_13_method_70_code 12 = .ok (.getfield 93, 3) := by decide +kernel
theorem dM_contains_15 : decode prog_13_method_70_code 15 = .ok (.iconst 4, 1) := by decide +kernel
theorem dM_contains_16 : decode prog_13_method_70_code 16 = .ok (.if_icmp .ne 38, 3) := by decide +kernel
theorem dM_contains_19 : decode prog_13_method_70_code 19 = .ok (.iconst 0, 1) := by decide +kernel
theorem dM_contains_20 : decode prog_13_method_70_code 20 = .ok (.istore_n 3, 1) := by decide +kernel
theorem dM_contains_21 : decode prog_13_method_70_code 21 = .ok (.iload_n 3, 1) := by decide +kernel
theorem dM_contains_22 : decode prog_13_method_70_code 22 = .ok (.aload_n 2, 1) := by decide +kernel
theorem dM_contains_23 : decode prog_13_method_70_code 23 = .ok (.getfield 103, 3) := by decide +kernel
theorem dM_contains_26 : decode prog_13_method_70_code 26 = .ok (.iadd, 1) := by decide +kernel
theorem dM_contains_27 : decode prog_13_method_70_code 27 = .ok (.aload_n 1, 1) := by decide +kernel
theorem dM_contains_28 : decode prog_13_method_70_code 28 = .ok (.getfield 103, 3) := by decide +kernel
theorem dM_contains_31 : decode prog_13_method_70_code 31 = .ok (.if_icmp .gt 21, 3) := by decide +kernel
theorem dM_contains_34 : decode prog_13_method_70_code 34 = .ok (.aload_n 0, 1) := by decide +kernel
theorem dM_contains_35 : decode prog_13_method_70_code 35 = .ok (.aload_n 1, 1) := by decide +kernel
theorem dM_contains_36 : decode prog_13_method_70_code 36 = .ok (.aload_n 2, 1) := by decide +kernel
theorem dM_contains_37 : decode prog_13_method_70_code 37 = .ok (.iload_n 3, 1) := by decide +kernel
theorem dM_contains_38 : decode prog_13_method_70_code 38 = .ok (.invokevirtual 387, 3) := by decide +kernel
theorem dM_contains_41 : decode prog_13_method_70_code 41 = .ok (.ifCond .eq 5, 3) := by decide +kernel
theorem dM_contains_44 : decode prog_13_method_70_code 44 = .ok (.iconst 1, 1) := by decide +kernel
theorem dM_contains_45 : decode prog_13_method_70_code 45 = .ok (.ireturn, 1) := by decide +kernel
theorem dM_contains_46 : decode prog_13_method_70_code 46 = .ok (.iinc 3 1, 3) := by decide +kernel
theorem dM_contains_49 : decode prog_13_method_70_code 49 = .ok (.goto (-28), 3) := by decide +kernel
theorem dM_contains_52 : decode prog_13_method_70_code 52 = .ok (.iconst 0, 1) := by decide +kernel
theorem dM_contains_53 : decode prog_13_method_70_code 53 = .ok (.ireturn, 1) := by decide +kernel
theorem dM_contains_54 : decode prog_13_method_70_code 54 = .ok (.aload_n 1, 1) := by decide +kernel
theorem dM_contains_55 : decode prog_13_method_70_code 55 = .ok (.getfield 93, 3) := by decide +kernel
theorem dM_contains_58 : decode prog_13_method_70_code 58 = .ok (.iconst 5, 1) := by decide +kernel
theorem dM_contains_59 : decode prog_13_method_70_code 59 = .ok (.if_icmp .ge 10, 3) := by decide +kernel
theorem dM_contains_62 : decode prog_13_method_70_code 62 = .ok (.aload_n 0, 1) := by decide +kernel
theorem dM_contains_63 : decode prog_13_method_70_code 63 = .ok (.aload_n 1, 1) := by decide +kernel
theorem dM_contains_64 : decode prog_13_method_70_code 64 = .ok (.aload_n 2, 1) := by decide +kernel
theorem dM_contains_65 : decode prog_13_method_70_code 65 = .ok (.invokevirtual 173, 3) := by decide +kernel
theorem dM_contains_68 : decode prog_13_method_70_code 68 = .ok (.ireturn, 1) := by decide +kernel
theorem dM_contains_69 : decode prog_13_method_70_code 69 = .ok (.iconst 0, 1) := by decide +kernel
theorem dM_contains_70 : decode prog_13_method_70_code 70 = .ok (.istore_n 3, 1) := by decide +kernel
theorem dM_contains_71 : decode prog_13_method_70_code 71 = .ok (.iload_n 3, 1) := by decide +kernel
theorem dM_contains_72 : decode prog_13_method_70_code 72 = .ok (.aload_n 2, 1) := by decide +kernel
theorem dM_contains_73 : decode prog_13_method_70_code 73 = .ok (.getfield 103, 3) := by decide +kernel
theorem dM_contains_76 : decode prog_13_method_70_code 76 = .ok (.if_icmp .ge 118, 3) := by decide +kernel
theorem dM_contains_79 : decode prog_13_method_70_code 79 = .ok (.iconst 0, 1) := by decide +kernel
theorem dM_contains_80 : decode prog_13_method_70_code 80 = .ok (.istore 4, 2) := by decide +kernel
theorem dM_contains_82 : decode prog_13_method_70_code 82 = .ok (.aload_n 1, 1) := by decide +kernel
theorem dM_contains_83 : decode prog_13_method_70_code 83 = .ok (.getfield 93, 3) := by decide +kernel
theorem dM_contains_86 : decode prog_13_method_70_code 86 = .ok (.bipush 6, 2) := by decide +kernel
theorem dM_contains_88 : decode prog_13_method_70_code 88 = .ok (.if_icmp .ne 51, 3) := by decide +kernel
theorem dM_contains_91 : decode prog_13_method_70_code 91 = .ok (.aload_n 0, 1) := by decide +kernel
theorem dM_contains_92 : decode prog_13_method_70_code 92 = .ok (.aload_n 1, 1) := by decide +kernel
theorem dM_contains_93 : decode prog_13_method_70_code 93 = .ok (.aload_n 0, 1) := by decide +kernel
theorem dM_contains_94 : decode prog_13_method_70_code 94 = .ok (.aload_n 2, 1) := by decide +kernel
theorem dM_contains_95 : decode prog_13_method_70_code 95 = .ok (.iload_n 3, 1) := by decide +kernel
theorem dM_contains_96 : decode prog_13_method_70_code 96 = .ok (.invokevirtual 159, 3) := by decide +kernel
theorem dM_contains_99 : decode prog_13_method_70_code 99 = .ok (.invokevirtual 167, 3) := by decide +kernel
theorem dM_contains_102 : decode prog_13_method_70_code 102 = .ok (.istore 5, 2) := by decide +kernel
theorem dM_contains_104 : decode prog_13_method_70_code 104 = .ok (.iload 5, 2) := by decide +kernel
theorem dM_contains_106 : decode prog_13_method_70_code 106 = .ok (.ifCond .lt 27, 3) := by decide +kernel
theorem dM_contains_109 : decode prog_13_method_70_code 109 = .ok (.aload_n 0, 1) := by decide +kernel
theorem dM_contains_110 : decode prog_13_method_70_code 110 = .ok (.aload_n 0, 1) := by decide +kernel
theorem dM_contains_111 : decode prog_13_method_70_code 111 = .ok (.aload_n 1, 1) := by decide +kernel
theorem dM_contains_112 : decode prog_13_method_70_code 112 = .ok (.iload 5, 2) := by decide +kernel
theorem dM_contains_114 : decode prog_13_method_70_code 114 = .ok (.invokevirtual 170, 3) := by decide +kernel
theorem dM_contains_117 : decode prog_13_method_70_code 117 = .ok (.aload_n 0, 1) := by decide +kernel
theorem dM_contains_118 : decode prog_13_method_70_code 118 = .ok (.aload_n 2, 1) := by decide +kernel
theorem dM_contains_119 : decode prog_13_method_70_code 119 = .ok (.iload_n 3, 1) := by decide +kernel
theorem dM_contains_120 : decode prog_13_method_70_code 120 = .ok (.invokevirtual 170, 3) := by decide +kernel
theorem dM_contains_123 : decode prog_13_method_70_code 123 = .ok (.invokevirtual 391, 3) := by decide +kernel
theorem dM_contains_126 : decode prog_13_method_70_code 126 = .ok (.ifCond .eq 7, 3) := by decide +kernel
theorem dM_contains_129 : decode prog_13_method_70_code 129 = .ok (.iconst 1, 1) := by decide +kernel
theorem dM_contains_130 : decode prog_13_method_70_code 130 = .ok (.goto 4, 3) := by decide +kernel
theorem dM_contains_133 : decode prog_13_method_70_code 133 = .ok (.iconst 0, 1) := by decide +kernel
theorem dM_contains_134 : decode prog_13_method_70_code 134 = .ok (.istore 4, 2) := by decide +kernel
theorem dM_contains_136 : decode prog_13_method_70_code 136 = .ok (.goto 45, 3) := by decide +kernel
theorem dM_contains_139 : decode prog_13_method_70_code 139 = .ok (.iconst 0, 1) := by decide +kernel
theorem dM_contains_140 : decode prog_13_method_70_code 140 = .ok (.istore 5, 2) := by decide +kernel
theorem dM_contains_142 : decode prog_13_method_70_code 142 = .ok (.iload 5, 2) := by decide +kernel
theorem dM_contains_144 : decode prog_13_method_70_code 144 = .ok (.aload_n 1, 1) := by decide +kernel
theorem dM_contains_145 : decode prog_13_method_70_code 145 = .ok (.getfield 103, 3) := by decide +kernel
theorem dM_contains_148 : decode prog_13_method_70_code 148 = .ok (.if_icmp .ge 33, 3) := by decide +kernel
theorem dM_contains_151 : decode prog_13_method_70_code 151 = .ok (.iload 4, 2) := by decide +kernel
theorem dM_contains_153 : decode prog_13_method_70_code 153 = .ok (.ifCond .ne 28, 3) := by decide +kernel
theorem dM_contains_156 : decode prog_13_method_70_code 156 = .ok (.aload_n 0, 1) := by decide +kernel
theorem dM_contains_157 : decode prog_13_method_70_code 157 = .ok (.aload_n 0, 1) := by decide +kernel
theorem dM_contains_158 : decode prog_13_method_70_code 158 = .ok (.aload_n 1, 1) := by decide +kernel
theorem dM_contains_159 : decode prog_13_method_70_code 159 = .ok (.iload 5, 2) := by decide +kernel
theorem dM_contains_161 : decode prog_13_method_70_code 161 = .ok (.invokevirtual 170, 3) := by decide +kernel
theorem dM_contains_164 : decode prog_13_method_70_code 164 = .ok (.aload_n 0, 1) := by decide +kernel
theorem dM_contains_165 : decode prog_13_method_70_code 165 = .ok (.aload_n 2, 1) := by decide +kernel
theorem dM_contains_166 : decode prog_13_method_70_code 166 = .ok (.iload_n 3, 1) := by decide +kernel
theorem dM_contains_167 : decode prog_13_method_70_code 167 = .ok (.invokevirtual 170, 3) := by decide +kernel
theorem dM_contains_170 : decode prog_13_method_70_code 170 = .ok (.invokevirtual 391, 3) := by decide +kernel
theorem dM_contains_173 : decode prog_13_method_70_code 173 = .ok (.istore 4, 2) := by decide +kernel
theorem dM_contains_175 : decode prog_13_method_70_code 175 = .ok (.iinc 5 1, 3) := by decide +kernel
theorem dM_contains_178 : decode prog_13_method_70_code 178 = .ok (.goto (-36), 3) := by decide +kernel
theorem dM_contains_181 : decode prog_13_method_70_code 181 = .ok (.iload 4, 2) := by decide +kernel
theorem dM_contains_183 : decode prog_13_method_70_code 183 = .ok (.ifCond .ne 5, 3) := by decide +kernel
theorem dM_contains_186 : decode prog_13_method_70_code 186 = .ok (.iconst 0, 1) := by decide +kernel
theorem dM_contains_187 : decode prog_13_method_70_code 187 = .ok (.ireturn, 1) := by decide +kernel
theorem dM_contains_188 : decode prog_13_method_70_code 188 = .ok (.iinc 3 1, 3) := by decide +kernel
theorem dM_contains_191 : decode prog_13_method_70_code 191 = .ok (.goto (-120), 3) := by decide +kernel
theorem dM_contains_194 : decode prog_13_method_70_code 194 = .ok (.iconst 1, 1) := by decide +kernel
theorem dM_contains_195 : decode prog_13_method_70_code 195 = .ok (.ireturn, 1) := by decide +kernel
theorem dM_count_0 : decode prog_13_method_88_code 0 = .ok (.aload_n 0, 1) := by decide +kernel
theorem dM_count_1 : decode prog_13_method_88_code 1 = .ok (.iconst 0, 1) := by decide +kernel
theorem dM_count_2 : decode prog_13_method_88_code 2 = .ok (.putfield 77, 3) := by decide +kernel
theorem dM_count_5 : decode prog_13_method_88_code 5 = .ok (.iload_n 1, 1) := by decide +kernel
theorem dM_count_6 : decode prog_13_method_88_code 6 = .ok (.ifCond .lt 8, 3) := by decide +kernel
theorem dM_count_9 : decode prog_13_method_88_code 9 = .ok (.iload_n 1, 1) := by decide +kernel
theorem dM_count_10 : decode prog_13_method_88_code 10 = .ok (.iconst 3, 1) := by decide +kernel
theorem dM_count_11 : decode prog_13_method_88_code 11 = .ok (.if_icmp .le 9, 3) := by decide +kernel
theorem dM_count_14 : decode prog_13_method_88_code 14 = .ok (.aload_n 0, 1) := by decide +kernel
theorem dM_count_15 : decode prog_13_method_88_code 15 = .ok (.iconst 1, 1) := by decide +kernel
theorem dM_count_16 : decode prog_13_method_88_code 16 = .ok (.invokevirtual 418, 3) := by decide +kernel
theorem dM_count_19 : decode prog_13_method_88_code 19 = .ok (.ireturn, 1) := by decide +kernel
theorem dM_count_20 : decode prog_13_method_88_code 20 = .ok (.iload_n 1, 1) := by decide +kernel
theorem dM_count_21 : decode prog_13_method_88_code 21 = .ok (.ifCond .ne 10, 3) := by decide +kernel
theorem dM_count_24 : decode prog_13_method_88_code 24 = .ok (.aload_n 0, 1) := by decide +kernel
theorem dM_count_25 : decode prog_13_method_88_code 25 = .ok (.getfield 421, 3) := by decide +kernel
theorem dM_count_28 : decode prog_13_method_88_code 28 = .ok (.goto 31, 3) := by decide +kernel
theorem dM_count_31 : decode prog_13_method_88_code 31 = .ok (.iload_n 1, 1) := by decide +kernel
theorem dM_count_32 : decode prog_13_method_88_code 32 = .ok (.iconst 1, 1) := by decide +kernel
theorem dM_count_33 : decode prog_13_method_88_code 33 = .ok (.if_icmp .ne 10, 3) := by decide +kernel
theorem dM_count_36 : decode prog_13_method_88_code 36 = .ok (.aload_n 0, 1) := by decide +kernel
theorem dM_count_37 : decode prog_13_method_88_code 37 = .ok (.getfield 434, 3) := by decide +kernel
theorem dM_count_40 : decode prog_13_method_88_code 40 = .ok (.goto 19, 3) := by decide +kernel
theorem dM_count_43 : decode prog_13_method_88_code 43 = .ok (.iload_n 1, 1) := by decide +kernel
theorem dM_count_44 : decode prog_13_method_88_code 44 = .ok (.iconst 2, 1) := by decide +kernel
theorem dM_count_45 : decode prog_13_method_88_code 45 = .ok (.if_icmp .ne 10, 3) := by decide +kernel
theorem dM_count_48 : decode prog_13_method_88_code 48 = .ok (.aload_n 0, 1) := by decide +kernel
theorem dM_count_49 : decode prog_13_method_88_code 49 = .ok (.getfield 66, 3) := by decide +kernel
theorem dM_count_52 : decode prog_13_method_88_code 52 = .ok (.goto 7, 3) := by decide +kernel
theorem dM_count_55 : decode prog_13_method_88_code 55 = .ok (.aload_n 0, 1) := by decide +kernel
theorem dM_count_56 : decode prog_13_method_88_code 56 = .ok (.getfield 415, 3) := by decide +kernel
theorem dM_count_59 : decode prog_13_method_88_code 59 = .ok (.ireturn, 1) := by decide +kernel
theorem dM_digit_0 : decode prog_13_method_30_code 0 = .ok (.iload_n 0, 1) := by decide +kernel
theorem dM_digit_1 : decode prog_13_method_30_code 1 = .ok (.bipush 48, 2) := by decide +kernel
theorem dM_digit_3 : decode prog_13_method_30_code 3 = .ok (.if_icmp .lt 13, 3) := by decide +kernel
theorem dM_digit_6 : decode prog_13_method_30_code 6 = .ok (.iload_n 0, 1) := by decide +kernel
theorem dM_digit_7 : decode prog_13_method_30_code 7 = .ok (.bipush 57, 2) := by decide +kernel
theorem dM_digit_9 : decode prog_13_method_30_code 9 = .ok (.if_icmp .gt 7, 3) := by decide +kernel
theorem dM_digit_12 : decode prog_13_method_30_code 12 = .ok (.iconst 1, 1) := by decide +kernel
theorem dM_digit_13 : decode prog_13_method_30_code 13 = .ok (.goto 4, 3) := by decide +kernel
theorem dM_digit_16 : decode prog_13_method_30_code 16 = .ok (.iconst 0, 1) := by decide +kernel
theorem dM_digit_17 : decode prog_13_method_30_code 17 = .ok (.ireturn, 1) := by decide +kernel
theorem dM_elements_0 : decode prog_13_method_39_code 0 = .ok (.aload_n 0, 1) := by decide +kernel
theorem dM_elements_1 : decode prog_13_method_39_code 1 = .ok (.getfield 142, 3) := by decide +kernel
theorem dM_elements_4 : decode prog_13_method_39_code 4 = .ok (.istore_n 1, 1) := by decide +kernel
theorem dM_elements_5 : decode prog_13_method_39_code 5 = .ok (.aload_n 0, 1) := by decide +kernel
theorem dM_elements_6 : decode prog_13_method_39_code 6 = .ok (.invokevirtual 226, 3) := by decide +kernel
theorem dM_elements_9 : decode prog_13_method_39_code 9 = .ok (.aload_n 0, 1) := by decide +kernel
theorem dM_elements_10 : decode prog_13_method_39_code 10 = .ok (.invokevirtual 217, 3) := by decide +kernel
theorem dM_elements_13 : decode prog_13_method_39_code 13 = .ok (.bipush 93, 2) := by decide +kernel
theorem dM_elements_15 : decode prog_13_method_39_code 15 = .ok (.if_icmp .ne 20, 3) := by decide +kernel
theorem dM_elements_18 : decode prog_13_method_39_code 18 = .ok (.aload_n 0, 1) := by decide +kernel
theorem dM_elements_19 : decode prog_13_method_39_code 19 = .ok (.dup, 1) := by decide +kernel
theorem dM_elements_20 : decode prog_13_method_39_code 20 = .ok (.getfield 208, 3) := by decide +kernel
theorem dM_elements_23 : decode prog_13_method_39_code 23 = .ok (.iconst 1, 1) := by decide +kernel
theorem dM_elements_24 : decode prog_13_method_39_code 24 = .ok (.iadd, 1) := by decide +kernel
theorem dM_elements_25 : decode prog_13_method_39_code 25 = .ok (.putfield 208, 3) := by decide +kernel
theorem dM_elements_28 : decode prog_13_method_39_code 28 = .ok (.aload_n 0, 1) := by decide +kernel
theorem dM_elements_29 : decode prog_13_method_39_code 29 = .ok (.iconst 5, 1) := by decide +kernel
theorem dM_elements_30 : decode prog_13_method_39_code 30 = .ok (.iload_n 1, 1) := by decide +kernel
theorem dM_elements_31 : decode prog_13_method_39_code 31 = .ok (.invokevirtual 190, 3) := by decide +kernel
theorem dM_elements_34 : decode prog_13_method_39_code 34 = .ok (.areturn, 1) := by decide +kernel
theorem dM_elements_35 : decode prog_13_method_39_code 35 = .ok (.aload_n 0, 1) := by decide +kernel
theorem dM_elements_36 : decode prog_13_method_39_code 36 = .ok (.invokevirtual 223, 3) := by decide +kernel
theorem dM_elements_39 : decode prog_13_method_39_code 39 = .ok (.astore_n 2, 1) := by decide +kernel
theorem dM_elements_40 : decode prog_13_method_39_code 40 = .ok (.aload_n 0, 1) := by decide +kernel
theorem dM_elements_41 : decode prog_13_method_39_code 41 = .ok (.aconst_null, 1) := by decide +kernel
theorem dM_elements_42 : decode prog_13_method_39_code 42 = .ok (.aload_n 2, 1) := by decide +kernel
theorem dM_elements_43 : decode prog_13_method_39_code 43 = .ok (.invokevirtual 186, 3) := by decide +kernel
theorem dM_elements_46 : decode prog_13_method_39_code 46 = .ok (.aload_n 0, 1) := by decide +kernel
theorem dM_elements_47 : decode prog_13_method_39_code 47 = .ok (.invokevirtual 226, 3) := by decide +kernel
theorem dM_elements_50 : decode prog_13_method_39_code 50 = .ok (.aload_n 0, 1) := by decide +kernel
theorem dM_elements_51 : decode prog_13_method_39_code 51 = .ok (.invokevirtual 217, 3) := by decide +kernel
theorem dM_elements_54 : decode prog_13_method_39_code 54 = .ok (.istore_n 3, 1) := by decide +kernel
theorem dM_elements_55 : decode prog_13_method_39_code 55 = .ok (.iload_n 3, 1) := by decide +kernel
theorem dM_elements_56 : decode prog_13_method_39_code 56 = .ok (.bipush 44, 2) := by decide +kernel
theorem dM_elements_58 : decode prog_13_method_39_code 58 = .ok (.if_icmp .eq 17, 3) := by decide +kernel
theorem dM_elements_61 : decode prog_13_method_39_code 61 = .ok (.iload_n 3, 1) := by decide +kernel
theorem dM_elements_62 : decode prog_13_method_39_code 62 = .ok (.bipush 93, 2) := by decide +kernel
theorem dM_elements_64 : decode prog_13_method_39_code 64 = .ok (.if_icmp .eq 11, 3) := by decide +kernel
theorem dM_elements_67 : decode prog_13_method_39_code 67 = .ok (.aload_n 0, 1) := by decide +kernel
theorem dM_elements_68 : decode prog_13_method_39_code 68 = .ok (.aload_n 0, 1) := by decide +kernel
theorem dM_elements_69 : decode prog_13_method_39_code 69 = .ok (.getfield 208, 3) := by decide +kernel
theorem dM_elements_72 : decode prog_13_method_39_code 72 = .ok (.invokevirtual 229, 3) := by decide +kernel
theorem dM_elements_75 : decode prog_13_method_39_code 75 = .ok (.aload_n 0, 1) := by decide +kernel
theorem dM_elements_76 : decode prog_13_method_39_code 76 = .ok (.dup, 1) := by decide +kernel
theorem dM_elements_77 : decode prog_13_method_39_code 77 = .ok (.getfield 208, 3) := by decide +kernel
theorem dM_elements_80 : decode prog_13_method_39_code 80 = .ok (.iconst 1, 1) := by decide +kernel
theorem dM_elements_81 : decode prog_13_method_39_code 81 = .ok (.iadd, 1) := by decide +kernel
theorem dM_elements_82 : decode prog_13_method_39_code 82 = .ok (.putfield 208, 3) := by decide +kernel
theorem dM_elements_85 : decode prog_13_method_39_code 85 = .ok (.iload_n 3, 1) := by decide +kernel
theorem dM_elements_86 : decode prog_13_method_39_code 86 = .ok (.bipush 93, 2) := by decide +kernel
theorem dM_elements_88 : decode prog_13_method_39_code 88 = .ok (.if_icmp .ne 10, 3) := by decide +kernel
theorem dM_elements_91 : decode prog_13_method_39_code 91 = .ok (.aload_n 0, 1) := by decide +kernel
theorem dM_elements_92 : decode prog_13_method_39_code 92 = .ok (.iconst 5, 1) := by decide +kernel
theorem dM_elements_93 : decode prog_13_method_39_code 93 = .ok (.iload_n 1, 1) := by decide +kernel
theorem dM_elements_94 : decode prog_13_method_39_code 94 = .ok (.invokevirtual 190, 3) := by decide +kernel
theorem dM_elements_97 : decode prog_13_method_39_code 97 = .ok (.areturn, 1) := by decide +kernel
theorem dM_elements_98 : decode prog_13_method_39_code 98 = .ok (.goto (-63), 3) := by decide +kernel
theorem dM_end_0 : decode prog_13_method_83_code 0 = .ok (.aload_n 0, 1) := by decide +kernel
theorem dM_end_1 : decode prog_13_method_83_code 1 = .ok (.iconst 0, 1) := by decide +kernel
theorem dM_end_2 : decode prog_13_method_83_code 2 = .ok (.putfield 77, 3) := by decide +kernel
theorem dM_end_5 : decode prog_13_method_83_code 5 = .ok (.iload_n 1, 1) := by decide +kernel
theorem dM_end_6 : decode prog_13_method_83_code 6 = .ok (.ifCond .lt 11, 3) := by decide +kernel
theorem dM_end_9 : decode prog_13_method_83_code 9 = .ok (.iload_n 1, 1) := by decide +kernel
theorem dM_end_10 : decode prog_13_method_83_code 10 = .ok (.aload_n 0, 1) := by decide +kernel
theorem dM_end_11 : decode prog_13_method_83_code 11 = .ok (.getfield 421, 3) := by decide +kernel
theorem dM_end_14 : decode prog_13_method_83_code 14 = .ok (.if_icmp .le 9, 3) := by decide +kernel
theorem dM_end_17 : decode prog_13_method_83_code 17 = .ok (.aload_n 0, 1) := by decide +kernel
theorem dM_end_18 : decode prog_13_method_83_code 18 = .ok (.iconst 1, 1) := by decide +kernel
theorem dM_end_19 : decode prog_13_method_83_code 19 = .ok (.invokevirtual 418, 3) := by decide +kernel
theorem dM_end_22 : decode prog_13_method_83_code 22 = .ok (.ireturn, 1) := by decide +kernel
theorem dM_end_23 : decode prog_13_method_83_code 23 = .ok (.aload_n 0, 1) := by decide +kernel
theorem dM_end_24 : decode prog_13_method_83_code 24 = .ok (.iload_n 1, 1) := by decide +kernel
theorem dM_end_25 : decode prog_13_method_83_code 25 = .ok (.putfield 421, 3) := by decide +kernel
theorem dM_end_28 : decode prog_13_method_83_code 28 = .ok (.iload_n 1, 1) := by decide +kernel
theorem dM_end_29 : decode prog_13_method_83_code 29 = .ok (.ireturn, 1) := by decide +kernel
theorem dM_escaped_0 : decode prog_13_method_37_code 0 = .ok (.aload_n 0, 1) := by decide +kernel
theorem dM_escaped_1 : decode prog_13_method_37_code 1 = .ok (.invokevirtual 217, 3) := by decide +kernel
theorem dM_escaped_4 : decode prog_13_method_37_code 4 = .ok (.istore_n 2, 1) := by decide +kernel
theorem dM_escaped_5 : decode prog_13_method_37_code 5 = .ok (.iload_n 2, 1) := by decide +kernel
theorem dM_escaped_6 : decode prog_13_method_37_code 6 = .ok (.ifCond .ge 11, 3) := by decide +kernel
theorem dM_escaped_9 : decode prog_13_method_37_code 9 = .ok (.aload_n 0, 1) := by decide +kernel
theorem dM_escaped_10 : decode prog_13_method_37_code 10 = .ok (.aload_n 0, 1) := by decide +kernel
theorem dM_escaped_11 : decode prog_13_method_37_code 11 = .ok (.getfield 208, 3) := by decide +kernel
theorem dM_escaped_14 : decode prog_13_method_37_code 14 = .ok (.invokevirtual 229, 3) := by decide +kernel
theorem dM_escaped_17 : decode prog_13_method_37_code 17 = .ok (.aload_n 0, 1) := by decide +kernel
theorem dM_escaped_18 : decode prog_13_method_37_code 18 = .ok (.dup, 1) := by decide +kernel
theorem dM_escaped_19 : decode prog_13_method_37_code 19 = .ok (.getfield 208, 3) := by decide +kernel
theorem dM_escaped_22 : decode prog_13_method_37_code 22 = .ok (.iconst 1, 1) := by decide +kernel
theorem dM_escaped_23 : decode prog_13_method_37_code 23 = .ok (.iadd, 1) := by decide +kernel
theorem dM_escaped_24 : decode prog_13_method_37_code 24 = .ok (.putfield 208, 3) := by decide +kernel
theorem dM_escaped_27 : decode prog_13_method_37_code 27 = .ok (.iload_n 2, 1) := by decide +kernel
theorem dM_escaped_28 : decode prog_13_method_37_code 28 = .ok (.lookupswitch 128 #[(34, 84), (47, 84), (92, 84), (98, 90), (102, 97), (110, 104), (114, 111), (116, 118), (117, 125)], 84) := by decide +kernel
theorem dM_escaped_112 : decode prog_13_method_37_code 112 = .ok (.aload_n 0, 1) := by decide +kernel
theorem dM_escaped_113 : decode prog_13_method_37_code 113 = .ok (.iload_n 2, 1) := by decide +kernel
theorem dM_escaped_114 : decode prog_13_method_37_code 114 = .ok (.invokevirtual 135, 3) := by decide +kernel
theorem dM_escaped_117 : decode prog_13_method_37_code 117 = .ok (.return_, 1) := by decide +kernel
theorem dM_escaped_118 : decode prog_13_method_37_code 118 = .ok (.aload_n 0, 1) := by decide +kernel
theorem dM_escaped_119 : decode prog_13_method_37_code 119 = .ok (.bipush 8, 2) := by decide +kernel
theorem dM_escaped_121 : decode prog_13_method_37_code 121 = .ok (.invokevirtual 135, 3) := by decide +kernel
theorem dM_escaped_124 : decode prog_13_method_37_code 124 = .ok (.return_, 1) := by decide +kernel
theorem dM_escaped_125 : decode prog_13_method_37_code 125 = .ok (.aload_n 0, 1) := by decide +kernel
theorem dM_escaped_126 : decode prog_13_method_37_code 126 = .ok (.bipush 12, 2) := by decide +kernel
theorem dM_escaped_128 : decode prog_13_method_37_code 128 = .ok (.invokevirtual 135, 3) := by decide +kernel
theorem dM_escaped_131 : decode prog_13_method_37_code 131 = .ok (.return_, 1) := by decide +kernel
theorem dM_escaped_132 : decode prog_13_method_37_code 132 = .ok (.aload_n 0, 1) := by decide +kernel
theorem dM_escaped_133 : decode prog_13_method_37_code 133 = .ok (.bipush 10, 2) := by decide +kernel
theorem dM_escaped_135 : decode prog_13_method_37_code 135 = .ok (.invokevirtual 135, 3) := by decide +kernel
theorem dM_escaped_138 : decode prog_13_method_37_code 138 = .ok (.return_, 1) := by decide +kernel
theorem dM_escaped_139 : decode prog_13_method_37_code 139 = .ok (.aload_n 0, 1) := by decide +kernel
theorem dM_escaped_140 : decode prog_13_method_37_code 140 = .ok (.bipush 13, 2) := by decide +kernel
theorem dM_escaped_142 : decode prog_13_method_37_code 142 = .ok (.invokevirtual 135, 3) := by decide +kernel
theorem dM_escaped_145 : decode prog_13_method_37_code 145 = .ok (.return_, 1) := by decide +kernel
theorem dM_escaped_146 : decode prog_13_method_37_code 146 = .ok (.aload_n 0, 1) := by decide +kernel
theorem dM_escaped_147 : decode prog_13_method_37_code 147 = .ok (.bipush 9, 2) := by decide +kernel
theorem dM_escaped_149 : decode prog_13_method_37_code 149 = .ok (.invokevirtual 135, 3) := by decide +kernel
theorem dM_escaped_152 : decode prog_13_method_37_code 152 = .ok (.return_, 1) := by decide +kernel
theorem dM_escaped_153 : decode prog_13_method_37_code 153 = .ok (.goto 13, 3) := by decide +kernel
theorem dM_escaped_156 : decode prog_13_method_37_code 156 = .ok (.aload_n 0, 1) := by decide +kernel
theorem dM_escaped_157 : decode prog_13_method_37_code 157 = .ok (.aload_n 0, 1) := by decide +kernel
theorem dM_escaped_158 : decode prog_13_method_37_code 158 = .ok (.getfield 208, 3) := by decide +kernel
theorem dM_escaped_161 : decode prog_13_method_37_code 161 = .ok (.iconst 1, 1) := by decide +kernel
theorem dM_escaped_162 : decode prog_13_method_37_code 162 = .ok (.isub, 1) := by decide +kernel
theorem dM_escaped_163 : decode prog_13_method_37_code 163 = .ok (.invokevirtual 229, 3) := by decide +kernel
theorem dM_escaped_166 : decode prog_13_method_37_code 166 = .ok (.iconst 0, 1) := by decide +kernel
theorem dM_escaped_167 : decode prog_13_method_37_code 167 = .ok (.istore_n 3, 1) := by decide +kernel
theorem dM_escaped_168 : decode prog_13_method_37_code 168 = .ok (.iconst 0, 1) := by decide +kernel
theorem dM_escaped_169 : decode prog_13_method_37_code 169 = .ok (.istore 4, 2) := by decide +kernel
theorem dM_escaped_171 : decode prog_13_method_37_code 171 = .ok (.iload 4, 2) := by decide +kernel
theorem dM_escaped_173 : decode prog_13_method_37_code 173 = .ok (.iconst 4, 1) := by decide +kernel
theorem dM_escaped_174 : decode prog_13_method_37_code 174 = .ok (.if_icmp .ge 50, 3) := by decide +kernel
theorem dM_escaped_177 : decode prog_13_method_37_code 177 = .ok (.aload_n 0, 1) := by decide +kernel
theorem dM_escaped_178 : decode prog_13_method_37_code 178 = .ok (.invokevirtual 217, 3) := by decide +kernel
theorem dM_escaped_181 : decode prog_13_method_37_code 181 = .ok (.invokestatic 269, 3) := by decide +kernel
theorem dM_escaped_184 : decode prog_13_method_37_code 184 = .ok (.ifCond .ge 11, 3) := by decide +kernel
theorem dM_escaped_187 : decode prog_13_method_37_code 187 = .ok (.aload_n 0, 1) := by decide +kernel
theorem dM_escaped_188 : decode prog_13_method_37_code 188 = .ok (.aload_n 0, 1) := by decide +kernel
theorem dM_escaped_189 : decode prog_13_method_37_code 189 = .ok (.getfield 208, 3) := by decide +kernel
theorem dM_escaped_192 : decode prog_13_method_37_code 192 = .ok (.invokevirtual 229, 3) := by decide +kernel
theorem dM_escaped_195 : decode prog_13_method_37_code 195 = .ok (.bipush 16, 2) := by decide +kernel
theorem dM_escaped_197 : decode prog_13_method_37_code 197 = .ok (.iload_n 3, 1) := by decide +kernel
theorem dM_escaped_198 : decode prog_13_method_37_code 198 = .ok (.imul, 1) := by decide +kernel
theorem dM_escaped_199 : decode prog_13_method_37_code 199 = .ok (.aload_n 0, 1) := by decide +kernel
theorem dM_escaped_200 : decode prog_13_method_37_code 200 = .ok (.invokevirtual 217, 3) := by decide +kernel
theorem dM_escaped_203 : decode prog_13_method_37_code 203 = .ok (.invokestatic 269, 3) := by decide +kernel
theorem dM_escaped_206 : decode prog_13_method_37_code 206 = .ok (.iadd, 1) := by decide +kernel
theorem dM_escaped_207 : decode prog_13_method_37_code 207 = .ok (.istore_n 3, 1) := by decide +kernel
theorem dM_escaped_208 : decode prog_13_method_37_code 208 = .ok (.aload_n 0, 1) := by decide +kernel
theorem dM_escaped_209 : decode prog_13_method_37_code 209 = .ok (.dup, 1) := by decide +kernel
theorem dM_escaped_210 : decode prog_13_method_37_code 210 = .ok (.getfield 208, 3) := by decide +kernel
theorem dM_escaped_213 : decode prog_13_method_37_code 213 = .ok (.iconst 1, 1) := by decide +kernel
theorem dM_escaped_214 : decode prog_13_method_37_code 214 = .ok (.iadd, 1) := by decide +kernel
theorem dM_escaped_215 : decode prog_13_method_37_code 215 = .ok (.putfield 208, 3) := by decide +kernel
theorem dM_escaped_218 : decode prog_13_method_37_code 218 = .ok (.iinc 4 1, 3) := by decide +kernel
theorem dM_escaped_221 : decode prog_13_method_37_code 221 = .ok (.goto (-50), 3) := by decide +kernel
theorem dM_escaped_224 : decode prog_13_method_37_code 224 = .ok (.iload_n 3, 1) := by decide +kernel
theorem dM_escaped_225 : decode prog_13_method_37_code 225 = .ok (.bipush 127, 2) := by decide +kernel
theorem dM_escaped_227 : decode prog_13_method_37_code 227 = .ok (.if_icmp .le 8, 3) := by decide +kernel
theorem dM_escaped_230 : decode prog_13_method_37_code 230 = .ok (.aload_n 0, 1) := by decide +kernel
theorem dM_escaped_231 : decode prog_13_method_37_code 231 = .ok (.iload_n 1, 1) := by decide +kernel
theorem dM_escaped_232 : decode prog_13_method_37_code 232 = .ok (.invokevirtual 229, 3) := by decide +kernel
theorem dM_escaped_235 : decode prog_13_method_37_code 235 = .ok (.aload_n 0, 1) := by decide +kernel
theorem dM_escaped_236 : decode prog_13_method_37_code 236 = .ok (.iload_n 3, 1) := by decide +kernel
theorem dM_escaped_237 : decode prog_13_method_37_code 237 = .ok (.invokevirtual 135, 3) := by decide +kernel
theorem dM_escaped_240 : decode prog_13_method_37_code 240 = .ok (.return_, 1) := by decide +kernel
theorem dM_explode_0 : decode prog_13_method_62_code 0 = .ok (.aload_n 0, 1) := by decide +kernel
theorem dM_explode_1 : decode prog_13_method_62_code 1 = .ok (.getfield 142, 3) := by decide +kernel
theorem dM_explode_4 : decode prog_13_method_62_code 4 = .ok (.istore_n 2, 1) := by decide +kernel
theorem dM_explode_5 : decode prog_13_method_62_code 5 = .ok (.iconst 0, 1) := by decide +kernel
theorem dM_explode_6 : decode prog_13_method_62_code 6 = .ok (.istore_n 3, 1) := by decide +kernel
theorem dM_explode_7 : decode prog_13_method_62_code 7 = .ok (.iload_n 3, 1) := by decide +kernel
theorem dM_explode_8 : decode prog_13_method_62_code 8 = .ok (.aload_n 0, 1) := by decide +kernel
theorem dM_explode_9 : decode prog_13_method_62_code 9 = .ok (.aload_n 1, 1) := by decide +kernel
theorem dM_explode_10 : decode prog_13_method_62_code 10 = .ok (.invokevirtual 341, 3) := by decide +kernel
theorem dM_explode_13 : decode prog_13_method_62_code 13 = .ok (.getfield 103, 3) := by decide +kernel
theorem dM_explode_16 : decode prog_13_method_62_code 16 = .ok (.if_icmp .ge 30, 3) := by decide +kernel
theorem dM_explode_19 : decode prog_13_method_62_code 19 = .ok (.aload_n 0, 1) := by decide +kernel
theorem dM_explode_20 : decode prog_13_method_62_code 20 = .ok (.aconst_null, 1) := by decide +kernel
theorem dM_explode_21 : decode prog_13_method_62_code 21 = .ok (.aload_n 0, 1) := by decide +kernel
theorem dM_explode_22 : decode prog_13_method_62_code 22 = .ok (.aload_n 0, 1) := by decide +kernel
theorem dM_explode_23 : decode prog_13_method_62_code 23 = .ok (.getfield 15, 3) := by decide +kernel
theorem dM_explode_26 : decode prog_13_method_62_code 26 = .ok (.aload_n 1, 1) := by decide +kernel
theorem dM_explode_27 : decode prog_13_method_62_code 27 = .ok (.getfield 100, 3) := by decide +kernel
theorem dM_explode_30 : decode prog_13_method_62_code 30 = .ok (.iload_n 3, 1) := by decide +kernel
theorem dM_explode_31 : decode prog_13_method_62_code 31 = .ok (.iadd, 1) := by decide +kernel
theorem dM_explode_32 : decode prog_13_method_62_code 32 = .ok (.baload, 1) := by decide +kernel
theorem dM_explode_33 : decode prog_13_method_62_code 33 = .ok (.i2l, 1) := by decide +kernel
theorem dM_explode_34 : decode prog_13_method_62_code 34 = .ok (.invokevirtual 265, 3) := by decide +kernel
theorem dM_explode_37 : decode prog_13_method_62_code 37 = .ok (.invokevirtual 186, 3) := by decide +kernel
theorem dM_explode_40 : decode prog_13_method_62_code 40 = .ok (.iinc 3 1, 3) := by decide +kernel
theorem dM_explode_43 : decode prog_13_method_62_code 43 = .ok (.goto (-36), 3) := by decide +kernel
theorem dM_explode_46 : decode prog_13_method_62_code 46 = .ok (.aload_n 0, 1) := by decide +kernel
theorem dM_explode_47 : decode prog_13_method_62_code 47 = .ok (.iconst 5, 1) := by decide +kernel
theorem dM_explode_48 : decode prog_13_method_62_code 48 = .ok (.iload_n 2, 1) := by decide +kernel
theorem dM_explode_49 : decode prog_13_method_62_code 49 = .ok (.invokevirtual 190, 3) := by decide +kernel
theorem dM_explode_52 : decode prog_13_method_62_code 52 = .ok (.areturn, 1) := by decide +kernel
theorem dM_fail_0 : decode prog_13_method_3_code 0 = .ok (.aload_n 0, 1) := by decide +kernel
theorem dM_fail_1 : decode prog_13_method_3_code 1 = .ok (.iload_n 1, 1) := by decide +kernel
theorem dM_fail_2 : decode prog_13_method_3_code 2 = .ok (.putfield 77, 3) := by decide +kernel
theorem dM_fail_5 : decode prog_13_method_3_code 5 = .ok (.iconst 0, 1) := by decide +kernel
theorem dM_fail_6 : decode prog_13_method_3_code 6 = .ok (.ireturn, 1) := by decide +kernel
theorem dM_feed_0 : decode prog_13_method_82_code 0 = .ok (.aload_n 0, 1) := by decide +kernel
theorem dM_feed_1 : decode prog_13_method_82_code 1 = .ok (.iconst 0, 1) := by decide +kernel
theorem dM_feed_2 : decode prog_13_method_82_code 2 = .ok (.putfield 77, 3) := by decide +kernel
theorem dM_feed_5 : decode prog_13_method_82_code 5 = .ok (.aload_n 0, 1) := by decide +kernel
theorem dM_feed_6 : decode prog_13_method_82_code 6 = .ok (.getfield 421, 3) := by decide +kernel
theorem dM_feed_9 : decode prog_13_method_82_code 9 = .ok (.bipush 20, 2) := by decide +kernel
theorem dM_feed_11 : decode prog_13_method_82_code 11 = .ok (.iadd, 1) := by decide +kernel
theorem dM_feed_12 : decode prog_13_method_82_code 12 = .ok (.sipush 4096, 3) := by decide +kernel
theorem dM_feed_15 : decode prog_13_method_82_code 15 = .ok (.if_icmp .le 9, 3) := by decide +kernel
theorem dM_feed_18 : decode prog_13_method_82_code 18 = .ok (.aload_n 0, 1) := by decide +kernel
theorem dM_feed_19 : decode prog_13_method_82_code 19 = .ok (.iconst 1, 1) := by decide +kernel
theorem dM_feed_20 : decode prog_13_method_82_code 20 = .ok (.invokevirtual 418, 3) := by decide +kernel
theorem dM_feed_23 : decode prog_13_method_82_code 23 = .ok (.ireturn, 1) := by decide +kernel
theorem dM_feed_24 : decode prog_13_method_82_code 24 = .ok (.iconst 0, 1) := by decide +kernel
theorem dM_feed_25 : decode prog_13_method_82_code 25 = .ok (.istore 6, 2) := by decide +kernel
theorem dM_feed_27 : decode prog_13_method_82_code 27 = .ok (.iload 6, 2) := by decide +kernel
theorem dM_feed_29 : decode prog_13_method_82_code 29 = .ok (.bipush 20, 2) := by decide +kernel
theorem dM_feed_31 : decode prog_13_method_82_code 31 = .ok (.if_icmp .ge 90, 3) := by decide +kernel
theorem dM_feed_34 : decode prog_13_method_82_code 34 = .ok (.iload 6, 2) := by decide +kernel
theorem dM_feed_36 : decode prog_13_method_82_code 36 = .ok (.iconst 4, 1) := by decide +kernel
theorem dM_feed_37 : decode prog_13_method_82_code 37 = .ok (.if_icmp .ge 7, 3) := by decide +kernel
theorem dM_feed_40 : decode prog_13_method_82_code 40 = .ok (.iload_n 1, 1) := by decide +kernel
theorem dM_feed_41 : decode prog_13_method_82_code 41 = .ok (.goto 39, 3) := by decide +kernel
theorem dM_feed_44 : decode prog_13_method_82_code 44 = .ok (.iload 6, 2) := by decide +kernel
theorem dM_feed_46 : decode prog_13_method_82_code 46 = .ok (.bipush 8, 2) := by decide +kernel
theorem dM_feed_48 : decode prog_13_method_82_code 48 = .ok (.if_icmp .ge 7, 3) := by decide +kernel
theorem dM_feed_51 : decode prog_13_method_82_code 51 = .ok (.iload_n 2, 1) := by decide +kernel
theorem dM_feed_52 : decode prog_13_method_82_code 52 = .ok (.goto 28, 3) := by decide +kernel
theorem dM_feed_55 : decode prog_13_method_82_code 55 = .ok (.iload 6, 2) := by decide +kernel
theorem dM_feed_57 : decode prog_13_method_82_code 57 = .ok (.bipush 12, 2) := by decide +kernel
theorem dM_feed_59 : decode prog_13_method_82_code 59 = .ok (.if_icmp .ge 7, 3) := by decide +kernel
theorem dM_feed_62 : decode prog_13_method_82_code 62 = .ok (.iload_n 3, 1) := by decide +kernel
theorem dM_feed_63 : decode prog_13_method_82_code 63 = .ok (.goto 17, 3) := by decide +kernel
theorem dM_feed_66 : decode prog_13_method_82_code 66 = .ok (.iload 6, 2) := by decide +kernel
theorem dM_feed_68 : decode prog_13_method_82_code 68 = .ok (.bipush 16, 2) := by decide +kernel
theorem dM_feed_70 : decode prog_13_method_82_code 70 = .ok (.if_icmp .ge 8, 3) := by decide +kernel
theorem dM_feed_73 : decode prog_13_method_82_code 73 = .ok (.iload 4, 2) := by decide +kernel
theorem dM_feed_75 : decode prog_13_method_82_code 75 = .ok (.goto 5, 3) := by decide +kernel
theorem dM_feed_78 : decode prog_13_method_82_code 78 = .ok (.iload 5, 2) := by decide +kernel
theorem dM_feed_80 : decode prog_13_method_82_code 80 = .ok (.istore 7, 2) := by decide +kernel
theorem dM_feed_82 : decode prog_13_method_82_code 82 = .ok (.aload_n 0, 1) := by decide +kernel
theorem dM_feed_83 : decode prog_13_method_82_code 83 = .ok (.getfield 60, 3) := by decide +kernel
theorem dM_feed_86 : decode prog_13_method_82_code 86 = .ok (.aload_n 0, 1) := by decide +kernel
theorem dM_feed_87 : decode prog_13_method_82_code 87 = .ok (.getfield 421, 3) := by decide +kernel
theorem dM_feed_90 : decode prog_13_method_82_code 90 = .ok (.iload 7, 2) := by decide +kernel
theorem dM_feed_92 : decode prog_13_method_82_code 92 = .ok (.bipush 24, 2) := by decide +kernel
theorem dM_feed_94 : decode prog_13_method_82_code 94 = .ok (.bipush 8, 2) := by decide +kernel
theorem dM_feed_96 : decode prog_13_method_82_code 96 = .ok (.iload 6, 2) := by decide +kernel
theorem dM_feed_98 : decode prog_13_method_82_code 98 = .ok (.iconst 4, 1) := by decide +kernel
theorem dM_feed_99 : decode prog_13_method_82_code 99 = .ok (.irem, 1) := by decide +kernel
theorem dM_feed_100 : decode prog_13_method_82_code 100 = .ok (.imul, 1) := by decide +kernel
theorem dM_feed_101 : decode prog_13_method_82_code 101 = .ok (.isub, 1) := by decide +kernel
theorem dM_feed_102 : decode prog_13_method_82_code 102 = .ok (.ishr, 1) := by decide +kernel
theorem dM_feed_103 : decode prog_13_method_82_code 103 = .ok (.i2b, 1) := by decide +kernel
theorem dM_feed_104 : decode prog_13_method_82_code 104 = .ok (.bastore, 1) := by decide +kernel
theorem dM_feed_105 : decode prog_13_method_82_code 105 = .ok (.aload_n 0, 1) := by decide +kernel
theorem dM_feed_106 : decode prog_13_method_82_code 106 = .ok (.dup, 1) := by decide +kernel
theorem dM_feed_107 : decode prog_13_method_82_code 107 = .ok (.getfield 421, 3) := by decide +kernel
theorem dM_feed_110 : decode prog_13_method_82_code 110 = .ok (.iconst 1, 1) := by decide +kernel
theorem dM_feed_111 : decode prog_13_method_82_code 111 = .ok (.iadd, 1) := by decide +kernel
theorem dM_feed_112 : decode prog_13_method_82_code 112 = .ok (.putfield 421, 3) := by decide +kernel
theorem dM_feed_115 : decode prog_13_method_82_code 115 = .ok (.iinc 6 1, 3) := by decide +kernel
theorem dM_feed_118 : decode prog_13_method_82_code 118 = .ok (.goto (-91), 3) := by decide +kernel
theorem dM_feed_121 : decode prog_13_method_82_code 121 = .ok (.aload_n 0, 1) := by decide +kernel
theorem dM_feed_122 : decode prog_13_method_82_code 122 = .ok (.getfield 421, 3) := by decide +kernel
theorem dM_feed_125 : decode prog_13_method_82_code 125 = .ok (.ireturn, 1) := by decide +kernel
theorem dM_finish_0 : decode prog_13_method_90_code 0 = .ok (.aload_n 0, 1) := by decide +kernel
theorem dM_finish_1 : decode prog_13_method_90_code 1 = .ok (.iload 4, 2) := by decide +kernel
theorem dM_finish_3 : decode prog_13_method_90_code 3 = .ok (.invokevirtual 437, 3) := by decide +kernel
theorem dM_finish_6 : decode prog_13_method_90_code 6 = .ok (.astore 6, 2) := by decide +kernel
theorem dM_finish_8 : decode prog_13_method_90_code 8 = .ok (.iload_n 2, 1) := by decide +kernel
theorem dM_finish_9 : decode prog_13_method_90_code 9 = .ok (.iconst 1, 1) := by decide +kernel
theorem dM_finish_10 : decode prog_13_method_90_code 10 = .ok (.if_icmp .ne 7, 3) := by decide +kernel
theorem dM_finish_13 : decode prog_13_method_90_code 13 = .ok (.aconst_null, 1) := by decide +kernel
theorem dM_finish_14 : decode prog_13_method_90_code 14 = .ok (.goto 9, 3) := by decide +kernel
theorem dM_finish_17 : decode prog_13_method_90_code 17 = .ok (.aload_n 0, 1) := by decide +kernel
theorem dM_finish_18 : decode prog_13_method_90_code 18 = .ok (.iload 5, 2) := by decide +kernel
theorem dM_finish_20 : decode prog_13_method_90_code 20 = .ok (.invokevirtual 437, 3) := by decide +kernel
theorem dM_finish_23 : decode prog_13_method_90_code 23 = .ok (.astore 7, 2) := by decide +kernel
theorem dM_finish_25 : decode prog_13_method_90_code 25 = .ok (.iload_n 2, 1) := by decide +kernel
theorem dM_finish_26 : decode prog_13_method_90_code 26 = .ok (.ifCond .ne 17, 3) := by decide +kernel
theorem dM_finish_29 : decode prog_13_method_90_code 29 = .ok (.aload_n 0, 1) := by decide +kernel
theorem dM_finish_30 : decode prog_13_method_90_code 30 = .ok (.iload_n 3, 1) := by decide +kernel
theorem dM_finish_31 : decode prog_13_method_90_code 31 = .ok (.aload 6, 2) := by decide +kernel
theorem dM_finish_33 : decode prog_13_method_90_code 33 = .ok (.aload 7, 2) := by decide +kernel
theorem dM_finish_35 : decode prog_13_method_90_code 35 = .ok (.invokevirtual 446, 3) := by decide +kernel
theorem dM_finish_38 : decode prog_13_method_90_code 38 = .ok (.astore 8, 2) := by decide +kernel
theorem dM_finish_40 : decode prog_13_method_90_code 40 = .ok (.goto 79, 3) := by decide +kernel
theorem dM_finish_43 : decode prog_13_method_90_code 43 = .ok (.iload_n 2, 1) := by decide +kernel
theorem dM_finish_44 : decode prog_13_method_90_code 44 = .ok (.iconst 1, 1) := by decide +kernel
theorem dM_finish_45 : decode prog_13_method_90_code 45 = .ok (.if_icmp .ne 15, 3) := by decide +kernel
theorem dM_finish_48 : decode prog_13_method_90_code 48 = .ok (.aload_n 0, 1) := by decide +kernel
theorem dM_finish_49 : decode prog_13_method_90_code 49 = .ok (.iload_n 3, 1) := by decide +kernel
theorem dM_finish_50 : decode prog_13_method_90_code 50 = .ok (.aload 6, 2) := by decide +kernel
theorem dM_finish_52 : decode prog_13_method_90_code 52 = .ok (.invokevirtual 450, 3) := by decide +kernel
theorem dM_finish_55 : decode prog_13_method_90_code 55 = .ok (.astore 8, 2) := by decide +kernel
theorem dM_finish_57 : decode prog_13_method_90_code 57 = .ok (.goto 62, 3) := by decide +kernel
theorem dM_finish_60 : decode prog_13_method_90_code 60 = .ok (.iload_n 2, 1) := by decide +kernel
theorem dM_finish_61 : decode prog_13_method_90_code 61 = .ok (.iconst 2, 1) := by decide +kernel
theorem dM_finish_62 : decode prog_13_method_90_code 62 = .ok (.if_icmp .ne 17, 3) := by decide +kernel
theorem dM_finish_65 : decode prog_13_method_90_code 65 = .ok (.aload_n 0, 1) := by decide +kernel
theorem dM_finish_66 : decode prog_13_method_90_code 66 = .ok (.iload_n 3, 1) := by decide +kernel
theorem dM_finish_67 : decode prog_13_method_90_code 67 = .ok (.aload 6, 2) := by decide +kernel
theorem dM_finish_69 : decode prog_13_method_90_code 69 = .ok (.aload 7, 2) := by decide +kernel
theorem dM_finish_71 : decode prog_13_method_90_code 71 = .ok (.invokevirtual 454, 3) := by decide +kernel
theorem dM_finish_74 : decode prog_13_method_90_code 74 = .ok (.astore 8, 2) := by decide +kernel
theorem dM_finish_76 : decode prog_13_method_90_code 76 = .ok (.goto 43, 3) := by decide +kernel
theorem dM_finish_79 : decode prog_13_method_90_code 79 = .ok (.aload_n 0, 1) := by decide +kernel
theorem dM_finish_80 : decode prog_13_method_90_code 80 = .ok (.aload 6, 2) := by decide +kernel
theorem dM_finish_82 : decode prog_13_method_90_code 82 = .ok (.invokevirtual 337, 3) := by decide +kernel
theorem dM_finish_85 : decode prog_13_method_90_code 85 = .ok (.getfield 103, 3) := by decide +kernel
theorem dM_finish_88 : decode prog_13_method_90_code 88 = .ok (.aload_n 0, 1) := by decide +kernel
theorem dM_finish_89 : decode prog_13_method_90_code 89 = .ok (.aload 7, 2) := by decide +kernel
theorem dM_finish_91 : decode prog_13_method_90_code 91 = .ok (.invokevirtual 337, 3) := by decide +kernel
theorem dM_finish_94 : decode prog_13_method_90_code 94 = .ok (.getfield 103, 3) := by decide +kernel
theorem dM_finish_97 : decode prog_13_method_90_code 97 = .ok (.if_icmp .eq 11, 3) := by decide +kernel
theorem dM_finish_100 : decode prog_13_method_90_code 100 = .ok (.aload_n 0, 1) := by decide +kernel
theorem dM_finish_101 : decode prog_13_method_90_code 101 = .ok (.iconst 1, 1) := by decide +kernel
theorem dM_finish_102 : decode prog_13_method_90_code 102 = .ok (.invokevirtual 116, 3) := by decide +kernel
theorem dM_finish_108 : decode prog_13_method_90_code 108 = .ok (.aload_n 0, 1) := by decide +kernel
theorem dM_finish_109 : decode prog_13_method_90_code 109 = .ok (.aload 6, 2) := by decide +kernel
theorem dM_finish_111 : decode prog_13_method_90_code 111 = .ok (.aload 7, 2) := by decide +kernel
theorem dM_finish_113 : decode prog_13_method_90_code 113 = .ok (.iload_n 3, 1) := by decide +kernel
theorem dM_finish_114 : decode prog_13_method_90_code 114 = .ok (.invokevirtual 194, 3) := by decide +kernel
theorem dM_finish_117 : decode prog_13_method_90_code 117 = .ok (.astore 8, 2) := by decide +kernel
theorem dM_finish_119 : decode prog_13_method_90_code 119 = .ok (.aload_n 0, 1) := by decide +kernel
theorem dM_finish_120 : decode prog_13_method_90_code 120 = .ok (.iload_n 1, 1) := by decide +kernel
theorem dM_finish_121 : decode prog_13_method_90_code 121 = .ok (.aload 8, 2) := by decide +kernel
theorem dM_finish_123 : decode prog_13_method_90_code 123 = .ok (.invokevirtual 430, 3) := by decide +kernel
theorem dM_finish_126 : decode prog_13_method_90_code 126 = .ok (.istore 9, 2) := by decide +kernel
theorem dM_finish_128 : decode prog_13_method_90_code 128 = .ok (.goto 28, 3) := by decide +kernel
theorem dM_finish_131 : decode prog_13_method_90_code 131 = .ok (.astore 6, 2) := by decide +kernel
theorem dM_finish_133 : decode prog_13_method_90_code 133 = .ok (.aload_n 0, 1) := by decide +kernel
theorem dM_finish_134 : decode prog_13_method_90_code 134 = .ok (.aload_n 0, 1) := by decide +kernel
theorem dM_finish_135 : decode prog_13_method_90_code 135 = .ok (.getfield 80, 3) := by decide +kernel
theorem dM_finish_138 : decode prog_13_method_90_code 138 = .ok (.putfield 415, 3) := by decide +kernel
theorem dM_finish_141 : decode prog_13_method_90_code 141 = .ok (.aload_n 0, 1) := by decide +kernel
theorem dM_finish_142 : decode prog_13_method_90_code 142 = .ok (.iconst 2, 1) := by decide +kernel
theorem dM_finish_143 : decode prog_13_method_90_code 143 = .ok (.putfield 77, 3) := by decide +kernel
theorem dM_finish_146 : decode prog_13_method_90_code 146 = .ok (.goto 10, 3) := by decide +kernel
theorem dM_finish_149 : decode prog_13_method_90_code 149 = .ok (.astore 6, 2) := by decide +kernel
theorem dM_finish_151 : decode prog_13_method_90_code 151 = .ok (.aload_n 0, 1) := by decide +kernel
theorem dM_finish_152 : decode prog_13_method_90_code 152 = .ok (.iconst 3, 1) := by decide +kernel
theorem dM_finish_153 : decode prog_13_method_90_code 153 = .ok (.putfield 77, 3) := by decide +kernel
theorem dM_finish_156 : decode prog_13_method_90_code 156 = .ok (.return_, 1) := by decide +kernel
theorem dM_flat_0 : decode prog_13_method_73_code 0 = .ok (.iconst 0, 1) := by decide +kernel
theorem dM_flat_1 : decode prog_13_method_73_code 1 = .ok (.istore 4, 2) := by decide +kernel
theorem dM_flat_3 : decode prog_13_method_73_code 3 = .ok (.iload 4, 2) := by decide +kernel
theorem dM_flat_5 : decode prog_13_method_73_code 5 = .ok (.aload_n 1, 1) := by decide +kernel
theorem dM_flat_6 : decode prog_13_method_73_code 6 = .ok (.getfield 103, 3) := by decide +kernel
theorem dM_flat_9 : decode prog_13_method_73_code 9 = .ok (.if_icmp .ge 52, 3) := by decide +kernel
theorem dM_flat_12 : decode prog_13_method_73_code 12 = .ok (.aload_n 0, 1) := by decide +kernel
theorem dM_flat_13 : decode prog_13_method_73_code 13 = .ok (.aload_n 1, 1) := by decide +kernel
theorem dM_flat_14 : decode prog_13_method_73_code 14 = .ok (.iload 4, 2) := by decide +kernel
theorem dM_flat_16 : decode prog_13_method_73_code 16 = .ok (.invokevirtual 170, 3) := by decide +kernel
theorem dM_flat_19 : decode prog_13_method_73_code 19 = .ok (.astore 5, 2) := by decide +kernel
theorem dM_flat_21 : decode prog_13_method_73_code 21 = .ok (.aload 5, 2) := by decide +kernel
theorem dM_flat_23 : decode prog_13_method_73_code 23 = .ok (.getfield 93, 3) := by decide +kernel
theorem dM_flat_26 : decode prog_13_method_73_code 26 = .ok (.iconst 5, 1) := by decide +kernel
theorem dM_flat_27 : decode prog_13_method_73_code 27 = .ok (.if_icmp .ne 21, 3) := by decide +kernel
theorem dM_flat_30 : decode prog_13_method_73_code 30 = .ok (.lload_n 2, 1) := by decide +kernel
theorem dM_flat_31 : decode prog_13_method_73_code 31 = .ok (.lconst 0, 1) := by decide +kernel
theorem dM_flat_32 : decode prog_13_method_73_code 32 = .ok (.lcmp, 1) := by decide +kernel
theorem dM_flat_33 : decode prog_13_method_73_code 33 = .ok (.ifCond .le 15, 3) := by decide +kernel
theorem dM_flat_36 : decode prog_13_method_73_code 36 = .ok (.aload_n 0, 1) := by decide +kernel
theorem dM_flat_37 : decode prog_13_method_73_code 37 = .ok (.aload 5, 2) := by decide +kernel
theorem dM_flat_39 : decode prog_13_method_73_code 39 = .ok (.lload_n 2, 1) := by decide +kernel
theorem dM_flat_40 : decode prog_13_method_73_code 40 = .ok (.lconst 1, 1) := by decide +kernel
theorem dM_flat_41 : decode prog_13_method_73_code 41 = .ok (.lsub, 1) := by decide +kernel
theorem dM_flat_42 : decode prog_13_method_73_code 42 = .ok (.invokevirtual 394, 3) := by decide +kernel
theorem dM_flat_45 : decode prog_13_method_73_code 45 = .ok (.goto 10, 3) := by decide +kernel
theorem dM_flat_48 : decode prog_13_method_73_code 48 = .ok (.aload_n 0, 1) := by decide +kernel
theorem dM_flat_49 : decode prog_13_method_73_code 49 = .ok (.aconst_null, 1) := by decide +kernel
theorem dM_flat_50 : decode prog_13_method_73_code 50 = .ok (.aload 5, 2) := by decide +kernel
theorem dM_flat_52 : decode prog_13_method_73_code 52 = .ok (.invokevirtual 186, 3) := by decide +kernel
theorem dM_flat_55 : decode prog_13_method_73_code 55 = .ok (.iinc 4 1, 3) := by decide +kernel
theorem dM_flat_58 : decode prog_13_method_73_code 58 = .ok (.goto (-55), 3) := by decide +kernel
theorem dM_flat_61 : decode prog_13_method_73_code 61 = .ok (.return_, 1) := by decide +kernel
theorem dM_flatten_0 : decode prog_13_method_74_code 0 = .ok (.aload_n 0, 1) := by decide +kernel
theorem dM_flatten_1 : decode prog_13_method_74_code 1 = .ok (.aload_n 1, 1) := by decide +kernel
theorem dM_flatten_2 : decode prog_13_method_74_code 2 = .ok (.invokevirtual 337, 3) := by decide +kernel
theorem dM_flatten_5 : decode prog_13_method_74_code 5 = .ok (.getfield 93, 3) := by decide +kernel
theorem dM_flatten_8 : decode prog_13_method_74_code 8 = .ok (.iconst 5, 1) := by decide +kernel
theorem dM_flatten_9 : decode prog_13_method_74_code 9 = .ok (.if_icmp .ne 11, 3) := by decide +kernel
theorem dM_flatten_12 : decode prog_13_method_74_code 12 = .ok (.aload_n 2, 1) := by decide +kernel
theorem dM_flatten_13 : decode prog_13_method_74_code 13 = .ok (.getfield 93, 3) := by decide +kernel
theorem dM_flatten_16 : decode prog_13_method_74_code 16 = .ok (.iconst 3, 1) := by decide +kernel
theorem dM_flatten_17 : decode prog_13_method_74_code 17 = .ok (.if_icmp .eq 9, 3) := by decide +kernel
theorem dM_flatten_20 : decode prog_13_method_74_code 20 = .ok (.aload_n 0, 1) := by decide +kernel
theorem dM_flatten_21 : decode prog_13_method_74_code 21 = .ok (.iconst 1, 1) := by decide +kernel
theorem dM_flatten_22 : decode prog_13_method_74_code 22 = .ok (.invokevirtual 116, 3) := by decide +kernel
theorem dM_flatten_26 : decode prog_13_method_74_code 26 = .ok (.aload_n 2, 1) := by decide +kernel
theorem dM_flatten_27 : decode prog_13_method_74_code 27 = .ok (.getfield 96, 3) := by decide +kernel
theorem dM_flatten_30 : decode prog_13_method_74_code 30 = .ok (.lconst 0, 1) := by decide +kernel
theorem dM_flatten_31 : decode prog_13_method_74_code 31 = .ok (.lcmp, 1) := by decide +kernel
theorem dM_flatten_32 : decode prog_13_method_74_code 32 = .ok (.ifCond .ge 9, 3) := by decide +kernel
theorem dM_flatten_35 : decode prog_13_method_74_code 35 = .ok (.aload_n 0, 1) := by decide +kernel
theorem dM_flatten_36 : decode prog_13_method_74_code 36 = .ok (.iconst 2, 1) := by decide +kernel
theorem dM_flatten_37 : decode prog_13_method_74_code 37 = .ok (.invokevirtual 116, 3) := by decide +kernel
theorem dM_flatten_41 : decode prog_13_method_74_code 41 = .ok (.aload_n 0, 1) := by decide +kernel
theorem dM_flatten_42 : decode prog_13_method_74_code 42 = .ok (.getfield 142, 3) := by decide +kernel
theorem dM_flatten_45 : decode prog_13_method_74_code 45 = .ok (.istore_n 3, 1) := by decide +kernel
theorem dM_flatten_46 : decode prog_13_method_74_code 46 = .ok (.aload_n 0, 1) := by decide +kernel
theorem dM_flatten_47 : decode prog_13_method_74_code 47 = .ok (.aload_n 1, 1) := by decide +kernel
theorem dM_flatten_48 : decode prog_13_method_74_code 48 = .ok (.aload_n 2, 1) := by decide +kernel
theorem dM_flatten_49 : decode prog_13_method_74_code 49 = .ok (.getfield 96, 3) := by decide +kernel
theorem dM_flatten_52 : decode prog_13_method_74_code 52 = .ok (.invokevirtual 394, 3) := by decide +kernel
theorem dM_flatten_55 : decode prog_13_method_74_code 55 = .ok (.aload_n 0, 1) := by decide +kernel
theorem dM_flatten_56 : decode prog_13_method_74_code 56 = .ok (.iconst 5, 1) := by decide +kernel
theorem dM_flatten_57 : decode prog_13_method_74_code 57 = .ok (.iload_n 3, 1) := by decide +kernel
theorem dM_flatten_58 : decode prog_13_method_74_code 58 = .ok (.invokevirtual 190, 3) := by decide +kernel
theorem dM_flatten_61 : decode prog_13_method_74_code 61 = .ok (.areturn, 1) := by decide +kernel
theorem dM_following_0 : decode prog_13_method_23_code 0 = .ok (.aconst_null, 1) := by decide +kernel
theorem dM_following_1 : decode prog_13_method_23_code 1 = .ok (.astore_n 3, 1) := by decide +kernel
theorem dM_following_2 : decode prog_13_method_23_code 2 = .ok (.iconst 0, 1) := by decide +kernel
theorem dM_following_3 : decode prog_13_method_23_code 3 = .ok (.istore 4, 2) := by decide +kernel
theorem dM_following_5 : decode prog_13_method_23_code 5 = .ok (.iload 4, 2) := by decide +kernel
theorem dM_following_7 : decode prog_13_method_23_code 7 = .ok (.aload_n 1, 1) := by decide +kernel
theorem dM_following_8 : decode prog_13_method_23_code 8 = .ok (.getfield 103, 3) := by decide +kernel
theorem dM_following_11 : decode prog_13_method_23_code 11 = .ok (.if_icmp .ge 49, 3) := by decide +kernel
theorem dM_following_14 : decode prog_13_method_23_code 14 = .ok (.aload_n 0, 1) := by decide +kernel
theorem dM_following_15 : decode prog_13_method_23_code 15 = .ok (.aload_n 1, 1) := by decide +kernel
theorem dM_following_16 : decode prog_13_method_23_code 16 = .ok (.iload 4, 2) := by decide +kernel
theorem dM_following_18 : decode prog_13_method_23_code 18 = .ok (.invokevirtual 159, 3) := by decide +kernel
theorem dM_following_21 : decode prog_13_method_23_code 21 = .ok (.astore 5, 2) := by decide +kernel
theorem dM_following_23 : decode prog_13_method_23_code 23 = .ok (.aload_n 2, 1) := by decide +kernel
theorem dM_following_24 : decode prog_13_method_23_code 24 = .ok (.ifnull 13, 3) := by decide +kernel
theorem dM_following_27 : decode prog_13_method_23_code 27 = .ok (.aload_n 0, 1) := by decide +kernel
theorem dM_following_28 : decode prog_13_method_23_code 28 = .ok (.aload 5, 2) := by decide +kernel
theorem dM_following_30 : decode prog_13_method_23_code 30 = .ok (.aload_n 2, 1) := by decide +kernel
theorem dM_following_31 : decode prog_13_method_23_code 31 = .ok (.invokevirtual 176, 3) := by decide +kernel
theorem dM_following_34 : decode prog_13_method_23_code 34 = .ok (.ifCond .le 20, 3) := by decide +kernel
theorem dM_following_37 : decode prog_13_method_23_code 37 = .ok (.aload_n 3, 1) := by decide +kernel
theorem dM_following_38 : decode prog_13_method_23_code 38 = .ok (.ifnull 13, 3) := by decide +kernel
theorem dM_following_41 : decode prog_13_method_23_code 41 = .ok (.aload_n 0, 1) := by decide +kernel
theorem dM_following_42 : decode prog_13_method_23_code 42 = .ok (.aload 5, 2) := by decide +kernel
theorem dM_following_44 : decode prog_13_method_23_code 44 = .ok (.aload_n 3, 1) := by decide +kernel
theorem dM_following_45 : decode prog_13_method_23_code 45 = .ok (.invokevirtual 176, 3) := by decide +kernel
theorem dM_following_48 : decode prog_13_method_23_code 48 = .ok (.ifCond .ge 6, 3) := by decide +kernel
theorem dM_following_51 : decode prog_13_method_23_code 51 = .ok (.aload 5, 2) := by decide +kernel
theorem dM_following_53 : decode prog_13_method_23_code 53 = .ok (.astore_n 3, 1) := by decide +kernel
theorem dM_following_54 : decode prog_13_method_23_code 54 = .ok (.iinc 4 1, 3) := by decide +kernel
theorem dM_following_57 : decode prog_13_method_23_code 57 = .ok (.goto (-52), 3) := by decide +kernel
theorem dM_following_60 : decode prog_13_method_23_code 60 = .ok (.aload_n 3, 1) := by decide +kernel
theorem dM_following_61 : decode prog_13_method_23_code 61 = .ok (.areturn, 1) := by decide +kernel
theorem dM_fresh_0 : decode prog_13_method_6_code 0 = .ok (.aload_n 0, 1) := by decide +kernel
theorem dM_fresh_1 : decode prog_13_method_6_code 1 = .ok (.getfield 89, 3) := by decide +kernel
theorem dM_fresh_4 : decode prog_13_method_6_code 4 = .ok (.aload_n 0, 1) := by decide +kernel
theorem dM_fresh_5 : decode prog_13_method_6_code 5 = .ok (.getfield 9, 3) := by decide +kernel
theorem dM_fresh_8 : decode prog_13_method_6_code 8 = .ok (.arraylength, 1) := by decide +kernel
theorem dM_fresh_9 : decode prog_13_method_6_code 9 = .ok (.if_icmp .ne 43, 3) := by decide +kernel
theorem dM_fresh_12 : decode prog_13_method_6_code 12 = .ok (.iconst 2, 1) := by decide +kernel
theorem dM_fresh_13 : decode prog_13_method_6_code 13 = .ok (.aload_n 0, 1) := by decide +kernel
theorem dM_fresh_14 : decode prog_13_method_6_code 14 = .ok (.getfield 89, 3) := by decide +kernel
theorem dM_fresh_17 : decode prog_13_method_6_code 17 = .ok (.imul, 1) := by decide +kernel
theorem dM_fresh_18 : decode prog_13_method_6_code 18 = .ok (.anewarray 7, 3) := by decide +kernel
theorem dM_fresh_21 : decode prog_13_method_6_code 21 = .ok (.astore_n 2, 1) := by decide +kernel
theorem dM_fresh_22 : decode prog_13_method_6_code 22 = .ok (.iconst 0, 1) := by decide +kernel
theorem dM_fresh_23 : decode prog_13_method_6_code 23 = .ok (.istore_n 3, 1) := by decide +kernel
theorem dM_fresh_24 : decode prog_13_method_6_code 24 = .ok (.iload_n 3, 1) := by decide +kernel
theorem dM_fresh_25 : decode prog_13_method_6_code 25 = .ok (.aload_n 0, 1) := by decide +kernel
theorem dM_fresh_26 : decode prog_13_method_6_code 26 = .ok (.getfield 89, 3) := by decide +kernel
theorem dM_fresh_29 : decode prog_13_method_6_code 29 = .ok (.if_icmp .ge 18, 3) := by decide +kernel
theorem dM_fresh_32 : decode prog_13_method_6_code 32 = .ok (.aload_n 2, 1) := by decide +kernel
theorem dM_fresh_33 : decode prog_13_method_6_code 33 = .ok (.iload_n 3, 1) := by decide +kernel
theorem dM_fresh_34 : decode prog_13_method_6_code 34 = .ok (.aload_n 0, 1) := by decide +kernel
theorem dM_fresh_35 : decode prog_13_method_6_code 35 = .ok (.getfield 9, 3) := by decide +kernel
theorem dM_fresh_38 : decode prog_13_method_6_code 38 = .ok (.iload_n 3, 1) := by decide +kernel
theorem dM_fresh_39 : decode prog_13_method_6_code 39 = .ok (.aaload, 1) := by decide +kernel
theorem dM_fresh_40 : decode prog_13_method_6_code 40 = .ok (.aastore, 1) := by decide +kernel
theorem dM_fresh_41 : decode prog_13_method_6_code 41 = .ok (.iinc 3 1, 3) := by decide +kernel
theorem dM_fresh_44 : decode prog_13_method_6_code 44 = .ok (.goto (-20), 3) := by decide +kernel
theorem dM_fresh_47 : decode prog_13_method_6_code 47 = .ok (.aload_n 0, 1) := by decide +kernel
theorem dM_fresh_48 : decode prog_13_method_6_code 48 = .ok (.aload_n 2, 1) := by decide +kernel
theorem dM_fresh_49 : decode prog_13_method_6_code 49 = .ok (.putfield 9, 3) := by decide +kernel
theorem dM_fresh_52 : decode prog_13_method_6_code 52 = .ok (.aload_n 0, 1) := by decide +kernel
theorem dM_fresh_53 : decode prog_13_method_6_code 53 = .ok (.getfield 9, 3) := by decide +kernel
theorem dM_fresh_56 : decode prog_13_method_6_code 56 = .ok (.aload_n 0, 1) := by decide +kernel
theorem dM_fresh_57 : decode prog_13_method_6_code 57 = .ok (.getfield 89, 3) := by decide +kernel
theorem dM_fresh_60 : decode prog_13_method_6_code 60 = .ok (.aaload, 1) := by decide +kernel
theorem dM_fresh_61 : decode prog_13_method_6_code 61 = .ok (.ifnonnull 19, 3) := by decide +kernel
theorem dM_fresh_64 : decode prog_13_method_6_code 64 = .ok (.aload_n 0, 1) := by decide +kernel
theorem dM_fresh_65 : decode prog_13_method_6_code 65 = .ok (.getfield 9, 3) := by decide +kernel
theorem dM_fresh_68 : decode prog_13_method_6_code 68 = .ok (.aload_n 0, 1) := by decide +kernel
theorem dM_fresh_69 : decode prog_13_method_6_code 69 = .ok (.getfield 89, 3) := by decide +kernel
theorem dM_fresh_72 : decode prog_13_method_6_code 72 = .ok (.new 7, 3) := by decide +kernel
theorem dM_fresh_75 : decode prog_13_method_6_code 75 = .ok (.dup, 1) := by decide +kernel
theorem dM_fresh_76 : decode prog_13_method_6_code 76 = .ok (.invokespecial 92, 3) := by decide +kernel
theorem dM_fresh_79 : decode prog_13_method_6_code 79 = .ok (.aastore, 1) := by decide +kernel
theorem dM_fresh_80 : decode prog_13_method_6_code 80 = .ok (.aload_n 0, 1) := by decide +kernel
theorem dM_fresh_81 : decode prog_13_method_6_code 81 = .ok (.getfield 9, 3) := by decide +kernel
theorem dM_fresh_84 : decode prog_13_method_6_code 84 = .ok (.aload_n 0, 1) := by decide +kernel
theorem dM_fresh_85 : decode prog_13_method_6_code 85 = .ok (.getfield 89, 3) := by decide +kernel
theorem dM_fresh_88 : decode prog_13_method_6_code 88 = .ok (.aaload, 1) := by decide +kernel
theorem dM_fresh_89 : decode prog_13_method_6_code 89 = .ok (.astore_n 2, 1) := by decide +kernel
theorem dM_fresh_90 : decode prog_13_method_6_code 90 = .ok (.aload_n 0, 1) := by decide +kernel
theorem dM_fresh_91 : decode prog_13_method_6_code 91 = .ok (.dup, 1) := by decide +kernel
theorem dM_fresh_92 : decode prog_13_method_6_code 92 = .ok (.getfield 89, 3) := by decide +kernel
theorem dM_fresh_95 : decode prog_13_method_6_code 95 = .ok (.iconst 1, 1) := by decide +kernel
theorem dM_fresh_96 : decode prog_13_method_6_code 96 = .ok (.iadd, 1) := by decide +kernel
theorem dM_fresh_97 : decode prog_13_method_6_code 97 = .ok (.putfield 89, 3) := by decide +kernel
theorem dM_fresh_100 : decode prog_13_method_6_code 100 = .ok (.aload_n 2, 1) := by decide +kernel
theorem dM_fresh_101 : decode prog_13_method_6_code 101 = .ok (.iload_n 1, 1) := by decide +kernel
theorem dM_fresh_102 : decode prog_13_method_6_code 102 = .ok (.putfield 93, 3) := by decide +kernel
theorem dM_fresh_105 : decode prog_13_method_6_code 105 = .ok (.aload_n 2, 1) := by decide +kernel
theorem dM_fresh_106 : decode prog_13_method_6_code 106 = .ok (.lconst 0, 1) := by decide +kernel
theorem dM_fresh_107 : decode prog_13_method_6_code 107 = .ok (.putfield 96, 3) := by decide +kernel
theorem dM_fresh_110 : decode prog_13_method_6_code 110 = .ok (.aload_n 2, 1) := by decide +kernel
theorem dM_fresh_111 : decode prog_13_method_6_code 111 = .ok (.iconst 0, 1) := by decide +kernel
theorem dM_fresh_112 : decode prog_13_method_6_code 112 = .ok (.putfield 100, 3) := by decide +kernel
theorem dM_fresh_115 : decode prog_13_method_6_code 115 = .ok (.aload_n 2, 1) := by decide +kernel
theorem dM_fresh_116 : decode prog_13_method_6_code 116 = .ok (.iconst 0, 1) := by decide +kernel
theorem dM_fresh_117 : decode prog_13_method_6_code 117 = .ok (.putfield 103, 3) := by decide +kernel
theorem dM_fresh_120 : decode prog_13_method_6_code 120 = .ok (.aload_n 2, 1) := by decide +kernel
theorem dM_fresh_121 : decode prog_13_method_6_code 121 = .ok (.iconst 0, 1) := by decide +kernel
theorem dM_fresh_122 : decode prog_13_method_6_code 122 = .ok (.putfield 106, 3) := by decide +kernel
theorem dM_fresh_125 : decode prog_13_method_6_code 125 = .ok (.aload_n 2, 1) := by decide +kernel
theorem dM_fresh_126 : decode prog_13_method_6_code 126 = .ok (.iconst 1, 1) := by decide +kernel
theorem dM_fresh_127 : decode prog_13_method_6_code 127 = .ok (.putfield 109, 3) := by decide +kernel
theorem dM_fresh_130 : decode prog_13_method_6_code 130 = .ok (.aload_n 2, 1) := by decide +kernel
theorem dM_fresh_131 : decode prog_13_method_6_code 131 = .ok (.areturn, 1) := by decide +kernel
theorem dM_fromJson_0 : decode prog_13_method_60_code 0 = .ok (.aload_n 0, 1) := by decide +kernel
theorem dM_fromJson_1 : decode prog_13_method_60_code 1 = .ok (.aload_n 1, 1) := by decide +kernel
theorem dM_fromJson_2 : decode prog_13_method_60_code 2 = .ok (.invokevirtual 341, 3) := by decide +kernel
theorem dM_fromJson_5 : decode prog_13_method_60_code 5 = .ok (.pop, 1) := by decide +kernel
theorem dM_fromJson_6 : decode prog_13_method_60_code 6 = .ok (.aload_n 0, 1) := by decide +kernel
theorem dM_fromJson_7 : decode prog_13_method_60_code 7 = .ok (.getfield 214, 3) := by decide +kernel
theorem dM_fromJson_10 : decode prog_13_method_60_code 10 = .ok (.astore_n 2, 1) := by decide +kernel
theorem dM_fromJson_11 : decode prog_13_method_60_code 11 = .ok (.aload_n 0, 1) := by decide +kernel
theorem dM_fromJson_12 : decode prog_13_method_60_code 12 = .ok (.getfield 208, 3) := by decide +kernel
theorem dM_fromJson_15 : decode prog_13_method_60_code 15 = .ok (.istore_n 3, 1) := by decide +kernel
theorem dM_fromJson_16 : decode prog_13_method_60_code 16 = .ok (.aload_n 0, 1) := by decide +kernel
theorem dM_fromJson_17 : decode prog_13_method_60_code 17 = .ok (.getfield 211, 3) := by decide +kernel
theorem dM_fromJson_20 : decode prog_13_method_60_code 20 = .ok (.istore 4, 2) := by decide +kernel
theorem dM_fromJson_22 : decode prog_13_method_60_code 22 = .ok (.aload_n 0, 1) := by decide +kernel
theorem dM_fromJson_23 : decode prog_13_method_60_code 23 = .ok (.getfield 42, 3) := by decide +kernel
theorem dM_fromJson_26 : decode prog_13_method_60_code 26 = .ok (.istore 5, 2) := by decide +kernel
theorem dM_fromJson_28 : decode prog_13_method_60_code 28 = .ok (.aload_n 0, 1) := by decide +kernel
theorem dM_fromJson_29 : decode prog_13_method_60_code 29 = .ok (.getfield 142, 3) := by decide +kernel
theorem dM_fromJson_32 : decode prog_13_method_60_code 32 = .ok (.istore 6, 2) := by decide +kernel
theorem dM_fromJson_34 : decode prog_13_method_60_code 34 = .ok (.aload_n 0, 1) := by decide +kernel
theorem dM_fromJson_35 : decode prog_13_method_60_code 35 = .ok (.getfield 38, 3) := by decide +kernel
theorem dM_fromJson_38 : decode prog_13_method_60_code 38 = .ok (.istore 7, 2) := by decide +kernel
theorem dM_fromJson_40 : decode prog_13_method_60_code 40 = .ok (.aload_n 0, 1) := by decide +kernel
theorem dM_fromJson_41 : decode prog_13_method_60_code 41 = .ok (.bipush 40, 2) := by decide +kernel
theorem dM_fromJson_43 : decode prog_13_method_60_code 43 = .ok (.putfield 38, 3) := by decide +kernel
theorem dM_fromJson_46 : decode prog_13_method_60_code 46 = .ok (.aconst_null, 1) := by decide +kernel
theorem dM_fromJson_47 : decode prog_13_method_60_code 47 = .ok (.astore 8, 2) := by decide +kernel
theorem dM_fromJson_49 : decode prog_13_method_60_code 49 = .ok (.aload_n 0, 1) := by decide +kernel
theorem dM_fromJson_50 : decode prog_13_method_60_code 50 = .ok (.aload_n 0, 1) := by decide +kernel
theorem dM_fromJson_51 : decode prog_13_method_60_code 51 = .ok (.getfield 15, 3) := by decide +kernel
theorem dM_fromJson_54 : decode prog_13_method_60_code 54 = .ok (.aload_n 1, 1) := by decide +kernel
theorem dM_fromJson_55 : decode prog_13_method_60_code 55 = .ok (.getfield 100, 3) := by decide +kernel
theorem dM_fromJson_58 : decode prog_13_method_60_code 58 = .ok (.aload_n 1, 1) := by decide +kernel
theorem dM_fromJson_59 : decode prog_13_method_60_code 59 = .ok (.getfield 100, 3) := by decide +kernel
theorem dM_fromJson_62 : decode prog_13_method_60_code 62 = .ok (.aload_n 1, 1) := by decide +kernel
theorem dM_fromJson_63 : decode prog_13_method_60_code 63 = .ok (.getfield 103, 3) := by decide +kernel
theorem dM_fromJson_66 : decode prog_13_method_60_code 66 = .ok (.iadd, 1) := by decide +kernel
theorem dM_fromJson_67 : decode prog_13_method_60_code 67 = .ok (.invokevirtual 344, 3) := by decide +kernel
theorem dM_fromJson_70 : decode prog_13_method_60_code 70 = .ok (.astore 8, 2) := by decide +kernel
theorem dM_fromJson_72 : decode prog_13_method_60_code 72 = .ok (.goto 8, 3) := by decide +kernel
theorem dM_fromJson_75 : decode prog_13_method_60_code 75 = .ok (.astore 9, 2) := by decide +kernel
theorem dM_fromJson_77 : decode prog_13_method_60_code 77 = .ok (.aconst_null, 1) := by decide +kernel
theorem dM_fromJson_78 : decode prog_13_method_60_code 78 = .ok (.astore 8, 2) := by decide +kernel
theorem dM_fromJson_80 : decode prog_13_method_60_code 80 = .ok (.aload_n 0, 1) := by decide +kernel
theorem dM_fromJson_81 : decode prog_13_method_60_code 81 = .ok (.aload_n 2, 1) := by decide +kernel
theorem dM_fromJson_82 : decode prog_13_method_60_code 82 = .ok (.putfield 214, 3) := by decide +kernel
theorem dM_fromJson_85 : decode prog_13_method_60_code 85 = .ok (.aload_n 0, 1) := by decide +kernel
theorem dM_fromJson_86 : decode prog_13_method_60_code 86 = .ok (.iload_n 3, 1) := by decide +kernel
theorem dM_fromJson_87 : decode prog_13_method_60_code 87 = .ok (.putfield 208, 3) := by decide +kernel
theorem dM_fromJson_90 : decode prog_13_method_60_code 90 = .ok (.aload_n 0, 1) := by decide +kernel
theorem dM_fromJson_91 : decode prog_13_method_60_code 91 = .ok (.iload 4, 2) := by decide +kernel
theorem dM_fromJson_93 : decode prog_13_method_60_code 93 = .ok (.putfield 211, 3) := by decide +kernel
theorem dM_fromJson_96 : decode prog_13_method_60_code 96 = .ok (.aload_n 0, 1) := by decide +kernel
theorem dM_fromJson_97 : decode prog_13_method_60_code 97 = .ok (.iload 5, 2) := by decide +kernel
theorem dM_fromJson_99 : decode prog_13_method_60_code 99 = .ok (.putfield 42, 3) := by decide +kernel
theorem dM_fromJson_102 : decode prog_13_method_60_code 102 = .ok (.aload_n 0, 1) := by decide +kernel
theorem dM_fromJson_103 : decode prog_13_method_60_code 103 = .ok (.iload 6, 2) := by decide +kernel
theorem dM_fromJson_105 : decode prog_13_method_60_code 105 = .ok (.putfield 142, 3) := by decide +kernel
theorem dM_fromJson_108 : decode prog_13_method_60_code 108 = .ok (.aload_n 0, 1) := by decide +kernel
theorem dM_fromJson_109 : decode prog_13_method_60_code 109 = .ok (.iload 7, 2) := by decide +kernel
theorem dM_fromJson_111 : decode prog_13_method_60_code 111 = .ok (.putfield 38, 3) := by decide +kernel
theorem dM_fromJson_114 : decode prog_13_method_60_code 114 = .ok (.aload 8, 2) := by decide +kernel
theorem dM_fromJson_116 : decode prog_13_method_60_code 116 = .ok (.ifnonnull 11, 3) := by decide +kernel
theorem dM_fromJson_119 : decode prog_13_method_60_code 119 = .ok (.aload_n 0, 1) := by decide +kernel
theorem dM_fromJson_120 : decode prog_13_method_60_code 120 = .ok (.iconst 5, 1) := by decide +kernel
theorem dM_fromJson_121 : decode prog_13_method_60_code 121 = .ok (.invokevirtual 116, 3) := by decide +kernel
theorem dM_fromJson_127 : decode prog_13_method_60_code 127 = .ok (.aload 8, 2) := by decide +kernel
theorem dM_fromJson_129 : decode prog_13_method_60_code 129 = .ok (.areturn, 1) := by decide +kernel
theorem dM_has_0 : decode prog_13_method_67_code 0 = .ok (.aload_n 1, 1) := by decide +kernel
theorem dM_has_1 : decode prog_13_method_67_code 1 = .ok (.getfield 93, 3) := by decide +kernel
theorem dM_has_4 : decode prog_13_method_67_code 4 = .ok (.bipush 6, 2) := by decide +kernel
theorem dM_has_6 : decode prog_13_method_67_code 6 = .ok (.if_icmp .ne 30, 3) := by decide +kernel
theorem dM_has_9 : decode prog_13_method_67_code 9 = .ok (.aload_n 2, 1) := by decide +kernel
theorem dM_has_10 : decode prog_13_method_67_code 10 = .ok (.getfield 93, 3) := by decide +kernel
theorem dM_has_13 : decode prog_13_method_67_code 13 = .ok (.iconst 4, 1) := by decide +kernel
theorem dM_has_14 : decode prog_13_method_67_code 14 = .ok (.if_icmp .ne 22, 3) := by decide +kernel
theorem dM_has_17 : decode prog_13_method_67_code 17 = .ok (.aload_n 0, 1) := by decide +kernel
theorem dM_has_18 : decode prog_13_method_67_code 18 = .ok (.aload_n 0, 1) := by decide +kernel
theorem dM_has_19 : decode prog_13_method_67_code 19 = .ok (.aload_n 1, 1) := by decide +kernel
theorem dM_has_20 : decode prog_13_method_67_code 20 = .ok (.aload_n 2, 1) := by decide +kernel
theorem dM_has_21 : decode prog_13_method_67_code 21 = .ok (.invokevirtual 167, 3) := by decide +kernel
theorem dM_has_24 : decode prog_13_method_67_code 24 = .ok (.ifCond .lt 7, 3) := by decide +kernel
theorem dM_has_27 : decode prog_13_method_67_code 27 = .ok (.iconst 1, 1) := by decide +kernel
theorem dM_has_28 : decode prog_13_method_67_code 28 = .ok (.goto 4, 3) := by decide +kernel
theorem dM_has_31 : decode prog_13_method_67_code 31 = .ok (.iconst 0, 1) := by decide +kernel
theorem dM_has_32 : decode prog_13_method_67_code 32 = .ok (.invokevirtual 354, 3) := by decide +kernel
theorem dM_has_35 : decode prog_13_method_67_code 35 = .ok (.areturn, 1) := by decide +kernel
theorem dM_has_36 : decode prog_13_method_67_code 36 = .ok (.aload_n 1, 1) := by decide +kernel
theorem dM_has_37 : decode prog_13_method_67_code 37 = .ok (.getfield 93, 3) := by decide +kernel
theorem dM_has_40 : decode prog_13_method_67_code 40 = .ok (.iconst 5, 1) := by decide +kernel
theorem dM_has_41 : decode prog_13_method_67_code 41 = .ok (.if_icmp .ne 43, 3) := by decide +kernel
theorem dM_has_44 : decode prog_13_method_67_code 44 = .ok (.aload_n 2, 1) := by decide +kernel
theorem dM_has_45 : decode prog_13_method_67_code 45 = .ok (.getfield 93, 3) := by decide +kernel
theorem dM_has_48 : decode prog_13_method_67_code 48 = .ok (.iconst 3, 1) := by decide +kernel
theorem dM_has_49 : decode prog_13_method_67_code 49 = .ok (.if_icmp .ne 35, 3) := by decide +kernel
theorem dM_has_52 : decode prog_13_method_67_code 52 = .ok (.aload_n 0, 1) := by decide +kernel
theorem dM_has_53 : decode prog_13_method_67_code 53 = .ok (.aload_n 2, 1) := by decide +kernel
theorem dM_has_54 : decode prog_13_method_67_code 54 = .ok (.getfield 96, 3) := by decide +kernel
theorem dM_has_57 : decode prog_13_method_67_code 57 = .ok (.lconst 0, 1) := by decide +kernel
theorem dM_has_58 : decode prog_13_method_67_code 58 = .ok (.lcmp, 1) := by decide +kernel
theorem dM_has_59 : decode prog_13_method_67_code 59 = .ok (.ifCond .lt 20, 3) := by decide +kernel
theorem dM_has_62 : decode prog_13_method_67_code 62 = .ok (.aload_n 2, 1) := by decide +kernel
theorem dM_has_63 : decode prog_13_method_67_code 63 = .ok (.getfield 96, 3) := by decide +kernel
theorem dM_has_66 : decode prog_13_method_67_code 66 = .ok (.aload_n 1, 1) := by decide +kernel
theorem dM_has_67 : decode prog_13_method_67_code 67 = .ok (.getfield 103, 3) := by decide +kernel
theorem dM_has_70 : decode prog_13_method_67_code 70 = .ok (.i2l, 1) := by decide +kernel
theorem dM_has_71 : decode prog_13_method_67_code 71 = .ok (.lcmp, 1) := by decide +kernel
theorem dM_has_72 : decode prog_13_method_67_code 72 = .ok (.ifCond .ge 7, 3) := by decide +kernel
theorem dM_has_75 : decode prog_13_method_67_code 75 = .ok (.iconst 1, 1) := by decide +kernel
theorem dM_has_76 : decode prog_13_method_67_code 76 = .ok (.goto 4, 3) := by decide +kernel
theorem dM_has_79 : decode prog_13_method_67_code 79 = .ok (.iconst 0, 1) := by decide +kernel
theorem dM_has_80 : decode prog_13_method_67_code 80 = .ok (.invokevirtual 354, 3) := by decide +kernel
theorem dM_has_83 : decode prog_13_method_67_code 83 = .ok (.areturn, 1) := by decide +kernel
theorem dM_has_84 : decode prog_13_method_67_code 84 = .ok (.aload_n 0, 1) := by decide +kernel
theorem dM_has_85 : decode prog_13_method_67_code 85 = .ok (.iconst 1, 1) := by decide +kernel
theorem dM_has_86 : decode prog_13_method_67_code 86 = .ok (.invokevirtual 116, 3) := by decide +kernel
theorem dM_hex_0 : decode prog_13_method_36_code 0 = .ok (.iload_n 0, 1) := by decide +kernel
theorem dM_hex_1 : decode prog_13_method_36_code 1 = .ok (.bipush 48, 2) := by decide +kernel
theorem dM_hex_3 : decode prog_13_method_36_code 3 = .ok (.if_icmp .lt 16, 3) := by decide +kernel
theorem dM_hex_6 : decode prog_13_method_36_code 6 = .ok (.iload_n 0, 1) := by decide +kernel
theorem dM_hex_7 : decode prog_13_method_36_code 7 = .ok (.bipush 57, 2) := by decide +kernel
theorem dM_hex_9 : decode prog_13_method_36_code 9 = .ok (.if_icmp .gt 10, 3) := by decide +kernel
theorem dM_hex_12 : decode prog_13_method_36_code 12 = .ok (.iload_n 0, 1) := by decide +kernel
theorem dM_hex_13 : decode prog_13_method_36_code 13 = .ok (.bipush 48, 2) := by decide +kernel
theorem dM_hex_15 : decode prog_13_method_36_code 15 = .ok (.isub, 1) := by decide +kernel
theorem dM_hex_16 : decode prog_13_method_36_code 16 = .ok (.goto 48, 3) := by decide +kernel
theorem dM_hex_19 : decode prog_13_method_36_code 19 = .ok (.iload_n 0, 1) := by decide +kernel
theorem dM_hex_20 : decode prog_13_method_36_code 20 = .ok (.bipush 97, 2) := by decide +kernel
theorem dM_hex_22 : decode prog_13_method_36_code 22 = .ok (.if_icmp .lt 19, 3) := by decide +kernel
theorem dM_hex_25 : decode prog_13_method_36_code 25 = .ok (.iload_n 0, 1) := by decide +kernel
theorem dM_hex_26 : decode prog_13_method_36_code 26 = .ok (.bipush 102, 2) := by decide +kernel
theorem dM_hex_28 : decode prog_13_method_36_code 28 = .ok (.if_icmp .gt 13, 3) := by decide +kernel
theorem dM_hex_31 : decode prog_13_method_36_code 31 = .ok (.iload_n 0, 1) := by decide +kernel
theorem dM_hex_32 : decode prog_13_method_36_code 32 = .ok (.bipush 97, 2) := by decide +kernel
theorem dM_hex_34 : decode prog_13_method_36_code 34 = .ok (.isub, 1) := by decide +kernel
theorem dM_hex_35 : decode prog_13_method_36_code 35 = .ok (.bipush 10, 2) := by decide +kernel
theorem dM_hex_37 : decode prog_13_method_36_code 37 = .ok (.iadd, 1) := by decide +kernel
theorem dM_hex_38 : decode prog_13_method_36_code 38 = .ok (.goto 26, 3) := by decide +kernel
theorem dM_hex_41 : decode prog_13_method_36_code 41 = .ok (.iload_n 0, 1) := by decide +kernel
theorem dM_hex_42 : decode prog_13_method_36_code 42 = .ok (.bipush 65, 2) := by decide +kernel
theorem dM_hex_44 : decode prog_13_method_36_code 44 = .ok (.if_icmp .lt 19, 3) := by decide +kernel
theorem dM_hex_47 : decode prog_13_method_36_code 47 = .ok (.iload_n 0, 1) := by decide +kernel
theorem dM_hex_48 : decode prog_13_method_36_code 48 = .ok (.bipush 70, 2) := by decide +kernel
theorem dM_hex_50 : decode prog_13_method_36_code 50 = .ok (.if_icmp .gt 13, 3) := by decide +kernel
theorem dM_hex_53 : decode prog_13_method_36_code 53 = .ok (.iload_n 0, 1) := by decide +kernel
theorem dM_hex_54 : decode prog_13_method_36_code 54 = .ok (.bipush 65, 2) := by decide +kernel
theorem dM_hex_56 : decode prog_13_method_36_code 56 = .ok (.isub, 1) := by decide +kernel
theorem dM_hex_57 : decode prog_13_method_36_code 57 = .ok (.bipush 10, 2) := by decide +kernel
theorem dM_hex_59 : decode prog_13_method_36_code 59 = .ok (.iadd, 1) := by decide +kernel
theorem dM_hex_60 : decode prog_13_method_36_code 60 = .ok (.goto 4, 3) := by decide +kernel
theorem dM_hex_63 : decode prog_13_method_36_code 63 = .ok (.iconst (-1), 1) := by decide +kernel
theorem dM_hex_64 : decode prog_13_method_36_code 64 = .ok (.ireturn, 1) := by decide +kernel
theorem dM_implode_0 : decode prog_13_method_63_code 0 = .ok (.iconst 0, 1) := by decide +kernel
theorem dM_implode_1 : decode prog_13_method_63_code 1 = .ok (.istore_n 2, 1) := by decide +kernel
theorem dM_implode_2 : decode prog_13_method_63_code 2 = .ok (.iload_n 2, 1) := by decide +kernel
theorem dM_implode_3 : decode prog_13_method_63_code 3 = .ok (.aload_n 0, 1) := by decide +kernel
theorem dM_implode_4 : decode prog_13_method_63_code 4 = .ok (.aload_n 1, 1) := by decide +kernel
theorem dM_implode_5 : decode prog_13_method_63_code 5 = .ok (.invokevirtual 337, 3) := by decide +kernel
theorem dM_implode_8 : decode prog_13_method_63_code 8 = .ok (.getfield 103, 3) := by decide +kernel
theorem dM_implode_11 : decode prog_13_method_63_code 11 = .ok (.if_icmp .ge 28, 3) := by decide +kernel
theorem dM_implode_14 : decode prog_13_method_63_code 14 = .ok (.aload_n 0, 1) := by decide +kernel
theorem dM_implode_15 : decode prog_13_method_63_code 15 = .ok (.aload_n 1, 1) := by decide +kernel
theorem dM_implode_16 : decode prog_13_method_63_code 16 = .ok (.iload_n 2, 1) := by decide +kernel
theorem dM_implode_17 : decode prog_13_method_63_code 17 = .ok (.invokevirtual 170, 3) := by decide +kernel
theorem dM_implode_20 : decode prog_13_method_63_code 20 = .ok (.getfield 93, 3) := by decide +kernel
theorem dM_implode_23 : decode prog_13_method_63_code 23 = .ok (.iconst 3, 1) := by decide +kernel
theorem dM_implode_24 : decode prog_13_method_63_code 24 = .ok (.if_icmp .eq 9, 3) := by decide +kernel
theorem dM_implode_27 : decode prog_13_method_63_code 27 = .ok (.aload_n 0, 1) := by decide +kernel
theorem dM_implode_28 : decode prog_13_method_63_code 28 = .ok (.iconst 1, 1) := by decide +kernel
theorem dM_implode_29 : decode prog_13_method_63_code 29 = .ok (.invokevirtual 116, 3) := by decide +kernel
theorem dM_implode_33 : decode prog_13_method_63_code 33 = .ok (.iinc 2 1, 3) := by decide +kernel
theorem dM_implode_36 : decode prog_13_method_63_code 36 = .ok (.goto (-34), 3) := by decide +kernel
theorem dM_implode_39 : decode prog_13_method_63_code 39 = .ok (.iconst 0, 1) := by decide +kernel
theorem dM_implode_40 : decode prog_13_method_63_code 40 = .ok (.istore_n 2, 1) := by decide +kernel
theorem dM_implode_41 : decode prog_13_method_63_code 41 = .ok (.iload_n 2, 1) := by decide +kernel
theorem dM_implode_42 : decode prog_13_method_63_code 42 = .ok (.aload_n 1, 1) := by decide +kernel
theorem dM_implode_43 : decode prog_13_method_63_code 43 = .ok (.getfield 103, 3) := by decide +kernel
theorem dM_implode_46 : decode prog_13_method_63_code 46 = .ok (.if_icmp .ge 45, 3) := by decide +kernel
theorem dM_implode_49 : decode prog_13_method_63_code 49 = .ok (.aload_n 0, 1) := by decide +kernel
theorem dM_implode_50 : decode prog_13_method_63_code 50 = .ok (.aload_n 1, 1) := by decide +kernel
theorem dM_implode_51 : decode prog_13_method_63_code 51 = .ok (.iload_n 2, 1) := by decide +kernel
theorem dM_implode_52 : decode prog_13_method_63_code 52 = .ok (.invokevirtual 170, 3) := by decide +kernel
theorem dM_implode_55 : decode prog_13_method_63_code 55 = .ok (.getfield 96, 3) := by decide +kernel
theorem dM_implode_58 : decode prog_13_method_63_code 58 = .ok (.lconst 0, 1) := by decide +kernel
theorem dM_implode_59 : decode prog_13_method_63_code 59 = .ok (.lcmp, 1) := by decide +kernel
theorem dM_implode_60 : decode prog_13_method_63_code 60 = .ok (.ifCond .lt 19, 3) := by decide +kernel
theorem dM_implode_63 : decode prog_13_method_63_code 63 = .ok (.aload_n 0, 1) := by decide +kernel
theorem dM_implode_64 : decode prog_13_method_63_code 64 = .ok (.aload_n 1, 1) := by decide +kernel
theorem dM_implode_65 : decode prog_13_method_63_code 65 = .ok (.iload_n 2, 1) := by decide +kernel
theorem dM_implode_66 : decode prog_13_method_63_code 66 = .ok (.invokevirtual 170, 3) := by decide +kernel
theorem dM_implode_69 : decode prog_13_method_63_code 69 = .ok (.getfield 96, 3) := by decide +kernel
theorem dM_implode_72 : decode prog_13_method_63_code 72 = .ok (.ldc2_w 348, 3) := by decide +kernel
theorem dM_implode_75 : decode prog_13_method_63_code 75 = .ok (.lcmp, 1) := by decide +kernel
theorem dM_implode_76 : decode prog_13_method_63_code 76 = .ok (.ifCond .le 9, 3) := by decide +kernel
theorem dM_implode_79 : decode prog_13_method_63_code 79 = .ok (.aload_n 0, 1) := by decide +kernel
theorem dM_implode_80 : decode prog_13_method_63_code 80 = .ok (.iconst 2, 1) := by decide +kernel
theorem dM_implode_81 : decode prog_13_method_63_code 81 = .ok (.invokevirtual 116, 3) := by decide +kernel
theorem dM_implode_85 : decode prog_13_method_63_code 85 = .ok (.iinc 2 1, 3) := by decide +kernel
theorem dM_implode_88 : decode prog_13_method_63_code 88 = .ok (.goto (-47), 3) := by decide +kernel
theorem dM_implode_91 : decode prog_13_method_63_code 91 = .ok (.aload_n 0, 1) := by decide +kernel
theorem dM_implode_92 : decode prog_13_method_63_code 92 = .ok (.getfield 123, 3) := by decide +kernel
theorem dM_implode_95 : decode prog_13_method_63_code 95 = .ok (.istore_n 2, 1) := by decide +kernel
theorem dM_implode_96 : decode prog_13_method_63_code 96 = .ok (.iconst 0, 1) := by decide +kernel
theorem dM_implode_97 : decode prog_13_method_63_code 97 = .ok (.istore_n 3, 1) := by decide +kernel
theorem dM_implode_98 : decode prog_13_method_63_code 98 = .ok (.iload_n 3, 1) := by decide +kernel
theorem dM_implode_99 : decode prog_13_method_63_code 99 = .ok (.aload_n 1, 1) := by decide +kernel
theorem dM_implode_100 : decode prog_13_method_63_code 100 = .ok (.getfield 103, 3) := by decide +kernel
theorem dM_implode_103 : decode prog_13_method_63_code 103 = .ok (.if_icmp .ge 23, 3) := by decide +kernel
theorem dM_implode_106 : decode prog_13_method_63_code 106 = .ok (.aload_n 0, 1) := by decide +kernel
theorem dM_implode_107 : decode prog_13_method_63_code 107 = .ok (.aload_n 0, 1) := by decide +kernel
theorem dM_implode_108 : decode prog_13_method_63_code 108 = .ok (.aload_n 1, 1) := by decide +kernel
theorem dM_implode_109 : decode prog_13_method_63_code 109 = .ok (.iload_n 3, 1) := by decide +kernel
theorem dM_implode_110 : decode prog_13_method_63_code 110 = .ok (.invokevirtual 170, 3) := by decide +kernel
theorem dM_implode_113 : decode prog_13_method_63_code 113 = .ok (.getfield 96, 3) := by decide +kernel
theorem dM_implode_116 : decode prog_13_method_63_code 116 = .ok (.l2i, 1) := by decide +kernel
theorem dM_implode_117 : decode prog_13_method_63_code 117 = .ok (.invokevirtual 135, 3) := by decide +kernel
theorem dM_implode_120 : decode prog_13_method_63_code 120 = .ok (.iinc 3 1, 3) := by decide +kernel
theorem dM_implode_123 : decode prog_13_method_63_code 123 = .ok (.goto (-25), 3) := by decide +kernel
theorem dM_implode_126 : decode prog_13_method_63_code 126 = .ok (.aload_n 0, 1) := by decide +kernel
theorem dM_implode_127 : decode prog_13_method_63_code 127 = .ok (.iload_n 2, 1) := by decide +kernel
theorem dM_implode_128 : decode prog_13_method_63_code 128 = .ok (.invokevirtual 139, 3) := by decide +kernel
theorem dM_implode_131 : decode prog_13_method_63_code 131 = .ok (.areturn, 1) := by decide +kernel
theorem dM_indices_0 : decode prog_13_method_72_code 0 = .ok (.aload_n 1, 1) := by decide +kernel
theorem dM_indices_1 : decode prog_13_method_72_code 1 = .ok (.getfield 93, 3) := by decide +kernel
theorem dM_indices_4 : decode prog_13_method_72_code 4 = .ok (.ifCond .ne 5, 3) := by decide +kernel
theorem dM_indices_7 : decode prog_13_method_72_code 7 = .ok (.aload_n 1, 1) := by decide +kernel
theorem dM_indices_8 : decode prog_13_method_72_code 8 = .ok (.areturn, 1) := by decide +kernel
theorem dM_indices_9 : decode prog_13_method_72_code 9 = .ok (.aload_n 1, 1) := by decide +kernel
theorem dM_indices_10 : decode prog_13_method_72_code 10 = .ok (.getfield 93, 3) := by decide +kernel
theorem dM_indices_13 : decode prog_13_method_72_code 13 = .ok (.iconst 4, 1) := by decide +kernel
theorem dM_indices_14 : decode prog_13_method_72_code 14 = .ok (.if_icmp .ne 15, 3) := by decide +kernel
theorem dM_indices_17 : decode prog_13_method_72_code 17 = .ok (.aload_n 2, 1) := by decide +kernel
theorem dM_indices_18 : decode prog_13_method_72_code 18 = .ok (.getfield 93, 3) := by decide +kernel
theorem dM_indices_21 : decode prog_13_method_72_code 21 = .ok (.iconst 4, 1) := by decide +kernel
theorem dM_indices_22 : decode prog_13_method_72_code 22 = .ok (.if_icmp .ne 7, 3) := by decide +kernel
theorem dM_indices_25 : decode prog_13_method_72_code 25 = .ok (.iconst 1, 1) := by decide +kernel
theorem dM_indices_26 : decode prog_13_method_72_code 26 = .ok (.goto 4, 3) := by decide +kernel
theorem dM_indices_29 : decode prog_13_method_72_code 29 = .ok (.iconst 0, 1) := by decide +kernel
theorem dM_indices_30 : decode prog_13_method_72_code 30 = .ok (.istore_n 3, 1) := by decide +kernel
theorem dM_indices_31 : decode prog_13_method_72_code 31 = .ok (.iload_n 3, 1) := by decide +kernel
theorem dM_indices_32 : decode prog_13_method_72_code 32 = .ok (.ifCond .ne 17, 3) := by decide +kernel
theorem dM_indices_35 : decode prog_13_method_72_code 35 = .ok (.aload_n 1, 1) := by decide +kernel
theorem dM_indices_36 : decode prog_13_method_72_code 36 = .ok (.getfield 93, 3) := by decide +kernel
theorem dM_indices_39 : decode prog_13_method_72_code 39 = .ok (.iconst 5, 1) := by decide +kernel
theorem dM_indices_40 : decode prog_13_method_72_code 40 = .ok (.if_icmp .eq 9, 3) := by decide +kernel
theorem dM_indices_43 : decode prog_13_method_72_code 43 = .ok (.aload_n 0, 1) := by decide +kernel
theorem dM_indices_44 : decode prog_13_method_72_code 44 = .ok (.iconst 1, 1) := by decide +kernel
theorem dM_indices_45 : decode prog_13_method_72_code 45 = .ok (.invokevirtual 116, 3) := by decide +kernel
theorem dM_indices_49 : decode prog_13_method_72_code 49 = .ok (.aload_n 2, 1) := by decide +kernel
theorem dM_indices_50 : decode prog_13_method_72_code 50 = .ok (.getfield 93, 3) := by decide +kernel
theorem dM_indices_53 : decode prog_13_method_72_code 53 = .ok (.iconst 5, 1) := by decide +kernel
theorem dM_indices_54 : decode prog_13_method_72_code 54 = .ok (.if_icmp .ne 7, 3) := by decide +kernel
theorem dM_indices_57 : decode prog_13_method_72_code 57 = .ok (.iconst 1, 1) := by decide +kernel
theorem dM_indices_58 : decode prog_13_method_72_code 58 = .ok (.goto 4, 3) := by decide +kernel
theorem dM_indices_61 : decode prog_13_method_72_code 61 = .ok (.iconst 0, 1) := by decide +kernel
theorem dM_indices_62 : decode prog_13_method_72_code 62 = .ok (.istore 4, 2) := by decide +kernel
theorem dM_indices_64 : decode prog_13_method_72_code 64 = .ok (.iload_n 3, 1) := by decide +kernel
theorem dM_indices_65 : decode prog_13_method_72_code 65 = .ok (.ifCond .ne 8, 3) := by decide +kernel
theorem dM_indices_68 : decode prog_13_method_72_code 68 = .ok (.iload 4, 2) := by decide +kernel
theorem dM_indices_70 : decode prog_13_method_72_code 70 = .ok (.ifCond .eq 16, 3) := by decide +kernel
theorem dM_indices_73 : decode prog_13_method_72_code 73 = .ok (.aload_n 2, 1) := by decide +kernel
theorem dM_indices_74 : decode prog_13_method_72_code 74 = .ok (.getfield 103, 3) := by decide +kernel
theorem dM_indices_77 : decode prog_13_method_72_code 77 = .ok (.ifCond .ne 9, 3) := by decide +kernel
theorem dM_indices_80 : decode prog_13_method_72_code 80 = .ok (.aload_n 0, 1) := by decide +kernel
theorem dM_indices_81 : decode prog_13_method_72_code 81 = .ok (.iconst 0, 1) := by decide +kernel
theorem dM_indices_82 : decode prog_13_method_72_code 82 = .ok (.invokevirtual 120, 3) := by decide +kernel
theorem dM_indices_85 : decode prog_13_method_72_code 85 = .ok (.areturn, 1) := by decide +kernel
theorem dM_indices_86 : decode prog_13_method_72_code 86 = .ok (.aload_n 0, 1) := by decide +kernel
theorem dM_indices_87 : decode prog_13_method_72_code 87 = .ok (.getfield 142, 3) := by decide +kernel
theorem dM_indices_90 : decode prog_13_method_72_code 90 = .ok (.istore 5, 2) := by decide +kernel
theorem dM_indices_92 : decode prog_13_method_72_code 92 = .ok (.iconst 0, 1) := by decide +kernel
theorem dM_indices_93 : decode prog_13_method_72_code 93 = .ok (.istore 6, 2) := by decide +kernel
theorem dM_indices_95 : decode prog_13_method_72_code 95 = .ok (.iload 6, 2) := by decide +kernel
theorem dM_indices_97 : decode prog_13_method_72_code 97 = .ok (.aload_n 1, 1) := by decide +kernel
theorem dM_indices_98 : decode prog_13_method_72_code 98 = .ok (.getfield 103, 3) := by decide +kernel
theorem dM_indices_101 : decode prog_13_method_72_code 101 = .ok (.if_icmp .ge 140, 3) := by decide +kernel
theorem dM_indices_104 : decode prog_13_method_72_code 104 = .ok (.iload_n 3, 1) := by decide +kernel
theorem dM_indices_105 : decode prog_13_method_72_code 105 = .ok (.ifCond .eq 14, 3) := by decide +kernel
theorem dM_indices_108 : decode prog_13_method_72_code 108 = .ok (.aload_n 0, 1) := by decide +kernel
theorem dM_indices_109 : decode prog_13_method_72_code 109 = .ok (.aload_n 1, 1) := by decide +kernel
theorem dM_indices_110 : decode prog_13_method_72_code 110 = .ok (.aload_n 2, 1) := by decide +kernel
theorem dM_indices_111 : decode prog_13_method_72_code 111 = .ok (.iload 6, 2) := by decide +kernel
theorem dM_indices_113 : decode prog_13_method_72_code 113 = .ok (.invokevirtual 387, 3) := by decide +kernel
theorem dM_indices_116 : decode prog_13_method_72_code 116 = .ok (.goto 28, 3) := by decide +kernel
theorem dM_indices_119 : decode prog_13_method_72_code 119 = .ok (.iload 4, 2) := by decide +kernel
theorem dM_indices_121 : decode prog_13_method_72_code 121 = .ok (.ifCond .ne 22, 3) := by decide +kernel
theorem dM_indices_124 : decode prog_13_method_72_code 124 = .ok (.aload_n 0, 1) := by decide +kernel
theorem dM_indices_125 : decode prog_13_method_72_code 125 = .ok (.aload_n 0, 1) := by decide +kernel
theorem dM_indices_126 : decode prog_13_method_72_code 126 = .ok (.aload_n 1, 1) := by decide +kernel
theorem dM_indices_127 : decode prog_13_method_72_code 127 = .ok (.iload 6, 2) := by decide +kernel
theorem dM_indices_129 : decode prog_13_method_72_code 129 = .ok (.invokevirtual 170, 3) := by decide +kernel
theorem dM_indices_132 : decode prog_13_method_72_code 132 = .ok (.aload_n 2, 1) := by decide +kernel
theorem dM_indices_133 : decode prog_13_method_72_code 133 = .ok (.invokevirtual 173, 3) := by decide +kernel
theorem dM_indices_136 : decode prog_13_method_72_code 136 = .ok (.ifCond .eq 7, 3) := by decide +kernel
theorem dM_indices_139 : decode prog_13_method_72_code 139 = .ok (.iconst 1, 1) := by decide +kernel
theorem dM_indices_140 : decode prog_13_method_72_code 140 = .ok (.goto 4, 3) := by decide +kernel
theorem dM_indices_143 : decode prog_13_method_72_code 143 = .ok (.iconst 0, 1) := by decide +kernel
theorem dM_indices_144 : decode prog_13_method_72_code 144 = .ok (.istore 7, 2) := by decide +kernel
theorem dM_indices_146 : decode prog_13_method_72_code 146 = .ok (.iload 4, 2) := by decide +kernel
theorem dM_indices_148 : decode prog_13_method_72_code 148 = .ok (.ifCond .eq 70, 3) := by decide +kernel
theorem dM_indices_151 : decode prog_13_method_72_code 151 = .ok (.iload_n 3, 1) := by decide +kernel
theorem dM_indices_152 : decode prog_13_method_72_code 152 = .ok (.ifCond .ne 66, 3) := by decide +kernel
theorem dM_indices_155 : decode prog_13_method_72_code 155 = .ok (.iload 6, 2) := by decide +kernel
theorem dM_indices_157 : decode prog_13_method_72_code 157 = .ok (.aload_n 2, 1) := by decide +kernel
theorem dM_indices_158 : decode prog_13_method_72_code 158 = .ok (.getfield 103, 3) := by decide +kernel
theorem dM_indices_161 : decode prog_13_method_72_code 161 = .ok (.iadd, 1) := by decide +kernel
theorem dM_indices_162 : decode prog_13_method_72_code 162 = .ok (.aload_n 1, 1) := by decide +kernel
theorem dM_indices_163 : decode prog_13_method_72_code 163 = .ok (.getfield 103, 3) := by decide +kernel
theorem dM_indices_166 : decode prog_13_method_72_code 166 = .ok (.if_icmp .gt 52, 3) := by decide +kernel
theorem dM_indices_169 : decode prog_13_method_72_code 169 = .ok (.iconst 1, 1) := by decide +kernel
theorem dM_indices_170 : decode prog_13_method_72_code 170 = .ok (.istore 7, 2) := by decide +kernel
theorem dM_indices_172 : decode prog_13_method_72_code 172 = .ok (.iconst 0, 1) := by decide +kernel
theorem dM_indices_173 : decode prog_13_method_72_code 173 = .ok (.istore 8, 2) := by decide +kernel
theorem dM_indices_175 : decode prog_13_method_72_code 175 = .ok (.iload 8, 2) := by decide +kernel
theorem dM_indices_177 : decode prog_13_method_72_code 177 = .ok (.aload_n 2, 1) := by decide +kernel
theorem dM_indices_178 : decode prog_13_method_72_code 178 = .ok (.getfield 103, 3) := by decide +kernel
theorem dM_indices_181 : decode prog_13_method_72_code 181 = .ok (.if_icmp .ge 37, 3) := by decide +kernel
theorem dM_indices_184 : decode prog_13_method_72_code 184 = .ok (.iload 7, 2) := by decide +kernel
theorem dM_indices_186 : decode prog_13_method_72_code 186 = .ok (.ifCond .eq 32, 3) := by decide +kernel
theorem dM_indices_189 : decode prog_13_method_72_code 189 = .ok (.aload_n 0, 1) := by decide +kernel
theorem dM_indices_190 : decode prog_13_method_72_code 190 = .ok (.aload_n 0, 1) := by decide +kernel
theorem dM_indices_191 : decode prog_13_method_72_code 191 = .ok (.aload_n 1, 1) := by decide +kernel
theorem dM_indices_192 : decode prog_13_method_72_code 192 = .ok (.iload 6, 2) := by decide +kernel
theorem dM_indices_194 : decode prog_13_method_72_code 194 = .ok (.iload 8, 2) := by decide +kernel
theorem dM_indices_196 : decode prog_13_method_72_code 196 = .ok (.iadd, 1) := by decide +kernel
theorem dM_indices_197 : decode prog_13_method_72_code 197 = .ok (.invokevirtual 170, 3) := by decide +kernel
theorem dM_indices_200 : decode prog_13_method_72_code 200 = .ok (.aload_n 0, 1) := by decide +kernel
theorem dM_indices_201 : decode prog_13_method_72_code 201 = .ok (.aload_n 2, 1) := by decide +kernel
theorem dM_indices_202 : decode prog_13_method_72_code 202 = .ok (.iload 8, 2) := by decide +kernel
theorem dM_indices_204 : decode prog_13_method_72_code 204 = .ok (.invokevirtual 170, 3) := by decide +kernel
theorem dM_indices_207 : decode prog_13_method_72_code 207 = .ok (.invokevirtual 173, 3) := by decide +kernel
theorem dM_indices_210 : decode prog_13_method_72_code 210 = .ok (.istore 7, 2) := by decide +kernel
theorem dM_indices_212 : decode prog_13_method_72_code 212 = .ok (.iinc 8 1, 3) := by decide +kernel
theorem dM_indices_215 : decode prog_13_method_72_code 215 = .ok (.goto (-40), 3) := by decide +kernel
theorem dM_indices_218 : decode prog_13_method_72_code 218 = .ok (.iload 7, 2) := by decide +kernel
theorem dM_indices_220 : decode prog_13_method_72_code 220 = .ok (.ifCond .eq 15, 3) := by decide +kernel
theorem dM_indices_223 : decode prog_13_method_72_code 223 = .ok (.aload_n 0, 1) := by decide +kernel
theorem dM_indices_224 : decode prog_13_method_72_code 224 = .ok (.aconst_null, 1) := by decide +kernel
theorem dM_indices_225 : decode prog_13_method_72_code 225 = .ok (.aload_n 0, 1) := by decide +kernel
theorem dM_indices_226 : decode prog_13_method_72_code 226 = .ok (.iload 6, 2) := by decide +kernel
theorem dM_indices_228 : decode prog_13_method_72_code 228 = .ok (.i2l, 1) := by decide +kernel
theorem dM_indices_229 : decode prog_13_method_72_code 229 = .ok (.invokevirtual 265, 3) := by decide +kernel
theorem dM_indices_232 : decode prog_13_method_72_code 232 = .ok (.invokevirtual 186, 3) := by decide +kernel
theorem dM_indices_235 : decode prog_13_method_72_code 235 = .ok (.iinc 6 1, 3) := by decide +kernel
theorem dM_indices_238 : decode prog_13_method_72_code 238 = .ok (.goto (-143), 3) := by decide +kernel
theorem dM_indices_241 : decode prog_13_method_72_code 241 = .ok (.aload_n 0, 1) := by decide +kernel
theorem dM_indices_242 : decode prog_13_method_72_code 242 = .ok (.iconst 5, 1) := by decide +kernel
theorem dM_indices_243 : decode prog_13_method_72_code 243 = .ok (.iload 5, 2) := by decide +kernel
theorem dM_indices_245 : decode prog_13_method_72_code 245 = .ok (.invokevirtual 190, 3) := by decide +kernel
theorem dM_indices_248 : decode prog_13_method_72_code 248 = .ok (.areturn, 1) := by decide +kernel
theorem dM_isTrue_0 : decode prog_13_method_65_code 0 = .ok (.aload_n 1, 1) := by decide +kernel
theorem dM_isTrue_1 : decode prog_13_method_65_code 1 = .ok (.getfield 93, 3) := by decide +kernel
theorem dM_isTrue_4 : decode prog_13_method_65_code 4 = .ok (.ifCond .eq 15, 3) := by decide +kernel
theorem dM_isTrue_7 : decode prog_13_method_65_code 7 = .ok (.aload_n 1, 1) := by decide +kernel
theorem dM_isTrue_8 : decode prog_13_method_65_code 8 = .ok (.getfield 93, 3) := by decide +kernel
theorem dM_isTrue_11 : decode prog_13_method_65_code 11 = .ok (.iconst 1, 1) := by decide +kernel
theorem dM_isTrue_12 : decode prog_13_method_65_code 12 = .ok (.if_icmp .eq 7, 3) := by decide +kernel
theorem dM_isTrue_15 : decode prog_13_method_65_code 15 = .ok (.iconst 1, 1) := by decide +kernel
theorem dM_isTrue_16 : decode prog_13_method_65_code 16 = .ok (.goto 4, 3) := by decide +kernel
theorem dM_isTrue_19 : decode prog_13_method_65_code 19 = .ok (.iconst 0, 1) := by decide +kernel
theorem dM_isTrue_20 : decode prog_13_method_65_code 20 = .ok (.ireturn, 1) := by decide +kernel
theorem dM_joined_0 : decode prog_13_method_71_code 0 = .ok (.aload_n 0, 1) := by decide +kernel
theorem dM_joined_1 : decode prog_13_method_71_code 1 = .ok (.aload_n 1, 1) := by decide +kernel
theorem dM_joined_2 : decode prog_13_method_71_code 2 = .ok (.invokevirtual 337, 3) := by decide +kernel
theorem dM_joined_5 : decode prog_13_method_71_code 5 = .ok (.pop, 1) := by decide +kernel
theorem dM_joined_6 : decode prog_13_method_71_code 6 = .ok (.aload_n 0, 1) := by decide +kernel
theorem dM_joined_7 : decode prog_13_method_71_code 7 = .ok (.aload_n 2, 1) := by decide +kernel
theorem dM_joined_8 : decode prog_13_method_71_code 8 = .ok (.invokevirtual 341, 3) := by decide +kernel
theorem dM_joined_11 : decode prog_13_method_71_code 11 = .ok (.pop, 1) := by decide +kernel
theorem dM_joined_12 : decode prog_13_method_71_code 12 = .ok (.iconst 0, 1) := by decide +kernel
theorem dM_joined_13 : decode prog_13_method_71_code 13 = .ok (.istore_n 3, 1) := by decide +kernel
theorem dM_joined_14 : decode prog_13_method_71_code 14 = .ok (.iload_n 3, 1) := by decide +kernel
theorem dM_joined_15 : decode prog_13_method_71_code 15 = .ok (.aload_n 1, 1) := by decide +kernel
theorem dM_joined_16 : decode prog_13_method_71_code 16 = .ok (.getfield 103, 3) := by decide +kernel
theorem dM_joined_19 : decode prog_13_method_71_code 19 = .ok (.if_icmp .ge 28, 3) := by decide +kernel
theorem dM_joined_22 : decode prog_13_method_71_code 22 = .ok (.aload_n 0, 1) := by decide +kernel
theorem dM_joined_23 : decode prog_13_method_71_code 23 = .ok (.aload_n 1, 1) := by decide +kernel
theorem dM_joined_24 : decode prog_13_method_71_code 24 = .ok (.iload_n 3, 1) := by decide +kernel
theorem dM_joined_25 : decode prog_13_method_71_code 25 = .ok (.invokevirtual 170, 3) := by decide +kernel
theorem dM_joined_28 : decode prog_13_method_71_code 28 = .ok (.getfield 93, 3) := by decide +kernel
theorem dM_joined_31 : decode prog_13_method_71_code 31 = .ok (.iconst 4, 1) := by decide +kernel
theorem dM_joined_32 : decode prog_13_method_71_code 32 = .ok (.if_icmp .le 9, 3) := by decide +kernel
theorem dM_joined_35 : decode prog_13_method_71_code 35 = .ok (.aload_n 0, 1) := by decide +kernel
theorem dM_joined_36 : decode prog_13_method_71_code 36 = .ok (.iconst 1, 1) := by decide +kernel
theorem dM_joined_37 : decode prog_13_method_71_code 37 = .ok (.invokevirtual 116, 3) := by decide +kernel
theorem dM_joined_41 : decode prog_13_method_71_code 41 = .ok (.iinc 3 1, 3) := by decide +kernel
theorem dM_joined_44 : decode prog_13_method_71_code 44 = .ok (.goto (-30), 3) := by decide +kernel
theorem dM_joined_47 : decode prog_13_method_71_code 47 = .ok (.aload_n 0, 1) := by decide +kernel
theorem dM_joined_48 : decode prog_13_method_71_code 48 = .ok (.getfield 123, 3) := by decide +kernel
theorem dM_joined_51 : decode prog_13_method_71_code 51 = .ok (.istore_n 3, 1) := by decide +kernel
theorem dM_joined_52 : decode prog_13_method_71_code 52 = .ok (.iconst 0, 1) := by decide +kernel
theorem dM_joined_53 : decode prog_13_method_71_code 53 = .ok (.istore 4, 2) := by decide +kernel
theorem dM_joined_55 : decode prog_13_method_71_code 55 = .ok (.iload 4, 2) := by decide +kernel
theorem dM_joined_57 : decode prog_13_method_71_code 57 = .ok (.aload_n 1, 1) := by decide +kernel
theorem dM_joined_58 : decode prog_13_method_71_code 58 = .ok (.getfield 103, 3) := by decide +kernel
theorem dM_joined_61 : decode prog_13_method_71_code 61 = .ok (.if_icmp .ge 118, 3) := by decide +kernel
theorem dM_joined_64 : decode prog_13_method_71_code 64 = .ok (.aload_n 0, 1) := by decide +kernel
theorem dM_joined_65 : decode prog_13_method_71_code 65 = .ok (.aload_n 1, 1) := by decide +kernel
theorem dM_joined_66 : decode prog_13_method_71_code 66 = .ok (.iload 4, 2) := by decide +kernel
theorem dM_joined_68 : decode prog_13_method_71_code 68 = .ok (.invokevirtual 170, 3) := by decide +kernel
theorem dM_joined_71 : decode prog_13_method_71_code 71 = .ok (.astore 5, 2) := by decide +kernel
theorem dM_joined_73 : decode prog_13_method_71_code 73 = .ok (.iload 4, 2) := by decide +kernel
theorem dM_joined_75 : decode prog_13_method_71_code 75 = .ok (.ifCond .le 8, 3) := by decide +kernel
theorem dM_joined_78 : decode prog_13_method_71_code 78 = .ok (.aload_n 0, 1) := by decide +kernel
theorem dM_joined_79 : decode prog_13_method_71_code 79 = .ok (.aload_n 2, 1) := by decide +kernel
theorem dM_joined_80 : decode prog_13_method_71_code 80 = .ok (.invokevirtual 314, 3) := by decide +kernel
theorem dM_joined_83 : decode prog_13_method_71_code 83 = .ok (.aload 5, 2) := by decide +kernel
theorem dM_joined_85 : decode prog_13_method_71_code 85 = .ok (.getfield 93, 3) := by decide +kernel
theorem dM_joined_88 : decode prog_13_method_71_code 88 = .ok (.iconst 4, 1) := by decide +kernel
theorem dM_joined_89 : decode prog_13_method_71_code 89 = .ok (.if_icmp .ne 12, 3) := by decide +kernel
theorem dM_joined_92 : decode prog_13_method_71_code 92 = .ok (.aload_n 0, 1) := by decide +kernel
theorem dM_joined_93 : decode prog_13_method_71_code 93 = .ok (.aload 5, 2) := by decide +kernel
theorem dM_joined_95 : decode prog_13_method_71_code 95 = .ok (.invokevirtual 314, 3) := by decide +kernel
theorem dM_joined_98 : decode prog_13_method_71_code 98 = .ok (.goto 59, 3) := by decide +kernel
theorem dM_joined_101 : decode prog_13_method_71_code 101 = .ok (.aload 5, 2) := by decide +kernel
theorem dM_joined_103 : decode prog_13_method_71_code 103 = .ok (.getfield 93, 3) := by decide +kernel
theorem dM_joined_106 : decode prog_13_method_71_code 106 = .ok (.ifCond .eq 51, 3) := by decide +kernel
theorem dM_joined_109 : decode prog_13_method_71_code 109 = .ok (.aload_n 0, 1) := by decide +kernel
theorem dM_joined_110 : decode prog_13_method_71_code 110 = .ok (.getfield 276, 3) := by decide +kernel
theorem dM_joined_113 : decode prog_13_method_71_code 113 = .ok (.istore 6, 2) := by decide +kernel
theorem dM_joined_115 : decode prog_13_method_71_code 115 = .ok (.aload_n 0, 1) := by decide +kernel
theorem dM_joined_116 : decode prog_13_method_71_code 116 = .ok (.aload 5, 2) := by decide +kernel
theorem dM_joined_118 : decode prog_13_method_71_code 118 = .ok (.invokevirtual 299, 3) := by decide +kernel
theorem dM_joined_121 : decode prog_13_method_71_code 121 = .ok (.iload 6, 2) := by decide +kernel
theorem dM_joined_123 : decode prog_13_method_71_code 123 = .ok (.istore 7, 2) := by decide +kernel
theorem dM_joined_125 : decode prog_13_method_71_code 125 = .ok (.iload 7, 2) := by decide +kernel
theorem dM_joined_127 : decode prog_13_method_71_code 127 = .ok (.aload_n 0, 1) := by decide +kernel
theorem dM_joined_128 : decode prog_13_method_71_code 128 = .ok (.getfield 276, 3) := by decide +kernel
theorem dM_joined_131 : decode prog_13_method_71_code 131 = .ok (.if_icmp .ge 20, 3) := by decide +kernel
theorem dM_joined_134 : decode prog_13_method_71_code 134 = .ok (.aload_n 0, 1) := by decide +kernel
theorem dM_joined_135 : decode prog_13_method_71_code 135 = .ok (.aload_n 0, 1) := by decide +kernel
theorem dM_joined_136 : decode prog_13_method_71_code 136 = .ok (.getfield 45, 3) := by decide +kernel
theorem dM_joined_139 : decode prog_13_method_71_code 139 = .ok (.iload 7, 2) := by decide +kernel
theorem dM_joined_141 : decode prog_13_method_71_code 141 = .ok (.baload, 1) := by decide +kernel
theorem dM_joined_142 : decode prog_13_method_71_code 142 = .ok (.invokevirtual 135, 3) := by decide +kernel
theorem dM_joined_145 : decode prog_13_method_71_code 145 = .ok (.iinc 7 1, 3) := by decide +kernel
theorem dM_joined_148 : decode prog_13_method_71_code 148 = .ok (.goto (-23), 3) := by decide +kernel
theorem dM_joined_151 : decode prog_13_method_71_code 151 = .ok (.aload_n 0, 1) := by decide +kernel
theorem dM_joined_152 : decode prog_13_method_71_code 152 = .ok (.iload 6, 2) := by decide +kernel
theorem dM_joined_154 : decode prog_13_method_71_code 154 = .ok (.putfield 276, 3) := by decide +kernel
theorem dM_joined_157 : decode prog_13_method_71_code 157 = .ok (.aload_n 0, 1) := by decide +kernel
theorem dM_joined_158 : decode prog_13_method_71_code 158 = .ok (.getfield 123, 3) := by decide +kernel
theorem dM_joined_161 : decode prog_13_method_71_code 161 = .ok (.iload_n 3, 1) := by decide +kernel
theorem dM_joined_162 : decode prog_13_method_71_code 162 = .ok (.isub, 1) := by decide +kernel
theorem dM_joined_163 : decode prog_13_method_71_code 163 = .ok (.ldc 126, 2) := by decide +kernel
theorem dM_joined_165 : decode prog_13_method_71_code 165 = .ok (.if_icmp .le 8, 3) := by decide +kernel
theorem dM_joined_168 : decode prog_13_method_71_code 168 = .ok (.aload_n 0, 1) := by decide +kernel
theorem dM_joined_169 : decode prog_13_method_71_code 169 = .ok (.invokevirtual 127, 3) := by decide +kernel
theorem dM_joined_173 : decode prog_13_method_71_code 173 = .ok (.iinc 4 1, 3) := by decide +kernel
theorem dM_joined_176 : decode prog_13_method_71_code 176 = .ok (.goto (-121), 3) := by decide +kernel
theorem dM_joined_179 : decode prog_13_method_71_code 179 = .ok (.aload_n 0, 1) := by decide +kernel
theorem dM_joined_180 : decode prog_13_method_71_code 180 = .ok (.iload_n 3, 1) := by decide +kernel
theorem dM_joined_181 : decode prog_13_method_71_code 181 = .ok (.invokevirtual 139, 3) := by decide +kernel
theorem dM_joined_184 : decode prog_13_method_71_code 184 = .ok (.areturn, 1) := by decide +kernel
theorem dM_json_0 : decode prog_13_method_32_code 0 = .ok (.aload_n 0, 1) := by decide +kernel
theorem dM_json_1 : decode prog_13_method_32_code 1 = .ok (.aload_n 1, 1) := by decide +kernel
theorem dM_json_2 : decode prog_13_method_32_code 2 = .ok (.putfield 214, 3) := by decide +kernel
theorem dM_json_5 : decode prog_13_method_32_code 5 = .ok (.aload_n 0, 1) := by decide +kernel
theorem dM_json_6 : decode prog_13_method_32_code 6 = .ok (.iload_n 2, 1) := by decide +kernel
theorem dM_json_7 : decode prog_13_method_32_code 7 = .ok (.putfield 208, 3) := by decide +kernel
theorem dM_json_10 : decode prog_13_method_32_code 10 = .ok (.aload_n 0, 1) := by decide +kernel
theorem dM_json_11 : decode prog_13_method_32_code 11 = .ok (.iload_n 3, 1) := by decide +kernel
theorem dM_json_12 : decode prog_13_method_32_code 12 = .ok (.putfield 211, 3) := by decide +kernel
theorem dM_json_15 : decode prog_13_method_32_code 15 = .ok (.aload_n 0, 1) := by decide +kernel
theorem dM_json_16 : decode prog_13_method_32_code 16 = .ok (.iconst 0, 1) := by decide +kernel
theorem dM_json_17 : decode prog_13_method_32_code 17 = .ok (.putfield 220, 3) := by decide +kernel
theorem dM_json_20 : decode prog_13_method_32_code 20 = .ok (.aload_n 0, 1) := by decide +kernel
theorem dM_json_21 : decode prog_13_method_32_code 21 = .ok (.invokevirtual 223, 3) := by decide +kernel
theorem dM_json_24 : decode prog_13_method_32_code 24 = .ok (.astore 4, 2) := by decide +kernel
theorem dM_json_26 : decode prog_13_method_32_code 26 = .ok (.aload_n 0, 1) := by decide +kernel
theorem dM_json_27 : decode prog_13_method_32_code 27 = .ok (.invokevirtual 226, 3) := by decide +kernel
theorem dM_json_30 : decode prog_13_method_32_code 30 = .ok (.aload_n 0, 1) := by decide +kernel
theorem dM_json_31 : decode prog_13_method_32_code 31 = .ok (.getfield 208, 3) := by decide +kernel
theorem dM_json_34 : decode prog_13_method_32_code 34 = .ok (.aload_n 0, 1) := by decide +kernel
theorem dM_json_35 : decode prog_13_method_32_code 35 = .ok (.getfield 211, 3) := by decide +kernel
theorem dM_json_38 : decode prog_13_method_32_code 38 = .ok (.if_icmp .ge 11, 3) := by decide +kernel
theorem dM_json_41 : decode prog_13_method_32_code 41 = .ok (.aload_n 0, 1) := by decide +kernel
theorem dM_json_42 : decode prog_13_method_32_code 42 = .ok (.aload_n 0, 1) := by decide +kernel
theorem dM_json_43 : decode prog_13_method_32_code 43 = .ok (.getfield 208, 3) := by decide +kernel
theorem dM_json_46 : decode prog_13_method_32_code 46 = .ok (.invokevirtual 229, 3) := by decide +kernel
theorem dM_json_49 : decode prog_13_method_32_code 49 = .ok (.aload 4, 2) := by decide +kernel
theorem dM_json_51 : decode prog_13_method_32_code 51 = .ok (.areturn, 1) := by decide +kernel
theorem dM_jsonNumber_0 : decode prog_13_method_35_code 0 = .ok (.aload_n 0, 1) := by decide +kernel
theorem dM_jsonNumber_1 : decode prog_13_method_35_code 1 = .ok (.getfield 208, 3) := by decide +kernel
theorem dM_jsonNumber_4 : decode prog_13_method_35_code 4 = .ok (.istore_n 1, 1) := by decide +kernel
theorem dM_jsonNumber_5 : decode prog_13_method_35_code 5 = .ok (.aload_n 0, 1) := by decide +kernel
theorem dM_jsonNumber_6 : decode prog_13_method_35_code 6 = .ok (.invokevirtual 217, 3) := by decide +kernel
theorem dM_jsonNumber_9 : decode prog_13_method_35_code 9 = .ok (.bipush 45, 2) := by decide +kernel
theorem dM_jsonNumber_11 : decode prog_13_method_35_code 11 = .ok (.if_icmp .ne 7, 3) := by decide +kernel
theorem dM_jsonNumber_14 : decode prog_13_method_35_code 14 = .ok (.iconst 1, 1) := by decide +kernel
theorem dM_jsonNumber_15 : decode prog_13_method_35_code 15 = .ok (.goto 4, 3) := by decide +kernel
theorem dM_jsonNumber_18 : decode prog_13_method_35_code 18 = .ok (.iconst 0, 1) := by decide +kernel
theorem dM_jsonNumber_19 : decode prog_13_method_35_code 19 = .ok (.istore_n 2, 1) := by decide +kernel
theorem dM_jsonNumber_20 : decode prog_13_method_35_code 20 = .ok (.iload_n 2, 1) := by decide +kernel
theorem dM_jsonNumber_21 : decode prog_13_method_35_code 21 = .ok (.ifCond .eq 13, 3) := by decide +kernel
theorem dM_jsonNumber_24 : decode prog_13_method_35_code 24 = .ok (.aload_n 0, 1) := by decide +kernel
theorem dM_jsonNumber_25 : decode prog_13_method_35_code 25 = .ok (.dup, 1) := by decide +kernel
theorem dM_jsonNumber_26 : decode prog_13_method_35_code 26 = .ok (.getfield 208, 3) := by decide +kernel
theorem dM_jsonNumber_29 : decode prog_13_method_35_code 29 = .ok (.iconst 1, 1) := by decide +kernel
theorem dM_jsonNumber_30 : decode prog_13_method_35_code 30 = .ok (.iadd, 1) := by decide +kernel
theorem dM_jsonNumber_31 : decode prog_13_method_35_code 31 = .ok (.putfield 208, 3) := by decide +kernel
theorem dM_jsonNumber_34 : decode prog_13_method_35_code 34 = .ok (.aload_n 0, 1) := by decide +kernel
theorem dM_jsonNumber_35 : decode prog_13_method_35_code 35 = .ok (.invokevirtual 217, 3) := by decide +kernel
theorem dM_jsonNumber_38 : decode prog_13_method_35_code 38 = .ok (.invokestatic 243, 3) := by decide +kernel
theorem dM_jsonNumber_41 : decode prog_13_method_35_code 41 = .ok (.ifCond .ne 11, 3) := by decide +kernel
theorem dM_jsonNumber_44 : decode prog_13_method_35_code 44 = .ok (.aload_n 0, 1) := by decide +kernel
theorem dM_jsonNumber_45 : decode prog_13_method_35_code 45 = .ok (.aload_n 0, 1) := by decide +kernel
theorem dM_jsonNumber_46 : decode prog_13_method_35_code 46 = .ok (.getfield 208, 3) := by decide +kernel
theorem dM_jsonNumber_49 : decode prog_13_method_35_code 49 = .ok (.invokevirtual 229, 3) := by decide +kernel
theorem dM_jsonNumber_52 : decode prog_13_method_35_code 52 = .ok (.lconst 0, 1) := by decide +kernel
theorem dM_jsonNumber_53 : decode prog_13_method_35_code 53 = .ok (.lstore_n 3, 1) := by decide +kernel
theorem dM_jsonNumber_54 : decode prog_13_method_35_code 54 = .ok (.aload_n 0, 1) := by decide +kernel
theorem dM_jsonNumber_55 : decode prog_13_method_35_code 55 = .ok (.invokevirtual 217, 3) := by decide +kernel
theorem dM_jsonNumber_58 : decode prog_13_method_35_code 58 = .ok (.bipush 48, 2) := by decide +kernel
theorem dM_jsonNumber_60 : decode prog_13_method_35_code 60 = .ok (.if_icmp .ne 16, 3) := by decide +kernel
theorem dM_jsonNumber_63 : decode prog_13_method_35_code 63 = .ok (.aload_n 0, 1) := by decide +kernel
theorem dM_jsonNumber_64 : decode prog_13_method_35_code 64 = .ok (.dup, 1) := by decide +kernel
theorem dM_jsonNumber_65 : decode prog_13_method_35_code 65 = .ok (.getfield 208, 3) := by decide +kernel
theorem dM_jsonNumber_68 : decode prog_13_method_35_code 68 = .ok (.iconst 1, 1) := by decide +kernel
theorem dM_jsonNumber_69 : decode prog_13_method_35_code 69 = .ok (.iadd, 1) := by decide +kernel
theorem dM_jsonNumber_70 : decode prog_13_method_35_code 70 = .ok (.putfield 208, 3) := by decide +kernel
theorem dM_jsonNumber_73 : decode prog_13_method_35_code 73 = .ok (.goto 48, 3) := by decide +kernel
theorem dM_jsonNumber_76 : decode prog_13_method_35_code 76 = .ok (.aload_n 0, 1) := by decide +kernel
theorem dM_jsonNumber_77 : decode prog_13_method_35_code 77 = .ok (.invokevirtual 217, 3) := by decide +kernel
theorem dM_jsonNumber_80 : decode prog_13_method_35_code 80 = .ok (.invokestatic 243, 3) := by decide +kernel
theorem dM_jsonNumber_83 : decode prog_13_method_35_code 83 = .ok (.ifCond .eq 38, 3) := by decide +kernel
theorem dM_jsonNumber_86 : decode prog_13_method_35_code 86 = .ok (.ldc2_w 256, 3) := by decide +kernel
theorem dM_jsonNumber_89 : decode prog_13_method_35_code 89 = .ok (.lload_n 3, 1) := by decide +kernel
theorem dM_jsonNumber_90 : decode prog_13_method_35_code 90 = .ok (.lmul, 1) := by decide +kernel
theorem dM_jsonNumber_91 : decode prog_13_method_35_code 91 = .ok (.aload_n 0, 1) := by decide +kernel
theorem dM_jsonNumber_92 : decode prog_13_method_35_code 92 = .ok (.invokevirtual 217, 3) := by decide +kernel
theorem dM_jsonNumber_95 : decode prog_13_method_35_code 95 = .ok (.i2l, 1) := by decide +kernel
theorem dM_jsonNumber_96 : decode prog_13_method_35_code 96 = .ok (.ladd, 1) := by decide +kernel
theorem dM_jsonNumber_97 : decode prog_13_method_35_code 97 = .ok (.ldc2_w 258, 3) := by decide +kernel
theorem dM_jsonNumber_100 : decode prog_13_method_35_code 100 = .ok (.lsub, 1) := by decide +kernel
theorem dM_jsonNumber_101 : decode prog_13_method_35_code 101 = .ok (.ldc2_w 260, 3) := by decide +kernel
theorem dM_jsonNumber_104 : decode prog_13_method_35_code 104 = .ok (.invokestatic 262, 3) := by decide +kernel
theorem dM_jsonNumber_107 : decode prog_13_method_35_code 107 = .ok (.lstore_n 3, 1) := by decide +kernel
theorem dM_jsonNumber_108 : decode prog_13_method_35_code 108 = .ok (.aload_n 0, 1) := by decide +kernel
theorem dM_jsonNumber_109 : decode prog_13_method_35_code 109 = .ok (.dup, 1) := by decide +kernel
theorem dM_jsonNumber_110 : decode prog_13_method_35_code 110 = .ok (.getfield 208, 3) := by decide +kernel
theorem dM_jsonNumber_113 : decode prog_13_method_35_code 113 = .ok (.iconst 1, 1) := by decide +kernel
theorem dM_jsonNumber_114 : decode prog_13_method_35_code 114 = .ok (.iadd, 1) := by decide +kernel
theorem dM_jsonNumber_115 : decode prog_13_method_35_code 115 = .ok (.putfield 208, 3) := by decide +kernel
theorem dM_jsonNumber_118 : decode prog_13_method_35_code 118 = .ok (.goto (-42), 3) := by decide +kernel
theorem dM_jsonNumber_121 : decode prog_13_method_35_code 121 = .ok (.lload_n 3, 1) := by decide +kernel
theorem dM_jsonNumber_122 : decode prog_13_method_35_code 122 = .ok (.ldc2_w 112, 3) := by decide +kernel
theorem dM_jsonNumber_125 : decode prog_13_method_35_code 125 = .ok (.lcmp, 1) := by decide +kernel
theorem dM_jsonNumber_126 : decode prog_13_method_35_code 126 = .ok (.ifCond .le 8, 3) := by decide +kernel
theorem dM_jsonNumber_129 : decode prog_13_method_35_code 129 = .ok (.aload_n 0, 1) := by decide +kernel
theorem dM_jsonNumber_130 : decode prog_13_method_35_code 130 = .ok (.iload_n 1, 1) := by decide +kernel
theorem dM_jsonNumber_131 : decode prog_13_method_35_code 131 = .ok (.invokevirtual 229, 3) := by decide +kernel
theorem dM_jsonNumber_134 : decode prog_13_method_35_code 134 = .ok (.aload_n 0, 1) := by decide +kernel
theorem dM_jsonNumber_135 : decode prog_13_method_35_code 135 = .ok (.iload_n 2, 1) := by decide +kernel
theorem dM_jsonNumber_136 : decode prog_13_method_35_code 136 = .ok (.ifCond .eq 8, 3) := by decide +kernel
theorem dM_jsonNumber_139 : decode prog_13_method_35_code 139 = .ok (.lload_n 3, 1) := by decide +kernel
theorem dM_jsonNumber_140 : decode prog_13_method_35_code 140 = .ok (.lneg, 1) := by decide +kernel
theorem dM_jsonNumber_141 : decode prog_13_method_35_code 141 = .ok (.goto 4, 3) := by decide +kernel
theorem dM_jsonNumber_144 : decode prog_13_method_35_code 144 = .ok (.lload_n 3, 1) := by decide +kernel
theorem dM_jsonNumber_145 : decode prog_13_method_35_code 145 = .ok (.invokevirtual 265, 3) := by decide +kernel
theorem dM_jsonNumber_148 : decode prog_13_method_35_code 148 = .ok (.areturn, 1) := by decide +kernel
theorem dM_jsonString_0 : decode prog_13_method_38_code 0 = .ok (.aload_n 0, 1) := by decide +kernel
theorem dM_jsonString_1 : decode prog_13_method_38_code 1 = .ok (.getfield 123, 3) := by decide +kernel
theorem dM_jsonString_4 : decode prog_13_method_38_code 4 = .ok (.istore_n 1, 1) := by decide +kernel
theorem dM_jsonString_5 : decode prog_13_method_38_code 5 = .ok (.aload_n 0, 1) := by decide +kernel
theorem dM_jsonString_6 : decode prog_13_method_38_code 6 = .ok (.dup, 1) := by decide +kernel
theorem dM_jsonString_7 : decode prog_13_method_38_code 7 = .ok (.getfield 208, 3) := by decide +kernel
theorem dM_jsonString_10 : decode prog_13_method_38_code 10 = .ok (.iconst 1, 1) := by decide +kernel
theorem dM_jsonString_11 : decode prog_13_method_38_code 11 = .ok (.iadd, 1) := by decide +kernel
theorem dM_jsonString_12 : decode prog_13_method_38_code 12 = .ok (.putfield 208, 3) := by decide +kernel
theorem dM_jsonString_15 : decode prog_13_method_38_code 15 = .ok (.aload_n 0, 1) := by decide +kernel
theorem dM_jsonString_16 : decode prog_13_method_38_code 16 = .ok (.invokevirtual 217, 3) := by decide +kernel
theorem dM_jsonString_19 : decode prog_13_method_38_code 19 = .ok (.bipush 34, 2) := by decide +kernel
theorem dM_jsonString_21 : decode prog_13_method_38_code 21 = .ok (.if_icmp .eq 65, 3) := by decide +kernel
theorem dM_jsonString_24 : decode prog_13_method_38_code 24 = .ok (.aload_n 0, 1) := by decide +kernel
theorem dM_jsonString_25 : decode prog_13_method_38_code 25 = .ok (.invokevirtual 217, 3) := by decide +kernel
theorem dM_jsonString_28 : decode prog_13_method_38_code 28 = .ok (.istore_n 2, 1) := by decide +kernel
theorem dM_jsonString_29 : decode prog_13_method_38_code 29 = .ok (.iload_n 2, 1) := by decide +kernel
theorem dM_jsonString_30 : decode prog_13_method_38_code 30 = .ok (.bipush 32, 2) := by decide +kernel
theorem dM_jsonString_32 : decode prog_13_method_38_code 32 = .ok (.if_icmp .lt 9, 3) := by decide +kernel
theorem dM_jsonString_35 : decode prog_13_method_38_code 35 = .ok (.iload_n 2, 1) := by decide +kernel
theorem dM_jsonString_36 : decode prog_13_method_38_code 36 = .ok (.bipush 126, 2) := by decide +kernel
theorem dM_jsonString_38 : decode prog_13_method_38_code 38 = .ok (.if_icmp .le 11, 3) := by decide +kernel
theorem dM_jsonString_41 : decode prog_13_method_38_code 41 = .ok (.aload_n 0, 1) := by decide +kernel
theorem dM_jsonString_42 : decode prog_13_method_38_code 42 = .ok (.aload_n 0, 1) := by decide +kernel
theorem dM_jsonString_43 : decode prog_13_method_38_code 43 = .ok (.getfield 208, 3) := by decide +kernel
theorem dM_jsonString_46 : decode prog_13_method_38_code 46 = .ok (.invokevirtual 229, 3) := by decide +kernel
theorem dM_jsonString_49 : decode prog_13_method_38_code 49 = .ok (.aload_n 0, 1) := by decide +kernel
theorem dM_jsonString_50 : decode prog_13_method_38_code 50 = .ok (.dup, 1) := by decide +kernel
theorem dM_jsonString_51 : decode prog_13_method_38_code 51 = .ok (.getfield 208, 3) := by decide +kernel
theorem dM_jsonString_54 : decode prog_13_method_38_code 54 = .ok (.iconst 1, 1) := by decide +kernel
theorem dM_jsonString_55 : decode prog_13_method_38_code 55 = .ok (.iadd, 1) := by decide +kernel
theorem dM_jsonString_56 : decode prog_13_method_38_code 56 = .ok (.putfield 208, 3) := by decide +kernel
theorem dM_jsonString_59 : decode prog_13_method_38_code 59 = .ok (.iload_n 2, 1) := by decide +kernel
theorem dM_jsonString_60 : decode prog_13_method_38_code 60 = .ok (.bipush 92, 2) := by decide +kernel
theorem dM_jsonString_62 : decode prog_13_method_38_code 62 = .ok (.if_icmp .ne 16, 3) := by decide +kernel
theorem dM_jsonString_65 : decode prog_13_method_38_code 65 = .ok (.aload_n 0, 1) := by decide +kernel
theorem dM_jsonString_66 : decode prog_13_method_38_code 66 = .ok (.aload_n 0, 1) := by decide +kernel
theorem dM_jsonString_67 : decode prog_13_method_38_code 67 = .ok (.getfield 208, 3) := by decide +kernel
theorem dM_jsonString_70 : decode prog_13_method_38_code 70 = .ok (.iconst 1, 1) := by decide +kernel
theorem dM_jsonString_71 : decode prog_13_method_38_code 71 = .ok (.isub, 1) := by decide +kernel
theorem dM_jsonString_72 : decode prog_13_method_38_code 72 = .ok (.invokevirtual 273, 3) := by decide +kernel
theorem dM_jsonString_75 : decode prog_13_method_38_code 75 = .ok (.goto 8, 3) := by decide +kernel
theorem dM_jsonString_78 : decode prog_13_method_38_code 78 = .ok (.aload_n 0, 1) := by decide +kernel
theorem dM_jsonString_79 : decode prog_13_method_38_code 79 = .ok (.iload_n 2, 1) := by decide +kernel
theorem dM_jsonString_80 : decode prog_13_method_38_code 80 = .ok (.invokevirtual 135, 3) := by decide +kernel
theorem dM_jsonString_83 : decode prog_13_method_38_code 83 = .ok (.goto (-68), 3) := by decide +kernel
theorem dM_jsonString_86 : decode prog_13_method_38_code 86 = .ok (.aload_n 0, 1) := by decide +kernel
theorem dM_jsonString_87 : decode prog_13_method_38_code 87 = .ok (.dup, 1) := by decide +kernel
theorem dM_jsonString_88 : decode prog_13_method_38_code 88 = .ok (.getfield 208, 3) := by decide +kernel
theorem dM_jsonString_91 : decode prog_13_method_38_code 91 = .ok (.iconst 1, 1) := by decide +kernel
theorem dM_jsonString_92 : decode prog_13_method_38_code 92 = .ok (.iadd, 1) := by decide +kernel
theorem dM_jsonString_93 : decode prog_13_method_38_code 93 = .ok (.putfield 208, 3) := by decide +kernel
theorem dM_jsonString_96 : decode prog_13_method_38_code 96 = .ok (.aload_n 0, 1) := by decide +kernel
theorem dM_jsonString_97 : decode prog_13_method_38_code 97 = .ok (.iload_n 1, 1) := by decide +kernel
theorem dM_jsonString_98 : decode prog_13_method_38_code 98 = .ok (.invokevirtual 139, 3) := by decide +kernel
theorem dM_jsonString_101 : decode prog_13_method_38_code 101 = .ok (.areturn, 1) := by decide +kernel
theorem dM_keys_0 : decode prog_13_method_25_code 0 = .ok (.aload_n 0, 1) := by decide +kernel
theorem dM_keys_1 : decode prog_13_method_25_code 1 = .ok (.getfield 142, 3) := by decide +kernel
theorem dM_keys_4 : decode prog_13_method_25_code 4 = .ok (.istore_n 3, 1) := by decide +kernel
theorem dM_keys_5 : decode prog_13_method_25_code 5 = .ok (.iconst 0, 1) := by decide +kernel
theorem dM_keys_6 : decode prog_13_method_25_code 6 = .ok (.istore 4, 2) := by decide +kernel
theorem dM_keys_8 : decode prog_13_method_25_code 8 = .ok (.iload 4, 2) := by decide +kernel
theorem dM_keys_10 : decode prog_13_method_25_code 10 = .ok (.aload_n 1, 1) := by decide +kernel
theorem dM_keys_11 : decode prog_13_method_25_code 11 = .ok (.getfield 103, 3) := by decide +kernel
theorem dM_keys_14 : decode prog_13_method_25_code 14 = .ok (.if_icmp .ge 21, 3) := by decide +kernel
theorem dM_keys_17 : decode prog_13_method_25_code 17 = .ok (.aload_n 0, 1) := by decide +kernel
theorem dM_keys_18 : decode prog_13_method_25_code 18 = .ok (.aconst_null, 1) := by decide +kernel
theorem dM_keys_19 : decode prog_13_method_25_code 19 = .ok (.aload_n 0, 1) := by decide +kernel
theorem dM_keys_20 : decode prog_13_method_25_code 20 = .ok (.aload_n 1, 1) := by decide +kernel
theorem dM_keys_21 : decode prog_13_method_25_code 21 = .ok (.iload 4, 2) := by decide +kernel
theorem dM_keys_23 : decode prog_13_method_25_code 23 = .ok (.invokevirtual 159, 3) := by decide +kernel
theorem dM_keys_26 : decode prog_13_method_25_code 26 = .ok (.invokevirtual 186, 3) := by decide +kernel
theorem dM_keys_29 : decode prog_13_method_25_code 29 = .ok (.iinc 4 1, 3) := by decide +kernel
theorem dM_keys_32 : decode prog_13_method_25_code 32 = .ok (.goto (-24), 3) := by decide +kernel
theorem dM_keys_35 : decode prog_13_method_25_code 35 = .ok (.aload_n 0, 1) := by decide +kernel
theorem dM_keys_36 : decode prog_13_method_25_code 36 = .ok (.iconst 5, 1) := by decide +kernel
theorem dM_keys_37 : decode prog_13_method_25_code 37 = .ok (.iload_n 3, 1) := by decide +kernel
theorem dM_keys_38 : decode prog_13_method_25_code 38 = .ok (.invokevirtual 190, 3) := by decide +kernel
theorem dM_keys_41 : decode prog_13_method_25_code 41 = .ok (.astore 4, 2) := by decide +kernel
theorem dM_keys_43 : decode prog_13_method_25_code 43 = .ok (.iload_n 2, 1) := by decide +kernel
theorem dM_keys_44 : decode prog_13_method_25_code 44 = .ok (.ifCond .eq 15, 3) := by decide +kernel
theorem dM_keys_47 : decode prog_13_method_25_code 47 = .ok (.aload_n 0, 1) := by decide +kernel
theorem dM_keys_48 : decode prog_13_method_25_code 48 = .ok (.aload 4, 2) := by decide +kernel
theorem dM_keys_50 : decode prog_13_method_25_code 50 = .ok (.aload 4, 2) := by decide +kernel
theorem dM_keys_52 : decode prog_13_method_25_code 52 = .ok (.iconst 0, 1) := by decide +kernel
theorem dM_keys_53 : decode prog_13_method_25_code 53 = .ok (.invokevirtual 194, 3) := by decide +kernel
theorem dM_keys_56 : decode prog_13_method_25_code 56 = .ok (.goto 5, 3) := by decide +kernel
theorem dM_keys_59 : decode prog_13_method_25_code 59 = .ok (.aload 4, 2) := by decide +kernel
theorem dM_keys_61 : decode prog_13_method_25_code 61 = .ok (.areturn, 1) := by decide +kernel
theorem dM_keysOf_0 : decode prog_13_method_58_code 0 = .ok (.aload_n 1, 1) := by decide +kernel
theorem dM_keysOf_1 : decode prog_13_method_58_code 1 = .ok (.getfield 93, 3) := by decide +kernel
theorem dM_keysOf_4 : decode prog_13_method_58_code 4 = .ok (.bipush 6, 2) := by decide +kernel
theorem dM_keysOf_6 : decode prog_13_method_58_code 6 = .ok (.if_icmp .ne 10, 3) := by decide +kernel
theorem dM_keysOf_9 : decode prog_13_method_58_code 9 = .ok (.aload_n 0, 1) := by decide +kernel
theorem dM_keysOf_10 : decode prog_13_method_58_code 10 = .ok (.aload_n 1, 1) := by decide +kernel
theorem dM_keysOf_11 : decode prog_13_method_58_code 11 = .ok (.iload_n 2, 1) := by decide +kernel
theorem dM_keysOf_12 : decode prog_13_method_58_code 12 = .ok (.invokevirtual 333, 3) := by decide +kernel
theorem dM_keysOf_15 : decode prog_13_method_58_code 15 = .ok (.areturn, 1) := by decide +kernel
theorem dM_keysOf_16 : decode prog_13_method_58_code 16 = .ok (.aload_n 0, 1) := by decide +kernel
theorem dM_keysOf_17 : decode prog_13_method_58_code 17 = .ok (.getfield 142, 3) := by decide +kernel
theorem dM_keysOf_20 : decode prog_13_method_58_code 20 = .ok (.istore_n 3, 1) := by decide +kernel
theorem dM_keysOf_21 : decode prog_13_method_58_code 21 = .ok (.iconst 0, 1) := by decide +kernel
theorem dM_keysOf_22 : decode prog_13_method_58_code 22 = .ok (.istore 4, 2) := by decide +kernel
theorem dM_keysOf_24 : decode prog_13_method_58_code 24 = .ok (.iload 4, 2) := by decide +kernel
theorem dM_keysOf_26 : decode prog_13_method_58_code 26 = .ok (.aload_n 0, 1) := by decide +kernel
theorem dM_keysOf_27 : decode prog_13_method_58_code 27 = .ok (.aload_n 1, 1) := by decide +kernel
theorem dM_keysOf_28 : decode prog_13_method_58_code 28 = .ok (.invokevirtual 337, 3) := by decide +kernel
theorem dM_keysOf_31 : decode prog_13_method_58_code 31 = .ok (.getfield 103, 3) := by decide +kernel
theorem dM_keysOf_34 : decode prog_13_method_58_code 34 = .ok (.if_icmp .ge 21, 3) := by decide +kernel
theorem dM_keysOf_37 : decode prog_13_method_58_code 37 = .ok (.aload_n 0, 1) := by decide +kernel
theorem dM_keysOf_38 : decode prog_13_method_58_code 38 = .ok (.aconst_null, 1) := by decide +kernel
theorem dM_keysOf_39 : decode prog_13_method_58_code 39 = .ok (.aload_n 0, 1) := by decide +kernel
theorem dM_keysOf_40 : decode prog_13_method_58_code 40 = .ok (.iload 4, 2) := by decide +kernel
theorem dM_keysOf_42 : decode prog_13_method_58_code 42 = .ok (.i2l, 1) := by decide +kernel
theorem dM_keysOf_43 : decode prog_13_method_58_code 43 = .ok (.invokevirtual 265, 3) := by decide +kernel
theorem dM_keysOf_46 : decode prog_13_method_58_code 46 = .ok (.invokevirtual 186, 3) := by decide +kernel
theorem dM_keysOf_49 : decode prog_13_method_58_code 49 = .ok (.iinc 4 1, 3) := by decide +kernel
theorem dM_keysOf_52 : decode prog_13_method_58_code 52 = .ok (.goto (-28), 3) := by decide +kernel
theorem dM_keysOf_55 : decode prog_13_method_58_code 55 = .ok (.aload_n 0, 1) := by decide +kernel
theorem dM_keysOf_56 : decode prog_13_method_58_code 56 = .ok (.iconst 5, 1) := by decide +kernel
theorem dM_keysOf_57 : decode prog_13_method_58_code 57 = .ok (.iload_n 3, 1) := by decide +kernel
theorem dM_keysOf_58 : decode prog_13_method_58_code 58 = .ok (.invokevirtual 190, 3) := by decide +kernel
theorem dM_keysOf_61 : decode prog_13_method_58_code 61 = .ok (.areturn, 1) := by decide +kernel
theorem dM_kid_0 : decode prog_13_method_16_code 0 = .ok (.aload_n 0, 1) := by decide +kernel
theorem dM_kid_1 : decode prog_13_method_16_code 1 = .ok (.getfield 19, 3) := by decide +kernel
theorem dM_kid_4 : decode prog_13_method_16_code 4 = .ok (.aload_n 1, 1) := by decide +kernel
theorem dM_kid_5 : decode prog_13_method_16_code 5 = .ok (.getfield 100, 3) := by decide +kernel
theorem dM_kid_8 : decode prog_13_method_16_code 8 = .ok (.iload_n 2, 1) := by decide +kernel
theorem dM_kid_9 : decode prog_13_method_16_code 9 = .ok (.iadd, 1) := by decide +kernel
theorem dM_kid_10 : decode prog_13_method_16_code 10 = .ok (.aaload, 1) := by decide +kernel
theorem dM_kid_11 : decode prog_13_method_16_code 11 = .ok (.areturn, 1) := by decide +kernel
theorem dM_length_0 : decode prog_13_method_57_code 0 = .ok (.aload_n 1, 1) := by decide +kernel
theorem dM_length_1 : decode prog_13_method_57_code 1 = .ok (.getfield 93, 3) := by decide +kernel
theorem dM_length_4 : decode prog_13_method_57_code 4 = .ok (.iconst 1, 1) := by decide +kernel
theorem dM_length_5 : decode prog_13_method_57_code 5 = .ok (.if_icmp .eq 11, 3) := by decide +kernel
theorem dM_length_8 : decode prog_13_method_57_code 8 = .ok (.aload_n 1, 1) := by decide +kernel
theorem dM_length_9 : decode prog_13_method_57_code 9 = .ok (.getfield 93, 3) := by decide +kernel
theorem dM_length_12 : decode prog_13_method_57_code 12 = .ok (.iconst 2, 1) := by decide +kernel
theorem dM_length_13 : decode prog_13_method_57_code 13 = .ok (.if_icmp .ne 9, 3) := by decide +kernel
theorem dM_length_16 : decode prog_13_method_57_code 16 = .ok (.aload_n 0, 1) := by decide +kernel
theorem dM_length_17 : decode prog_13_method_57_code 17 = .ok (.iconst 1, 1) := by decide +kernel
theorem dM_length_18 : decode prog_13_method_57_code 18 = .ok (.invokevirtual 116, 3) := by decide +kernel
theorem dM_length_22 : decode prog_13_method_57_code 22 = .ok (.aload_n 0, 1) := by decide +kernel
theorem dM_length_23 : decode prog_13_method_57_code 23 = .ok (.aload_n 1, 1) := by decide +kernel
theorem dM_length_24 : decode prog_13_method_57_code 24 = .ok (.getfield 93, 3) := by decide +kernel
theorem dM_length_27 : decode prog_13_method_57_code 27 = .ok (.ifCond .ne 7, 3) := by decide +kernel
theorem dM_length_30 : decode prog_13_method_57_code 30 = .ok (.lconst 0, 1) := by decide +kernel
theorem dM_length_31 : decode prog_13_method_57_code 31 = .ok (.goto 26, 3) := by decide +kernel
theorem dM_length_34 : decode prog_13_method_57_code 34 = .ok (.aload_n 1, 1) := by decide +kernel
theorem dM_length_35 : decode prog_13_method_57_code 35 = .ok (.getfield 93, 3) := by decide +kernel
theorem dM_length_38 : decode prog_13_method_57_code 38 = .ok (.iconst 3, 1) := by decide +kernel
theorem dM_length_39 : decode prog_13_method_57_code 39 = .ok (.if_icmp .ne 13, 3) := by decide +kernel
theorem dM_length_42 : decode prog_13_method_57_code 42 = .ok (.aload_n 1, 1) := by decide +kernel
theorem dM_length_43 : decode prog_13_method_57_code 43 = .ok (.getfield 96, 3) := by decide +kernel
theorem dM_length_46 : decode prog_13_method_57_code 46 = .ok (.invokestatic 317, 3) := by decide +kernel
theorem dM_length_49 : decode prog_13_method_57_code 49 = .ok (.goto 8, 3) := by decide +kernel
theorem dM_length_52 : decode prog_13_method_57_code 52 = .ok (.aload_n 1, 1) := by decide +kernel
theorem dM_length_53 : decode prog_13_method_57_code 53 = .ok (.getfield 103, 3) := by decide +kernel
theorem dM_length_56 : decode prog_13_method_57_code 56 = .ok (.i2l, 1) := by decide +kernel
theorem dM_length_57 : decode prog_13_method_57_code 57 = .ok (.invokevirtual 265, 3) := by decide +kernel
theorem dM_length_60 : decode prog_13_method_57_code 60 = .ok (.areturn, 1) := by decide +kernel
theorem dM_letter_0 : decode prog_13_method_9_code 0 = .ok (.aload_n 0, 1) := by decide +kernel
theorem dM_letter_1 : decode prog_13_method_9_code 1 = .ok (.getfield 123, 3) := by decide +kernel
theorem dM_letter_4 : decode prog_13_method_9_code 4 = .ok (.aload_n 0, 1) := by decide +kernel
theorem dM_letter_5 : decode prog_13_method_9_code 5 = .ok (.getfield 15, 3) := by decide +kernel
theorem dM_letter_8 : decode prog_13_method_9_code 8 = .ok (.arraylength, 1) := by decide +kernel
theorem dM_letter_9 : decode prog_13_method_9_code 9 = .ok (.if_icmp .ne 42, 3) := by decide +kernel
theorem dM_letter_12 : decode prog_13_method_9_code 12 = .ok (.iconst 2, 1) := by decide +kernel
theorem dM_letter_13 : decode prog_13_method_9_code 13 = .ok (.aload_n 0, 1) := by decide +kernel
theorem dM_letter_14 : decode prog_13_method_9_code 14 = .ok (.getfield 123, 3) := by decide +kernel
theorem dM_letter_17 : decode prog_13_method_9_code 17 = .ok (.imul, 1) := by decide +kernel
theorem dM_letter_18 : decode prog_13_method_9_code 18 = .ok (.newarray .byte, 2) := by decide +kernel
theorem dM_letter_20 : decode prog_13_method_9_code 20 = .ok (.astore_n 2, 1) := by decide +kernel
theorem dM_letter_21 : decode prog_13_method_9_code 21 = .ok (.iconst 0, 1) := by decide +kernel
theorem dM_letter_22 : decode prog_13_method_9_code 22 = .ok (.istore_n 3, 1) := by decide +kernel
theorem dM_letter_23 : decode prog_13_method_9_code 23 = .ok (.iload_n 3, 1) := by decide +kernel
theorem dM_letter_24 : decode prog_13_method_9_code 24 = .ok (.aload_n 0, 1) := by decide +kernel
theorem dM_letter_25 : decode prog_13_method_9_code 25 = .ok (.getfield 123, 3) := by decide +kernel
theorem dM_letter_28 : decode prog_13_method_9_code 28 = .ok (.if_icmp .ge 18, 3) := by decide +kernel
theorem dM_letter_31 : decode prog_13_method_9_code 31 = .ok (.aload_n 2, 1) := by decide +kernel
theorem dM_letter_32 : decode prog_13_method_9_code 32 = .ok (.iload_n 3, 1) := by decide +kernel
theorem dM_letter_33 : decode prog_13_method_9_code 33 = .ok (.aload_n 0, 1) := by decide +kernel
theorem dM_letter_34 : decode prog_13_method_9_code 34 = .ok (.getfield 15, 3) := by decide +kernel
theorem dM_letter_37 : decode prog_13_method_9_code 37 = .ok (.iload_n 3, 1) := by decide +kernel
theorem dM_letter_38 : decode prog_13_method_9_code 38 = .ok (.baload, 1) := by decide +kernel
theorem dM_letter_39 : decode prog_13_method_9_code 39 = .ok (.bastore, 1) := by decide +kernel
theorem dM_letter_40 : decode prog_13_method_9_code 40 = .ok (.iinc 3 1, 3) := by decide +kernel
theorem dM_letter_43 : decode prog_13_method_9_code 43 = .ok (.goto (-20), 3) := by decide +kernel
theorem dM_letter_46 : decode prog_13_method_9_code 46 = .ok (.aload_n 0, 1) := by decide +kernel
theorem dM_letter_47 : decode prog_13_method_9_code 47 = .ok (.aload_n 2, 1) := by decide +kernel
theorem dM_letter_48 : decode prog_13_method_9_code 48 = .ok (.putfield 15, 3) := by decide +kernel
theorem dM_letter_51 : decode prog_13_method_9_code 51 = .ok (.aload_n 0, 1) := by decide +kernel
theorem dM_letter_52 : decode prog_13_method_9_code 52 = .ok (.getfield 15, 3) := by decide +kernel
theorem dM_letter_55 : decode prog_13_method_9_code 55 = .ok (.aload_n 0, 1) := by decide +kernel
theorem dM_letter_56 : decode prog_13_method_9_code 56 = .ok (.getfield 123, 3) := by decide +kernel
theorem dM_letter_59 : decode prog_13_method_9_code 59 = .ok (.iload_n 1, 1) := by decide +kernel
theorem dM_letter_60 : decode prog_13_method_9_code 60 = .ok (.i2b, 1) := by decide +kernel
theorem dM_letter_61 : decode prog_13_method_9_code 61 = .ok (.bastore, 1) := by decide +kernel
theorem dM_letter_62 : decode prog_13_method_9_code 62 = .ok (.aload_n 0, 1) := by decide +kernel
theorem dM_letter_63 : decode prog_13_method_9_code 63 = .ok (.dup, 1) := by decide +kernel
theorem dM_letter_64 : decode prog_13_method_9_code 64 = .ok (.getfield 123, 3) := by decide +kernel
theorem dM_letter_67 : decode prog_13_method_9_code 67 = .ok (.iconst 1, 1) := by decide +kernel
theorem dM_letter_68 : decode prog_13_method_9_code 68 = .ok (.iadd, 1) := by decide +kernel
theorem dM_letter_69 : decode prog_13_method_9_code 69 = .ok (.putfield 123, 3) := by decide +kernel
theorem dM_letter_72 : decode prog_13_method_9_code 72 = .ok (.return_, 1) := by decide +kernel
theorem dM_letters_0 : decode prog_13_method_12_code 0 = .ok (.iconst 0, 1) := by decide +kernel
theorem dM_letters_1 : decode prog_13_method_12_code 1 = .ok (.istore_n 2, 1) := by decide +kernel
theorem dM_letters_2 : decode prog_13_method_12_code 2 = .ok (.iload_n 2, 1) := by decide +kernel
theorem dM_letters_3 : decode prog_13_method_12_code 3 = .ok (.aload_n 1, 1) := by decide +kernel
theorem dM_letters_4 : decode prog_13_method_12_code 4 = .ok (.getfield 103, 3) := by decide +kernel
theorem dM_letters_7 : decode prog_13_method_12_code 7 = .ok (.if_icmp .ge 24, 3) := by decide +kernel
theorem dM_letters_10 : decode prog_13_method_12_code 10 = .ok (.aload_n 0, 1) := by decide +kernel
theorem dM_letters_11 : decode prog_13_method_12_code 11 = .ok (.aload_n 0, 1) := by decide +kernel
theorem dM_letters_12 : decode prog_13_method_12_code 12 = .ok (.getfield 15, 3) := by decide +kernel
theorem dM_letters_15 : decode prog_13_method_12_code 15 = .ok (.aload_n 1, 1) := by decide +kernel
theorem dM_letters_16 : decode prog_13_method_12_code 16 = .ok (.getfield 100, 3) := by decide +kernel
theorem dM_letters_19 : decode prog_13_method_12_code 19 = .ok (.iload_n 2, 1) := by decide +kernel
theorem dM_letters_20 : decode prog_13_method_12_code 20 = .ok (.iadd, 1) := by decide +kernel
theorem dM_letters_21 : decode prog_13_method_12_code 21 = .ok (.baload, 1) := by decide +kernel
theorem dM_letters_22 : decode prog_13_method_12_code 22 = .ok (.invokevirtual 135, 3) := by decide +kernel
theorem dM_letters_25 : decode prog_13_method_12_code 25 = .ok (.iinc 2 1, 3) := by decide +kernel
theorem dM_letters_28 : decode prog_13_method_12_code 28 = .ok (.goto (-26), 3) := by decide +kernel
theorem dM_letters_31 : decode prog_13_method_12_code 31 = .ok (.return_, 1) := by decide +kernel
theorem dM_limit_0 : decode prog_13_method_5_code 0 = .ok (.new 86, 3) := by decide +kernel
theorem dM_limit_3 : decode prog_13_method_5_code 3 = .ok (.dup, 1) := by decide +kernel
theorem dM_limit_4 : decode prog_13_method_5_code 4 = .ok (.invokespecial 88, 3) := by decide +kernel
theorem dM_limit_7 : decode prog_13_method_5_code 7 = .ok (.athrow, 1) := by decide +kernel
theorem dM_members_0 : decode prog_13_method_40_code 0 = .ok (.aload_n 0, 1) := by decide +kernel
theorem dM_members_1 : decode prog_13_method_40_code 1 = .ok (.getfield 142, 3) := by decide +kernel
theorem dM_members_4 : decode prog_13_method_40_code 4 = .ok (.istore_n 1, 1) := by decide +kernel
theorem dM_members_5 : decode prog_13_method_40_code 5 = .ok (.aload_n 0, 1) := by decide +kernel
theorem dM_members_6 : decode prog_13_method_40_code 6 = .ok (.invokevirtual 226, 3) := by decide +kernel
theorem dM_members_9 : decode prog_13_method_40_code 9 = .ok (.aload_n 0, 1) := by decide +kernel
theorem dM_members_10 : decode prog_13_method_40_code 10 = .ok (.invokevirtual 217, 3) := by decide +kernel
theorem dM_members_13 : decode prog_13_method_40_code 13 = .ok (.bipush 125, 2) := by decide +kernel
theorem dM_members_15 : decode prog_13_method_40_code 15 = .ok (.if_icmp .ne 21, 3) := by decide +kernel
theorem dM_members_18 : decode prog_13_method_40_code 18 = .ok (.aload_n 0, 1) := by decide +kernel
theorem dM_members_19 : decode prog_13_method_40_code 19 = .ok (.dup, 1) := by decide +kernel
theorem dM_members_20 : decode prog_13_method_40_code 20 = .ok (.getfield 208, 3) := by decide +kernel
theorem dM_members_23 : decode prog_13_method_40_code 23 = .ok (.iconst 1, 1) := by decide +kernel
theorem dM_members_24 : decode prog_13_method_40_code 24 = .ok (.iadd, 1) := by decide +kernel
theorem dM_members_25 : decode prog_13_method_40_code 25 = .ok (.putfield 208, 3) := by decide +kernel
theorem dM_members_28 : decode prog_13_method_40_code 28 = .ok (.aload_n 0, 1) := by decide +kernel
theorem dM_members_29 : decode prog_13_method_40_code 29 = .ok (.bipush 6, 2) := by decide +kernel
theorem dM_members_31 : decode prog_13_method_40_code 31 = .ok (.iload_n 1, 1) := by decide +kernel
theorem dM_members_32 : decode prog_13_method_40_code 32 = .ok (.invokevirtual 190, 3) := by decide +kernel
theorem dM_members_35 : decode prog_13_method_40_code 35 = .ok (.areturn, 1) := by decide +kernel
theorem dM_members_36 : decode prog_13_method_40_code 36 = .ok (.aload_n 0, 1) := by decide +kernel
theorem dM_members_37 : decode prog_13_method_40_code 37 = .ok (.invokevirtual 226, 3) := by decide +kernel
theorem dM_members_40 : decode prog_13_method_40_code 40 = .ok (.aload_n 0, 1) := by decide +kernel
theorem dM_members_41 : decode prog_13_method_40_code 41 = .ok (.getfield 208, 3) := by decide +kernel
theorem dM_members_44 : decode prog_13_method_40_code 44 = .ok (.istore_n 2, 1) := by decide +kernel
theorem dM_members_45 : decode prog_13_method_40_code 45 = .ok (.aload_n 0, 1) := by decide +kernel
theorem dM_members_46 : decode prog_13_method_40_code 46 = .ok (.invokevirtual 217, 3) := by decide +kernel
theorem dM_members_49 : decode prog_13_method_40_code 49 = .ok (.bipush 34, 2) := by decide +kernel
theorem dM_members_51 : decode prog_13_method_40_code 51 = .ok (.if_icmp .eq 11, 3) := by decide +kernel
theorem dM_members_54 : decode prog_13_method_40_code 54 = .ok (.aload_n 0, 1) := by decide +kernel
theorem dM_members_55 : decode prog_13_method_40_code 55 = .ok (.aload_n 0, 1) := by decide +kernel
theorem dM_members_56 : decode prog_13_method_40_code 56 = .ok (.getfield 208, 3) := by decide +kernel
theorem dM_members_59 : decode prog_13_method_40_code 59 = .ok (.invokevirtual 229, 3) := by decide +kernel
theorem dM_members_62 : decode prog_13_method_40_code 62 = .ok (.aload_n 0, 1) := by decide +kernel
theorem dM_members_63 : decode prog_13_method_40_code 63 = .ok (.invokevirtual 240, 3) := by decide +kernel
theorem dM_members_66 : decode prog_13_method_40_code 66 = .ok (.astore_n 3, 1) := by decide +kernel
theorem dM_members_67 : decode prog_13_method_40_code 67 = .ok (.iload_n 1, 1) := by decide +kernel
theorem dM_members_68 : decode prog_13_method_40_code 68 = .ok (.istore 4, 2) := by decide +kernel
theorem dM_members_70 : decode prog_13_method_40_code 70 = .ok (.iload 4, 2) := by decide +kernel
theorem dM_members_72 : decode prog_13_method_40_code 72 = .ok (.aload_n 0, 1) := by decide +kernel
theorem dM_members_73 : decode prog_13_method_40_code 73 = .ok (.getfield 142, 3) := by decide +kernel
theorem dM_members_76 : decode prog_13_method_40_code 76 = .ok (.if_icmp .ge 29, 3) := by decide +kernel
theorem dM_members_79 : decode prog_13_method_40_code 79 = .ok (.aload_n 0, 1) := by decide +kernel
theorem dM_members_80 : decode prog_13_method_40_code 80 = .ok (.aload_n 0, 1) := by decide +kernel
theorem dM_members_81 : decode prog_13_method_40_code 81 = .ok (.getfield 28, 3) := by decide +kernel
theorem dM_members_84 : decode prog_13_method_40_code 84 = .ok (.iload 4, 2) := by decide +kernel
theorem dM_members_86 : decode prog_13_method_40_code 86 = .ok (.aaload, 1) := by decide +kernel
theorem dM_members_87 : decode prog_13_method_40_code 87 = .ok (.aload_n 3, 1) := by decide +kernel
theorem dM_members_88 : decode prog_13_method_40_code 88 = .ok (.invokevirtual 163, 3) := by decide +kernel
theorem dM_members_91 : decode prog_13_method_40_code 91 = .ok (.ifCond .eq 8, 3) := by decide +kernel
theorem dM_members_94 : decode prog_13_method_40_code 94 = .ok (.aload_n 0, 1) := by decide +kernel
theorem dM_members_95 : decode prog_13_method_40_code 95 = .ok (.iload_n 2, 1) := by decide +kernel
theorem dM_members_96 : decode prog_13_method_40_code 96 = .ok (.invokevirtual 229, 3) := by decide +kernel
theorem dM_members_99 : decode prog_13_method_40_code 99 = .ok (.iinc 4 1, 3) := by decide +kernel
theorem dM_members_102 : decode prog_13_method_40_code 102 = .ok (.goto (-32), 3) := by decide +kernel
theorem dM_members_105 : decode prog_13_method_40_code 105 = .ok (.aload_n 0, 1) := by decide +kernel
theorem dM_members_106 : decode prog_13_method_40_code 106 = .ok (.invokevirtual 226, 3) := by decide +kernel
theorem dM_members_109 : decode prog_13_method_40_code 109 = .ok (.aload_n 0, 1) := by decide +kernel
theorem dM_members_110 : decode prog_13_method_40_code 110 = .ok (.invokevirtual 217, 3) := by decide +kernel
theorem dM_members_113 : decode prog_13_method_40_code 113 = .ok (.bipush 58, 2) := by decide +kernel
theorem dM_members_115 : decode prog_13_method_40_code 115 = .ok (.if_icmp .eq 11, 3) := by decide +kernel
theorem dM_members_118 : decode prog_13_method_40_code 118 = .ok (.aload_n 0, 1) := by decide +kernel
theorem dM_members_119 : decode prog_13_method_40_code 119 = .ok (.aload_n 0, 1) := by decide +kernel
theorem dM_members_120 : decode prog_13_method_40_code 120 = .ok (.getfield 208, 3) := by decide +kernel
theorem dM_members_123 : decode prog_13_method_40_code 123 = .ok (.invokevirtual 229, 3) := by decide +kernel
theorem dM_members_126 : decode prog_13_method_40_code 126 = .ok (.aload_n 0, 1) := by decide +kernel
theorem dM_members_127 : decode prog_13_method_40_code 127 = .ok (.dup, 1) := by decide +kernel
theorem dM_members_128 : decode prog_13_method_40_code 128 = .ok (.getfield 208, 3) := by decide +kernel
theorem dM_members_131 : decode prog_13_method_40_code 131 = .ok (.iconst 1, 1) := by decide +kernel
theorem dM_members_132 : decode prog_13_method_40_code 132 = .ok (.iadd, 1) := by decide +kernel
theorem dM_members_133 : decode prog_13_method_40_code 133 = .ok (.putfield 208, 3) := by decide +kernel
theorem dM_members_136 : decode prog_13_method_40_code 136 = .ok (.aload_n 0, 1) := by decide +kernel
theorem dM_members_137 : decode prog_13_method_40_code 137 = .ok (.invokevirtual 223, 3) := by decide +kernel
theorem dM_members_140 : decode prog_13_method_40_code 140 = .ok (.astore 4, 2) := by decide +kernel
theorem dM_members_142 : decode prog_13_method_40_code 142 = .ok (.aload_n 0, 1) := by decide +kernel
theorem dM_members_143 : decode prog_13_method_40_code 143 = .ok (.aload_n 3, 1) := by decide +kernel
theorem dM_members_144 : decode prog_13_method_40_code 144 = .ok (.aload 4, 2) := by decide +kernel
theorem dM_members_146 : decode prog_13_method_40_code 146 = .ok (.invokevirtual 186, 3) := by decide +kernel
theorem dM_members_149 : decode prog_13_method_40_code 149 = .ok (.aload_n 0, 1) := by decide +kernel
theorem dM_members_150 : decode prog_13_method_40_code 150 = .ok (.invokevirtual 226, 3) := by decide +kernel
theorem dM_members_153 : decode prog_13_method_40_code 153 = .ok (.aload_n 0, 1) := by decide +kernel
theorem dM_members_154 : decode prog_13_method_40_code 154 = .ok (.invokevirtual 217, 3) := by decide +kernel
theorem dM_members_157 : decode prog_13_method_40_code 157 = .ok (.istore 5, 2) := by decide +kernel
theorem dM_members_159 : decode prog_13_method_40_code 159 = .ok (.iload 5, 2) := by decide +kernel
theorem dM_members_161 : decode prog_13_method_40_code 161 = .ok (.bipush 44, 2) := by decide +kernel
theorem dM_members_163 : decode prog_13_method_40_code 163 = .ok (.if_icmp .eq 18, 3) := by decide +kernel
theorem dM_members_166 : decode prog_13_method_40_code 166 = .ok (.iload 5, 2) := by decide +kernel
theorem dM_members_168 : decode prog_13_method_40_code 168 = .ok (.bipush 125, 2) := by decide +kernel
theorem dM_members_170 : decode prog_13_method_40_code 170 = .ok (.if_icmp .eq 11, 3) := by decide +kernel
theorem dM_members_173 : decode prog_13_method_40_code 173 = .ok (.aload_n 0, 1) := by decide +kernel
theorem dM_members_174 : decode prog_13_method_40_code 174 = .ok (.aload_n 0, 1) := by decide +kernel
theorem dM_members_175 : decode prog_13_method_40_code 175 = .ok (.getfield 208, 3) := by decide +kernel
theorem dM_members_178 : decode prog_13_method_40_code 178 = .ok (.invokevirtual 229, 3) := by decide +kernel
theorem dM_members_181 : decode prog_13_method_40_code 181 = .ok (.aload_n 0, 1) := by decide +kernel
theorem dM_members_182 : decode prog_13_method_40_code 182 = .ok (.dup, 1) := by decide +kernel
theorem dM_members_183 : decode prog_13_method_40_code 183 = .ok (.getfield 208, 3) := by decide +kernel
theorem dM_members_186 : decode prog_13_method_40_code 186 = .ok (.iconst 1, 1) := by decide +kernel
theorem dM_members_187 : decode prog_13_method_40_code 187 = .ok (.iadd, 1) := by decide +kernel
theorem dM_members_188 : decode prog_13_method_40_code 188 = .ok (.putfield 208, 3) := by decide +kernel
theorem dM_members_191 : decode prog_13_method_40_code 191 = .ok (.iload 5, 2) := by decide +kernel
theorem dM_members_193 : decode prog_13_method_40_code 193 = .ok (.bipush 125, 2) := by decide +kernel
theorem dM_members_195 : decode prog_13_method_40_code 195 = .ok (.if_icmp .ne 11, 3) := by decide +kernel
theorem dM_members_198 : decode prog_13_method_40_code 198 = .ok (.aload_n 0, 1) := by decide +kernel
theorem dM_members_199 : decode prog_13_method_40_code 199 = .ok (.bipush 6, 2) := by decide +kernel
theorem dM_members_201 : decode prog_13_method_40_code 201 = .ok (.iload_n 1, 1) := by decide +kernel
theorem dM_members_202 : decode prog_13_method_40_code 202 = .ok (.invokevirtual 190, 3) := by decide +kernel
theorem dM_members_205 : decode prog_13_method_40_code 205 = .ok (.areturn, 1) := by decide +kernel
theorem dM_members_206 : decode prog_13_method_40_code 206 = .ok (.goto (-170), 3) := by decide +kernel
theorem dM_merged_0 : decode prog_13_method_52_code 0 = .ok (.aload_n 0, 1) := by decide +kernel
theorem dM_merged_1 : decode prog_13_method_52_code 1 = .ok (.getfield 142, 3) := by decide +kernel
theorem dM_merged_4 : decode prog_13_method_52_code 4 = .ok (.istore_n 3, 1) := by decide +kernel
theorem dM_merged_5 : decode prog_13_method_52_code 5 = .ok (.iconst 0, 1) := by decide +kernel
theorem dM_merged_6 : decode prog_13_method_52_code 6 = .ok (.istore 4, 2) := by decide +kernel
theorem dM_merged_8 : decode prog_13_method_52_code 8 = .ok (.iload 4, 2) := by decide +kernel
theorem dM_merged_10 : decode prog_13_method_52_code 10 = .ok (.aload_n 1, 1) := by decide +kernel
theorem dM_merged_11 : decode prog_13_method_52_code 11 = .ok (.getfield 103, 3) := by decide +kernel
theorem dM_merged_14 : decode prog_13_method_52_code 14 = .ok (.if_icmp .ge 110, 3) := by decide +kernel
theorem dM_merged_17 : decode prog_13_method_52_code 17 = .ok (.aload_n 0, 1) := by decide +kernel
theorem dM_merged_18 : decode prog_13_method_52_code 18 = .ok (.aload_n 2, 1) := by decide +kernel
theorem dM_merged_19 : decode prog_13_method_52_code 19 = .ok (.aload_n 0, 1) := by decide +kernel
theorem dM_merged_20 : decode prog_13_method_52_code 20 = .ok (.aload_n 1, 1) := by decide +kernel
theorem dM_merged_21 : decode prog_13_method_52_code 21 = .ok (.iload 4, 2) := by decide +kernel
theorem dM_merged_23 : decode prog_13_method_52_code 23 = .ok (.invokevirtual 159, 3) := by decide +kernel
theorem dM_merged_26 : decode prog_13_method_52_code 26 = .ok (.invokevirtual 167, 3) := by decide +kernel
theorem dM_merged_29 : decode prog_13_method_52_code 29 = .ok (.istore 5, 2) := by decide +kernel
theorem dM_merged_31 : decode prog_13_method_52_code 31 = .ok (.aload_n 0, 1) := by decide +kernel
theorem dM_merged_32 : decode prog_13_method_52_code 32 = .ok (.aload_n 1, 1) := by decide +kernel
theorem dM_merged_33 : decode prog_13_method_52_code 33 = .ok (.iload 4, 2) := by decide +kernel
theorem dM_merged_35 : decode prog_13_method_52_code 35 = .ok (.invokevirtual 170, 3) := by decide +kernel
theorem dM_merged_38 : decode prog_13_method_52_code 38 = .ok (.astore 6, 2) := by decide +kernel
theorem dM_merged_40 : decode prog_13_method_52_code 40 = .ok (.iload 5, 2) := by decide +kernel
theorem dM_merged_42 : decode prog_13_method_52_code 42 = .ok (.ifCond .lt 63, 3) := by decide +kernel
theorem dM_merged_45 : decode prog_13_method_52_code 45 = .ok (.aload_n 0, 1) := by decide +kernel
theorem dM_merged_46 : decode prog_13_method_52_code 46 = .ok (.aload_n 2, 1) := by decide +kernel
theorem dM_merged_47 : decode prog_13_method_52_code 47 = .ok (.iload 5, 2) := by decide +kernel
theorem dM_merged_49 : decode prog_13_method_52_code 49 = .ok (.invokevirtual 170, 3) := by decide +kernel
theorem dM_merged_52 : decode prog_13_method_52_code 52 = .ok (.astore 7, 2) := by decide +kernel
theorem dM_merged_54 : decode prog_13_method_52_code 54 = .ok (.aload 6, 2) := by decide +kernel
theorem dM_merged_56 : decode prog_13_method_52_code 56 = .ok (.getfield 93, 3) := by decide +kernel
theorem dM_merged_59 : decode prog_13_method_52_code 59 = .ok (.bipush 6, 2) := by decide +kernel
theorem dM_merged_61 : decode prog_13_method_52_code 61 = .ok (.if_icmp .ne 40, 3) := by decide +kernel
theorem dM_merged_64 : decode prog_13_method_52_code 64 = .ok (.aload 7, 2) := by decide +kernel
theorem dM_merged_66 : decode prog_13_method_52_code 66 = .ok (.getfield 93, 3) := by decide +kernel
theorem dM_merged_69 : decode prog_13_method_52_code 69 = .ok (.bipush 6, 2) := by decide +kernel
theorem dM_merged_71 : decode prog_13_method_52_code 71 = .ok (.if_icmp .ne 30, 3) := by decide +kernel
theorem dM_merged_74 : decode prog_13_method_52_code 74 = .ok (.aload_n 0, 1) := by decide +kernel
theorem dM_merged_75 : decode prog_13_method_52_code 75 = .ok (.aload 6, 2) := by decide +kernel
theorem dM_merged_77 : decode prog_13_method_52_code 77 = .ok (.aload 7, 2) := by decide +kernel
theorem dM_merged_79 : decode prog_13_method_52_code 79 = .ok (.invokevirtual 321, 3) := by decide +kernel
theorem dM_merged_82 : decode prog_13_method_52_code 82 = .ok (.astore 6, 2) := by decide +kernel
theorem dM_merged_84 : decode prog_13_method_52_code 84 = .ok (.aload_n 0, 1) := by decide +kernel
theorem dM_merged_85 : decode prog_13_method_52_code 85 = .ok (.dup, 1) := by decide +kernel
theorem dM_merged_86 : decode prog_13_method_52_code 86 = .ok (.getfield 156, 3) := by decide +kernel
theorem dM_merged_89 : decode prog_13_method_52_code 89 = .ok (.aload 6, 2) := by decide +kernel
theorem dM_merged_91 : decode prog_13_method_52_code 91 = .ok (.getfield 103, 3) := by decide +kernel
theorem dM_merged_94 : decode prog_13_method_52_code 94 = .ok (.iadd, 1) := by decide +kernel
theorem dM_merged_95 : decode prog_13_method_52_code 95 = .ok (.putfield 156, 3) := by decide +kernel
theorem dM_merged_98 : decode prog_13_method_52_code 98 = .ok (.goto 7, 3) := by decide +kernel
theorem dM_merged_101 : decode prog_13_method_52_code 101 = .ok (.aload 7, 2) := by decide +kernel
theorem dM_merged_103 : decode prog_13_method_52_code 103 = .ok (.astore 6, 2) := by decide +kernel
theorem dM_merged_105 : decode prog_13_method_52_code 105 = .ok (.aload_n 0, 1) := by decide +kernel
theorem dM_merged_106 : decode prog_13_method_52_code 106 = .ok (.aload_n 0, 1) := by decide +kernel
theorem dM_merged_107 : decode prog_13_method_52_code 107 = .ok (.aload_n 1, 1) := by decide +kernel
theorem dM_merged_108 : decode prog_13_method_52_code 108 = .ok (.iload 4, 2) := by decide +kernel
theorem dM_merged_110 : decode prog_13_method_52_code 110 = .ok (.invokevirtual 159, 3) := by decide +kernel
theorem dM_merged_113 : decode prog_13_method_52_code 113 = .ok (.aload 6, 2) := by decide +kernel
theorem dM_merged_115 : decode prog_13_method_52_code 115 = .ok (.invokevirtual 186, 3) := by decide +kernel
theorem dM_merged_118 : decode prog_13_method_52_code 118 = .ok (.iinc 4 1, 3) := by decide +kernel
theorem dM_merged_121 : decode prog_13_method_52_code 121 = .ok (.goto (-113), 3) := by decide +kernel
theorem dM_merged_124 : decode prog_13_method_52_code 124 = .ok (.iconst 0, 1) := by decide +kernel
theorem dM_merged_125 : decode prog_13_method_52_code 125 = .ok (.istore 4, 2) := by decide +kernel
theorem dM_merged_127 : decode prog_13_method_52_code 127 = .ok (.iload 4, 2) := by decide +kernel
theorem dM_merged_129 : decode prog_13_method_52_code 129 = .ok (.aload_n 2, 1) := by decide +kernel
theorem dM_merged_130 : decode prog_13_method_52_code 130 = .ok (.getfield 103, 3) := by decide +kernel
theorem dM_merged_133 : decode prog_13_method_52_code 133 = .ok (.if_icmp .ge 42, 3) := by decide +kernel
theorem dM_merged_136 : decode prog_13_method_52_code 136 = .ok (.aload_n 0, 1) := by decide +kernel
theorem dM_merged_137 : decode prog_13_method_52_code 137 = .ok (.aload_n 1, 1) := by decide +kernel
theorem dM_merged_138 : decode prog_13_method_52_code 138 = .ok (.aload_n 0, 1) := by decide +kernel
theorem dM_merged_139 : decode prog_13_method_52_code 139 = .ok (.aload_n 2, 1) := by decide +kernel
theorem dM_merged_140 : decode prog_13_method_52_code 140 = .ok (.iload 4, 2) := by decide +kernel
theorem dM_merged_142 : decode prog_13_method_52_code 142 = .ok (.invokevirtual 159, 3) := by decide +kernel
theorem dM_merged_145 : decode prog_13_method_52_code 145 = .ok (.invokevirtual 167, 3) := by decide +kernel
theorem dM_merged_148 : decode prog_13_method_52_code 148 = .ok (.ifCond .ge 21, 3) := by decide +kernel
theorem dM_merged_151 : decode prog_13_method_52_code 151 = .ok (.aload_n 0, 1) := by decide +kernel
theorem dM_merged_152 : decode prog_13_method_52_code 152 = .ok (.aload_n 0, 1) := by decide +kernel
theorem dM_merged_153 : decode prog_13_method_52_code 153 = .ok (.aload_n 2, 1) := by decide +kernel
theorem dM_merged_154 : decode prog_13_method_52_code 154 = .ok (.iload 4, 2) := by decide +kernel
theorem dM_merged_156 : decode prog_13_method_52_code 156 = .ok (.invokevirtual 159, 3) := by decide +kernel
theorem dM_merged_159 : decode prog_13_method_52_code 159 = .ok (.aload_n 0, 1) := by decide +kernel
theorem dM_merged_160 : decode prog_13_method_52_code 160 = .ok (.aload_n 2, 1) := by decide +kernel
theorem dM_merged_161 : decode prog_13_method_52_code 161 = .ok (.iload 4, 2) := by decide +kernel
theorem dM_merged_163 : decode prog_13_method_52_code 163 = .ok (.invokevirtual 170, 3) := by decide +kernel
theorem dM_merged_166 : decode prog_13_method_52_code 166 = .ok (.invokevirtual 186, 3) := by decide +kernel
theorem dM_merged_169 : decode prog_13_method_52_code 169 = .ok (.iinc 4 1, 3) := by decide +kernel
theorem dM_merged_172 : decode prog_13_method_52_code 172 = .ok (.goto (-45), 3) := by decide +kernel
theorem dM_merged_175 : decode prog_13_method_52_code 175 = .ok (.aload_n 0, 1) := by decide +kernel
theorem dM_merged_176 : decode prog_13_method_52_code 176 = .ok (.bipush 6, 2) := by decide +kernel
theorem dM_merged_178 : decode prog_13_method_52_code 178 = .ok (.iload_n 3, 1) := by decide +kernel
theorem dM_merged_179 : decode prog_13_method_52_code 179 = .ok (.invokevirtual 190, 3) := by decide +kernel
theorem dM_merged_182 : decode prog_13_method_52_code 182 = .ok (.areturn, 1) := by decide +kernel
theorem dM_name_0 : decode prog_13_method_17_code 0 = .ok (.aload_n 0, 1) := by decide +kernel
theorem dM_name_1 : decode prog_13_method_17_code 1 = .ok (.getfield 22, 3) := by decide +kernel
theorem dM_name_4 : decode prog_13_method_17_code 4 = .ok (.aload_n 1, 1) := by decide +kernel
theorem dM_name_5 : decode prog_13_method_17_code 5 = .ok (.getfield 100, 3) := by decide +kernel
theorem dM_name_8 : decode prog_13_method_17_code 8 = .ok (.iload_n 2, 1) := by decide +kernel
theorem dM_name_9 : decode prog_13_method_17_code 9 = .ok (.iadd, 1) := by decide +kernel
theorem dM_name_10 : decode prog_13_method_17_code 10 = .ok (.aaload, 1) := by decide +kernel
theorem dM_name_11 : decode prog_13_method_17_code 11 = .ok (.areturn, 1) := by decide +kernel
theorem dM_number_0 : decode prog_13_method_7_code 0 = .ok (.lload_n 1, 1) := by decide +kernel
theorem dM_number_1 : decode prog_13_method_7_code 1 = .ok (.ldc2_w 112, 3) := by decide +kernel
theorem dM_number_4 : decode prog_13_method_7_code 4 = .ok (.lcmp, 1) := by decide +kernel
theorem dM_number_5 : decode prog_13_method_7_code 5 = .ok (.ifCond .gt 11, 3) := by decide +kernel
theorem dM_number_8 : decode prog_13_method_7_code 8 = .ok (.lload_n 1, 1) := by decide +kernel
theorem dM_number_9 : decode prog_13_method_7_code 9 = .ok (.ldc2_w 114, 3) := by decide +kernel
theorem dM_number_12 : decode prog_13_method_7_code 12 = .ok (.lcmp, 1) := by decide +kernel
theorem dM_number_13 : decode prog_13_method_7_code 13 = .ok (.ifCond .ge 9, 3) := by decide +kernel
theorem dM_number_16 : decode prog_13_method_7_code 16 = .ok (.aload_n 0, 1) := by decide +kernel
theorem dM_number_17 : decode prog_13_method_7_code 17 = .ok (.iconst 2, 1) := by decide +kernel
theorem dM_number_18 : decode prog_13_method_7_code 18 = .ok (.invokevirtual 116, 3) := by decide +kernel
theorem dM_number_22 : decode prog_13_method_7_code 22 = .ok (.aload_n 0, 1) := by decide +kernel
theorem dM_number_23 : decode prog_13_method_7_code 23 = .ok (.iconst 3, 1) := by decide +kernel
theorem dM_number_24 : decode prog_13_method_7_code 24 = .ok (.invokevirtual 120, 3) := by decide +kernel
theorem dM_number_27 : decode prog_13_method_7_code 27 = .ok (.astore_n 3, 1) := by decide +kernel
theorem dM_number_28 : decode prog_13_method_7_code 28 = .ok (.aload_n 3, 1) := by decide +kernel
theorem dM_number_29 : decode prog_13_method_7_code 29 = .ok (.lload_n 1, 1) := by decide +kernel
theorem dM_number_30 : decode prog_13_method_7_code 30 = .ok (.putfield 96, 3) := by decide +kernel
theorem dM_number_33 : decode prog_13_method_7_code 33 = .ok (.aload_n 3, 1) := by decide +kernel
theorem dM_number_34 : decode prog_13_method_7_code 34 = .ok (.areturn, 1) := by decide +kernel
theorem dM_objects_0 : decode prog_13_method_24_code 0 = .ok (.aconst_null, 1) := by decide +kernel
theorem dM_objects_1 : decode prog_13_method_24_code 1 = .ok (.astore_n 3, 1) := by decide +kernel
theorem dM_objects_2 : decode prog_13_method_24_code 2 = .ok (.aconst_null, 1) := by decide +kernel
theorem dM_objects_3 : decode prog_13_method_24_code 3 = .ok (.astore 4, 2) := by decide +kernel
theorem dM_objects_5 : decode prog_13_method_24_code 5 = .ok (.iconst 0, 1) := by decide +kernel
theorem dM_objects_6 : decode prog_13_method_24_code 6 = .ok (.istore 5, 2) := by decide +kernel
theorem dM_objects_8 : decode prog_13_method_24_code 8 = .ok (.iload 5, 2) := by decide +kernel
theorem dM_objects_10 : decode prog_13_method_24_code 10 = .ok (.aload_n 1, 1) := by decide +kernel
theorem dM_objects_11 : decode prog_13_method_24_code 11 = .ok (.getfield 103, 3) := by decide +kernel
theorem dM_objects_14 : decode prog_13_method_24_code 14 = .ok (.if_icmp .ge 51, 3) := by decide +kernel
theorem dM_objects_17 : decode prog_13_method_24_code 17 = .ok (.iload 5, 2) := by decide +kernel
theorem dM_objects_19 : decode prog_13_method_24_code 19 = .ok (.aload_n 2, 1) := by decide +kernel
theorem dM_objects_20 : decode prog_13_method_24_code 20 = .ok (.getfield 103, 3) := by decide +kernel
theorem dM_objects_23 : decode prog_13_method_24_code 23 = .ok (.if_icmp .ge 42, 3) := by decide +kernel
theorem dM_objects_26 : decode prog_13_method_24_code 26 = .ok (.aload_n 0, 1) := by decide +kernel
theorem dM_objects_27 : decode prog_13_method_24_code 27 = .ok (.aload_n 1, 1) := by decide +kernel
theorem dM_objects_28 : decode prog_13_method_24_code 28 = .ok (.aload_n 3, 1) := by decide +kernel
theorem dM_objects_29 : decode prog_13_method_24_code 29 = .ok (.invokevirtual 182, 3) := by decide +kernel
theorem dM_objects_32 : decode prog_13_method_24_code 32 = .ok (.astore_n 3, 1) := by decide +kernel
theorem dM_objects_33 : decode prog_13_method_24_code 33 = .ok (.aload_n 0, 1) := by decide +kernel
theorem dM_objects_34 : decode prog_13_method_24_code 34 = .ok (.aload_n 2, 1) := by decide +kernel
theorem dM_objects_35 : decode prog_13_method_24_code 35 = .ok (.aload 4, 2) := by decide +kernel
theorem dM_objects_37 : decode prog_13_method_24_code 37 = .ok (.invokevirtual 182, 3) := by decide +kernel
theorem dM_objects_40 : decode prog_13_method_24_code 40 = .ok (.astore 4, 2) := by decide +kernel
theorem dM_objects_42 : decode prog_13_method_24_code 42 = .ok (.aload_n 0, 1) := by decide +kernel
theorem dM_objects_43 : decode prog_13_method_24_code 43 = .ok (.aload_n 3, 1) := by decide +kernel
theorem dM_objects_44 : decode prog_13_method_24_code 44 = .ok (.aload 4, 2) := by decide +kernel
theorem dM_objects_46 : decode prog_13_method_24_code 46 = .ok (.invokevirtual 176, 3) := by decide +kernel
theorem dM_objects_49 : decode prog_13_method_24_code 49 = .ok (.istore 6, 2) := by decide +kernel
theorem dM_objects_51 : decode prog_13_method_24_code 51 = .ok (.iload 6, 2) := by decide +kernel
theorem dM_objects_53 : decode prog_13_method_24_code 53 = .ok (.ifCond .eq 6, 3) := by decide +kernel
theorem dM_objects_56 : decode prog_13_method_24_code 56 = .ok (.iload 6, 2) := by decide +kernel
theorem dM_objects_58 : decode prog_13_method_24_code 58 = .ok (.ireturn, 1) := by decide +kernel
theorem dM_objects_59 : decode prog_13_method_24_code 59 = .ok (.iinc 5 1, 3) := by decide +kernel
theorem dM_objects_62 : decode prog_13_method_24_code 62 = .ok (.goto (-54), 3) := by decide +kernel
theorem dM_objects_65 : decode prog_13_method_24_code 65 = .ok (.aload_n 1, 1) := by decide +kernel
theorem dM_objects_66 : decode prog_13_method_24_code 66 = .ok (.getfield 103, 3) := by decide +kernel
theorem dM_objects_69 : decode prog_13_method_24_code 69 = .ok (.aload_n 2, 1) := by decide +kernel
theorem dM_objects_70 : decode prog_13_method_24_code 70 = .ok (.getfield 103, 3) := by decide +kernel
theorem dM_objects_73 : decode prog_13_method_24_code 73 = .ok (.if_icmp .eq 13, 3) := by decide +kernel
theorem dM_objects_76 : decode prog_13_method_24_code 76 = .ok (.aload_n 1, 1) := by decide +kernel
theorem dM_objects_77 : decode prog_13_method_24_code 77 = .ok (.getfield 103, 3) := by decide +kernel
theorem dM_objects_80 : decode prog_13_method_24_code 80 = .ok (.aload_n 2, 1) := by decide +kernel
theorem dM_objects_81 : decode prog_13_method_24_code 81 = .ok (.getfield 103, 3) := by decide +kernel
theorem dM_objects_84 : decode prog_13_method_24_code 84 = .ok (.isub, 1) := by decide +kernel
theorem dM_objects_85 : decode prog_13_method_24_code 85 = .ok (.ireturn, 1) := by decide +kernel
theorem dM_objects_86 : decode prog_13_method_24_code 86 = .ok (.aconst_null, 1) := by decide +kernel
theorem dM_objects_87 : decode prog_13_method_24_code 87 = .ok (.astore_n 3, 1) := by decide +kernel
theorem dM_objects_88 : decode prog_13_method_24_code 88 = .ok (.iconst 0, 1) := by decide +kernel
theorem dM_objects_89 : decode prog_13_method_24_code 89 = .ok (.istore 5, 2) := by decide +kernel
theorem dM_objects_91 : decode prog_13_method_24_code 91 = .ok (.iload 5, 2) := by decide +kernel
theorem dM_objects_93 : decode prog_13_method_24_code 93 = .ok (.aload_n 1, 1) := by decide +kernel
theorem dM_objects_94 : decode prog_13_method_24_code 94 = .ok (.getfield 103, 3) := by decide +kernel
theorem dM_objects_97 : decode prog_13_method_24_code 97 = .ok (.if_icmp .ge 52, 3) := by decide +kernel
theorem dM_objects_100 : decode prog_13_method_24_code 100 = .ok (.aload_n 0, 1) := by decide +kernel
theorem dM_objects_101 : decode prog_13_method_24_code 101 = .ok (.aload_n 1, 1) := by decide +kernel
theorem dM_objects_102 : decode prog_13_method_24_code 102 = .ok (.aload_n 3, 1) := by decide +kernel
theorem dM_objects_103 : decode prog_13_method_24_code 103 = .ok (.invokevirtual 182, 3) := by decide +kernel
theorem dM_objects_106 : decode prog_13_method_24_code 106 = .ok (.astore_n 3, 1) := by decide +kernel
theorem dM_objects_107 : decode prog_13_method_24_code 107 = .ok (.aload_n 0, 1) := by decide +kernel
theorem dM_objects_108 : decode prog_13_method_24_code 108 = .ok (.aload_n 0, 1) := by decide +kernel
theorem dM_objects_109 : decode prog_13_method_24_code 109 = .ok (.aload_n 1, 1) := by decide +kernel
theorem dM_objects_110 : decode prog_13_method_24_code 110 = .ok (.aload_n 0, 1) := by decide +kernel
theorem dM_objects_111 : decode prog_13_method_24_code 111 = .ok (.aload_n 1, 1) := by decide +kernel
theorem dM_objects_112 : decode prog_13_method_24_code 112 = .ok (.aload_n 3, 1) := by decide +kernel
theorem dM_objects_113 : decode prog_13_method_24_code 113 = .ok (.invokevirtual 167, 3) := by decide +kernel
theorem dM_objects_116 : decode prog_13_method_24_code 116 = .ok (.invokevirtual 170, 3) := by decide +kernel
theorem dM_objects_119 : decode prog_13_method_24_code 119 = .ok (.aload_n 0, 1) := by decide +kernel
theorem dM_objects_120 : decode prog_13_method_24_code 120 = .ok (.aload_n 2, 1) := by decide +kernel
theorem dM_objects_121 : decode prog_13_method_24_code 121 = .ok (.aload_n 0, 1) := by decide +kernel
theorem dM_objects_122 : decode prog_13_method_24_code 122 = .ok (.aload_n 2, 1) := by decide +kernel
theorem dM_objects_123 : decode prog_13_method_24_code 123 = .ok (.aload_n 3, 1) := by decide +kernel
theorem dM_objects_124 : decode prog_13_method_24_code 124 = .ok (.invokevirtual 167, 3) := by decide +kernel
theorem dM_objects_127 : decode prog_13_method_24_code 127 = .ok (.invokevirtual 170, 3) := by decide +kernel
theorem dM_objects_130 : decode prog_13_method_24_code 130 = .ok (.invokevirtual 176, 3) := by decide +kernel
theorem dM_objects_133 : decode prog_13_method_24_code 133 = .ok (.istore 6, 2) := by decide +kernel
theorem dM_objects_135 : decode prog_13_method_24_code 135 = .ok (.iload 6, 2) := by decide +kernel
theorem dM_objects_137 : decode prog_13_method_24_code 137 = .ok (.ifCond .eq 6, 3) := by decide +kernel
theorem dM_objects_140 : decode prog_13_method_24_code 140 = .ok (.iload 6, 2) := by decide +kernel
theorem dM_objects_142 : decode prog_13_method_24_code 142 = .ok (.ireturn, 1) := by decide +kernel
theorem dM_objects_143 : decode prog_13_method_24_code 143 = .ok (.iinc 5 1, 3) := by decide +kernel
theorem dM_objects_146 : decode prog_13_method_24_code 146 = .ok (.goto (-55), 3) := by decide +kernel
theorem dM_objects_149 : decode prog_13_method_24_code 149 = .ok (.iconst 0, 1) := by decide +kernel
theorem dM_objects_150 : decode prog_13_method_24_code 150 = .ok (.ireturn, 1) := by decide +kernel
theorem dM_one0_0 : decode prog_13_method_92_code 0 = .ok (.aload_n 0, 1) := by decide +kernel
theorem dM_one0_1 : decode prog_13_method_92_code 1 = .ok (.invokevirtual 424, 3) := by decide +kernel
theorem dM_one0_4 : decode prog_13_method_92_code 4 = .ok (.aload_n 0, 1) := by decide +kernel
theorem dM_one0_5 : decode prog_13_method_92_code 5 = .ok (.iload_n 1, 1) := by decide +kernel
theorem dM_one0_6 : decode prog_13_method_92_code 6 = .ok (.invokevirtual 427, 3) := by decide +kernel
theorem dM_one0_9 : decode prog_13_method_92_code 9 = .ok (.ifCond .ne 21, 3) := by decide +kernel
theorem dM_one0_12 : decode prog_13_method_92_code 12 = .ok (.iload_n 2, 1) := by decide +kernel
theorem dM_one0_13 : decode prog_13_method_92_code 13 = .ok (.ifCond .lt 17, 3) := by decide +kernel
theorem dM_one0_16 : decode prog_13_method_92_code 16 = .ok (.iload_n 2, 1) := by decide +kernel
theorem dM_one0_17 : decode prog_13_method_92_code 17 = .ok (.bipush 13, 2) := by decide +kernel
theorem dM_one0_19 : decode prog_13_method_92_code 19 = .ok (.if_icmp .gt 11, 3) := by decide +kernel
theorem dM_one0_22 : decode prog_13_method_92_code 22 = .ok (.aload_n 0, 1) := by decide +kernel
theorem dM_one0_23 : decode prog_13_method_92_code 23 = .ok (.iload_n 3, 1) := by decide +kernel
theorem dM_one0_24 : decode prog_13_method_92_code 24 = .ok (.invokevirtual 427, 3) := by decide +kernel
theorem dM_one0_27 : decode prog_13_method_92_code 27 = .ok (.ifCond .eq 11, 3) := by decide +kernel
theorem dM_one0_30 : decode prog_13_method_92_code 30 = .ok (.aload_n 0, 1) := by decide +kernel
theorem dM_one0_31 : decode prog_13_method_92_code 31 = .ok (.iconst 1, 1) := by decide +kernel
theorem dM_one0_32 : decode prog_13_method_92_code 32 = .ok (.putfield 77, 3) := by decide +kernel
theorem dM_one0_35 : decode prog_13_method_92_code 35 = .ok (.goto 12, 3) := by decide +kernel
theorem dM_one0_38 : decode prog_13_method_92_code 38 = .ok (.aload_n 0, 1) := by decide +kernel
theorem dM_one0_39 : decode prog_13_method_92_code 39 = .ok (.iload_n 1, 1) := by decide +kernel
theorem dM_one0_40 : decode prog_13_method_92_code 40 = .ok (.iconst 1, 1) := by decide +kernel
theorem dM_one0_41 : decode prog_13_method_92_code 41 = .ok (.iload_n 2, 1) := by decide +kernel
theorem dM_one0_42 : decode prog_13_method_92_code 42 = .ok (.iload_n 3, 1) := by decide +kernel
theorem dM_one0_43 : decode prog_13_method_92_code 43 = .ok (.iload_n 3, 1) := by decide +kernel
theorem dM_one0_44 : decode prog_13_method_92_code 44 = .ok (.invokevirtual 442, 3) := by decide +kernel
theorem dM_one0_47 : decode prog_13_method_92_code 47 = .ok (.return_, 1) := by decide +kernel
theorem dM_one1_0 : decode prog_13_method_66_code 0 = .ok (.iload_n 1, 1) := by decide +kernel
theorem dM_one1_1 : decode prog_13_method_66_code 1 = .ok (.tableswitch 178 0 12 #[67, 85, 91, 98, 105, 123, 129, 135, 141, 153, 159, 165, 171], 67) := by decide +kernel
theorem dM_one1_68 : decode prog_13_method_66_code 68 = .ok (.aload_n 0, 1) := by decide +kernel
theorem dM_one1_69 : decode prog_13_method_66_code 69 = .ok (.aload_n 0, 1) := by decide +kernel
theorem dM_one1_70 : decode prog_13_method_66_code 70 = .ok (.aload_n 2, 1) := by decide +kernel
theorem dM_one1_71 : decode prog_13_method_66_code 71 = .ok (.invokevirtual 350, 3) := by decide +kernel
theorem dM_one1_74 : decode prog_13_method_66_code 74 = .ok (.ifCond .ne 7, 3) := by decide +kernel
theorem dM_one1_77 : decode prog_13_method_66_code 77 = .ok (.iconst 1, 1) := by decide +kernel
theorem dM_one1_78 : decode prog_13_method_66_code 78 = .ok (.goto 4, 3) := by decide +kernel
theorem dM_one1_81 : decode prog_13_method_66_code 81 = .ok (.iconst 0, 1) := by decide +kernel
theorem dM_one1_82 : decode prog_13_method_66_code 82 = .ok (.invokevirtual 354, 3) := by decide +kernel
theorem dM_one1_85 : decode prog_13_method_66_code 85 = .ok (.areturn, 1) := by decide +kernel
theorem dM_one1_86 : decode prog_13_method_66_code 86 = .ok (.aload_n 0, 1) := by decide +kernel
theorem dM_one1_87 : decode prog_13_method_66_code 87 = .ok (.aload_n 2, 1) := by decide +kernel
theorem dM_one1_88 : decode prog_13_method_66_code 88 = .ok (.invokevirtual 358, 3) := by decide +kernel
theorem dM_one1_91 : decode prog_13_method_66_code 91 = .ok (.areturn, 1) := by decide +kernel
theorem dM_one1_92 : decode prog_13_method_66_code 92 = .ok (.aload_n 0, 1) := by decide +kernel
theorem dM_one1_93 : decode prog_13_method_66_code 93 = .ok (.aload_n 2, 1) := by decide +kernel
theorem dM_one1_94 : decode prog_13_method_66_code 94 = .ok (.iconst 1, 1) := by decide +kernel
theorem dM_one1_95 : decode prog_13_method_66_code 95 = .ok (.invokevirtual 360, 3) := by decide +kernel
theorem dM_one1_98 : decode prog_13_method_66_code 98 = .ok (.areturn, 1) := by decide +kernel
theorem dM_one1_99 : decode prog_13_method_66_code 99 = .ok (.aload_n 0, 1) := by decide +kernel
theorem dM_one1_100 : decode prog_13_method_66_code 100 = .ok (.aload_n 2, 1) := by decide +kernel
theorem dM_one1_101 : decode prog_13_method_66_code 101 = .ok (.iconst 0, 1) := by decide +kernel
theorem dM_one1_102 : decode prog_13_method_66_code 102 = .ok (.invokevirtual 360, 3) := by decide +kernel
theorem dM_one1_105 : decode prog_13_method_66_code 105 = .ok (.areturn, 1) := by decide +kernel
theorem dM_one1_106 : decode prog_13_method_66_code 106 = .ok (.aload_n 2, 1) := by decide +kernel
theorem dM_one1_107 : decode prog_13_method_66_code 107 = .ok (.getfield 93, 3) := by decide +kernel
theorem dM_one1_110 : decode prog_13_method_66_code 110 = .ok (.iconst 4, 1) := by decide +kernel
theorem dM_one1_111 : decode prog_13_method_66_code 111 = .ok (.if_icmp .ne 7, 3) := by decide +kernel
theorem dM_one1_114 : decode prog_13_method_66_code 114 = .ok (.aload_n 2, 1) := by decide +kernel
theorem dM_one1_115 : decode prog_13_method_66_code 115 = .ok (.goto 8, 3) := by decide +kernel
theorem dM_one1_118 : decode prog_13_method_66_code 118 = .ok (.aload_n 0, 1) := by decide +kernel
theorem dM_one1_119 : decode prog_13_method_66_code 119 = .ok (.aload_n 2, 1) := by decide +kernel
theorem dM_one1_120 : decode prog_13_method_66_code 120 = .ok (.invokevirtual 363, 3) := by decide +kernel
theorem dM_one1_123 : decode prog_13_method_66_code 123 = .ok (.areturn, 1) := by decide +kernel
theorem dM_one1_124 : decode prog_13_method_66_code 124 = .ok (.aload_n 0, 1) := by decide +kernel
theorem dM_one1_125 : decode prog_13_method_66_code 125 = .ok (.aload_n 2, 1) := by decide +kernel
theorem dM_one1_126 : decode prog_13_method_66_code 126 = .ok (.invokevirtual 366, 3) := by decide +kernel
theorem dM_one1_129 : decode prog_13_method_66_code 129 = .ok (.areturn, 1) := by decide +kernel
theorem dM_one1_130 : decode prog_13_method_66_code 130 = .ok (.aload_n 0, 1) := by decide +kernel
theorem dM_one1_131 : decode prog_13_method_66_code 131 = .ok (.aload_n 2, 1) := by decide +kernel
theorem dM_one1_132 : decode prog_13_method_66_code 132 = .ok (.invokevirtual 363, 3) := by decide +kernel
theorem dM_one1_135 : decode prog_13_method_66_code 135 = .ok (.areturn, 1) := by decide +kernel
theorem dM_one1_136 : decode prog_13_method_66_code 136 = .ok (.aload_n 0, 1) := by decide +kernel
theorem dM_one1_137 : decode prog_13_method_66_code 137 = .ok (.aload_n 2, 1) := by decide +kernel
theorem dM_one1_138 : decode prog_13_method_66_code 138 = .ok (.invokevirtual 369, 3) := by decide +kernel
theorem dM_one1_141 : decode prog_13_method_66_code 141 = .ok (.areturn, 1) := by decide +kernel
theorem dM_one1_142 : decode prog_13_method_66_code 142 = .ok (.aload_n 0, 1) := by decide +kernel
theorem dM_one1_143 : decode prog_13_method_66_code 143 = .ok (.aload_n 0, 1) := by decide +kernel
theorem dM_one1_144 : decode prog_13_method_66_code 144 = .ok (.aload_n 2, 1) := by decide +kernel
theorem dM_one1_145 : decode prog_13_method_66_code 145 = .ok (.invokevirtual 337, 3) := by decide +kernel
theorem dM_one1_148 : decode prog_13_method_66_code 148 = .ok (.aload_n 2, 1) := by decide +kernel
theorem dM_one1_149 : decode prog_13_method_66_code 149 = .ok (.iconst 0, 1) := by decide +kernel
theorem dM_one1_150 : decode prog_13_method_66_code 150 = .ok (.invokevirtual 194, 3) := by decide +kernel
theorem dM_one1_153 : decode prog_13_method_66_code 153 = .ok (.areturn, 1) := by decide +kernel
theorem dM_one1_154 : decode prog_13_method_66_code 154 = .ok (.aload_n 0, 1) := by decide +kernel
theorem dM_one1_155 : decode prog_13_method_66_code 155 = .ok (.aload_n 2, 1) := by decide +kernel
theorem dM_one1_156 : decode prog_13_method_66_code 156 = .ok (.invokevirtual 372, 3) := by decide +kernel
theorem dM_one1_159 : decode prog_13_method_66_code 159 = .ok (.areturn, 1) := by decide +kernel
theorem dM_one1_160 : decode prog_13_method_66_code 160 = .ok (.aload_n 0, 1) := by decide +kernel
theorem dM_one1_161 : decode prog_13_method_66_code 161 = .ok (.aload_n 2, 1) := by decide +kernel
theorem dM_one1_162 : decode prog_13_method_66_code 162 = .ok (.invokevirtual 375, 3) := by decide +kernel
theorem dM_one1_165 : decode prog_13_method_66_code 165 = .ok (.areturn, 1) := by decide +kernel
theorem dM_one1_166 : decode prog_13_method_66_code 166 = .ok (.aload_n 0, 1) := by decide +kernel
theorem dM_one1_167 : decode prog_13_method_66_code 167 = .ok (.aload_n 2, 1) := by decide +kernel
theorem dM_one1_168 : decode prog_13_method_66_code 168 = .ok (.invokevirtual 378, 3) := by decide +kernel
theorem dM_one1_171 : decode prog_13_method_66_code 171 = .ok (.areturn, 1) := by decide +kernel
theorem dM_one1_172 : decode prog_13_method_66_code 172 = .ok (.aload_n 0, 1) := by decide +kernel
theorem dM_one1_173 : decode prog_13_method_66_code 173 = .ok (.aload_n 2, 1) := by decide +kernel
theorem dM_one1_174 : decode prog_13_method_66_code 174 = .ok (.iconst 0, 1) := by decide +kernel
theorem dM_one1_175 : decode prog_13_method_66_code 175 = .ok (.invokevirtual 381, 3) := by decide +kernel
theorem dM_one1_178 : decode prog_13_method_66_code 178 = .ok (.areturn, 1) := by decide +kernel
theorem dM_one1_179 : decode prog_13_method_66_code 179 = .ok (.aload_n 0, 1) := by decide +kernel
theorem dM_one1_180 : decode prog_13_method_66_code 180 = .ok (.aload_n 2, 1) := by decide +kernel
theorem dM_one1_181 : decode prog_13_method_66_code 181 = .ok (.iconst 1, 1) := by decide +kernel
theorem dM_one1_182 : decode prog_13_method_66_code 182 = .ok (.invokevirtual 381, 3) := by decide +kernel
theorem dM_one1_185 : decode prog_13_method_66_code 185 = .ok (.areturn, 1) := by decide +kernel
theorem dM_order_0 : decode prog_13_method_22_code 0 = .ok (.aload_n 1, 1) := by decide +kernel
theorem dM_order_1 : decode prog_13_method_22_code 1 = .ok (.getfield 93, 3) := by decide +kernel
theorem dM_order_4 : decode prog_13_method_22_code 4 = .ok (.aload_n 2, 1) := by decide +kernel
theorem dM_order_5 : decode prog_13_method_22_code 5 = .ok (.getfield 93, 3) := by decide +kernel
theorem dM_order_8 : decode prog_13_method_22_code 8 = .ok (.if_icmp .eq 13, 3) := by decide +kernel
theorem dM_order_11 : decode prog_13_method_22_code 11 = .ok (.aload_n 1, 1) := by decide +kernel
theorem dM_order_12 : decode prog_13_method_22_code 12 = .ok (.getfield 93, 3) := by decide +kernel
theorem dM_order_15 : decode prog_13_method_22_code 15 = .ok (.aload_n 2, 1) := by decide +kernel
theorem dM_order_16 : decode prog_13_method_22_code 16 = .ok (.getfield 93, 3) := by decide +kernel
theorem dM_order_19 : decode prog_13_method_22_code 19 = .ok (.isub, 1) := by decide +kernel
theorem dM_order_20 : decode prog_13_method_22_code 20 = .ok (.ireturn, 1) := by decide +kernel
theorem dM_order_21 : decode prog_13_method_22_code 21 = .ok (.aload_n 1, 1) := by decide +kernel
theorem dM_order_22 : decode prog_13_method_22_code 22 = .ok (.getfield 93, 3) := by decide +kernel
theorem dM_order_25 : decode prog_13_method_22_code 25 = .ok (.iconst 3, 1) := by decide +kernel
theorem dM_order_26 : decode prog_13_method_22_code 26 = .ok (.if_icmp .ne 37, 3) := by decide +kernel
theorem dM_order_29 : decode prog_13_method_22_code 29 = .ok (.aload_n 1, 1) := by decide +kernel
theorem dM_order_30 : decode prog_13_method_22_code 30 = .ok (.getfield 96, 3) := by decide +kernel
theorem dM_order_33 : decode prog_13_method_22_code 33 = .ok (.aload_n 2, 1) := by decide +kernel
theorem dM_order_34 : decode prog_13_method_22_code 34 = .ok (.getfield 96, 3) := by decide +kernel
theorem dM_order_37 : decode prog_13_method_22_code 37 = .ok (.lcmp, 1) := by decide +kernel
theorem dM_order_38 : decode prog_13_method_22_code 38 = .ok (.ifCond .ge 7, 3) := by decide +kernel
theorem dM_order_41 : decode prog_13_method_22_code 41 = .ok (.iconst (-1), 1) := by decide +kernel
theorem dM_order_42 : decode prog_13_method_22_code 42 = .ok (.goto 20, 3) := by decide +kernel
theorem dM_order_45 : decode prog_13_method_22_code 45 = .ok (.aload_n 1, 1) := by decide +kernel
theorem dM_order_46 : decode prog_13_method_22_code 46 = .ok (.getfield 96, 3) := by decide +kernel
theorem dM_order_49 : decode prog_13_method_22_code 49 = .ok (.aload_n 2, 1) := by decide +kernel
theorem dM_order_50 : decode prog_13_method_22_code 50 = .ok (.getfield 96, 3) := by decide +kernel
theorem dM_order_53 : decode prog_13_method_22_code 53 = .ok (.lcmp, 1) := by decide +kernel
theorem dM_order_54 : decode prog_13_method_22_code 54 = .ok (.ifCond .le 7, 3) := by decide +kernel
theorem dM_order_57 : decode prog_13_method_22_code 57 = .ok (.iconst 1, 1) := by decide +kernel
theorem dM_order_58 : decode prog_13_method_22_code 58 = .ok (.goto 4, 3) := by decide +kernel
theorem dM_order_61 : decode prog_13_method_22_code 61 = .ok (.iconst 0, 1) := by decide +kernel
theorem dM_order_62 : decode prog_13_method_22_code 62 = .ok (.ireturn, 1) := by decide +kernel
theorem dM_order_63 : decode prog_13_method_22_code 63 = .ok (.aload_n 1, 1) := by decide +kernel
theorem dM_order_64 : decode prog_13_method_22_code 64 = .ok (.getfield 93, 3) := by decide +kernel
theorem dM_order_67 : decode prog_13_method_22_code 67 = .ok (.iconst 4, 1) := by decide +kernel
theorem dM_order_68 : decode prog_13_method_22_code 68 = .ok (.if_icmp .ne 86, 3) := by decide +kernel
theorem dM_order_71 : decode prog_13_method_22_code 71 = .ok (.iconst 0, 1) := by decide +kernel
theorem dM_order_72 : decode prog_13_method_22_code 72 = .ok (.istore_n 3, 1) := by decide +kernel
theorem dM_order_73 : decode prog_13_method_22_code 73 = .ok (.iload_n 3, 1) := by decide +kernel
theorem dM_order_74 : decode prog_13_method_22_code 74 = .ok (.aload_n 1, 1) := by decide +kernel
theorem dM_order_75 : decode prog_13_method_22_code 75 = .ok (.getfield 103, 3) := by decide +kernel
theorem dM_order_78 : decode prog_13_method_22_code 78 = .ok (.if_icmp .ge 66, 3) := by decide +kernel
theorem dM_order_81 : decode prog_13_method_22_code 81 = .ok (.iload_n 3, 1) := by decide +kernel
theorem dM_order_82 : decode prog_13_method_22_code 82 = .ok (.aload_n 2, 1) := by decide +kernel
theorem dM_order_83 : decode prog_13_method_22_code 83 = .ok (.getfield 103, 3) := by decide +kernel
theorem dM_order_86 : decode prog_13_method_22_code 86 = .ok (.if_icmp .ge 58, 3) := by decide +kernel
theorem dM_order_89 : decode prog_13_method_22_code 89 = .ok (.aload_n 0, 1) := by decide +kernel
theorem dM_order_90 : decode prog_13_method_22_code 90 = .ok (.getfield 15, 3) := by decide +kernel
theorem dM_order_93 : decode prog_13_method_22_code 93 = .ok (.aload_n 1, 1) := by decide +kernel
theorem dM_order_94 : decode prog_13_method_22_code 94 = .ok (.getfield 100, 3) := by decide +kernel
theorem dM_order_97 : decode prog_13_method_22_code 97 = .ok (.iload_n 3, 1) := by decide +kernel
theorem dM_order_98 : decode prog_13_method_22_code 98 = .ok (.iadd, 1) := by decide +kernel
theorem dM_order_99 : decode prog_13_method_22_code 99 = .ok (.baload, 1) := by decide +kernel
theorem dM_order_100 : decode prog_13_method_22_code 100 = .ok (.aload_n 0, 1) := by decide +kernel
theorem dM_order_101 : decode prog_13_method_22_code 101 = .ok (.getfield 15, 3) := by decide +kernel
theorem dM_order_104 : decode prog_13_method_22_code 104 = .ok (.aload_n 2, 1) := by decide +kernel
theorem dM_order_105 : decode prog_13_method_22_code 105 = .ok (.getfield 100, 3) := by decide +kernel
theorem dM_order_108 : decode prog_13_method_22_code 108 = .ok (.iload_n 3, 1) := by decide +kernel
theorem dM_order_109 : decode prog_13_method_22_code 109 = .ok (.iadd, 1) := by decide +kernel
theorem dM_order_110 : decode prog_13_method_22_code 110 = .ok (.baload, 1) := by decide +kernel
theorem dM_order_111 : decode prog_13_method_22_code 111 = .ok (.if_icmp .eq 27, 3) := by decide +kernel
theorem dM_order_114 : decode prog_13_method_22_code 114 = .ok (.aload_n 0, 1) := by decide +kernel
theorem dM_order_115 : decode prog_13_method_22_code 115 = .ok (.getfield 15, 3) := by decide +kernel
theorem dM_order_118 : decode prog_13_method_22_code 118 = .ok (.aload_n 1, 1) := by decide +kernel
theorem dM_order_119 : decode prog_13_method_22_code 119 = .ok (.getfield 100, 3) := by decide +kernel
theorem dM_order_122 : decode prog_13_method_22_code 122 = .ok (.iload_n 3, 1) := by decide +kernel
theorem dM_order_123 : decode prog_13_method_22_code 123 = .ok (.iadd, 1) := by decide +kernel
theorem dM_order_124 : decode prog_13_method_22_code 124 = .ok (.baload, 1) := by decide +kernel
theorem dM_order_125 : decode prog_13_method_22_code 125 = .ok (.aload_n 0, 1) := by decide +kernel
theorem dM_order_126 : decode prog_13_method_22_code 126 = .ok (.getfield 15, 3) := by decide +kernel
theorem dM_order_129 : decode prog_13_method_22_code 129 = .ok (.aload_n 2, 1) := by decide +kernel
theorem dM_order_130 : decode prog_13_method_22_code 130 = .ok (.getfield 100, 3) := by decide +kernel
theorem dM_order_133 : decode prog_13_method_22_code 133 = .ok (.iload_n 3, 1) := by decide +kernel
theorem dM_order_134 : decode prog_13_method_22_code 134 = .ok (.iadd, 1) := by decide +kernel
theorem dM_order_135 : decode prog_13_method_22_code 135 = .ok (.baload, 1) := by decide +kernel
theorem dM_order_136 : decode prog_13_method_22_code 136 = .ok (.isub, 1) := by decide +kernel
theorem dM_order_137 : decode prog_13_method_22_code 137 = .ok (.ireturn, 1) := by decide +kernel
theorem dM_order_138 : decode prog_13_method_22_code 138 = .ok (.iinc 3 1, 3) := by decide +kernel
theorem dM_order_141 : decode prog_13_method_22_code 141 = .ok (.goto (-68), 3) := by decide +kernel
theorem dM_order_144 : decode prog_13_method_22_code 144 = .ok (.aload_n 1, 1) := by decide +kernel
theorem dM_order_145 : decode prog_13_method_22_code 145 = .ok (.getfield 103, 3) := by decide +kernel
theorem dM_order_148 : decode prog_13_method_22_code 148 = .ok (.aload_n 2, 1) := by decide +kernel
theorem dM_order_149 : decode prog_13_method_22_code 149 = .ok (.getfield 103, 3) := by decide +kernel
theorem dM_order_152 : decode prog_13_method_22_code 152 = .ok (.isub, 1) := by decide +kernel
theorem dM_order_153 : decode prog_13_method_22_code 153 = .ok (.ireturn, 1) := by decide +kernel
theorem dM_order_154 : decode prog_13_method_22_code 154 = .ok (.aload_n 1, 1) := by decide +kernel
theorem dM_order_155 : decode prog_13_method_22_code 155 = .ok (.getfield 93, 3) := by decide +kernel
theorem dM_order_158 : decode prog_13_method_22_code 158 = .ok (.iconst 5, 1) := by decide +kernel
theorem dM_order_159 : decode prog_13_method_22_code 159 = .ok (.if_icmp .ne 63, 3) := by decide +kernel
theorem dM_order_162 : decode prog_13_method_22_code 162 = .ok (.iconst 0, 1) := by decide +kernel
theorem dM_order_163 : decode prog_13_method_22_code 163 = .ok (.istore_n 3, 1) := by decide +kernel
theorem dM_order_164 : decode prog_13_method_22_code 164 = .ok (.iload_n 3, 1) := by decide +kernel
theorem dM_order_165 : decode prog_13_method_22_code 165 = .ok (.aload_n 1, 1) := by decide +kernel
theorem dM_order_166 : decode prog_13_method_22_code 166 = .ok (.getfield 103, 3) := by decide +kernel
theorem dM_order_169 : decode prog_13_method_22_code 169 = .ok (.if_icmp .ge 43, 3) := by decide +kernel
theorem dM_order_172 : decode prog_13_method_22_code 172 = .ok (.iload_n 3, 1) := by decide +kernel
theorem dM_order_173 : decode prog_13_method_22_code 173 = .ok (.aload_n 2, 1) := by decide +kernel
theorem dM_order_174 : decode prog_13_method_22_code 174 = .ok (.getfield 103, 3) := by decide +kernel
theorem dM_order_177 : decode prog_13_method_22_code 177 = .ok (.if_icmp .ge 35, 3) := by decide +kernel
theorem dM_order_180 : decode prog_13_method_22_code 180 = .ok (.aload_n 0, 1) := by decide +kernel
theorem dM_order_181 : decode prog_13_method_22_code 181 = .ok (.aload_n 0, 1) := by decide +kernel
theorem dM_order_182 : decode prog_13_method_22_code 182 = .ok (.aload_n 1, 1) := by decide +kernel
theorem dM_order_183 : decode prog_13_method_22_code 183 = .ok (.iload_n 3, 1) := by decide +kernel
theorem dM_order_184 : decode prog_13_method_22_code 184 = .ok (.invokevirtual 170, 3) := by decide +kernel
theorem dM_order_187 : decode prog_13_method_22_code 187 = .ok (.aload_n 0, 1) := by decide +kernel
theorem dM_order_188 : decode prog_13_method_22_code 188 = .ok (.aload_n 2, 1) := by decide +kernel
theorem dM_order_189 : decode prog_13_method_22_code 189 = .ok (.iload_n 3, 1) := by decide +kernel
theorem dM_order_190 : decode prog_13_method_22_code 190 = .ok (.invokevirtual 170, 3) := by decide +kernel
theorem dM_order_193 : decode prog_13_method_22_code 193 = .ok (.invokevirtual 176, 3) := by decide +kernel
theorem dM_order_196 : decode prog_13_method_22_code 196 = .ok (.istore 4, 2) := by decide +kernel
theorem dM_order_198 : decode prog_13_method_22_code 198 = .ok (.iload 4, 2) := by decide +kernel
theorem dM_order_200 : decode prog_13_method_22_code 200 = .ok (.ifCond .eq 6, 3) := by decide +kernel
theorem dM_order_203 : decode prog_13_method_22_code 203 = .ok (.iload 4, 2) := by decide +kernel
theorem dM_order_205 : decode prog_13_method_22_code 205 = .ok (.ireturn, 1) := by decide +kernel
theorem dM_order_206 : decode prog_13_method_22_code 206 = .ok (.iinc 3 1, 3) := by decide +kernel
theorem dM_order_209 : decode prog_13_method_22_code 209 = .ok (.goto (-45), 3) := by decide +kernel
theorem dM_order_212 : decode prog_13_method_22_code 212 = .ok (.aload_n 1, 1) := by decide +kernel
theorem dM_order_213 : decode prog_13_method_22_code 213 = .ok (.getfield 103, 3) := by decide +kernel
theorem dM_order_216 : decode prog_13_method_22_code 216 = .ok (.aload_n 2, 1) := by decide +kernel
theorem dM_order_217 : decode prog_13_method_22_code 217 = .ok (.getfield 103, 3) := by decide +kernel
theorem dM_order_220 : decode prog_13_method_22_code 220 = .ok (.isub, 1) := by decide +kernel
theorem dM_order_221 : decode prog_13_method_22_code 221 = .ok (.ireturn, 1) := by decide +kernel
theorem dM_order_222 : decode prog_13_method_22_code 222 = .ok (.aload_n 1, 1) := by decide +kernel
theorem dM_order_223 : decode prog_13_method_22_code 223 = .ok (.getfield 93, 3) := by decide +kernel
theorem dM_order_226 : decode prog_13_method_22_code 226 = .ok (.bipush 6, 2) := by decide +kernel
theorem dM_order_228 : decode prog_13_method_22_code 228 = .ok (.if_icmp .ne 12, 3) := by decide +kernel
theorem dM_order_231 : decode prog_13_method_22_code 231 = .ok (.aload_n 0, 1) := by decide +kernel
theorem dM_order_232 : decode prog_13_method_22_code 232 = .ok (.aload_n 1, 1) := by decide +kernel
theorem dM_order_233 : decode prog_13_method_22_code 233 = .ok (.aload_n 2, 1) := by decide +kernel
theorem dM_order_234 : decode prog_13_method_22_code 234 = .ok (.invokevirtual 179, 3) := by decide +kernel
theorem dM_order_237 : decode prog_13_method_22_code 237 = .ok (.goto 4, 3) := by decide +kernel
theorem dM_order_240 : decode prog_13_method_22_code 240 = .ok (.iconst 0, 1) := by decide +kernel
theorem dM_order_241 : decode prog_13_method_22_code 241 = .ok (.ireturn, 1) := by decide +kernel
theorem dM_out_0 : decode prog_13_method_77_code 0 = .ok (.iload_n 1, 1) := by decide +kernel
theorem dM_out_1 : decode prog_13_method_77_code 1 = .ok (.ifCond .lt 9, 3) := by decide +kernel
theorem dM_out_4 : decode prog_13_method_77_code 4 = .ok (.iload_n 1, 1) := by decide +kernel
theorem dM_out_5 : decode prog_13_method_77_code 5 = .ok (.bipush 7, 2) := by decide +kernel
theorem dM_out_7 : decode prog_13_method_77_code 7 = .ok (.if_icmp .le 7, 3) := by decide +kernel
theorem dM_out_10 : decode prog_13_method_77_code 10 = .ok (.iconst 1, 1) := by decide +kernel
theorem dM_out_11 : decode prog_13_method_77_code 11 = .ok (.goto 4, 3) := by decide +kernel
theorem dM_out_14 : decode prog_13_method_77_code 14 = .ok (.iconst 0, 1) := by decide +kernel
theorem dM_out_15 : decode prog_13_method_77_code 15 = .ok (.ireturn, 1) := by decide +kernel
theorem dM_part_0 : decode prog_13_method_54_code 0 = .ok (.aload_n 0, 1) := by decide +kernel
theorem dM_part_1 : decode prog_13_method_54_code 1 = .ok (.dup, 1) := by decide +kernel
theorem dM_part_2 : decode prog_13_method_54_code 2 = .ok (.getfield 156, 3) := by decide +kernel
theorem dM_part_5 : decode prog_13_method_54_code 5 = .ok (.iload_n 3, 1) := by decide +kernel
theorem dM_part_6 : decode prog_13_method_54_code 6 = .ok (.iload_n 2, 1) := by decide +kernel
theorem dM_part_7 : decode prog_13_method_54_code 7 = .ok (.isub, 1) := by decide +kernel
theorem dM_part_8 : decode prog_13_method_54_code 8 = .ok (.iadd, 1) := by decide +kernel
theorem dM_part_9 : decode prog_13_method_54_code 9 = .ok (.putfield 156, 3) := by decide +kernel
theorem dM_part_12 : decode prog_13_method_54_code 12 = .ok (.aload_n 0, 1) := by decide +kernel
theorem dM_part_13 : decode prog_13_method_54_code 13 = .ok (.aload_n 1, 1) := by decide +kernel
theorem dM_part_14 : decode prog_13_method_54_code 14 = .ok (.iload_n 2, 1) := by decide +kernel
theorem dM_part_15 : decode prog_13_method_54_code 15 = .ok (.iload_n 3, 1) := by decide +kernel
theorem dM_part_16 : decode prog_13_method_54_code 16 = .ok (.invokevirtual 330, 3) := by decide +kernel
theorem dM_part_19 : decode prog_13_method_54_code 19 = .ok (.areturn, 1) := by decide +kernel
theorem dM_peek_0 : decode prog_13_method_29_code 0 = .ok (.aload_n 0, 1) := by decide +kernel
theorem dM_peek_1 : decode prog_13_method_29_code 1 = .ok (.getfield 208, 3) := by decide +kernel
theorem dM_peek_4 : decode prog_13_method_29_code 4 = .ok (.aload_n 0, 1) := by decide +kernel
theorem dM_peek_5 : decode prog_13_method_29_code 5 = .ok (.getfield 211, 3) := by decide +kernel
theorem dM_peek_8 : decode prog_13_method_29_code 8 = .ok (.if_icmp .ge 19, 3) := by decide +kernel
theorem dM_peek_11 : decode prog_13_method_29_code 11 = .ok (.aload_n 0, 1) := by decide +kernel
theorem dM_peek_12 : decode prog_13_method_29_code 12 = .ok (.getfield 214, 3) := by decide +kernel
theorem dM_peek_15 : decode prog_13_method_29_code 15 = .ok (.aload_n 0, 1) := by decide +kernel
theorem dM_peek_16 : decode prog_13_method_29_code 16 = .ok (.getfield 208, 3) := by decide +kernel
theorem dM_peek_19 : decode prog_13_method_29_code 19 = .ok (.baload, 1) := by decide +kernel
theorem dM_peek_20 : decode prog_13_method_29_code 20 = .ok (.sipush 255, 3) := by decide +kernel
theorem dM_peek_23 : decode prog_13_method_29_code 23 = .ok (.iand, 1) := by decide +kernel
theorem dM_peek_24 : decode prog_13_method_29_code 24 = .ok (.goto 4, 3) := by decide +kernel
theorem dM_peek_27 : decode prog_13_method_29_code 27 = .ok (.iconst (-1), 1) := by decide +kernel
theorem dM_peek_28 : decode prog_13_method_29_code 28 = .ok (.ireturn, 1) := by decide +kernel
theorem dM_piece_0 : decode prog_13_method_13_code 0 = .ok (.aload_n 0, 1) := by decide +kernel
theorem dM_piece_1 : decode prog_13_method_13_code 1 = .ok (.iconst 4, 1) := by decide +kernel
theorem dM_piece_2 : decode prog_13_method_13_code 2 = .ok (.invokevirtual 120, 3) := by decide +kernel
theorem dM_piece_5 : decode prog_13_method_13_code 5 = .ok (.astore 4, 2) := by decide +kernel
theorem dM_piece_7 : decode prog_13_method_13_code 7 = .ok (.aload 4, 2) := by decide +kernel
theorem dM_piece_9 : decode prog_13_method_13_code 9 = .ok (.aload_n 1, 1) := by decide +kernel
theorem dM_piece_10 : decode prog_13_method_13_code 10 = .ok (.getfield 100, 3) := by decide +kernel
theorem dM_piece_13 : decode prog_13_method_13_code 13 = .ok (.iload_n 2, 1) := by decide +kernel
theorem dM_piece_14 : decode prog_13_method_13_code 14 = .ok (.iadd, 1) := by decide +kernel
theorem dM_piece_15 : decode prog_13_method_13_code 15 = .ok (.putfield 100, 3) := by decide +kernel
theorem dM_piece_18 : decode prog_13_method_13_code 18 = .ok (.aload 4, 2) := by decide +kernel
theorem dM_piece_20 : decode prog_13_method_13_code 20 = .ok (.iload_n 3, 1) := by decide +kernel
theorem dM_piece_21 : decode prog_13_method_13_code 21 = .ok (.iload_n 2, 1) := by decide +kernel
theorem dM_piece_22 : decode prog_13_method_13_code 22 = .ok (.isub, 1) := by decide +kernel
theorem dM_piece_23 : decode prog_13_method_13_code 23 = .ok (.putfield 103, 3) := by decide +kernel
theorem dM_piece_26 : decode prog_13_method_13_code 26 = .ok (.aload 4, 2) := by decide +kernel
theorem dM_piece_28 : decode prog_13_method_13_code 28 = .ok (.iconst 1, 1) := by decide +kernel
theorem dM_piece_29 : decode prog_13_method_13_code 29 = .ok (.aload 4, 2) := by decide +kernel
theorem dM_piece_31 : decode prog_13_method_13_code 31 = .ok (.getfield 103, 3) := by decide +kernel
theorem dM_piece_34 : decode prog_13_method_13_code 34 = .ok (.iadd, 1) := by decide +kernel
theorem dM_piece_35 : decode prog_13_method_13_code 35 = .ok (.putfield 109, 3) := by decide +kernel
theorem dM_piece_38 : decode prog_13_method_13_code 38 = .ok (.aload 4, 2) := by decide +kernel
theorem dM_piece_40 : decode prog_13_method_13_code 40 = .ok (.areturn, 1) := by decide +kernel
theorem dM_place_0 : decode prog_13_method_20_code 0 = .ok (.iconst 0, 1) := by decide +kernel
theorem dM_place_1 : decode prog_13_method_20_code 1 = .ok (.istore_n 3, 1) := by decide +kernel
theorem dM_place_2 : decode prog_13_method_20_code 2 = .ok (.iload_n 3, 1) := by decide +kernel
theorem dM_place_3 : decode prog_13_method_20_code 3 = .ok (.aload_n 1, 1) := by decide +kernel
theorem dM_place_4 : decode prog_13_method_20_code 4 = .ok (.getfield 103, 3) := by decide +kernel
theorem dM_place_7 : decode prog_13_method_20_code 7 = .ok (.if_icmp .ge 25, 3) := by decide +kernel
theorem dM_place_10 : decode prog_13_method_20_code 10 = .ok (.aload_n 0, 1) := by decide +kernel
theorem dM_place_11 : decode prog_13_method_20_code 11 = .ok (.aload_n 0, 1) := by decide +kernel
theorem dM_place_12 : decode prog_13_method_20_code 12 = .ok (.aload_n 1, 1) := by decide +kernel
theorem dM_place_13 : decode prog_13_method_20_code 13 = .ok (.iload_n 3, 1) := by decide +kernel
theorem dM_place_14 : decode prog_13_method_20_code 14 = .ok (.invokevirtual 159, 3) := by decide +kernel
theorem dM_place_17 : decode prog_13_method_20_code 17 = .ok (.aload_n 2, 1) := by decide +kernel
theorem dM_place_18 : decode prog_13_method_20_code 18 = .ok (.invokevirtual 163, 3) := by decide +kernel
theorem dM_place_21 : decode prog_13_method_20_code 21 = .ok (.ifCond .eq 5, 3) := by decide +kernel
theorem dM_place_24 : decode prog_13_method_20_code 24 = .ok (.iload_n 3, 1) := by decide +kernel
theorem dM_place_25 : decode prog_13_method_20_code 25 = .ok (.ireturn, 1) := by decide +kernel
theorem dM_place_26 : decode prog_13_method_20_code 26 = .ok (.iinc 3 1, 3) := by decide +kernel
theorem dM_place_29 : decode prog_13_method_20_code 29 = .ok (.goto (-27), 3) := by decide +kernel
theorem dM_place_32 : decode prog_13_method_20_code 32 = .ok (.iconst (-1), 1) := by decide +kernel
theorem dM_place_33 : decode prog_13_method_20_code 33 = .ok (.ireturn, 1) := by decide +kernel
theorem dM_print0_0 : decode prog_13_method_85_code 0 = .ok (.aload_n 0, 1) := by decide +kernel
theorem dM_print0_1 : decode prog_13_method_85_code 1 = .ok (.invokevirtual 424, 3) := by decide +kernel
theorem dM_print0_4 : decode prog_13_method_85_code 4 = .ok (.aload_n 0, 1) := by decide +kernel
theorem dM_print0_5 : decode prog_13_method_85_code 5 = .ok (.iload_n 1, 1) := by decide +kernel
theorem dM_print0_6 : decode prog_13_method_85_code 6 = .ok (.invokevirtual 427, 3) := by decide +kernel
theorem dM_print0_9 : decode prog_13_method_85_code 9 = .ok (.ifCond .eq 9, 3) := by decide +kernel
theorem dM_print0_12 : decode prog_13_method_85_code 12 = .ok (.aload_n 0, 1) := by decide +kernel
theorem dM_print0_13 : decode prog_13_method_85_code 13 = .ok (.iconst 1, 1) := by decide +kernel
theorem dM_print0_14 : decode prog_13_method_85_code 14 = .ok (.invokevirtual 418, 3) := by decide +kernel
theorem dM_print0_17 : decode prog_13_method_85_code 17 = .ok (.ireturn, 1) := by decide +kernel
theorem dM_print0_18 : decode prog_13_method_85_code 18 = .ok (.aload_n 0, 1) := by decide +kernel
theorem dM_print0_19 : decode prog_13_method_85_code 19 = .ok (.aload_n 0, 1) := by decide +kernel
theorem dM_print0_20 : decode prog_13_method_85_code 20 = .ok (.getfield 57, 3) := by decide +kernel
theorem dM_print0_23 : decode prog_13_method_85_code 23 = .ok (.iload_n 1, 1) := by decide +kernel
theorem dM_print0_24 : decode prog_13_method_85_code 24 = .ok (.iaload, 1) := by decide +kernel
theorem dM_print0_25 : decode prog_13_method_85_code 25 = .ok (.putfield 434, 3) := by decide +kernel
theorem dM_print0_28 : decode prog_13_method_85_code 28 = .ok (.iconst 0, 1) := by decide +kernel
theorem dM_print0_29 : decode prog_13_method_85_code 29 = .ok (.istore_n 2, 1) := by decide +kernel
theorem dM_print0_30 : decode prog_13_method_85_code 30 = .ok (.iload_n 2, 1) := by decide +kernel
theorem dM_print0_31 : decode prog_13_method_85_code 31 = .ok (.aload_n 0, 1) := by decide +kernel
theorem dM_print0_32 : decode prog_13_method_85_code 32 = .ok (.getfield 434, 3) := by decide +kernel
theorem dM_print0_35 : decode prog_13_method_85_code 35 = .ok (.if_icmp .ge 23, 3) := by decide +kernel
theorem dM_print0_38 : decode prog_13_method_85_code 38 = .ok (.aload_n 0, 1) := by decide +kernel
theorem dM_print0_39 : decode prog_13_method_85_code 39 = .ok (.getfield 63, 3) := by decide +kernel
theorem dM_print0_42 : decode prog_13_method_85_code 42 = .ok (.iload_n 2, 1) := by decide +kernel
theorem dM_print0_43 : decode prog_13_method_85_code 43 = .ok (.aload_n 0, 1) := by decide +kernel
theorem dM_print0_44 : decode prog_13_method_85_code 44 = .ok (.getfield 54, 3) := by decide +kernel
theorem dM_print0_47 : decode prog_13_method_85_code 47 = .ok (.iload_n 1, 1) := by decide +kernel
theorem dM_print0_48 : decode prog_13_method_85_code 48 = .ok (.aaload, 1) := by decide +kernel
theorem dM_print0_49 : decode prog_13_method_85_code 49 = .ok (.iload_n 2, 1) := by decide +kernel
theorem dM_print0_50 : decode prog_13_method_85_code 50 = .ok (.baload, 1) := by decide +kernel
theorem dM_print0_51 : decode prog_13_method_85_code 51 = .ok (.bastore, 1) := by decide +kernel
theorem dM_print0_52 : decode prog_13_method_85_code 52 = .ok (.iinc 2 1, 3) := by decide +kernel
theorem dM_print0_55 : decode prog_13_method_85_code 55 = .ok (.goto (-25), 3) := by decide +kernel
theorem dM_print0_58 : decode prog_13_method_85_code 58 = .ok (.aload_n 0, 1) := by decide +kernel
theorem dM_print0_59 : decode prog_13_method_85_code 59 = .ok (.getfield 434, 3) := by decide +kernel
theorem dM_print0_62 : decode prog_13_method_85_code 62 = .ok (.ireturn, 1) := by decide +kernel
theorem dM_print1_0 : decode prog_13_method_46_code 0 = .ok (.aload_n 1, 1) := by decide +kernel
theorem dM_print1_1 : decode prog_13_method_46_code 1 = .ok (.getfield 93, 3) := by decide +kernel
theorem dM_print1_4 : decode prog_13_method_46_code 4 = .ok (.tableswitch 72 0 4 #[36, 43, 50, 57, 66], 36) := by decide +kernel
theorem dM_print1_40 : decode prog_13_method_46_code 40 = .ok (.aload_n 0, 1) := by decide +kernel
theorem dM_print1_41 : decode prog_13_method_46_code 41 = .ok (.ldc 69, 2) := by decide +kernel
theorem dM_print1_43 : decode prog_13_method_46_code 43 = .ok (.invokevirtual 286, 3) := by decide +kernel
theorem dM_print1_46 : decode prog_13_method_46_code 46 = .ok (.return_, 1) := by decide +kernel
theorem dM_print1_47 : decode prog_13_method_46_code 47 = .ok (.aload_n 0, 1) := by decide +kernel
theorem dM_print1_48 : decode prog_13_method_46_code 48 = .ok (.ldc 238, 2) := by decide +kernel
theorem dM_print1_50 : decode prog_13_method_46_code 50 = .ok (.invokevirtual 286, 3) := by decide +kernel
theorem dM_print1_53 : decode prog_13_method_46_code 53 = .ok (.return_, 1) := by decide +kernel
theorem dM_print1_54 : decode prog_13_method_46_code 54 = .ok (.aload_n 0, 1) := by decide +kernel
theorem dM_print1_55 : decode prog_13_method_46_code 55 = .ok (.ldc 236, 2) := by decide +kernel
theorem dM_print1_57 : decode prog_13_method_46_code 57 = .ok (.invokevirtual 286, 3) := by decide +kernel
theorem dM_print1_60 : decode prog_13_method_46_code 60 = .ok (.return_, 1) := by decide +kernel
theorem dM_print1_61 : decode prog_13_method_46_code 61 = .ok (.aload_n 0, 1) := by decide +kernel
theorem dM_print1_62 : decode prog_13_method_46_code 62 = .ok (.aload_n 1, 1) := by decide +kernel
theorem dM_print1_63 : decode prog_13_method_46_code 63 = .ok (.getfield 96, 3) := by decide +kernel
theorem dM_print1_66 : decode prog_13_method_46_code 66 = .ok (.invokevirtual 292, 3) := by decide +kernel
theorem dM_print1_69 : decode prog_13_method_46_code 69 = .ok (.return_, 1) := by decide +kernel
theorem dM_print1_70 : decode prog_13_method_46_code 70 = .ok (.aload_n 0, 1) := by decide +kernel
theorem dM_print1_71 : decode prog_13_method_46_code 71 = .ok (.aload_n 1, 1) := by decide +kernel
theorem dM_print1_72 : decode prog_13_method_46_code 72 = .ok (.invokevirtual 296, 3) := by decide +kernel
theorem dM_print1_75 : decode prog_13_method_46_code 75 = .ok (.return_, 1) := by decide +kernel
theorem dM_print1_76 : decode prog_13_method_46_code 76 = .ok (.aload_n 0, 1) := by decide +kernel
theorem dM_print1_77 : decode prog_13_method_46_code 77 = .ok (.aload_n 1, 1) := by decide +kernel
theorem dM_print1_78 : decode prog_13_method_46_code 78 = .ok (.getfield 93, 3) := by decide +kernel
theorem dM_print1_81 : decode prog_13_method_46_code 81 = .ok (.iconst 5, 1) := by decide +kernel
theorem dM_print1_82 : decode prog_13_method_46_code 82 = .ok (.if_icmp .ne 8, 3) := by decide +kernel
theorem dM_print1_85 : decode prog_13_method_46_code 85 = .ok (.bipush 91, 2) := by decide +kernel
theorem dM_print1_87 : decode prog_13_method_46_code 87 = .ok (.goto 5, 3) := by decide +kernel
theorem dM_print1_90 : decode prog_13_method_46_code 90 = .ok (.bipush 123, 2) := by decide +kernel
theorem dM_print1_92 : decode prog_13_method_46_code 92 = .ok (.invokevirtual 279, 3) := by decide +kernel
theorem dM_print1_95 : decode prog_13_method_46_code 95 = .ok (.iconst 0, 1) := by decide +kernel
theorem dM_print1_96 : decode prog_13_method_46_code 96 = .ok (.istore_n 2, 1) := by decide +kernel
theorem dM_print1_97 : decode prog_13_method_46_code 97 = .ok (.iload_n 2, 1) := by decide +kernel
theorem dM_print1_98 : decode prog_13_method_46_code 98 = .ok (.aload_n 1, 1) := by decide +kernel
theorem dM_print1_99 : decode prog_13_method_46_code 99 = .ok (.getfield 103, 3) := by decide +kernel
theorem dM_print1_102 : decode prog_13_method_46_code 102 = .ok (.if_icmp .ge 54, 3) := by decide +kernel
theorem dM_print1_105 : decode prog_13_method_46_code 105 = .ok (.iload_n 2, 1) := by decide +kernel
theorem dM_print1_106 : decode prog_13_method_46_code 106 = .ok (.ifCond .le 9, 3) := by decide +kernel
theorem dM_print1_109 : decode prog_13_method_46_code 109 = .ok (.aload_n 0, 1) := by decide +kernel
theorem dM_print1_110 : decode prog_13_method_46_code 110 = .ok (.bipush 44, 2) := by decide +kernel
theorem dM_print1_112 : decode prog_13_method_46_code 112 = .ok (.invokevirtual 279, 3) := by decide +kernel
theorem dM_print1_115 : decode prog_13_method_46_code 115 = .ok (.aload_n 1, 1) := by decide +kernel
theorem dM_print1_116 : decode prog_13_method_46_code 116 = .ok (.getfield 93, 3) := by decide +kernel
theorem dM_print1_119 : decode prog_13_method_46_code 119 = .ok (.bipush 6, 2) := by decide +kernel
theorem dM_print1_121 : decode prog_13_method_46_code 121 = .ok (.if_icmp .ne 19, 3) := by decide +kernel
theorem dM_print1_124 : decode prog_13_method_46_code 124 = .ok (.aload_n 0, 1) := by decide +kernel
theorem dM_print1_125 : decode prog_13_method_46_code 125 = .ok (.aload_n 0, 1) := by decide +kernel
theorem dM_print1_126 : decode prog_13_method_46_code 126 = .ok (.aload_n 1, 1) := by decide +kernel
theorem dM_print1_127 : decode prog_13_method_46_code 127 = .ok (.iload_n 2, 1) := by decide +kernel
theorem dM_print1_128 : decode prog_13_method_46_code 128 = .ok (.invokevirtual 159, 3) := by decide +kernel
theorem dM_print1_131 : decode prog_13_method_46_code 131 = .ok (.invokevirtual 296, 3) := by decide +kernel
theorem dM_print1_134 : decode prog_13_method_46_code 134 = .ok (.aload_n 0, 1) := by decide +kernel
theorem dM_print1_135 : decode prog_13_method_46_code 135 = .ok (.bipush 58, 2) := by decide +kernel
theorem dM_print1_137 : decode prog_13_method_46_code 137 = .ok (.invokevirtual 279, 3) := by decide +kernel
theorem dM_print1_140 : decode prog_13_method_46_code 140 = .ok (.aload_n 0, 1) := by decide +kernel
theorem dM_print1_141 : decode prog_13_method_46_code 141 = .ok (.aload_n 0, 1) := by decide +kernel
theorem dM_print1_142 : decode prog_13_method_46_code 142 = .ok (.aload_n 1, 1) := by decide +kernel
theorem dM_print1_143 : decode prog_13_method_46_code 143 = .ok (.iload_n 2, 1) := by decide +kernel
theorem dM_print1_144 : decode prog_13_method_46_code 144 = .ok (.invokevirtual 170, 3) := by decide +kernel
theorem dM_print1_147 : decode prog_13_method_46_code 147 = .ok (.invokevirtual 299, 3) := by decide +kernel
theorem dM_print1_150 : decode prog_13_method_46_code 150 = .ok (.iinc 2 1, 3) := by decide +kernel
theorem dM_print1_153 : decode prog_13_method_46_code 153 = .ok (.goto (-56), 3) := by decide +kernel
theorem dM_print1_156 : decode prog_13_method_46_code 156 = .ok (.aload_n 0, 1) := by decide +kernel
theorem dM_print1_157 : decode prog_13_method_46_code 157 = .ok (.aload_n 1, 1) := by decide +kernel
theorem dM_print1_158 : decode prog_13_method_46_code 158 = .ok (.getfield 93, 3) := by decide +kernel
theorem dM_print1_161 : decode prog_13_method_46_code 161 = .ok (.iconst 5, 1) := by decide +kernel
theorem dM_print1_162 : decode prog_13_method_46_code 162 = .ok (.if_icmp .ne 8, 3) := by decide +kernel
theorem dM_print1_165 : decode prog_13_method_46_code 165 = .ok (.bipush 93, 2) := by decide +kernel
theorem dM_print1_167 : decode prog_13_method_46_code 167 = .ok (.goto 5, 3) := by decide +kernel
theorem dM_print1_170 : decode prog_13_method_46_code 170 = .ok (.bipush 125, 2) := by decide +kernel
theorem dM_print1_172 : decode prog_13_method_46_code 172 = .ok (.invokevirtual 279, 3) := by decide +kernel
theorem dM_print1_175 : decode prog_13_method_46_code 175 = .ok (.return_, 1) := by decide +kernel
theorem dM_put0_0 : decode prog_13_method_41_code 0 = .ok (.aload_n 0, 1) := by decide +kernel
theorem dM_put0_1 : decode prog_13_method_41_code 1 = .ok (.getfield 276, 3) := by decide +kernel
theorem dM_put0_4 : decode prog_13_method_41_code 4 = .ok (.aload_n 0, 1) := by decide +kernel
theorem dM_put0_5 : decode prog_13_method_41_code 5 = .ok (.getfield 49, 3) := by decide +kernel
theorem dM_put0_8 : decode prog_13_method_41_code 8 = .ok (.if_icmp .ne 11, 3) := by decide +kernel
theorem dM_put0_11 : decode prog_13_method_41_code 11 = .ok (.new 86, 3) := by decide +kernel
theorem dM_put0_14 : decode prog_13_method_41_code 14 = .ok (.dup, 1) := by decide +kernel
theorem dM_put0_15 : decode prog_13_method_41_code 15 = .ok (.invokespecial 88, 3) := by decide +kernel
theorem dM_put0_18 : decode prog_13_method_41_code 18 = .ok (.athrow, 1) := by decide +kernel
theorem dM_put0_19 : decode prog_13_method_41_code 19 = .ok (.aload_n 0, 1) := by decide +kernel
theorem dM_put0_20 : decode prog_13_method_41_code 20 = .ok (.getfield 276, 3) := by decide +kernel
theorem dM_put0_23 : decode prog_13_method_41_code 23 = .ok (.aload_n 0, 1) := by decide +kernel
theorem dM_put0_24 : decode prog_13_method_41_code 24 = .ok (.getfield 45, 3) := by decide +kernel
theorem dM_put0_27 : decode prog_13_method_41_code 27 = .ok (.arraylength, 1) := by decide +kernel
theorem dM_put0_28 : decode prog_13_method_41_code 28 = .ok (.if_icmp .ne 42, 3) := by decide +kernel
theorem dM_put0_31 : decode prog_13_method_41_code 31 = .ok (.iconst 2, 1) := by decide +kernel
theorem dM_put0_32 : decode prog_13_method_41_code 32 = .ok (.aload_n 0, 1) := by decide +kernel
theorem dM_put0_33 : decode prog_13_method_41_code 33 = .ok (.getfield 276, 3) := by decide +kernel
theorem dM_put0_36 : decode prog_13_method_41_code 36 = .ok (.imul, 1) := by decide +kernel
theorem dM_put0_37 : decode prog_13_method_41_code 37 = .ok (.newarray .byte, 2) := by decide +kernel
theorem dM_put0_39 : decode prog_13_method_41_code 39 = .ok (.astore_n 2, 1) := by decide +kernel
theorem dM_put0_40 : decode prog_13_method_41_code 40 = .ok (.iconst 0, 1) := by decide +kernel
theorem dM_put0_41 : decode prog_13_method_41_code 41 = .ok (.istore_n 3, 1) := by decide +kernel
theorem dM_put0_42 : decode prog_13_method_41_code 42 = .ok (.iload_n 3, 1) := by decide +kernel
theorem dM_put0_43 : decode prog_13_method_41_code 43 = .ok (.aload_n 0, 1) := by decide +kernel
theorem dM_put0_44 : decode prog_13_method_41_code 44 = .ok (.getfield 276, 3) := by decide +kernel
theorem dM_put0_47 : decode prog_13_method_41_code 47 = .ok (.if_icmp .ge 18, 3) := by decide +kernel
theorem dM_put0_50 : decode prog_13_method_41_code 50 = .ok (.aload_n 2, 1) := by decide +kernel
theorem dM_put0_51 : decode prog_13_method_41_code 51 = .ok (.iload_n 3, 1) := by decide +kernel
theorem dM_put0_52 : decode prog_13_method_41_code 52 = .ok (.aload_n 0, 1) := by decide +kernel
theorem dM_put0_53 : decode prog_13_method_41_code 53 = .ok (.getfield 45, 3) := by decide +kernel
theorem dM_put0_56 : decode prog_13_method_41_code 56 = .ok (.iload_n 3, 1) := by decide +kernel
theorem dM_put0_57 : decode prog_13_method_41_code 57 = .ok (.baload, 1) := by decide +kernel
theorem dM_put0_58 : decode prog_13_method_41_code 58 = .ok (.bastore, 1) := by decide +kernel
theorem dM_put0_59 : decode prog_13_method_41_code 59 = .ok (.iinc 3 1, 3) := by decide +kernel
theorem dM_put0_62 : decode prog_13_method_41_code 62 = .ok (.goto (-20), 3) := by decide +kernel
theorem dM_put0_65 : decode prog_13_method_41_code 65 = .ok (.aload_n 0, 1) := by decide +kernel
theorem dM_put0_66 : decode prog_13_method_41_code 66 = .ok (.aload_n 2, 1) := by decide +kernel
theorem dM_put0_67 : decode prog_13_method_41_code 67 = .ok (.putfield 45, 3) := by decide +kernel
theorem dM_put0_70 : decode prog_13_method_41_code 70 = .ok (.aload_n 0, 1) := by decide +kernel
theorem dM_put0_71 : decode prog_13_method_41_code 71 = .ok (.getfield 45, 3) := by decide +kernel
theorem dM_put0_74 : decode prog_13_method_41_code 74 = .ok (.aload_n 0, 1) := by decide +kernel
theorem dM_put0_75 : decode prog_13_method_41_code 75 = .ok (.getfield 276, 3) := by decide +kernel
theorem dM_put0_78 : decode prog_13_method_41_code 78 = .ok (.iload_n 1, 1) := by decide +kernel
theorem dM_put0_79 : decode prog_13_method_41_code 79 = .ok (.i2b, 1) := by decide +kernel
theorem dM_put0_80 : decode prog_13_method_41_code 80 = .ok (.bastore, 1) := by decide +kernel
theorem dM_put0_81 : decode prog_13_method_41_code 81 = .ok (.aload_n 0, 1) := by decide +kernel
theorem dM_put0_82 : decode prog_13_method_41_code 82 = .ok (.dup, 1) := by decide +kernel
theorem dM_put0_83 : decode prog_13_method_41_code 83 = .ok (.getfield 276, 3) := by decide +kernel
theorem dM_put0_86 : decode prog_13_method_41_code 86 = .ok (.iconst 1, 1) := by decide +kernel
theorem dM_put0_87 : decode prog_13_method_41_code 87 = .ok (.iadd, 1) := by decide +kernel
theorem dM_put0_88 : decode prog_13_method_41_code 88 = .ok (.putfield 276, 3) := by decide +kernel
theorem dM_put0_91 : decode prog_13_method_41_code 91 = .ok (.return_, 1) := by decide +kernel
theorem dM_put1_0 : decode prog_13_method_42_code 0 = .ok (.iconst 0, 1) := by decide +kernel
theorem dM_put1_1 : decode prog_13_method_42_code 1 = .ok (.istore_n 2, 1) := by decide +kernel
theorem dM_put1_2 : decode prog_13_method_42_code 2 = .ok (.iload_n 2, 1) := by decide +kernel
theorem dM_put1_3 : decode prog_13_method_42_code 3 = .ok (.aload_n 1, 1) := by decide +kernel
theorem dM_put1_4 : decode prog_13_method_42_code 4 = .ok (.invokevirtual 131, 3) := by decide +kernel
theorem dM_put1_7 : decode prog_13_method_42_code 7 = .ok (.if_icmp .ge 18, 3) := by decide +kernel
theorem dM_put1_10 : decode prog_13_method_42_code 10 = .ok (.aload_n 0, 1) := by decide +kernel
theorem dM_put1_11 : decode prog_13_method_42_code 11 = .ok (.aload_n 1, 1) := by decide +kernel
theorem dM_put1_12 : decode prog_13_method_42_code 12 = .ok (.iload_n 2, 1) := by decide +kernel
theorem dM_put1_13 : decode prog_13_method_42_code 13 = .ok (.invokevirtual 71, 3) := by decide +kernel
theorem dM_put1_16 : decode prog_13_method_42_code 16 = .ok (.invokevirtual 279, 3) := by decide +kernel
theorem dM_put1_19 : decode prog_13_method_42_code 19 = .ok (.iinc 2 1, 3) := by decide +kernel
theorem dM_put1_22 : decode prog_13_method_42_code 22 = .ok (.goto (-20), 3) := by decide +kernel
theorem dM_put1_25 : decode prog_13_method_42_code 25 = .ok (.return_, 1) := by decide +kernel
theorem dM_putHex_0 : decode prog_13_method_44_code 0 = .ok (.aload_n 0, 1) := by decide +kernel
theorem dM_putHex_1 : decode prog_13_method_44_code 1 = .ok (.iload_n 1, 1) := by decide +kernel
theorem dM_putHex_2 : decode prog_13_method_44_code 2 = .ok (.bipush 10, 2) := by decide +kernel
theorem dM_putHex_4 : decode prog_13_method_44_code 4 = .ok (.if_icmp .ge 10, 3) := by decide +kernel
theorem dM_putHex_7 : decode prog_13_method_44_code 7 = .ok (.bipush 48, 2) := by decide +kernel
theorem dM_putHex_9 : decode prog_13_method_44_code 9 = .ok (.iload_n 1, 1) := by decide +kernel
theorem dM_putHex_10 : decode prog_13_method_44_code 10 = .ok (.iadd, 1) := by decide +kernel
theorem dM_putHex_11 : decode prog_13_method_44_code 11 = .ok (.goto 10, 3) := by decide +kernel
theorem dM_putHex_14 : decode prog_13_method_44_code 14 = .ok (.bipush 97, 2) := by decide +kernel
theorem dM_putHex_16 : decode prog_13_method_44_code 16 = .ok (.iload_n 1, 1) := by decide +kernel
theorem dM_putHex_17 : decode prog_13_method_44_code 17 = .ok (.iadd, 1) := by decide +kernel
theorem dM_putHex_18 : decode prog_13_method_44_code 18 = .ok (.bipush 10, 2) := by decide +kernel
theorem dM_putHex_20 : decode prog_13_method_44_code 20 = .ok (.isub, 1) := by decide +kernel
theorem dM_putHex_21 : decode prog_13_method_44_code 21 = .ok (.invokevirtual 279, 3) := by decide +kernel
theorem dM_putHex_24 : decode prog_13_method_44_code 24 = .ok (.return_, 1) := by decide +kernel
theorem dM_putNumber_0 : decode prog_13_method_43_code 0 = .ok (.lload_n 1, 1) := by decide +kernel
theorem dM_putNumber_1 : decode prog_13_method_43_code 1 = .ok (.lconst 0, 1) := by decide +kernel
theorem dM_putNumber_2 : decode prog_13_method_43_code 2 = .ok (.lcmp, 1) := by decide +kernel
theorem dM_putNumber_3 : decode prog_13_method_43_code 3 = .ok (.ifCond .ge 9, 3) := by decide +kernel
theorem dM_putNumber_6 : decode prog_13_method_43_code 6 = .ok (.aload_n 0, 1) := by decide +kernel
theorem dM_putNumber_7 : decode prog_13_method_43_code 7 = .ok (.bipush 45, 2) := by decide +kernel
theorem dM_putNumber_9 : decode prog_13_method_43_code 9 = .ok (.invokevirtual 279, 3) := by decide +kernel
theorem dM_putNumber_12 : decode prog_13_method_43_code 12 = .ok (.lload_n 1, 1) := by decide +kernel
theorem dM_putNumber_13 : decode prog_13_method_43_code 13 = .ok (.lconst 0, 1) := by decide +kernel
theorem dM_putNumber_14 : decode prog_13_method_43_code 14 = .ok (.lcmp, 1) := by decide +kernel
theorem dM_putNumber_15 : decode prog_13_method_43_code 15 = .ok (.ifCond .ge 8, 3) := by decide +kernel
theorem dM_putNumber_18 : decode prog_13_method_43_code 18 = .ok (.lload_n 1, 1) := by decide +kernel
theorem dM_putNumber_19 : decode prog_13_method_43_code 19 = .ok (.lneg, 1) := by decide +kernel
theorem dM_putNumber_20 : decode prog_13_method_43_code 20 = .ok (.goto 4, 3) := by decide +kernel
theorem dM_putNumber_23 : decode prog_13_method_43_code 23 = .ok (.lload_n 1, 1) := by decide +kernel
theorem dM_putNumber_24 : decode prog_13_method_43_code 24 = .ok (.lstore_n 3, 1) := by decide +kernel
theorem dM_putNumber_25 : decode prog_13_method_43_code 25 = .ok (.lconst 1, 1) := by decide +kernel
theorem dM_putNumber_26 : decode prog_13_method_43_code 26 = .ok (.lstore 5, 2) := by decide +kernel
theorem dM_putNumber_28 : decode prog_13_method_43_code 28 = .ok (.lload_n 3, 1) := by decide +kernel
theorem dM_putNumber_29 : decode prog_13_method_43_code 29 = .ok (.lload 5, 2) := by decide +kernel
theorem dM_putNumber_31 : decode prog_13_method_43_code 31 = .ok (.ldiv, 1) := by decide +kernel
theorem dM_putNumber_32 : decode prog_13_method_43_code 32 = .ok (.ldc2_w 282, 3) := by decide +kernel
theorem dM_putNumber_35 : decode prog_13_method_43_code 35 = .ok (.lcmp, 1) := by decide +kernel
theorem dM_putNumber_36 : decode prog_13_method_43_code 36 = .ok (.ifCond .le 14, 3) := by decide +kernel
theorem dM_putNumber_39 : decode prog_13_method_43_code 39 = .ok (.lload 5, 2) := by decide +kernel
theorem dM_putNumber_41 : decode prog_13_method_43_code 41 = .ok (.ldc2_w 256, 3) := by decide +kernel
theorem dM_putNumber_44 : decode prog_13_method_43_code 44 = .ok (.lmul, 1) := by decide +kernel
theorem dM_putNumber_45 : decode prog_13_method_43_code 45 = .ok (.lstore 5, 2) := by decide +kernel
theorem dM_putNumber_47 : decode prog_13_method_43_code 47 = .ok (.goto (-19), 3) := by decide +kernel
theorem dM_putNumber_50 : decode prog_13_method_43_code 50 = .ok (.lload 5, 2) := by decide +kernel
theorem dM_putNumber_52 : decode prog_13_method_43_code 52 = .ok (.lconst 0, 1) := by decide +kernel
theorem dM_putNumber_53 : decode prog_13_method_43_code 53 = .ok (.lcmp, 1) := by decide +kernel
theorem dM_putNumber_54 : decode prog_13_method_43_code 54 = .ok (.ifCond .le 31, 3) := by decide +kernel
theorem dM_putNumber_57 : decode prog_13_method_43_code 57 = .ok (.aload_n 0, 1) := by decide +kernel
theorem dM_putNumber_58 : decode prog_13_method_43_code 58 = .ok (.ldc2_w 258, 3) := by decide +kernel
theorem dM_putNumber_61 : decode prog_13_method_43_code 61 = .ok (.lload_n 3, 1) := by decide +kernel
theorem dM_putNumber_62 : decode prog_13_method_43_code 62 = .ok (.lload 5, 2) := by decide +kernel
theorem dM_putNumber_64 : decode prog_13_method_43_code 64 = .ok (.ldiv, 1) := by decide +kernel
theorem dM_putNumber_65 : decode prog_13_method_43_code 65 = .ok (.ldc2_w 256, 3) := by decide +kernel
theorem dM_putNumber_68 : decode prog_13_method_43_code 68 = .ok (.lrem, 1) := by decide +kernel
theorem dM_putNumber_69 : decode prog_13_method_43_code 69 = .ok (.ladd, 1) := by decide +kernel
theorem dM_putNumber_70 : decode prog_13_method_43_code 70 = .ok (.l2i, 1) := by decide +kernel
theorem dM_putNumber_71 : decode prog_13_method_43_code 71 = .ok (.invokevirtual 279, 3) := by decide +kernel
theorem dM_putNumber_74 : decode prog_13_method_43_code 74 = .ok (.lload 5, 2) := by decide +kernel
theorem dM_putNumber_76 : decode prog_13_method_43_code 76 = .ok (.ldc2_w 256, 3) := by decide +kernel
theorem dM_putNumber_79 : decode prog_13_method_43_code 79 = .ok (.ldiv, 1) := by decide +kernel
theorem dM_putNumber_80 : decode prog_13_method_43_code 80 = .ok (.lstore 5, 2) := by decide +kernel
theorem dM_putNumber_82 : decode prog_13_method_43_code 82 = .ok (.goto (-32), 3) := by decide +kernel
theorem dM_putNumber_85 : decode prog_13_method_43_code 85 = .ok (.return_, 1) := by decide +kernel
theorem dM_putString_0 : decode prog_13_method_45_code 0 = .ok (.aload_n 0, 1) := by decide +kernel
theorem dM_putString_1 : decode prog_13_method_45_code 1 = .ok (.bipush 34, 2) := by decide +kernel
theorem dM_putString_3 : decode prog_13_method_45_code 3 = .ok (.invokevirtual 279, 3) := by decide +kernel
theorem dM_putString_6 : decode prog_13_method_45_code 6 = .ok (.iconst 0, 1) := by decide +kernel
theorem dM_putString_7 : decode prog_13_method_45_code 7 = .ok (.istore_n 2, 1) := by decide +kernel
theorem dM_putString_8 : decode prog_13_method_45_code 8 = .ok (.iload_n 2, 1) := by decide +kernel
theorem dM_putString_9 : decode prog_13_method_45_code 9 = .ok (.aload_n 1, 1) := by decide +kernel
theorem dM_putString_10 : decode prog_13_method_45_code 10 = .ok (.getfield 103, 3) := by decide +kernel
theorem dM_putString_13 : decode prog_13_method_45_code 13 = .ok (.if_icmp .ge 170, 3) := by decide +kernel
theorem dM_putString_16 : decode prog_13_method_45_code 16 = .ok (.aload_n 0, 1) := by decide +kernel
theorem dM_putString_17 : decode prog_13_method_45_code 17 = .ok (.getfield 15, 3) := by decide +kernel
theorem dM_putString_20 : decode prog_13_method_45_code 20 = .ok (.aload_n 1, 1) := by decide +kernel
theorem dM_putString_21 : decode prog_13_method_45_code 21 = .ok (.getfield 100, 3) := by decide +kernel
theorem dM_putString_24 : decode prog_13_method_45_code 24 = .ok (.iload_n 2, 1) := by decide +kernel
theorem dM_putString_25 : decode prog_13_method_45_code 25 = .ok (.iadd, 1) := by decide +kernel
theorem dM_putString_26 : decode prog_13_method_45_code 26 = .ok (.baload, 1) := by decide +kernel
theorem dM_putString_27 : decode prog_13_method_45_code 27 = .ok (.istore_n 3, 1) := by decide +kernel
theorem dM_putString_28 : decode prog_13_method_45_code 28 = .ok (.iload_n 3, 1) := by decide +kernel
theorem dM_putString_29 : decode prog_13_method_45_code 29 = .ok (.bipush 34, 2) := by decide +kernel
theorem dM_putString_31 : decode prog_13_method_45_code 31 = .ok (.if_icmp .eq 9, 3) := by decide +kernel
theorem dM_putString_34 : decode prog_13_method_45_code 34 = .ok (.iload_n 3, 1) := by decide +kernel
theorem dM_putString_35 : decode prog_13_method_45_code 35 = .ok (.bipush 92, 2) := by decide +kernel
theorem dM_putString_37 : decode prog_13_method_45_code 37 = .ok (.if_icmp .ne 17, 3) := by decide +kernel
theorem dM_putString_40 : decode prog_13_method_45_code 40 = .ok (.aload_n 0, 1) := by decide +kernel
theorem dM_putString_41 : decode prog_13_method_45_code 41 = .ok (.bipush 92, 2) := by decide +kernel
theorem dM_putString_43 : decode prog_13_method_45_code 43 = .ok (.invokevirtual 279, 3) := by decide +kernel
theorem dM_putString_46 : decode prog_13_method_45_code 46 = .ok (.aload_n 0, 1) := by decide +kernel
theorem dM_putString_47 : decode prog_13_method_45_code 47 = .ok (.iload_n 3, 1) := by decide +kernel
theorem dM_putString_48 : decode prog_13_method_45_code 48 = .ok (.invokevirtual 279, 3) := by decide +kernel
theorem dM_putString_51 : decode prog_13_method_45_code 51 = .ok (.goto 126, 3) := by decide +kernel
theorem dM_putString_54 : decode prog_13_method_45_code 54 = .ok (.iload_n 3, 1) := by decide +kernel
theorem dM_putString_55 : decode prog_13_method_45_code 55 = .ok (.bipush 32, 2) := by decide +kernel
theorem dM_putString_57 : decode prog_13_method_45_code 57 = .ok (.if_icmp .lt 17, 3) := by decide +kernel
theorem dM_putString_60 : decode prog_13_method_45_code 60 = .ok (.iload_n 3, 1) := by decide +kernel
theorem dM_putString_61 : decode prog_13_method_45_code 61 = .ok (.bipush 127, 2) := by decide +kernel
theorem dM_putString_63 : decode prog_13_method_45_code 63 = .ok (.if_icmp .ge 11, 3) := by decide +kernel
theorem dM_putString_66 : decode prog_13_method_45_code 66 = .ok (.aload_n 0, 1) := by decide +kernel
theorem dM_putString_67 : decode prog_13_method_45_code 67 = .ok (.iload_n 3, 1) := by decide +kernel
theorem dM_putString_68 : decode prog_13_method_45_code 68 = .ok (.invokevirtual 279, 3) := by decide +kernel
theorem dM_putString_71 : decode prog_13_method_45_code 71 = .ok (.goto 106, 3) := by decide +kernel
theorem dM_putString_74 : decode prog_13_method_45_code 74 = .ok (.aload_n 0, 1) := by decide +kernel
theorem dM_putString_75 : decode prog_13_method_45_code 75 = .ok (.bipush 92, 2) := by decide +kernel
theorem dM_putString_77 : decode prog_13_method_45_code 77 = .ok (.invokevirtual 279, 3) := by decide +kernel
theorem dM_putString_80 : decode prog_13_method_45_code 80 = .ok (.iload_n 3, 1) := by decide +kernel
theorem dM_putString_81 : decode prog_13_method_45_code 81 = .ok (.bipush 8, 2) := by decide +kernel
theorem dM_putString_83 : decode prog_13_method_45_code 83 = .ok (.if_icmp .ne 12, 3) := by decide +kernel
theorem dM_putString_86 : decode prog_13_method_45_code 86 = .ok (.aload_n 0, 1) := by decide +kernel
theorem dM_putString_87 : decode prog_13_method_45_code 87 = .ok (.bipush 98, 2) := by decide +kernel
theorem dM_putString_89 : decode prog_13_method_45_code 89 = .ok (.invokevirtual 279, 3) := by decide +kernel
theorem dM_putString_92 : decode prog_13_method_45_code 92 = .ok (.goto 85, 3) := by decide +kernel
theorem dM_putString_95 : decode prog_13_method_45_code 95 = .ok (.iload_n 3, 1) := by decide +kernel
theorem dM_putString_96 : decode prog_13_method_45_code 96 = .ok (.bipush 9, 2) := by decide +kernel
theorem dM_putString_98 : decode prog_13_method_45_code 98 = .ok (.if_icmp .ne 12, 3) := by decide +kernel
theorem dM_putString_101 : decode prog_13_method_45_code 101 = .ok (.aload_n 0, 1) := by decide +kernel
theorem dM_putString_102 : decode prog_13_method_45_code 102 = .ok (.bipush 116, 2) := by decide +kernel
theorem dM_putString_104 : decode prog_13_method_45_code 104 = .ok (.invokevirtual 279, 3) := by decide +kernel
theorem dM_putString_107 : decode prog_13_method_45_code 107 = .ok (.goto 70, 3) := by decide +kernel
theorem dM_putString_110 : decode prog_13_method_45_code 110 = .ok (.iload_n 3, 1) := by decide +kernel
theorem dM_putString_111 : decode prog_13_method_45_code 111 = .ok (.bipush 10, 2) := by decide +kernel
theorem dM_putString_113 : decode prog_13_method_45_code 113 = .ok (.if_icmp .ne 12, 3) := by decide +kernel
theorem dM_putString_116 : decode prog_13_method_45_code 116 = .ok (.aload_n 0, 1) := by decide +kernel
theorem dM_putString_117 : decode prog_13_method_45_code 117 = .ok (.bipush 110, 2) := by decide +kernel
theorem dM_putString_119 : decode prog_13_method_45_code 119 = .ok (.invokevirtual 279, 3) := by decide +kernel
theorem dM_putString_122 : decode prog_13_method_45_code 122 = .ok (.goto 55, 3) := by decide +kernel
theorem dM_putString_125 : decode prog_13_method_45_code 125 = .ok (.iload_n 3, 1) := by decide +kernel
theorem dM_putString_126 : decode prog_13_method_45_code 126 = .ok (.bipush 12, 2) := by decide +kernel
theorem dM_putString_128 : decode prog_13_method_45_code 128 = .ok (.if_icmp .ne 12, 3) := by decide +kernel
theorem dM_putString_131 : decode prog_13_method_45_code 131 = .ok (.aload_n 0, 1) := by decide +kernel
theorem dM_putString_132 : decode prog_13_method_45_code 132 = .ok (.bipush 102, 2) := by decide +kernel
theorem dM_putString_134 : decode prog_13_method_45_code 134 = .ok (.invokevirtual 279, 3) := by decide +kernel
theorem dM_putString_137 : decode prog_13_method_45_code 137 = .ok (.goto 40, 3) := by decide +kernel
theorem dM_putString_140 : decode prog_13_method_45_code 140 = .ok (.iload_n 3, 1) := by decide +kernel
theorem dM_putString_141 : decode prog_13_method_45_code 141 = .ok (.bipush 13, 2) := by decide +kernel
theorem dM_putString_143 : decode prog_13_method_45_code 143 = .ok (.if_icmp .ne 12, 3) := by decide +kernel
theorem dM_putString_146 : decode prog_13_method_45_code 146 = .ok (.aload_n 0, 1) := by decide +kernel
theorem dM_putString_147 : decode prog_13_method_45_code 147 = .ok (.bipush 114, 2) := by decide +kernel
theorem dM_putString_149 : decode prog_13_method_45_code 149 = .ok (.invokevirtual 279, 3) := by decide +kernel
theorem dM_putString_152 : decode prog_13_method_45_code 152 = .ok (.goto 25, 3) := by decide +kernel
theorem dM_putString_155 : decode prog_13_method_45_code 155 = .ok (.aload_n 0, 1) := by decide +kernel
theorem dM_putString_156 : decode prog_13_method_45_code 156 = .ok (.ldc_w 284, 3) := by decide +kernel
theorem dM_putString_159 : decode prog_13_method_45_code 159 = .ok (.invokevirtual 286, 3) := by decide +kernel
theorem dM_putString_162 : decode prog_13_method_45_code 162 = .ok (.aload_n 0, 1) := by decide +kernel
theorem dM_putString_163 : decode prog_13_method_45_code 163 = .ok (.iload_n 3, 1) := by decide +kernel
theorem dM_putString_164 : decode prog_13_method_45_code 164 = .ok (.iconst 4, 1) := by decide +kernel
theorem dM_putString_165 : decode prog_13_method_45_code 165 = .ok (.ishr, 1) := by decide +kernel
theorem dM_putString_166 : decode prog_13_method_45_code 166 = .ok (.invokevirtual 289, 3) := by decide +kernel
theorem dM_putString_169 : decode prog_13_method_45_code 169 = .ok (.aload_n 0, 1) := by decide +kernel
theorem dM_putString_170 : decode prog_13_method_45_code 170 = .ok (.iload_n 3, 1) := by decide +kernel
theorem dM_putString_171 : decode prog_13_method_45_code 171 = .ok (.bipush 15, 2) := by decide +kernel
theorem dM_putString_173 : decode prog_13_method_45_code 173 = .ok (.iand, 1) := by decide +kernel
theorem dM_putString_174 : decode prog_13_method_45_code 174 = .ok (.invokevirtual 289, 3) := by decide +kernel
theorem dM_putString_177 : decode prog_13_method_45_code 177 = .ok (.iinc 2 1, 3) := by decide +kernel
theorem dM_putString_180 : decode prog_13_method_45_code 180 = .ok (.goto (-172), 3) := by decide +kernel
theorem dM_putString_183 : decode prog_13_method_45_code 183 = .ok (.aload_n 0, 1) := by decide +kernel
theorem dM_putString_184 : decode prog_13_method_45_code 184 = .ok (.bipush 34, 2) := by decide +kernel
theorem dM_putString_186 : decode prog_13_method_45_code 186 = .ok (.invokevirtual 279, 3) := by decide +kernel
theorem dM_putString_189 : decode prog_13_method_45_code 189 = .ok (.return_, 1) := by decide +kernel
theorem dM_ranked_0 : decode prog_13_method_26_code 0 = .ok (.aload_n 0, 1) := by decide +kernel
theorem dM_ranked_1 : decode prog_13_method_26_code 1 = .ok (.getfield 31, 3) := by decide +kernel
theorem dM_ranked_4 : decode prog_13_method_26_code 4 = .ok (.arraylength, 1) := by decide +kernel
theorem dM_ranked_5 : decode prog_13_method_26_code 5 = .ok (.aload_n 1, 1) := by decide +kernel
theorem dM_ranked_6 : decode prog_13_method_26_code 6 = .ok (.getfield 103, 3) := by decide +kernel
theorem dM_ranked_9 : decode prog_13_method_26_code 9 = .ok (.if_icmp .ge 27, 3) := by decide +kernel
theorem dM_ranked_12 : decode prog_13_method_26_code 12 = .ok (.aload_n 0, 1) := by decide +kernel
theorem dM_ranked_13 : decode prog_13_method_26_code 13 = .ok (.iconst 2, 1) := by decide +kernel
theorem dM_ranked_14 : decode prog_13_method_26_code 14 = .ok (.aload_n 1, 1) := by decide +kernel
theorem dM_ranked_15 : decode prog_13_method_26_code 15 = .ok (.getfield 103, 3) := by decide +kernel
theorem dM_ranked_18 : decode prog_13_method_26_code 18 = .ok (.imul, 1) := by decide +kernel
theorem dM_ranked_19 : decode prog_13_method_26_code 19 = .ok (.newarray .int, 2) := by decide +kernel
theorem dM_ranked_21 : decode prog_13_method_26_code 21 = .ok (.putfield 31, 3) := by decide +kernel
theorem dM_ranked_24 : decode prog_13_method_26_code 24 = .ok (.aload_n 0, 1) := by decide +kernel
theorem dM_ranked_25 : decode prog_13_method_26_code 25 = .ok (.iconst 2, 1) := by decide +kernel
theorem dM_ranked_26 : decode prog_13_method_26_code 26 = .ok (.aload_n 1, 1) := by decide +kernel
theorem dM_ranked_27 : decode prog_13_method_26_code 27 = .ok (.getfield 103, 3) := by decide +kernel
theorem dM_ranked_30 : decode prog_13_method_26_code 30 = .ok (.imul, 1) := by decide +kernel
theorem dM_ranked_31 : decode prog_13_method_26_code 31 = .ok (.newarray .int, 2) := by decide +kernel
theorem dM_ranked_33 : decode prog_13_method_26_code 33 = .ok (.putfield 35, 3) := by decide +kernel
theorem dM_ranked_36 : decode prog_13_method_26_code 36 = .ok (.aload_n 1, 1) := by decide +kernel
theorem dM_ranked_37 : decode prog_13_method_26_code 37 = .ok (.getfield 103, 3) := by decide +kernel
theorem dM_ranked_40 : decode prog_13_method_26_code 40 = .ok (.istore_n 2, 1) := by decide +kernel
theorem dM_ranked_41 : decode prog_13_method_26_code 41 = .ok (.iconst 0, 1) := by decide +kernel
theorem dM_ranked_42 : decode prog_13_method_26_code 42 = .ok (.istore_n 3, 1) := by decide +kernel
theorem dM_ranked_43 : decode prog_13_method_26_code 43 = .ok (.iload_n 3, 1) := by decide +kernel
theorem dM_ranked_44 : decode prog_13_method_26_code 44 = .ok (.iload_n 2, 1) := by decide +kernel
theorem dM_ranked_45 : decode prog_13_method_26_code 45 = .ok (.if_icmp .ge 16, 3) := by decide +kernel
theorem dM_ranked_48 : decode prog_13_method_26_code 48 = .ok (.aload_n 0, 1) := by decide +kernel
theorem dM_ranked_49 : decode prog_13_method_26_code 49 = .ok (.getfield 31, 3) := by decide +kernel
theorem dM_ranked_52 : decode prog_13_method_26_code 52 = .ok (.iload_n 3, 1) := by decide +kernel
theorem dM_ranked_53 : decode prog_13_method_26_code 53 = .ok (.iload_n 3, 1) := by decide +kernel
theorem dM_ranked_54 : decode prog_13_method_26_code 54 = .ok (.iastore, 1) := by decide +kernel
theorem dM_ranked_55 : decode prog_13_method_26_code 55 = .ok (.iinc 3 1, 3) := by decide +kernel
theorem dM_ranked_58 : decode prog_13_method_26_code 58 = .ok (.goto (-15), 3) := by decide +kernel
theorem dM_ranked_61 : decode prog_13_method_26_code 61 = .ok (.iconst 1, 1) := by decide +kernel
theorem dM_ranked_62 : decode prog_13_method_26_code 62 = .ok (.istore_n 3, 1) := by decide +kernel
theorem dM_ranked_63 : decode prog_13_method_26_code 63 = .ok (.iload_n 3, 1) := by decide +kernel
theorem dM_ranked_64 : decode prog_13_method_26_code 64 = .ok (.iload_n 2, 1) := by decide +kernel
theorem dM_ranked_65 : decode prog_13_method_26_code 65 = .ok (.if_icmp .ge 193, 3) := by decide +kernel
theorem dM_ranked_68 : decode prog_13_method_26_code 68 = .ok (.iconst 0, 1) := by decide +kernel
theorem dM_ranked_69 : decode prog_13_method_26_code 69 = .ok (.istore 4, 2) := by decide +kernel
theorem dM_ranked_71 : decode prog_13_method_26_code 71 = .ok (.iload 4, 2) := by decide +kernel
theorem dM_ranked_73 : decode prog_13_method_26_code 73 = .ok (.iload_n 2, 1) := by decide +kernel
theorem dM_ranked_74 : decode prog_13_method_26_code 74 = .ok (.if_icmp .ge 148, 3) := by decide +kernel
theorem dM_ranked_77 : decode prog_13_method_26_code 77 = .ok (.iload 4, 2) := by decide +kernel
theorem dM_ranked_79 : decode prog_13_method_26_code 79 = .ok (.istore 5, 2) := by decide +kernel
theorem dM_ranked_81 : decode prog_13_method_26_code 81 = .ok (.iload 4, 2) := by decide +kernel
theorem dM_ranked_83 : decode prog_13_method_26_code 83 = .ok (.iload_n 3, 1) := by decide +kernel
theorem dM_ranked_84 : decode prog_13_method_26_code 84 = .ok (.iadd, 1) := by decide +kernel
theorem dM_ranked_85 : decode prog_13_method_26_code 85 = .ok (.iload_n 2, 1) := by decide +kernel
theorem dM_ranked_86 : decode prog_13_method_26_code 86 = .ok (.invokestatic 198, 3) := by decide +kernel
theorem dM_ranked_89 : decode prog_13_method_26_code 89 = .ok (.istore 6, 2) := by decide +kernel
theorem dM_ranked_91 : decode prog_13_method_26_code 91 = .ok (.iload 6, 2) := by decide +kernel
theorem dM_ranked_93 : decode prog_13_method_26_code 93 = .ok (.istore 7, 2) := by decide +kernel
theorem dM_ranked_95 : decode prog_13_method_26_code 95 = .ok (.iload 4, 2) := by decide +kernel
theorem dM_ranked_97 : decode prog_13_method_26_code 97 = .ok (.iconst 2, 1) := by decide +kernel
theorem dM_ranked_98 : decode prog_13_method_26_code 98 = .ok (.iload_n 3, 1) := by decide +kernel
theorem dM_ranked_99 : decode prog_13_method_26_code 99 = .ok (.imul, 1) := by decide +kernel
theorem dM_ranked_100 : decode prog_13_method_26_code 100 = .ok (.iadd, 1) := by decide +kernel
theorem dM_ranked_101 : decode prog_13_method_26_code 101 = .ok (.iload_n 2, 1) := by decide +kernel
theorem dM_ranked_102 : decode prog_13_method_26_code 102 = .ok (.invokestatic 198, 3) := by decide +kernel
theorem dM_ranked_105 : decode prog_13_method_26_code 105 = .ok (.istore 8, 2) := by decide +kernel
theorem dM_ranked_107 : decode prog_13_method_26_code 107 = .ok (.iload 4, 2) := by decide +kernel
theorem dM_ranked_109 : decode prog_13_method_26_code 109 = .ok (.istore 9, 2) := by decide +kernel
theorem dM_ranked_111 : decode prog_13_method_26_code 111 = .ok (.iload 9, 2) := by decide +kernel
theorem dM_ranked_113 : decode prog_13_method_26_code 113 = .ok (.iload 8, 2) := by decide +kernel
theorem dM_ranked_115 : decode prog_13_method_26_code 115 = .ok (.if_icmp .ge 96, 3) := by decide +kernel
theorem dM_ranked_118 : decode prog_13_method_26_code 118 = .ok (.iload 5, 2) := by decide +kernel
theorem dM_ranked_120 : decode prog_13_method_26_code 120 = .ok (.iload 7, 2) := by decide +kernel
theorem dM_ranked_122 : decode prog_13_method_26_code 122 = .ok (.if_icmp .ge 45, 3) := by decide +kernel
theorem dM_ranked_125 : decode prog_13_method_26_code 125 = .ok (.iload 6, 2) := by decide +kernel
theorem dM_ranked_127 : decode prog_13_method_26_code 127 = .ok (.iload 8, 2) := by decide +kernel
theorem dM_ranked_129 : decode prog_13_method_26_code 129 = .ok (.if_icmp .ge 34, 3) := by decide +kernel
theorem dM_ranked_132 : decode prog_13_method_26_code 132 = .ok (.aload_n 0, 1) := by decide +kernel
theorem dM_ranked_133 : decode prog_13_method_26_code 133 = .ok (.aload_n 0, 1) := by decide +kernel
theorem dM_ranked_134 : decode prog_13_method_26_code 134 = .ok (.aload_n 1, 1) := by decide +kernel
theorem dM_ranked_135 : decode prog_13_method_26_code 135 = .ok (.aload_n 0, 1) := by decide +kernel
theorem dM_ranked_136 : decode prog_13_method_26_code 136 = .ok (.getfield 31, 3) := by decide +kernel
theorem dM_ranked_139 : decode prog_13_method_26_code 139 = .ok (.iload 5, 2) := by decide +kernel
theorem dM_ranked_141 : decode prog_13_method_26_code 141 = .ok (.iaload, 1) := by decide +kernel
theorem dM_ranked_142 : decode prog_13_method_26_code 142 = .ok (.invokevirtual 170, 3) := by decide +kernel
theorem dM_ranked_145 : decode prog_13_method_26_code 145 = .ok (.aload_n 0, 1) := by decide +kernel
theorem dM_ranked_146 : decode prog_13_method_26_code 146 = .ok (.aload_n 1, 1) := by decide +kernel
theorem dM_ranked_147 : decode prog_13_method_26_code 147 = .ok (.aload_n 0, 1) := by decide +kernel
theorem dM_ranked_148 : decode prog_13_method_26_code 148 = .ok (.getfield 31, 3) := by decide +kernel
theorem dM_ranked_151 : decode prog_13_method_26_code 151 = .ok (.iload 6, 2) := by decide +kernel
theorem dM_ranked_153 : decode prog_13_method_26_code 153 = .ok (.iaload, 1) := by decide +kernel
theorem dM_ranked_154 : decode prog_13_method_26_code 154 = .ok (.invokevirtual 170, 3) := by decide +kernel
theorem dM_ranked_157 : decode prog_13_method_26_code 157 = .ok (.invokevirtual 176, 3) := by decide +kernel
theorem dM_ranked_160 : decode prog_13_method_26_code 160 = .ok (.ifCond .gt 7, 3) := by decide +kernel
theorem dM_ranked_163 : decode prog_13_method_26_code 163 = .ok (.iconst 1, 1) := by decide +kernel
theorem dM_ranked_164 : decode prog_13_method_26_code 164 = .ok (.goto 4, 3) := by decide +kernel
theorem dM_ranked_167 : decode prog_13_method_26_code 167 = .ok (.iconst 0, 1) := by decide +kernel
theorem dM_ranked_168 : decode prog_13_method_26_code 168 = .ok (.istore 10, 2) := by decide +kernel
theorem dM_ranked_170 : decode prog_13_method_26_code 170 = .ok (.aload_n 0, 1) := by decide +kernel
theorem dM_ranked_171 : decode prog_13_method_26_code 171 = .ok (.getfield 35, 3) := by decide +kernel
theorem dM_ranked_174 : decode prog_13_method_26_code 174 = .ok (.iload 9, 2) := by decide +kernel
theorem dM_ranked_176 : decode prog_13_method_26_code 176 = .ok (.iload 10, 2) := by decide +kernel
theorem dM_ranked_178 : decode prog_13_method_26_code 178 = .ok (.ifCond .eq 16, 3) := by decide +kernel
theorem dM_ranked_181 : decode prog_13_method_26_code 181 = .ok (.aload_n 0, 1) := by decide +kernel
theorem dM_ranked_182 : decode prog_13_method_26_code 182 = .ok (.getfield 31, 3) := by decide +kernel
theorem dM_ranked_185 : decode prog_13_method_26_code 185 = .ok (.iload 5, 2) := by decide +kernel
theorem dM_ranked_187 : decode prog_13_method_26_code 187 = .ok (.iinc 5 1, 3) := by decide +kernel
theorem dM_ranked_190 : decode prog_13_method_26_code 190 = .ok (.iaload, 1) := by decide +kernel
theorem dM_ranked_191 : decode prog_13_method_26_code 191 = .ok (.goto 13, 3) := by decide +kernel
theorem dM_ranked_194 : decode prog_13_method_26_code 194 = .ok (.aload_n 0, 1) := by decide +kernel
theorem dM_ranked_195 : decode prog_13_method_26_code 195 = .ok (.getfield 31, 3) := by decide +kernel
theorem dM_ranked_198 : decode prog_13_method_26_code 198 = .ok (.iload 6, 2) := by decide +kernel
theorem dM_ranked_200 : decode prog_13_method_26_code 200 = .ok (.iinc 6 1, 3) := by decide +kernel
theorem dM_ranked_203 : decode prog_13_method_26_code 203 = .ok (.iaload, 1) := by decide +kernel
theorem dM_ranked_204 : decode prog_13_method_26_code 204 = .ok (.iastore, 1) := by decide +kernel
theorem dM_ranked_205 : decode prog_13_method_26_code 205 = .ok (.iinc 9 1, 3) := by decide +kernel
theorem dM_ranked_208 : decode prog_13_method_26_code 208 = .ok (.goto (-97), 3) := by decide +kernel
theorem dM_ranked_211 : decode prog_13_method_26_code 211 = .ok (.iload 4, 2) := by decide +kernel
theorem dM_ranked_213 : decode prog_13_method_26_code 213 = .ok (.iconst 2, 1) := by decide +kernel
theorem dM_ranked_214 : decode prog_13_method_26_code 214 = .ok (.iload_n 3, 1) := by decide +kernel
theorem dM_ranked_215 : decode prog_13_method_26_code 215 = .ok (.imul, 1) := by decide +kernel
theorem dM_ranked_216 : decode prog_13_method_26_code 216 = .ok (.iadd, 1) := by decide +kernel
theorem dM_ranked_217 : decode prog_13_method_26_code 217 = .ok (.istore 4, 2) := by decide +kernel
theorem dM_ranked_219 : decode prog_13_method_26_code 219 = .ok (.goto (-148), 3) := by decide +kernel
theorem dM_ranked_222 : decode prog_13_method_26_code 222 = .ok (.iconst 0, 1) := by decide +kernel
theorem dM_ranked_223 : decode prog_13_method_26_code 223 = .ok (.istore 4, 2) := by decide +kernel
theorem dM_ranked_225 : decode prog_13_method_26_code 225 = .ok (.iload 4, 2) := by decide +kernel
theorem dM_ranked_227 : decode prog_13_method_26_code 227 = .ok (.iload_n 2, 1) := by decide +kernel
theorem dM_ranked_228 : decode prog_13_method_26_code 228 = .ok (.if_icmp .ge 23, 3) := by decide +kernel
theorem dM_ranked_231 : decode prog_13_method_26_code 231 = .ok (.aload_n 0, 1) := by decide +kernel
theorem dM_ranked_232 : decode prog_13_method_26_code 232 = .ok (.getfield 31, 3) := by decide +kernel
theorem dM_ranked_235 : decode prog_13_method_26_code 235 = .ok (.iload 4, 2) := by decide +kernel
theorem dM_ranked_237 : decode prog_13_method_26_code 237 = .ok (.aload_n 0, 1) := by decide +kernel
theorem dM_ranked_238 : decode prog_13_method_26_code 238 = .ok (.getfield 35, 3) := by decide +kernel
theorem dM_ranked_241 : decode prog_13_method_26_code 241 = .ok (.iload 4, 2) := by decide +kernel
theorem dM_ranked_243 : decode prog_13_method_26_code 243 = .ok (.iaload, 1) := by decide +kernel
theorem dM_ranked_244 : decode prog_13_method_26_code 244 = .ok (.iastore, 1) := by decide +kernel
theorem dM_ranked_245 : decode prog_13_method_26_code 245 = .ok (.iinc 4 1, 3) := by decide +kernel
theorem dM_ranked_248 : decode prog_13_method_26_code 248 = .ok (.goto (-23), 3) := by decide +kernel
theorem dM_ranked_251 : decode prog_13_method_26_code 251 = .ok (.iload_n 3, 1) := by decide +kernel
theorem dM_ranked_252 : decode prog_13_method_26_code 252 = .ok (.iconst 2, 1) := by decide +kernel
theorem dM_ranked_253 : decode prog_13_method_26_code 253 = .ok (.imul, 1) := by decide +kernel
theorem dM_ranked_254 : decode prog_13_method_26_code 254 = .ok (.istore_n 3, 1) := by decide +kernel
theorem dM_ranked_255 : decode prog_13_method_26_code 255 = .ok (.goto (-192), 3) := by decide +kernel
theorem dM_ranked_258 : decode prog_13_method_26_code 258 = .ok (.return_, 1) := by decide +kernel
theorem dM_read_0 : decode prog_13_method_84_code 0 = .ok (.aload_n 0, 1) := by decide +kernel
theorem dM_read_1 : decode prog_13_method_84_code 1 = .ok (.invokevirtual 424, 3) := by decide +kernel
theorem dM_read_4 : decode prog_13_method_84_code 4 = .ok (.aload_n 0, 1) := by decide +kernel
theorem dM_read_5 : decode prog_13_method_84_code 5 = .ok (.iload_n 1, 1) := by decide +kernel
theorem dM_read_6 : decode prog_13_method_84_code 6 = .ok (.invokevirtual 427, 3) := by decide +kernel
theorem dM_read_9 : decode prog_13_method_84_code 9 = .ok (.ifCond .eq 9, 3) := by decide +kernel
theorem dM_read_12 : decode prog_13_method_84_code 12 = .ok (.aload_n 0, 1) := by decide +kernel
theorem dM_read_13 : decode prog_13_method_84_code 13 = .ok (.iconst 1, 1) := by decide +kernel
theorem dM_read_14 : decode prog_13_method_84_code 14 = .ok (.invokevirtual 418, 3) := by decide +kernel
theorem dM_read_17 : decode prog_13_method_84_code 17 = .ok (.ireturn, 1) := by decide +kernel
theorem dM_read_18 : decode prog_13_method_84_code 18 = .ok (.aload_n 0, 1) := by decide +kernel
theorem dM_read_19 : decode prog_13_method_84_code 19 = .ok (.getfield 421, 3) := by decide +kernel
theorem dM_read_22 : decode prog_13_method_84_code 22 = .ok (.istore_n 2, 1) := by decide +kernel
theorem dM_read_23 : decode prog_13_method_84_code 23 = .ok (.aload_n 0, 1) := by decide +kernel
theorem dM_read_24 : decode prog_13_method_84_code 24 = .ok (.iconst 0, 1) := by decide +kernel
theorem dM_read_25 : decode prog_13_method_84_code 25 = .ok (.putfield 421, 3) := by decide +kernel
theorem dM_read_28 : decode prog_13_method_84_code 28 = .ok (.aload_n 0, 1) := by decide +kernel
theorem dM_read_29 : decode prog_13_method_84_code 29 = .ok (.iconst (-1), 1) := by decide +kernel
theorem dM_read_30 : decode prog_13_method_84_code 30 = .ok (.putfield 66, 3) := by decide +kernel
theorem dM_read_33 : decode prog_13_method_84_code 33 = .ok (.aload_n 0, 1) := by decide +kernel
theorem dM_read_34 : decode prog_13_method_84_code 34 = .ok (.bipush 40, 2) := by decide +kernel
theorem dM_read_36 : decode prog_13_method_84_code 36 = .ok (.putfield 38, 3) := by decide +kernel
theorem dM_read_39 : decode prog_13_method_84_code 39 = .ok (.aload_n 0, 1) := by decide +kernel
theorem dM_read_40 : decode prog_13_method_84_code 40 = .ok (.iload_n 1, 1) := by decide +kernel
theorem dM_read_41 : decode prog_13_method_84_code 41 = .ok (.aload_n 0, 1) := by decide +kernel
theorem dM_read_42 : decode prog_13_method_84_code 42 = .ok (.aload_n 0, 1) := by decide +kernel
theorem dM_read_43 : decode prog_13_method_84_code 43 = .ok (.getfield 60, 3) := by decide +kernel
theorem dM_read_46 : decode prog_13_method_84_code 46 = .ok (.iconst 0, 1) := by decide +kernel
theorem dM_read_47 : decode prog_13_method_84_code 47 = .ok (.iload_n 2, 1) := by decide +kernel
theorem dM_read_48 : decode prog_13_method_84_code 48 = .ok (.invokevirtual 344, 3) := by decide +kernel
theorem dM_read_51 : decode prog_13_method_84_code 51 = .ok (.invokevirtual 430, 3) := by decide +kernel
theorem dM_read_54 : decode prog_13_method_84_code 54 = .ok (.ireturn, 1) := by decide +kernel
theorem dM_read_55 : decode prog_13_method_84_code 55 = .ok (.astore_n 3, 1) := by decide +kernel
theorem dM_read_56 : decode prog_13_method_84_code 56 = .ok (.aload_n 0, 1) := by decide +kernel
theorem dM_read_57 : decode prog_13_method_84_code 57 = .ok (.aload_n 0, 1) := by decide +kernel
theorem dM_read_58 : decode prog_13_method_84_code 58 = .ok (.getfield 42, 3) := by decide +kernel
theorem dM_read_61 : decode prog_13_method_84_code 61 = .ok (.putfield 66, 3) := by decide +kernel
theorem dM_read_64 : decode prog_13_method_84_code 64 = .ok (.aload_n 0, 1) := by decide +kernel
theorem dM_read_65 : decode prog_13_method_84_code 65 = .ok (.iconst 2, 1) := by decide +kernel
theorem dM_read_66 : decode prog_13_method_84_code 66 = .ok (.invokevirtual 418, 3) := by decide +kernel
theorem dM_read_69 : decode prog_13_method_84_code 69 = .ok (.ireturn, 1) := by decide +kernel
theorem dM_read_70 : decode prog_13_method_84_code 70 = .ok (.astore_n 3, 1) := by decide +kernel
theorem dM_read_71 : decode prog_13_method_84_code 71 = .ok (.aload_n 0, 1) := by decide +kernel
theorem dM_read_72 : decode prog_13_method_84_code 72 = .ok (.iconst 3, 1) := by decide +kernel
theorem dM_read_73 : decode prog_13_method_84_code 73 = .ok (.invokevirtual 418, 3) := by decide +kernel
theorem dM_read_76 : decode prog_13_method_84_code 76 = .ok (.ireturn, 1) := by decide +kernel
theorem dM_refuse_0 : decode prog_13_method_4_code 0 = .ok (.aload_n 0, 1) := by decide +kernel
theorem dM_refuse_1 : decode prog_13_method_4_code 1 = .ok (.iload_n 1, 1) := by decide +kernel
theorem dM_refuse_2 : decode prog_13_method_4_code 2 = .ok (.putfield 80, 3) := by decide +kernel
theorem dM_refuse_5 : decode prog_13_method_4_code 5 = .ok (.new 83, 3) := by decide +kernel
theorem dM_refuse_8 : decode prog_13_method_4_code 8 = .ok (.dup, 1) := by decide +kernel
theorem dM_refuse_9 : decode prog_13_method_4_code 9 = .ok (.invokespecial 85, 3) := by decide +kernel
theorem dM_refuse_12 : decode prog_13_method_4_code 12 = .ok (.athrow, 1) := by decide +kernel
theorem dM_register_0 : decode prog_13_method_79_code 0 = .ok (.aload_n 0, 1) := by decide +kernel
theorem dM_register_1 : decode prog_13_method_79_code 1 = .ok (.bipush 100, 2) := by decide +kernel
theorem dM_register_3 : decode prog_13_method_79_code 3 = .ok (.putfield 38, 3) := by decide +kernel
theorem dM_register_6 : decode prog_13_method_79_code 6 = .ok (.aload_n 0, 1) := by decide +kernel
theorem dM_register_7 : decode prog_13_method_79_code 7 = .ok (.aload_n 0, 1) := by decide +kernel
theorem dM_register_8 : decode prog_13_method_79_code 8 = .ok (.getfield 54, 3) := by decide +kernel
theorem dM_register_11 : decode prog_13_method_79_code 11 = .ok (.iload_n 1, 1) := by decide +kernel
theorem dM_register_12 : decode prog_13_method_79_code 12 = .ok (.aaload, 1) := by decide +kernel
theorem dM_register_13 : decode prog_13_method_79_code 13 = .ok (.iconst 0, 1) := by decide +kernel
theorem dM_register_14 : decode prog_13_method_79_code 14 = .ok (.aload_n 0, 1) := by decide +kernel
theorem dM_register_15 : decode prog_13_method_79_code 15 = .ok (.getfield 57, 3) := by decide +kernel
theorem dM_register_18 : decode prog_13_method_79_code 18 = .ok (.iload_n 1, 1) := by decide +kernel
theorem dM_register_19 : decode prog_13_method_79_code 19 = .ok (.iaload, 1) := by decide +kernel
theorem dM_register_20 : decode prog_13_method_79_code 20 = .ok (.invokevirtual 344, 3) := by decide +kernel
theorem dM_register_23 : decode prog_13_method_79_code 23 = .ok (.areturn, 1) := by decide +kernel
theorem dM_reversed_0 : decode prog_13_method_61_code 0 = .ok (.aload_n 1, 1) := by decide +kernel
theorem dM_reversed_1 : decode prog_13_method_61_code 1 = .ok (.getfield 93, 3) := by decide +kernel
theorem dM_reversed_4 : decode prog_13_method_61_code 4 = .ok (.ifCond .ne 13, 3) := by decide +kernel
theorem dM_reversed_7 : decode prog_13_method_61_code 7 = .ok (.aload_n 0, 1) := by decide +kernel
theorem dM_reversed_8 : decode prog_13_method_61_code 8 = .ok (.iconst 5, 1) := by decide +kernel
theorem dM_reversed_9 : decode prog_13_method_61_code 9 = .ok (.aload_n 0, 1) := by decide +kernel
theorem dM_reversed_10 : decode prog_13_method_61_code 10 = .ok (.getfield 142, 3) := by decide +kernel
theorem dM_reversed_13 : decode prog_13_method_61_code 13 = .ok (.invokevirtual 190, 3) := by decide +kernel
theorem dM_reversed_16 : decode prog_13_method_61_code 16 = .ok (.areturn, 1) := by decide +kernel
theorem dM_reversed_17 : decode prog_13_method_61_code 17 = .ok (.aload_n 1, 1) := by decide +kernel
theorem dM_reversed_18 : decode prog_13_method_61_code 18 = .ok (.getfield 93, 3) := by decide +kernel
theorem dM_reversed_21 : decode prog_13_method_61_code 21 = .ok (.iconst 4, 1) := by decide +kernel
theorem dM_reversed_22 : decode prog_13_method_61_code 22 = .ok (.if_icmp .ne 46, 3) := by decide +kernel
theorem dM_reversed_25 : decode prog_13_method_61_code 25 = .ok (.aload_n 0, 1) := by decide +kernel
theorem dM_reversed_26 : decode prog_13_method_61_code 26 = .ok (.getfield 123, 3) := by decide +kernel
theorem dM_reversed_29 : decode prog_13_method_61_code 29 = .ok (.istore_n 2, 1) := by decide +kernel
theorem dM_reversed_30 : decode prog_13_method_61_code 30 = .ok (.aload_n 1, 1) := by decide +kernel
theorem dM_reversed_31 : decode prog_13_method_61_code 31 = .ok (.getfield 103, 3) := by decide +kernel
theorem dM_reversed_34 : decode prog_13_method_61_code 34 = .ok (.iconst 1, 1) := by decide +kernel
theorem dM_reversed_35 : decode prog_13_method_61_code 35 = .ok (.isub, 1) := by decide +kernel
theorem dM_reversed_36 : decode prog_13_method_61_code 36 = .ok (.istore_n 3, 1) := by decide +kernel
theorem dM_reversed_37 : decode prog_13_method_61_code 37 = .ok (.iload_n 3, 1) := by decide +kernel
theorem dM_reversed_38 : decode prog_13_method_61_code 38 = .ok (.ifCond .lt 24, 3) := by decide +kernel
theorem dM_reversed_41 : decode prog_13_method_61_code 41 = .ok (.aload_n 0, 1) := by decide +kernel
theorem dM_reversed_42 : decode prog_13_method_61_code 42 = .ok (.aload_n 0, 1) := by decide +kernel
theorem dM_reversed_43 : decode prog_13_method_61_code 43 = .ok (.getfield 15, 3) := by decide +kernel
theorem dM_reversed_46 : decode prog_13_method_61_code 46 = .ok (.aload_n 1, 1) := by decide +kernel
theorem dM_reversed_47 : decode prog_13_method_61_code 47 = .ok (.getfield 100, 3) := by decide +kernel
theorem dM_reversed_50 : decode prog_13_method_61_code 50 = .ok (.iload_n 3, 1) := by decide +kernel
theorem dM_reversed_51 : decode prog_13_method_61_code 51 = .ok (.iadd, 1) := by decide +kernel
theorem dM_reversed_52 : decode prog_13_method_61_code 52 = .ok (.baload, 1) := by decide +kernel
theorem dM_reversed_53 : decode prog_13_method_61_code 53 = .ok (.invokevirtual 135, 3) := by decide +kernel
theorem dM_reversed_56 : decode prog_13_method_61_code 56 = .ok (.iinc 3 (-1), 3) := by decide +kernel
theorem dM_reversed_59 : decode prog_13_method_61_code 59 = .ok (.goto (-22), 3) := by decide +kernel
theorem dM_reversed_62 : decode prog_13_method_61_code 62 = .ok (.aload_n 0, 1) := by decide +kernel
theorem dM_reversed_63 : decode prog_13_method_61_code 63 = .ok (.iload_n 2, 1) := by decide +kernel
theorem dM_reversed_64 : decode prog_13_method_61_code 64 = .ok (.invokevirtual 139, 3) := by decide +kernel
theorem dM_reversed_67 : decode prog_13_method_61_code 67 = .ok (.areturn, 1) := by decide +kernel
theorem dM_reversed_68 : decode prog_13_method_61_code 68 = .ok (.aload_n 0, 1) := by decide +kernel
theorem dM_reversed_69 : decode prog_13_method_61_code 69 = .ok (.getfield 142, 3) := by decide +kernel
theorem dM_reversed_72 : decode prog_13_method_61_code 72 = .ok (.istore_n 2, 1) := by decide +kernel
theorem dM_reversed_73 : decode prog_13_method_61_code 73 = .ok (.aload_n 0, 1) := by decide +kernel
theorem dM_reversed_74 : decode prog_13_method_61_code 74 = .ok (.aload_n 1, 1) := by decide +kernel
theorem dM_reversed_75 : decode prog_13_method_61_code 75 = .ok (.invokevirtual 337, 3) := by decide +kernel
theorem dM_reversed_78 : decode prog_13_method_61_code 78 = .ok (.getfield 103, 3) := by decide +kernel
theorem dM_reversed_81 : decode prog_13_method_61_code 81 = .ok (.iconst 1, 1) := by decide +kernel
theorem dM_reversed_82 : decode prog_13_method_61_code 82 = .ok (.isub, 1) := by decide +kernel
theorem dM_reversed_83 : decode prog_13_method_61_code 83 = .ok (.istore_n 3, 1) := by decide +kernel
theorem dM_reversed_84 : decode prog_13_method_61_code 84 = .ok (.iload_n 3, 1) := by decide +kernel
theorem dM_reversed_85 : decode prog_13_method_61_code 85 = .ok (.ifCond .lt 20, 3) := by decide +kernel
theorem dM_reversed_88 : decode prog_13_method_61_code 88 = .ok (.aload_n 0, 1) := by decide +kernel
theorem dM_reversed_89 : decode prog_13_method_61_code 89 = .ok (.aconst_null, 1) := by decide +kernel
theorem dM_reversed_90 : decode prog_13_method_61_code 90 = .ok (.aload_n 0, 1) := by decide +kernel
theorem dM_reversed_91 : decode prog_13_method_61_code 91 = .ok (.aload_n 1, 1) := by decide +kernel
theorem dM_reversed_92 : decode prog_13_method_61_code 92 = .ok (.iload_n 3, 1) := by decide +kernel
theorem dM_reversed_93 : decode prog_13_method_61_code 93 = .ok (.invokevirtual 170, 3) := by decide +kernel
theorem dM_reversed_96 : decode prog_13_method_61_code 96 = .ok (.invokevirtual 186, 3) := by decide +kernel
theorem dM_reversed_99 : decode prog_13_method_61_code 99 = .ok (.iinc 3 (-1), 3) := by decide +kernel
theorem dM_reversed_102 : decode prog_13_method_61_code 102 = .ok (.goto (-18), 3) := by decide +kernel
theorem dM_reversed_105 : decode prog_13_method_61_code 105 = .ok (.aload_n 0, 1) := by decide +kernel
theorem dM_reversed_106 : decode prog_13_method_61_code 106 = .ok (.iconst 5, 1) := by decide +kernel
theorem dM_reversed_107 : decode prog_13_method_61_code 107 = .ok (.iload_n 2, 1) := by decide +kernel
theorem dM_reversed_108 : decode prog_13_method_61_code 108 = .ok (.invokevirtual 190, 3) := by decide +kernel
theorem dM_reversed_111 : decode prog_13_method_61_code 111 = .ok (.areturn, 1) := by decide +kernel
theorem dM_same0_0 : decode prog_13_method_86_code 0 = .ok (.aload_n 0, 1) := by decide +kernel
theorem dM_same0_1 : decode prog_13_method_86_code 1 = .ok (.invokevirtual 424, 3) := by decide +kernel
theorem dM_same0_4 : decode prog_13_method_86_code 4 = .ok (.aload_n 0, 1) := by decide +kernel
theorem dM_same0_5 : decode prog_13_method_86_code 5 = .ok (.iload_n 1, 1) := by decide +kernel
theorem dM_same0_6 : decode prog_13_method_86_code 6 = .ok (.invokevirtual 427, 3) := by decide +kernel
theorem dM_same0_9 : decode prog_13_method_86_code 9 = .ok (.ifCond .ne 11, 3) := by decide +kernel
theorem dM_same0_12 : decode prog_13_method_86_code 12 = .ok (.aload_n 0, 1) := by decide +kernel
theorem dM_same0_13 : decode prog_13_method_86_code 13 = .ok (.iload_n 2, 1) := by decide +kernel
theorem dM_same0_14 : decode prog_13_method_86_code 14 = .ok (.invokevirtual 427, 3) := by decide +kernel
theorem dM_same0_17 : decode prog_13_method_86_code 17 = .ok (.ifCond .eq 17, 3) := by decide +kernel
theorem dM_same0_20 : decode prog_13_method_86_code 20 = .ok (.aload_n 0, 1) := by decide +kernel
theorem dM_same0_21 : decode prog_13_method_86_code 21 = .ok (.iconst 1, 1) := by decide +kernel
theorem dM_same0_22 : decode prog_13_method_86_code 22 = .ok (.invokevirtual 418, 3) := by decide +kernel
theorem dM_same0_25 : decode prog_13_method_86_code 25 = .ok (.ifCond .le 7, 3) := by decide +kernel
theorem dM_same0_28 : decode prog_13_method_86_code 28 = .ok (.iconst 1, 1) := by decide +kernel
theorem dM_same0_29 : decode prog_13_method_86_code 29 = .ok (.goto 4, 3) := by decide +kernel
theorem dM_same0_32 : decode prog_13_method_86_code 32 = .ok (.iconst 0, 1) := by decide +kernel
theorem dM_same0_33 : decode prog_13_method_86_code 33 = .ok (.ireturn, 1) := by decide +kernel
theorem dM_same0_34 : decode prog_13_method_86_code 34 = .ok (.aload_n 0, 1) := by decide +kernel
theorem dM_same0_35 : decode prog_13_method_86_code 35 = .ok (.aload_n 0, 1) := by decide +kernel
theorem dM_same0_36 : decode prog_13_method_86_code 36 = .ok (.iload_n 1, 1) := by decide +kernel
theorem dM_same0_37 : decode prog_13_method_86_code 37 = .ok (.invokevirtual 437, 3) := by decide +kernel
theorem dM_same0_40 : decode prog_13_method_86_code 40 = .ok (.aload_n 0, 1) := by decide +kernel
theorem dM_same0_41 : decode prog_13_method_86_code 41 = .ok (.iload_n 2, 1) := by decide +kernel
theorem dM_same0_42 : decode prog_13_method_86_code 42 = .ok (.invokevirtual 437, 3) := by decide +kernel
theorem dM_same0_45 : decode prog_13_method_86_code 45 = .ok (.invokevirtual 173, 3) := by decide +kernel
theorem dM_same0_48 : decode prog_13_method_86_code 48 = .ok (.ireturn, 1) := by decide +kernel
theorem dM_same1_0 : decode prog_13_method_21_code 0 = .ok (.aload_n 1, 1) := by decide +kernel
theorem dM_same1_1 : decode prog_13_method_21_code 1 = .ok (.getfield 93, 3) := by decide +kernel
theorem dM_same1_4 : decode prog_13_method_21_code 4 = .ok (.aload_n 2, 1) := by decide +kernel
theorem dM_same1_5 : decode prog_13_method_21_code 5 = .ok (.getfield 93, 3) := by decide +kernel
theorem dM_same1_8 : decode prog_13_method_21_code 8 = .ok (.if_icmp .eq 5, 3) := by decide +kernel
theorem dM_same1_11 : decode prog_13_method_21_code 11 = .ok (.iconst 0, 1) := by decide +kernel
theorem dM_same1_12 : decode prog_13_method_21_code 12 = .ok (.ireturn, 1) := by decide +kernel
theorem dM_same1_13 : decode prog_13_method_21_code 13 = .ok (.aload_n 1, 1) := by decide +kernel
theorem dM_same1_14 : decode prog_13_method_21_code 14 = .ok (.getfield 93, 3) := by decide +kernel
theorem dM_same1_17 : decode prog_13_method_21_code 17 = .ok (.iconst 3, 1) := by decide +kernel
theorem dM_same1_18 : decode prog_13_method_21_code 18 = .ok (.if_icmp .ne 21, 3) := by decide +kernel
theorem dM_same1_21 : decode prog_13_method_21_code 21 = .ok (.aload_n 1, 1) := by decide +kernel
theorem dM_same1_22 : decode prog_13_method_21_code 22 = .ok (.getfield 96, 3) := by decide +kernel
theorem dM_same1_25 : decode prog_13_method_21_code 25 = .ok (.aload_n 2, 1) := by decide +kernel
theorem dM_same1_26 : decode prog_13_method_21_code 26 = .ok (.getfield 96, 3) := by decide +kernel
theorem dM_same1_29 : decode prog_13_method_21_code 29 = .ok (.lcmp, 1) := by decide +kernel
theorem dM_same1_30 : decode prog_13_method_21_code 30 = .ok (.ifCond .ne 7, 3) := by decide +kernel
theorem dM_same1_33 : decode prog_13_method_21_code 33 = .ok (.iconst 1, 1) := by decide +kernel
theorem dM_same1_34 : decode prog_13_method_21_code 34 = .ok (.goto 4, 3) := by decide +kernel
theorem dM_same1_37 : decode prog_13_method_21_code 37 = .ok (.iconst 0, 1) := by decide +kernel
theorem dM_same1_38 : decode prog_13_method_21_code 38 = .ok (.ireturn, 1) := by decide +kernel
theorem dM_same1_39 : decode prog_13_method_21_code 39 = .ok (.aload_n 1, 1) := by decide +kernel
theorem dM_same1_40 : decode prog_13_method_21_code 40 = .ok (.getfield 93, 3) := by decide +kernel
theorem dM_same1_43 : decode prog_13_method_21_code 43 = .ok (.iconst 4, 1) := by decide +kernel
theorem dM_same1_44 : decode prog_13_method_21_code 44 = .ok (.if_icmp .ne 10, 3) := by decide +kernel
theorem dM_same1_47 : decode prog_13_method_21_code 47 = .ok (.aload_n 0, 1) := by decide +kernel
theorem dM_same1_48 : decode prog_13_method_21_code 48 = .ok (.aload_n 1, 1) := by decide +kernel
theorem dM_same1_49 : decode prog_13_method_21_code 49 = .ok (.aload_n 2, 1) := by decide +kernel
theorem dM_same1_50 : decode prog_13_method_21_code 50 = .ok (.invokevirtual 163, 3) := by decide +kernel
theorem dM_same1_53 : decode prog_13_method_21_code 53 = .ok (.ireturn, 1) := by decide +kernel
theorem dM_same1_54 : decode prog_13_method_21_code 54 = .ok (.aload_n 1, 1) := by decide +kernel
theorem dM_same1_55 : decode prog_13_method_21_code 55 = .ok (.getfield 93, 3) := by decide +kernel
theorem dM_same1_58 : decode prog_13_method_21_code 58 = .ok (.iconst 5, 1) := by decide +kernel
theorem dM_same1_59 : decode prog_13_method_21_code 59 = .ok (.if_icmp .ge 5, 3) := by decide +kernel
theorem dM_same1_62 : decode prog_13_method_21_code 62 = .ok (.iconst 1, 1) := by decide +kernel
theorem dM_same1_63 : decode prog_13_method_21_code 63 = .ok (.ireturn, 1) := by decide +kernel
theorem dM_same1_64 : decode prog_13_method_21_code 64 = .ok (.aload_n 1, 1) := by decide +kernel
theorem dM_same1_65 : decode prog_13_method_21_code 65 = .ok (.getfield 103, 3) := by decide +kernel
theorem dM_same1_68 : decode prog_13_method_21_code 68 = .ok (.aload_n 2, 1) := by decide +kernel
theorem dM_same1_69 : decode prog_13_method_21_code 69 = .ok (.getfield 103, 3) := by decide +kernel
theorem dM_same1_72 : decode prog_13_method_21_code 72 = .ok (.if_icmp .eq 5, 3) := by decide +kernel
theorem dM_same1_75 : decode prog_13_method_21_code 75 = .ok (.iconst 0, 1) := by decide +kernel
theorem dM_same1_76 : decode prog_13_method_21_code 76 = .ok (.ireturn, 1) := by decide +kernel
theorem dM_same1_77 : decode prog_13_method_21_code 77 = .ok (.iconst 0, 1) := by decide +kernel
theorem dM_same1_78 : decode prog_13_method_21_code 78 = .ok (.istore_n 3, 1) := by decide +kernel
theorem dM_same1_79 : decode prog_13_method_21_code 79 = .ok (.iload_n 3, 1) := by decide +kernel
theorem dM_same1_80 : decode prog_13_method_21_code 80 = .ok (.aload_n 1, 1) := by decide +kernel
theorem dM_same1_81 : decode prog_13_method_21_code 81 = .ok (.getfield 103, 3) := by decide +kernel
theorem dM_same1_84 : decode prog_13_method_21_code 84 = .ok (.if_icmp .ge 61, 3) := by decide +kernel
theorem dM_same1_87 : decode prog_13_method_21_code 87 = .ok (.aload_n 1, 1) := by decide +kernel
theorem dM_same1_88 : decode prog_13_method_21_code 88 = .ok (.getfield 93, 3) := by decide +kernel
theorem dM_same1_91 : decode prog_13_method_21_code 91 = .ok (.iconst 5, 1) := by decide +kernel
theorem dM_same1_92 : decode prog_13_method_21_code 92 = .ok (.if_icmp .ne 7, 3) := by decide +kernel
theorem dM_same1_95 : decode prog_13_method_21_code 95 = .ok (.iload_n 3, 1) := by decide +kernel
theorem dM_same1_96 : decode prog_13_method_21_code 96 = .ok (.goto 14, 3) := by decide +kernel
theorem dM_same1_99 : decode prog_13_method_21_code 99 = .ok (.aload_n 0, 1) := by decide +kernel
theorem dM_same1_100 : decode prog_13_method_21_code 100 = .ok (.aload_n 2, 1) := by decide +kernel
theorem dM_same1_101 : decode prog_13_method_21_code 101 = .ok (.aload_n 0, 1) := by decide +kernel
theorem dM_same1_102 : decode prog_13_method_21_code 102 = .ok (.aload_n 1, 1) := by decide +kernel
theorem dM_same1_103 : decode prog_13_method_21_code 103 = .ok (.iload_n 3, 1) := by decide +kernel
theorem dM_same1_104 : decode prog_13_method_21_code 104 = .ok (.invokevirtual 159, 3) := by decide +kernel
theorem dM_same1_107 : decode prog_13_method_21_code 107 = .ok (.invokevirtual 167, 3) := by decide +kernel
theorem dM_same1_110 : decode prog_13_method_21_code 110 = .ok (.istore 4, 2) := by decide +kernel
theorem dM_same1_112 : decode prog_13_method_21_code 112 = .ok (.iload 4, 2) := by decide +kernel
theorem dM_same1_114 : decode prog_13_method_21_code 114 = .ok (.ifCond .lt 23, 3) := by decide +kernel
theorem dM_same1_117 : decode prog_13_method_21_code 117 = .ok (.aload_n 0, 1) := by decide +kernel
theorem dM_same1_118 : decode prog_13_method_21_code 118 = .ok (.aload_n 0, 1) := by decide +kernel
theorem dM_same1_119 : decode prog_13_method_21_code 119 = .ok (.aload_n 1, 1) := by decide +kernel
theorem dM_same1_120 : decode prog_13_method_21_code 120 = .ok (.iload_n 3, 1) := by decide +kernel
theorem dM_same1_121 : decode prog_13_method_21_code 121 = .ok (.invokevirtual 170, 3) := by decide +kernel
theorem dM_same1_124 : decode prog_13_method_21_code 124 = .ok (.aload_n 0, 1) := by decide +kernel
theorem dM_same1_125 : decode prog_13_method_21_code 125 = .ok (.aload_n 2, 1) := by decide +kernel
theorem dM_same1_126 : decode prog_13_method_21_code 126 = .ok (.iload 4, 2) := by decide +kernel
theorem dM_same1_128 : decode prog_13_method_21_code 128 = .ok (.invokevirtual 170, 3) := by decide +kernel
theorem dM_same1_131 : decode prog_13_method_21_code 131 = .ok (.invokevirtual 173, 3) := by decide +kernel
theorem dM_same1_134 : decode prog_13_method_21_code 134 = .ok (.ifCond .ne 5, 3) := by decide +kernel
theorem dM_same1_137 : decode prog_13_method_21_code 137 = .ok (.iconst 0, 1) := by decide +kernel
theorem dM_same1_138 : decode prog_13_method_21_code 138 = .ok (.ireturn, 1) := by decide +kernel
theorem dM_same1_139 : decode prog_13_method_21_code 139 = .ok (.iinc 3 1, 3) := by decide +kernel
theorem dM_same1_142 : decode prog_13_method_21_code 142 = .ok (.goto (-63), 3) := by decide +kernel
theorem dM_same1_145 : decode prog_13_method_21_code 145 = .ok (.iconst 1, 1) := by decide +kernel
theorem dM_same1_146 : decode prog_13_method_21_code 146 = .ok (.ireturn, 1) := by decide +kernel
theorem dM_sameText_0 : decode prog_13_method_19_code 0 = .ok (.aload_n 1, 1) := by decide +kernel
theorem dM_sameText_1 : decode prog_13_method_19_code 1 = .ok (.getfield 103, 3) := by decide +kernel
theorem dM_sameText_4 : decode prog_13_method_19_code 4 = .ok (.aload_n 2, 1) := by decide +kernel
theorem dM_sameText_5 : decode prog_13_method_19_code 5 = .ok (.getfield 103, 3) := by decide +kernel
theorem dM_sameText_8 : decode prog_13_method_19_code 8 = .ok (.if_icmp .eq 5, 3) := by decide +kernel
theorem dM_sameText_11 : decode prog_13_method_19_code 11 = .ok (.iconst 0, 1) := by decide +kernel
theorem dM_sameText_12 : decode prog_13_method_19_code 12 = .ok (.ireturn, 1) := by decide +kernel
theorem dM_sameText_13 : decode prog_13_method_19_code 13 = .ok (.iconst 0, 1) := by decide +kernel
theorem dM_sameText_14 : decode prog_13_method_19_code 14 = .ok (.istore_n 3, 1) := by decide +kernel
theorem dM_sameText_15 : decode prog_13_method_19_code 15 = .ok (.iload_n 3, 1) := by decide +kernel
theorem dM_sameText_16 : decode prog_13_method_19_code 16 = .ok (.aload_n 1, 1) := by decide +kernel
theorem dM_sameText_17 : decode prog_13_method_19_code 17 = .ok (.getfield 103, 3) := by decide +kernel
theorem dM_sameText_20 : decode prog_13_method_19_code 20 = .ok (.if_icmp .ge 36, 3) := by decide +kernel
theorem dM_sameText_23 : decode prog_13_method_19_code 23 = .ok (.aload_n 0, 1) := by decide +kernel
theorem dM_sameText_24 : decode prog_13_method_19_code 24 = .ok (.getfield 15, 3) := by decide +kernel
theorem dM_sameText_27 : decode prog_13_method_19_code 27 = .ok (.aload_n 1, 1) := by decide +kernel
theorem dM_sameText_28 : decode prog_13_method_19_code 28 = .ok (.getfield 100, 3) := by decide +kernel
theorem dM_sameText_31 : decode prog_13_method_19_code 31 = .ok (.iload_n 3, 1) := by decide +kernel
theorem dM_sameText_32 : decode prog_13_method_19_code 32 = .ok (.iadd, 1) := by decide +kernel
theorem dM_sameText_33 : decode prog_13_method_19_code 33 = .ok (.baload, 1) := by decide +kernel
theorem dM_sameText_34 : decode prog_13_method_19_code 34 = .ok (.aload_n 0, 1) := by decide +kernel
theorem dM_sameText_35 : decode prog_13_method_19_code 35 = .ok (.getfield 15, 3) := by decide +kernel
theorem dM_sameText_38 : decode prog_13_method_19_code 38 = .ok (.aload_n 2, 1) := by decide +kernel
theorem dM_sameText_39 : decode prog_13_method_19_code 39 = .ok (.getfield 100, 3) := by decide +kernel
theorem dM_sameText_42 : decode prog_13_method_19_code 42 = .ok (.iload_n 3, 1) := by decide +kernel
theorem dM_sameText_43 : decode prog_13_method_19_code 43 = .ok (.iadd, 1) := by decide +kernel
theorem dM_sameText_44 : decode prog_13_method_19_code 44 = .ok (.baload, 1) := by decide +kernel
theorem dM_sameText_45 : decode prog_13_method_19_code 45 = .ok (.if_icmp .eq 5, 3) := by decide +kernel
theorem dM_sameText_48 : decode prog_13_method_19_code 48 = .ok (.iconst 0, 1) := by decide +kernel
theorem dM_sameText_49 : decode prog_13_method_19_code 49 = .ok (.ireturn, 1) := by decide +kernel
theorem dM_sameText_50 : decode prog_13_method_19_code 50 = .ok (.iinc 3 1, 3) := by decide +kernel
theorem dM_sameText_53 : decode prog_13_method_19_code 53 = .ok (.goto (-38), 3) := by decide +kernel
theorem dM_sameText_56 : decode prog_13_method_19_code 56 = .ok (.iconst 1, 1) := by decide +kernel
theorem dM_sameText_57 : decode prog_13_method_19_code 57 = .ok (.ireturn, 1) := by decide +kernel
theorem dM_says_0 : decode prog_13_method_33_code 0 = .ok (.iconst 0, 1) := by decide +kernel
theorem dM_says_1 : decode prog_13_method_33_code 1 = .ok (.istore_n 3, 1) := by decide +kernel
theorem dM_says_2 : decode prog_13_method_33_code 2 = .ok (.iload_n 3, 1) := by decide +kernel
theorem dM_says_3 : decode prog_13_method_33_code 3 = .ok (.aload_n 1, 1) := by decide +kernel
theorem dM_says_4 : decode prog_13_method_33_code 4 = .ok (.invokevirtual 131, 3) := by decide +kernel
theorem dM_says_7 : decode prog_13_method_33_code 7 = .ok (.if_icmp .ge 39, 3) := by decide +kernel
theorem dM_says_10 : decode prog_13_method_33_code 10 = .ok (.aload_n 0, 1) := by decide +kernel
theorem dM_says_11 : decode prog_13_method_33_code 11 = .ok (.invokevirtual 217, 3) := by decide +kernel
theorem dM_says_14 : decode prog_13_method_33_code 14 = .ok (.aload_n 1, 1) := by decide +kernel
theorem dM_says_15 : decode prog_13_method_33_code 15 = .ok (.iload_n 3, 1) := by decide +kernel
theorem dM_says_16 : decode prog_13_method_33_code 16 = .ok (.invokevirtual 71, 3) := by decide +kernel
theorem dM_says_19 : decode prog_13_method_33_code 19 = .ok (.if_icmp .eq 11, 3) := by decide +kernel
theorem dM_says_22 : decode prog_13_method_33_code 22 = .ok (.aload_n 0, 1) := by decide +kernel
theorem dM_says_23 : decode prog_13_method_33_code 23 = .ok (.aload_n 0, 1) := by decide +kernel
theorem dM_says_24 : decode prog_13_method_33_code 24 = .ok (.getfield 208, 3) := by decide +kernel
theorem dM_says_27 : decode prog_13_method_33_code 27 = .ok (.invokevirtual 229, 3) := by decide +kernel
theorem dM_says_30 : decode prog_13_method_33_code 30 = .ok (.aload_n 0, 1) := by decide +kernel
theorem dM_says_31 : decode prog_13_method_33_code 31 = .ok (.dup, 1) := by decide +kernel
theorem dM_says_32 : decode prog_13_method_33_code 32 = .ok (.getfield 208, 3) := by decide +kernel
theorem dM_says_35 : decode prog_13_method_33_code 35 = .ok (.iconst 1, 1) := by decide +kernel
theorem dM_says_36 : decode prog_13_method_33_code 36 = .ok (.iadd, 1) := by decide +kernel
theorem dM_says_37 : decode prog_13_method_33_code 37 = .ok (.putfield 208, 3) := by decide +kernel
theorem dM_says_40 : decode prog_13_method_33_code 40 = .ok (.iinc 3 1, 3) := by decide +kernel
theorem dM_says_43 : decode prog_13_method_33_code 43 = .ok (.goto (-41), 3) := by decide +kernel
theorem dM_says_46 : decode prog_13_method_33_code 46 = .ok (.aload_n 0, 1) := by decide +kernel
theorem dM_says_47 : decode prog_13_method_33_code 47 = .ok (.iload_n 2, 1) := by decide +kernel
theorem dM_says_48 : decode prog_13_method_33_code 48 = .ok (.invokevirtual 120, 3) := by decide +kernel
theorem dM_says_51 : decode prog_13_method_33_code 51 = .ok (.areturn, 1) := by decide +kernel
theorem dM_sort0_0 : decode prog_13_method_94_code 0 = .ok (.aload_n 0, 1) := by decide +kernel
theorem dM_sort0_1 : decode prog_13_method_94_code 1 = .ok (.invokevirtual 424, 3) := by decide +kernel
theorem dM_sort0_4 : decode prog_13_method_94_code 4 = .ok (.aload_n 0, 1) := by decide +kernel
theorem dM_sort0_5 : decode prog_13_method_94_code 5 = .ok (.iload_n 1, 1) := by decide +kernel
theorem dM_sort0_6 : decode prog_13_method_94_code 6 = .ok (.invokevirtual 427, 3) := by decide +kernel
theorem dM_sort0_9 : decode prog_13_method_94_code 9 = .ok (.ifCond .ne 29, 3) := by decide +kernel
theorem dM_sort0_12 : decode prog_13_method_94_code 12 = .ok (.iload_n 2, 1) := by decide +kernel
theorem dM_sort0_13 : decode prog_13_method_94_code 13 = .ok (.ifCond .lt 25, 3) := by decide +kernel
theorem dM_sort0_16 : decode prog_13_method_94_code 16 = .ok (.iload_n 2, 1) := by decide +kernel
theorem dM_sort0_17 : decode prog_13_method_94_code 17 = .ok (.iconst 4, 1) := by decide +kernel
theorem dM_sort0_18 : decode prog_13_method_94_code 18 = .ok (.if_icmp .gt 20, 3) := by decide +kernel
theorem dM_sort0_21 : decode prog_13_method_94_code 21 = .ok (.aload_n 0, 1) := by decide +kernel
theorem dM_sort0_22 : decode prog_13_method_94_code 22 = .ok (.iload_n 3, 1) := by decide +kernel
theorem dM_sort0_23 : decode prog_13_method_94_code 23 = .ok (.invokevirtual 427, 3) := by decide +kernel
theorem dM_sort0_26 : decode prog_13_method_94_code 26 = .ok (.ifCond .ne 12, 3) := by decide +kernel
theorem dM_sort0_29 : decode prog_13_method_94_code 29 = .ok (.aload_n 0, 1) := by decide +kernel
theorem dM_sort0_30 : decode prog_13_method_94_code 30 = .ok (.iload 4, 2) := by decide +kernel
theorem dM_sort0_32 : decode prog_13_method_94_code 32 = .ok (.invokevirtual 427, 3) := by decide +kernel
theorem dM_sort0_35 : decode prog_13_method_94_code 35 = .ok (.ifCond .eq 11, 3) := by decide +kernel
theorem dM_sort0_38 : decode prog_13_method_94_code 38 = .ok (.aload_n 0, 1) := by decide +kernel
theorem dM_sort0_39 : decode prog_13_method_94_code 39 = .ok (.iconst 1, 1) := by decide +kernel
theorem dM_sort0_40 : decode prog_13_method_94_code 40 = .ok (.putfield 77, 3) := by decide +kernel
theorem dM_sort0_43 : decode prog_13_method_94_code 43 = .ok (.goto 13, 3) := by decide +kernel
theorem dM_sort0_46 : decode prog_13_method_94_code 46 = .ok (.aload_n 0, 1) := by decide +kernel
theorem dM_sort0_47 : decode prog_13_method_94_code 47 = .ok (.iload_n 1, 1) := by decide +kernel
theorem dM_sort0_48 : decode prog_13_method_94_code 48 = .ok (.iconst 3, 1) := by decide +kernel
theorem dM_sort0_49 : decode prog_13_method_94_code 49 = .ok (.iload_n 2, 1) := by decide +kernel
theorem dM_sort0_50 : decode prog_13_method_94_code 50 = .ok (.iload_n 3, 1) := by decide +kernel
theorem dM_sort0_51 : decode prog_13_method_94_code 51 = .ok (.iload 4, 2) := by decide +kernel
theorem dM_sort0_53 : decode prog_13_method_94_code 53 = .ok (.invokevirtual 442, 3) := by decide +kernel
theorem dM_sort0_56 : decode prog_13_method_94_code 56 = .ok (.return_, 1) := by decide +kernel
theorem dM_sort1_0 : decode prog_13_method_27_code 0 = .ok (.aload_n 1, 1) := by decide +kernel
theorem dM_sort1_1 : decode prog_13_method_27_code 1 = .ok (.getfield 103, 3) := by decide +kernel
theorem dM_sort1_4 : decode prog_13_method_27_code 4 = .ok (.istore 4, 2) := by decide +kernel
theorem dM_sort1_6 : decode prog_13_method_27_code 6 = .ok (.iload_n 3, 1) := by decide +kernel
theorem dM_sort1_7 : decode prog_13_method_27_code 7 = .ok (.iconst 2, 1) := by decide +kernel
theorem dM_sort1_8 : decode prog_13_method_27_code 8 = .ok (.if_icmp .le 99, 3) := by decide +kernel
theorem dM_sort1_11 : decode prog_13_method_27_code 11 = .ok (.iconst (-1), 1) := by decide +kernel
theorem dM_sort1_12 : decode prog_13_method_27_code 12 = .ok (.istore 5, 2) := by decide +kernel
theorem dM_sort1_14 : decode prog_13_method_27_code 14 = .ok (.iconst 0, 1) := by decide +kernel
theorem dM_sort1_15 : decode prog_13_method_27_code 15 = .ok (.istore 6, 2) := by decide +kernel
theorem dM_sort1_17 : decode prog_13_method_27_code 17 = .ok (.iload 6, 2) := by decide +kernel
theorem dM_sort1_19 : decode prog_13_method_27_code 19 = .ok (.iload 4, 2) := by decide +kernel
theorem dM_sort1_21 : decode prog_13_method_27_code 21 = .ok (.if_icmp .ge 65, 3) := by decide +kernel
theorem dM_sort1_24 : decode prog_13_method_27_code 24 = .ok (.iload 5, 2) := by decide +kernel
theorem dM_sort1_26 : decode prog_13_method_27_code 26 = .ok (.ifCond .ge 7, 3) := by decide +kernel
theorem dM_sort1_29 : decode prog_13_method_27_code 29 = .ok (.iconst (-1), 1) := by decide +kernel
theorem dM_sort1_30 : decode prog_13_method_27_code 30 = .ok (.goto 21, 3) := by decide +kernel
theorem dM_sort1_33 : decode prog_13_method_27_code 33 = .ok (.aload_n 0, 1) := by decide +kernel
theorem dM_sort1_34 : decode prog_13_method_27_code 34 = .ok (.aload_n 0, 1) := by decide +kernel
theorem dM_sort1_35 : decode prog_13_method_27_code 35 = .ok (.aload_n 2, 1) := by decide +kernel
theorem dM_sort1_36 : decode prog_13_method_27_code 36 = .ok (.iload 6, 2) := by decide +kernel
theorem dM_sort1_38 : decode prog_13_method_27_code 38 = .ok (.invokevirtual 170, 3) := by decide +kernel
theorem dM_sort1_41 : decode prog_13_method_27_code 41 = .ok (.aload_n 0, 1) := by decide +kernel
theorem dM_sort1_42 : decode prog_13_method_27_code 42 = .ok (.aload_n 2, 1) := by decide +kernel
theorem dM_sort1_43 : decode prog_13_method_27_code 43 = .ok (.iload 5, 2) := by decide +kernel
theorem dM_sort1_45 : decode prog_13_method_27_code 45 = .ok (.invokevirtual 170, 3) := by decide +kernel
theorem dM_sort1_48 : decode prog_13_method_27_code 48 = .ok (.invokevirtual 176, 3) := by decide +kernel
theorem dM_sort1_51 : decode prog_13_method_27_code 51 = .ok (.istore 7, 2) := by decide +kernel
theorem dM_sort1_53 : decode prog_13_method_27_code 53 = .ok (.iload 5, 2) := by decide +kernel
theorem dM_sort1_55 : decode prog_13_method_27_code 55 = .ok (.ifCond .lt 21, 3) := by decide +kernel
theorem dM_sort1_58 : decode prog_13_method_27_code 58 = .ok (.iload_n 3, 1) := by decide +kernel
theorem dM_sort1_59 : decode prog_13_method_27_code 59 = .ok (.iconst 3, 1) := by decide +kernel
theorem dM_sort1_60 : decode prog_13_method_27_code 60 = .ok (.if_icmp .ne 11, 3) := by decide +kernel
theorem dM_sort1_63 : decode prog_13_method_27_code 63 = .ok (.iload 7, 2) := by decide +kernel
theorem dM_sort1_65 : decode prog_13_method_27_code 65 = .ok (.ifCond .ge 15, 3) := by decide +kernel
theorem dM_sort1_68 : decode prog_13_method_27_code 68 = .ok (.goto 8, 3) := by decide +kernel
theorem dM_sort1_71 : decode prog_13_method_27_code 71 = .ok (.iload 7, 2) := by decide +kernel
theorem dM_sort1_73 : decode prog_13_method_27_code 73 = .ok (.ifCond .lt 7, 3) := by decide +kernel
theorem dM_sort1_76 : decode prog_13_method_27_code 76 = .ok (.iload 6, 2) := by decide +kernel
theorem dM_sort1_78 : decode prog_13_method_27_code 78 = .ok (.istore 5, 2) := by decide +kernel
theorem dM_sort1_80 : decode prog_13_method_27_code 80 = .ok (.iinc 6 1, 3) := by decide +kernel
theorem dM_sort1_83 : decode prog_13_method_27_code 83 = .ok (.goto (-66), 3) := by decide +kernel
theorem dM_sort1_86 : decode prog_13_method_27_code 86 = .ok (.iload 5, 2) := by decide +kernel
theorem dM_sort1_88 : decode prog_13_method_27_code 88 = .ok (.ifCond .ge 11, 3) := by decide +kernel
theorem dM_sort1_91 : decode prog_13_method_27_code 91 = .ok (.aload_n 0, 1) := by decide +kernel
theorem dM_sort1_92 : decode prog_13_method_27_code 92 = .ok (.iconst 0, 1) := by decide +kernel
theorem dM_sort1_93 : decode prog_13_method_27_code 93 = .ok (.invokevirtual 120, 3) := by decide +kernel
theorem dM_sort1_96 : decode prog_13_method_27_code 96 = .ok (.goto 10, 3) := by decide +kernel
theorem dM_sort1_99 : decode prog_13_method_27_code 99 = .ok (.aload_n 0, 1) := by decide +kernel
theorem dM_sort1_100 : decode prog_13_method_27_code 100 = .ok (.aload_n 1, 1) := by decide +kernel
theorem dM_sort1_101 : decode prog_13_method_27_code 101 = .ok (.iload 5, 2) := by decide +kernel
theorem dM_sort1_103 : decode prog_13_method_27_code 103 = .ok (.invokevirtual 170, 3) := by decide +kernel
theorem dM_sort1_106 : decode prog_13_method_27_code 106 = .ok (.areturn, 1) := by decide +kernel
theorem dM_sort1_107 : decode prog_13_method_27_code 107 = .ok (.aload_n 0, 1) := by decide +kernel
theorem dM_sort1_108 : decode prog_13_method_27_code 108 = .ok (.aload_n 2, 1) := by decide +kernel
theorem dM_sort1_109 : decode prog_13_method_27_code 109 = .ok (.invokevirtual 201, 3) := by decide +kernel
theorem dM_sort1_112 : decode prog_13_method_27_code 112 = .ok (.aload_n 0, 1) := by decide +kernel
theorem dM_sort1_113 : decode prog_13_method_27_code 113 = .ok (.getfield 142, 3) := by decide +kernel
theorem dM_sort1_116 : decode prog_13_method_27_code 116 = .ok (.istore 5, 2) := by decide +kernel
theorem dM_sort1_118 : decode prog_13_method_27_code 118 = .ok (.iconst 0, 1) := by decide +kernel
theorem dM_sort1_119 : decode prog_13_method_27_code 119 = .ok (.istore 6, 2) := by decide +kernel
theorem dM_sort1_121 : decode prog_13_method_27_code 121 = .ok (.iload 6, 2) := by decide +kernel
theorem dM_sort1_123 : decode prog_13_method_27_code 123 = .ok (.iload 4, 2) := by decide +kernel
theorem dM_sort1_125 : decode prog_13_method_27_code 125 = .ok (.if_icmp .ge 150, 3) := by decide +kernel
theorem dM_sort1_128 : decode prog_13_method_27_code 128 = .ok (.aload_n 0, 1) := by decide +kernel
theorem dM_sort1_129 : decode prog_13_method_27_code 129 = .ok (.getfield 31, 3) := by decide +kernel
theorem dM_sort1_132 : decode prog_13_method_27_code 132 = .ok (.iload 6, 2) := by decide +kernel
theorem dM_sort1_134 : decode prog_13_method_27_code 134 = .ok (.iaload, 1) := by decide +kernel
theorem dM_sort1_135 : decode prog_13_method_27_code 135 = .ok (.istore 7, 2) := by decide +kernel
theorem dM_sort1_137 : decode prog_13_method_27_code 137 = .ok (.iload_n 3, 1) := by decide +kernel
theorem dM_sort1_138 : decode prog_13_method_27_code 138 = .ok (.ifCond .ne 21, 3) := by decide +kernel
theorem dM_sort1_141 : decode prog_13_method_27_code 141 = .ok (.aload_n 0, 1) := by decide +kernel
theorem dM_sort1_142 : decode prog_13_method_27_code 142 = .ok (.aconst_null, 1) := by decide +kernel
theorem dM_sort1_143 : decode prog_13_method_27_code 143 = .ok (.aload_n 0, 1) := by decide +kernel
theorem dM_sort1_144 : decode prog_13_method_27_code 144 = .ok (.aload_n 1, 1) := by decide +kernel
theorem dM_sort1_145 : decode prog_13_method_27_code 145 = .ok (.iload 7, 2) := by decide +kernel
theorem dM_sort1_147 : decode prog_13_method_27_code 147 = .ok (.invokevirtual 170, 3) := by decide +kernel
theorem dM_sort1_150 : decode prog_13_method_27_code 150 = .ok (.invokevirtual 186, 3) := by decide +kernel
theorem dM_sort1_153 : decode prog_13_method_27_code 153 = .ok (.iinc 6 1, 3) := by decide +kernel
theorem dM_sort1_156 : decode prog_13_method_27_code 156 = .ok (.goto (-35), 3) := by decide +kernel
theorem dM_sort1_159 : decode prog_13_method_27_code 159 = .ok (.iload 6, 2) := by decide +kernel
theorem dM_sort1_161 : decode prog_13_method_27_code 161 = .ok (.istore 8, 2) := by decide +kernel
theorem dM_sort1_163 : decode prog_13_method_27_code 163 = .ok (.aload_n 0, 1) := by decide +kernel
theorem dM_sort1_164 : decode prog_13_method_27_code 164 = .ok (.getfield 142, 3) := by decide +kernel
theorem dM_sort1_167 : decode prog_13_method_27_code 167 = .ok (.istore 9, 2) := by decide +kernel
theorem dM_sort1_169 : decode prog_13_method_27_code 169 = .ok (.iload 8, 2) := by decide +kernel
theorem dM_sort1_171 : decode prog_13_method_27_code 171 = .ok (.iload 4, 2) := by decide +kernel
theorem dM_sort1_173 : decode prog_13_method_27_code 173 = .ok (.if_icmp .ge 64, 3) := by decide +kernel
theorem dM_sort1_176 : decode prog_13_method_27_code 176 = .ok (.aload_n 0, 1) := by decide +kernel
theorem dM_sort1_177 : decode prog_13_method_27_code 177 = .ok (.aload_n 0, 1) := by decide +kernel
theorem dM_sort1_178 : decode prog_13_method_27_code 178 = .ok (.aload_n 2, 1) := by decide +kernel
theorem dM_sort1_179 : decode prog_13_method_27_code 179 = .ok (.aload_n 0, 1) := by decide +kernel
theorem dM_sort1_180 : decode prog_13_method_27_code 180 = .ok (.getfield 31, 3) := by decide +kernel
theorem dM_sort1_183 : decode prog_13_method_27_code 183 = .ok (.iload 8, 2) := by decide +kernel
theorem dM_sort1_185 : decode prog_13_method_27_code 185 = .ok (.iaload, 1) := by decide +kernel
theorem dM_sort1_186 : decode prog_13_method_27_code 186 = .ok (.invokevirtual 170, 3) := by decide +kernel
theorem dM_sort1_189 : decode prog_13_method_27_code 189 = .ok (.aload_n 0, 1) := by decide +kernel
theorem dM_sort1_190 : decode prog_13_method_27_code 190 = .ok (.aload_n 2, 1) := by decide +kernel
theorem dM_sort1_191 : decode prog_13_method_27_code 191 = .ok (.iload 7, 2) := by decide +kernel
theorem dM_sort1_193 : decode prog_13_method_27_code 193 = .ok (.invokevirtual 170, 3) := by decide +kernel
theorem dM_sort1_196 : decode prog_13_method_27_code 196 = .ok (.invokevirtual 176, 3) := by decide +kernel
theorem dM_sort1_199 : decode prog_13_method_27_code 199 = .ok (.ifCond .ne 38, 3) := by decide +kernel
theorem dM_sort1_202 : decode prog_13_method_27_code 202 = .ok (.iload_n 3, 1) := by decide +kernel
theorem dM_sort1_203 : decode prog_13_method_27_code 203 = .ok (.iconst 1, 1) := by decide +kernel
theorem dM_sort1_204 : decode prog_13_method_27_code 204 = .ok (.if_icmp .eq 10, 3) := by decide +kernel
theorem dM_sort1_207 : decode prog_13_method_27_code 207 = .ok (.iload 8, 2) := by decide +kernel
theorem dM_sort1_209 : decode prog_13_method_27_code 209 = .ok (.iload 6, 2) := by decide +kernel
theorem dM_sort1_211 : decode prog_13_method_27_code 211 = .ok (.if_icmp .ne 20, 3) := by decide +kernel
theorem dM_sort1_214 : decode prog_13_method_27_code 214 = .ok (.aload_n 0, 1) := by decide +kernel
theorem dM_sort1_215 : decode prog_13_method_27_code 215 = .ok (.aconst_null, 1) := by decide +kernel
theorem dM_sort1_216 : decode prog_13_method_27_code 216 = .ok (.aload_n 0, 1) := by decide +kernel
theorem dM_sort1_217 : decode prog_13_method_27_code 217 = .ok (.aload_n 1, 1) := by decide +kernel
theorem dM_sort1_218 : decode prog_13_method_27_code 218 = .ok (.aload_n 0, 1) := by decide +kernel
theorem dM_sort1_219 : decode prog_13_method_27_code 219 = .ok (.getfield 31, 3) := by decide +kernel
theorem dM_sort1_222 : decode prog_13_method_27_code 222 = .ok (.iload 8, 2) := by decide +kernel
theorem dM_sort1_224 : decode prog_13_method_27_code 224 = .ok (.iaload, 1) := by decide +kernel
theorem dM_sort1_225 : decode prog_13_method_27_code 225 = .ok (.invokevirtual 170, 3) := by decide +kernel
theorem dM_sort1_228 : decode prog_13_method_27_code 228 = .ok (.invokevirtual 186, 3) := by decide +kernel
theorem dM_sort1_231 : decode prog_13_method_27_code 231 = .ok (.iinc 8 1, 3) := by decide +kernel
theorem dM_sort1_234 : decode prog_13_method_27_code 234 = .ok (.goto (-65), 3) := by decide +kernel
theorem dM_sort1_237 : decode prog_13_method_27_code 237 = .ok (.iload_n 3, 1) := by decide +kernel
theorem dM_sort1_238 : decode prog_13_method_27_code 238 = .ok (.iconst 1, 1) := by decide +kernel
theorem dM_sort1_239 : decode prog_13_method_27_code 239 = .ok (.if_icmp .ne 29, 3) := by decide +kernel
theorem dM_sort1_242 : decode prog_13_method_27_code 242 = .ok (.aload_n 0, 1) := by decide +kernel
theorem dM_sort1_243 : decode prog_13_method_27_code 243 = .ok (.dup, 1) := by decide +kernel
theorem dM_sort1_244 : decode prog_13_method_27_code 244 = .ok (.getfield 156, 3) := by decide +kernel
theorem dM_sort1_247 : decode prog_13_method_27_code 247 = .ok (.iload 8, 2) := by decide +kernel
theorem dM_sort1_249 : decode prog_13_method_27_code 249 = .ok (.iload 6, 2) := by decide +kernel
theorem dM_sort1_251 : decode prog_13_method_27_code 251 = .ok (.isub, 1) := by decide +kernel
theorem dM_sort1_252 : decode prog_13_method_27_code 252 = .ok (.iadd, 1) := by decide +kernel
theorem dM_sort1_253 : decode prog_13_method_27_code 253 = .ok (.putfield 156, 3) := by decide +kernel
theorem dM_sort1_256 : decode prog_13_method_27_code 256 = .ok (.aload_n 0, 1) := by decide +kernel
theorem dM_sort1_257 : decode prog_13_method_27_code 257 = .ok (.aconst_null, 1) := by decide +kernel
theorem dM_sort1_258 : decode prog_13_method_27_code 258 = .ok (.aload_n 0, 1) := by decide +kernel
theorem dM_sort1_259 : decode prog_13_method_27_code 259 = .ok (.iconst 5, 1) := by decide +kernel
theorem dM_sort1_260 : decode prog_13_method_27_code 260 = .ok (.iload 9, 2) := by decide +kernel
theorem dM_sort1_262 : decode prog_13_method_27_code 262 = .ok (.invokevirtual 190, 3) := by decide +kernel
theorem dM_sort1_265 : decode prog_13_method_27_code 265 = .ok (.invokevirtual 186, 3) := by decide +kernel
theorem dM_sort1_268 : decode prog_13_method_27_code 268 = .ok (.iload 8, 2) := by decide +kernel
theorem dM_sort1_270 : decode prog_13_method_27_code 270 = .ok (.istore 6, 2) := by decide +kernel
theorem dM_sort1_272 : decode prog_13_method_27_code 272 = .ok (.goto (-151), 3) := by decide +kernel
theorem dM_sort1_275 : decode prog_13_method_27_code 275 = .ok (.aload_n 0, 1) := by decide +kernel
theorem dM_sort1_276 : decode prog_13_method_27_code 276 = .ok (.iconst 5, 1) := by decide +kernel
theorem dM_sort1_277 : decode prog_13_method_27_code 277 = .ok (.iload 5, 2) := by decide +kernel
theorem dM_sort1_279 : decode prog_13_method_27_code 279 = .ok (.invokevirtual 190, 3) := by decide +kernel
theorem dM_sort1_282 : decode prog_13_method_27_code 282 = .ok (.areturn, 1) := by decide +kernel
theorem dM_split_0 : decode prog_13_method_53_code 0 = .ok (.aload_n 0, 1) := by decide +kernel
theorem dM_split_1 : decode prog_13_method_53_code 1 = .ok (.getfield 142, 3) := by decide +kernel
theorem dM_split_4 : decode prog_13_method_53_code 4 = .ok (.istore_n 3, 1) := by decide +kernel
theorem dM_split_5 : decode prog_13_method_53_code 5 = .ok (.iconst 0, 1) := by decide +kernel
theorem dM_split_6 : decode prog_13_method_53_code 6 = .ok (.istore 4, 2) := by decide +kernel
theorem dM_split_8 : decode prog_13_method_53_code 8 = .ok (.iconst 0, 1) := by decide +kernel
theorem dM_split_9 : decode prog_13_method_53_code 9 = .ok (.istore 5, 2) := by decide +kernel
theorem dM_split_11 : decode prog_13_method_53_code 11 = .ok (.iload 5, 2) := by decide +kernel
theorem dM_split_13 : decode prog_13_method_53_code 13 = .ok (.aload_n 1, 1) := by decide +kernel
theorem dM_split_14 : decode prog_13_method_53_code 14 = .ok (.getfield 103, 3) := by decide +kernel
theorem dM_split_17 : decode prog_13_method_53_code 17 = .ok (.if_icmp .ge 161, 3) := by decide +kernel
theorem dM_split_20 : decode prog_13_method_53_code 20 = .ok (.aload_n 2, 1) := by decide +kernel
theorem dM_split_21 : decode prog_13_method_53_code 21 = .ok (.getfield 103, 3) := by decide +kernel
theorem dM_split_24 : decode prog_13_method_53_code 24 = .ok (.ifCond .le 21, 3) := by decide +kernel
theorem dM_split_27 : decode prog_13_method_53_code 27 = .ok (.iload 5, 2) := by decide +kernel
theorem dM_split_29 : decode prog_13_method_53_code 29 = .ok (.aload_n 2, 1) := by decide +kernel
theorem dM_split_30 : decode prog_13_method_53_code 30 = .ok (.getfield 103, 3) := by decide +kernel
theorem dM_split_33 : decode prog_13_method_53_code 33 = .ok (.iadd, 1) := by decide +kernel
theorem dM_split_34 : decode prog_13_method_53_code 34 = .ok (.aload_n 1, 1) := by decide +kernel
theorem dM_split_35 : decode prog_13_method_53_code 35 = .ok (.getfield 103, 3) := by decide +kernel
theorem dM_split_38 : decode prog_13_method_53_code 38 = .ok (.if_icmp .gt 7, 3) := by decide +kernel
theorem dM_split_41 : decode prog_13_method_53_code 41 = .ok (.iconst 1, 1) := by decide +kernel
theorem dM_split_42 : decode prog_13_method_53_code 42 = .ok (.goto 4, 3) := by decide +kernel
theorem dM_split_45 : decode prog_13_method_53_code 45 = .ok (.iconst 0, 1) := by decide +kernel
theorem dM_split_46 : decode prog_13_method_53_code 46 = .ok (.istore 6, 2) := by decide +kernel
theorem dM_split_48 : decode prog_13_method_53_code 48 = .ok (.iconst 0, 1) := by decide +kernel
theorem dM_split_49 : decode prog_13_method_53_code 49 = .ok (.istore 7, 2) := by decide +kernel
theorem dM_split_51 : decode prog_13_method_53_code 51 = .ok (.iload 7, 2) := by decide +kernel
theorem dM_split_53 : decode prog_13_method_53_code 53 = .ok (.aload_n 2, 1) := by decide +kernel
theorem dM_split_54 : decode prog_13_method_53_code 54 = .ok (.getfield 103, 3) := by decide +kernel
theorem dM_split_57 : decode prog_13_method_53_code 57 = .ok (.if_icmp .ge 51, 3) := by decide +kernel
theorem dM_split_60 : decode prog_13_method_53_code 60 = .ok (.iload 6, 2) := by decide +kernel
theorem dM_split_62 : decode prog_13_method_53_code 62 = .ok (.ifCond .eq 46, 3) := by decide +kernel
theorem dM_split_65 : decode prog_13_method_53_code 65 = .ok (.aload_n 0, 1) := by decide +kernel
theorem dM_split_66 : decode prog_13_method_53_code 66 = .ok (.getfield 15, 3) := by decide +kernel
theorem dM_split_69 : decode prog_13_method_53_code 69 = .ok (.aload_n 1, 1) := by decide +kernel
theorem dM_split_70 : decode prog_13_method_53_code 70 = .ok (.getfield 100, 3) := by decide +kernel
theorem dM_split_73 : decode prog_13_method_53_code 73 = .ok (.iload 5, 2) := by decide +kernel
theorem dM_split_75 : decode prog_13_method_53_code 75 = .ok (.iadd, 1) := by decide +kernel
theorem dM_split_76 : decode prog_13_method_53_code 76 = .ok (.iload 7, 2) := by decide +kernel
theorem dM_split_78 : decode prog_13_method_53_code 78 = .ok (.iadd, 1) := by decide +kernel
theorem dM_split_79 : decode prog_13_method_53_code 79 = .ok (.baload, 1) := by decide +kernel
theorem dM_split_80 : decode prog_13_method_53_code 80 = .ok (.aload_n 0, 1) := by decide +kernel
theorem dM_split_81 : decode prog_13_method_53_code 81 = .ok (.getfield 15, 3) := by decide +kernel
theorem dM_split_84 : decode prog_13_method_53_code 84 = .ok (.aload_n 2, 1) := by decide +kernel
theorem dM_split_85 : decode prog_13_method_53_code 85 = .ok (.getfield 100, 3) := by decide +kernel
theorem dM_split_88 : decode prog_13_method_53_code 88 = .ok (.iload 7, 2) := by decide +kernel
theorem dM_split_90 : decode prog_13_method_53_code 90 = .ok (.iadd, 1) := by decide +kernel
theorem dM_split_91 : decode prog_13_method_53_code 91 = .ok (.baload, 1) := by decide +kernel
theorem dM_split_92 : decode prog_13_method_53_code 92 = .ok (.if_icmp .ne 7, 3) := by decide +kernel
theorem dM_split_95 : decode prog_13_method_53_code 95 = .ok (.iconst 1, 1) := by decide +kernel
theorem dM_split_96 : decode prog_13_method_53_code 96 = .ok (.goto 4, 3) := by decide +kernel
theorem dM_split_99 : decode prog_13_method_53_code 99 = .ok (.iconst 0, 1) := by decide +kernel
theorem dM_split_100 : decode prog_13_method_53_code 100 = .ok (.istore 6, 2) := by decide +kernel
theorem dM_split_102 : decode prog_13_method_53_code 102 = .ok (.iinc 7 1, 3) := by decide +kernel
theorem dM_split_105 : decode prog_13_method_53_code 105 = .ok (.goto (-54), 3) := by decide +kernel
theorem dM_split_108 : decode prog_13_method_53_code 108 = .ok (.aload_n 2, 1) := by decide +kernel
theorem dM_split_109 : decode prog_13_method_53_code 109 = .ok (.getfield 103, 3) := by decide +kernel
theorem dM_split_112 : decode prog_13_method_53_code 112 = .ok (.ifCond .ne 25, 3) := by decide +kernel
theorem dM_split_115 : decode prog_13_method_53_code 115 = .ok (.aload_n 0, 1) := by decide +kernel
theorem dM_split_116 : decode prog_13_method_53_code 116 = .ok (.aconst_null, 1) := by decide +kernel
theorem dM_split_117 : decode prog_13_method_53_code 117 = .ok (.aload_n 0, 1) := by decide +kernel
theorem dM_split_118 : decode prog_13_method_53_code 118 = .ok (.aload_n 1, 1) := by decide +kernel
theorem dM_split_119 : decode prog_13_method_53_code 119 = .ok (.iload 5, 2) := by decide +kernel
theorem dM_split_121 : decode prog_13_method_53_code 121 = .ok (.iload 5, 2) := by decide +kernel
theorem dM_split_123 : decode prog_13_method_53_code 123 = .ok (.iconst 1, 1) := by decide +kernel
theorem dM_split_124 : decode prog_13_method_53_code 124 = .ok (.iadd, 1) := by decide +kernel
theorem dM_split_125 : decode prog_13_method_53_code 125 = .ok (.invokevirtual 326, 3) := by decide +kernel
theorem dM_split_128 : decode prog_13_method_53_code 128 = .ok (.invokevirtual 186, 3) := by decide +kernel
theorem dM_split_131 : decode prog_13_method_53_code 131 = .ok (.iinc 5 1, 3) := by decide +kernel
theorem dM_split_134 : decode prog_13_method_53_code 134 = .ok (.goto 41, 3) := by decide +kernel
theorem dM_split_137 : decode prog_13_method_53_code 137 = .ok (.iload 6, 2) := by decide +kernel
theorem dM_split_139 : decode prog_13_method_53_code 139 = .ok (.ifCond .eq 33, 3) := by decide +kernel
theorem dM_split_142 : decode prog_13_method_53_code 142 = .ok (.aload_n 0, 1) := by decide +kernel
theorem dM_split_143 : decode prog_13_method_53_code 143 = .ok (.aconst_null, 1) := by decide +kernel
theorem dM_split_144 : decode prog_13_method_53_code 144 = .ok (.aload_n 0, 1) := by decide +kernel
theorem dM_split_145 : decode prog_13_method_53_code 145 = .ok (.aload_n 1, 1) := by decide +kernel
theorem dM_split_146 : decode prog_13_method_53_code 146 = .ok (.iload 4, 2) := by decide +kernel
theorem dM_split_148 : decode prog_13_method_53_code 148 = .ok (.iload 5, 2) := by decide +kernel
theorem dM_split_150 : decode prog_13_method_53_code 150 = .ok (.invokevirtual 326, 3) := by decide +kernel
theorem dM_split_153 : decode prog_13_method_53_code 153 = .ok (.invokevirtual 186, 3) := by decide +kernel
theorem dM_split_156 : decode prog_13_method_53_code 156 = .ok (.iload 5, 2) := by decide +kernel
theorem dM_split_158 : decode prog_13_method_53_code 158 = .ok (.aload_n 2, 1) := by decide +kernel
theorem dM_split_159 : decode prog_13_method_53_code 159 = .ok (.getfield 103, 3) := by decide +kernel
theorem dM_split_162 : decode prog_13_method_53_code 162 = .ok (.iadd, 1) := by decide +kernel
theorem dM_split_163 : decode prog_13_method_53_code 163 = .ok (.istore 5, 2) := by decide +kernel
theorem dM_split_165 : decode prog_13_method_53_code 165 = .ok (.iload 5, 2) := by decide +kernel
theorem dM_split_167 : decode prog_13_method_53_code 167 = .ok (.istore 4, 2) := by decide +kernel
theorem dM_split_169 : decode prog_13_method_53_code 169 = .ok (.goto 6, 3) := by decide +kernel
theorem dM_split_172 : decode prog_13_method_53_code 172 = .ok (.iinc 5 1, 3) := by decide +kernel
theorem dM_split_175 : decode prog_13_method_53_code 175 = .ok (.goto (-164), 3) := by decide +kernel
theorem dM_split_178 : decode prog_13_method_53_code 178 = .ok (.aload_n 2, 1) := by decide +kernel
theorem dM_split_179 : decode prog_13_method_53_code 179 = .ok (.getfield 103, 3) := by decide +kernel
theorem dM_split_182 : decode prog_13_method_53_code 182 = .ok (.ifCond .le 26, 3) := by decide +kernel
theorem dM_split_185 : decode prog_13_method_53_code 185 = .ok (.aload_n 1, 1) := by decide +kernel
theorem dM_split_186 : decode prog_13_method_53_code 186 = .ok (.getfield 103, 3) := by decide +kernel
theorem dM_split_189 : decode prog_13_method_53_code 189 = .ok (.ifCond .le 19, 3) := by decide +kernel
theorem dM_split_192 : decode prog_13_method_53_code 192 = .ok (.aload_n 0, 1) := by decide +kernel
theorem dM_split_193 : decode prog_13_method_53_code 193 = .ok (.aconst_null, 1) := by decide +kernel
theorem dM_split_194 : decode prog_13_method_53_code 194 = .ok (.aload_n 0, 1) := by decide +kernel
theorem dM_split_195 : decode prog_13_method_53_code 195 = .ok (.aload_n 1, 1) := by decide +kernel
theorem dM_split_196 : decode prog_13_method_53_code 196 = .ok (.iload 4, 2) := by decide +kernel
theorem dM_split_198 : decode prog_13_method_53_code 198 = .ok (.aload_n 1, 1) := by decide +kernel
theorem dM_split_199 : decode prog_13_method_53_code 199 = .ok (.getfield 103, 3) := by decide +kernel
theorem dM_split_202 : decode prog_13_method_53_code 202 = .ok (.invokevirtual 326, 3) := by decide +kernel
theorem dM_split_205 : decode prog_13_method_53_code 205 = .ok (.invokevirtual 186, 3) := by decide +kernel
theorem dM_split_208 : decode prog_13_method_53_code 208 = .ok (.aload_n 0, 1) := by decide +kernel
theorem dM_split_209 : decode prog_13_method_53_code 209 = .ok (.iconst 5, 1) := by decide +kernel
theorem dM_split_210 : decode prog_13_method_53_code 210 = .ok (.iload_n 3, 1) := by decide +kernel
theorem dM_split_211 : decode prog_13_method_53_code 211 = .ok (.invokevirtual 190, 3) := by decide +kernel
theorem dM_split_214 : decode prog_13_method_53_code 214 = .ok (.areturn, 1) := by decide +kernel
theorem dM_store_0 : decode prog_13_method_80_code 0 = .ok (.aload_n 0, 1) := by decide +kernel
theorem dM_store_1 : decode prog_13_method_80_code 1 = .ok (.iconst 0, 1) := by decide +kernel
theorem dM_store_2 : decode prog_13_method_80_code 2 = .ok (.putfield 276, 3) := by decide +kernel
theorem dM_store_5 : decode prog_13_method_80_code 5 = .ok (.aload_n 0, 1) := by decide +kernel
theorem dM_store_6 : decode prog_13_method_80_code 6 = .ok (.sipush 4096, 3) := by decide +kernel
theorem dM_store_9 : decode prog_13_method_80_code 9 = .ok (.putfield 49, 3) := by decide +kernel
theorem dM_store_12 : decode prog_13_method_80_code 12 = .ok (.aload_n 0, 1) := by decide +kernel
theorem dM_store_13 : decode prog_13_method_80_code 13 = .ok (.aload_n 2, 1) := by decide +kernel
theorem dM_store_14 : decode prog_13_method_80_code 14 = .ok (.invokevirtual 299, 3) := by decide +kernel
theorem dM_store_17 : decode prog_13_method_80_code 17 = .ok (.iconst 0, 1) := by decide +kernel
theorem dM_store_18 : decode prog_13_method_80_code 18 = .ok (.istore_n 3, 1) := by decide +kernel
theorem dM_store_19 : decode prog_13_method_80_code 19 = .ok (.iload_n 3, 1) := by decide +kernel
theorem dM_store_20 : decode prog_13_method_80_code 20 = .ok (.aload_n 0, 1) := by decide +kernel
theorem dM_store_21 : decode prog_13_method_80_code 21 = .ok (.getfield 276, 3) := by decide +kernel
theorem dM_store_24 : decode prog_13_method_80_code 24 = .ok (.if_icmp .ge 23, 3) := by decide +kernel
theorem dM_store_27 : decode prog_13_method_80_code 27 = .ok (.aload_n 0, 1) := by decide +kernel
theorem dM_store_28 : decode prog_13_method_80_code 28 = .ok (.getfield 54, 3) := by decide +kernel
theorem dM_store_31 : decode prog_13_method_80_code 31 = .ok (.iload_n 1, 1) := by decide +kernel
theorem dM_store_32 : decode prog_13_method_80_code 32 = .ok (.aaload, 1) := by decide +kernel
theorem dM_store_33 : decode prog_13_method_80_code 33 = .ok (.iload_n 3, 1) := by decide +kernel
theorem dM_store_34 : decode prog_13_method_80_code 34 = .ok (.aload_n 0, 1) := by decide +kernel
theorem dM_store_35 : decode prog_13_method_80_code 35 = .ok (.getfield 45, 3) := by decide +kernel
theorem dM_store_38 : decode prog_13_method_80_code 38 = .ok (.iload_n 3, 1) := by decide +kernel
theorem dM_store_39 : decode prog_13_method_80_code 39 = .ok (.baload, 1) := by decide +kernel
theorem dM_store_40 : decode prog_13_method_80_code 40 = .ok (.bastore, 1) := by decide +kernel
theorem dM_store_41 : decode prog_13_method_80_code 41 = .ok (.iinc 3 1, 3) := by decide +kernel
theorem dM_store_44 : decode prog_13_method_80_code 44 = .ok (.goto (-25), 3) := by decide +kernel
theorem dM_store_47 : decode prog_13_method_80_code 47 = .ok (.aload_n 0, 1) := by decide +kernel
theorem dM_store_48 : decode prog_13_method_80_code 48 = .ok (.getfield 57, 3) := by decide +kernel
theorem dM_store_51 : decode prog_13_method_80_code 51 = .ok (.iload_n 1, 1) := by decide +kernel
theorem dM_store_52 : decode prog_13_method_80_code 52 = .ok (.aload_n 0, 1) := by decide +kernel
theorem dM_store_53 : decode prog_13_method_80_code 53 = .ok (.getfield 276, 3) := by decide +kernel
theorem dM_store_56 : decode prog_13_method_80_code 56 = .ok (.iastore, 1) := by decide +kernel
theorem dM_store_57 : decode prog_13_method_80_code 57 = .ok (.aload_n 0, 1) := by decide +kernel
theorem dM_store_58 : decode prog_13_method_80_code 58 = .ok (.getfield 276, 3) := by decide +kernel
theorem dM_store_61 : decode prog_13_method_80_code 61 = .ok (.ireturn, 1) := by decide +kernel
theorem dM_string_0 : decode prog_13_method_10_code 0 = .ok (.aload_n 0, 1) := by decide +kernel
theorem dM_string_1 : decode prog_13_method_10_code 1 = .ok (.iconst 4, 1) := by decide +kernel
theorem dM_string_2 : decode prog_13_method_10_code 2 = .ok (.invokevirtual 120, 3) := by decide +kernel
theorem dM_string_5 : decode prog_13_method_10_code 5 = .ok (.astore_n 2, 1) := by decide +kernel
theorem dM_string_6 : decode prog_13_method_10_code 6 = .ok (.aload_n 2, 1) := by decide +kernel
theorem dM_string_7 : decode prog_13_method_10_code 7 = .ok (.iload_n 1, 1) := by decide +kernel
theorem dM_string_8 : decode prog_13_method_10_code 8 = .ok (.putfield 100, 3) := by decide +kernel
theorem dM_string_11 : decode prog_13_method_10_code 11 = .ok (.aload_n 2, 1) := by decide +kernel
theorem dM_string_12 : decode prog_13_method_10_code 12 = .ok (.aload_n 0, 1) := by decide +kernel
theorem dM_string_13 : decode prog_13_method_10_code 13 = .ok (.getfield 123, 3) := by decide +kernel
theorem dM_string_16 : decode prog_13_method_10_code 16 = .ok (.iload_n 1, 1) := by decide +kernel
theorem dM_string_17 : decode prog_13_method_10_code 17 = .ok (.isub, 1) := by decide +kernel
theorem dM_string_18 : decode prog_13_method_10_code 18 = .ok (.putfield 103, 3) := by decide +kernel
theorem dM_string_21 : decode prog_13_method_10_code 21 = .ok (.aload_n 2, 1) := by decide +kernel
theorem dM_string_22 : decode prog_13_method_10_code 22 = .ok (.iconst 1, 1) := by decide +kernel
theorem dM_string_23 : decode prog_13_method_10_code 23 = .ok (.aload_n 2, 1) := by decide +kernel
theorem dM_string_24 : decode prog_13_method_10_code 24 = .ok (.getfield 103, 3) := by decide +kernel
theorem dM_string_27 : decode prog_13_method_10_code 27 = .ok (.iadd, 1) := by decide +kernel
theorem dM_string_28 : decode prog_13_method_10_code 28 = .ok (.putfield 109, 3) := by decide +kernel
theorem dM_string_31 : decode prog_13_method_10_code 31 = .ok (.aload_n 2, 1) := by decide +kernel
theorem dM_string_32 : decode prog_13_method_10_code 32 = .ok (.getfield 109, 3) := by decide +kernel
theorem dM_string_35 : decode prog_13_method_10_code 35 = .ok (.ldc 126, 2) := by decide +kernel
theorem dM_string_37 : decode prog_13_method_10_code 37 = .ok (.if_icmp .le 8, 3) := by decide +kernel
theorem dM_string_40 : decode prog_13_method_10_code 40 = .ok (.aload_n 0, 1) := by decide +kernel
theorem dM_string_41 : decode prog_13_method_10_code 41 = .ok (.invokevirtual 127, 3) := by decide +kernel
theorem dM_string_45 : decode prog_13_method_10_code 45 = .ok (.aload_n 2, 1) := by decide +kernel
theorem dM_string_46 : decode prog_13_method_10_code 46 = .ok (.areturn, 1) := by decide +kernel
theorem dM_text_0 : decode prog_13_method_56_code 0 = .ok (.aload_n 1, 1) := by decide +kernel
theorem dM_text_1 : decode prog_13_method_56_code 1 = .ok (.getfield 93, 3) := by decide +kernel
theorem dM_text_4 : decode prog_13_method_56_code 4 = .ok (.iconst 4, 1) := by decide +kernel
theorem dM_text_5 : decode prog_13_method_56_code 5 = .ok (.if_icmp .ne 7, 3) := by decide +kernel
theorem dM_text_8 : decode prog_13_method_56_code 8 = .ok (.aload_n 1, 1) := by decide +kernel
theorem dM_text_9 : decode prog_13_method_56_code 9 = .ok (.goto 8, 3) := by decide +kernel
theorem dM_text_12 : decode prog_13_method_56_code 12 = .ok (.aload_n 0, 1) := by decide +kernel
theorem dM_text_13 : decode prog_13_method_56_code 13 = .ok (.iconst 1, 1) := by decide +kernel
theorem dM_text_14 : decode prog_13_method_56_code 14 = .ok (.invokevirtual 116, 3) := by decide +kernel
theorem dM_text_17 : decode prog_13_method_56_code 17 = .ok (.areturn, 1) := by decide +kernel
theorem dM_thrown_0 : decode prog_13_method_2_code 0 = .ok (.aload_n 0, 1) := by decide +kernel
theorem dM_thrown_1 : decode prog_13_method_2_code 1 = .ok (.getfield 77, 3) := by decide +kernel
theorem dM_thrown_4 : decode prog_13_method_2_code 4 = .ok (.ireturn, 1) := by decide +kernel
theorem dM_times_0 : decode prog_13_method_51_code 0 = .ok (.aload_n 1, 1) := by decide +kernel
theorem dM_times_1 : decode prog_13_method_51_code 1 = .ok (.getfield 93, 3) := by decide +kernel
theorem dM_times_4 : decode prog_13_method_51_code 4 = .ok (.iconst 3, 1) := by decide +kernel
theorem dM_times_5 : decode prog_13_method_51_code 5 = .ok (.if_icmp .ne 65, 3) := by decide +kernel
theorem dM_times_8 : decode prog_13_method_51_code 8 = .ok (.aload_n 2, 1) := by decide +kernel
theorem dM_times_9 : decode prog_13_method_51_code 9 = .ok (.getfield 93, 3) := by decide +kernel
theorem dM_times_12 : decode prog_13_method_51_code 12 = .ok (.iconst 3, 1) := by decide +kernel
theorem dM_times_13 : decode prog_13_method_51_code 13 = .ok (.if_icmp .ne 57, 3) := by decide +kernel
theorem dM_times_16 : decode prog_13_method_51_code 16 = .ok (.aload_n 1, 1) := by decide +kernel
theorem dM_times_17 : decode prog_13_method_51_code 17 = .ok (.getfield 96, 3) := by decide +kernel
theorem dM_times_20 : decode prog_13_method_51_code 20 = .ok (.invokestatic 317, 3) := by decide +kernel
theorem dM_times_23 : decode prog_13_method_51_code 23 = .ok (.lstore_n 3, 1) := by decide +kernel
theorem dM_times_24 : decode prog_13_method_51_code 24 = .ok (.aload_n 2, 1) := by decide +kernel
theorem dM_times_25 : decode prog_13_method_51_code 25 = .ok (.getfield 96, 3) := by decide +kernel
theorem dM_times_28 : decode prog_13_method_51_code 28 = .ok (.invokestatic 317, 3) := by decide +kernel
theorem dM_times_31 : decode prog_13_method_51_code 31 = .ok (.lstore 5, 2) := by decide +kernel
theorem dM_times_33 : decode prog_13_method_51_code 33 = .ok (.lload_n 3, 1) := by decide +kernel
theorem dM_times_34 : decode prog_13_method_51_code 34 = .ok (.lconst 0, 1) := by decide +kernel
theorem dM_times_35 : decode prog_13_method_51_code 35 = .ok (.lcmp, 1) := by decide +kernel
theorem dM_times_36 : decode prog_13_method_51_code 36 = .ok (.ifCond .eq 20, 3) := by decide +kernel
theorem dM_times_39 : decode prog_13_method_51_code 39 = .ok (.lload 5, 2) := by decide +kernel
theorem dM_times_41 : decode prog_13_method_51_code 41 = .ok (.ldc2_w 112, 3) := by decide +kernel
theorem dM_times_44 : decode prog_13_method_51_code 44 = .ok (.lload_n 3, 1) := by decide +kernel
theorem dM_times_45 : decode prog_13_method_51_code 45 = .ok (.ldiv, 1) := by decide +kernel
theorem dM_times_46 : decode prog_13_method_51_code 46 = .ok (.lcmp, 1) := by decide +kernel
theorem dM_times_47 : decode prog_13_method_51_code 47 = .ok (.ifCond .le 9, 3) := by decide +kernel
theorem dM_times_50 : decode prog_13_method_51_code 50 = .ok (.aload_n 0, 1) := by decide +kernel
theorem dM_times_51 : decode prog_13_method_51_code 51 = .ok (.iconst 2, 1) := by decide +kernel
theorem dM_times_52 : decode prog_13_method_51_code 52 = .ok (.invokevirtual 116, 3) := by decide +kernel
theorem dM_times_56 : decode prog_13_method_51_code 56 = .ok (.aload_n 0, 1) := by decide +kernel
theorem dM_times_57 : decode prog_13_method_51_code 57 = .ok (.aload_n 1, 1) := by decide +kernel
theorem dM_times_58 : decode prog_13_method_51_code 58 = .ok (.getfield 96, 3) := by decide +kernel
theorem dM_times_61 : decode prog_13_method_51_code 61 = .ok (.aload_n 2, 1) := by decide +kernel
theorem dM_times_62 : decode prog_13_method_51_code 62 = .ok (.getfield 96, 3) := by decide +kernel
theorem dM_times_65 : decode prog_13_method_51_code 65 = .ok (.lmul, 1) := by decide +kernel
theorem dM_times_66 : decode prog_13_method_51_code 66 = .ok (.invokevirtual 265, 3) := by decide +kernel
theorem dM_times_69 : decode prog_13_method_51_code 69 = .ok (.areturn, 1) := by decide +kernel
theorem dM_times_70 : decode prog_13_method_51_code 70 = .ok (.aload_n 1, 1) := by decide +kernel
theorem dM_times_71 : decode prog_13_method_51_code 71 = .ok (.getfield 93, 3) := by decide +kernel
theorem dM_times_74 : decode prog_13_method_51_code 74 = .ok (.bipush 6, 2) := by decide +kernel
theorem dM_times_76 : decode prog_13_method_51_code 76 = .ok (.if_icmp .ne 19, 3) := by decide +kernel
theorem dM_times_79 : decode prog_13_method_51_code 79 = .ok (.aload_n 2, 1) := by decide +kernel
theorem dM_times_80 : decode prog_13_method_51_code 80 = .ok (.getfield 93, 3) := by decide +kernel
theorem dM_times_83 : decode prog_13_method_51_code 83 = .ok (.bipush 6, 2) := by decide +kernel
theorem dM_times_85 : decode prog_13_method_51_code 85 = .ok (.if_icmp .ne 10, 3) := by decide +kernel
theorem dM_times_88 : decode prog_13_method_51_code 88 = .ok (.aload_n 0, 1) := by decide +kernel
theorem dM_times_89 : decode prog_13_method_51_code 89 = .ok (.aload_n 1, 1) := by decide +kernel
theorem dM_times_90 : decode prog_13_method_51_code 90 = .ok (.aload_n 2, 1) := by decide +kernel
theorem dM_times_91 : decode prog_13_method_51_code 91 = .ok (.invokevirtual 321, 3) := by decide +kernel
theorem dM_times_94 : decode prog_13_method_51_code 94 = .ok (.areturn, 1) := by decide +kernel
theorem dM_times_95 : decode prog_13_method_51_code 95 = .ok (.aload_n 1, 1) := by decide +kernel
theorem dM_times_96 : decode prog_13_method_51_code 96 = .ok (.getfield 93, 3) := by decide +kernel
theorem dM_times_99 : decode prog_13_method_51_code 99 = .ok (.iconst 3, 1) := by decide +kernel
theorem dM_times_100 : decode prog_13_method_51_code 100 = .ok (.if_icmp .ne 18, 3) := by decide +kernel
theorem dM_times_103 : decode prog_13_method_51_code 103 = .ok (.aload_n 2, 1) := by decide +kernel
theorem dM_times_104 : decode prog_13_method_51_code 104 = .ok (.getfield 93, 3) := by decide +kernel
theorem dM_times_107 : decode prog_13_method_51_code 107 = .ok (.iconst 4, 1) := by decide +kernel
theorem dM_times_108 : decode prog_13_method_51_code 108 = .ok (.if_icmp .ne 10, 3) := by decide +kernel
theorem dM_times_111 : decode prog_13_method_51_code 111 = .ok (.aload_n 0, 1) := by decide +kernel
theorem dM_times_112 : decode prog_13_method_51_code 112 = .ok (.aload_n 2, 1) := by decide +kernel
theorem dM_times_113 : decode prog_13_method_51_code 113 = .ok (.aload_n 1, 1) := by decide +kernel
theorem dM_times_114 : decode prog_13_method_51_code 114 = .ok (.invokevirtual 308, 3) := by decide +kernel
theorem dM_times_117 : decode prog_13_method_51_code 117 = .ok (.areturn, 1) := by decide +kernel
theorem dM_times_118 : decode prog_13_method_51_code 118 = .ok (.aload_n 1, 1) := by decide +kernel
theorem dM_times_119 : decode prog_13_method_51_code 119 = .ok (.getfield 93, 3) := by decide +kernel
theorem dM_times_122 : decode prog_13_method_51_code 122 = .ok (.iconst 4, 1) := by decide +kernel
theorem dM_times_123 : decode prog_13_method_51_code 123 = .ok (.if_icmp .ne 11, 3) := by decide +kernel
theorem dM_times_126 : decode prog_13_method_51_code 126 = .ok (.aload_n 2, 1) := by decide +kernel
theorem dM_times_127 : decode prog_13_method_51_code 127 = .ok (.getfield 93, 3) := by decide +kernel
theorem dM_times_130 : decode prog_13_method_51_code 130 = .ok (.iconst 3, 1) := by decide +kernel
theorem dM_times_131 : decode prog_13_method_51_code 131 = .ok (.if_icmp .eq 9, 3) := by decide +kernel
theorem dM_times_134 : decode prog_13_method_51_code 134 = .ok (.aload_n 0, 1) := by decide +kernel
theorem dM_times_135 : decode prog_13_method_51_code 135 = .ok (.iconst 1, 1) := by decide +kernel
theorem dM_times_136 : decode prog_13_method_51_code 136 = .ok (.invokevirtual 116, 3) := by decide +kernel
theorem dM_times_140 : decode prog_13_method_51_code 140 = .ok (.aload_n 2, 1) := by decide +kernel
theorem dM_times_141 : decode prog_13_method_51_code 141 = .ok (.getfield 96, 3) := by decide +kernel
theorem dM_times_144 : decode prog_13_method_51_code 144 = .ok (.lconst 1, 1) := by decide +kernel
theorem dM_times_145 : decode prog_13_method_51_code 145 = .ok (.lcmp, 1) := by decide +kernel
theorem dM_times_146 : decode prog_13_method_51_code 146 = .ok (.ifCond .ge 9, 3) := by decide +kernel
theorem dM_times_149 : decode prog_13_method_51_code 149 = .ok (.aload_n 0, 1) := by decide +kernel
theorem dM_times_150 : decode prog_13_method_51_code 150 = .ok (.iconst 0, 1) := by decide +kernel
theorem dM_times_151 : decode prog_13_method_51_code 151 = .ok (.invokevirtual 120, 3) := by decide +kernel
theorem dM_times_154 : decode prog_13_method_51_code 154 = .ok (.areturn, 1) := by decide +kernel
theorem dM_times_155 : decode prog_13_method_51_code 155 = .ok (.aload_n 2, 1) := by decide +kernel
theorem dM_times_156 : decode prog_13_method_51_code 156 = .ok (.getfield 96, 3) := by decide +kernel
theorem dM_times_159 : decode prog_13_method_51_code 159 = .ok (.aload_n 1, 1) := by decide +kernel
theorem dM_times_160 : decode prog_13_method_51_code 160 = .ok (.getfield 103, 3) := by decide +kernel
theorem dM_times_163 : decode prog_13_method_51_code 163 = .ok (.i2l, 1) := by decide +kernel
theorem dM_times_164 : decode prog_13_method_51_code 164 = .ok (.lconst 1, 1) := by decide +kernel
theorem dM_times_165 : decode prog_13_method_51_code 165 = .ok (.ladd, 1) := by decide +kernel
theorem dM_times_166 : decode prog_13_method_51_code 166 = .ok (.lmul, 1) := by decide +kernel
theorem dM_times_167 : decode prog_13_method_51_code 167 = .ok (.ldc2_w 324, 3) := by decide +kernel
theorem dM_times_170 : decode prog_13_method_51_code 170 = .ok (.lcmp, 1) := by decide +kernel
theorem dM_times_171 : decode prog_13_method_51_code 171 = .ok (.ifCond .le 26, 3) := by decide +kernel
theorem dM_times_174 : decode prog_13_method_51_code 174 = .ok (.aload_n 1, 1) := by decide +kernel
theorem dM_times_175 : decode prog_13_method_51_code 175 = .ok (.getfield 103, 3) := by decide +kernel
theorem dM_times_178 : decode prog_13_method_51_code 178 = .ok (.ifCond .le 19, 3) := by decide +kernel
theorem dM_times_181 : decode prog_13_method_51_code 181 = .ok (.aload_n 2, 1) := by decide +kernel
theorem dM_times_182 : decode prog_13_method_51_code 182 = .ok (.getfield 96, 3) := by decide +kernel
theorem dM_times_185 : decode prog_13_method_51_code 185 = .ok (.ldc2_w 154, 3) := by decide +kernel
theorem dM_times_188 : decode prog_13_method_51_code 188 = .ok (.lcmp, 1) := by decide +kernel
theorem dM_times_189 : decode prog_13_method_51_code 189 = .ok (.ifCond .le 8, 3) := by decide +kernel
theorem dM_times_192 : decode prog_13_method_51_code 192 = .ok (.aload_n 0, 1) := by decide +kernel
theorem dM_times_193 : decode prog_13_method_51_code 193 = .ok (.invokevirtual 127, 3) := by decide +kernel
theorem dM_times_197 : decode prog_13_method_51_code 197 = .ok (.aload_n 1, 1) := by decide +kernel
theorem dM_times_198 : decode prog_13_method_51_code 198 = .ok (.getfield 103, 3) := by decide +kernel
theorem dM_times_201 : decode prog_13_method_51_code 201 = .ok (.ifCond .le 24, 3) := by decide +kernel
theorem dM_times_204 : decode prog_13_method_51_code 204 = .ok (.aload_n 2, 1) := by decide +kernel
theorem dM_times_205 : decode prog_13_method_51_code 205 = .ok (.getfield 96, 3) := by decide +kernel
theorem dM_times_208 : decode prog_13_method_51_code 208 = .ok (.ldc 126, 2) := by decide +kernel
theorem dM_times_210 : decode prog_13_method_51_code 210 = .ok (.aload_n 1, 1) := by decide +kernel
theorem dM_times_211 : decode prog_13_method_51_code 211 = .ok (.getfield 103, 3) := by decide +kernel
theorem dM_times_214 : decode prog_13_method_51_code 214 = .ok (.idiv, 1) := by decide +kernel
theorem dM_times_215 : decode prog_13_method_51_code 215 = .ok (.i2l, 1) := by decide +kernel
theorem dM_times_216 : decode prog_13_method_51_code 216 = .ok (.lcmp, 1) := by decide +kernel
theorem dM_times_217 : decode prog_13_method_51_code 217 = .ok (.ifCond .le 8, 3) := by decide +kernel
theorem dM_times_220 : decode prog_13_method_51_code 220 = .ok (.aload_n 0, 1) := by decide +kernel
theorem dM_times_221 : decode prog_13_method_51_code 221 = .ok (.invokevirtual 127, 3) := by decide +kernel
theorem dM_times_225 : decode prog_13_method_51_code 225 = .ok (.aload_n 0, 1) := by decide +kernel
theorem dM_times_226 : decode prog_13_method_51_code 226 = .ok (.getfield 123, 3) := by decide +kernel
theorem dM_times_229 : decode prog_13_method_51_code 229 = .ok (.istore_n 3, 1) := by decide +kernel
theorem dM_times_230 : decode prog_13_method_51_code 230 = .ok (.lconst 0, 1) := by decide +kernel
theorem dM_times_231 : decode prog_13_method_51_code 231 = .ok (.lstore 4, 2) := by decide +kernel
theorem dM_times_233 : decode prog_13_method_51_code 233 = .ok (.lload 4, 2) := by decide +kernel
theorem dM_times_235 : decode prog_13_method_51_code 235 = .ok (.aload_n 2, 1) := by decide +kernel
theorem dM_times_236 : decode prog_13_method_51_code 236 = .ok (.getfield 96, 3) := by decide +kernel
theorem dM_times_239 : decode prog_13_method_51_code 239 = .ok (.lcmp, 1) := by decide +kernel
theorem dM_times_240 : decode prog_13_method_51_code 240 = .ok (.ifCond .ge 24, 3) := by decide +kernel
theorem dM_times_243 : decode prog_13_method_51_code 243 = .ok (.aload_n 1, 1) := by decide +kernel
theorem dM_times_244 : decode prog_13_method_51_code 244 = .ok (.getfield 103, 3) := by decide +kernel
theorem dM_times_247 : decode prog_13_method_51_code 247 = .ok (.ifCond .le 17, 3) := by decide +kernel
theorem dM_times_250 : decode prog_13_method_51_code 250 = .ok (.aload_n 0, 1) := by decide +kernel
theorem dM_times_251 : decode prog_13_method_51_code 251 = .ok (.aload_n 1, 1) := by decide +kernel
theorem dM_times_252 : decode prog_13_method_51_code 252 = .ok (.invokevirtual 314, 3) := by decide +kernel
theorem dM_times_255 : decode prog_13_method_51_code 255 = .ok (.lload 4, 2) := by decide +kernel
theorem dM_times_257 : decode prog_13_method_51_code 257 = .ok (.lconst 1, 1) := by decide +kernel
theorem dM_times_258 : decode prog_13_method_51_code 258 = .ok (.ladd, 1) := by decide +kernel
theorem dM_times_259 : decode prog_13_method_51_code 259 = .ok (.lstore 4, 2) := by decide +kernel
theorem dM_times_261 : decode prog_13_method_51_code 261 = .ok (.goto (-28), 3) := by decide +kernel
theorem dM_times_264 : decode prog_13_method_51_code 264 = .ok (.aload_n 0, 1) := by decide +kernel
theorem dM_times_265 : decode prog_13_method_51_code 265 = .ok (.iload_n 3, 1) := by decide +kernel
theorem dM_times_266 : decode prog_13_method_51_code 266 = .ok (.invokevirtual 139, 3) := by decide +kernel
theorem dM_times_269 : decode prog_13_method_51_code 269 = .ok (.areturn, 1) := by decide +kernel
theorem dM_toNumber_0 : decode prog_13_method_59_code 0 = .ok (.aload_n 1, 1) := by decide +kernel
theorem dM_toNumber_1 : decode prog_13_method_59_code 1 = .ok (.getfield 93, 3) := by decide +kernel
theorem dM_toNumber_4 : decode prog_13_method_59_code 4 = .ok (.iconst 3, 1) := by decide +kernel
theorem dM_toNumber_5 : decode prog_13_method_59_code 5 = .ok (.if_icmp .ne 5, 3) := by decide +kernel
theorem dM_toNumber_8 : decode prog_13_method_59_code 8 = .ok (.aload_n 1, 1) := by decide +kernel
theorem dM_toNumber_9 : decode prog_13_method_59_code 9 = .ok (.areturn, 1) := by decide +kernel
theorem dM_toNumber_10 : decode prog_13_method_59_code 10 = .ok (.aload_n 0, 1) := by decide +kernel
theorem dM_toNumber_11 : decode prog_13_method_59_code 11 = .ok (.aload_n 1, 1) := by decide +kernel
theorem dM_toNumber_12 : decode prog_13_method_59_code 12 = .ok (.invokevirtual 341, 3) := by decide +kernel
theorem dM_toNumber_15 : decode prog_13_method_59_code 15 = .ok (.pop, 1) := by decide +kernel
theorem dM_toNumber_16 : decode prog_13_method_59_code 16 = .ok (.iconst 0, 1) := by decide +kernel
theorem dM_toNumber_17 : decode prog_13_method_59_code 17 = .ok (.istore_n 2, 1) := by decide +kernel
theorem dM_toNumber_18 : decode prog_13_method_59_code 18 = .ok (.aload_n 1, 1) := by decide +kernel
theorem dM_toNumber_19 : decode prog_13_method_59_code 19 = .ok (.getfield 103, 3) := by decide +kernel
theorem dM_toNumber_22 : decode prog_13_method_59_code 22 = .ok (.ifCond .le 21, 3) := by decide +kernel
theorem dM_toNumber_25 : decode prog_13_method_59_code 25 = .ok (.aload_n 0, 1) := by decide +kernel
theorem dM_toNumber_26 : decode prog_13_method_59_code 26 = .ok (.getfield 15, 3) := by decide +kernel
theorem dM_toNumber_29 : decode prog_13_method_59_code 29 = .ok (.aload_n 1, 1) := by decide +kernel
theorem dM_toNumber_30 : decode prog_13_method_59_code 30 = .ok (.getfield 100, 3) := by decide +kernel
theorem dM_toNumber_33 : decode prog_13_method_59_code 33 = .ok (.baload, 1) := by decide +kernel
theorem dM_toNumber_34 : decode prog_13_method_59_code 34 = .ok (.bipush 45, 2) := by decide +kernel
theorem dM_toNumber_36 : decode prog_13_method_59_code 36 = .ok (.if_icmp .ne 7, 3) := by decide +kernel
theorem dM_toNumber_39 : decode prog_13_method_59_code 39 = .ok (.iconst 1, 1) := by decide +kernel
theorem dM_toNumber_40 : decode prog_13_method_59_code 40 = .ok (.goto 4, 3) := by decide +kernel
theorem dM_toNumber_43 : decode prog_13_method_59_code 43 = .ok (.iconst 0, 1) := by decide +kernel
theorem dM_toNumber_44 : decode prog_13_method_59_code 44 = .ok (.istore_n 3, 1) := by decide +kernel
theorem dM_toNumber_45 : decode prog_13_method_59_code 45 = .ok (.iload_n 3, 1) := by decide +kernel
theorem dM_toNumber_46 : decode prog_13_method_59_code 46 = .ok (.ifCond .eq 5, 3) := by decide +kernel
theorem dM_toNumber_49 : decode prog_13_method_59_code 49 = .ok (.iconst 1, 1) := by decide +kernel
theorem dM_toNumber_50 : decode prog_13_method_59_code 50 = .ok (.istore_n 2, 1) := by decide +kernel
theorem dM_toNumber_51 : decode prog_13_method_59_code 51 = .ok (.iload_n 2, 1) := by decide +kernel
theorem dM_toNumber_52 : decode prog_13_method_59_code 52 = .ok (.aload_n 1, 1) := by decide +kernel
theorem dM_toNumber_53 : decode prog_13_method_59_code 53 = .ok (.getfield 103, 3) := by decide +kernel
theorem dM_toNumber_56 : decode prog_13_method_59_code 56 = .ok (.if_icmp .eq 29, 3) := by decide +kernel
theorem dM_toNumber_59 : decode prog_13_method_59_code 59 = .ok (.aload_n 0, 1) := by decide +kernel
theorem dM_toNumber_60 : decode prog_13_method_59_code 60 = .ok (.getfield 15, 3) := by decide +kernel
theorem dM_toNumber_63 : decode prog_13_method_59_code 63 = .ok (.aload_n 1, 1) := by decide +kernel
theorem dM_toNumber_64 : decode prog_13_method_59_code 64 = .ok (.getfield 100, 3) := by decide +kernel
theorem dM_toNumber_67 : decode prog_13_method_59_code 67 = .ok (.iload_n 2, 1) := by decide +kernel
theorem dM_toNumber_68 : decode prog_13_method_59_code 68 = .ok (.iadd, 1) := by decide +kernel
theorem dM_toNumber_69 : decode prog_13_method_59_code 69 = .ok (.baload, 1) := by decide +kernel
theorem dM_toNumber_70 : decode prog_13_method_59_code 70 = .ok (.bipush 48, 2) := by decide +kernel
theorem dM_toNumber_72 : decode prog_13_method_59_code 72 = .ok (.if_icmp .ne 19, 3) := by decide +kernel
theorem dM_toNumber_75 : decode prog_13_method_59_code 75 = .ok (.iload_n 2, 1) := by decide +kernel
theorem dM_toNumber_76 : decode prog_13_method_59_code 76 = .ok (.iconst 1, 1) := by decide +kernel
theorem dM_toNumber_77 : decode prog_13_method_59_code 77 = .ok (.iadd, 1) := by decide +kernel
theorem dM_toNumber_78 : decode prog_13_method_59_code 78 = .ok (.aload_n 1, 1) := by decide +kernel
theorem dM_toNumber_79 : decode prog_13_method_59_code 79 = .ok (.getfield 103, 3) := by decide +kernel
theorem dM_toNumber_82 : decode prog_13_method_59_code 82 = .ok (.if_icmp .ge 9, 3) := by decide +kernel
theorem dM_toNumber_85 : decode prog_13_method_59_code 85 = .ok (.aload_n 0, 1) := by decide +kernel
theorem dM_toNumber_86 : decode prog_13_method_59_code 86 = .ok (.iconst 4, 1) := by decide +kernel
theorem dM_toNumber_87 : decode prog_13_method_59_code 87 = .ok (.invokevirtual 116, 3) := by decide +kernel
theorem dM_toNumber_91 : decode prog_13_method_59_code 91 = .ok (.lconst 0, 1) := by decide +kernel
theorem dM_toNumber_92 : decode prog_13_method_59_code 92 = .ok (.lstore 4, 2) := by decide +kernel
theorem dM_toNumber_94 : decode prog_13_method_59_code 94 = .ok (.iload_n 2, 1) := by decide +kernel
theorem dM_toNumber_95 : decode prog_13_method_59_code 95 = .ok (.aload_n 1, 1) := by decide +kernel
theorem dM_toNumber_96 : decode prog_13_method_59_code 96 = .ok (.getfield 103, 3) := by decide +kernel
theorem dM_toNumber_99 : decode prog_13_method_59_code 99 = .ok (.if_icmp .ge 58, 3) := by decide +kernel
theorem dM_toNumber_102 : decode prog_13_method_59_code 102 = .ok (.aload_n 0, 1) := by decide +kernel
theorem dM_toNumber_103 : decode prog_13_method_59_code 103 = .ok (.getfield 15, 3) := by decide +kernel
theorem dM_toNumber_106 : decode prog_13_method_59_code 106 = .ok (.aload_n 1, 1) := by decide +kernel
theorem dM_toNumber_107 : decode prog_13_method_59_code 107 = .ok (.getfield 100, 3) := by decide +kernel
theorem dM_toNumber_110 : decode prog_13_method_59_code 110 = .ok (.iload_n 2, 1) := by decide +kernel
theorem dM_toNumber_111 : decode prog_13_method_59_code 111 = .ok (.iadd, 1) := by decide +kernel
theorem dM_toNumber_112 : decode prog_13_method_59_code 112 = .ok (.baload, 1) := by decide +kernel
theorem dM_toNumber_113 : decode prog_13_method_59_code 113 = .ok (.istore 6, 2) := by decide +kernel
theorem dM_toNumber_115 : decode prog_13_method_59_code 115 = .ok (.iload 6, 2) := by decide +kernel
theorem dM_toNumber_117 : decode prog_13_method_59_code 117 = .ok (.invokestatic 243, 3) := by decide +kernel
theorem dM_toNumber_120 : decode prog_13_method_59_code 120 = .ok (.ifCond .ne 9, 3) := by decide +kernel
theorem dM_toNumber_123 : decode prog_13_method_59_code 123 = .ok (.aload_n 0, 1) := by decide +kernel
theorem dM_toNumber_124 : decode prog_13_method_59_code 124 = .ok (.iconst 4, 1) := by decide +kernel
theorem dM_toNumber_125 : decode prog_13_method_59_code 125 = .ok (.invokevirtual 116, 3) := by decide +kernel
theorem dM_toNumber_129 : decode prog_13_method_59_code 129 = .ok (.ldc2_w 256, 3) := by decide +kernel
theorem dM_toNumber_132 : decode prog_13_method_59_code 132 = .ok (.lload 4, 2) := by decide +kernel
theorem dM_toNumber_134 : decode prog_13_method_59_code 134 = .ok (.lmul, 1) := by decide +kernel
theorem dM_toNumber_135 : decode prog_13_method_59_code 135 = .ok (.iload 6, 2) := by decide +kernel
theorem dM_toNumber_137 : decode prog_13_method_59_code 137 = .ok (.i2l, 1) := by decide +kernel
theorem dM_toNumber_138 : decode prog_13_method_59_code 138 = .ok (.ladd, 1) := by decide +kernel
theorem dM_toNumber_139 : decode prog_13_method_59_code 139 = .ok (.ldc2_w 258, 3) := by decide +kernel
theorem dM_toNumber_142 : decode prog_13_method_59_code 142 = .ok (.lsub, 1) := by decide +kernel
theorem dM_toNumber_143 : decode prog_13_method_59_code 143 = .ok (.ldc2_w 260, 3) := by decide +kernel
theorem dM_toNumber_146 : decode prog_13_method_59_code 146 = .ok (.invokestatic 262, 3) := by decide +kernel
theorem dM_toNumber_149 : decode prog_13_method_59_code 149 = .ok (.lstore 4, 2) := by decide +kernel
theorem dM_toNumber_151 : decode prog_13_method_59_code 151 = .ok (.iinc 2 1, 3) := by decide +kernel
theorem dM_toNumber_154 : decode prog_13_method_59_code 154 = .ok (.goto (-60), 3) := by decide +kernel
theorem dM_toNumber_157 : decode prog_13_method_59_code 157 = .ok (.lload 4, 2) := by decide +kernel
theorem dM_toNumber_159 : decode prog_13_method_59_code 159 = .ok (.ldc2_w 112, 3) := by decide +kernel
theorem dM_toNumber_162 : decode prog_13_method_59_code 162 = .ok (.lcmp, 1) := by decide +kernel
theorem dM_toNumber_163 : decode prog_13_method_59_code 163 = .ok (.ifCond .le 11, 3) := by decide +kernel
theorem dM_toNumber_166 : decode prog_13_method_59_code 166 = .ok (.aload_n 0, 1) := by decide +kernel
theorem dM_toNumber_167 : decode prog_13_method_59_code 167 = .ok (.iconst 4, 1) := by decide +kernel
theorem dM_toNumber_168 : decode prog_13_method_59_code 168 = .ok (.invokevirtual 116, 3) := by decide +kernel
theorem dM_toNumber_174 : decode prog_13_method_59_code 174 = .ok (.aload_n 0, 1) := by decide +kernel
theorem dM_toNumber_175 : decode prog_13_method_59_code 175 = .ok (.iload_n 3, 1) := by decide +kernel
theorem dM_toNumber_176 : decode prog_13_method_59_code 176 = .ok (.ifCond .eq 9, 3) := by decide +kernel
theorem dM_toNumber_179 : decode prog_13_method_59_code 179 = .ok (.lload 4, 2) := by decide +kernel
theorem dM_toNumber_181 : decode prog_13_method_59_code 181 = .ok (.lneg, 1) := by decide +kernel
theorem dM_toNumber_182 : decode prog_13_method_59_code 182 = .ok (.goto 5, 3) := by decide +kernel
theorem dM_toNumber_185 : decode prog_13_method_59_code 185 = .ok (.lload 4, 2) := by decide +kernel
theorem dM_toNumber_187 : decode prog_13_method_59_code 187 = .ok (.invokevirtual 265, 3) := by decide +kernel
theorem dM_toNumber_190 : decode prog_13_method_59_code 190 = .ok (.areturn, 1) := by decide +kernel
theorem dM_told_0 : decode prog_13_method_47_code 0 = .ok (.aload_n 0, 1) := by decide +kernel
theorem dM_told_1 : decode prog_13_method_47_code 1 = .ok (.getfield 276, 3) := by decide +kernel
theorem dM_told_4 : decode prog_13_method_47_code 4 = .ok (.istore_n 2, 1) := by decide +kernel
theorem dM_told_5 : decode prog_13_method_47_code 5 = .ok (.aload_n 0, 1) := by decide +kernel
theorem dM_told_6 : decode prog_13_method_47_code 6 = .ok (.getfield 49, 3) := by decide +kernel
theorem dM_told_9 : decode prog_13_method_47_code 9 = .ok (.istore_n 3, 1) := by decide +kernel
theorem dM_told_10 : decode prog_13_method_47_code 10 = .ok (.aload_n 0, 1) := by decide +kernel
theorem dM_told_11 : decode prog_13_method_47_code 11 = .ok (.iload_n 2, 1) := by decide +kernel
theorem dM_told_12 : decode prog_13_method_47_code 12 = .ok (.ldc 126, 2) := by decide +kernel
theorem dM_told_14 : decode prog_13_method_47_code 14 = .ok (.iadd, 1) := by decide +kernel
theorem dM_told_15 : decode prog_13_method_47_code 15 = .ok (.putfield 49, 3) := by decide +kernel
theorem dM_told_18 : decode prog_13_method_47_code 18 = .ok (.aload_n 0, 1) := by decide +kernel
theorem dM_told_19 : decode prog_13_method_47_code 19 = .ok (.getfield 123, 3) := by decide +kernel
theorem dM_told_22 : decode prog_13_method_47_code 22 = .ok (.istore 4, 2) := by decide +kernel
theorem dM_told_24 : decode prog_13_method_47_code 24 = .ok (.aload_n 0, 1) := by decide +kernel
theorem dM_told_25 : decode prog_13_method_47_code 25 = .ok (.aload_n 1, 1) := by decide +kernel
theorem dM_told_26 : decode prog_13_method_47_code 26 = .ok (.invokevirtual 299, 3) := by decide +kernel
theorem dM_told_29 : decode prog_13_method_47_code 29 = .ok (.iload_n 2, 1) := by decide +kernel
theorem dM_told_30 : decode prog_13_method_47_code 30 = .ok (.istore 5, 2) := by decide +kernel
theorem dM_told_32 : decode prog_13_method_47_code 32 = .ok (.iload 5, 2) := by decide +kernel
theorem dM_told_34 : decode prog_13_method_47_code 34 = .ok (.aload_n 0, 1) := by decide +kernel
theorem dM_told_35 : decode prog_13_method_47_code 35 = .ok (.getfield 276, 3) := by decide +kernel
theorem dM_told_38 : decode prog_13_method_47_code 38 = .ok (.if_icmp .ge 20, 3) := by decide +kernel
theorem dM_told_41 : decode prog_13_method_47_code 41 = .ok (.aload_n 0, 1) := by decide +kernel
theorem dM_told_42 : decode prog_13_method_47_code 42 = .ok (.aload_n 0, 1) := by decide +kernel
theorem dM_told_43 : decode prog_13_method_47_code 43 = .ok (.getfield 45, 3) := by decide +kernel
theorem dM_told_46 : decode prog_13_method_47_code 46 = .ok (.iload 5, 2) := by decide +kernel
theorem dM_told_48 : decode prog_13_method_47_code 48 = .ok (.baload, 1) := by decide +kernel
theorem dM_told_49 : decode prog_13_method_47_code 49 = .ok (.invokevirtual 135, 3) := by decide +kernel
theorem dM_told_52 : decode prog_13_method_47_code 52 = .ok (.iinc 5 1, 3) := by decide +kernel
theorem dM_told_55 : decode prog_13_method_47_code 55 = .ok (.goto (-23), 3) := by decide +kernel
theorem dM_told_58 : decode prog_13_method_47_code 58 = .ok (.aload_n 0, 1) := by decide +kernel
theorem dM_told_59 : decode prog_13_method_47_code 59 = .ok (.iload_n 2, 1) := by decide +kernel
theorem dM_told_60 : decode prog_13_method_47_code 60 = .ok (.putfield 276, 3) := by decide +kernel
theorem dM_told_63 : decode prog_13_method_47_code 63 = .ok (.aload_n 0, 1) := by decide +kernel
theorem dM_told_64 : decode prog_13_method_47_code 64 = .ok (.iload_n 3, 1) := by decide +kernel
theorem dM_told_65 : decode prog_13_method_47_code 65 = .ok (.putfield 49, 3) := by decide +kernel
theorem dM_told_68 : decode prog_13_method_47_code 68 = .ok (.aload_n 0, 1) := by decide +kernel
theorem dM_told_69 : decode prog_13_method_47_code 69 = .ok (.iload 4, 2) := by decide +kernel
theorem dM_told_71 : decode prog_13_method_47_code 71 = .ok (.invokevirtual 139, 3) := by decide +kernel
theorem dM_told_74 : decode prog_13_method_47_code 74 = .ok (.areturn, 1) := by decide +kernel
theorem dM_truth_0 : decode prog_13_method_8_code 0 = .ok (.aload_n 0, 1) := by decide +kernel
theorem dM_truth_1 : decode prog_13_method_8_code 1 = .ok (.iload_n 1, 1) := by decide +kernel
theorem dM_truth_2 : decode prog_13_method_8_code 2 = .ok (.ifCond .eq 7, 3) := by decide +kernel
theorem dM_truth_5 : decode prog_13_method_8_code 5 = .ok (.iconst 2, 1) := by decide +kernel
theorem dM_truth_6 : decode prog_13_method_8_code 6 = .ok (.goto 4, 3) := by decide +kernel
theorem dM_truth_9 : decode prog_13_method_8_code 9 = .ok (.iconst 1, 1) := by decide +kernel
theorem dM_truth_10 : decode prog_13_method_8_code 10 = .ok (.invokevirtual 120, 3) := by decide +kernel
theorem dM_truth_13 : decode prog_13_method_8_code 13 = .ok (.areturn, 1) := by decide +kernel
theorem dM_two0_0 : decode prog_13_method_93_code 0 = .ok (.aload_n 0, 1) := by decide +kernel
theorem dM_two0_1 : decode prog_13_method_93_code 1 = .ok (.invokevirtual 424, 3) := by decide +kernel
theorem dM_two0_4 : decode prog_13_method_93_code 4 = .ok (.aload_n 0, 1) := by decide +kernel
theorem dM_two0_5 : decode prog_13_method_93_code 5 = .ok (.iload_n 1, 1) := by decide +kernel
theorem dM_two0_6 : decode prog_13_method_93_code 6 = .ok (.invokevirtual 427, 3) := by decide +kernel
theorem dM_two0_9 : decode prog_13_method_93_code 9 = .ok (.ifCond .ne 30, 3) := by decide +kernel
theorem dM_two0_12 : decode prog_13_method_93_code 12 = .ok (.iload_n 2, 1) := by decide +kernel
theorem dM_two0_13 : decode prog_13_method_93_code 13 = .ok (.ifCond .lt 26, 3) := by decide +kernel
theorem dM_two0_16 : decode prog_13_method_93_code 16 = .ok (.iload_n 2, 1) := by decide +kernel
theorem dM_two0_17 : decode prog_13_method_93_code 17 = .ok (.bipush 9, 2) := by decide +kernel
theorem dM_two0_19 : decode prog_13_method_93_code 19 = .ok (.if_icmp .gt 20, 3) := by decide +kernel
theorem dM_two0_22 : decode prog_13_method_93_code 22 = .ok (.aload_n 0, 1) := by decide +kernel
theorem dM_two0_23 : decode prog_13_method_93_code 23 = .ok (.iload_n 3, 1) := by decide +kernel
theorem dM_two0_24 : decode prog_13_method_93_code 24 = .ok (.invokevirtual 427, 3) := by decide +kernel
theorem dM_two0_27 : decode prog_13_method_93_code 27 = .ok (.ifCond .ne 12, 3) := by decide +kernel
theorem dM_two0_30 : decode prog_13_method_93_code 30 = .ok (.aload_n 0, 1) := by decide +kernel
theorem dM_two0_31 : decode prog_13_method_93_code 31 = .ok (.iload 4, 2) := by decide +kernel
theorem dM_two0_33 : decode prog_13_method_93_code 33 = .ok (.invokevirtual 427, 3) := by decide +kernel
theorem dM_two0_36 : decode prog_13_method_93_code 36 = .ok (.ifCond .eq 11, 3) := by decide +kernel
theorem dM_two0_39 : decode prog_13_method_93_code 39 = .ok (.aload_n 0, 1) := by decide +kernel
theorem dM_two0_40 : decode prog_13_method_93_code 40 = .ok (.iconst 1, 1) := by decide +kernel
theorem dM_two0_41 : decode prog_13_method_93_code 41 = .ok (.putfield 77, 3) := by decide +kernel
theorem dM_two0_44 : decode prog_13_method_93_code 44 = .ok (.goto 13, 3) := by decide +kernel
theorem dM_two0_47 : decode prog_13_method_93_code 47 = .ok (.aload_n 0, 1) := by decide +kernel
theorem dM_two0_48 : decode prog_13_method_93_code 48 = .ok (.iload_n 1, 1) := by decide +kernel
theorem dM_two0_49 : decode prog_13_method_93_code 49 = .ok (.iconst 2, 1) := by decide +kernel
theorem dM_two0_50 : decode prog_13_method_93_code 50 = .ok (.iload_n 2, 1) := by decide +kernel
theorem dM_two0_51 : decode prog_13_method_93_code 51 = .ok (.iload_n 3, 1) := by decide +kernel
theorem dM_two0_52 : decode prog_13_method_93_code 52 = .ok (.iload 4, 2) := by decide +kernel
theorem dM_two0_54 : decode prog_13_method_93_code 54 = .ok (.invokevirtual 442, 3) := by decide +kernel
theorem dM_two0_57 : decode prog_13_method_93_code 57 = .ok (.return_, 1) := by decide +kernel
theorem dM_two1_0 : decode prog_13_method_76_code 0 = .ok (.iload_n 1, 1) := by decide +kernel
theorem dM_two1_1 : decode prog_13_method_76_code 1 = .ok (.tableswitch 253 0 8 #[51, 58, 86, 93, 137, 191, 211, 239, 246], 51) := by decide +kernel
theorem dM_two1_52 : decode prog_13_method_76_code 52 = .ok (.aload_n 0, 1) := by decide +kernel
theorem dM_two1_53 : decode prog_13_method_76_code 53 = .ok (.aload_n 2, 1) := by decide +kernel
theorem dM_two1_54 : decode prog_13_method_76_code 54 = .ok (.aload_n 3, 1) := by decide +kernel
theorem dM_two1_55 : decode prog_13_method_76_code 55 = .ok (.invokevirtual 401, 3) := by decide +kernel
theorem dM_two1_58 : decode prog_13_method_76_code 58 = .ok (.areturn, 1) := by decide +kernel
theorem dM_two1_59 : decode prog_13_method_76_code 59 = .ok (.aload_n 0, 1) := by decide +kernel
theorem dM_two1_60 : decode prog_13_method_76_code 60 = .ok (.aload_n 2, 1) := by decide +kernel
theorem dM_two1_61 : decode prog_13_method_76_code 61 = .ok (.aload_n 3, 1) := by decide +kernel
theorem dM_two1_62 : decode prog_13_method_76_code 62 = .ok (.invokevirtual 384, 3) := by decide +kernel
theorem dM_two1_65 : decode prog_13_method_76_code 65 = .ok (.ifCond .eq 16, 3) := by decide +kernel
theorem dM_two1_68 : decode prog_13_method_76_code 68 = .ok (.aload_n 0, 1) := by decide +kernel
theorem dM_two1_69 : decode prog_13_method_76_code 69 = .ok (.aload_n 0, 1) := by decide +kernel
theorem dM_two1_70 : decode prog_13_method_76_code 70 = .ok (.aload_n 2, 1) := by decide +kernel
theorem dM_two1_71 : decode prog_13_method_76_code 71 = .ok (.aload_n 3, 1) := by decide +kernel
theorem dM_two1_72 : decode prog_13_method_76_code 72 = .ok (.invokevirtual 391, 3) := by decide +kernel
theorem dM_two1_75 : decode prog_13_method_76_code 75 = .ok (.invokevirtual 354, 3) := by decide +kernel
theorem dM_two1_78 : decode prog_13_method_76_code 78 = .ok (.goto 8, 3) := by decide +kernel
theorem dM_two1_81 : decode prog_13_method_76_code 81 = .ok (.aload_n 0, 1) := by decide +kernel
theorem dM_two1_82 : decode prog_13_method_76_code 82 = .ok (.iconst 1, 1) := by decide +kernel
theorem dM_two1_83 : decode prog_13_method_76_code 83 = .ok (.invokevirtual 116, 3) := by decide +kernel
theorem dM_two1_86 : decode prog_13_method_76_code 86 = .ok (.areturn, 1) := by decide +kernel
theorem dM_two1_87 : decode prog_13_method_76_code 87 = .ok (.aload_n 0, 1) := by decide +kernel
theorem dM_two1_88 : decode prog_13_method_76_code 88 = .ok (.aload_n 2, 1) := by decide +kernel
theorem dM_two1_89 : decode prog_13_method_76_code 89 = .ok (.aload_n 3, 1) := by decide +kernel
theorem dM_two1_90 : decode prog_13_method_76_code 90 = .ok (.invokevirtual 404, 3) := by decide +kernel
theorem dM_two1_93 : decode prog_13_method_76_code 93 = .ok (.areturn, 1) := by decide +kernel
theorem dM_two1_94 : decode prog_13_method_76_code 94 = .ok (.aload_n 2, 1) := by decide +kernel
theorem dM_two1_95 : decode prog_13_method_76_code 95 = .ok (.getfield 93, 3) := by decide +kernel
theorem dM_two1_98 : decode prog_13_method_76_code 98 = .ok (.iconst 4, 1) := by decide +kernel
theorem dM_two1_99 : decode prog_13_method_76_code 99 = .ok (.if_icmp .ne 37, 3) := by decide +kernel
theorem dM_two1_102 : decode prog_13_method_76_code 102 = .ok (.aload_n 3, 1) := by decide +kernel
theorem dM_two1_103 : decode prog_13_method_76_code 103 = .ok (.getfield 93, 3) := by decide +kernel
theorem dM_two1_106 : decode prog_13_method_76_code 106 = .ok (.iconst 4, 1) := by decide +kernel
theorem dM_two1_107 : decode prog_13_method_76_code 107 = .ok (.if_icmp .ne 29, 3) := by decide +kernel
theorem dM_two1_110 : decode prog_13_method_76_code 110 = .ok (.aload_n 0, 1) := by decide +kernel
theorem dM_two1_111 : decode prog_13_method_76_code 111 = .ok (.aload_n 2, 1) := by decide +kernel
theorem dM_two1_112 : decode prog_13_method_76_code 112 = .ok (.aload_n 3, 1) := by decide +kernel
theorem dM_two1_113 : decode prog_13_method_76_code 113 = .ok (.iconst 0, 1) := by decide +kernel
theorem dM_two1_114 : decode prog_13_method_76_code 114 = .ok (.invokevirtual 387, 3) := by decide +kernel
theorem dM_two1_117 : decode prog_13_method_76_code 117 = .ok (.ifCond .eq 19, 3) := by decide +kernel
theorem dM_two1_120 : decode prog_13_method_76_code 120 = .ok (.aload_n 0, 1) := by decide +kernel
theorem dM_two1_121 : decode prog_13_method_76_code 121 = .ok (.aload_n 2, 1) := by decide +kernel
theorem dM_two1_122 : decode prog_13_method_76_code 122 = .ok (.aload_n 3, 1) := by decide +kernel
theorem dM_two1_123 : decode prog_13_method_76_code 123 = .ok (.getfield 103, 3) := by decide +kernel
theorem dM_two1_126 : decode prog_13_method_76_code 126 = .ok (.aload_n 2, 1) := by decide +kernel
theorem dM_two1_127 : decode prog_13_method_76_code 127 = .ok (.getfield 103, 3) := by decide +kernel
theorem dM_two1_130 : decode prog_13_method_76_code 130 = .ok (.invokevirtual 330, 3) := by decide +kernel
theorem dM_two1_133 : decode prog_13_method_76_code 133 = .ok (.goto 4, 3) := by decide +kernel
theorem dM_two1_136 : decode prog_13_method_76_code 136 = .ok (.aload_n 2, 1) := by decide +kernel
theorem dM_two1_137 : decode prog_13_method_76_code 137 = .ok (.areturn, 1) := by decide +kernel
theorem dM_two1_138 : decode prog_13_method_76_code 138 = .ok (.aload_n 2, 1) := by decide +kernel
theorem dM_two1_139 : decode prog_13_method_76_code 139 = .ok (.getfield 93, 3) := by decide +kernel
theorem dM_two1_142 : decode prog_13_method_76_code 142 = .ok (.iconst 4, 1) := by decide +kernel
theorem dM_two1_143 : decode prog_13_method_76_code 143 = .ok (.if_icmp .ne 47, 3) := by decide +kernel
theorem dM_two1_146 : decode prog_13_method_76_code 146 = .ok (.aload_n 3, 1) := by decide +kernel
theorem dM_two1_147 : decode prog_13_method_76_code 147 = .ok (.getfield 93, 3) := by decide +kernel
theorem dM_two1_150 : decode prog_13_method_76_code 150 = .ok (.iconst 4, 1) := by decide +kernel
theorem dM_two1_151 : decode prog_13_method_76_code 151 = .ok (.if_icmp .ne 39, 3) := by decide +kernel
theorem dM_two1_154 : decode prog_13_method_76_code 154 = .ok (.aload_n 0, 1) := by decide +kernel
theorem dM_two1_155 : decode prog_13_method_76_code 155 = .ok (.aload_n 2, 1) := by decide +kernel
theorem dM_two1_156 : decode prog_13_method_76_code 156 = .ok (.aload_n 3, 1) := by decide +kernel
theorem dM_two1_157 : decode prog_13_method_76_code 157 = .ok (.aload_n 2, 1) := by decide +kernel
theorem dM_two1_158 : decode prog_13_method_76_code 158 = .ok (.getfield 103, 3) := by decide +kernel
theorem dM_two1_161 : decode prog_13_method_76_code 161 = .ok (.aload_n 3, 1) := by decide +kernel
theorem dM_two1_162 : decode prog_13_method_76_code 162 = .ok (.getfield 103, 3) := by decide +kernel
theorem dM_two1_165 : decode prog_13_method_76_code 165 = .ok (.isub, 1) := by decide +kernel
theorem dM_two1_166 : decode prog_13_method_76_code 166 = .ok (.invokevirtual 387, 3) := by decide +kernel
theorem dM_two1_169 : decode prog_13_method_76_code 169 = .ok (.ifCond .eq 21, 3) := by decide +kernel
theorem dM_two1_172 : decode prog_13_method_76_code 172 = .ok (.aload_n 0, 1) := by decide +kernel
theorem dM_two1_173 : decode prog_13_method_76_code 173 = .ok (.aload_n 2, 1) := by decide +kernel
theorem dM_two1_174 : decode prog_13_method_76_code 174 = .ok (.iconst 0, 1) := by decide +kernel
theorem dM_two1_175 : decode prog_13_method_76_code 175 = .ok (.aload_n 2, 1) := by decide +kernel
theorem dM_two1_176 : decode prog_13_method_76_code 176 = .ok (.getfield 103, 3) := by decide +kernel
theorem dM_two1_179 : decode prog_13_method_76_code 179 = .ok (.aload_n 3, 1) := by decide +kernel
theorem dM_two1_180 : decode prog_13_method_76_code 180 = .ok (.getfield 103, 3) := by decide +kernel
theorem dM_two1_183 : decode prog_13_method_76_code 183 = .ok (.isub, 1) := by decide +kernel
theorem dM_two1_184 : decode prog_13_method_76_code 184 = .ok (.invokevirtual 330, 3) := by decide +kernel
theorem dM_two1_187 : decode prog_13_method_76_code 187 = .ok (.goto 4, 3) := by decide +kernel
theorem dM_two1_190 : decode prog_13_method_76_code 190 = .ok (.aload_n 2, 1) := by decide +kernel
theorem dM_two1_191 : decode prog_13_method_76_code 191 = .ok (.areturn, 1) := by decide +kernel
theorem dM_two1_192 : decode prog_13_method_76_code 192 = .ok (.aload_n 0, 1) := by decide +kernel
theorem dM_two1_193 : decode prog_13_method_76_code 193 = .ok (.aload_n 0, 1) := by decide +kernel
theorem dM_two1_194 : decode prog_13_method_76_code 194 = .ok (.aload_n 0, 1) := by decide +kernel
theorem dM_two1_195 : decode prog_13_method_76_code 195 = .ok (.aload_n 2, 1) := by decide +kernel
theorem dM_two1_196 : decode prog_13_method_76_code 196 = .ok (.invokevirtual 341, 3) := by decide +kernel
theorem dM_two1_199 : decode prog_13_method_76_code 199 = .ok (.aload_n 0, 1) := by decide +kernel
theorem dM_two1_200 : decode prog_13_method_76_code 200 = .ok (.aload_n 3, 1) := by decide +kernel
theorem dM_two1_201 : decode prog_13_method_76_code 201 = .ok (.invokevirtual 341, 3) := by decide +kernel
theorem dM_two1_204 : decode prog_13_method_76_code 204 = .ok (.iconst 0, 1) := by decide +kernel
theorem dM_two1_205 : decode prog_13_method_76_code 205 = .ok (.invokevirtual 387, 3) := by decide +kernel
theorem dM_two1_208 : decode prog_13_method_76_code 208 = .ok (.invokevirtual 354, 3) := by decide +kernel
theorem dM_two1_211 : decode prog_13_method_76_code 211 = .ok (.areturn, 1) := by decide +kernel
theorem dM_two1_212 : decode prog_13_method_76_code 212 = .ok (.aload_n 0, 1) := by decide +kernel
theorem dM_two1_213 : decode prog_13_method_76_code 213 = .ok (.aload_n 0, 1) := by decide +kernel
theorem dM_two1_214 : decode prog_13_method_76_code 214 = .ok (.aload_n 0, 1) := by decide +kernel
theorem dM_two1_215 : decode prog_13_method_76_code 215 = .ok (.aload_n 2, 1) := by decide +kernel
theorem dM_two1_216 : decode prog_13_method_76_code 216 = .ok (.invokevirtual 341, 3) := by decide +kernel
theorem dM_two1_219 : decode prog_13_method_76_code 219 = .ok (.aload_n 0, 1) := by decide +kernel
theorem dM_two1_220 : decode prog_13_method_76_code 220 = .ok (.aload_n 3, 1) := by decide +kernel
theorem dM_two1_221 : decode prog_13_method_76_code 221 = .ok (.invokevirtual 341, 3) := by decide +kernel
theorem dM_two1_224 : decode prog_13_method_76_code 224 = .ok (.aload_n 2, 1) := by decide +kernel
theorem dM_two1_225 : decode prog_13_method_76_code 225 = .ok (.getfield 103, 3) := by decide +kernel
theorem dM_two1_228 : decode prog_13_method_76_code 228 = .ok (.aload_n 3, 1) := by decide +kernel
theorem dM_two1_229 : decode prog_13_method_76_code 229 = .ok (.getfield 103, 3) := by decide +kernel
theorem dM_two1_232 : decode prog_13_method_76_code 232 = .ok (.isub, 1) := by decide +kernel
theorem dM_two1_233 : decode prog_13_method_76_code 233 = .ok (.invokevirtual 387, 3) := by decide +kernel
theorem dM_two1_236 : decode prog_13_method_76_code 236 = .ok (.invokevirtual 354, 3) := by decide +kernel
theorem dM_two1_239 : decode prog_13_method_76_code 239 = .ok (.areturn, 1) := by decide +kernel
theorem dM_two1_240 : decode prog_13_method_76_code 240 = .ok (.aload_n 0, 1) := by decide +kernel
theorem dM_two1_241 : decode prog_13_method_76_code 241 = .ok (.aload_n 2, 1) := by decide +kernel
theorem dM_two1_242 : decode prog_13_method_76_code 242 = .ok (.aload_n 3, 1) := by decide +kernel
theorem dM_two1_243 : decode prog_13_method_76_code 243 = .ok (.invokevirtual 398, 3) := by decide +kernel
theorem dM_two1_246 : decode prog_13_method_76_code 246 = .ok (.areturn, 1) := by decide +kernel
theorem dM_two1_247 : decode prog_13_method_76_code 247 = .ok (.aload_n 0, 1) := by decide +kernel
theorem dM_two1_248 : decode prog_13_method_76_code 248 = .ok (.aload_n 2, 1) := by decide +kernel
theorem dM_two1_249 : decode prog_13_method_76_code 249 = .ok (.aload_n 3, 1) := by decide +kernel
theorem dM_two1_250 : decode prog_13_method_76_code 250 = .ok (.invokevirtual 407, 3) := by decide +kernel
theorem dM_two1_253 : decode prog_13_method_76_code 253 = .ok (.areturn, 1) := by decide +kernel
theorem dM_two1_254 : decode prog_13_method_76_code 254 = .ok (.aload_n 0, 1) := by decide +kernel
theorem dM_two1_255 : decode prog_13_method_76_code 255 = .ok (.aload_n 2, 1) := by decide +kernel
theorem dM_two1_256 : decode prog_13_method_76_code 256 = .ok (.aload_n 3, 1) := by decide +kernel
theorem dM_two1_257 : decode prog_13_method_76_code 257 = .ok (.invokevirtual 410, 3) := by decide +kernel
theorem dM_two1_260 : decode prog_13_method_76_code 260 = .ok (.areturn, 1) := by decide +kernel
theorem dM_value_0 : decode prog_13_method_34_code 0 = .ok (.aload_n 0, 1) := by decide +kernel
theorem dM_value_1 : decode prog_13_method_34_code 1 = .ok (.invokevirtual 226, 3) := by decide +kernel
theorem dM_value_4 : decode prog_13_method_34_code 4 = .ok (.aload_n 0, 1) := by decide +kernel
theorem dM_value_5 : decode prog_13_method_34_code 5 = .ok (.invokevirtual 217, 3) := by decide +kernel
theorem dM_value_8 : decode prog_13_method_34_code 8 = .ok (.istore_n 1, 1) := by decide +kernel
theorem dM_value_9 : decode prog_13_method_34_code 9 = .ok (.iload_n 1, 1) := by decide +kernel
theorem dM_value_10 : decode prog_13_method_34_code 10 = .ok (.bipush 110, 2) := by decide +kernel
theorem dM_value_12 : decode prog_13_method_34_code 12 = .ok (.if_icmp .ne 11, 3) := by decide +kernel
theorem dM_value_15 : decode prog_13_method_34_code 15 = .ok (.aload_n 0, 1) := by decide +kernel
theorem dM_value_16 : decode prog_13_method_34_code 16 = .ok (.ldc 69, 2) := by decide +kernel
theorem dM_value_18 : decode prog_13_method_34_code 18 = .ok (.iconst 0, 1) := by decide +kernel
theorem dM_value_19 : decode prog_13_method_34_code 19 = .ok (.invokevirtual 232, 3) := by decide +kernel
theorem dM_value_22 : decode prog_13_method_34_code 22 = .ok (.areturn, 1) := by decide +kernel
theorem dM_value_23 : decode prog_13_method_34_code 23 = .ok (.iload_n 1, 1) := by decide +kernel
theorem dM_value_24 : decode prog_13_method_34_code 24 = .ok (.bipush 116, 2) := by decide +kernel
theorem dM_value_26 : decode prog_13_method_34_code 26 = .ok (.if_icmp .ne 11, 3) := by decide +kernel
theorem dM_value_29 : decode prog_13_method_34_code 29 = .ok (.aload_n 0, 1) := by decide +kernel
theorem dM_value_30 : decode prog_13_method_34_code 30 = .ok (.ldc 236, 2) := by decide +kernel
theorem dM_value_32 : decode prog_13_method_34_code 32 = .ok (.iconst 2, 1) := by decide +kernel
theorem dM_value_33 : decode prog_13_method_34_code 33 = .ok (.invokevirtual 232, 3) := by decide +kernel
theorem dM_value_36 : decode prog_13_method_34_code 36 = .ok (.areturn, 1) := by decide +kernel
theorem dM_value_37 : decode prog_13_method_34_code 37 = .ok (.iload_n 1, 1) := by decide +kernel
theorem dM_value_38 : decode prog_13_method_34_code 38 = .ok (.bipush 102, 2) := by decide +kernel
theorem dM_value_40 : decode prog_13_method_34_code 40 = .ok (.if_icmp .ne 11, 3) := by decide +kernel
theorem dM_value_43 : decode prog_13_method_34_code 43 = .ok (.aload_n 0, 1) := by decide +kernel
theorem dM_value_44 : decode prog_13_method_34_code 44 = .ok (.ldc 238, 2) := by decide +kernel
theorem dM_value_46 : decode prog_13_method_34_code 46 = .ok (.iconst 1, 1) := by decide +kernel
theorem dM_value_47 : decode prog_13_method_34_code 47 = .ok (.invokevirtual 232, 3) := by decide +kernel
theorem dM_value_50 : decode prog_13_method_34_code 50 = .ok (.areturn, 1) := by decide +kernel
theorem dM_value_51 : decode prog_13_method_34_code 51 = .ok (.iload_n 1, 1) := by decide +kernel
theorem dM_value_52 : decode prog_13_method_34_code 52 = .ok (.bipush 34, 2) := by decide +kernel
theorem dM_value_54 : decode prog_13_method_34_code 54 = .ok (.if_icmp .ne 8, 3) := by decide +kernel
theorem dM_value_57 : decode prog_13_method_34_code 57 = .ok (.aload_n 0, 1) := by decide +kernel
theorem dM_value_58 : decode prog_13_method_34_code 58 = .ok (.invokevirtual 240, 3) := by decide +kernel
theorem dM_value_61 : decode prog_13_method_34_code 61 = .ok (.areturn, 1) := by decide +kernel
theorem dM_value_62 : decode prog_13_method_34_code 62 = .ok (.iload_n 1, 1) := by decide +kernel
theorem dM_value_63 : decode prog_13_method_34_code 63 = .ok (.bipush 45, 2) := by decide +kernel
theorem dM_value_65 : decode prog_13_method_34_code 65 = .ok (.if_icmp .eq 10, 3) := by decide +kernel
theorem dM_value_68 : decode prog_13_method_34_code 68 = .ok (.iload_n 1, 1) := by decide +kernel
theorem dM_value_69 : decode prog_13_method_34_code 69 = .ok (.invokestatic 243, 3) := by decide +kernel
theorem dM_value_72 : decode prog_13_method_34_code 72 = .ok (.ifCond .eq 8, 3) := by decide +kernel
theorem dM_value_75 : decode prog_13_method_34_code 75 = .ok (.aload_n 0, 1) := by decide +kernel
theorem dM_value_76 : decode prog_13_method_34_code 76 = .ok (.invokevirtual 247, 3) := by decide +kernel
theorem dM_value_79 : decode prog_13_method_34_code 79 = .ok (.areturn, 1) := by decide +kernel
theorem dM_value_80 : decode prog_13_method_34_code 80 = .ok (.iload_n 1, 1) := by decide +kernel
theorem dM_value_81 : decode prog_13_method_34_code 81 = .ok (.bipush 91, 2) := by decide +kernel
theorem dM_value_83 : decode prog_13_method_34_code 83 = .ok (.if_icmp .eq 9, 3) := by decide +kernel
theorem dM_value_86 : decode prog_13_method_34_code 86 = .ok (.iload_n 1, 1) := by decide +kernel
theorem dM_value_87 : decode prog_13_method_34_code 87 = .ok (.bipush 123, 2) := by decide +kernel
theorem dM_value_89 : decode prog_13_method_34_code 89 = .ok (.if_icmp .ne 14, 3) := by decide +kernel
theorem dM_value_92 : decode prog_13_method_34_code 92 = .ok (.aload_n 0, 1) := by decide +kernel
theorem dM_value_93 : decode prog_13_method_34_code 93 = .ok (.getfield 220, 3) := by decide +kernel
theorem dM_value_96 : decode prog_13_method_34_code 96 = .ok (.aload_n 0, 1) := by decide +kernel
theorem dM_value_97 : decode prog_13_method_34_code 97 = .ok (.getfield 38, 3) := by decide +kernel
theorem dM_value_100 : decode prog_13_method_34_code 100 = .ok (.if_icmp .ne 11, 3) := by decide +kernel
theorem dM_value_103 : decode prog_13_method_34_code 103 = .ok (.aload_n 0, 1) := by decide +kernel
theorem dM_value_104 : decode prog_13_method_34_code 104 = .ok (.aload_n 0, 1) := by decide +kernel
theorem dM_value_105 : decode prog_13_method_34_code 105 = .ok (.getfield 208, 3) := by decide +kernel
theorem dM_value_108 : decode prog_13_method_34_code 108 = .ok (.invokevirtual 229, 3) := by decide +kernel
theorem dM_value_111 : decode prog_13_method_34_code 111 = .ok (.aload_n 0, 1) := by decide +kernel
theorem dM_value_112 : decode prog_13_method_34_code 112 = .ok (.dup, 1) := by decide +kernel
theorem dM_value_113 : decode prog_13_method_34_code 113 = .ok (.getfield 220, 3) := by decide +kernel
theorem dM_value_116 : decode prog_13_method_34_code 116 = .ok (.iconst 1, 1) := by decide +kernel
theorem dM_value_117 : decode prog_13_method_34_code 117 = .ok (.iadd, 1) := by decide +kernel
theorem dM_value_118 : decode prog_13_method_34_code 118 = .ok (.putfield 220, 3) := by decide +kernel
theorem dM_value_121 : decode prog_13_method_34_code 121 = .ok (.aload_n 0, 1) := by decide +kernel
theorem dM_value_122 : decode prog_13_method_34_code 122 = .ok (.dup, 1) := by decide +kernel
theorem dM_value_123 : decode prog_13_method_34_code 123 = .ok (.getfield 208, 3) := by decide +kernel
theorem dM_value_126 : decode prog_13_method_34_code 126 = .ok (.iconst 1, 1) := by decide +kernel
theorem dM_value_127 : decode prog_13_method_34_code 127 = .ok (.iadd, 1) := by decide +kernel
theorem dM_value_128 : decode prog_13_method_34_code 128 = .ok (.putfield 208, 3) := by decide +kernel
theorem dM_value_131 : decode prog_13_method_34_code 131 = .ok (.iload_n 1, 1) := by decide +kernel
theorem dM_value_132 : decode prog_13_method_34_code 132 = .ok (.bipush 91, 2) := by decide +kernel
theorem dM_value_134 : decode prog_13_method_34_code 134 = .ok (.if_icmp .ne 10, 3) := by decide +kernel
theorem dM_value_137 : decode prog_13_method_34_code 137 = .ok (.aload_n 0, 1) := by decide +kernel
theorem dM_value_138 : decode prog_13_method_34_code 138 = .ok (.invokevirtual 250, 3) := by decide +kernel
theorem dM_value_141 : decode prog_13_method_34_code 141 = .ok (.goto 7, 3) := by decide +kernel
theorem dM_value_144 : decode prog_13_method_34_code 144 = .ok (.aload_n 0, 1) := by decide +kernel
theorem dM_value_145 : decode prog_13_method_34_code 145 = .ok (.invokevirtual 253, 3) := by decide +kernel
theorem dM_value_148 : decode prog_13_method_34_code 148 = .ok (.astore_n 2, 1) := by decide +kernel
theorem dM_value_149 : decode prog_13_method_34_code 149 = .ok (.aload_n 0, 1) := by decide +kernel
theorem dM_value_150 : decode prog_13_method_34_code 150 = .ok (.dup, 1) := by decide +kernel
theorem dM_value_151 : decode prog_13_method_34_code 151 = .ok (.getfield 220, 3) := by decide +kernel
theorem dM_value_154 : decode prog_13_method_34_code 154 = .ok (.iconst 1, 1) := by decide +kernel
theorem dM_value_155 : decode prog_13_method_34_code 155 = .ok (.isub, 1) := by decide +kernel
theorem dM_value_156 : decode prog_13_method_34_code 156 = .ok (.putfield 220, 3) := by decide +kernel
theorem dM_value_159 : decode prog_13_method_34_code 159 = .ok (.aload_n 2, 1) := by decide +kernel
theorem dM_value_160 : decode prog_13_method_34_code 160 = .ok (.areturn, 1) := by decide +kernel
theorem dM_wait_0 : decode prog_13_method_14_code 0 = .ok (.aload_n 0, 1) := by decide +kernel
theorem dM_wait_1 : decode prog_13_method_14_code 1 = .ok (.getfield 142, 3) := by decide +kernel
theorem dM_wait_4 : decode prog_13_method_14_code 4 = .ok (.aload_n 0, 1) := by decide +kernel
theorem dM_wait_5 : decode prog_13_method_14_code 5 = .ok (.getfield 25, 3) := by decide +kernel
theorem dM_wait_8 : decode prog_13_method_14_code 8 = .ok (.arraylength, 1) := by decide +kernel
theorem dM_wait_9 : decode prog_13_method_14_code 9 = .ok (.if_icmp .ne 76, 3) := by decide +kernel
theorem dM_wait_12 : decode prog_13_method_14_code 12 = .ok (.iconst 2, 1) := by decide +kernel
theorem dM_wait_13 : decode prog_13_method_14_code 13 = .ok (.aload_n 0, 1) := by decide +kernel
theorem dM_wait_14 : decode prog_13_method_14_code 14 = .ok (.getfield 142, 3) := by decide +kernel
theorem dM_wait_17 : decode prog_13_method_14_code 17 = .ok (.imul, 1) := by decide +kernel
theorem dM_wait_18 : decode prog_13_method_14_code 18 = .ok (.anewarray 7, 3) := by decide +kernel
theorem dM_wait_21 : decode prog_13_method_14_code 21 = .ok (.astore_n 3, 1) := by decide +kernel
theorem dM_wait_22 : decode prog_13_method_14_code 22 = .ok (.iconst 2, 1) := by decide +kernel
theorem dM_wait_23 : decode prog_13_method_14_code 23 = .ok (.aload_n 0, 1) := by decide +kernel
theorem dM_wait_24 : decode prog_13_method_14_code 24 = .ok (.getfield 142, 3) := by decide +kernel
theorem dM_wait_27 : decode prog_13_method_14_code 27 = .ok (.imul, 1) := by decide +kernel
theorem dM_wait_28 : decode prog_13_method_14_code 28 = .ok (.anewarray 7, 3) := by decide +kernel
theorem dM_wait_31 : decode prog_13_method_14_code 31 = .ok (.astore 4, 2) := by decide +kernel
theorem dM_wait_33 : decode prog_13_method_14_code 33 = .ok (.iconst 0, 1) := by decide +kernel
theorem dM_wait_34 : decode prog_13_method_14_code 34 = .ok (.istore 5, 2) := by decide +kernel
theorem dM_wait_36 : decode prog_13_method_14_code 36 = .ok (.iload 5, 2) := by decide +kernel
theorem dM_wait_38 : decode prog_13_method_14_code 38 = .ok (.aload_n 0, 1) := by decide +kernel
theorem dM_wait_39 : decode prog_13_method_14_code 39 = .ok (.getfield 142, 3) := by decide +kernel
theorem dM_wait_42 : decode prog_13_method_14_code 42 = .ok (.if_icmp .ge 32, 3) := by decide +kernel
theorem dM_wait_45 : decode prog_13_method_14_code 45 = .ok (.aload_n 3, 1) := by decide +kernel
theorem dM_wait_46 : decode prog_13_method_14_code 46 = .ok (.iload 5, 2) := by decide +kernel
theorem dM_wait_48 : decode prog_13_method_14_code 48 = .ok (.aload_n 0, 1) := by decide +kernel
theorem dM_wait_49 : decode prog_13_method_14_code 49 = .ok (.getfield 25, 3) := by decide +kernel
theorem dM_wait_52 : decode prog_13_method_14_code 52 = .ok (.iload 5, 2) := by decide +kernel
theorem dM_wait_54 : decode prog_13_method_14_code 54 = .ok (.aaload, 1) := by decide +kernel
theorem dM_wait_55 : decode prog_13_method_14_code 55 = .ok (.aastore, 1) := by decide +kernel
theorem dM_wait_56 : decode prog_13_method_14_code 56 = .ok (.aload 4, 2) := by decide +kernel
theorem dM_wait_58 : decode prog_13_method_14_code 58 = .ok (.iload 5, 2) := by decide +kernel
theorem dM_wait_60 : decode prog_13_method_14_code 60 = .ok (.aload_n 0, 1) := by decide +kernel
theorem dM_wait_61 : decode prog_13_method_14_code 61 = .ok (.getfield 28, 3) := by decide +kernel
theorem dM_wait_64 : decode prog_13_method_14_code 64 = .ok (.iload 5, 2) := by decide +kernel
theorem dM_wait_66 : decode prog_13_method_14_code 66 = .ok (.aaload, 1) := by decide +kernel
theorem dM_wait_67 : decode prog_13_method_14_code 67 = .ok (.aastore, 1) := by decide +kernel
theorem dM_wait_68 : decode prog_13_method_14_code 68 = .ok (.iinc 5 1, 3) := by decide +kernel
theorem dM_wait_71 : decode prog_13_method_14_code 71 = .ok (.goto (-35), 3) := by decide +kernel
theorem dM_wait_74 : decode prog_13_method_14_code 74 = .ok (.aload_n 0, 1) := by decide +kernel
theorem dM_wait_75 : decode prog_13_method_14_code 75 = .ok (.aload_n 3, 1) := by decide +kernel
theorem dM_wait_76 : decode prog_13_method_14_code 76 = .ok (.putfield 25, 3) := by decide +kernel
theorem dM_wait_79 : decode prog_13_method_14_code 79 = .ok (.aload_n 0, 1) := by decide +kernel
theorem dM_wait_80 : decode prog_13_method_14_code 80 = .ok (.aload 4, 2) := by decide +kernel
theorem dM_wait_82 : decode prog_13_method_14_code 82 = .ok (.putfield 28, 3) := by decide +kernel
theorem dM_wait_85 : decode prog_13_method_14_code 85 = .ok (.aload_n 0, 1) := by decide +kernel
theorem dM_wait_86 : decode prog_13_method_14_code 86 = .ok (.getfield 25, 3) := by decide +kernel
theorem dM_wait_89 : decode prog_13_method_14_code 89 = .ok (.aload_n 0, 1) := by decide +kernel
theorem dM_wait_90 : decode prog_13_method_14_code 90 = .ok (.getfield 142, 3) := by decide +kernel
theorem dM_wait_93 : decode prog_13_method_14_code 93 = .ok (.aload_n 2, 1) := by decide +kernel
theorem dM_wait_94 : decode prog_13_method_14_code 94 = .ok (.aastore, 1) := by decide +kernel
theorem dM_wait_95 : decode prog_13_method_14_code 95 = .ok (.aload_n 0, 1) := by decide +kernel
theorem dM_wait_96 : decode prog_13_method_14_code 96 = .ok (.getfield 28, 3) := by decide +kernel
theorem dM_wait_99 : decode prog_13_method_14_code 99 = .ok (.aload_n 0, 1) := by decide +kernel
theorem dM_wait_100 : decode prog_13_method_14_code 100 = .ok (.getfield 142, 3) := by decide +kernel
theorem dM_wait_103 : decode prog_13_method_14_code 103 = .ok (.aload_n 1, 1) := by decide +kernel
theorem dM_wait_104 : decode prog_13_method_14_code 104 = .ok (.aastore, 1) := by decide +kernel
theorem dM_wait_105 : decode prog_13_method_14_code 105 = .ok (.aload_n 0, 1) := by decide +kernel
theorem dM_wait_106 : decode prog_13_method_14_code 106 = .ok (.dup, 1) := by decide +kernel
theorem dM_wait_107 : decode prog_13_method_14_code 107 = .ok (.getfield 142, 3) := by decide +kernel
theorem dM_wait_110 : decode prog_13_method_14_code 110 = .ok (.iconst 1, 1) := by decide +kernel
theorem dM_wait_111 : decode prog_13_method_14_code 111 = .ok (.iadd, 1) := by decide +kernel
theorem dM_wait_112 : decode prog_13_method_14_code 112 = .ok (.putfield 142, 3) := by decide +kernel
theorem dM_wait_115 : decode prog_13_method_14_code 115 = .ok (.return_, 1) := by decide +kernel
theorem dM_whole_0 : decode prog_13_method_15_code 0 = .ok (.aload_n 0, 1) := by decide +kernel
theorem dM_whole_1 : decode prog_13_method_15_code 1 = .ok (.iload_n 1, 1) := by decide +kernel
theorem dM_whole_2 : decode prog_13_method_15_code 2 = .ok (.invokevirtual 120, 3) := by decide +kernel
theorem dM_whole_5 : decode prog_13_method_15_code 5 = .ok (.astore_n 3, 1) := by decide +kernel
theorem dM_whole_6 : decode prog_13_method_15_code 6 = .ok (.aload_n 3, 1) := by decide +kernel
theorem dM_whole_7 : decode prog_13_method_15_code 7 = .ok (.aload_n 0, 1) := by decide +kernel
theorem dM_whole_8 : decode prog_13_method_15_code 8 = .ok (.getfield 145, 3) := by decide +kernel
theorem dM_whole_11 : decode prog_13_method_15_code 11 = .ok (.putfield 100, 3) := by decide +kernel
theorem dM_whole_14 : decode prog_13_method_15_code 14 = .ok (.aload_n 3, 1) := by decide +kernel
theorem dM_whole_15 : decode prog_13_method_15_code 15 = .ok (.aload_n 0, 1) := by decide +kernel
theorem dM_whole_16 : decode prog_13_method_15_code 16 = .ok (.getfield 142, 3) := by decide +kernel
theorem dM_whole_19 : decode prog_13_method_15_code 19 = .ok (.iload_n 2, 1) := by decide +kernel
theorem dM_whole_20 : decode prog_13_method_15_code 20 = .ok (.isub, 1) := by decide +kernel
theorem dM_whole_21 : decode prog_13_method_15_code 21 = .ok (.putfield 103, 3) := by decide +kernel
theorem dM_whole_24 : decode prog_13_method_15_code 24 = .ok (.aload_n 0, 1) := by decide +kernel
theorem dM_whole_25 : decode prog_13_method_15_code 25 = .ok (.getfield 145, 3) := by decide +kernel
theorem dM_whole_28 : decode prog_13_method_15_code 28 = .ok (.aload_n 3, 1) := by decide +kernel
theorem dM_whole_29 : decode prog_13_method_15_code 29 = .ok (.getfield 103, 3) := by decide +kernel
theorem dM_whole_32 : decode prog_13_method_15_code 32 = .ok (.iadd, 1) := by decide +kernel
theorem dM_whole_33 : decode prog_13_method_15_code 33 = .ok (.aload_n 0, 1) := by decide +kernel
theorem dM_whole_34 : decode prog_13_method_15_code 34 = .ok (.getfield 19, 3) := by decide +kernel
theorem dM_whole_37 : decode prog_13_method_15_code 37 = .ok (.arraylength, 1) := by decide +kernel
theorem dM_whole_38 : decode prog_13_method_15_code 38 = .ok (.if_icmp .le 84, 3) := by decide +kernel
theorem dM_whole_41 : decode prog_13_method_15_code 41 = .ok (.iconst 2, 1) := by decide +kernel
theorem dM_whole_42 : decode prog_13_method_15_code 42 = .ok (.aload_n 0, 1) := by decide +kernel
theorem dM_whole_43 : decode prog_13_method_15_code 43 = .ok (.getfield 19, 3) := by decide +kernel
theorem dM_whole_46 : decode prog_13_method_15_code 46 = .ok (.arraylength, 1) := by decide +kernel
theorem dM_whole_47 : decode prog_13_method_15_code 47 = .ok (.imul, 1) := by decide +kernel
theorem dM_whole_48 : decode prog_13_method_15_code 48 = .ok (.anewarray 7, 3) := by decide +kernel
theorem dM_whole_51 : decode prog_13_method_15_code 51 = .ok (.astore 4, 2) := by decide +kernel
theorem dM_whole_53 : decode prog_13_method_15_code 53 = .ok (.iconst 2, 1) := by decide +kernel
theorem dM_whole_54 : decode prog_13_method_15_code 54 = .ok (.aload_n 0, 1) := by decide +kernel
theorem dM_whole_55 : decode prog_13_method_15_code 55 = .ok (.getfield 19, 3) := by decide +kernel
theorem dM_whole_58 : decode prog_13_method_15_code 58 = .ok (.arraylength, 1) := by decide +kernel
theorem dM_whole_59 : decode prog_13_method_15_code 59 = .ok (.imul, 1) := by decide +kernel
theorem dM_whole_60 : decode prog_13_method_15_code 60 = .ok (.anewarray 7, 3) := by decide +kernel
theorem dM_whole_63 : decode prog_13_method_15_code 63 = .ok (.astore 5, 2) := by decide +kernel
theorem dM_whole_65 : decode prog_13_method_15_code 65 = .ok (.iconst 0, 1) := by decide +kernel
theorem dM_whole_66 : decode prog_13_method_15_code 66 = .ok (.istore 6, 2) := by decide +kernel
theorem dM_whole_68 : decode prog_13_method_15_code 68 = .ok (.iload 6, 2) := by decide +kernel
theorem dM_whole_70 : decode prog_13_method_15_code 70 = .ok (.aload_n 0, 1) := by decide +kernel
theorem dM_whole_71 : decode prog_13_method_15_code 71 = .ok (.getfield 145, 3) := by decide +kernel
theorem dM_whole_74 : decode prog_13_method_15_code 74 = .ok (.if_icmp .ge 33, 3) := by decide +kernel
theorem dM_whole_77 : decode prog_13_method_15_code 77 = .ok (.aload 4, 2) := by decide +kernel
theorem dM_whole_79 : decode prog_13_method_15_code 79 = .ok (.iload 6, 2) := by decide +kernel
theorem dM_whole_81 : decode prog_13_method_15_code 81 = .ok (.aload_n 0, 1) := by decide +kernel
theorem dM_whole_82 : decode prog_13_method_15_code 82 = .ok (.getfield 19, 3) := by decide +kernel
theorem dM_whole_85 : decode prog_13_method_15_code 85 = .ok (.iload 6, 2) := by decide +kernel
theorem dM_whole_87 : decode prog_13_method_15_code 87 = .ok (.aaload, 1) := by decide +kernel
theorem dM_whole_88 : decode prog_13_method_15_code 88 = .ok (.aastore, 1) := by decide +kernel
theorem dM_whole_89 : decode prog_13_method_15_code 89 = .ok (.aload 5, 2) := by decide +kernel
theorem dM_whole_91 : decode prog_13_method_15_code 91 = .ok (.iload 6, 2) := by decide +kernel
theorem dM_whole_93 : decode prog_13_method_15_code 93 = .ok (.aload_n 0, 1) := by decide +kernel
theorem dM_whole_94 : decode prog_13_method_15_code 94 = .ok (.getfield 22, 3) := by decide +kernel
theorem dM_whole_97 : decode prog_13_method_15_code 97 = .ok (.iload 6, 2) := by decide +kernel
theorem dM_whole_99 : decode prog_13_method_15_code 99 = .ok (.aaload, 1) := by decide +kernel
theorem dM_whole_100 : decode prog_13_method_15_code 100 = .ok (.aastore, 1) := by decide +kernel
theorem dM_whole_101 : decode prog_13_method_15_code 101 = .ok (.iinc 6 1, 3) := by decide +kernel
theorem dM_whole_104 : decode prog_13_method_15_code 104 = .ok (.goto (-36), 3) := by decide +kernel
theorem dM_whole_107 : decode prog_13_method_15_code 107 = .ok (.aload_n 0, 1) := by decide +kernel
theorem dM_whole_108 : decode prog_13_method_15_code 108 = .ok (.aload 4, 2) := by decide +kernel
theorem dM_whole_110 : decode prog_13_method_15_code 110 = .ok (.putfield 19, 3) := by decide +kernel
theorem dM_whole_113 : decode prog_13_method_15_code 113 = .ok (.aload_n 0, 1) := by decide +kernel
theorem dM_whole_114 : decode prog_13_method_15_code 114 = .ok (.aload 5, 2) := by decide +kernel
theorem dM_whole_116 : decode prog_13_method_15_code 116 = .ok (.putfield 22, 3) := by decide +kernel
theorem dM_whole_119 : decode prog_13_method_15_code 119 = .ok (.goto (-95), 3) := by decide +kernel
theorem dM_whole_122 : decode prog_13_method_15_code 122 = .ok (.lconst 1, 1) := by decide +kernel
theorem dM_whole_123 : decode prog_13_method_15_code 123 = .ok (.lstore 4, 2) := by decide +kernel
theorem dM_whole_125 : decode prog_13_method_15_code 125 = .ok (.iconst 0, 1) := by decide +kernel
theorem dM_whole_126 : decode prog_13_method_15_code 126 = .ok (.istore 6, 2) := by decide +kernel
theorem dM_whole_128 : decode prog_13_method_15_code 128 = .ok (.iload_n 2, 1) := by decide +kernel
theorem dM_whole_129 : decode prog_13_method_15_code 129 = .ok (.istore 7, 2) := by decide +kernel
theorem dM_whole_131 : decode prog_13_method_15_code 131 = .ok (.iload 7, 2) := by decide +kernel
theorem dM_whole_133 : decode prog_13_method_15_code 133 = .ok (.aload_n 0, 1) := by decide +kernel
theorem dM_whole_134 : decode prog_13_method_15_code 134 = .ok (.getfield 142, 3) := by decide +kernel
theorem dM_whole_137 : decode prog_13_method_15_code 137 = .ok (.if_icmp .ge 105, 3) := by decide +kernel
theorem dM_whole_140 : decode prog_13_method_15_code 140 = .ok (.aload_n 0, 1) := by decide +kernel
theorem dM_whole_141 : decode prog_13_method_15_code 141 = .ok (.getfield 19, 3) := by decide +kernel
theorem dM_whole_144 : decode prog_13_method_15_code 144 = .ok (.aload_n 0, 1) := by decide +kernel
theorem dM_whole_145 : decode prog_13_method_15_code 145 = .ok (.getfield 145, 3) := by decide +kernel
theorem dM_whole_148 : decode prog_13_method_15_code 148 = .ok (.aload_n 0, 1) := by decide +kernel
theorem dM_whole_149 : decode prog_13_method_15_code 149 = .ok (.getfield 25, 3) := by decide +kernel
theorem dM_whole_152 : decode prog_13_method_15_code 152 = .ok (.iload 7, 2) := by decide +kernel
theorem dM_whole_154 : decode prog_13_method_15_code 154 = .ok (.aaload, 1) := by decide +kernel
theorem dM_whole_155 : decode prog_13_method_15_code 155 = .ok (.aastore, 1) := by decide +kernel
theorem dM_whole_156 : decode prog_13_method_15_code 156 = .ok (.aload_n 0, 1) := by decide +kernel
theorem dM_whole_157 : decode prog_13_method_15_code 157 = .ok (.getfield 22, 3) := by decide +kernel
theorem dM_whole_160 : decode prog_13_method_15_code 160 = .ok (.aload_n 0, 1) := by decide +kernel
theorem dM_whole_161 : decode prog_13_method_15_code 161 = .ok (.getfield 145, 3) := by decide +kernel
theorem dM_whole_164 : decode prog_13_method_15_code 164 = .ok (.aload_n 0, 1) := by decide +kernel
theorem dM_whole_165 : decode prog_13_method_15_code 165 = .ok (.getfield 28, 3) := by decide +kernel
theorem dM_whole_168 : decode prog_13_method_15_code 168 = .ok (.iload 7, 2) := by decide +kernel
theorem dM_whole_170 : decode prog_13_method_15_code 170 = .ok (.aaload, 1) := by decide +kernel
theorem dM_whole_171 : decode prog_13_method_15_code 171 = .ok (.aastore, 1) := by decide +kernel
theorem dM_whole_172 : decode prog_13_method_15_code 172 = .ok (.aload_n 0, 1) := by decide +kernel
theorem dM_whole_173 : decode prog_13_method_15_code 173 = .ok (.dup, 1) := by decide +kernel
theorem dM_whole_174 : decode prog_13_method_15_code 174 = .ok (.getfield 145, 3) := by decide +kernel
theorem dM_whole_177 : decode prog_13_method_15_code 177 = .ok (.iconst 1, 1) := by decide +kernel
theorem dM_whole_178 : decode prog_13_method_15_code 178 = .ok (.iadd, 1) := by decide +kernel
theorem dM_whole_179 : decode prog_13_method_15_code 179 = .ok (.putfield 145, 3) := by decide +kernel
theorem dM_whole_182 : decode prog_13_method_15_code 182 = .ok (.lload 4, 2) := by decide +kernel
theorem dM_whole_184 : decode prog_13_method_15_code 184 = .ok (.aload_n 0, 1) := by decide +kernel
theorem dM_whole_185 : decode prog_13_method_15_code 185 = .ok (.getfield 25, 3) := by decide +kernel
theorem dM_whole_188 : decode prog_13_method_15_code 188 = .ok (.iload 7, 2) := by decide +kernel
theorem dM_whole_190 : decode prog_13_method_15_code 190 = .ok (.aaload, 1) := by decide +kernel
theorem dM_whole_191 : decode prog_13_method_15_code 191 = .ok (.getfield 109, 3) := by decide +kernel
theorem dM_whole_194 : decode prog_13_method_15_code 194 = .ok (.iload_n 1, 1) := by decide +kernel
theorem dM_whole_195 : decode prog_13_method_15_code 195 = .ok (.bipush 6, 2) := by decide +kernel
theorem dM_whole_197 : decode prog_13_method_15_code 197 = .ok (.if_icmp .ne 16, 3) := by decide +kernel
theorem dM_whole_200 : decode prog_13_method_15_code 200 = .ok (.aload_n 0, 1) := by decide +kernel
theorem dM_whole_201 : decode prog_13_method_15_code 201 = .ok (.getfield 28, 3) := by decide +kernel
theorem dM_whole_204 : decode prog_13_method_15_code 204 = .ok (.iload 7, 2) := by decide +kernel
theorem dM_whole_206 : decode prog_13_method_15_code 206 = .ok (.aaload, 1) := by decide +kernel
theorem dM_whole_207 : decode prog_13_method_15_code 207 = .ok (.getfield 109, 3) := by decide +kernel
theorem dM_whole_210 : decode prog_13_method_15_code 210 = .ok (.goto 4, 3) := by decide +kernel
theorem dM_whole_213 : decode prog_13_method_15_code 213 = .ok (.iconst 0, 1) := by decide +kernel
theorem dM_whole_214 : decode prog_13_method_15_code 214 = .ok (.iadd, 1) := by decide +kernel
theorem dM_whole_215 : decode prog_13_method_15_code 215 = .ok (.i2l, 1) := by decide +kernel
theorem dM_whole_216 : decode prog_13_method_15_code 216 = .ok (.ladd, 1) := by decide +kernel
theorem dM_whole_217 : decode prog_13_method_15_code 217 = .ok (.lstore 4, 2) := by decide +kernel
theorem dM_whole_219 : decode prog_13_method_15_code 219 = .ok (.iload 6, 2) := by decide +kernel
theorem dM_whole_221 : decode prog_13_method_15_code 221 = .ok (.aload_n 0, 1) := by decide +kernel
theorem dM_whole_222 : decode prog_13_method_15_code 222 = .ok (.getfield 25, 3) := by decide +kernel
theorem dM_whole_225 : decode prog_13_method_15_code 225 = .ok (.iload 7, 2) := by decide +kernel
theorem dM_whole_227 : decode prog_13_method_15_code 227 = .ok (.aaload, 1) := by decide +kernel
theorem dM_whole_228 : decode prog_13_method_15_code 228 = .ok (.getfield 106, 3) := by decide +kernel
theorem dM_whole_231 : decode prog_13_method_15_code 231 = .ok (.invokestatic 148, 3) := by decide +kernel
theorem dM_whole_234 : decode prog_13_method_15_code 234 = .ok (.istore 6, 2) := by decide +kernel
theorem dM_whole_236 : decode prog_13_method_15_code 236 = .ok (.iinc 7 1, 3) := by decide +kernel
theorem dM_whole_239 : decode prog_13_method_15_code 239 = .ok (.goto (-108), 3) := by decide +kernel
theorem dM_whole_242 : decode prog_13_method_15_code 242 = .ok (.aload_n 0, 1) := by decide +kernel
theorem dM_whole_243 : decode prog_13_method_15_code 243 = .ok (.iload_n 2, 1) := by decide +kernel
theorem dM_whole_244 : decode prog_13_method_15_code 244 = .ok (.putfield 142, 3) := by decide +kernel
theorem dM_whole_247 : decode prog_13_method_15_code 247 = .ok (.aload_n 3, 1) := by decide +kernel
theorem dM_whole_248 : decode prog_13_method_15_code 248 = .ok (.iload 6, 2) := by decide +kernel
theorem dM_whole_250 : decode prog_13_method_15_code 250 = .ok (.iconst 1, 1) := by decide +kernel
theorem dM_whole_251 : decode prog_13_method_15_code 251 = .ok (.iadd, 1) := by decide +kernel
theorem dM_whole_252 : decode prog_13_method_15_code 252 = .ok (.putfield 106, 3) := by decide +kernel
theorem dM_whole_255 : decode prog_13_method_15_code 255 = .ok (.aload_n 3, 1) := by decide +kernel
theorem dM_whole_256 : decode prog_13_method_15_code 256 = .ok (.getfield 106, 3) := by decide +kernel
theorem dM_whole_259 : decode prog_13_method_15_code 259 = .ok (.bipush 60, 2) := by decide +kernel
theorem dM_whole_261 : decode prog_13_method_15_code 261 = .ok (.if_icmp .gt 12, 3) := by decide +kernel
theorem dM_whole_264 : decode prog_13_method_15_code 264 = .ok (.lload 4, 2) := by decide +kernel
theorem dM_whole_266 : decode prog_13_method_15_code 266 = .ok (.ldc2_w 154, 3) := by decide +kernel
theorem dM_whole_269 : decode prog_13_method_15_code 269 = .ok (.lcmp, 1) := by decide +kernel
theorem dM_whole_270 : decode prog_13_method_15_code 270 = .ok (.ifCond .le 8, 3) := by decide +kernel
theorem dM_whole_273 : decode prog_13_method_15_code 273 = .ok (.aload_n 0, 1) := by decide +kernel
theorem dM_whole_274 : decode prog_13_method_15_code 274 = .ok (.invokevirtual 127, 3) := by decide +kernel
theorem dM_whole_278 : decode prog_13_method_15_code 278 = .ok (.aload_n 3, 1) := by decide +kernel
theorem dM_whole_279 : decode prog_13_method_15_code 279 = .ok (.lload 4, 2) := by decide +kernel
theorem dM_whole_281 : decode prog_13_method_15_code 281 = .ok (.l2i, 1) := by decide +kernel
theorem dM_whole_282 : decode prog_13_method_15_code 282 = .ok (.putfield 109, 3) := by decide +kernel
theorem dM_whole_285 : decode prog_13_method_15_code 285 = .ok (.aload_n 3, 1) := by decide +kernel
theorem dM_whole_286 : decode prog_13_method_15_code 286 = .ok (.areturn, 1) := by decide +kernel
theorem dM_without_0 : decode prog_13_method_50_code 0 = .ok (.aload_n 0, 1) := by decide +kernel
theorem dM_without_1 : decode prog_13_method_50_code 1 = .ok (.getfield 142, 3) := by decide +kernel
theorem dM_without_4 : decode prog_13_method_50_code 4 = .ok (.istore_n 3, 1) := by decide +kernel
theorem dM_without_5 : decode prog_13_method_50_code 5 = .ok (.iconst 0, 1) := by decide +kernel
theorem dM_without_6 : decode prog_13_method_50_code 6 = .ok (.istore 4, 2) := by decide +kernel
theorem dM_without_8 : decode prog_13_method_50_code 8 = .ok (.iload 4, 2) := by decide +kernel
theorem dM_without_10 : decode prog_13_method_50_code 10 = .ok (.aload_n 1, 1) := by decide +kernel
theorem dM_without_11 : decode prog_13_method_50_code 11 = .ok (.getfield 103, 3) := by decide +kernel
theorem dM_without_14 : decode prog_13_method_50_code 14 = .ok (.if_icmp .ge 72, 3) := by decide +kernel
theorem dM_without_17 : decode prog_13_method_50_code 17 = .ok (.iconst 0, 1) := by decide +kernel
theorem dM_without_18 : decode prog_13_method_50_code 18 = .ok (.istore 5, 2) := by decide +kernel
theorem dM_without_20 : decode prog_13_method_50_code 20 = .ok (.iconst 0, 1) := by decide +kernel
theorem dM_without_21 : decode prog_13_method_50_code 21 = .ok (.istore 6, 2) := by decide +kernel
theorem dM_without_23 : decode prog_13_method_50_code 23 = .ok (.iload 6, 2) := by decide +kernel
theorem dM_without_25 : decode prog_13_method_50_code 25 = .ok (.aload_n 2, 1) := by decide +kernel
theorem dM_without_26 : decode prog_13_method_50_code 26 = .ok (.getfield 103, 3) := by decide +kernel
theorem dM_without_29 : decode prog_13_method_50_code 29 = .ok (.if_icmp .ge 34, 3) := by decide +kernel
theorem dM_without_32 : decode prog_13_method_50_code 32 = .ok (.iload 5, 2) := by decide +kernel
theorem dM_without_34 : decode prog_13_method_50_code 34 = .ok (.ifCond .ne 29, 3) := by decide +kernel
theorem dM_without_37 : decode prog_13_method_50_code 37 = .ok (.aload_n 0, 1) := by decide +kernel
theorem dM_without_38 : decode prog_13_method_50_code 38 = .ok (.aload_n 0, 1) := by decide +kernel
theorem dM_without_39 : decode prog_13_method_50_code 39 = .ok (.aload_n 1, 1) := by decide +kernel
theorem dM_without_40 : decode prog_13_method_50_code 40 = .ok (.iload 4, 2) := by decide +kernel
theorem dM_without_42 : decode prog_13_method_50_code 42 = .ok (.invokevirtual 170, 3) := by decide +kernel
theorem dM_without_45 : decode prog_13_method_50_code 45 = .ok (.aload_n 0, 1) := by decide +kernel
theorem dM_without_46 : decode prog_13_method_50_code 46 = .ok (.aload_n 2, 1) := by decide +kernel
theorem dM_without_47 : decode prog_13_method_50_code 47 = .ok (.iload 6, 2) := by decide +kernel
theorem dM_without_49 : decode prog_13_method_50_code 49 = .ok (.invokevirtual 170, 3) := by decide +kernel
theorem dM_without_52 : decode prog_13_method_50_code 52 = .ok (.invokevirtual 173, 3) := by decide +kernel
theorem dM_without_55 : decode prog_13_method_50_code 55 = .ok (.istore 5, 2) := by decide +kernel
theorem dM_without_57 : decode prog_13_method_50_code 57 = .ok (.iinc 6 1, 3) := by decide +kernel
theorem dM_without_60 : decode prog_13_method_50_code 60 = .ok (.goto (-37), 3) := by decide +kernel
theorem dM_without_63 : decode prog_13_method_50_code 63 = .ok (.iload 5, 2) := by decide +kernel
theorem dM_without_65 : decode prog_13_method_50_code 65 = .ok (.ifCond .ne 15, 3) := by decide +kernel
theorem dM_without_68 : decode prog_13_method_50_code 68 = .ok (.aload_n 0, 1) := by decide +kernel
theorem dM_without_69 : decode prog_13_method_50_code 69 = .ok (.aconst_null, 1) := by decide +kernel
theorem dM_without_70 : decode prog_13_method_50_code 70 = .ok (.aload_n 0, 1) := by decide +kernel
theorem dM_without_71 : decode prog_13_method_50_code 71 = .ok (.aload_n 1, 1) := by decide +kernel
theorem dM_without_72 : decode prog_13_method_50_code 72 = .ok (.iload 4, 2) := by decide +kernel
theorem dM_without_74 : decode prog_13_method_50_code 74 = .ok (.invokevirtual 170, 3) := by decide +kernel
theorem dM_without_77 : decode prog_13_method_50_code 77 = .ok (.invokevirtual 186, 3) := by decide +kernel
theorem dM_without_80 : decode prog_13_method_50_code 80 = .ok (.iinc 4 1, 3) := by decide +kernel
theorem dM_without_83 : decode prog_13_method_50_code 83 = .ok (.goto (-75), 3) := by decide +kernel
theorem dM_without_86 : decode prog_13_method_50_code 86 = .ok (.aload_n 0, 1) := by decide +kernel
theorem dM_without_87 : decode prog_13_method_50_code 87 = .ok (.iconst 5, 1) := by decide +kernel
theorem dM_without_88 : decode prog_13_method_50_code 88 = .ok (.iload_n 3, 1) := by decide +kernel
theorem dM_without_89 : decode prog_13_method_50_code 89 = .ok (.invokevirtual 190, 3) := by decide +kernel
theorem dM_without_92 : decode prog_13_method_50_code 92 = .ok (.areturn, 1) := by decide +kernel
theorem dM_word_0 : decode prog_13_method_87_code 0 = .ok (.aload_n 0, 1) := by decide +kernel
theorem dM_word_1 : decode prog_13_method_87_code 1 = .ok (.iconst 0, 1) := by decide +kernel
theorem dM_word_2 : decode prog_13_method_87_code 2 = .ok (.putfield 77, 3) := by decide +kernel
theorem dM_word_5 : decode prog_13_method_87_code 5 = .ok (.iload_n 1, 1) := by decide +kernel
theorem dM_word_6 : decode prog_13_method_87_code 6 = .ok (.ifCond .lt 11, 3) := by decide +kernel
theorem dM_word_9 : decode prog_13_method_87_code 9 = .ok (.iload_n 1, 1) := by decide +kernel
theorem dM_word_10 : decode prog_13_method_87_code 10 = .ok (.aload_n 0, 1) := by decide +kernel
theorem dM_word_11 : decode prog_13_method_87_code 11 = .ok (.getfield 434, 3) := by decide +kernel
theorem dM_word_14 : decode prog_13_method_87_code 14 = .ok (.if_icmp .lt 10, 3) := by decide +kernel
theorem dM_word_17 : decode prog_13_method_87_code 17 = .ok (.aload_n 0, 1) := by decide +kernel
theorem dM_word_18 : decode prog_13_method_87_code 18 = .ok (.iconst 1, 1) := by decide +kernel
theorem dM_word_19 : decode prog_13_method_87_code 19 = .ok (.invokevirtual 418, 3) := by decide +kernel
theorem dM_word_22 : decode prog_13_method_87_code 22 = .ok (.i2l, 1) := by decide +kernel
theorem dM_word_23 : decode prog_13_method_87_code 23 = .ok (.lreturn, 1) := by decide +kernel
theorem dM_word_24 : decode prog_13_method_87_code 24 = .ok (.lconst 0, 1) := by decide +kernel
theorem dM_word_25 : decode prog_13_method_87_code 25 = .ok (.lstore_n 2, 1) := by decide +kernel
theorem dM_word_26 : decode prog_13_method_87_code 26 = .ok (.iload_n 1, 1) := by decide +kernel
theorem dM_word_27 : decode prog_13_method_87_code 27 = .ok (.istore 4, 2) := by decide +kernel
theorem dM_word_29 : decode prog_13_method_87_code 29 = .ok (.iload 4, 2) := by decide +kernel
theorem dM_word_31 : decode prog_13_method_87_code 31 = .ok (.iload_n 1, 1) := by decide +kernel
theorem dM_word_32 : decode prog_13_method_87_code 32 = .ok (.bipush 8, 2) := by decide +kernel
theorem dM_word_34 : decode prog_13_method_87_code 34 = .ok (.iadd, 1) := by decide +kernel
theorem dM_word_35 : decode prog_13_method_87_code 35 = .ok (.if_icmp .ge 41, 3) := by decide +kernel
theorem dM_word_38 : decode prog_13_method_87_code 38 = .ok (.lload_n 2, 1) := by decide +kernel
theorem dM_word_39 : decode prog_13_method_87_code 39 = .ok (.ldc2_w 440, 3) := by decide +kernel
theorem dM_word_42 : decode prog_13_method_87_code 42 = .ok (.lmul, 1) := by decide +kernel
theorem dM_word_43 : decode prog_13_method_87_code 43 = .ok (.iload 4, 2) := by decide +kernel
theorem dM_word_45 : decode prog_13_method_87_code 45 = .ok (.aload_n 0, 1) := by decide +kernel
theorem dM_word_46 : decode prog_13_method_87_code 46 = .ok (.getfield 434, 3) := by decide +kernel
theorem dM_word_49 : decode prog_13_method_87_code 49 = .ok (.if_icmp .ge 17, 3) := by decide +kernel
theorem dM_word_52 : decode prog_13_method_87_code 52 = .ok (.aload_n 0, 1) := by decide +kernel
theorem dM_word_53 : decode prog_13_method_87_code 53 = .ok (.getfield 63, 3) := by decide +kernel
theorem dM_word_56 : decode prog_13_method_87_code 56 = .ok (.iload 4, 2) := by decide +kernel
theorem dM_word_58 : decode prog_13_method_87_code 58 = .ok (.baload, 1) := by decide +kernel
theorem dM_word_59 : decode prog_13_method_87_code 59 = .ok (.sipush 255, 3) := by decide +kernel
theorem dM_word_62 : decode prog_13_method_87_code 62 = .ok (.iand, 1) := by decide +kernel
theorem dM_word_63 : decode prog_13_method_87_code 63 = .ok (.goto 4, 3) := by decide +kernel
theorem dM_word_66 : decode prog_13_method_87_code 66 = .ok (.iconst 0, 1) := by decide +kernel
theorem dM_word_67 : decode prog_13_method_87_code 67 = .ok (.i2l, 1) := by decide +kernel
theorem dM_word_68 : decode prog_13_method_87_code 68 = .ok (.ladd, 1) := by decide +kernel
theorem dM_word_69 : decode prog_13_method_87_code 69 = .ok (.lstore_n 2, 1) := by decide +kernel
theorem dM_word_70 : decode prog_13_method_87_code 70 = .ok (.iinc 4 1, 3) := by decide +kernel
theorem dM_word_73 : decode prog_13_method_87_code 73 = .ok (.goto (-44), 3) := by decide +kernel
theorem dM_word_76 : decode prog_13_method_87_code 76 = .ok (.lload_n 2, 1) := by decide +kernel
theorem dM_word_77 : decode prog_13_method_87_code 77 = .ok (.lreturn, 1) := by decide +kernel
theorem dV_init_0 : decode prog_14_method_1_code 0 = .ok (.aload_n 0, 1) := by decide +kernel
theorem dV_init_1 : decode prog_14_method_1_code 1 = .ok (.invokespecial 1, 3) := by decide +kernel
theorem dV_init_4 : decode prog_14_method_1_code 4 = .ok (.return_, 1) := by decide +kernel
