theorem xsw {x k : Int32} {i : Int} (h : ¬ x = k) (hk : k.toInt = i) : x.toInt ≠ i := fun e => h (Int32.toInt_inj.mp (e.trans hk.symm))
def yK_apply : MethodName := ⟨"ValueBench$Keyed", "apply", "(ILValueBench$Row;LValueBench$Row;LValueBench$Sorter;LValueBench$Row;)I"⟩
def yK_beginsGroup : MethodName := ⟨"ValueBench$Keyed", "beginsGroup", "(LValueBench$Row;ILValueBench$Sorter;)Z"⟩
def yK_putFirsts : MethodName := ⟨"ValueBench$Keyed", "putFirsts", "(LValueBench$Row;LValueBench$Row;LValueBench$Sorter;LValueBench$Row;)V"⟩
def yK_putGroup : MethodName := ⟨"ValueBench$Keyed", "putGroup", "(LValueBench$Row;LValueBench$Row;ILValueBench$Sorter;LValueBench$Row;)V"⟩
def yK_putGroups : MethodName := ⟨"ValueBench$Keyed", "putGroups", "(LValueBench$Row;LValueBench$Row;LValueBench$Sorter;LValueBench$Row;)V"⟩
def yK_putSorted : MethodName := ⟨"ValueBench$Keyed", "putSorted", "(LValueBench$Row;LValueBench$Sorter;LValueBench$Row;)V"⟩
def yK_putTurnOrNull : MethodName := ⟨"ValueBench$Keyed", "putTurnOrNull", "(LValueBench$Row;ILValueBench$Sorter;LValueBench$Row;)V"⟩
def yA_apply : MethodName := ⟨"ValueBench$Operators", "apply", "(ILValueBench$Row;LValueBench$Row;LValueBench$Row;)I"⟩
def yA_hasElement : MethodName := ⟨"ValueBench$Operators", "hasElement", "(LValueBench$Row;LValueBench$Row;I)Z"⟩
def yA_minus : MethodName := ⟨"ValueBench$Operators", "minus", "(LValueBench$Row;LValueBench$Row;LValueBench$Row;)I"⟩
def yA_number : MethodName := ⟨"ValueBench$Operators", "number", "(JLValueBench$Row;)I"⟩
def yA_ofNumbers : MethodName := ⟨"ValueBench$Operators", "ofNumbers", "(IJJLValueBench$Row;)I"⟩
def yA_pieces : MethodName := ⟨"ValueBench$Operators", "pieces", "(LValueBench$Row;LValueBench$Row;LValueBench$Row;)I"⟩
def yA_plus : MethodName := ⟨"ValueBench$Operators", "plus", "(LValueBench$Row;LValueBench$Row;LValueBench$Row;)I"⟩
def yA_product : MethodName := ⟨"ValueBench$Operators", "product", "(JJLValueBench$Row;)I"⟩
def yA_putBoth : MethodName := ⟨"ValueBench$Operators", "putBoth", "(LValueBench$Row;ILValueBench$Row;ILValueBench$Row;ZI)V"⟩
def yA_putCharacters : MethodName := ⟨"ValueBench$Operators", "putCharacters", "(LValueBench$Row;LValueBench$Row;)I"⟩
def yA_putNewNames : MethodName := ⟨"ValueBench$Operators", "putNewNames", "(LValueBench$Row;ILValueBench$Row;ILValueBench$Row;)I"⟩
def yA_putOneBehindOther : MethodName := ⟨"ValueBench$Operators", "putOneBehindOther", "(LValueBench$Row;LValueBench$Row;LValueBench$Row;)V"⟩
def yA_putPieces : MethodName := ⟨"ValueBench$Operators", "putPieces", "(LValueBench$Row;LValueBench$Row;LValueBench$Row;)I"⟩
def yA_putRepeated : MethodName := ⟨"ValueBench$Operators", "putRepeated", "(LValueBench$Row;JLValueBench$Row;)V"⟩
def yA_times : MethodName := ⟨"ValueBench$Operators", "times", "(LValueBench$Row;LValueBench$Row;LValueBench$Row;)I"⟩
def yO_isSame : MethodName := ⟨"ValueBench$Order", "isSame", "(LValueBench$Row;ILValueBench$Row;I)Z"⟩
def yO_nextName : MethodName := ⟨"ValueBench$Order", "nextName", "(LValueBench$Row;II)I"⟩
def yO_of : MethodName := ⟨"ValueBench$Order", "of", "(LValueBench$Row;ILValueBench$Row;II)I"⟩
def yO_ofArrays : MethodName := ⟨"ValueBench$Order", "ofArrays", "(LValueBench$Row;ILValueBench$Row;II)I"⟩
def yO_ofObjects : MethodName := ⟨"ValueBench$Order", "ofObjects", "(LValueBench$Row;ILValueBench$Row;II)I"⟩
def yH_addShown : MethodName := ⟨"ValueBench$Pairs", "addShown", "(LValueBench$Row;ILValueBench$Text;)V"⟩
def yH_apply : MethodName := ⟨"ValueBench$Pairs", "apply", "(ILValueBench$Row;LValueBench$Row;LValueBench$Text;LValueBench$Row;)I"⟩
def yH_areElementsIn : MethodName := ⟨"ValueBench$Pairs", "areElementsIn", "(LValueBench$Row;ILValueBench$Row;II)Z"⟩
def yH_areNamesIn : MethodName := ⟨"ValueBench$Pairs", "areNamesIn", "(LValueBench$Row;ILValueBench$Row;II)Z"⟩
def yH_areOfOneKind : MethodName := ⟨"ValueBench$Pairs", "areOfOneKind", "(LValueBench$Row;ILValueBench$Row;I)Z"⟩
def yH_areSame : MethodName := ⟨"ValueBench$Pairs", "areSame", "(LValueBench$Row;ILValueBench$Row;II)Z"⟩
def yH_areStrings : MethodName := ⟨"ValueBench$Pairs", "areStrings", "(LValueBench$Row;LValueBench$Row;)Z"⟩
def yH_at : MethodName := ⟨"ValueBench$Pairs", "at", "(LValueBench$Row;LValueBench$Row;LValueBench$Row;)I"⟩
def yH_begins : MethodName := ⟨"ValueBench$Pairs", "begins", "(LValueBench$Row;LValueBench$Row;)Z"⟩
def yH_contains : MethodName := ⟨"ValueBench$Pairs", "contains", "(LValueBench$Row;LValueBench$Row;LValueBench$Row;)I"⟩
def yH_copy : MethodName := ⟨"ValueBench$Pairs", "copy", "(LValueBench$Row;ILValueBench$Row;)I"⟩
def yH_elementAt : MethodName := ⟨"ValueBench$Pairs", "elementAt", "(LValueBench$Row;JLValueBench$Row;)I"⟩
def yH_ends : MethodName := ⟨"ValueBench$Pairs", "ends", "(LValueBench$Row;LValueBench$Row;)Z"⟩
def yH_flat : MethodName := ⟨"ValueBench$Pairs", "flat", "(LValueBench$Row;LValueBench$Row;LValueBench$Row;)I"⟩
def yH_has : MethodName := ⟨"ValueBench$Pairs", "has", "(LValueBench$Row;LValueBench$Row;LValueBench$Row;)I"⟩
def yH_indices : MethodName := ⟨"ValueBench$Pairs", "indices", "(LValueBench$Row;LValueBench$Row;LValueBench$Row;)I"⟩
def yH_isIn : MethodName := ⟨"ValueBench$Pairs", "isIn", "(LValueBench$Row;ILValueBench$Row;II)Z"⟩
def yH_isInSome : MethodName := ⟨"ValueBench$Pairs", "isInSome", "(LValueBench$Row;ILValueBench$Row;II)Z"⟩
def yH_isPart : MethodName := ⟨"ValueBench$Pairs", "isPart", "(LValueBench$Row;ILValueBench$Row;I)Z"⟩
def yH_isTruth : MethodName := ⟨"ValueBench$Pairs", "isTruth", "(I)Z"⟩
def yH_joined : MethodName := ⟨"ValueBench$Pairs", "joined", "(LValueBench$Row;LValueBench$Row;LValueBench$Text;LValueBench$Row;)I"⟩
def yH_nothing : MethodName := ⟨"ValueBench$Pairs", "nothing", "(LValueBench$Row;)I"⟩
def yH_putArrayIndices : MethodName := ⟨"ValueBench$Pairs", "putArrayIndices", "(LValueBench$Row;LValueBench$Row;ZLValueBench$Row;)I"⟩
def yH_putFlat : MethodName := ⟨"ValueBench$Pairs", "putFlat", "(LValueBench$Row;IJLValueBench$Row;I)I"⟩
def yH_putStringIndices : MethodName := ⟨"ValueBench$Pairs", "putStringIndices", "(LValueBench$Row;LValueBench$Row;LValueBench$Row;)I"⟩
def yH_truth : MethodName := ⟨"ValueBench$Pairs", "truth", "(ZLValueBench$Row;)I"⟩
def yH_withoutBeginning : MethodName := ⟨"ValueBench$Pairs", "withoutBeginning", "(LValueBench$Row;LValueBench$Row;LValueBench$Row;)I"⟩
def yH_withoutEnd : MethodName := ⟨"ValueBench$Pairs", "withoutEnd", "(LValueBench$Row;LValueBench$Row;LValueBench$Row;)I"⟩
def yP_letterOf : MethodName := ⟨"ValueBench$Printer", "letterOf", "(I)I"⟩
def yP_write : MethodName := ⟨"ValueBench$Printer", "write", "(LValueBench$Row;ILValueBench$Text;I)V"⟩
def yP_writeCode : MethodName := ⟨"ValueBench$Printer", "writeCode", "(ILValueBench$Text;)V"⟩
def yP_writeList : MethodName := ⟨"ValueBench$Printer", "writeList", "(LValueBench$Row;ILValueBench$Text;I)V"⟩
def yP_writeString : MethodName := ⟨"ValueBench$Printer", "writeString", "(LValueBench$Row;ILValueBench$Text;)V"⟩
def yD_init : MethodName := ⟨"ValueBench$Reader", "<init>", "(LValueBench$Text;LValueBench$Row;)V"⟩
def yD_array : MethodName := ⟨"ValueBench$Reader", "array", "(I)Z"⟩
def yD_broken : MethodName := ⟨"ValueBench$Reader", "broken", "(I)Z"⟩
def yD_brokenCode : MethodName := ⟨"ValueBench$Reader", "brokenCode", "(I)I"⟩
def yD_codeOf : MethodName := ⟨"ValueBench$Reader", "codeOf", "(I)I"⟩
def yD_colon : MethodName := ⟨"ValueBench$Reader", "colon", "()Z"⟩
def yD_comma : MethodName := ⟨"ValueBench$Reader", "comma", "()Z"⟩
def yD_demandEnd : MethodName := ⟨"ValueBench$Reader", "demandEnd", "()V"⟩
def yD_digitOf : MethodName := ⟨"ValueBench$Reader", "digitOf", "(I)I"⟩
def yD_digits : MethodName := ⟨"ValueBench$Reader", "digits", "()J"⟩
def yD_fourDigits : MethodName := ⟨"ValueBench$Reader", "fourDigits", "()I"⟩
def yD_isBlank : MethodName := ⟨"ValueBench$Reader", "isBlank", "(I)Z"⟩
def yD_isDigit : MethodName := ⟨"ValueBench$Reader", "isDigit", "(I)Z"⟩
def yD_isNew : MethodName := ⟨"ValueBench$Reader", "isNew", "(IIII)Z"⟩
def yD_letter : MethodName := ⟨"ValueBench$Reader", "letter", "()I"⟩
def yD_letters : MethodName := ⟨"ValueBench$Reader", "letters", "(Ljava/lang/String;I)Z"⟩
def yD_number : MethodName := ⟨"ValueBench$Reader", "number", "()Z"⟩
def yD_object : MethodName := ⟨"ValueBench$Reader", "object", "(I)Z"⟩
def yD_plain : MethodName := ⟨"ValueBench$Reader", "plain", "()I"⟩
def yD_readNumber : MethodName := ⟨"ValueBench$Reader", "readNumber", "()I"⟩
def yD_readValue : MethodName := ⟨"ValueBench$Reader", "readValue", "()I"⟩
def yD_skipBlanks : MethodName := ⟨"ValueBench$Reader", "skipBlanks", "()V"⟩
def yD_string : MethodName := ⟨"ValueBench$Reader", "string", "()Z"⟩
def yD_take : MethodName := ⟨"ValueBench$Reader", "take", "(I)Z"⟩
def yD_value : MethodName := ⟨"ValueBench$Reader", "value", "(I)Z"⟩
def yG_apply : MethodName := ⟨"ValueBench$Singles", "apply", "(ILValueBench$Row;LValueBench$Text;LValueBench$Sorter;LValueBench$Row;)I"⟩
def yG_codes : MethodName := ⟨"ValueBench$Singles", "codes", "(LValueBench$Row;LValueBench$Row;)I"⟩
def yG_fromJson : MethodName := ⟨"ValueBench$Singles", "fromJson", "(LValueBench$Row;LValueBench$Text;LValueBench$Row;)I"⟩
def yG_inCase : MethodName := ⟨"ValueBench$Singles", "inCase", "(LValueBench$Row;IILValueBench$Row;)I"⟩
def yG_isOfNumbers : MethodName := ⟨"ValueBench$Singles", "isOfNumbers", "(LValueBench$Row;)Z"⟩
def yG_itself : MethodName := ⟨"ValueBench$Singles", "itself", "(LValueBench$Row;LValueBench$Row;)I"⟩
def yG_keys : MethodName := ⟨"ValueBench$Singles", "keys", "(LValueBench$Row;LValueBench$Row;)I"⟩
def yG_length : MethodName := ⟨"ValueBench$Singles", "length", "(LValueBench$Row;LValueBench$Row;)I"⟩
def yG_ofCodes : MethodName := ⟨"ValueBench$Singles", "ofCodes", "(LValueBench$Row;LValueBench$Row;)I"⟩
def yG_printed : MethodName := ⟨"ValueBench$Singles", "printed", "(LValueBench$Row;LValueBench$Text;LValueBench$Row;)I"⟩
def yG_putReversedArray : MethodName := ⟨"ValueBench$Singles", "putReversedArray", "(LValueBench$Row;LValueBench$Sorter;LValueBench$Row;)V"⟩
def yG_putReversedString : MethodName := ⟨"ValueBench$Singles", "putReversedString", "(LValueBench$Row;LValueBench$Row;)V"⟩
def yG_readerOf : MethodName := ⟨"ValueBench$Singles", "readerOf", "(LValueBench$Row;LValueBench$Text;LValueBench$Row;)LValueBench$Reader;"⟩
def yG_reversed : MethodName := ⟨"ValueBench$Singles", "reversed", "(LValueBench$Row;LValueBench$Sorter;LValueBench$Row;)I"⟩
def yG_sorted : MethodName := ⟨"ValueBench$Singles", "sorted", "(LValueBench$Row;LValueBench$Sorter;LValueBench$Row;)I"⟩
def yG_toNumber : MethodName := ⟨"ValueBench$Singles", "toNumber", "(LValueBench$Row;LValueBench$Text;LValueBench$Row;)I"⟩
def yS_arrange : MethodName := ⟨"ValueBench$Sorter", "arrange", "(LValueBench$Row;I)V"⟩
def yS_attach : MethodName := ⟨"ValueBench$Sorter", "attach", "(LValueBench$Row;I)V"⟩
def yS_elementAtTurn : MethodName := ⟨"ValueBench$Sorter", "elementAtTurn", "(I)I"⟩
def yS_gather : MethodName := ⟨"ValueBench$Sorter", "gather", "(LValueBench$Row;I)V"⟩
def yS_keyAtTurn : MethodName := ⟨"ValueBench$Sorter", "keyAtTurn", "(I)I"⟩
def yS_merge : MethodName := ⟨"ValueBench$Sorter", "merge", "(LValueBench$Row;III)V"⟩
def yJI_compare : MethodName := ⟨"java/lang/Integer", "compare", "(II)I"⟩
def yJL_compare : MethodName := ⟨"java/lang/Long", "compare", "(JJ)I"⟩
def wyK_apply : List Cond := .code yK_apply prog_2_method_2_code 5 (some .int) :: xw
def wyK_beginsGroup : List Cond := .code yK_beginsGroup prog_2_method_5_code 3 (some .boolean) :: xw
def wyK_putFirsts : List Cond := .code yK_putFirsts prog_2_method_8_code 7 none :: xw
def wyK_putGroup : List Cond := .code yK_putGroup prog_2_method_7_code 7 none :: xw
def wyK_putGroups : List Cond := .code yK_putGroups prog_2_method_6_code 7 none :: xw
def wyK_putSorted : List Cond := .code yK_putSorted prog_2_method_3_code 5 none :: xw
def wyK_putTurnOrNull : List Cond := .code yK_putTurnOrNull prog_2_method_4_code 4 none :: xw
def wyA_apply : List Cond := .code yA_apply prog_3_method_2_code 4 (some .int) :: xw
def wyA_hasElement : List Cond := .code yA_hasElement prog_3_method_11_code 5 (some .boolean) :: xw
def wyA_minus : List Cond := .code yA_minus prog_3_method_10_code 7 (some .int) :: xw
def wyA_number : List Cond := .code yA_number prog_3_method_4_code 3 (some .int) :: xw
def wyA_ofNumbers : List Cond := .code yA_ofNumbers prog_3_method_3_code 6 (some .int) :: xw
def wyA_pieces : List Cond := .code yA_pieces prog_3_method_14_code 5 (some .int) :: xw
def wyA_plus : List Cond := .code yA_plus prog_3_method_6_code 3 (some .int) :: xw
def wyA_product : List Cond := .code yA_product prog_3_method_5_code 6 (some .int) :: xw
def wyA_putBoth : List Cond := .code yA_putBoth prog_3_method_8_code 12 none :: xw
def wyA_putCharacters : List Cond := .code yA_putCharacters prog_3_method_15_code 3 (some .int) :: xw
def wyA_putNewNames : List Cond := .code yA_putNewNames prog_3_method_9_code 9 (some .int) :: xw
def wyA_putOneBehindOther : List Cond := .code yA_putOneBehindOther prog_3_method_7_code 4 none :: xw
def wyA_putPieces : List Cond := .code yA_putPieces prog_3_method_16_code 6 (some .int) :: xw
def wyA_putRepeated : List Cond := .code yA_putRepeated prog_3_method_13_code 6 none :: xw
def wyA_times : List Cond := .code yA_times prog_3_method_12_code 3 (some .int) :: xw
def wyO_isSame : List Cond := .code yO_isSame prog_4_method_3_code 4 (some .boolean) :: xw
def wyO_nextName : List Cond := .code yO_nextName prog_4_method_6_code 7 (some .int) :: xw
def wyO_of : List Cond := .code yO_of prog_4_method_2_code 5 (some .int) :: xw
def wyO_ofArrays : List Cond := .code yO_ofArrays prog_4_method_4_code 10 (some .int) :: xw
def wyO_ofObjects : List Cond := .code yO_ofObjects prog_4_method_5_code 11 (some .int) :: xw
def wyH_addShown : List Cond := .code yH_addShown prog_5_method_17_code 3 none :: xw
def wyH_apply : List Cond := .code yH_apply prog_5_method_2_code 5 (some .int) :: xw
def wyH_areElementsIn : List Cond := .code yH_areElementsIn prog_5_method_13_code 7 (some .boolean) :: xw
def wyH_areNamesIn : List Cond := .code yH_areNamesIn prog_5_method_15_code 9 (some .boolean) :: xw
def wyH_areOfOneKind : List Cond := .code yH_areOfOneKind prog_5_method_9_code 4 (some .boolean) :: xw
def wyH_areSame : List Cond := .code yH_areSame prog_5_method_25_code 8 (some .boolean) :: xw
def wyH_areStrings : List Cond := .code yH_areStrings prog_5_method_6_code 2 (some .boolean) :: xw
def wyH_at : List Cond := .code yH_at prog_5_method_28_code 4 (some .int) :: xw
def wyH_begins : List Cond := .code yH_begins prog_5_method_18_code 2 (some .boolean) :: xw
def wyH_contains : List Cond := .code yH_contains prog_5_method_8_code 3 (some .int) :: xw
def wyH_copy : List Cond := .code yH_copy prog_5_method_5_code 3 (some .int) :: xw
def wyH_elementAt : List Cond := .code yH_elementAt prog_5_method_29_code 7 (some .int) :: xw
def wyH_ends : List Cond := .code yH_ends prog_5_method_19_code 2 (some .boolean) :: xw
def wyH_flat : List Cond := .code yH_flat prog_5_method_26_code 5 (some .int) :: xw
def wyH_has : List Cond := .code yH_has prog_5_method_7_code 3 (some .int) :: xw
def wyH_indices : List Cond := .code yH_indices prog_5_method_22_code 6 (some .int) :: xw
def wyH_isIn : List Cond := .code yH_isIn prog_5_method_11_code 5 (some .boolean) :: xw
def wyH_isInSome : List Cond := .code yH_isInSome prog_5_method_14_code 7 (some .boolean) :: xw
def wyH_isPart : List Cond := .code yH_isPart prog_5_method_12_code 5 (some .boolean) :: xw
def wyH_isTruth : List Cond := .code yH_isTruth prog_5_method_10_code 1 (some .boolean) :: xw
def wyH_joined : List Cond := .code yH_joined prog_5_method_16_code 6 (some .int) :: xw
def wyH_nothing : List Cond := .code yH_nothing prog_5_method_4_code 1 (some .int) :: xw
def wyH_putArrayIndices : List Cond := .code yH_putArrayIndices prog_5_method_24_code 9 (some .int) :: xw
def wyH_putFlat : List Cond := .code yH_putFlat prog_5_method_27_code 9 (some .int) :: xw
def wyH_putStringIndices : List Cond := .code yH_putStringIndices prog_5_method_23_code 5 (some .int) :: xw
def wyH_truth : List Cond := .code yH_truth prog_5_method_3_code 2 (some .int) :: xw
def wyH_withoutBeginning : List Cond := .code yH_withoutBeginning prog_5_method_20_code 3 (some .int) :: xw
def wyH_withoutEnd : List Cond := .code yH_withoutEnd prog_5_method_21_code 3 (some .int) :: xw
def wyP_letterOf : List Cond := .code yP_letterOf prog_6_method_6_code 1 (some .int) :: xw
def wyP_write : List Cond := .code yP_write prog_6_method_2_code 4 none :: xw
def wyP_writeCode : List Cond := .code yP_writeCode prog_6_method_5_code 3 none :: xw
def wyP_writeList : List Cond := .code yP_writeList prog_6_method_3_code 7 none :: xw
def wyP_writeString : List Cond := .code yP_writeString prog_6_method_4_code 4 none :: xw
def wyD_init : List Cond := .code yD_init prog_7_method_1_code 3 none :: xw
def wyD_array : List Cond := .code yD_array prog_7_method_21_code 5 (some .boolean) :: xw
def wyD_broken : List Cond := .code yD_broken prog_7_method_5_code 2 (some .boolean) :: xw
def wyD_brokenCode : List Cond := .code yD_brokenCode prog_7_method_6_code 2 (some .int) :: xw
def wyD_codeOf : List Cond := .code yD_codeOf prog_7_method_20_code 1 (some .int) :: xw
def wyD_colon : List Cond := .code yD_colon prog_7_method_24_code 1 (some .boolean) :: xw
def wyD_comma : List Cond := .code yD_comma prog_7_method_25_code 2 (some .boolean) :: xw
def wyD_demandEnd : List Cond := .code yD_demandEnd prog_7_method_4_code 1 none :: xw
def wyD_digitOf : List Cond := .code yD_digitOf prog_7_method_19_code 1 (some .int) :: xw
def wyD_digits : List Cond := .code yD_digits prog_7_method_14_code 3 (some .long) :: xw
def wyD_fourDigits : List Cond := .code yD_fourDigits prog_7_method_18_code 5 (some .int) :: xw
def wyD_isBlank : List Cond := .code yD_isBlank prog_7_method_9_code 1 (some .boolean) :: xw
def wyD_isDigit : List Cond := .code yD_isDigit prog_7_method_13_code 1 (some .boolean) :: xw
def wyD_isNew : List Cond := .code yD_isNew prog_7_method_23_code 5 (some .boolean) :: xw
def wyD_letter : List Cond := .code yD_letter prog_7_method_17_code 2 (some .int) :: xw
def wyD_letters : List Cond := .code yD_letters prog_7_method_11_code 4 (some .boolean) :: xw
def wyD_number : List Cond := .code yD_number prog_7_method_12_code 5 (some .boolean) :: xw
def wyD_object : List Cond := .code yD_object prog_7_method_22_code 7 (some .boolean) :: xw
def wyD_plain : List Cond := .code yD_plain prog_7_method_16_code 2 (some .int) :: xw
def wyD_readNumber : List Cond := .code yD_readNumber prog_7_method_3_code 1 (some .int) :: xw
def wyD_readValue : List Cond := .code yD_readValue prog_7_method_2_code 1 (some .int) :: xw
def wyD_skipBlanks : List Cond := .code yD_skipBlanks prog_7_method_8_code 1 none :: xw
def wyD_string : List Cond := .code yD_string prog_7_method_15_code 4 (some .boolean) :: xw
def wyD_take : List Cond := .code yD_take prog_7_method_7_code 2 (some .boolean) :: xw
def wyD_value : List Cond := .code yD_value prog_7_method_10_code 2 (some .boolean) :: xw
def wyG_apply : List Cond := .code yG_apply prog_9_method_2_code 5 (some .int) :: xw
def wyG_codes : List Cond := .code yG_codes prog_9_method_14_code 4 (some .int) :: xw
def wyG_fromJson : List Cond := .code yG_fromJson prog_9_method_9_code 3 (some .int) :: xw
def wyG_inCase : List Cond := .code yG_inCase prog_9_method_17_code 8 (some .int) :: xw
def wyG_isOfNumbers : List Cond := .code yG_isOfNumbers prog_9_method_16_code 3 (some .boolean) :: xw
def wyG_itself : List Cond := .code yG_itself prog_9_method_3_code 2 (some .int) :: xw
def wyG_keys : List Cond := .code yG_keys prog_9_method_5_code 5 (some .int) :: xw
def wyG_length : List Cond := .code yG_length prog_9_method_4_code 2 (some .int) :: xw
def wyG_ofCodes : List Cond := .code yG_ofCodes prog_9_method_15_code 6 (some .int) :: xw
def wyG_printed : List Cond := .code yG_printed prog_9_method_7_code 3 (some .int) :: xw
def wyG_putReversedArray : List Cond := .code yG_putReversedArray prog_9_method_13_code 5 none :: xw
def wyG_putReversedString : List Cond := .code yG_putReversedString prog_9_method_12_code 4 none :: xw
def wyG_readerOf : List Cond := .code yG_readerOf prog_9_method_10_code 3 (some (.object "ValueBench$Reader")) :: xw
def wyG_reversed : List Cond := .code yG_reversed prog_9_method_11_code 3 (some .int) :: xw
def wyG_sorted : List Cond := .code yG_sorted prog_9_method_6_code 5 (some .int) :: xw
def wyG_toNumber : List Cond := .code yG_toNumber prog_9_method_8_code 3 (some .int) :: xw
def wyS_arrange : List Cond := .code yS_arrange prog_10_method_2_code 5 none :: xw
def wyS_attach : List Cond := .code yS_attach prog_10_method_3_code 5 none :: xw
def wyS_elementAtTurn : List Cond := .code yS_elementAtTurn prog_10_method_5_code 2 (some .int) :: xw
def wyS_gather : List Cond := .code yS_gather prog_10_method_6_code 6 none :: xw
def wyS_keyAtTurn : List Cond := .code yS_keyAtTurn prog_10_method_4_code 2 (some .int) :: xw
def wyS_merge : List Cond := .code yS_merge prog_10_method_7_code 9 none :: xw
def wyJI_compare : List Cond := .code yJI_compare prog_19_method_40_code 2 (some .int) :: xw
def wyJL_compare : List Cond := .code yJL_compare prog_20_method_42_code 4 (some .int) :: xw
theorem kw_1_16 : (.initialized "ValueBench$Reader" : Cond) ∈ xw := xw_t (x_t1 (List.mem_of_getElem? (i := 16) rfl)) rfl
theorem kw_1_18 : (.initialized "ValueBench$Printer" : Cond) ∈ xw := xw_t (x_t1 (List.mem_of_getElem? (i := 18) rfl)) rfl
theorem kw_1_21 : (.initialized "ValueBench$Operators" : Cond) ∈ xw := xw_t (x_t1 (List.mem_of_getElem? (i := 21) rfl)) rfl
theorem kw_1_23 : (.initialized "ValueBench$Order" : Cond) ∈ xw := xw_t (x_t1 (List.mem_of_getElem? (i := 23) rfl)) rfl
theorem kw_1_24 : (.initialized "java/lang/Integer" : Cond) ∈ xw := xw_t (x_t1 (List.mem_of_getElem? (i := 24) rfl)) rfl
theorem kw_1_25 : (.initialized "java/lang/Long" : Cond) ∈ xw := xw_t (x_t1 (List.mem_of_getElem? (i := 25) rfl)) rfl
theorem kw_1_26 : (.initialized "ValueBench$Singles" : Cond) ∈ xw := xw_t (x_t1 (List.mem_of_getElem? (i := 26) rfl)) rfl
theorem kw_1_27 : (.initialized "ValueBench$Pairs" : Cond) ∈ xw := xw_t (x_t1 (List.mem_of_getElem? (i := 27) rfl)) rfl
theorem kw_1_28 : (.initialized "ValueBench$Keyed" : Cond) ∈ xw := xw_t (x_t1 (List.mem_of_getElem? (i := 28) rfl)) rfl
theorem kw_2_115 : (.methodLink "ValueBench$Reader" 83 yD_take : Cond) ∈ xw := xw_t (x_t2 (List.mem_of_getElem? (i := 115) rfl)) rfl
theorem kw_2_117 : (.instanceMethod yD_take : Cond) ∈ xw := xw_t (x_t2 (List.mem_of_getElem? (i := 117) rfl)) rfl
theorem kw_2_118 : (.code yD_take prog_7_method_7_code 2 (some .boolean) : Cond) ∈ xw := xw_t (x_t2 (List.mem_of_getElem? (i := 118) rfl)) rfl
theorem kw_2_119 : (.methodLink "ValueBench$Reader" 46 yD_broken : Cond) ∈ xw := xw_t (x_t2 (List.mem_of_getElem? (i := 119) rfl)) rfl
theorem kw_2_121 : (.instanceMethod yD_broken : Cond) ∈ xw := xw_t (x_t2 (List.mem_of_getElem? (i := 121) rfl)) rfl
theorem kw_2_122 : (.code yD_broken prog_7_method_5_code 2 (some .boolean) : Cond) ∈ xw := xw_t (x_t2 (List.mem_of_getElem? (i := 122) rfl)) rfl
theorem kw_2_123 : (.methodLink "ValueBench$Reader" 86 yR_put : Cond) ∈ xw := xw_t (x_t2 (List.mem_of_getElem? (i := 123) rfl)) rfl
theorem kw_2_129 : (.methodLink "ValueBench$Reader" 65 yD_string : Cond) ∈ xw := xw_t (x_t2 (List.mem_of_getElem? (i := 129) rfl)) rfl
theorem kw_2_131 : (.instanceMethod yD_string : Cond) ∈ xw := xw_t (x_t2 (List.mem_of_getElem? (i := 131) rfl)) rfl
theorem kw_2_132 : (.code yD_string prog_7_method_15_code 4 (some .boolean) : Cond) ∈ xw := xw_t (x_t2 (List.mem_of_getElem? (i := 132) rfl)) rfl
theorem kw_2_133 : (.methodLink "ValueBench$Reader" 108 yR_open : Cond) ∈ xw := xw_t (x_t2 (List.mem_of_getElem? (i := 133) rfl)) rfl
theorem kw_2_138 : (.methodLink "ValueBench$Reader" 111 yD_plain : Cond) ∈ xw := xw_t (x_t2 (List.mem_of_getElem? (i := 138) rfl)) rfl
theorem kw_2_140 : (.instanceMethod yD_plain : Cond) ∈ xw := xw_t (x_t2 (List.mem_of_getElem? (i := 140) rfl)) rfl
theorem kw_2_141 : (.code yD_plain prog_7_method_16_code 2 (some .int) : Cond) ∈ xw := xw_t (x_t2 (List.mem_of_getElem? (i := 141) rfl)) rfl
theorem kw_2_142 : (.methodLink "ValueBench$Reader" 125 yD_brokenCode : Cond) ∈ xw := xw_t (x_t2 (List.mem_of_getElem? (i := 142) rfl)) rfl
theorem kw_2_144 : (.instanceMethod yD_brokenCode : Cond) ∈ xw := xw_t (x_t2 (List.mem_of_getElem? (i := 144) rfl)) rfl
theorem kw_2_145 : (.code yD_brokenCode prog_7_method_6_code 2 (some .int) : Cond) ∈ xw := xw_t (x_t2 (List.mem_of_getElem? (i := 145) rfl)) rfl
theorem kw_2_146 : (.methodLink "ValueBench$Reader" 114 yD_fourDigits : Cond) ∈ xw := xw_t (x_t2 (List.mem_of_getElem? (i := 146) rfl)) rfl
theorem kw_2_148 : (.instanceMethod yD_fourDigits : Cond) ∈ xw := xw_t (x_t2 (List.mem_of_getElem? (i := 148) rfl)) rfl
theorem kw_2_149 : (.code yD_fourDigits prog_7_method_18_code 5 (some .int) : Cond) ∈ xw := xw_t (x_t2 (List.mem_of_getElem? (i := 149) rfl)) rfl
theorem kw_2_150 : (.methodLink "ValueBench$Reader" 131 yD_digitOf : Cond) ∈ xw := xw_t (x_t2 (List.mem_of_getElem? (i := 150) rfl)) rfl
theorem kw_2_151 : (.static yD_digitOf : Cond) ∈ xw := xw_t (x_t2 (List.mem_of_getElem? (i := 151) rfl)) rfl
theorem kw_2_152 : (.code yD_digitOf prog_7_method_19_code 1 (some .int) : Cond) ∈ xw := xw_t (x_t2 (List.mem_of_getElem? (i := 152) rfl)) rfl
theorem kw_2_153 : (.methodLink "ValueBench$Reader" 117 yD_letter : Cond) ∈ xw := xw_t (x_t2 (List.mem_of_getElem? (i := 153) rfl)) rfl
theorem kw_2_155 : (.instanceMethod yD_letter : Cond) ∈ xw := xw_t (x_t2 (List.mem_of_getElem? (i := 155) rfl)) rfl
theorem kw_2_156 : (.code yD_letter prog_7_method_17_code 2 (some .int) : Cond) ∈ xw := xw_t (x_t2 (List.mem_of_getElem? (i := 156) rfl)) rfl
theorem kw_2_157 : (.methodLink "ValueBench$Reader" 128 yD_codeOf : Cond) ∈ xw := xw_t (x_t2 (List.mem_of_getElem? (i := 157) rfl)) rfl
theorem kw_2_158 : (.static yD_codeOf : Cond) ∈ xw := xw_t (x_t2 (List.mem_of_getElem? (i := 158) rfl)) rfl
theorem kw_2_159 : (.code yD_codeOf prog_7_method_20_code 1 (some .int) : Cond) ∈ xw := xw_t (x_t2 (List.mem_of_getElem? (i := 159) rfl)) rfl
theorem kw_2_160 : (.methodLink "ValueBench$Reader" 120 yR_size : Cond) ∈ xw := xw_t (x_t2 (List.mem_of_getElem? (i := 160) rfl)) rfl
theorem kw_2_161 : (.instanceMethod yR_size : Cond) ∈ xw := xw_t (x_t2 (List.mem_of_getElem? (i := 161) rfl)) rfl
theorem kw_2_162 : (.selects "ValueBench$Row" yR_size yR_size : Cond) ∈ xw := xw_t (x_t2 (List.mem_of_getElem? (i := 162) rfl)) rfl
theorem kw_2_164 : (.methodLink "ValueBench$Reader" 121 yR_close : Cond) ∈ xw := xw_t (x_t2 (List.mem_of_getElem? (i := 164) rfl)) rfl
theorem kw_2_168 : (.methodLink "ValueBench$Reader" 68 yD_array : Cond) ∈ xw := xw_t (x_t2 (List.mem_of_getElem? (i := 168) rfl)) rfl
theorem kw_2_170 : (.instanceMethod yD_array : Cond) ∈ xw := xw_t (x_t2 (List.mem_of_getElem? (i := 170) rfl)) rfl
theorem kw_2_171 : (.code yD_array prog_7_method_21_code 5 (some .boolean) : Cond) ∈ xw := xw_t (x_t2 (List.mem_of_getElem? (i := 171) rfl)) rfl
theorem kw_2_172 : (.methodLink "ValueBench$Reader" 134 yD_comma : Cond) ∈ xw := xw_t (x_t2 (List.mem_of_getElem? (i := 172) rfl)) rfl
theorem kw_2_174 : (.instanceMethod yD_comma : Cond) ∈ xw := xw_t (x_t2 (List.mem_of_getElem? (i := 174) rfl)) rfl
theorem kw_2_175 : (.code yD_comma prog_7_method_25_code 2 (some .boolean) : Cond) ∈ xw := xw_t (x_t2 (List.mem_of_getElem? (i := 175) rfl)) rfl
theorem kw_2_176 : (.methodLink "ValueBench$Reader" 71 yD_object : Cond) ∈ xw := xw_t (x_t2 (List.mem_of_getElem? (i := 176) rfl)) rfl
theorem kw_2_178 : (.instanceMethod yD_object : Cond) ∈ xw := xw_t (x_t2 (List.mem_of_getElem? (i := 178) rfl)) rfl
theorem kw_2_179 : (.code yD_object prog_7_method_22_code 7 (some .boolean) : Cond) ∈ xw := xw_t (x_t2 (List.mem_of_getElem? (i := 179) rfl)) rfl
theorem kw_2_180 : (.methodLink "ValueBench$Reader" 137 yD_isNew : Cond) ∈ xw := xw_t (x_t2 (List.mem_of_getElem? (i := 180) rfl)) rfl
theorem kw_2_182 : (.instanceMethod yD_isNew : Cond) ∈ xw := xw_t (x_t2 (List.mem_of_getElem? (i := 182) rfl)) rfl
theorem kw_2_183 : (.code yD_isNew prog_7_method_23_code 5 (some .boolean) : Cond) ∈ xw := xw_t (x_t2 (List.mem_of_getElem? (i := 183) rfl)) rfl
theorem kw_2_184 : (.methodLink "ValueBench$Reader" 144 yR_valueOf : Cond) ∈ xw := xw_t (x_t2 (List.mem_of_getElem? (i := 184) rfl)) rfl
theorem kw_2_185 : (.instanceMethod yR_valueOf : Cond) ∈ xw := xw_t (x_t2 (List.mem_of_getElem? (i := 185) rfl)) rfl
theorem kw_2_186 : (.selects "ValueBench$Row" yR_valueOf yR_valueOf : Cond) ∈ xw := xw_t (x_t2 (List.mem_of_getElem? (i := 186) rfl)) rfl
theorem kw_2_207 : (.methodLink "ValueBench$Reader" 141 yD_colon : Cond) ∈ xw := xw_t (x_t2 (List.mem_of_getElem? (i := 207) rfl)) rfl
theorem kw_2_209 : (.instanceMethod yD_colon : Cond) ∈ xw := xw_t (x_t2 (List.mem_of_getElem? (i := 209) rfl)) rfl
theorem kw_2_210 : (.code yD_colon prog_7_method_24_code 1 (some .boolean) : Cond) ∈ xw := xw_t (x_t2 (List.mem_of_getElem? (i := 210) rfl)) rfl
theorem kw_2_211 : (.methodLink "ValueBench$Reader" 36 yD_number : Cond) ∈ xw := xw_t (x_t2 (List.mem_of_getElem? (i := 211) rfl)) rfl
theorem kw_2_213 : (.instanceMethod yD_number : Cond) ∈ xw := xw_t (x_t2 (List.mem_of_getElem? (i := 213) rfl)) rfl
theorem kw_2_214 : (.code yD_number prog_7_method_12_code 5 (some .boolean) : Cond) ∈ xw := xw_t (x_t2 (List.mem_of_getElem? (i := 214) rfl)) rfl
theorem kw_2_215 : (.methodLink "ValueBench$Reader" 92 yD_isDigit : Cond) ∈ xw := xw_t (x_t2 (List.mem_of_getElem? (i := 215) rfl)) rfl
theorem kw_2_216 : (.static yD_isDigit : Cond) ∈ xw := xw_t (x_t2 (List.mem_of_getElem? (i := 216) rfl)) rfl
theorem kw_2_217 : (.code yD_isDigit prog_7_method_13_code 1 (some .boolean) : Cond) ∈ xw := xw_t (x_t2 (List.mem_of_getElem? (i := 217) rfl)) rfl
theorem kw_2_218 : (.methodLink "ValueBench$Reader" 95 yD_digits : Cond) ∈ xw := xw_t (x_t2 (List.mem_of_getElem? (i := 218) rfl)) rfl
theorem kw_2_220 : (.instanceMethod yD_digits : Cond) ∈ xw := xw_t (x_t2 (List.mem_of_getElem? (i := 220) rfl)) rfl
theorem kw_2_221 : (.code yD_digits prog_7_method_14_code 3 (some .long) : Cond) ∈ xw := xw_t (x_t2 (List.mem_of_getElem? (i := 221) rfl)) rfl
theorem kw_2_222 : (.constantLong "ValueBench$Reader" 99 9007199254740991 : Cond) ∈ xw := xw_t (x_t2 (List.mem_of_getElem? (i := 222) rfl)) rfl
theorem kw_2_223 : (.constantLong "ValueBench$Reader" 104 10 : Cond) ∈ xw := xw_t (x_t2 (List.mem_of_getElem? (i := 223) rfl)) rfl
theorem kw_2_224 : (.constantLong "ValueBench$Reader" 106 48 : Cond) ∈ xw := xw_t (x_t2 (List.mem_of_getElem? (i := 224) rfl)) rfl
theorem kw_2_225 : (.methodLink "ValueBench$Reader" 101 yR_putNumber : Cond) ∈ xw := xw_t (x_t2 (List.mem_of_getElem? (i := 225) rfl)) rfl
theorem kw_2_226 : (.instanceMethod yR_putNumber : Cond) ∈ xw := xw_t (x_t2 (List.mem_of_getElem? (i := 226) rfl)) rfl
theorem kw_2_227 : (.selects "ValueBench$Row" yR_putNumber yR_putNumber : Cond) ∈ xw := xw_t (x_t2 (List.mem_of_getElem? (i := 227) rfl)) rfl
theorem kw_2_230 : (.methodLink "ValueBench$Reader" 33 yD_demandEnd : Cond) ∈ xw := xw_t (x_t2 (List.mem_of_getElem? (i := 230) rfl)) rfl
theorem kw_2_232 : (.instanceMethod yD_demandEnd : Cond) ∈ xw := xw_t (x_t2 (List.mem_of_getElem? (i := 232) rfl)) rfl
theorem kw_2_233 : (.code yD_demandEnd prog_7_method_4_code 1 none : Cond) ∈ xw := xw_t (x_t2 (List.mem_of_getElem? (i := 233) rfl)) rfl
theorem kw_2_235 : (.instanceMethod yT_clear : Cond) ∈ xw := xw_t (x_t2 (List.mem_of_getElem? (i := 235) rfl)) rfl
theorem kw_2_236 : (.selects "ValueBench$Text" yT_clear yT_clear : Cond) ∈ xw := xw_t (x_t2 (List.mem_of_getElem? (i := 236) rfl)) rfl
theorem kw_2_24 : (.instantiable "ValueBench$Reader" 4 : Cond) ∈ xw := xw_t (x_t2 (List.mem_of_getElem? (i := 24) rfl)) rfl
theorem kw_2_26 : (.instanceMethod yD_init : Cond) ∈ xw := xw_t (x_t2 (List.mem_of_getElem? (i := 26) rfl)) rfl
theorem kw_2_27 : (.code yD_init prog_7_method_1_code 3 none : Cond) ∈ xw := xw_t (x_t2 (List.mem_of_getElem? (i := 27) rfl)) rfl
theorem kw_2_28 : (.methodLink "ValueBench$Reader" 3 objectInit : Cond) ∈ xw := xw_t (x_t2 (List.mem_of_getElem? (i := 28) rfl)) rfl
theorem kw_2_29 : (.fieldLink "ValueBench$Reader" 18 "ValueBench$Reader" "source" "LValueBench$Text;" : Cond) ∈ xw := xw_t (x_t2 (List.mem_of_getElem? (i := 29) rfl)) rfl
theorem kw_2_30 : (.fieldLink "ValueBench$Reader" 22 "ValueBench$Reader" "out" "LValueBench$Row;" : Cond) ∈ xw := xw_t (x_t2 (List.mem_of_getElem? (i := 30) rfl)) rfl
theorem kw_2_31 : (.fieldLink "ValueBench$Reader" 9 "ValueBench$Reader" "at" "I" : Cond) ∈ xw := xw_t (x_t2 (List.mem_of_getElem? (i := 31) rfl)) rfl
theorem kw_2_32 : (.fieldLink "ValueBench$Reader" 15 "ValueBench$Reader" "place" "I" : Cond) ∈ xw := xw_t (x_t2 (List.mem_of_getElem? (i := 32) rfl)) rfl
theorem kw_2_43 : (.instanceMethod yD_readValue : Cond) ∈ xw := xw_t (x_t2 (List.mem_of_getElem? (i := 43) rfl)) rfl
theorem kw_2_44 : (.selects "ValueBench$Reader" yD_readValue yD_readValue : Cond) ∈ xw := xw_t (x_t2 (List.mem_of_getElem? (i := 44) rfl)) rfl
theorem kw_2_45 : (.code yD_readValue prog_7_method_2_code 1 (some .int) : Cond) ∈ xw := xw_t (x_t2 (List.mem_of_getElem? (i := 45) rfl)) rfl
theorem kw_2_46 : (.methodLink "ValueBench$Reader" 26 yD_value : Cond) ∈ xw := xw_t (x_t2 (List.mem_of_getElem? (i := 46) rfl)) rfl
theorem kw_2_48 : (.instanceMethod yD_value : Cond) ∈ xw := xw_t (x_t2 (List.mem_of_getElem? (i := 48) rfl)) rfl
theorem kw_2_49 : (.code yD_value prog_7_method_10_code 2 (some .boolean) : Cond) ∈ xw := xw_t (x_t2 (List.mem_of_getElem? (i := 49) rfl)) rfl
theorem kw_2_50 : (.methodLink "ValueBench$Reader" 30 yD_skipBlanks : Cond) ∈ xw := xw_t (x_t2 (List.mem_of_getElem? (i := 50) rfl)) rfl
theorem kw_2_52 : (.instanceMethod yD_skipBlanks : Cond) ∈ xw := xw_t (x_t2 (List.mem_of_getElem? (i := 52) rfl)) rfl
theorem kw_2_53 : (.code yD_skipBlanks prog_7_method_8_code 1 none : Cond) ∈ xw := xw_t (x_t2 (List.mem_of_getElem? (i := 53) rfl)) rfl
theorem kw_2_54 : (.methodLink "ValueBench$Reader" 40 yT_size : Cond) ∈ xw := xw_t (x_t2 (List.mem_of_getElem? (i := 54) rfl)) rfl
theorem kw_2_55 : (.methodLink "ValueBench$Reader" 49 yT_at : Cond) ∈ xw := xw_t (x_t2 (List.mem_of_getElem? (i := 55) rfl)) rfl
theorem kw_2_59 : (.methodLink "ValueBench$Reader" 52 yD_isBlank : Cond) ∈ xw := xw_t (x_t2 (List.mem_of_getElem? (i := 59) rfl)) rfl
theorem kw_2_60 : (.static yD_isBlank : Cond) ∈ xw := xw_t (x_t2 (List.mem_of_getElem? (i := 60) rfl)) rfl
theorem kw_2_61 : (.code yD_isBlank prog_7_method_9_code 1 (some .boolean) : Cond) ∈ xw := xw_t (x_t2 (List.mem_of_getElem? (i := 61) rfl)) rfl
theorem kw_2_63 : (.methodLink "ValueBench$Reader" 57 yD_letters : Cond) ∈ xw := xw_t (x_t2 (List.mem_of_getElem? (i := 63) rfl)) rfl
theorem kw_2_65 : (.instanceMethod yD_letters : Cond) ∈ xw := xw_t (x_t2 (List.mem_of_getElem? (i := 65) rfl)) rfl
theorem kw_2_66 : (.code yD_letters prog_7_method_11_code 4 (some .boolean) : Cond) ∈ xw := xw_t (x_t2 (List.mem_of_getElem? (i := 66) rfl)) rfl
theorem kw_2_67 : (.methodLink "ValueBench$Reader" 74 yJS_length : Cond) ∈ xw := xw_t (x_t2 (List.mem_of_getElem? (i := 67) rfl)) rfl
theorem kw_2_77 : (.methodLink "ValueBench$Reader" 79 yJS_charAt : Cond) ∈ xw := xw_t (x_t2 (List.mem_of_getElem? (i := 77) rfl)) rfl
theorem kw_3_105 : (.code yA_apply prog_3_method_2_code 4 (some .int) : Cond) ∈ xw := xw_t (x_t3 (List.mem_of_getElem? (i := 105) rfl)) rfl
theorem kw_3_106 : (.methodLink "ValueBench$Operators" 9 yR_is : Cond) ∈ xw := xw_t (x_t3 (List.mem_of_getElem? (i := 106) rfl)) rfl
theorem kw_3_107 : (.methodLink "ValueBench$Operators" 15 yR_number : Cond) ∈ xw := xw_t (x_t3 (List.mem_of_getElem? (i := 107) rfl)) rfl
theorem kw_3_108 : (.methodLink "ValueBench$Operators" 19 yA_ofNumbers : Cond) ∈ xw := xw_t (x_t3 (List.mem_of_getElem? (i := 108) rfl)) rfl
theorem kw_3_109 : (.static yA_ofNumbers : Cond) ∈ xw := xw_t (x_t3 (List.mem_of_getElem? (i := 109) rfl)) rfl
theorem kw_3_110 : (.code yA_ofNumbers prog_3_method_3_code 6 (some .int) : Cond) ∈ xw := xw_t (x_t3 (List.mem_of_getElem? (i := 110) rfl)) rfl
theorem kw_3_111 : (.methodLink "ValueBench$Operators" 38 yA_number : Cond) ∈ xw := xw_t (x_t3 (List.mem_of_getElem? (i := 111) rfl)) rfl
theorem kw_3_112 : (.static yA_number : Cond) ∈ xw := xw_t (x_t3 (List.mem_of_getElem? (i := 112) rfl)) rfl
theorem kw_3_113 : (.code yA_number prog_3_method_4_code 3 (some .int) : Cond) ∈ xw := xw_t (x_t3 (List.mem_of_getElem? (i := 113) rfl)) rfl
theorem kw_3_114 : (.methodLink "ValueBench$Operators" 45 Lib.MathLoose.abs_long.x : Cond) ∈ xw := xw_t (x_t3 (List.mem_of_getElem? (i := 114) rfl)) rfl
theorem kw_3_115 : (.constantLong "ValueBench$Operators" 51 9007199254740991 : Cond) ∈ xw := xw_t (x_t3 (List.mem_of_getElem? (i := 115) rfl)) rfl
theorem kw_3_116 : (.methodLink "ValueBench$Operators" 53 yR_putNumber : Cond) ∈ xw := xw_t (x_t3 (List.mem_of_getElem? (i := 116) rfl)) rfl
theorem kw_3_117 : (.methodLink "ValueBench$Operators" 41 yA_product : Cond) ∈ xw := xw_t (x_t3 (List.mem_of_getElem? (i := 117) rfl)) rfl
theorem kw_3_118 : (.static yA_product : Cond) ∈ xw := xw_t (x_t3 (List.mem_of_getElem? (i := 118) rfl)) rfl
theorem kw_3_119 : (.code yA_product prog_3_method_5_code 6 (some .int) : Cond) ∈ xw := xw_t (x_t3 (List.mem_of_getElem? (i := 119) rfl)) rfl
theorem kw_3_120 : (.methodLink "ValueBench$Operators" 25 yA_plus : Cond) ∈ xw := xw_t (x_t3 (List.mem_of_getElem? (i := 120) rfl)) rfl
theorem kw_3_121 : (.static yA_plus : Cond) ∈ xw := xw_t (x_t3 (List.mem_of_getElem? (i := 121) rfl)) rfl
theorem kw_3_122 : (.code yA_plus prog_3_method_6_code 3 (some .int) : Cond) ∈ xw := xw_t (x_t3 (List.mem_of_getElem? (i := 122) rfl)) rfl
theorem kw_3_123 : (.methodLink "ValueBench$Operators" 57 yR_putCopy : Cond) ∈ xw := xw_t (x_t3 (List.mem_of_getElem? (i := 123) rfl)) rfl
theorem kw_3_124 : (.instanceMethod yR_putCopy : Cond) ∈ xw := xw_t (x_t3 (List.mem_of_getElem? (i := 124) rfl)) rfl
theorem kw_3_125 : (.selects "ValueBench$Row" yR_putCopy yR_putCopy : Cond) ∈ xw := xw_t (x_t3 (List.mem_of_getElem? (i := 125) rfl)) rfl
theorem kw_3_134 : (.methodLink "ValueBench$Operators" 61 yR_kind : Cond) ∈ xw := xw_t (x_t3 (List.mem_of_getElem? (i := 134) rfl)) rfl
theorem kw_3_135 : (.methodLink "ValueBench$Operators" 65 yA_putOneBehindOther : Cond) ∈ xw := xw_t (x_t3 (List.mem_of_getElem? (i := 135) rfl)) rfl
theorem kw_3_136 : (.static yA_putOneBehindOther : Cond) ∈ xw := xw_t (x_t3 (List.mem_of_getElem? (i := 136) rfl)) rfl
theorem kw_3_137 : (.code yA_putOneBehindOther prog_3_method_7_code 4 none : Cond) ∈ xw := xw_t (x_t3 (List.mem_of_getElem? (i := 137) rfl)) rfl
theorem kw_3_138 : (.methodLink "ValueBench$Operators" 73 yR_open : Cond) ∈ xw := xw_t (x_t3 (List.mem_of_getElem? (i := 138) rfl)) rfl
theorem kw_3_139 : (.methodLink "ValueBench$Operators" 77 yR_putInside : Cond) ∈ xw := xw_t (x_t3 (List.mem_of_getElem? (i := 139) rfl)) rfl
theorem kw_3_140 : (.instanceMethod yR_putInside : Cond) ∈ xw := xw_t (x_t3 (List.mem_of_getElem? (i := 140) rfl)) rfl
theorem kw_3_141 : (.selects "ValueBench$Row" yR_putInside yR_putInside : Cond) ∈ xw := xw_t (x_t3 (List.mem_of_getElem? (i := 141) rfl)) rfl
theorem kw_3_143 : (.methodLink "ValueBench$Operators" 80 yR_length : Cond) ∈ xw := xw_t (x_t3 (List.mem_of_getElem? (i := 143) rfl)) rfl
theorem kw_3_144 : (.methodLink "ValueBench$Operators" 83 yR_close : Cond) ∈ xw := xw_t (x_t3 (List.mem_of_getElem? (i := 144) rfl)) rfl
theorem kw_3_145 : (.methodLink "ValueBench$Operators" 69 yA_putBoth : Cond) ∈ xw := xw_t (x_t3 (List.mem_of_getElem? (i := 145) rfl)) rfl
theorem kw_3_146 : (.static yA_putBoth : Cond) ∈ xw := xw_t (x_t3 (List.mem_of_getElem? (i := 146) rfl)) rfl
theorem kw_3_147 : (.code yA_putBoth prog_3_method_8_code 12 none : Cond) ∈ xw := xw_t (x_t3 (List.mem_of_getElem? (i := 147) rfl)) rfl
theorem kw_3_148 : (.methodLink "ValueBench$Operators" 87 yR_after : Cond) ∈ xw := xw_t (x_t3 (List.mem_of_getElem? (i := 148) rfl)) rfl
theorem kw_3_149 : (.methodLink "ValueBench$Operators" 90 yR_valueOf : Cond) ∈ xw := xw_t (x_t3 (List.mem_of_getElem? (i := 149) rfl)) rfl
theorem kw_3_150 : (.methodLink "ValueBench$Operators" 94 yA_putNewNames : Cond) ∈ xw := xw_t (x_t3 (List.mem_of_getElem? (i := 150) rfl)) rfl
theorem kw_3_151 : (.static yA_putNewNames : Cond) ∈ xw := xw_t (x_t3 (List.mem_of_getElem? (i := 151) rfl)) rfl
theorem kw_3_152 : (.code yA_putNewNames prog_3_method_9_code 9 (some .int) : Cond) ∈ xw := xw_t (x_t3 (List.mem_of_getElem? (i := 152) rfl)) rfl
theorem kw_3_153 : (.methodLink "ValueBench$Operators" 29 yA_minus : Cond) ∈ xw := xw_t (x_t3 (List.mem_of_getElem? (i := 153) rfl)) rfl
theorem kw_3_154 : (.static yA_minus : Cond) ∈ xw := xw_t (x_t3 (List.mem_of_getElem? (i := 154) rfl)) rfl
theorem kw_3_155 : (.code yA_minus prog_3_method_10_code 7 (some .int) : Cond) ∈ xw := xw_t (x_t3 (List.mem_of_getElem? (i := 155) rfl)) rfl
theorem kw_3_156 : (.methodLink "ValueBench$Operators" 98 yA_hasElement : Cond) ∈ xw := xw_t (x_t3 (List.mem_of_getElem? (i := 156) rfl)) rfl
theorem kw_3_157 : (.static yA_hasElement : Cond) ∈ xw := xw_t (x_t3 (List.mem_of_getElem? (i := 157) rfl)) rfl
theorem kw_3_158 : (.code yA_hasElement prog_3_method_11_code 5 (some .boolean) : Cond) ∈ xw := xw_t (x_t3 (List.mem_of_getElem? (i := 158) rfl)) rfl
theorem kw_3_159 : (.methodLink "ValueBench$Operators" 102 yO_isSame : Cond) ∈ xw := xw_t (x_t3 (List.mem_of_getElem? (i := 159) rfl)) rfl
theorem kw_3_160 : (.static yO_isSame : Cond) ∈ xw := xw_t (x_t3 (List.mem_of_getElem? (i := 160) rfl)) rfl
theorem kw_3_161 : (.code yO_isSame prog_4_method_3_code 4 (some .boolean) : Cond) ∈ xw := xw_t (x_t3 (List.mem_of_getElem? (i := 161) rfl)) rfl
theorem kw_3_162 : (.methodLink "ValueBench$Order" 43 yR_cell : Cond) ∈ xw := xw_t (x_t3 (List.mem_of_getElem? (i := 162) rfl)) rfl
theorem kw_3_163 : (.methodLink "ValueBench$Order" 46 yO_of : Cond) ∈ xw := xw_t (x_t3 (List.mem_of_getElem? (i := 163) rfl)) rfl
theorem kw_3_164 : (.static yO_of : Cond) ∈ xw := xw_t (x_t3 (List.mem_of_getElem? (i := 164) rfl)) rfl
theorem kw_3_165 : (.code yO_of prog_4_method_2_code 5 (some .int) : Cond) ∈ xw := xw_t (x_t3 (List.mem_of_getElem? (i := 165) rfl)) rfl
theorem kw_3_166 : (.methodLink "ValueBench$Order" 9 yR_kind : Cond) ∈ xw := xw_t (x_t3 (List.mem_of_getElem? (i := 166) rfl)) rfl
theorem kw_3_167 : (.methodLink "ValueBench$Order" 15 yJI_compare : Cond) ∈ xw := xw_t (x_t3 (List.mem_of_getElem? (i := 167) rfl)) rfl
theorem kw_3_168 : (.static yJI_compare : Cond) ∈ xw := xw_t (x_t3 (List.mem_of_getElem? (i := 168) rfl)) rfl
theorem kw_3_169 : (.code yJI_compare prog_19_method_40_code 2 (some .int) : Cond) ∈ xw := xw_t (x_t3 (List.mem_of_getElem? (i := 169) rfl)) rfl
theorem kw_3_170 : (.methodLink "ValueBench$Order" 21 yR_number : Cond) ∈ xw := xw_t (x_t3 (List.mem_of_getElem? (i := 170) rfl)) rfl
theorem kw_3_171 : (.methodLink "ValueBench$Order" 25 yJL_compare : Cond) ∈ xw := xw_t (x_t3 (List.mem_of_getElem? (i := 171) rfl)) rfl
theorem kw_3_172 : (.static yJL_compare : Cond) ∈ xw := xw_t (x_t3 (List.mem_of_getElem? (i := 172) rfl)) rfl
theorem kw_3_173 : (.code yJL_compare prog_20_method_42_code 4 (some .int) : Cond) ∈ xw := xw_t (x_t3 (List.mem_of_getElem? (i := 173) rfl)) rfl
theorem kw_3_174 : (.methodLink "ValueBench$Order" 30 yR_orderOfStrings : Cond) ∈ xw := xw_t (x_t3 (List.mem_of_getElem? (i := 174) rfl)) rfl
theorem kw_3_175 : (.methodLink "ValueBench$Order" 34 yO_ofArrays : Cond) ∈ xw := xw_t (x_t3 (List.mem_of_getElem? (i := 175) rfl)) rfl
theorem kw_3_176 : (.static yO_ofArrays : Cond) ∈ xw := xw_t (x_t3 (List.mem_of_getElem? (i := 176) rfl)) rfl
theorem kw_3_177 : (.code yO_ofArrays prog_4_method_4_code 10 (some .int) : Cond) ∈ xw := xw_t (x_t3 (List.mem_of_getElem? (i := 177) rfl)) rfl
theorem kw_3_178 : (.methodLink "ValueBench$Order" 49 yR_length : Cond) ∈ xw := xw_t (x_t3 (List.mem_of_getElem? (i := 178) rfl)) rfl
theorem kw_3_179 : (.methodLink "ValueBench$Order" 52 Lib.Math.min.name : Cond) ∈ xw := xw_t (x_t3 (List.mem_of_getElem? (i := 179) rfl)) rfl
theorem kw_3_180 : (.methodLink "ValueBench$Order" 57 yR_after : Cond) ∈ xw := xw_t (x_t3 (List.mem_of_getElem? (i := 180) rfl)) rfl
theorem kw_3_181 : (.methodLink "ValueBench$Order" 40 yO_ofObjects : Cond) ∈ xw := xw_t (x_t3 (List.mem_of_getElem? (i := 181) rfl)) rfl
theorem kw_3_182 : (.static yO_ofObjects : Cond) ∈ xw := xw_t (x_t3 (List.mem_of_getElem? (i := 182) rfl)) rfl
theorem kw_3_183 : (.code yO_ofObjects prog_4_method_5_code 11 (some .int) : Cond) ∈ xw := xw_t (x_t3 (List.mem_of_getElem? (i := 183) rfl)) rfl
theorem kw_3_184 : (.methodLink "ValueBench$Order" 60 yO_nextName : Cond) ∈ xw := xw_t (x_t3 (List.mem_of_getElem? (i := 184) rfl)) rfl
theorem kw_3_185 : (.static yO_nextName : Cond) ∈ xw := xw_t (x_t3 (List.mem_of_getElem? (i := 185) rfl)) rfl
theorem kw_3_186 : (.code yO_nextName prog_4_method_6_code 7 (some .int) : Cond) ∈ xw := xw_t (x_t3 (List.mem_of_getElem? (i := 186) rfl)) rfl
theorem kw_3_187 : (.methodLink "ValueBench$Operators" 32 yA_times : Cond) ∈ xw := xw_t (x_t3 (List.mem_of_getElem? (i := 187) rfl)) rfl
theorem kw_3_188 : (.static yA_times : Cond) ∈ xw := xw_t (x_t3 (List.mem_of_getElem? (i := 188) rfl)) rfl
theorem kw_3_189 : (.code yA_times prog_3_method_12_code 3 (some .int) : Cond) ∈ xw := xw_t (x_t3 (List.mem_of_getElem? (i := 189) rfl)) rfl
theorem kw_3_19 : (.static yP_write : Cond) ∈ xw := xw_t (x_t3 (List.mem_of_getElem? (i := 19) rfl)) rfl
theorem kw_3_190 : (.methodLink "ValueBench$Operators" 108 yA_putRepeated : Cond) ∈ xw := xw_t (x_t3 (List.mem_of_getElem? (i := 190) rfl)) rfl
theorem kw_3_191 : (.static yA_putRepeated : Cond) ∈ xw := xw_t (x_t3 (List.mem_of_getElem? (i := 191) rfl)) rfl
theorem kw_3_192 : (.code yA_putRepeated prog_3_method_13_code 6 none : Cond) ∈ xw := xw_t (x_t3 (List.mem_of_getElem? (i := 192) rfl)) rfl
theorem kw_3_193 : (.methodLink "ValueBench$Operators" 112 yR_putNull : Cond) ∈ xw := xw_t (x_t3 (List.mem_of_getElem? (i := 193) rfl)) rfl
theorem kw_3_194 : (.instanceMethod yR_putNull : Cond) ∈ xw := xw_t (x_t3 (List.mem_of_getElem? (i := 194) rfl)) rfl
theorem kw_3_195 : (.selects "ValueBench$Row" yR_putNull yR_putNull : Cond) ∈ xw := xw_t (x_t3 (List.mem_of_getElem? (i := 195) rfl)) rfl
theorem kw_3_197 : (.methodLink "ValueBench$Operators" 115 yR_isOver : Cond) ∈ xw := xw_t (x_t3 (List.mem_of_getElem? (i := 197) rfl)) rfl
theorem kw_3_198 : (.methodLink "ValueBench$Operators" 119 yR_size : Cond) ∈ xw := xw_t (x_t3 (List.mem_of_getElem? (i := 198) rfl)) rfl
theorem kw_3_199 : (.methodLink "ValueBench$Operators" 35 yA_pieces : Cond) ∈ xw := xw_t (x_t3 (List.mem_of_getElem? (i := 199) rfl)) rfl
theorem kw_3_20 : (.code yP_write prog_6_method_2_code 4 none : Cond) ∈ xw := xw_t (x_t3 (List.mem_of_getElem? (i := 20) rfl)) rfl
theorem kw_3_200 : (.static yA_pieces : Cond) ∈ xw := xw_t (x_t3 (List.mem_of_getElem? (i := 200) rfl)) rfl
theorem kw_3_201 : (.code yA_pieces prog_3_method_14_code 5 (some .int) : Cond) ∈ xw := xw_t (x_t3 (List.mem_of_getElem? (i := 201) rfl)) rfl
theorem kw_3_202 : (.methodLink "ValueBench$Operators" 122 yA_putCharacters : Cond) ∈ xw := xw_t (x_t3 (List.mem_of_getElem? (i := 202) rfl)) rfl
theorem kw_3_203 : (.static yA_putCharacters : Cond) ∈ xw := xw_t (x_t3 (List.mem_of_getElem? (i := 203) rfl)) rfl
theorem kw_3_204 : (.code yA_putCharacters prog_3_method_15_code 3 (some .int) : Cond) ∈ xw := xw_t (x_t3 (List.mem_of_getElem? (i := 204) rfl)) rfl
theorem kw_3_205 : (.methodLink "ValueBench$Operators" 129 yR_putPart : Cond) ∈ xw := xw_t (x_t3 (List.mem_of_getElem? (i := 205) rfl)) rfl
theorem kw_3_206 : (.instanceMethod yR_putPart : Cond) ∈ xw := xw_t (x_t3 (List.mem_of_getElem? (i := 206) rfl)) rfl
theorem kw_3_207 : (.selects "ValueBench$Row" yR_putPart yR_putPart : Cond) ∈ xw := xw_t (x_t3 (List.mem_of_getElem? (i := 207) rfl)) rfl
theorem kw_3_21 : (.methodLink "ValueBench$Printer" 9 yR_kind : Cond) ∈ xw := xw_t (x_t3 (List.mem_of_getElem? (i := 21) rfl)) rfl
theorem kw_3_211 : (.methodLink "ValueBench$Operators" 126 yA_putPieces : Cond) ∈ xw := xw_t (x_t3 (List.mem_of_getElem? (i := 211) rfl)) rfl
theorem kw_3_212 : (.static yA_putPieces : Cond) ∈ xw := xw_t (x_t3 (List.mem_of_getElem? (i := 212) rfl)) rfl
theorem kw_3_213 : (.code yA_putPieces prog_3_method_16_code 6 (some .int) : Cond) ∈ xw := xw_t (x_t3 (List.mem_of_getElem? (i := 213) rfl)) rfl
theorem kw_3_214 : (.methodLink "ValueBench$Operators" 133 yR_hasPart : Cond) ∈ xw := xw_t (x_t3 (List.mem_of_getElem? (i := 214) rfl)) rfl
theorem kw_3_215 : (.instanceMethod yR_hasPart : Cond) ∈ xw := xw_t (x_t3 (List.mem_of_getElem? (i := 215) rfl)) rfl
theorem kw_3_216 : (.selects "ValueBench$Row" yR_hasPart yR_hasPart : Cond) ∈ xw := xw_t (x_t3 (List.mem_of_getElem? (i := 216) rfl)) rfl
theorem kw_3_26 : (.methodLink "ValueBench$Printer" 17 yT_addWord : Cond) ∈ xw := xw_t (x_t3 (List.mem_of_getElem? (i := 26) rfl)) rfl
theorem kw_3_27 : (.instanceMethod yT_addWord : Cond) ∈ xw := xw_t (x_t3 (List.mem_of_getElem? (i := 27) rfl)) rfl
theorem kw_3_28 : (.selects "ValueBench$Text" yT_addWord yT_addWord : Cond) ∈ xw := xw_t (x_t3 (List.mem_of_getElem? (i := 28) rfl)) rfl
theorem kw_3_34 : (.methodLink "ValueBench$Printer" 27 yR_number : Cond) ∈ xw := xw_t (x_t3 (List.mem_of_getElem? (i := 34) rfl)) rfl
theorem kw_3_35 : (.instanceMethod yR_number : Cond) ∈ xw := xw_t (x_t3 (List.mem_of_getElem? (i := 35) rfl)) rfl
theorem kw_3_36 : (.selects "ValueBench$Row" yR_number yR_number : Cond) ∈ xw := xw_t (x_t3 (List.mem_of_getElem? (i := 36) rfl)) rfl
theorem kw_3_38 : (.methodLink "ValueBench$Printer" 31 yT_addNumber : Cond) ∈ xw := xw_t (x_t3 (List.mem_of_getElem? (i := 38) rfl)) rfl
theorem kw_3_39 : (.instanceMethod yT_addNumber : Cond) ∈ xw := xw_t (x_t3 (List.mem_of_getElem? (i := 39) rfl)) rfl
theorem kw_3_40 : (.selects "ValueBench$Text" yT_addNumber yT_addNumber : Cond) ∈ xw := xw_t (x_t3 (List.mem_of_getElem? (i := 40) rfl)) rfl
theorem kw_3_48 : (.methodLink "ValueBench$Printer" 35 yP_writeString : Cond) ∈ xw := xw_t (x_t3 (List.mem_of_getElem? (i := 48) rfl)) rfl
theorem kw_3_49 : (.static yP_writeString : Cond) ∈ xw := xw_t (x_t3 (List.mem_of_getElem? (i := 49) rfl)) rfl
theorem kw_3_50 : (.code yP_writeString prog_6_method_4_code 4 none : Cond) ∈ xw := xw_t (x_t3 (List.mem_of_getElem? (i := 50) rfl)) rfl
theorem kw_3_51 : (.methodLink "ValueBench$Printer" 52 yT_add : Cond) ∈ xw := xw_t (x_t3 (List.mem_of_getElem? (i := 51) rfl)) rfl
theorem kw_3_52 : (.methodLink "ValueBench$Printer" 56 yR_length : Cond) ∈ xw := xw_t (x_t3 (List.mem_of_getElem? (i := 52) rfl)) rfl
theorem kw_3_53 : (.methodLink "ValueBench$Printer" 65 yR_code : Cond) ∈ xw := xw_t (x_t3 (List.mem_of_getElem? (i := 53) rfl)) rfl
theorem kw_3_57 : (.methodLink "ValueBench$Printer" 69 yP_writeCode : Cond) ∈ xw := xw_t (x_t3 (List.mem_of_getElem? (i := 57) rfl)) rfl
theorem kw_3_58 : (.static yP_writeCode : Cond) ∈ xw := xw_t (x_t3 (List.mem_of_getElem? (i := 58) rfl)) rfl
theorem kw_3_59 : (.code yP_writeCode prog_6_method_5_code 3 none : Cond) ∈ xw := xw_t (x_t3 (List.mem_of_getElem? (i := 59) rfl)) rfl
theorem kw_3_60 : (.methodLink "ValueBench$Printer" 73 yP_letterOf : Cond) ∈ xw := xw_t (x_t3 (List.mem_of_getElem? (i := 60) rfl)) rfl
theorem kw_3_61 : (.static yP_letterOf : Cond) ∈ xw := xw_t (x_t3 (List.mem_of_getElem? (i := 61) rfl)) rfl
theorem kw_3_62 : (.code yP_letterOf prog_6_method_6_code 1 (some .int) : Cond) ∈ xw := xw_t (x_t3 (List.mem_of_getElem? (i := 62) rfl)) rfl
theorem kw_3_64 : (.methodLink "ValueBench$Printer" 78 yJS_charAt : Cond) ∈ xw := xw_t (x_t3 (List.mem_of_getElem? (i := 64) rfl)) rfl
theorem kw_3_65 : (.methodLink "ValueBench$Printer" 41 yP_writeList : Cond) ∈ xw := xw_t (x_t3 (List.mem_of_getElem? (i := 65) rfl)) rfl
theorem kw_3_66 : (.static yP_writeList : Cond) ∈ xw := xw_t (x_t3 (List.mem_of_getElem? (i := 66) rfl)) rfl
theorem kw_3_67 : (.code yP_writeList prog_6_method_3_code 7 none : Cond) ∈ xw := xw_t (x_t3 (List.mem_of_getElem? (i := 67) rfl)) rfl
theorem kw_3_68 : (.methodLink "ValueBench$Printer" 45 yT_setOver : Cond) ∈ xw := xw_t (x_t3 (List.mem_of_getElem? (i := 68) rfl)) rfl
theorem kw_3_69 : (.instanceMethod yT_setOver : Cond) ∈ xw := xw_t (x_t3 (List.mem_of_getElem? (i := 69) rfl)) rfl
theorem kw_3_70 : (.selects "ValueBench$Text" yT_setOver yT_setOver : Cond) ∈ xw := xw_t (x_t3 (List.mem_of_getElem? (i := 70) rfl)) rfl
theorem kw_3_72 : (.methodLink "ValueBench$Printer" 48 yR_is : Cond) ∈ xw := xw_t (x_t3 (List.mem_of_getElem? (i := 72) rfl)) rfl
theorem kw_3_73 : (.instanceMethod yR_is : Cond) ∈ xw := xw_t (x_t3 (List.mem_of_getElem? (i := 73) rfl)) rfl
theorem kw_3_74 : (.selects "ValueBench$Row" yR_is yR_is : Cond) ∈ xw := xw_t (x_t3 (List.mem_of_getElem? (i := 74) rfl)) rfl
theorem kw_3_77 : (.methodLink "ValueBench$Printer" 59 yR_after : Cond) ∈ xw := xw_t (x_t3 (List.mem_of_getElem? (i := 77) rfl)) rfl
theorem kw_3_78 : (.methodLink "ValueBench$Printer" 62 yP_write : Cond) ∈ xw := xw_t (x_t3 (List.mem_of_getElem? (i := 78) rfl)) rfl
theorem kw_3_80 : (.instanceMethod yR_isOver : Cond) ∈ xw := xw_t (x_t3 (List.mem_of_getElem? (i := 80) rfl)) rfl
theorem kw_3_81 : (.selects "ValueBench$Row" yR_isOver yR_isOver : Cond) ∈ xw := xw_t (x_t3 (List.mem_of_getElem? (i := 81) rfl)) rfl
theorem kw_4_102 : (.classLink "ValueBench$Singles" 121 "ValueBench$Reader" : Cond) ∈ xw := xw_t (x_t4 (List.mem_of_getElem? (i := 102) rfl)) rfl
theorem kw_4_103 : (.methodLink "ValueBench$Singles" 131 yD_init : Cond) ∈ xw := xw_t (x_t4 (List.mem_of_getElem? (i := 103) rfl)) rfl
theorem kw_4_104 : (.methodLink "ValueBench$Singles" 120 yD_readNumber : Cond) ∈ xw := xw_t (x_t4 (List.mem_of_getElem? (i := 104) rfl)) rfl
theorem kw_4_105 : (.instanceMethod yD_readNumber : Cond) ∈ xw := xw_t (x_t4 (List.mem_of_getElem? (i := 105) rfl)) rfl
theorem kw_4_106 : (.selects "ValueBench$Reader" yD_readNumber yD_readNumber : Cond) ∈ xw := xw_t (x_t4 (List.mem_of_getElem? (i := 106) rfl)) rfl
theorem kw_4_107 : (.code yD_readNumber prog_7_method_3_code 1 (some .int) : Cond) ∈ xw := xw_t (x_t4 (List.mem_of_getElem? (i := 107) rfl)) rfl
theorem kw_4_108 : (.methodLink "ValueBench$Singles" 42 yG_fromJson : Cond) ∈ xw := xw_t (x_t4 (List.mem_of_getElem? (i := 108) rfl)) rfl
theorem kw_4_109 : (.static yG_fromJson : Cond) ∈ xw := xw_t (x_t4 (List.mem_of_getElem? (i := 109) rfl)) rfl
theorem kw_4_110 : (.code yG_fromJson prog_9_method_9_code 3 (some .int) : Cond) ∈ xw := xw_t (x_t4 (List.mem_of_getElem? (i := 110) rfl)) rfl
theorem kw_4_111 : (.methodLink "ValueBench$Singles" 125 yD_readValue : Cond) ∈ xw := xw_t (x_t4 (List.mem_of_getElem? (i := 111) rfl)) rfl
theorem kw_4_112 : (.methodLink "ValueBench$Singles" 45 yG_reversed : Cond) ∈ xw := xw_t (x_t4 (List.mem_of_getElem? (i := 112) rfl)) rfl
theorem kw_4_113 : (.static yG_reversed : Cond) ∈ xw := xw_t (x_t4 (List.mem_of_getElem? (i := 113) rfl)) rfl
theorem kw_4_114 : (.code yG_reversed prog_9_method_11_code 3 (some .int) : Cond) ∈ xw := xw_t (x_t4 (List.mem_of_getElem? (i := 114) rfl)) rfl
theorem kw_4_115 : (.methodLink "ValueBench$Singles" 134 yG_putReversedString : Cond) ∈ xw := xw_t (x_t4 (List.mem_of_getElem? (i := 115) rfl)) rfl
theorem kw_4_116 : (.static yG_putReversedString : Cond) ∈ xw := xw_t (x_t4 (List.mem_of_getElem? (i := 116) rfl)) rfl
theorem kw_4_117 : (.code yG_putReversedString prog_9_method_12_code 4 none : Cond) ∈ xw := xw_t (x_t4 (List.mem_of_getElem? (i := 117) rfl)) rfl
theorem kw_4_118 : (.methodLink "ValueBench$Singles" 142 yR_code : Cond) ∈ xw := xw_t (x_t4 (List.mem_of_getElem? (i := 118) rfl)) rfl
theorem kw_4_119 : (.methodLink "ValueBench$Singles" 146 yR_put : Cond) ∈ xw := xw_t (x_t4 (List.mem_of_getElem? (i := 119) rfl)) rfl
theorem kw_4_120 : (.methodLink "ValueBench$Singles" 138 yG_putReversedArray : Cond) ∈ xw := xw_t (x_t4 (List.mem_of_getElem? (i := 120) rfl)) rfl
theorem kw_4_121 : (.static yG_putReversedArray : Cond) ∈ xw := xw_t (x_t4 (List.mem_of_getElem? (i := 121) rfl)) rfl
theorem kw_4_122 : (.code yG_putReversedArray prog_9_method_13_code 5 none : Cond) ∈ xw := xw_t (x_t4 (List.mem_of_getElem? (i := 122) rfl)) rfl
theorem kw_4_123 : (.methodLink "ValueBench$Singles" 149 yS_gather : Cond) ∈ xw := xw_t (x_t4 (List.mem_of_getElem? (i := 123) rfl)) rfl
theorem kw_4_124 : (.methodLink "ValueBench$Singles" 48 yG_codes : Cond) ∈ xw := xw_t (x_t4 (List.mem_of_getElem? (i := 124) rfl)) rfl
theorem kw_4_125 : (.static yG_codes : Cond) ∈ xw := xw_t (x_t4 (List.mem_of_getElem? (i := 125) rfl)) rfl
theorem kw_4_126 : (.code yG_codes prog_9_method_14_code 4 (some .int) : Cond) ∈ xw := xw_t (x_t4 (List.mem_of_getElem? (i := 126) rfl)) rfl
theorem kw_4_127 : (.methodLink "ValueBench$Singles" 51 yG_ofCodes : Cond) ∈ xw := xw_t (x_t4 (List.mem_of_getElem? (i := 127) rfl)) rfl
theorem kw_4_128 : (.static yG_ofCodes : Cond) ∈ xw := xw_t (x_t4 (List.mem_of_getElem? (i := 128) rfl)) rfl
theorem kw_4_129 : (.code yG_ofCodes prog_9_method_15_code 6 (some .int) : Cond) ∈ xw := xw_t (x_t4 (List.mem_of_getElem? (i := 129) rfl)) rfl
theorem kw_4_130 : (.methodLink "ValueBench$Singles" 152 yG_isOfNumbers : Cond) ∈ xw := xw_t (x_t4 (List.mem_of_getElem? (i := 130) rfl)) rfl
theorem kw_4_131 : (.static yG_isOfNumbers : Cond) ∈ xw := xw_t (x_t4 (List.mem_of_getElem? (i := 131) rfl)) rfl
theorem kw_4_132 : (.code yG_isOfNumbers prog_9_method_16_code 3 (some .boolean) : Cond) ∈ xw := xw_t (x_t4 (List.mem_of_getElem? (i := 132) rfl)) rfl
theorem kw_4_133 : (.constantLong "ValueBench$Singles" 156 127 : Cond) ∈ xw := xw_t (x_t4 (List.mem_of_getElem? (i := 133) rfl)) rfl
theorem kw_4_134 : (.methodLink "ValueBench$Singles" 54 yG_inCase : Cond) ∈ xw := xw_t (x_t4 (List.mem_of_getElem? (i := 134) rfl)) rfl
theorem kw_4_135 : (.static yG_inCase : Cond) ∈ xw := xw_t (x_t4 (List.mem_of_getElem? (i := 135) rfl)) rfl
theorem kw_4_136 : (.code yG_inCase prog_9_method_17_code 8 (some .int) : Cond) ∈ xw := xw_t (x_t4 (List.mem_of_getElem? (i := 136) rfl)) rfl
theorem kw_4_146 : (.code yH_apply prog_5_method_2_code 5 (some .int) : Cond) ∈ xw := xw_t (x_t4 (List.mem_of_getElem? (i := 146) rfl)) rfl
theorem kw_4_147 : (.methodLink "ValueBench$Pairs" 9 yH_has : Cond) ∈ xw := xw_t (x_t4 (List.mem_of_getElem? (i := 147) rfl)) rfl
theorem kw_4_148 : (.static yH_has : Cond) ∈ xw := xw_t (x_t4 (List.mem_of_getElem? (i := 148) rfl)) rfl
theorem kw_4_149 : (.code yH_has prog_5_method_7_code 3 (some .int) : Cond) ∈ xw := xw_t (x_t4 (List.mem_of_getElem? (i := 149) rfl)) rfl
theorem kw_4_150 : (.methodLink "ValueBench$Pairs" 48 yR_is : Cond) ∈ xw := xw_t (x_t4 (List.mem_of_getElem? (i := 150) rfl)) rfl
theorem kw_4_151 : (.methodLink "ValueBench$Pairs" 68 yR_valueOf : Cond) ∈ xw := xw_t (x_t4 (List.mem_of_getElem? (i := 151) rfl)) rfl
theorem kw_4_152 : (.methodLink "ValueBench$Pairs" 35 yH_truth : Cond) ∈ xw := xw_t (x_t4 (List.mem_of_getElem? (i := 152) rfl)) rfl
theorem kw_4_153 : (.static yH_truth : Cond) ∈ xw := xw_t (x_t4 (List.mem_of_getElem? (i := 153) rfl)) rfl
theorem kw_4_154 : (.code yH_truth prog_5_method_3_code 2 (some .int) : Cond) ∈ xw := xw_t (x_t4 (List.mem_of_getElem? (i := 154) rfl)) rfl
theorem kw_4_155 : (.methodLink "ValueBench$Pairs" 57 yR_putTruth : Cond) ∈ xw := xw_t (x_t4 (List.mem_of_getElem? (i := 155) rfl)) rfl
theorem kw_4_156 : (.methodLink "ValueBench$Pairs" 72 yR_number : Cond) ∈ xw := xw_t (x_t4 (List.mem_of_getElem? (i := 156) rfl)) rfl
theorem kw_4_157 : (.methodLink "ValueBench$Pairs" 76 yR_length : Cond) ∈ xw := xw_t (x_t4 (List.mem_of_getElem? (i := 157) rfl)) rfl
theorem kw_4_158 : (.methodLink "ValueBench$Pairs" 15 yH_contains : Cond) ∈ xw := xw_t (x_t4 (List.mem_of_getElem? (i := 158) rfl)) rfl
theorem kw_4_159 : (.static yH_contains : Cond) ∈ xw := xw_t (x_t4 (List.mem_of_getElem? (i := 159) rfl)) rfl
theorem kw_4_160 : (.code yH_contains prog_5_method_8_code 3 (some .int) : Cond) ∈ xw := xw_t (x_t4 (List.mem_of_getElem? (i := 160) rfl)) rfl
theorem kw_4_161 : (.methodLink "ValueBench$Pairs" 80 yH_areOfOneKind : Cond) ∈ xw := xw_t (x_t4 (List.mem_of_getElem? (i := 161) rfl)) rfl
theorem kw_4_162 : (.static yH_areOfOneKind : Cond) ∈ xw := xw_t (x_t4 (List.mem_of_getElem? (i := 162) rfl)) rfl
theorem kw_4_163 : (.code yH_areOfOneKind prog_5_method_9_code 4 (some .boolean) : Cond) ∈ xw := xw_t (x_t4 (List.mem_of_getElem? (i := 163) rfl)) rfl
theorem kw_4_164 : (.methodLink "ValueBench$Pairs" 88 yR_kind : Cond) ∈ xw := xw_t (x_t4 (List.mem_of_getElem? (i := 164) rfl)) rfl
theorem kw_4_165 : (.methodLink "ValueBench$Pairs" 91 yH_isTruth : Cond) ∈ xw := xw_t (x_t4 (List.mem_of_getElem? (i := 165) rfl)) rfl
theorem kw_4_166 : (.static yH_isTruth : Cond) ∈ xw := xw_t (x_t4 (List.mem_of_getElem? (i := 166) rfl)) rfl
theorem kw_4_167 : (.code yH_isTruth prog_5_method_10_code 1 (some .boolean) : Cond) ∈ xw := xw_t (x_t4 (List.mem_of_getElem? (i := 167) rfl)) rfl
theorem kw_4_168 : (.methodLink "ValueBench$Pairs" 84 yH_isIn : Cond) ∈ xw := xw_t (x_t4 (List.mem_of_getElem? (i := 168) rfl)) rfl
theorem kw_4_169 : (.static yH_isIn : Cond) ∈ xw := xw_t (x_t4 (List.mem_of_getElem? (i := 169) rfl)) rfl
theorem kw_4_170 : (.code yH_isIn prog_5_method_11_code 5 (some .boolean) : Cond) ∈ xw := xw_t (x_t4 (List.mem_of_getElem? (i := 170) rfl)) rfl
theorem kw_4_171 : (.methodLink "ValueBench$Pairs" 95 yH_isPart : Cond) ∈ xw := xw_t (x_t4 (List.mem_of_getElem? (i := 171) rfl)) rfl
theorem kw_4_172 : (.static yH_isPart : Cond) ∈ xw := xw_t (x_t4 (List.mem_of_getElem? (i := 172) rfl)) rfl
theorem kw_4_173 : (.code yH_isPart prog_5_method_12_code 5 (some .boolean) : Cond) ∈ xw := xw_t (x_t4 (List.mem_of_getElem? (i := 173) rfl)) rfl
theorem kw_4_174 : (.methodLink "ValueBench$Pairs" 107 yR_hasPart : Cond) ∈ xw := xw_t (x_t4 (List.mem_of_getElem? (i := 174) rfl)) rfl
theorem kw_4_175 : (.methodLink "ValueBench$Pairs" 98 yH_areElementsIn : Cond) ∈ xw := xw_t (x_t4 (List.mem_of_getElem? (i := 175) rfl)) rfl
theorem kw_4_176 : (.static yH_areElementsIn : Cond) ∈ xw := xw_t (x_t4 (List.mem_of_getElem? (i := 176) rfl)) rfl
theorem kw_4_177 : (.code yH_areElementsIn prog_5_method_13_code 7 (some .boolean) : Cond) ∈ xw := xw_t (x_t4 (List.mem_of_getElem? (i := 177) rfl)) rfl
theorem kw_4_178 : (.methodLink "ValueBench$Pairs" 111 yH_isInSome : Cond) ∈ xw := xw_t (x_t4 (List.mem_of_getElem? (i := 178) rfl)) rfl
theorem kw_4_179 : (.static yH_isInSome : Cond) ∈ xw := xw_t (x_t4 (List.mem_of_getElem? (i := 179) rfl)) rfl
theorem kw_4_180 : (.code yH_isInSome prog_5_method_14_code 7 (some .boolean) : Cond) ∈ xw := xw_t (x_t4 (List.mem_of_getElem? (i := 180) rfl)) rfl
theorem kw_4_181 : (.methodLink "ValueBench$Pairs" 114 yR_after : Cond) ∈ xw := xw_t (x_t4 (List.mem_of_getElem? (i := 181) rfl)) rfl
theorem kw_4_182 : (.methodLink "ValueBench$Pairs" 101 yH_areNamesIn : Cond) ∈ xw := xw_t (x_t4 (List.mem_of_getElem? (i := 182) rfl)) rfl
theorem kw_4_183 : (.static yH_areNamesIn : Cond) ∈ xw := xw_t (x_t4 (List.mem_of_getElem? (i := 183) rfl)) rfl
theorem kw_4_184 : (.code yH_areNamesIn prog_5_method_15_code 9 (some .boolean) : Cond) ∈ xw := xw_t (x_t4 (List.mem_of_getElem? (i := 184) rfl)) rfl
theorem kw_4_185 : (.methodLink "ValueBench$Pairs" 104 yR_cell : Cond) ∈ xw := xw_t (x_t4 (List.mem_of_getElem? (i := 185) rfl)) rfl
theorem kw_4_186 : (.methodLink "ValueBench$Pairs" 18 yH_joined : Cond) ∈ xw := xw_t (x_t4 (List.mem_of_getElem? (i := 186) rfl)) rfl
theorem kw_4_187 : (.static yH_joined : Cond) ∈ xw := xw_t (x_t4 (List.mem_of_getElem? (i := 187) rfl)) rfl
theorem kw_4_188 : (.code yH_joined prog_5_method_16_code 6 (some .int) : Cond) ∈ xw := xw_t (x_t4 (List.mem_of_getElem? (i := 188) rfl)) rfl
theorem kw_4_189 : (.methodLink "ValueBench$Pairs" 117 yT_clear : Cond) ∈ xw := xw_t (x_t4 (List.mem_of_getElem? (i := 189) rfl)) rfl
theorem kw_4_190 : (.methodLink "ValueBench$Pairs" 122 yT_addString : Cond) ∈ xw := xw_t (x_t4 (List.mem_of_getElem? (i := 190) rfl)) rfl
theorem kw_4_191 : (.methodLink "ValueBench$Pairs" 125 yH_addShown : Cond) ∈ xw := xw_t (x_t4 (List.mem_of_getElem? (i := 191) rfl)) rfl
theorem kw_4_192 : (.static yH_addShown : Cond) ∈ xw := xw_t (x_t4 (List.mem_of_getElem? (i := 192) rfl)) rfl
theorem kw_4_193 : (.code yH_addShown prog_5_method_17_code 3 none : Cond) ∈ xw := xw_t (x_t4 (List.mem_of_getElem? (i := 193) rfl)) rfl
theorem kw_4_194 : (.methodLink "ValueBench$Pairs" 133 yP_write : Cond) ∈ xw := xw_t (x_t4 (List.mem_of_getElem? (i := 194) rfl)) rfl
theorem kw_4_195 : (.methodLink "ValueBench$Pairs" 129 yR_putText : Cond) ∈ xw := xw_t (x_t4 (List.mem_of_getElem? (i := 195) rfl)) rfl
theorem kw_4_196 : (.methodLink "ValueBench$Pairs" 22 yH_withoutBeginning : Cond) ∈ xw := xw_t (x_t4 (List.mem_of_getElem? (i := 196) rfl)) rfl
theorem kw_4_197 : (.static yH_withoutBeginning : Cond) ∈ xw := xw_t (x_t4 (List.mem_of_getElem? (i := 197) rfl)) rfl
theorem kw_4_198 : (.code yH_withoutBeginning prog_5_method_20_code 3 (some .int) : Cond) ∈ xw := xw_t (x_t4 (List.mem_of_getElem? (i := 198) rfl)) rfl
theorem kw_4_199 : (.methodLink "ValueBench$Pairs" 28 yH_areStrings : Cond) ∈ xw := xw_t (x_t4 (List.mem_of_getElem? (i := 199) rfl)) rfl
theorem kw_4_200 : (.static yH_areStrings : Cond) ∈ xw := xw_t (x_t4 (List.mem_of_getElem? (i := 200) rfl)) rfl
theorem kw_4_201 : (.code yH_areStrings prog_5_method_6_code 2 (some .boolean) : Cond) ∈ xw := xw_t (x_t4 (List.mem_of_getElem? (i := 201) rfl)) rfl
theorem kw_4_202 : (.methodLink "ValueBench$Pairs" 32 yH_begins : Cond) ∈ xw := xw_t (x_t4 (List.mem_of_getElem? (i := 202) rfl)) rfl
theorem kw_4_203 : (.static yH_begins : Cond) ∈ xw := xw_t (x_t4 (List.mem_of_getElem? (i := 203) rfl)) rfl
theorem kw_4_204 : (.code yH_begins prog_5_method_18_code 2 (some .boolean) : Cond) ∈ xw := xw_t (x_t4 (List.mem_of_getElem? (i := 204) rfl)) rfl
theorem kw_4_205 : (.methodLink "ValueBench$Pairs" 139 yH_copy : Cond) ∈ xw := xw_t (x_t4 (List.mem_of_getElem? (i := 205) rfl)) rfl
theorem kw_4_206 : (.static yH_copy : Cond) ∈ xw := xw_t (x_t4 (List.mem_of_getElem? (i := 206) rfl)) rfl
theorem kw_4_207 : (.code yH_copy prog_5_method_5_code 3 (some .int) : Cond) ∈ xw := xw_t (x_t4 (List.mem_of_getElem? (i := 207) rfl)) rfl
theorem kw_4_208 : (.methodLink "ValueBench$Pairs" 64 yR_putCopy : Cond) ∈ xw := xw_t (x_t4 (List.mem_of_getElem? (i := 208) rfl)) rfl
theorem kw_4_209 : (.methodLink "ValueBench$Pairs" 143 yR_putPart : Cond) ∈ xw := xw_t (x_t4 (List.mem_of_getElem? (i := 209) rfl)) rfl
theorem kw_4_210 : (.methodLink "ValueBench$Pairs" 25 yH_withoutEnd : Cond) ∈ xw := xw_t (x_t4 (List.mem_of_getElem? (i := 210) rfl)) rfl
theorem kw_4_211 : (.static yH_withoutEnd : Cond) ∈ xw := xw_t (x_t4 (List.mem_of_getElem? (i := 211) rfl)) rfl
theorem kw_4_212 : (.code yH_withoutEnd prog_5_method_21_code 3 (some .int) : Cond) ∈ xw := xw_t (x_t4 (List.mem_of_getElem? (i := 212) rfl)) rfl
theorem kw_4_213 : (.methodLink "ValueBench$Pairs" 39 yH_ends : Cond) ∈ xw := xw_t (x_t4 (List.mem_of_getElem? (i := 213) rfl)) rfl
theorem kw_4_214 : (.static yH_ends : Cond) ∈ xw := xw_t (x_t4 (List.mem_of_getElem? (i := 214) rfl)) rfl
theorem kw_4_215 : (.code yH_ends prog_5_method_19_code 2 (some .boolean) : Cond) ∈ xw := xw_t (x_t4 (List.mem_of_getElem? (i := 215) rfl)) rfl
theorem kw_4_216 : (.methodLink "ValueBench$Pairs" 42 yH_indices : Cond) ∈ xw := xw_t (x_t4 (List.mem_of_getElem? (i := 216) rfl)) rfl
theorem kw_4_217 : (.static yH_indices : Cond) ∈ xw := xw_t (x_t4 (List.mem_of_getElem? (i := 217) rfl)) rfl
theorem kw_4_218 : (.code yH_indices prog_5_method_22_code 6 (some .int) : Cond) ∈ xw := xw_t (x_t4 (List.mem_of_getElem? (i := 218) rfl)) rfl
theorem kw_4_219 : (.methodLink "ValueBench$Pairs" 147 yH_nothing : Cond) ∈ xw := xw_t (x_t4 (List.mem_of_getElem? (i := 219) rfl)) rfl
theorem kw_4_220 : (.static yH_nothing : Cond) ∈ xw := xw_t (x_t4 (List.mem_of_getElem? (i := 220) rfl)) rfl
theorem kw_4_221 : (.code yH_nothing prog_5_method_4_code 1 (some .int) : Cond) ∈ xw := xw_t (x_t4 (List.mem_of_getElem? (i := 221) rfl)) rfl
theorem kw_4_222 : (.methodLink "ValueBench$Pairs" 61 yR_putNull : Cond) ∈ xw := xw_t (x_t4 (List.mem_of_getElem? (i := 222) rfl)) rfl
theorem kw_4_223 : (.methodLink "ValueBench$Pairs" 151 yR_open : Cond) ∈ xw := xw_t (x_t4 (List.mem_of_getElem? (i := 223) rfl)) rfl
theorem kw_4_224 : (.methodLink "ValueBench$Pairs" 155 yH_putStringIndices : Cond) ∈ xw := xw_t (x_t4 (List.mem_of_getElem? (i := 224) rfl)) rfl
theorem kw_4_225 : (.static yH_putStringIndices : Cond) ∈ xw := xw_t (x_t4 (List.mem_of_getElem? (i := 225) rfl)) rfl
theorem kw_4_226 : (.code yH_putStringIndices prog_5_method_23_code 5 (some .int) : Cond) ∈ xw := xw_t (x_t4 (List.mem_of_getElem? (i := 226) rfl)) rfl
theorem kw_4_227 : (.methodLink "ValueBench$Pairs" 166 yR_putNumber : Cond) ∈ xw := xw_t (x_t4 (List.mem_of_getElem? (i := 227) rfl)) rfl
theorem kw_4_228 : (.methodLink "ValueBench$Pairs" 158 yH_putArrayIndices : Cond) ∈ xw := xw_t (x_t4 (List.mem_of_getElem? (i := 228) rfl)) rfl
theorem kw_4_229 : (.static yH_putArrayIndices : Cond) ∈ xw := xw_t (x_t4 (List.mem_of_getElem? (i := 229) rfl)) rfl
theorem kw_4_230 : (.code yH_putArrayIndices prog_5_method_24_code 9 (some .int) : Cond) ∈ xw := xw_t (x_t4 (List.mem_of_getElem? (i := 230) rfl)) rfl
theorem kw_4_231 : (.methodLink "ValueBench$Pairs" 170 yH_areSame : Cond) ∈ xw := xw_t (x_t4 (List.mem_of_getElem? (i := 231) rfl)) rfl
theorem kw_4_232 : (.static yH_areSame : Cond) ∈ xw := xw_t (x_t4 (List.mem_of_getElem? (i := 232) rfl)) rfl
theorem kw_4_233 : (.code yH_areSame prog_5_method_25_code 8 (some .boolean) : Cond) ∈ xw := xw_t (x_t4 (List.mem_of_getElem? (i := 233) rfl)) rfl
theorem kw_4_234 : (.methodLink "ValueBench$Pairs" 173 yO_of : Cond) ∈ xw := xw_t (x_t4 (List.mem_of_getElem? (i := 234) rfl)) rfl
theorem kw_4_235 : (.methodLink "ValueBench$Pairs" 162 yR_close : Cond) ∈ xw := xw_t (x_t4 (List.mem_of_getElem? (i := 235) rfl)) rfl
theorem kw_4_236 : (.methodLink "ValueBench$Pairs" 45 yH_flat : Cond) ∈ xw := xw_t (x_t4 (List.mem_of_getElem? (i := 236) rfl)) rfl
theorem kw_4_237 : (.static yH_flat : Cond) ∈ xw := xw_t (x_t4 (List.mem_of_getElem? (i := 237) rfl)) rfl
theorem kw_4_238 : (.code yH_flat prog_5_method_26_code 5 (some .int) : Cond) ∈ xw := xw_t (x_t4 (List.mem_of_getElem? (i := 238) rfl)) rfl
theorem kw_4_239 : (.methodLink "ValueBench$Pairs" 179 yH_putFlat : Cond) ∈ xw := xw_t (x_t4 (List.mem_of_getElem? (i := 239) rfl)) rfl
theorem kw_4_28 : (.code yG_apply prog_9_method_2_code 5 (some .int) : Cond) ∈ xw := xw_t (x_t4 (List.mem_of_getElem? (i := 28) rfl)) rfl
theorem kw_4_29 : (.methodLink "ValueBench$Singles" 9 yR_is : Cond) ∈ xw := xw_t (x_t4 (List.mem_of_getElem? (i := 29) rfl)) rfl
theorem kw_4_30 : (.methodLink "ValueBench$Singles" 15 yR_putTruth : Cond) ∈ xw := xw_t (x_t4 (List.mem_of_getElem? (i := 30) rfl)) rfl
theorem kw_4_31 : (.instanceMethod yR_putTruth : Cond) ∈ xw := xw_t (x_t4 (List.mem_of_getElem? (i := 31) rfl)) rfl
theorem kw_4_32 : (.selects "ValueBench$Row" yR_putTruth yR_putTruth : Cond) ∈ xw := xw_t (x_t4 (List.mem_of_getElem? (i := 32) rfl)) rfl
theorem kw_4_35 : (.methodLink "ValueBench$Singles" 19 yG_length : Cond) ∈ xw := xw_t (x_t4 (List.mem_of_getElem? (i := 35) rfl)) rfl
theorem kw_4_36 : (.static yG_length : Cond) ∈ xw := xw_t (x_t4 (List.mem_of_getElem? (i := 36) rfl)) rfl
theorem kw_4_37 : (.code yG_length prog_9_method_4_code 2 (some .int) : Cond) ∈ xw := xw_t (x_t4 (List.mem_of_getElem? (i := 37) rfl)) rfl
theorem kw_4_38 : (.methodLink "ValueBench$Singles" 62 yR_kind : Cond) ∈ xw := xw_t (x_t4 (List.mem_of_getElem? (i := 38) rfl)) rfl
theorem kw_4_39 : (.methodLink "ValueBench$Singles" 66 yR_putNumber : Cond) ∈ xw := xw_t (x_t4 (List.mem_of_getElem? (i := 39) rfl)) rfl
theorem kw_4_40 : (.methodLink "ValueBench$Singles" 70 yR_number : Cond) ∈ xw := xw_t (x_t4 (List.mem_of_getElem? (i := 40) rfl)) rfl
theorem kw_4_41 : (.methodLink "ValueBench$Singles" 74 Lib.MathLoose.abs_long.x : Cond) ∈ xw := xw_t (x_t4 (List.mem_of_getElem? (i := 41) rfl)) rfl
theorem kw_4_42 : (.methodLink "ValueBench$Singles" 80 yR_length : Cond) ∈ xw := xw_t (x_t4 (List.mem_of_getElem? (i := 42) rfl)) rfl
theorem kw_4_43 : (.methodLink "ValueBench$Singles" 25 yG_sorted : Cond) ∈ xw := xw_t (x_t4 (List.mem_of_getElem? (i := 43) rfl)) rfl
theorem kw_4_44 : (.static yG_sorted : Cond) ∈ xw := xw_t (x_t4 (List.mem_of_getElem? (i := 44) rfl)) rfl
theorem kw_4_45 : (.code yG_sorted prog_9_method_6_code 5 (some .int) : Cond) ∈ xw := xw_t (x_t4 (List.mem_of_getElem? (i := 45) rfl)) rfl
theorem kw_4_46 : (.methodLink "ValueBench$Singles" 82 yR_open : Cond) ∈ xw := xw_t (x_t4 (List.mem_of_getElem? (i := 46) rfl)) rfl
theorem kw_4_47 : (.methodLink "ValueBench$Singles" 93 yS_arrange : Cond) ∈ xw := xw_t (x_t4 (List.mem_of_getElem? (i := 47) rfl)) rfl
theorem kw_4_48 : (.instanceMethod yS_arrange : Cond) ∈ xw := xw_t (x_t4 (List.mem_of_getElem? (i := 48) rfl)) rfl
theorem kw_4_49 : (.selects "ValueBench$Sorter" yS_arrange yS_arrange : Cond) ∈ xw := xw_t (x_t4 (List.mem_of_getElem? (i := 49) rfl)) rfl
theorem kw_4_50 : (.code yS_arrange prog_10_method_2_code 5 none : Cond) ∈ xw := xw_t (x_t4 (List.mem_of_getElem? (i := 50) rfl)) rfl
theorem kw_4_51 : (.methodLink "ValueBench$Sorter" 28 yS_gather : Cond) ∈ xw := xw_t (x_t4 (List.mem_of_getElem? (i := 51) rfl)) rfl
theorem kw_4_52 : (.instanceMethod yS_gather : Cond) ∈ xw := xw_t (x_t4 (List.mem_of_getElem? (i := 52) rfl)) rfl
theorem kw_4_53 : (.selects "ValueBench$Sorter" yS_gather yS_gather : Cond) ∈ xw := xw_t (x_t4 (List.mem_of_getElem? (i := 53) rfl)) rfl
theorem kw_4_54 : (.code yS_gather prog_10_method_6_code 6 none : Cond) ∈ xw := xw_t (x_t4 (List.mem_of_getElem? (i := 54) rfl)) rfl
theorem kw_4_55 : (.methodLink "ValueBench$Sorter" 48 yR_is : Cond) ∈ xw := xw_t (x_t4 (List.mem_of_getElem? (i := 55) rfl)) rfl
theorem kw_4_56 : (.methodLink "ValueBench$Sorter" 52 yR_length : Cond) ∈ xw := xw_t (x_t4 (List.mem_of_getElem? (i := 56) rfl)) rfl
theorem kw_4_57 : (.methodLink "ValueBench$Sorter" 32 Lib.Math.min.name : Cond) ∈ xw := xw_t (x_t4 (List.mem_of_getElem? (i := 57) rfl)) rfl
theorem kw_4_58 : (.methodLink "ValueBench$Sorter" 42 yR_after : Cond) ∈ xw := xw_t (x_t4 (List.mem_of_getElem? (i := 58) rfl)) rfl
theorem kw_4_59 : (.methodLink "ValueBench$Sorter" 38 yS_merge : Cond) ∈ xw := xw_t (x_t4 (List.mem_of_getElem? (i := 59) rfl)) rfl
theorem kw_4_61 : (.instanceMethod yS_merge : Cond) ∈ xw := xw_t (x_t4 (List.mem_of_getElem? (i := 61) rfl)) rfl
theorem kw_4_62 : (.code yS_merge prog_10_method_7_code 9 none : Cond) ∈ xw := xw_t (x_t4 (List.mem_of_getElem? (i := 62) rfl)) rfl
theorem kw_4_63 : (.methodLink "ValueBench$Sorter" 55 yS_keyAtTurn : Cond) ∈ xw := xw_t (x_t4 (List.mem_of_getElem? (i := 63) rfl)) rfl
theorem kw_4_64 : (.instanceMethod yS_keyAtTurn : Cond) ∈ xw := xw_t (x_t4 (List.mem_of_getElem? (i := 64) rfl)) rfl
theorem kw_4_65 : (.selects "ValueBench$Sorter" yS_keyAtTurn yS_keyAtTurn : Cond) ∈ xw := xw_t (x_t4 (List.mem_of_getElem? (i := 65) rfl)) rfl
theorem kw_4_66 : (.code yS_keyAtTurn prog_10_method_4_code 2 (some .int) : Cond) ∈ xw := xw_t (x_t4 (List.mem_of_getElem? (i := 66) rfl)) rfl
theorem kw_4_67 : (.methodLink "ValueBench$Sorter" 58 yO_of : Cond) ∈ xw := xw_t (x_t4 (List.mem_of_getElem? (i := 67) rfl)) rfl
theorem kw_4_68 : (.methodLink "ValueBench$Singles" 98 yS_keyAtTurn : Cond) ∈ xw := xw_t (x_t4 (List.mem_of_getElem? (i := 68) rfl)) rfl
theorem kw_4_69 : (.methodLink "ValueBench$Singles" 58 yR_putCopy : Cond) ∈ xw := xw_t (x_t4 (List.mem_of_getElem? (i := 69) rfl)) rfl
theorem kw_4_70 : (.methodLink "ValueBench$Singles" 89 yR_close : Cond) ∈ xw := xw_t (x_t4 (List.mem_of_getElem? (i := 70) rfl)) rfl
theorem kw_4_71 : (.methodLink "ValueBench$Singles" 29 yG_keys : Cond) ∈ xw := xw_t (x_t4 (List.mem_of_getElem? (i := 71) rfl)) rfl
theorem kw_4_72 : (.static yG_keys : Cond) ∈ xw := xw_t (x_t4 (List.mem_of_getElem? (i := 72) rfl)) rfl
theorem kw_4_73 : (.code yG_keys prog_9_method_5_code 5 (some .int) : Cond) ∈ xw := xw_t (x_t4 (List.mem_of_getElem? (i := 73) rfl)) rfl
theorem kw_4_74 : (.methodLink "ValueBench$Singles" 86 yR_after : Cond) ∈ xw := xw_t (x_t4 (List.mem_of_getElem? (i := 74) rfl)) rfl
theorem kw_4_75 : (.methodLink "ValueBench$Singles" 32 yG_itself : Cond) ∈ xw := xw_t (x_t4 (List.mem_of_getElem? (i := 75) rfl)) rfl
theorem kw_4_76 : (.static yG_itself : Cond) ∈ xw := xw_t (x_t4 (List.mem_of_getElem? (i := 76) rfl)) rfl
theorem kw_4_77 : (.code yG_itself prog_9_method_3_code 2 (some .int) : Cond) ∈ xw := xw_t (x_t4 (List.mem_of_getElem? (i := 77) rfl)) rfl
theorem kw_4_78 : (.methodLink "ValueBench$Singles" 35 yG_printed : Cond) ∈ xw := xw_t (x_t4 (List.mem_of_getElem? (i := 78) rfl)) rfl
theorem kw_4_79 : (.static yG_printed : Cond) ∈ xw := xw_t (x_t4 (List.mem_of_getElem? (i := 79) rfl)) rfl
theorem kw_4_80 : (.code yG_printed prog_9_method_7_code 3 (some .int) : Cond) ∈ xw := xw_t (x_t4 (List.mem_of_getElem? (i := 80) rfl)) rfl
theorem kw_4_81 : (.methodLink "ValueBench$Singles" 101 yT_clear : Cond) ∈ xw := xw_t (x_t4 (List.mem_of_getElem? (i := 81) rfl)) rfl
theorem kw_4_82 : (.methodLink "ValueBench$Singles" 106 yP_write : Cond) ∈ xw := xw_t (x_t4 (List.mem_of_getElem? (i := 82) rfl)) rfl
theorem kw_4_83 : (.methodLink "ValueBench$Singles" 112 yR_putText : Cond) ∈ xw := xw_t (x_t4 (List.mem_of_getElem? (i := 83) rfl)) rfl
theorem kw_4_84 : (.instanceMethod yR_putText : Cond) ∈ xw := xw_t (x_t4 (List.mem_of_getElem? (i := 84) rfl)) rfl
theorem kw_4_85 : (.selects "ValueBench$Row" yR_putText yR_putText : Cond) ∈ xw := xw_t (x_t4 (List.mem_of_getElem? (i := 85) rfl)) rfl
theorem kw_4_90 : (.methodLink "ValueBench$Singles" 39 yG_toNumber : Cond) ∈ xw := xw_t (x_t4 (List.mem_of_getElem? (i := 90) rfl)) rfl
theorem kw_4_91 : (.static yG_toNumber : Cond) ∈ xw := xw_t (x_t4 (List.mem_of_getElem? (i := 91) rfl)) rfl
theorem kw_4_92 : (.code yG_toNumber prog_9_method_8_code 3 (some .int) : Cond) ∈ xw := xw_t (x_t4 (List.mem_of_getElem? (i := 92) rfl)) rfl
theorem kw_4_93 : (.methodLink "ValueBench$Singles" 116 yG_readerOf : Cond) ∈ xw := xw_t (x_t4 (List.mem_of_getElem? (i := 93) rfl)) rfl
theorem kw_4_94 : (.static yG_readerOf : Cond) ∈ xw := xw_t (x_t4 (List.mem_of_getElem? (i := 94) rfl)) rfl
theorem kw_4_95 : (.code yG_readerOf prog_9_method_10_code 3 (some (.object "ValueBench$Reader")) : Cond) ∈ xw := xw_t (x_t4 (List.mem_of_getElem? (i := 95) rfl)) rfl
theorem kw_4_96 : (.methodLink "ValueBench$Singles" 128 yT_addString : Cond) ∈ xw := xw_t (x_t4 (List.mem_of_getElem? (i := 96) rfl)) rfl
theorem kw_4_97 : (.instanceMethod yT_addString : Cond) ∈ xw := xw_t (x_t4 (List.mem_of_getElem? (i := 97) rfl)) rfl
theorem kw_4_98 : (.selects "ValueBench$Text" yT_addString yT_addString : Cond) ∈ xw := xw_t (x_t4 (List.mem_of_getElem? (i := 98) rfl)) rfl
theorem kw_5_0 : (.static yH_putFlat : Cond) ∈ xw := xw_t (x_t5 (List.mem_of_getElem? (i := 0) rfl)) rfl
theorem kw_5_1 : (.code yH_putFlat prog_5_method_27_code 9 (some .int) : Cond) ∈ xw := xw_t (x_t5 (List.mem_of_getElem? (i := 1) rfl)) rfl
theorem kw_5_10 : (.selects "ValueBench$Row" yR_element yR_element : Cond) ∈ xw := xw_t (x_t5 (List.mem_of_getElem? (i := 10) rfl)) rfl
theorem kw_5_2 : (.methodLink "ValueBench$Pairs" 54 yH_at : Cond) ∈ xw := xw_t (x_t5 (List.mem_of_getElem? (i := 2) rfl)) rfl
theorem kw_5_21 : (.code yK_apply prog_2_method_2_code 5 (some .int) : Cond) ∈ xw := xw_t (x_t5 (List.mem_of_getElem? (i := 21) rfl)) rfl
theorem kw_5_22 : (.methodLink "ValueBench$Keyed" 9 yR_is : Cond) ∈ xw := xw_t (x_t5 (List.mem_of_getElem? (i := 22) rfl)) rfl
theorem kw_5_23 : (.methodLink "ValueBench$Keyed" 15 yR_length : Cond) ∈ xw := xw_t (x_t5 (List.mem_of_getElem? (i := 23) rfl)) rfl
theorem kw_5_24 : (.methodLink "ValueBench$Keyed" 19 yS_arrange : Cond) ∈ xw := xw_t (x_t5 (List.mem_of_getElem? (i := 24) rfl)) rfl
theorem kw_5_25 : (.methodLink "ValueBench$Keyed" 25 yS_attach : Cond) ∈ xw := xw_t (x_t5 (List.mem_of_getElem? (i := 25) rfl)) rfl
theorem kw_5_26 : (.instanceMethod yS_attach : Cond) ∈ xw := xw_t (x_t5 (List.mem_of_getElem? (i := 26) rfl)) rfl
theorem kw_5_27 : (.selects "ValueBench$Sorter" yS_attach yS_attach : Cond) ∈ xw := xw_t (x_t5 (List.mem_of_getElem? (i := 27) rfl)) rfl
theorem kw_5_28 : (.code yS_attach prog_10_method_3_code 5 none : Cond) ∈ xw := xw_t (x_t5 (List.mem_of_getElem? (i := 28) rfl)) rfl
theorem kw_5_29 : (.methodLink "ValueBench$Keyed" 28 yK_putSorted : Cond) ∈ xw := xw_t (x_t5 (List.mem_of_getElem? (i := 29) rfl)) rfl
theorem kw_5_3 : (.static yH_at : Cond) ∈ xw := xw_t (x_t5 (List.mem_of_getElem? (i := 3) rfl)) rfl
theorem kw_5_30 : (.static yK_putSorted : Cond) ∈ xw := xw_t (x_t5 (List.mem_of_getElem? (i := 30) rfl)) rfl
theorem kw_5_31 : (.code yK_putSorted prog_2_method_3_code 5 none : Cond) ∈ xw := xw_t (x_t5 (List.mem_of_getElem? (i := 31) rfl)) rfl
theorem kw_5_32 : (.methodLink "ValueBench$Keyed" 45 yR_open : Cond) ∈ xw := xw_t (x_t5 (List.mem_of_getElem? (i := 32) rfl)) rfl
theorem kw_5_33 : (.methodLink "ValueBench$Keyed" 49 yS_elementAtTurn : Cond) ∈ xw := xw_t (x_t5 (List.mem_of_getElem? (i := 33) rfl)) rfl
theorem kw_5_34 : (.instanceMethod yS_elementAtTurn : Cond) ∈ xw := xw_t (x_t5 (List.mem_of_getElem? (i := 34) rfl)) rfl
theorem kw_5_35 : (.selects "ValueBench$Sorter" yS_elementAtTurn yS_elementAtTurn : Cond) ∈ xw := xw_t (x_t5 (List.mem_of_getElem? (i := 35) rfl)) rfl
theorem kw_5_36 : (.code yS_elementAtTurn prog_10_method_5_code 2 (some .int) : Cond) ∈ xw := xw_t (x_t5 (List.mem_of_getElem? (i := 36) rfl)) rfl
theorem kw_5_37 : (.methodLink "ValueBench$Keyed" 52 yR_putCopy : Cond) ∈ xw := xw_t (x_t5 (List.mem_of_getElem? (i := 37) rfl)) rfl
theorem kw_5_38 : (.methodLink "ValueBench$Keyed" 55 yR_close : Cond) ∈ xw := xw_t (x_t5 (List.mem_of_getElem? (i := 38) rfl)) rfl
theorem kw_5_39 : (.methodLink "ValueBench$Keyed" 34 yK_putGroups : Cond) ∈ xw := xw_t (x_t5 (List.mem_of_getElem? (i := 39) rfl)) rfl
theorem kw_5_4 : (.code yH_at prog_5_method_28_code 4 (some .int) : Cond) ∈ xw := xw_t (x_t5 (List.mem_of_getElem? (i := 4) rfl)) rfl
theorem kw_5_40 : (.static yK_putGroups : Cond) ∈ xw := xw_t (x_t5 (List.mem_of_getElem? (i := 40) rfl)) rfl
theorem kw_5_41 : (.code yK_putGroups prog_2_method_6_code 7 none : Cond) ∈ xw := xw_t (x_t5 (List.mem_of_getElem? (i := 41) rfl)) rfl
theorem kw_5_42 : (.methodLink "ValueBench$Keyed" 71 yK_beginsGroup : Cond) ∈ xw := xw_t (x_t5 (List.mem_of_getElem? (i := 42) rfl)) rfl
theorem kw_5_43 : (.static yK_beginsGroup : Cond) ∈ xw := xw_t (x_t5 (List.mem_of_getElem? (i := 43) rfl)) rfl
theorem kw_5_44 : (.code yK_beginsGroup prog_2_method_5_code 3 (some .boolean) : Cond) ∈ xw := xw_t (x_t5 (List.mem_of_getElem? (i := 44) rfl)) rfl
theorem kw_5_45 : (.methodLink "ValueBench$Keyed" 62 yS_keyAtTurn : Cond) ∈ xw := xw_t (x_t5 (List.mem_of_getElem? (i := 45) rfl)) rfl
theorem kw_5_46 : (.methodLink "ValueBench$Keyed" 65 yO_of : Cond) ∈ xw := xw_t (x_t5 (List.mem_of_getElem? (i := 46) rfl)) rfl
theorem kw_5_47 : (.methodLink "ValueBench$Keyed" 75 yK_putGroup : Cond) ∈ xw := xw_t (x_t5 (List.mem_of_getElem? (i := 47) rfl)) rfl
theorem kw_5_48 : (.static yK_putGroup : Cond) ∈ xw := xw_t (x_t5 (List.mem_of_getElem? (i := 48) rfl)) rfl
theorem kw_5_49 : (.code yK_putGroup prog_2_method_7_code 7 none : Cond) ∈ xw := xw_t (x_t5 (List.mem_of_getElem? (i := 49) rfl)) rfl
theorem kw_5_5 : (.methodLink "ValueBench$Pairs" 183 yH_elementAt : Cond) ∈ xw := xw_t (x_t5 (List.mem_of_getElem? (i := 5) rfl)) rfl
theorem kw_5_50 : (.methodLink "ValueBench$Keyed" 38 yK_putFirsts : Cond) ∈ xw := xw_t (x_t5 (List.mem_of_getElem? (i := 50) rfl)) rfl
theorem kw_5_51 : (.static yK_putFirsts : Cond) ∈ xw := xw_t (x_t5 (List.mem_of_getElem? (i := 51) rfl)) rfl
theorem kw_5_52 : (.code yK_putFirsts prog_2_method_8_code 7 none : Cond) ∈ xw := xw_t (x_t5 (List.mem_of_getElem? (i := 52) rfl)) rfl
theorem kw_5_53 : (.methodLink "ValueBench$Keyed" 41 yK_putTurnOrNull : Cond) ∈ xw := xw_t (x_t5 (List.mem_of_getElem? (i := 53) rfl)) rfl
theorem kw_5_54 : (.static yK_putTurnOrNull : Cond) ∈ xw := xw_t (x_t5 (List.mem_of_getElem? (i := 54) rfl)) rfl
theorem kw_5_55 : (.code yK_putTurnOrNull prog_2_method_4_code 4 none : Cond) ∈ xw := xw_t (x_t5 (List.mem_of_getElem? (i := 55) rfl)) rfl
theorem kw_5_56 : (.methodLink "ValueBench$Keyed" 59 yR_putNull : Cond) ∈ xw := xw_t (x_t5 (List.mem_of_getElem? (i := 56) rfl)) rfl
theorem kw_5_6 : (.static yH_elementAt : Cond) ∈ xw := xw_t (x_t5 (List.mem_of_getElem? (i := 6) rfl)) rfl
theorem kw_5_7 : (.code yH_elementAt prog_5_method_29_code 7 (some .int) : Cond) ∈ xw := xw_t (x_t5 (List.mem_of_getElem? (i := 7) rfl)) rfl
theorem kw_5_8 : (.methodLink "ValueBench$Pairs" 187 yR_element : Cond) ∈ xw := xw_t (x_t5 (List.mem_of_getElem? (i := 8) rfl)) rfl
theorem kw_5_9 : (.instanceMethod yR_element : Cond) ∈ xw := xw_t (x_t5 (List.mem_of_getElem? (i := 9) rfl)) rfl
theorem kp_D_array : (.selects "ValueBench$Reader" yD_array yD_array : Cond) ∈ xw := xw_p (List.mem_map.mpr ⟨(yD_array, 4), List.mem_append_left _ (List.mem_of_getElem? (i := 11) rfl), rfl⟩) rfl
theorem kp_D_broken : (.selects "ValueBench$Reader" yD_broken yD_broken : Cond) ∈ xw := xw_p (List.mem_map.mpr ⟨(yD_broken, 4), List.mem_append_left _ (List.mem_of_getElem? (i := 5) rfl), rfl⟩) rfl
theorem kp_D_brokenCode : (.selects "ValueBench$Reader" yD_brokenCode yD_brokenCode : Cond) ∈ xw := xw_p (List.mem_map.mpr ⟨(yD_brokenCode, 4), List.mem_append_left _ (List.mem_of_getElem? (i := 8) rfl), rfl⟩) rfl
theorem kp_D_colon : (.selects "ValueBench$Reader" yD_colon yD_colon : Cond) ∈ xw := xw_p (List.mem_map.mpr ⟨(yD_colon, 4), List.mem_append_left _ (List.mem_of_getElem? (i := 15) rfl), rfl⟩) rfl
theorem kp_D_comma : (.selects "ValueBench$Reader" yD_comma yD_comma : Cond) ∈ xw := xw_p (List.mem_map.mpr ⟨(yD_comma, 4), List.mem_append_left _ (List.mem_of_getElem? (i := 12) rfl), rfl⟩) rfl
theorem kp_D_demandEnd : (.selects "ValueBench$Reader" yD_demandEnd yD_demandEnd : Cond) ∈ xw := xw_p (List.mem_map.mpr ⟨(yD_demandEnd, 4), List.mem_append_right _ (List.mem_append_left _ (List.mem_of_getElem? (i := 2) rfl)), rfl⟩) rfl
theorem kp_D_digits : (.selects "ValueBench$Reader" yD_digits yD_digits : Cond) ∈ xw := xw_p (List.mem_map.mpr ⟨(yD_digits, 4), List.mem_append_right _ (List.mem_append_left _ (List.mem_of_getElem? (i := 1) rfl)), rfl⟩) rfl
theorem kp_D_fourDigits : (.selects "ValueBench$Reader" yD_fourDigits yD_fourDigits : Cond) ∈ xw := xw_p (List.mem_map.mpr ⟨(yD_fourDigits, 4), List.mem_append_left _ (List.mem_of_getElem? (i := 9) rfl), rfl⟩) rfl
theorem kp_D_isNew : (.selects "ValueBench$Reader" yD_isNew yD_isNew : Cond) ∈ xw := xw_p (List.mem_map.mpr ⟨(yD_isNew, 4), List.mem_append_left _ (List.mem_of_getElem? (i := 14) rfl), rfl⟩) rfl
theorem kp_D_letter : (.selects "ValueBench$Reader" yD_letter yD_letter : Cond) ∈ xw := xw_p (List.mem_map.mpr ⟨(yD_letter, 4), List.mem_append_left _ (List.mem_of_getElem? (i := 10) rfl), rfl⟩) rfl
theorem kp_D_letters : (.selects "ValueBench$Reader" yD_letters yD_letters : Cond) ∈ xw := xw_p (List.mem_map.mpr ⟨(yD_letters, 4), List.mem_append_left _ (List.mem_of_getElem? (i := 3) rfl), rfl⟩) rfl
theorem kp_D_number : (.selects "ValueBench$Reader" yD_number yD_number : Cond) ∈ xw := xw_p (List.mem_map.mpr ⟨(yD_number, 4), List.mem_append_right _ (List.mem_append_left _ (List.mem_of_getElem? (i := 0) rfl)), rfl⟩) rfl
theorem kp_D_object : (.selects "ValueBench$Reader" yD_object yD_object : Cond) ∈ xw := xw_p (List.mem_map.mpr ⟨(yD_object, 4), List.mem_append_left _ (List.mem_of_getElem? (i := 13) rfl), rfl⟩) rfl
theorem kp_D_plain : (.selects "ValueBench$Reader" yD_plain yD_plain : Cond) ∈ xw := xw_p (List.mem_map.mpr ⟨(yD_plain, 4), List.mem_append_left _ (List.mem_of_getElem? (i := 7) rfl), rfl⟩) rfl
theorem kp_D_skipBlanks : (.selects "ValueBench$Reader" yD_skipBlanks yD_skipBlanks : Cond) ∈ xw := xw_p (List.mem_map.mpr ⟨(yD_skipBlanks, 4), List.mem_append_left _ (List.mem_of_getElem? (i := 2) rfl), rfl⟩) rfl
theorem kp_D_string : (.selects "ValueBench$Reader" yD_string yD_string : Cond) ∈ xw := xw_p (List.mem_map.mpr ⟨(yD_string, 4), List.mem_append_left _ (List.mem_of_getElem? (i := 6) rfl), rfl⟩) rfl
theorem kp_D_take : (.selects "ValueBench$Reader" yD_take yD_take : Cond) ∈ xw := xw_p (List.mem_map.mpr ⟨(yD_take, 4), List.mem_append_left _ (List.mem_of_getElem? (i := 4) rfl), rfl⟩) rfl
theorem kp_D_value : (.selects "ValueBench$Reader" yD_value yD_value : Cond) ∈ xw := xw_p (List.mem_map.mpr ⟨(yD_value, 4), List.mem_append_left _ (List.mem_of_getElem? (i := 1) rfl), rfl⟩) rfl
theorem kp_S_merge : (.selects "ValueBench$Sorter" yS_merge yS_merge : Cond) ∈ xw := xw_p (List.mem_map.mpr ⟨(yS_merge, 5), List.mem_append_right _ (List.mem_append_left _ (List.mem_of_getElem? (i := 6) rfl)), rfl⟩) rfl
theorem dA_apply_0 : decode prog_3_method_2_code 0 = .ok (.aload_n 1, 1) := by decide +kernel
theorem dA_apply_1 : decode prog_3_method_2_code 1 = .ok (.iconst 0, 1) := by decide +kernel
theorem dA_apply_2 : decode prog_3_method_2_code 2 = .ok (.iconst 3, 1) := by decide +kernel
theorem dA_apply_3 : decode prog_3_method_2_code 3 = .ok (.invokevirtual 9, 3) := by decide +kernel
theorem dA_apply_6 : decode prog_3_method_2_code 6 = .ok (.ifCond .eq 28, 3) := by decide +kernel
theorem dA_apply_9 : decode prog_3_method_2_code 9 = .ok (.aload_n 2, 1) := by decide +kernel
theorem dA_apply_10 : decode prog_3_method_2_code 10 = .ok (.iconst 0, 1) := by decide +kernel
theorem dA_apply_11 : decode prog_3_method_2_code 11 = .ok (.iconst 3, 1) := by decide +kernel
theorem dA_apply_12 : decode prog_3_method_2_code 12 = .ok (.invokevirtual 9, 3) := by decide +kernel
theorem dA_apply_15 : decode prog_3_method_2_code 15 = .ok (.ifCond .eq 19, 3) := by decide +kernel
theorem dA_apply_18 : decode prog_3_method_2_code 18 = .ok (.iload_n 0, 1) := by decide +kernel
theorem dA_apply_19 : decode prog_3_method_2_code 19 = .ok (.aload_n 1, 1) := by decide +kernel
theorem dA_apply_20 : decode prog_3_method_2_code 20 = .ok (.iconst 0, 1) := by decide +kernel
theorem dA_apply_21 : decode prog_3_method_2_code 21 = .ok (.invokevirtual 15, 3) := by decide +kernel
theorem dA_apply_24 : decode prog_3_method_2_code 24 = .ok (.aload_n 2, 1) := by decide +kernel
theorem dA_apply_25 : decode prog_3_method_2_code 25 = .ok (.iconst 0, 1) := by decide +kernel
theorem dA_apply_26 : decode prog_3_method_2_code 26 = .ok (.invokevirtual 15, 3) := by decide +kernel
theorem dA_apply_29 : decode prog_3_method_2_code 29 = .ok (.aload_n 3, 1) := by decide +kernel
theorem dA_apply_30 : decode prog_3_method_2_code 30 = .ok (.invokestatic 19, 3) := by decide +kernel
theorem dA_apply_33 : decode prog_3_method_2_code 33 = .ok (.ireturn, 1) := by decide +kernel
theorem dA_apply_34 : decode prog_3_method_2_code 34 = .ok (.iload_n 0, 1) := by decide +kernel
theorem dA_apply_35 : decode prog_3_method_2_code 35 = .ok (.tableswitch 57 0 3 #[29, 36, 43, 50], 29) := by decide +kernel
theorem dA_apply_64 : decode prog_3_method_2_code 64 = .ok (.aload_n 1, 1) := by decide +kernel
theorem dA_apply_65 : decode prog_3_method_2_code 65 = .ok (.aload_n 2, 1) := by decide +kernel
theorem dA_apply_66 : decode prog_3_method_2_code 66 = .ok (.aload_n 3, 1) := by decide +kernel
theorem dA_apply_67 : decode prog_3_method_2_code 67 = .ok (.invokestatic 25, 3) := by decide +kernel
theorem dA_apply_70 : decode prog_3_method_2_code 70 = .ok (.ireturn, 1) := by decide +kernel
theorem dA_apply_71 : decode prog_3_method_2_code 71 = .ok (.aload_n 1, 1) := by decide +kernel
theorem dA_apply_72 : decode prog_3_method_2_code 72 = .ok (.aload_n 2, 1) := by decide +kernel
theorem dA_apply_73 : decode prog_3_method_2_code 73 = .ok (.aload_n 3, 1) := by decide +kernel
theorem dA_apply_74 : decode prog_3_method_2_code 74 = .ok (.invokestatic 29, 3) := by decide +kernel
theorem dA_apply_77 : decode prog_3_method_2_code 77 = .ok (.ireturn, 1) := by decide +kernel
theorem dA_apply_78 : decode prog_3_method_2_code 78 = .ok (.aload_n 1, 1) := by decide +kernel
theorem dA_apply_79 : decode prog_3_method_2_code 79 = .ok (.aload_n 2, 1) := by decide +kernel
theorem dA_apply_80 : decode prog_3_method_2_code 80 = .ok (.aload_n 3, 1) := by decide +kernel
theorem dA_apply_81 : decode prog_3_method_2_code 81 = .ok (.invokestatic 32, 3) := by decide +kernel
theorem dA_apply_84 : decode prog_3_method_2_code 84 = .ok (.ireturn, 1) := by decide +kernel
theorem dA_apply_85 : decode prog_3_method_2_code 85 = .ok (.aload_n 1, 1) := by decide +kernel
theorem dA_apply_86 : decode prog_3_method_2_code 86 = .ok (.aload_n 2, 1) := by decide +kernel
theorem dA_apply_87 : decode prog_3_method_2_code 87 = .ok (.aload_n 3, 1) := by decide +kernel
theorem dA_apply_88 : decode prog_3_method_2_code 88 = .ok (.invokestatic 35, 3) := by decide +kernel
theorem dA_apply_91 : decode prog_3_method_2_code 91 = .ok (.ireturn, 1) := by decide +kernel
theorem dA_apply_92 : decode prog_3_method_2_code 92 = .ok (.iconst 1, 1) := by decide +kernel
theorem dA_apply_93 : decode prog_3_method_2_code 93 = .ok (.ireturn, 1) := by decide +kernel
theorem dA_hasElement_0 : decode prog_3_method_11_code 0 = .ok (.iconst 1, 1) := by decide +kernel
theorem dA_hasElement_1 : decode prog_3_method_11_code 1 = .ok (.istore_n 3, 1) := by decide +kernel
theorem dA_hasElement_2 : decode prog_3_method_11_code 2 = .ok (.iconst 0, 1) := by decide +kernel
theorem dA_hasElement_3 : decode prog_3_method_11_code 3 = .ok (.istore 4, 2) := by decide +kernel
theorem dA_hasElement_5 : decode prog_3_method_11_code 5 = .ok (.iload 4, 2) := by decide +kernel
theorem dA_hasElement_7 : decode prog_3_method_11_code 7 = .ok (.aload_n 0, 1) := by decide +kernel
theorem dA_hasElement_8 : decode prog_3_method_11_code 8 = .ok (.iconst 0, 1) := by decide +kernel
theorem dA_hasElement_9 : decode prog_3_method_11_code 9 = .ok (.invokevirtual 80, 3) := by decide +kernel
theorem dA_hasElement_12 : decode prog_3_method_11_code 12 = .ok (.if_icmp .ge 27, 3) := by decide +kernel
theorem dA_hasElement_15 : decode prog_3_method_11_code 15 = .ok (.aload_n 0, 1) := by decide +kernel
theorem dA_hasElement_16 : decode prog_3_method_11_code 16 = .ok (.iload_n 3, 1) := by decide +kernel
theorem dA_hasElement_17 : decode prog_3_method_11_code 17 = .ok (.aload_n 1, 1) := by decide +kernel
theorem dA_hasElement_18 : decode prog_3_method_11_code 18 = .ok (.iload_n 2, 1) := by decide +kernel
theorem dA_hasElement_19 : decode prog_3_method_11_code 19 = .ok (.invokestatic 102, 3) := by decide +kernel
theorem dA_hasElement_22 : decode prog_3_method_11_code 22 = .ok (.ifCond .eq 5, 3) := by decide +kernel
theorem dA_hasElement_25 : decode prog_3_method_11_code 25 = .ok (.iconst 1, 1) := by decide +kernel
theorem dA_hasElement_26 : decode prog_3_method_11_code 26 = .ok (.ireturn, 1) := by decide +kernel
theorem dA_hasElement_27 : decode prog_3_method_11_code 27 = .ok (.aload_n 0, 1) := by decide +kernel
theorem dA_hasElement_28 : decode prog_3_method_11_code 28 = .ok (.iload_n 3, 1) := by decide +kernel
theorem dA_hasElement_29 : decode prog_3_method_11_code 29 = .ok (.invokevirtual 87, 3) := by decide +kernel
theorem dA_hasElement_32 : decode prog_3_method_11_code 32 = .ok (.istore_n 3, 1) := by decide +kernel
theorem dA_hasElement_33 : decode prog_3_method_11_code 33 = .ok (.iinc 4 1, 3) := by decide +kernel
theorem dA_hasElement_36 : decode prog_3_method_11_code 36 = .ok (.goto (-31), 3) := by decide +kernel
theorem dA_hasElement_39 : decode prog_3_method_11_code 39 = .ok (.iconst 0, 1) := by decide +kernel
theorem dA_hasElement_40 : decode prog_3_method_11_code 40 = .ok (.ireturn, 1) := by decide +kernel
theorem dA_minus_0 : decode prog_3_method_10_code 0 = .ok (.aload_n 0, 1) := by decide +kernel
theorem dA_minus_1 : decode prog_3_method_10_code 1 = .ok (.iconst 0, 1) := by decide +kernel
theorem dA_minus_2 : decode prog_3_method_10_code 2 = .ok (.iconst 5, 1) := by decide +kernel
theorem dA_minus_3 : decode prog_3_method_10_code 3 = .ok (.invokevirtual 9, 3) := by decide +kernel
theorem dA_minus_6 : decode prog_3_method_10_code 6 = .ok (.ifCond .eq 12, 3) := by decide +kernel
theorem dA_minus_9 : decode prog_3_method_10_code 9 = .ok (.aload_n 1, 1) := by decide +kernel
theorem dA_minus_10 : decode prog_3_method_10_code 10 = .ok (.iconst 0, 1) := by decide +kernel
theorem dA_minus_11 : decode prog_3_method_10_code 11 = .ok (.iconst 5, 1) := by decide +kernel
theorem dA_minus_12 : decode prog_3_method_10_code 12 = .ok (.invokevirtual 9, 3) := by decide +kernel
theorem dA_minus_15 : decode prog_3_method_10_code 15 = .ok (.ifCond .ne 5, 3) := by decide +kernel
theorem dA_minus_18 : decode prog_3_method_10_code 18 = .ok (.iconst 1, 1) := by decide +kernel
theorem dA_minus_19 : decode prog_3_method_10_code 19 = .ok (.ireturn, 1) := by decide +kernel
theorem dA_minus_20 : decode prog_3_method_10_code 20 = .ok (.aload_n 2, 1) := by decide +kernel
theorem dA_minus_21 : decode prog_3_method_10_code 21 = .ok (.invokevirtual 73, 3) := by decide +kernel
theorem dA_minus_24 : decode prog_3_method_10_code 24 = .ok (.istore_n 3, 1) := by decide +kernel
theorem dA_minus_25 : decode prog_3_method_10_code 25 = .ok (.iconst 0, 1) := by decide +kernel
theorem dA_minus_26 : decode prog_3_method_10_code 26 = .ok (.istore 4, 2) := by decide +kernel
theorem dA_minus_28 : decode prog_3_method_10_code 28 = .ok (.iconst 1, 1) := by decide +kernel
theorem dA_minus_29 : decode prog_3_method_10_code 29 = .ok (.istore 5, 2) := by decide +kernel
theorem dA_minus_31 : decode prog_3_method_10_code 31 = .ok (.iconst 0, 1) := by decide +kernel
theorem dA_minus_32 : decode prog_3_method_10_code 32 = .ok (.istore 6, 2) := by decide +kernel
theorem dA_minus_34 : decode prog_3_method_10_code 34 = .ok (.iload 6, 2) := by decide +kernel
theorem dA_minus_36 : decode prog_3_method_10_code 36 = .ok (.aload_n 0, 1) := by decide +kernel
theorem dA_minus_37 : decode prog_3_method_10_code 37 = .ok (.iconst 0, 1) := by decide +kernel
theorem dA_minus_38 : decode prog_3_method_10_code 38 = .ok (.invokevirtual 80, 3) := by decide +kernel
theorem dA_minus_41 : decode prog_3_method_10_code 41 = .ok (.if_icmp .ge 37, 3) := by decide +kernel
theorem dA_minus_44 : decode prog_3_method_10_code 44 = .ok (.aload_n 1, 1) := by decide +kernel
theorem dA_minus_45 : decode prog_3_method_10_code 45 = .ok (.aload_n 0, 1) := by decide +kernel
theorem dA_minus_46 : decode prog_3_method_10_code 46 = .ok (.iload 5, 2) := by decide +kernel
theorem dA_minus_48 : decode prog_3_method_10_code 48 = .ok (.invokestatic 98, 3) := by decide +kernel
theorem dA_minus_51 : decode prog_3_method_10_code 51 = .ok (.ifCond .ne 13, 3) := by decide +kernel
theorem dA_minus_54 : decode prog_3_method_10_code 54 = .ok (.aload_n 2, 1) := by decide +kernel
theorem dA_minus_55 : decode prog_3_method_10_code 55 = .ok (.aload_n 0, 1) := by decide +kernel
theorem dA_minus_56 : decode prog_3_method_10_code 56 = .ok (.iload 5, 2) := by decide +kernel
theorem dA_minus_58 : decode prog_3_method_10_code 58 = .ok (.invokevirtual 57, 3) := by decide +kernel
theorem dA_minus_61 : decode prog_3_method_10_code 61 = .ok (.iinc 4 1, 3) := by decide +kernel
theorem dA_minus_64 : decode prog_3_method_10_code 64 = .ok (.aload_n 0, 1) := by decide +kernel
theorem dA_minus_65 : decode prog_3_method_10_code 65 = .ok (.iload 5, 2) := by decide +kernel
theorem dA_minus_67 : decode prog_3_method_10_code 67 = .ok (.invokevirtual 87, 3) := by decide +kernel
theorem dA_minus_70 : decode prog_3_method_10_code 70 = .ok (.istore 5, 2) := by decide +kernel
theorem dA_minus_72 : decode prog_3_method_10_code 72 = .ok (.iinc 6 1, 3) := by decide +kernel
theorem dA_minus_75 : decode prog_3_method_10_code 75 = .ok (.goto (-41), 3) := by decide +kernel
theorem dA_minus_78 : decode prog_3_method_10_code 78 = .ok (.aload_n 2, 1) := by decide +kernel
theorem dA_minus_79 : decode prog_3_method_10_code 79 = .ok (.iload_n 3, 1) := by decide +kernel
theorem dA_minus_80 : decode prog_3_method_10_code 80 = .ok (.iconst 5, 1) := by decide +kernel
theorem dA_minus_81 : decode prog_3_method_10_code 81 = .ok (.iload 4, 2) := by decide +kernel
theorem dA_minus_83 : decode prog_3_method_10_code 83 = .ok (.invokevirtual 83, 3) := by decide +kernel
theorem dA_minus_86 : decode prog_3_method_10_code 86 = .ok (.iconst 0, 1) := by decide +kernel
theorem dA_minus_87 : decode prog_3_method_10_code 87 = .ok (.ireturn, 1) := by decide +kernel
theorem dA_number_0 : decode prog_3_method_4_code 0 = .ok (.lload_n 0, 1) := by decide +kernel
theorem dA_number_1 : decode prog_3_method_4_code 1 = .ok (.invokestatic 45, 3) := by decide +kernel
theorem dA_number_4 : decode prog_3_method_4_code 4 = .ok (.ldc2_w 51, 3) := by decide +kernel
theorem dA_number_7 : decode prog_3_method_4_code 7 = .ok (.lcmp, 1) := by decide +kernel
theorem dA_number_8 : decode prog_3_method_4_code 8 = .ok (.ifCond .le 5, 3) := by decide +kernel
theorem dA_number_11 : decode prog_3_method_4_code 11 = .ok (.iconst 2, 1) := by decide +kernel
theorem dA_number_12 : decode prog_3_method_4_code 12 = .ok (.ireturn, 1) := by decide +kernel
theorem dA_number_13 : decode prog_3_method_4_code 13 = .ok (.aload_n 2, 1) := by decide +kernel
theorem dA_number_14 : decode prog_3_method_4_code 14 = .ok (.lload_n 0, 1) := by decide +kernel
theorem dA_number_15 : decode prog_3_method_4_code 15 = .ok (.invokevirtual 53, 3) := by decide +kernel
theorem dA_number_18 : decode prog_3_method_4_code 18 = .ok (.iconst 0, 1) := by decide +kernel
theorem dA_number_19 : decode prog_3_method_4_code 19 = .ok (.ireturn, 1) := by decide +kernel
theorem dA_ofNumbers_0 : decode prog_3_method_3_code 0 = .ok (.iload_n 0, 1) := by decide +kernel
theorem dA_ofNumbers_1 : decode prog_3_method_3_code 1 = .ok (.tableswitch 76 0 3 #[31, 40, 49, 57], 31) := by decide +kernel
theorem dA_ofNumbers_32 : decode prog_3_method_3_code 32 = .ok (.lload_n 1, 1) := by decide +kernel
theorem dA_ofNumbers_33 : decode prog_3_method_3_code 33 = .ok (.lload_n 3, 1) := by decide +kernel
theorem dA_ofNumbers_34 : decode prog_3_method_3_code 34 = .ok (.ladd, 1) := by decide +kernel
theorem dA_ofNumbers_35 : decode prog_3_method_3_code 35 = .ok (.aload 5, 2) := by decide +kernel
theorem dA_ofNumbers_37 : decode prog_3_method_3_code 37 = .ok (.invokestatic 38, 3) := by decide +kernel
theorem dA_ofNumbers_40 : decode prog_3_method_3_code 40 = .ok (.ireturn, 1) := by decide +kernel
theorem dA_ofNumbers_41 : decode prog_3_method_3_code 41 = .ok (.lload_n 1, 1) := by decide +kernel
theorem dA_ofNumbers_42 : decode prog_3_method_3_code 42 = .ok (.lload_n 3, 1) := by decide +kernel
theorem dA_ofNumbers_43 : decode prog_3_method_3_code 43 = .ok (.lsub, 1) := by decide +kernel
theorem dA_ofNumbers_44 : decode prog_3_method_3_code 44 = .ok (.aload 5, 2) := by decide +kernel
theorem dA_ofNumbers_46 : decode prog_3_method_3_code 46 = .ok (.invokestatic 38, 3) := by decide +kernel
theorem dA_ofNumbers_49 : decode prog_3_method_3_code 49 = .ok (.ireturn, 1) := by decide +kernel
theorem dA_ofNumbers_50 : decode prog_3_method_3_code 50 = .ok (.lload_n 1, 1) := by decide +kernel
theorem dA_ofNumbers_51 : decode prog_3_method_3_code 51 = .ok (.lload_n 3, 1) := by decide +kernel
theorem dA_ofNumbers_52 : decode prog_3_method_3_code 52 = .ok (.aload 5, 2) := by decide +kernel
theorem dA_ofNumbers_54 : decode prog_3_method_3_code 54 = .ok (.invokestatic 41, 3) := by decide +kernel
theorem dA_ofNumbers_57 : decode prog_3_method_3_code 57 = .ok (.ireturn, 1) := by decide +kernel
theorem dA_ofNumbers_58 : decode prog_3_method_3_code 58 = .ok (.lload_n 3, 1) := by decide +kernel
theorem dA_ofNumbers_59 : decode prog_3_method_3_code 59 = .ok (.lconst 0, 1) := by decide +kernel
theorem dA_ofNumbers_60 : decode prog_3_method_3_code 60 = .ok (.lcmp, 1) := by decide +kernel
theorem dA_ofNumbers_61 : decode prog_3_method_3_code 61 = .ok (.ifCond .ne 7, 3) := by decide +kernel
theorem dA_ofNumbers_64 : decode prog_3_method_3_code 64 = .ok (.iconst 3, 1) := by decide +kernel
theorem dA_ofNumbers_65 : decode prog_3_method_3_code 65 = .ok (.goto 11, 3) := by decide +kernel
theorem dA_ofNumbers_68 : decode prog_3_method_3_code 68 = .ok (.lload_n 1, 1) := by decide +kernel
theorem dA_ofNumbers_69 : decode prog_3_method_3_code 69 = .ok (.lload_n 3, 1) := by decide +kernel
theorem dA_ofNumbers_70 : decode prog_3_method_3_code 70 = .ok (.ldiv, 1) := by decide +kernel
theorem dA_ofNumbers_71 : decode prog_3_method_3_code 71 = .ok (.aload 5, 2) := by decide +kernel
theorem dA_ofNumbers_73 : decode prog_3_method_3_code 73 = .ok (.invokestatic 38, 3) := by decide +kernel
theorem dA_ofNumbers_76 : decode prog_3_method_3_code 76 = .ok (.ireturn, 1) := by decide +kernel
theorem dA_ofNumbers_77 : decode prog_3_method_3_code 77 = .ok (.lload_n 3, 1) := by decide +kernel
theorem dA_ofNumbers_78 : decode prog_3_method_3_code 78 = .ok (.lconst 0, 1) := by decide +kernel
theorem dA_ofNumbers_79 : decode prog_3_method_3_code 79 = .ok (.lcmp, 1) := by decide +kernel
theorem dA_ofNumbers_80 : decode prog_3_method_3_code 80 = .ok (.ifCond .ne 7, 3) := by decide +kernel
theorem dA_ofNumbers_83 : decode prog_3_method_3_code 83 = .ok (.iconst 3, 1) := by decide +kernel
theorem dA_ofNumbers_84 : decode prog_3_method_3_code 84 = .ok (.goto 11, 3) := by decide +kernel
theorem dA_ofNumbers_87 : decode prog_3_method_3_code 87 = .ok (.lload_n 1, 1) := by decide +kernel
theorem dA_ofNumbers_88 : decode prog_3_method_3_code 88 = .ok (.lload_n 3, 1) := by decide +kernel
theorem dA_ofNumbers_89 : decode prog_3_method_3_code 89 = .ok (.lrem, 1) := by decide +kernel
theorem dA_ofNumbers_90 : decode prog_3_method_3_code 90 = .ok (.aload 5, 2) := by decide +kernel
theorem dA_ofNumbers_92 : decode prog_3_method_3_code 92 = .ok (.invokestatic 38, 3) := by decide +kernel
theorem dA_ofNumbers_95 : decode prog_3_method_3_code 95 = .ok (.ireturn, 1) := by decide +kernel
theorem dA_pieces_0 : decode prog_3_method_14_code 0 = .ok (.aload_n 0, 1) := by decide +kernel
theorem dA_pieces_1 : decode prog_3_method_14_code 1 = .ok (.iconst 0, 1) := by decide +kernel
theorem dA_pieces_2 : decode prog_3_method_14_code 2 = .ok (.iconst 4, 1) := by decide +kernel
theorem dA_pieces_3 : decode prog_3_method_14_code 3 = .ok (.invokevirtual 9, 3) := by decide +kernel
theorem dA_pieces_6 : decode prog_3_method_14_code 6 = .ok (.ifCond .eq 12, 3) := by decide +kernel
theorem dA_pieces_9 : decode prog_3_method_14_code 9 = .ok (.aload_n 1, 1) := by decide +kernel
theorem dA_pieces_10 : decode prog_3_method_14_code 10 = .ok (.iconst 0, 1) := by decide +kernel
theorem dA_pieces_11 : decode prog_3_method_14_code 11 = .ok (.iconst 4, 1) := by decide +kernel
theorem dA_pieces_12 : decode prog_3_method_14_code 12 = .ok (.invokevirtual 9, 3) := by decide +kernel
theorem dA_pieces_15 : decode prog_3_method_14_code 15 = .ok (.ifCond .ne 5, 3) := by decide +kernel
theorem dA_pieces_18 : decode prog_3_method_14_code 18 = .ok (.iconst 1, 1) := by decide +kernel
theorem dA_pieces_19 : decode prog_3_method_14_code 19 = .ok (.ireturn, 1) := by decide +kernel
theorem dA_pieces_20 : decode prog_3_method_14_code 20 = .ok (.aload_n 2, 1) := by decide +kernel
theorem dA_pieces_21 : decode prog_3_method_14_code 21 = .ok (.invokevirtual 73, 3) := by decide +kernel
theorem dA_pieces_24 : decode prog_3_method_14_code 24 = .ok (.istore_n 3, 1) := by decide +kernel
theorem dA_pieces_25 : decode prog_3_method_14_code 25 = .ok (.aload_n 1, 1) := by decide +kernel
theorem dA_pieces_26 : decode prog_3_method_14_code 26 = .ok (.iconst 0, 1) := by decide +kernel
theorem dA_pieces_27 : decode prog_3_method_14_code 27 = .ok (.invokevirtual 80, 3) := by decide +kernel
theorem dA_pieces_30 : decode prog_3_method_14_code 30 = .ok (.ifCond .ne 11, 3) := by decide +kernel
theorem dA_pieces_33 : decode prog_3_method_14_code 33 = .ok (.aload_n 0, 1) := by decide +kernel
theorem dA_pieces_34 : decode prog_3_method_14_code 34 = .ok (.aload_n 2, 1) := by decide +kernel
theorem dA_pieces_35 : decode prog_3_method_14_code 35 = .ok (.invokestatic 122, 3) := by decide +kernel
theorem dA_pieces_38 : decode prog_3_method_14_code 38 = .ok (.goto 9, 3) := by decide +kernel
theorem dA_pieces_41 : decode prog_3_method_14_code 41 = .ok (.aload_n 0, 1) := by decide +kernel
theorem dA_pieces_42 : decode prog_3_method_14_code 42 = .ok (.aload_n 1, 1) := by decide +kernel
theorem dA_pieces_43 : decode prog_3_method_14_code 43 = .ok (.aload_n 2, 1) := by decide +kernel
theorem dA_pieces_44 : decode prog_3_method_14_code 44 = .ok (.invokestatic 126, 3) := by decide +kernel
theorem dA_pieces_47 : decode prog_3_method_14_code 47 = .ok (.istore 4, 2) := by decide +kernel
theorem dA_pieces_49 : decode prog_3_method_14_code 49 = .ok (.aload_n 2, 1) := by decide +kernel
theorem dA_pieces_50 : decode prog_3_method_14_code 50 = .ok (.iload_n 3, 1) := by decide +kernel
theorem dA_pieces_51 : decode prog_3_method_14_code 51 = .ok (.iconst 5, 1) := by decide +kernel
theorem dA_pieces_52 : decode prog_3_method_14_code 52 = .ok (.iload 4, 2) := by decide +kernel
theorem dA_pieces_54 : decode prog_3_method_14_code 54 = .ok (.invokevirtual 83, 3) := by decide +kernel
theorem dA_pieces_57 : decode prog_3_method_14_code 57 = .ok (.iconst 0, 1) := by decide +kernel
theorem dA_pieces_58 : decode prog_3_method_14_code 58 = .ok (.ireturn, 1) := by decide +kernel
theorem dA_plus_0 : decode prog_3_method_6_code 0 = .ok (.aload_n 0, 1) := by decide +kernel
theorem dA_plus_1 : decode prog_3_method_6_code 1 = .ok (.iconst 0, 1) := by decide +kernel
theorem dA_plus_2 : decode prog_3_method_6_code 2 = .ok (.iconst 0, 1) := by decide +kernel
theorem dA_plus_3 : decode prog_3_method_6_code 3 = .ok (.invokevirtual 9, 3) := by decide +kernel
theorem dA_plus_6 : decode prog_3_method_6_code 6 = .ok (.ifCond .ne 12, 3) := by decide +kernel
theorem dA_plus_9 : decode prog_3_method_6_code 9 = .ok (.aload_n 1, 1) := by decide +kernel
theorem dA_plus_10 : decode prog_3_method_6_code 10 = .ok (.iconst 0, 1) := by decide +kernel
theorem dA_plus_11 : decode prog_3_method_6_code 11 = .ok (.iconst 0, 1) := by decide +kernel
theorem dA_plus_12 : decode prog_3_method_6_code 12 = .ok (.invokevirtual 9, 3) := by decide +kernel
theorem dA_plus_15 : decode prog_3_method_6_code 15 = .ok (.ifCond .eq 24, 3) := by decide +kernel
theorem dA_plus_18 : decode prog_3_method_6_code 18 = .ok (.aload_n 2, 1) := by decide +kernel
theorem dA_plus_19 : decode prog_3_method_6_code 19 = .ok (.aload_n 0, 1) := by decide +kernel
theorem dA_plus_20 : decode prog_3_method_6_code 20 = .ok (.iconst 0, 1) := by decide +kernel
theorem dA_plus_21 : decode prog_3_method_6_code 21 = .ok (.iconst 0, 1) := by decide +kernel
theorem dA_plus_22 : decode prog_3_method_6_code 22 = .ok (.invokevirtual 9, 3) := by decide +kernel
theorem dA_plus_25 : decode prog_3_method_6_code 25 = .ok (.ifCond .eq 7, 3) := by decide +kernel
theorem dA_plus_28 : decode prog_3_method_6_code 28 = .ok (.aload_n 1, 1) := by decide +kernel
theorem dA_plus_29 : decode prog_3_method_6_code 29 = .ok (.goto 4, 3) := by decide +kernel
theorem dA_plus_32 : decode prog_3_method_6_code 32 = .ok (.aload_n 0, 1) := by decide +kernel
theorem dA_plus_33 : decode prog_3_method_6_code 33 = .ok (.iconst 0, 1) := by decide +kernel
theorem dA_plus_34 : decode prog_3_method_6_code 34 = .ok (.invokevirtual 57, 3) := by decide +kernel
theorem dA_plus_37 : decode prog_3_method_6_code 37 = .ok (.iconst 0, 1) := by decide +kernel
theorem dA_plus_38 : decode prog_3_method_6_code 38 = .ok (.ireturn, 1) := by decide +kernel
theorem dA_plus_39 : decode prog_3_method_6_code 39 = .ok (.aload_n 0, 1) := by decide +kernel
theorem dA_plus_40 : decode prog_3_method_6_code 40 = .ok (.iconst 0, 1) := by decide +kernel
theorem dA_plus_41 : decode prog_3_method_6_code 41 = .ok (.invokevirtual 61, 3) := by decide +kernel
theorem dA_plus_44 : decode prog_3_method_6_code 44 = .ok (.aload_n 1, 1) := by decide +kernel
theorem dA_plus_45 : decode prog_3_method_6_code 45 = .ok (.iconst 0, 1) := by decide +kernel
theorem dA_plus_46 : decode prog_3_method_6_code 46 = .ok (.invokevirtual 61, 3) := by decide +kernel
theorem dA_plus_49 : decode prog_3_method_6_code 49 = .ok (.if_icmp .eq 5, 3) := by decide +kernel
theorem dA_plus_52 : decode prog_3_method_6_code 52 = .ok (.iconst 1, 1) := by decide +kernel
theorem dA_plus_53 : decode prog_3_method_6_code 53 = .ok (.ireturn, 1) := by decide +kernel
theorem dA_plus_54 : decode prog_3_method_6_code 54 = .ok (.aload_n 0, 1) := by decide +kernel
theorem dA_plus_55 : decode prog_3_method_6_code 55 = .ok (.iconst 0, 1) := by decide +kernel
theorem dA_plus_56 : decode prog_3_method_6_code 56 = .ok (.invokevirtual 61, 3) := by decide +kernel
theorem dA_plus_59 : decode prog_3_method_6_code 59 = .ok (.tableswitch 45 4 6 #[25, 25, 33], 25) := by decide +kernel
theorem dA_plus_84 : decode prog_3_method_6_code 84 = .ok (.aload_n 0, 1) := by decide +kernel
theorem dA_plus_85 : decode prog_3_method_6_code 85 = .ok (.aload_n 1, 1) := by decide +kernel
theorem dA_plus_86 : decode prog_3_method_6_code 86 = .ok (.aload_n 2, 1) := by decide +kernel
theorem dA_plus_87 : decode prog_3_method_6_code 87 = .ok (.invokestatic 65, 3) := by decide +kernel
theorem dA_plus_90 : decode prog_3_method_6_code 90 = .ok (.iconst 0, 1) := by decide +kernel
theorem dA_plus_91 : decode prog_3_method_6_code 91 = .ok (.ireturn, 1) := by decide +kernel
theorem dA_plus_92 : decode prog_3_method_6_code 92 = .ok (.aload_n 0, 1) := by decide +kernel
theorem dA_plus_93 : decode prog_3_method_6_code 93 = .ok (.iconst 0, 1) := by decide +kernel
theorem dA_plus_94 : decode prog_3_method_6_code 94 = .ok (.aload_n 1, 1) := by decide +kernel
theorem dA_plus_95 : decode prog_3_method_6_code 95 = .ok (.iconst 0, 1) := by decide +kernel
theorem dA_plus_96 : decode prog_3_method_6_code 96 = .ok (.aload_n 2, 1) := by decide +kernel
theorem dA_plus_97 : decode prog_3_method_6_code 97 = .ok (.iconst 0, 1) := by decide +kernel
theorem dA_plus_98 : decode prog_3_method_6_code 98 = .ok (.iconst 0, 1) := by decide +kernel
theorem dA_plus_99 : decode prog_3_method_6_code 99 = .ok (.invokestatic 69, 3) := by decide +kernel
theorem dA_plus_102 : decode prog_3_method_6_code 102 = .ok (.iconst 0, 1) := by decide +kernel
theorem dA_plus_103 : decode prog_3_method_6_code 103 = .ok (.ireturn, 1) := by decide +kernel
theorem dA_plus_104 : decode prog_3_method_6_code 104 = .ok (.iconst 1, 1) := by decide +kernel
theorem dA_plus_105 : decode prog_3_method_6_code 105 = .ok (.ireturn, 1) := by decide +kernel
theorem dA_product_0 : decode prog_3_method_5_code 0 = .ok (.lload_n 0, 1) := by decide +kernel
theorem dA_product_1 : decode prog_3_method_5_code 1 = .ok (.lconst 0, 1) := by decide +kernel
theorem dA_product_2 : decode prog_3_method_5_code 2 = .ok (.lcmp, 1) := by decide +kernel
theorem dA_product_3 : decode prog_3_method_5_code 3 = .ok (.ifCond .eq 23, 3) := by decide +kernel
theorem dA_product_6 : decode prog_3_method_5_code 6 = .ok (.lload_n 2, 1) := by decide +kernel
theorem dA_product_7 : decode prog_3_method_5_code 7 = .ok (.invokestatic 45, 3) := by decide +kernel
theorem dA_product_10 : decode prog_3_method_5_code 10 = .ok (.ldc2_w 51, 3) := by decide +kernel
theorem dA_product_13 : decode prog_3_method_5_code 13 = .ok (.lload_n 0, 1) := by decide +kernel
theorem dA_product_14 : decode prog_3_method_5_code 14 = .ok (.invokestatic 45, 3) := by decide +kernel
theorem dA_product_17 : decode prog_3_method_5_code 17 = .ok (.ldiv, 1) := by decide +kernel
theorem dA_product_18 : decode prog_3_method_5_code 18 = .ok (.lcmp, 1) := by decide +kernel
theorem dA_product_19 : decode prog_3_method_5_code 19 = .ok (.ifCond .le 7, 3) := by decide +kernel
theorem dA_product_22 : decode prog_3_method_5_code 22 = .ok (.iconst 1, 1) := by decide +kernel
theorem dA_product_23 : decode prog_3_method_5_code 23 = .ok (.goto 4, 3) := by decide +kernel
theorem dA_product_26 : decode prog_3_method_5_code 26 = .ok (.iconst 0, 1) := by decide +kernel
theorem dA_product_27 : decode prog_3_method_5_code 27 = .ok (.istore 5, 2) := by decide +kernel
theorem dA_product_29 : decode prog_3_method_5_code 29 = .ok (.iload 5, 2) := by decide +kernel
theorem dA_product_31 : decode prog_3_method_5_code 31 = .ok (.ifCond .eq 7, 3) := by decide +kernel
theorem dA_product_34 : decode prog_3_method_5_code 34 = .ok (.iconst 2, 1) := by decide +kernel
theorem dA_product_35 : decode prog_3_method_5_code 35 = .ok (.goto 11, 3) := by decide +kernel
theorem dA_product_38 : decode prog_3_method_5_code 38 = .ok (.lload_n 0, 1) := by decide +kernel
theorem dA_product_39 : decode prog_3_method_5_code 39 = .ok (.lload_n 2, 1) := by decide +kernel
theorem dA_product_40 : decode prog_3_method_5_code 40 = .ok (.lmul, 1) := by decide +kernel
theorem dA_product_41 : decode prog_3_method_5_code 41 = .ok (.aload 4, 2) := by decide +kernel
theorem dA_product_43 : decode prog_3_method_5_code 43 = .ok (.invokestatic 38, 3) := by decide +kernel
theorem dA_product_46 : decode prog_3_method_5_code 46 = .ok (.ireturn, 1) := by decide +kernel
theorem dA_putBoth_0 : decode prog_3_method_8_code 0 = .ok (.aload 4, 2) := by decide +kernel
theorem dA_putBoth_2 : decode prog_3_method_8_code 2 = .ok (.invokevirtual 73, 3) := by decide +kernel
theorem dA_putBoth_5 : decode prog_3_method_8_code 5 = .ok (.istore 7, 2) := by decide +kernel
theorem dA_putBoth_7 : decode prog_3_method_8_code 7 = .ok (.iload_n 1, 1) := by decide +kernel
theorem dA_putBoth_8 : decode prog_3_method_8_code 8 = .ok (.iconst 1, 1) := by decide +kernel
theorem dA_putBoth_9 : decode prog_3_method_8_code 9 = .ok (.iadd, 1) := by decide +kernel
theorem dA_putBoth_10 : decode prog_3_method_8_code 10 = .ok (.istore 8, 2) := by decide +kernel
theorem dA_putBoth_12 : decode prog_3_method_8_code 12 = .ok (.iconst 0, 1) := by decide +kernel
theorem dA_putBoth_13 : decode prog_3_method_8_code 13 = .ok (.istore 9, 2) := by decide +kernel
theorem dA_putBoth_15 : decode prog_3_method_8_code 15 = .ok (.iload 9, 2) := by decide +kernel
theorem dA_putBoth_17 : decode prog_3_method_8_code 17 = .ok (.aload_n 0, 1) := by decide +kernel
theorem dA_putBoth_18 : decode prog_3_method_8_code 18 = .ok (.iload_n 1, 1) := by decide +kernel
theorem dA_putBoth_19 : decode prog_3_method_8_code 19 = .ok (.invokevirtual 80, 3) := by decide +kernel
theorem dA_putBoth_22 : decode prog_3_method_8_code 22 = .ok (.if_icmp .ge 121, 3) := by decide +kernel
theorem dA_putBoth_25 : decode prog_3_method_8_code 25 = .ok (.aload_n 0, 1) := by decide +kernel
theorem dA_putBoth_26 : decode prog_3_method_8_code 26 = .ok (.iload 8, 2) := by decide +kernel
theorem dA_putBoth_28 : decode prog_3_method_8_code 28 = .ok (.invokevirtual 87, 3) := by decide +kernel
theorem dA_putBoth_31 : decode prog_3_method_8_code 31 = .ok (.istore 10, 2) := by decide +kernel
theorem dA_putBoth_33 : decode prog_3_method_8_code 33 = .ok (.aload_n 2, 1) := by decide +kernel
theorem dA_putBoth_34 : decode prog_3_method_8_code 34 = .ok (.iload_n 3, 1) := by decide +kernel
theorem dA_putBoth_35 : decode prog_3_method_8_code 35 = .ok (.aload_n 0, 1) := by decide +kernel
theorem dA_putBoth_36 : decode prog_3_method_8_code 36 = .ok (.iload 8, 2) := by decide +kernel
theorem dA_putBoth_38 : decode prog_3_method_8_code 38 = .ok (.invokevirtual 90, 3) := by decide +kernel
theorem dA_putBoth_41 : decode prog_3_method_8_code 41 = .ok (.istore 11, 2) := by decide +kernel
theorem dA_putBoth_43 : decode prog_3_method_8_code 43 = .ok (.aload 4, 2) := by decide +kernel
theorem dA_putBoth_45 : decode prog_3_method_8_code 45 = .ok (.aload_n 0, 1) := by decide +kernel
theorem dA_putBoth_46 : decode prog_3_method_8_code 46 = .ok (.iload 8, 2) := by decide +kernel
theorem dA_putBoth_48 : decode prog_3_method_8_code 48 = .ok (.invokevirtual 57, 3) := by decide +kernel
theorem dA_putBoth_51 : decode prog_3_method_8_code 51 = .ok (.iload 11, 2) := by decide +kernel
theorem dA_putBoth_53 : decode prog_3_method_8_code 53 = .ok (.iconst (-1), 1) := by decide +kernel
theorem dA_putBoth_54 : decode prog_3_method_8_code 54 = .ok (.if_icmp .ne 14, 3) := by decide +kernel
theorem dA_putBoth_57 : decode prog_3_method_8_code 57 = .ok (.aload 4, 2) := by decide +kernel
theorem dA_putBoth_59 : decode prog_3_method_8_code 59 = .ok (.aload_n 0, 1) := by decide +kernel
theorem dA_putBoth_60 : decode prog_3_method_8_code 60 = .ok (.iload 10, 2) := by decide +kernel
theorem dA_putBoth_62 : decode prog_3_method_8_code 62 = .ok (.invokevirtual 57, 3) := by decide +kernel
theorem dA_putBoth_65 : decode prog_3_method_8_code 65 = .ok (.goto 64, 3) := by decide +kernel
theorem dA_putBoth_68 : decode prog_3_method_8_code 68 = .ok (.iload 5, 2) := by decide +kernel
theorem dA_putBoth_70 : decode prog_3_method_8_code 70 = .ok (.ifCond .eq 51, 3) := by decide +kernel
theorem dA_putBoth_73 : decode prog_3_method_8_code 73 = .ok (.iload 6, 2) := by decide +kernel
theorem dA_putBoth_75 : decode prog_3_method_8_code 75 = .ok (.bipush 60, 2) := by decide +kernel
theorem dA_putBoth_77 : decode prog_3_method_8_code 77 = .ok (.if_icmp .ge 44, 3) := by decide +kernel
theorem dA_putBoth_80 : decode prog_3_method_8_code 80 = .ok (.aload_n 0, 1) := by decide +kernel
theorem dA_putBoth_81 : decode prog_3_method_8_code 81 = .ok (.iload 10, 2) := by decide +kernel
theorem dA_putBoth_83 : decode prog_3_method_8_code 83 = .ok (.bipush 6, 2) := by decide +kernel
theorem dA_putBoth_85 : decode prog_3_method_8_code 85 = .ok (.invokevirtual 9, 3) := by decide +kernel
theorem dA_putBoth_88 : decode prog_3_method_8_code 88 = .ok (.ifCond .eq 33, 3) := by decide +kernel
theorem dA_putBoth_91 : decode prog_3_method_8_code 91 = .ok (.aload_n 2, 1) := by decide +kernel
theorem dA_putBoth_92 : decode prog_3_method_8_code 92 = .ok (.iload 11, 2) := by decide +kernel
theorem dA_putBoth_94 : decode prog_3_method_8_code 94 = .ok (.bipush 6, 2) := by decide +kernel
theorem dA_putBoth_96 : decode prog_3_method_8_code 96 = .ok (.invokevirtual 9, 3) := by decide +kernel
theorem dA_putBoth_99 : decode prog_3_method_8_code 99 = .ok (.ifCond .eq 22, 3) := by decide +kernel
theorem dA_putBoth_102 : decode prog_3_method_8_code 102 = .ok (.aload_n 0, 1) := by decide +kernel
theorem dA_putBoth_103 : decode prog_3_method_8_code 103 = .ok (.iload 10, 2) := by decide +kernel
theorem dA_putBoth_105 : decode prog_3_method_8_code 105 = .ok (.aload_n 2, 1) := by decide +kernel
theorem dA_putBoth_106 : decode prog_3_method_8_code 106 = .ok (.iload 11, 2) := by decide +kernel
theorem dA_putBoth_108 : decode prog_3_method_8_code 108 = .ok (.aload 4, 2) := by decide +kernel
theorem dA_putBoth_110 : decode prog_3_method_8_code 110 = .ok (.iconst 1, 1) := by decide +kernel
theorem dA_putBoth_111 : decode prog_3_method_8_code 111 = .ok (.iload 6, 2) := by decide +kernel
theorem dA_putBoth_113 : decode prog_3_method_8_code 113 = .ok (.iconst 1, 1) := by decide +kernel
theorem dA_putBoth_114 : decode prog_3_method_8_code 114 = .ok (.iadd, 1) := by decide +kernel
theorem dA_putBoth_115 : decode prog_3_method_8_code 115 = .ok (.invokestatic 69, 3) := by decide +kernel
theorem dA_putBoth_118 : decode prog_3_method_8_code 118 = .ok (.goto 11, 3) := by decide +kernel
theorem dA_putBoth_121 : decode prog_3_method_8_code 121 = .ok (.aload 4, 2) := by decide +kernel
theorem dA_putBoth_123 : decode prog_3_method_8_code 123 = .ok (.aload_n 2, 1) := by decide +kernel
theorem dA_putBoth_124 : decode prog_3_method_8_code 124 = .ok (.iload 11, 2) := by decide +kernel
theorem dA_putBoth_126 : decode prog_3_method_8_code 126 = .ok (.invokevirtual 57, 3) := by decide +kernel
theorem dA_putBoth_129 : decode prog_3_method_8_code 129 = .ok (.aload_n 0, 1) := by decide +kernel
theorem dA_putBoth_130 : decode prog_3_method_8_code 130 = .ok (.iload 10, 2) := by decide +kernel
theorem dA_putBoth_132 : decode prog_3_method_8_code 132 = .ok (.invokevirtual 87, 3) := by decide +kernel
theorem dA_putBoth_135 : decode prog_3_method_8_code 135 = .ok (.istore 8, 2) := by decide +kernel
theorem dA_putBoth_137 : decode prog_3_method_8_code 137 = .ok (.iinc 9 1, 3) := by decide +kernel
theorem dA_putBoth_140 : decode prog_3_method_8_code 140 = .ok (.goto (-125), 3) := by decide +kernel
theorem dA_putBoth_143 : decode prog_3_method_8_code 143 = .ok (.aload_n 0, 1) := by decide +kernel
theorem dA_putBoth_144 : decode prog_3_method_8_code 144 = .ok (.iload_n 1, 1) := by decide +kernel
theorem dA_putBoth_145 : decode prog_3_method_8_code 145 = .ok (.aload_n 2, 1) := by decide +kernel
theorem dA_putBoth_146 : decode prog_3_method_8_code 146 = .ok (.iload_n 3, 1) := by decide +kernel
theorem dA_putBoth_147 : decode prog_3_method_8_code 147 = .ok (.aload 4, 2) := by decide +kernel
theorem dA_putBoth_149 : decode prog_3_method_8_code 149 = .ok (.invokestatic 94, 3) := by decide +kernel
theorem dA_putBoth_152 : decode prog_3_method_8_code 152 = .ok (.istore 9, 2) := by decide +kernel
theorem dA_putBoth_154 : decode prog_3_method_8_code 154 = .ok (.aload 4, 2) := by decide +kernel
theorem dA_putBoth_156 : decode prog_3_method_8_code 156 = .ok (.iload 7, 2) := by decide +kernel
theorem dA_putBoth_158 : decode prog_3_method_8_code 158 = .ok (.bipush 6, 2) := by decide +kernel
theorem dA_putBoth_160 : decode prog_3_method_8_code 160 = .ok (.aload_n 0, 1) := by decide +kernel
theorem dA_putBoth_161 : decode prog_3_method_8_code 161 = .ok (.iload_n 1, 1) := by decide +kernel
theorem dA_putBoth_162 : decode prog_3_method_8_code 162 = .ok (.invokevirtual 80, 3) := by decide +kernel
theorem dA_putBoth_165 : decode prog_3_method_8_code 165 = .ok (.iload 9, 2) := by decide +kernel
theorem dA_putBoth_167 : decode prog_3_method_8_code 167 = .ok (.iadd, 1) := by decide +kernel
theorem dA_putBoth_168 : decode prog_3_method_8_code 168 = .ok (.invokevirtual 83, 3) := by decide +kernel
theorem dA_putBoth_171 : decode prog_3_method_8_code 171 = .ok (.return_, 1) := by decide +kernel
theorem dA_putCharacters_0 : decode prog_3_method_15_code 0 = .ok (.iconst 0, 1) := by decide +kernel
theorem dA_putCharacters_1 : decode prog_3_method_15_code 1 = .ok (.istore_n 2, 1) := by decide +kernel
theorem dA_putCharacters_2 : decode prog_3_method_15_code 2 = .ok (.iload_n 2, 1) := by decide +kernel
theorem dA_putCharacters_3 : decode prog_3_method_15_code 3 = .ok (.aload_n 0, 1) := by decide +kernel
theorem dA_putCharacters_4 : decode prog_3_method_15_code 4 = .ok (.iconst 0, 1) := by decide +kernel
theorem dA_putCharacters_5 : decode prog_3_method_15_code 5 = .ok (.invokevirtual 80, 3) := by decide +kernel
theorem dA_putCharacters_8 : decode prog_3_method_15_code 8 = .ok (.if_icmp .ge 19, 3) := by decide +kernel
theorem dA_putCharacters_11 : decode prog_3_method_15_code 11 = .ok (.aload_n 1, 1) := by decide +kernel
theorem dA_putCharacters_12 : decode prog_3_method_15_code 12 = .ok (.aload_n 0, 1) := by decide +kernel
theorem dA_putCharacters_13 : decode prog_3_method_15_code 13 = .ok (.iconst 0, 1) := by decide +kernel
theorem dA_putCharacters_14 : decode prog_3_method_15_code 14 = .ok (.iload_n 2, 1) := by decide +kernel
theorem dA_putCharacters_15 : decode prog_3_method_15_code 15 = .ok (.iload_n 2, 1) := by decide +kernel
theorem dA_putCharacters_16 : decode prog_3_method_15_code 16 = .ok (.iconst 1, 1) := by decide +kernel
theorem dA_putCharacters_17 : decode prog_3_method_15_code 17 = .ok (.iadd, 1) := by decide +kernel
theorem dA_putCharacters_18 : decode prog_3_method_15_code 18 = .ok (.invokevirtual 129, 3) := by decide +kernel
theorem dA_putCharacters_21 : decode prog_3_method_15_code 21 = .ok (.iinc 2 1, 3) := by decide +kernel
theorem dA_putCharacters_24 : decode prog_3_method_15_code 24 = .ok (.goto (-22), 3) := by decide +kernel
theorem dA_putCharacters_27 : decode prog_3_method_15_code 27 = .ok (.aload_n 0, 1) := by decide +kernel
theorem dA_putCharacters_28 : decode prog_3_method_15_code 28 = .ok (.iconst 0, 1) := by decide +kernel
theorem dA_putCharacters_29 : decode prog_3_method_15_code 29 = .ok (.invokevirtual 80, 3) := by decide +kernel
theorem dA_putCharacters_32 : decode prog_3_method_15_code 32 = .ok (.ireturn, 1) := by decide +kernel
theorem dA_putNewNames_0 : decode prog_3_method_9_code 0 = .ok (.iconst 0, 1) := by decide +kernel
theorem dA_putNewNames_1 : decode prog_3_method_9_code 1 = .ok (.istore 5, 2) := by decide +kernel
theorem dA_putNewNames_3 : decode prog_3_method_9_code 3 = .ok (.iload_n 3, 1) := by decide +kernel
theorem dA_putNewNames_4 : decode prog_3_method_9_code 4 = .ok (.iconst 1, 1) := by decide +kernel
theorem dA_putNewNames_5 : decode prog_3_method_9_code 5 = .ok (.iadd, 1) := by decide +kernel
theorem dA_putNewNames_6 : decode prog_3_method_9_code 6 = .ok (.istore 6, 2) := by decide +kernel
theorem dA_putNewNames_8 : decode prog_3_method_9_code 8 = .ok (.iconst 0, 1) := by decide +kernel
theorem dA_putNewNames_9 : decode prog_3_method_9_code 9 = .ok (.istore 7, 2) := by decide +kernel
theorem dA_putNewNames_11 : decode prog_3_method_9_code 11 = .ok (.iload 7, 2) := by decide +kernel
theorem dA_putNewNames_13 : decode prog_3_method_9_code 13 = .ok (.aload_n 2, 1) := by decide +kernel
theorem dA_putNewNames_14 : decode prog_3_method_9_code 14 = .ok (.iload_n 3, 1) := by decide +kernel
theorem dA_putNewNames_15 : decode prog_3_method_9_code 15 = .ok (.invokevirtual 80, 3) := by decide +kernel
theorem dA_putNewNames_18 : decode prog_3_method_9_code 18 = .ok (.if_icmp .ge 56, 3) := by decide +kernel
theorem dA_putNewNames_21 : decode prog_3_method_9_code 21 = .ok (.aload_n 2, 1) := by decide +kernel
theorem dA_putNewNames_22 : decode prog_3_method_9_code 22 = .ok (.iload 6, 2) := by decide +kernel
theorem dA_putNewNames_24 : decode prog_3_method_9_code 24 = .ok (.invokevirtual 87, 3) := by decide +kernel
theorem dA_putNewNames_27 : decode prog_3_method_9_code 27 = .ok (.istore 8, 2) := by decide +kernel
theorem dA_putNewNames_29 : decode prog_3_method_9_code 29 = .ok (.aload_n 0, 1) := by decide +kernel
theorem dA_putNewNames_30 : decode prog_3_method_9_code 30 = .ok (.iload_n 1, 1) := by decide +kernel
theorem dA_putNewNames_31 : decode prog_3_method_9_code 31 = .ok (.aload_n 2, 1) := by decide +kernel
theorem dA_putNewNames_32 : decode prog_3_method_9_code 32 = .ok (.iload 6, 2) := by decide +kernel
theorem dA_putNewNames_34 : decode prog_3_method_9_code 34 = .ok (.invokevirtual 90, 3) := by decide +kernel
theorem dA_putNewNames_37 : decode prog_3_method_9_code 37 = .ok (.iconst (-1), 1) := by decide +kernel
theorem dA_putNewNames_38 : decode prog_3_method_9_code 38 = .ok (.if_icmp .ne 22, 3) := by decide +kernel
theorem dA_putNewNames_41 : decode prog_3_method_9_code 41 = .ok (.aload 4, 2) := by decide +kernel
theorem dA_putNewNames_43 : decode prog_3_method_9_code 43 = .ok (.aload_n 2, 1) := by decide +kernel
theorem dA_putNewNames_44 : decode prog_3_method_9_code 44 = .ok (.iload 6, 2) := by decide +kernel
theorem dA_putNewNames_46 : decode prog_3_method_9_code 46 = .ok (.invokevirtual 57, 3) := by decide +kernel
theorem dA_putNewNames_49 : decode prog_3_method_9_code 49 = .ok (.aload 4, 2) := by decide +kernel
theorem dA_putNewNames_51 : decode prog_3_method_9_code 51 = .ok (.aload_n 2, 1) := by decide +kernel
theorem dA_putNewNames_52 : decode prog_3_method_9_code 52 = .ok (.iload 8, 2) := by decide +kernel
theorem dA_putNewNames_54 : decode prog_3_method_9_code 54 = .ok (.invokevirtual 57, 3) := by decide +kernel
theorem dA_putNewNames_57 : decode prog_3_method_9_code 57 = .ok (.iinc 5 1, 3) := by decide +kernel
theorem dA_putNewNames_60 : decode prog_3_method_9_code 60 = .ok (.aload_n 2, 1) := by decide +kernel
theorem dA_putNewNames_61 : decode prog_3_method_9_code 61 = .ok (.iload 8, 2) := by decide +kernel
theorem dA_putNewNames_63 : decode prog_3_method_9_code 63 = .ok (.invokevirtual 87, 3) := by decide +kernel
theorem dA_putNewNames_66 : decode prog_3_method_9_code 66 = .ok (.istore 6, 2) := by decide +kernel
theorem dA_putNewNames_68 : decode prog_3_method_9_code 68 = .ok (.iinc 7 1, 3) := by decide +kernel
theorem dA_putNewNames_71 : decode prog_3_method_9_code 71 = .ok (.goto (-60), 3) := by decide +kernel
theorem dA_putNewNames_74 : decode prog_3_method_9_code 74 = .ok (.iload 5, 2) := by decide +kernel
theorem dA_putNewNames_76 : decode prog_3_method_9_code 76 = .ok (.ireturn, 1) := by decide +kernel
theorem dA_putOneBehindOther_0 : decode prog_3_method_7_code 0 = .ok (.aload_n 2, 1) := by decide +kernel
theorem dA_putOneBehindOther_1 : decode prog_3_method_7_code 1 = .ok (.invokevirtual 73, 3) := by decide +kernel
theorem dA_putOneBehindOther_4 : decode prog_3_method_7_code 4 = .ok (.istore_n 3, 1) := by decide +kernel
theorem dA_putOneBehindOther_5 : decode prog_3_method_7_code 5 = .ok (.aload_n 2, 1) := by decide +kernel
theorem dA_putOneBehindOther_6 : decode prog_3_method_7_code 6 = .ok (.aload_n 0, 1) := by decide +kernel
theorem dA_putOneBehindOther_7 : decode prog_3_method_7_code 7 = .ok (.iconst 0, 1) := by decide +kernel
theorem dA_putOneBehindOther_8 : decode prog_3_method_7_code 8 = .ok (.invokevirtual 77, 3) := by decide +kernel
theorem dA_putOneBehindOther_11 : decode prog_3_method_7_code 11 = .ok (.aload_n 2, 1) := by decide +kernel
theorem dA_putOneBehindOther_12 : decode prog_3_method_7_code 12 = .ok (.aload_n 1, 1) := by decide +kernel
theorem dA_putOneBehindOther_13 : decode prog_3_method_7_code 13 = .ok (.iconst 0, 1) := by decide +kernel
theorem dA_putOneBehindOther_14 : decode prog_3_method_7_code 14 = .ok (.invokevirtual 77, 3) := by decide +kernel
theorem dA_putOneBehindOther_17 : decode prog_3_method_7_code 17 = .ok (.aload_n 2, 1) := by decide +kernel
theorem dA_putOneBehindOther_18 : decode prog_3_method_7_code 18 = .ok (.iload_n 3, 1) := by decide +kernel
theorem dA_putOneBehindOther_19 : decode prog_3_method_7_code 19 = .ok (.aload_n 0, 1) := by decide +kernel
theorem dA_putOneBehindOther_20 : decode prog_3_method_7_code 20 = .ok (.iconst 0, 1) := by decide +kernel
theorem dA_putOneBehindOther_21 : decode prog_3_method_7_code 21 = .ok (.invokevirtual 61, 3) := by decide +kernel
theorem dA_putOneBehindOther_24 : decode prog_3_method_7_code 24 = .ok (.aload_n 0, 1) := by decide +kernel
theorem dA_putOneBehindOther_25 : decode prog_3_method_7_code 25 = .ok (.iconst 0, 1) := by decide +kernel
theorem dA_putOneBehindOther_26 : decode prog_3_method_7_code 26 = .ok (.invokevirtual 80, 3) := by decide +kernel
theorem dA_putOneBehindOther_29 : decode prog_3_method_7_code 29 = .ok (.aload_n 1, 1) := by decide +kernel
theorem dA_putOneBehindOther_30 : decode prog_3_method_7_code 30 = .ok (.iconst 0, 1) := by decide +kernel
theorem dA_putOneBehindOther_31 : decode prog_3_method_7_code 31 = .ok (.invokevirtual 80, 3) := by decide +kernel
theorem dA_putOneBehindOther_34 : decode prog_3_method_7_code 34 = .ok (.iadd, 1) := by decide +kernel
theorem dA_putOneBehindOther_35 : decode prog_3_method_7_code 35 = .ok (.invokevirtual 83, 3) := by decide +kernel
theorem dA_putOneBehindOther_38 : decode prog_3_method_7_code 38 = .ok (.return_, 1) := by decide +kernel
theorem dA_putPieces_0 : decode prog_3_method_16_code 0 = .ok (.aload_n 0, 1) := by decide +kernel
theorem dA_putPieces_1 : decode prog_3_method_16_code 1 = .ok (.iconst 0, 1) := by decide +kernel
theorem dA_putPieces_2 : decode prog_3_method_16_code 2 = .ok (.invokevirtual 80, 3) := by decide +kernel
theorem dA_putPieces_5 : decode prog_3_method_16_code 5 = .ok (.ifCond .ne 5, 3) := by decide +kernel
theorem dA_putPieces_8 : decode prog_3_method_16_code 8 = .ok (.iconst 0, 1) := by decide +kernel
theorem dA_putPieces_9 : decode prog_3_method_16_code 9 = .ok (.ireturn, 1) := by decide +kernel
theorem dA_putPieces_10 : decode prog_3_method_16_code 10 = .ok (.iconst 1, 1) := by decide +kernel
theorem dA_putPieces_11 : decode prog_3_method_16_code 11 = .ok (.istore_n 3, 1) := by decide +kernel
theorem dA_putPieces_12 : decode prog_3_method_16_code 12 = .ok (.iconst 0, 1) := by decide +kernel
theorem dA_putPieces_13 : decode prog_3_method_16_code 13 = .ok (.istore 4, 2) := by decide +kernel
theorem dA_putPieces_15 : decode prog_3_method_16_code 15 = .ok (.iconst 0, 1) := by decide +kernel
theorem dA_putPieces_16 : decode prog_3_method_16_code 16 = .ok (.istore 5, 2) := by decide +kernel
theorem dA_putPieces_18 : decode prog_3_method_16_code 18 = .ok (.iload 5, 2) := by decide +kernel
theorem dA_putPieces_20 : decode prog_3_method_16_code 20 = .ok (.aload_n 0, 1) := by decide +kernel
theorem dA_putPieces_21 : decode prog_3_method_16_code 21 = .ok (.iconst 0, 1) := by decide +kernel
theorem dA_putPieces_22 : decode prog_3_method_16_code 22 = .ok (.invokevirtual 80, 3) := by decide +kernel
theorem dA_putPieces_25 : decode prog_3_method_16_code 25 = .ok (.if_icmp .ge 51, 3) := by decide +kernel
theorem dA_putPieces_28 : decode prog_3_method_16_code 28 = .ok (.iload 5, 2) := by decide +kernel
theorem dA_putPieces_30 : decode prog_3_method_16_code 30 = .ok (.iload 4, 2) := by decide +kernel
theorem dA_putPieces_32 : decode prog_3_method_16_code 32 = .ok (.if_icmp .lt 38, 3) := by decide +kernel
theorem dA_putPieces_35 : decode prog_3_method_16_code 35 = .ok (.aload_n 0, 1) := by decide +kernel
theorem dA_putPieces_36 : decode prog_3_method_16_code 36 = .ok (.iconst 0, 1) := by decide +kernel
theorem dA_putPieces_37 : decode prog_3_method_16_code 37 = .ok (.iload 5, 2) := by decide +kernel
theorem dA_putPieces_39 : decode prog_3_method_16_code 39 = .ok (.aload_n 1, 1) := by decide +kernel
theorem dA_putPieces_40 : decode prog_3_method_16_code 40 = .ok (.iconst 0, 1) := by decide +kernel
theorem dA_putPieces_41 : decode prog_3_method_16_code 41 = .ok (.invokevirtual 133, 3) := by decide +kernel
theorem dA_putPieces_44 : decode prog_3_method_16_code 44 = .ok (.ifCond .eq 26, 3) := by decide +kernel
theorem dA_putPieces_47 : decode prog_3_method_16_code 47 = .ok (.aload_n 2, 1) := by decide +kernel
theorem dA_putPieces_48 : decode prog_3_method_16_code 48 = .ok (.aload_n 0, 1) := by decide +kernel
theorem dA_putPieces_49 : decode prog_3_method_16_code 49 = .ok (.iconst 0, 1) := by decide +kernel
theorem dA_putPieces_50 : decode prog_3_method_16_code 50 = .ok (.iload 4, 2) := by decide +kernel
theorem dA_putPieces_52 : decode prog_3_method_16_code 52 = .ok (.iload 5, 2) := by decide +kernel
theorem dA_putPieces_54 : decode prog_3_method_16_code 54 = .ok (.invokevirtual 129, 3) := by decide +kernel
theorem dA_putPieces_57 : decode prog_3_method_16_code 57 = .ok (.iload 5, 2) := by decide +kernel
theorem dA_putPieces_59 : decode prog_3_method_16_code 59 = .ok (.aload_n 1, 1) := by decide +kernel
theorem dA_putPieces_60 : decode prog_3_method_16_code 60 = .ok (.iconst 0, 1) := by decide +kernel
theorem dA_putPieces_61 : decode prog_3_method_16_code 61 = .ok (.invokevirtual 80, 3) := by decide +kernel
theorem dA_putPieces_64 : decode prog_3_method_16_code 64 = .ok (.iadd, 1) := by decide +kernel
theorem dA_putPieces_65 : decode prog_3_method_16_code 65 = .ok (.istore 4, 2) := by decide +kernel
theorem dA_putPieces_67 : decode prog_3_method_16_code 67 = .ok (.iinc 3 1, 3) := by decide +kernel
theorem dA_putPieces_70 : decode prog_3_method_16_code 70 = .ok (.iinc 5 1, 3) := by decide +kernel
theorem dA_putPieces_73 : decode prog_3_method_16_code 73 = .ok (.goto (-55), 3) := by decide +kernel
theorem dA_putPieces_76 : decode prog_3_method_16_code 76 = .ok (.aload_n 2, 1) := by decide +kernel
theorem dA_putPieces_77 : decode prog_3_method_16_code 77 = .ok (.aload_n 0, 1) := by decide +kernel
theorem dA_putPieces_78 : decode prog_3_method_16_code 78 = .ok (.iconst 0, 1) := by decide +kernel
theorem dA_putPieces_79 : decode prog_3_method_16_code 79 = .ok (.iload 4, 2) := by decide +kernel
theorem dA_putPieces_81 : decode prog_3_method_16_code 81 = .ok (.aload_n 0, 1) := by decide +kernel
theorem dA_putPieces_82 : decode prog_3_method_16_code 82 = .ok (.iconst 0, 1) := by decide +kernel
theorem dA_putPieces_83 : decode prog_3_method_16_code 83 = .ok (.invokevirtual 80, 3) := by decide +kernel
theorem dA_putPieces_86 : decode prog_3_method_16_code 86 = .ok (.invokevirtual 129, 3) := by decide +kernel
theorem dA_putPieces_89 : decode prog_3_method_16_code 89 = .ok (.iload_n 3, 1) := by decide +kernel
theorem dA_putPieces_90 : decode prog_3_method_16_code 90 = .ok (.ireturn, 1) := by decide +kernel
theorem dA_putRepeated_0 : decode prog_3_method_13_code 0 = .ok (.lload_n 1, 1) := by decide +kernel
theorem dA_putRepeated_1 : decode prog_3_method_13_code 1 = .ok (.lconst 1, 1) := by decide +kernel
theorem dA_putRepeated_2 : decode prog_3_method_13_code 2 = .ok (.lcmp, 1) := by decide +kernel
theorem dA_putRepeated_3 : decode prog_3_method_13_code 3 = .ok (.ifCond .ge 8, 3) := by decide +kernel
theorem dA_putRepeated_6 : decode prog_3_method_13_code 6 = .ok (.aload_n 3, 1) := by decide +kernel
theorem dA_putRepeated_7 : decode prog_3_method_13_code 7 = .ok (.invokevirtual 112, 3) := by decide +kernel
theorem dA_putRepeated_10 : decode prog_3_method_13_code 10 = .ok (.return_, 1) := by decide +kernel
theorem dA_putRepeated_11 : decode prog_3_method_13_code 11 = .ok (.aload_n 3, 1) := by decide +kernel
theorem dA_putRepeated_12 : decode prog_3_method_13_code 12 = .ok (.invokevirtual 73, 3) := by decide +kernel
theorem dA_putRepeated_15 : decode prog_3_method_13_code 15 = .ok (.istore 4, 2) := by decide +kernel
theorem dA_putRepeated_17 : decode prog_3_method_13_code 17 = .ok (.iconst 0, 1) := by decide +kernel
theorem dA_putRepeated_18 : decode prog_3_method_13_code 18 = .ok (.istore 5, 2) := by decide +kernel
theorem dA_putRepeated_20 : decode prog_3_method_13_code 20 = .ok (.iload 5, 2) := by decide +kernel
theorem dA_putRepeated_22 : decode prog_3_method_13_code 22 = .ok (.sipush 4096, 3) := by decide +kernel
theorem dA_putRepeated_25 : decode prog_3_method_13_code 25 = .ok (.if_icmp .ge 30, 3) := by decide +kernel
theorem dA_putRepeated_28 : decode prog_3_method_13_code 28 = .ok (.iload 5, 2) := by decide +kernel
theorem dA_putRepeated_30 : decode prog_3_method_13_code 30 = .ok (.i2l, 1) := by decide +kernel
theorem dA_putRepeated_31 : decode prog_3_method_13_code 31 = .ok (.lload_n 1, 1) := by decide +kernel
theorem dA_putRepeated_32 : decode prog_3_method_13_code 32 = .ok (.lcmp, 1) := by decide +kernel
theorem dA_putRepeated_33 : decode prog_3_method_13_code 33 = .ok (.ifCond .ge 22, 3) := by decide +kernel
theorem dA_putRepeated_36 : decode prog_3_method_13_code 36 = .ok (.aload_n 3, 1) := by decide +kernel
theorem dA_putRepeated_37 : decode prog_3_method_13_code 37 = .ok (.invokevirtual 115, 3) := by decide +kernel
theorem dA_putRepeated_40 : decode prog_3_method_13_code 40 = .ok (.ifCond .ne 15, 3) := by decide +kernel
theorem dA_putRepeated_43 : decode prog_3_method_13_code 43 = .ok (.aload_n 3, 1) := by decide +kernel
theorem dA_putRepeated_44 : decode prog_3_method_13_code 44 = .ok (.aload_n 0, 1) := by decide +kernel
theorem dA_putRepeated_45 : decode prog_3_method_13_code 45 = .ok (.iconst 0, 1) := by decide +kernel
theorem dA_putRepeated_46 : decode prog_3_method_13_code 46 = .ok (.invokevirtual 77, 3) := by decide +kernel
theorem dA_putRepeated_49 : decode prog_3_method_13_code 49 = .ok (.iinc 5 1, 3) := by decide +kernel
theorem dA_putRepeated_52 : decode prog_3_method_13_code 52 = .ok (.goto (-32), 3) := by decide +kernel
theorem dA_putRepeated_55 : decode prog_3_method_13_code 55 = .ok (.aload_n 3, 1) := by decide +kernel
theorem dA_putRepeated_56 : decode prog_3_method_13_code 56 = .ok (.iload 4, 2) := by decide +kernel
theorem dA_putRepeated_58 : decode prog_3_method_13_code 58 = .ok (.iconst 4, 1) := by decide +kernel
theorem dA_putRepeated_59 : decode prog_3_method_13_code 59 = .ok (.aload_n 3, 1) := by decide +kernel
theorem dA_putRepeated_60 : decode prog_3_method_13_code 60 = .ok (.invokevirtual 119, 3) := by decide +kernel
theorem dA_putRepeated_63 : decode prog_3_method_13_code 63 = .ok (.iload 4, 2) := by decide +kernel
theorem dA_putRepeated_65 : decode prog_3_method_13_code 65 = .ok (.isub, 1) := by decide +kernel
theorem dA_putRepeated_66 : decode prog_3_method_13_code 66 = .ok (.iconst 1, 1) := by decide +kernel
theorem dA_putRepeated_67 : decode prog_3_method_13_code 67 = .ok (.isub, 1) := by decide +kernel
theorem dA_putRepeated_68 : decode prog_3_method_13_code 68 = .ok (.invokevirtual 83, 3) := by decide +kernel
theorem dA_putRepeated_71 : decode prog_3_method_13_code 71 = .ok (.return_, 1) := by decide +kernel
theorem dA_times_0 : decode prog_3_method_12_code 0 = .ok (.aload_n 0, 1) := by decide +kernel
theorem dA_times_1 : decode prog_3_method_12_code 1 = .ok (.iconst 0, 1) := by decide +kernel
theorem dA_times_2 : decode prog_3_method_12_code 2 = .ok (.bipush 6, 2) := by decide +kernel
theorem dA_times_4 : decode prog_3_method_12_code 4 = .ok (.invokevirtual 9, 3) := by decide +kernel
theorem dA_times_7 : decode prog_3_method_12_code 7 = .ok (.ifCond .eq 25, 3) := by decide +kernel
theorem dA_times_10 : decode prog_3_method_12_code 10 = .ok (.aload_n 1, 1) := by decide +kernel
theorem dA_times_11 : decode prog_3_method_12_code 11 = .ok (.iconst 0, 1) := by decide +kernel
theorem dA_times_12 : decode prog_3_method_12_code 12 = .ok (.bipush 6, 2) := by decide +kernel
theorem dA_times_14 : decode prog_3_method_12_code 14 = .ok (.invokevirtual 9, 3) := by decide +kernel
theorem dA_times_17 : decode prog_3_method_12_code 17 = .ok (.ifCond .eq 15, 3) := by decide +kernel
theorem dA_times_20 : decode prog_3_method_12_code 20 = .ok (.aload_n 0, 1) := by decide +kernel
theorem dA_times_21 : decode prog_3_method_12_code 21 = .ok (.iconst 0, 1) := by decide +kernel
theorem dA_times_22 : decode prog_3_method_12_code 22 = .ok (.aload_n 1, 1) := by decide +kernel
theorem dA_times_23 : decode prog_3_method_12_code 23 = .ok (.iconst 0, 1) := by decide +kernel
theorem dA_times_24 : decode prog_3_method_12_code 24 = .ok (.aload_n 2, 1) := by decide +kernel
theorem dA_times_25 : decode prog_3_method_12_code 25 = .ok (.iconst 1, 1) := by decide +kernel
theorem dA_times_26 : decode prog_3_method_12_code 26 = .ok (.iconst 0, 1) := by decide +kernel
theorem dA_times_27 : decode prog_3_method_12_code 27 = .ok (.invokestatic 69, 3) := by decide +kernel
theorem dA_times_30 : decode prog_3_method_12_code 30 = .ok (.iconst 0, 1) := by decide +kernel
theorem dA_times_31 : decode prog_3_method_12_code 31 = .ok (.ireturn, 1) := by decide +kernel
theorem dA_times_32 : decode prog_3_method_12_code 32 = .ok (.aload_n 0, 1) := by decide +kernel
theorem dA_times_33 : decode prog_3_method_12_code 33 = .ok (.iconst 0, 1) := by decide +kernel
theorem dA_times_34 : decode prog_3_method_12_code 34 = .ok (.iconst 4, 1) := by decide +kernel
theorem dA_times_35 : decode prog_3_method_12_code 35 = .ok (.invokevirtual 9, 3) := by decide +kernel
theorem dA_times_38 : decode prog_3_method_12_code 38 = .ok (.ifCond .eq 24, 3) := by decide +kernel
theorem dA_times_41 : decode prog_3_method_12_code 41 = .ok (.aload_n 1, 1) := by decide +kernel
theorem dA_times_42 : decode prog_3_method_12_code 42 = .ok (.iconst 0, 1) := by decide +kernel
theorem dA_times_43 : decode prog_3_method_12_code 43 = .ok (.iconst 3, 1) := by decide +kernel
theorem dA_times_44 : decode prog_3_method_12_code 44 = .ok (.invokevirtual 9, 3) := by decide +kernel
theorem dA_times_47 : decode prog_3_method_12_code 47 = .ok (.ifCond .eq 15, 3) := by decide +kernel
theorem dA_times_50 : decode prog_3_method_12_code 50 = .ok (.aload_n 0, 1) := by decide +kernel
theorem dA_times_51 : decode prog_3_method_12_code 51 = .ok (.aload_n 1, 1) := by decide +kernel
theorem dA_times_52 : decode prog_3_method_12_code 52 = .ok (.iconst 0, 1) := by decide +kernel
theorem dA_times_53 : decode prog_3_method_12_code 53 = .ok (.invokevirtual 15, 3) := by decide +kernel
theorem dA_times_56 : decode prog_3_method_12_code 56 = .ok (.aload_n 2, 1) := by decide +kernel
theorem dA_times_57 : decode prog_3_method_12_code 57 = .ok (.invokestatic 108, 3) := by decide +kernel
theorem dA_times_60 : decode prog_3_method_12_code 60 = .ok (.iconst 0, 1) := by decide +kernel
theorem dA_times_61 : decode prog_3_method_12_code 61 = .ok (.ireturn, 1) := by decide +kernel
theorem dA_times_62 : decode prog_3_method_12_code 62 = .ok (.aload_n 0, 1) := by decide +kernel
theorem dA_times_63 : decode prog_3_method_12_code 63 = .ok (.iconst 0, 1) := by decide +kernel
theorem dA_times_64 : decode prog_3_method_12_code 64 = .ok (.iconst 3, 1) := by decide +kernel
theorem dA_times_65 : decode prog_3_method_12_code 65 = .ok (.invokevirtual 9, 3) := by decide +kernel
theorem dA_times_68 : decode prog_3_method_12_code 68 = .ok (.ifCond .eq 24, 3) := by decide +kernel
theorem dA_times_71 : decode prog_3_method_12_code 71 = .ok (.aload_n 1, 1) := by decide +kernel
theorem dA_times_72 : decode prog_3_method_12_code 72 = .ok (.iconst 0, 1) := by decide +kernel
theorem dA_times_73 : decode prog_3_method_12_code 73 = .ok (.iconst 4, 1) := by decide +kernel
theorem dA_times_74 : decode prog_3_method_12_code 74 = .ok (.invokevirtual 9, 3) := by decide +kernel
theorem dA_times_77 : decode prog_3_method_12_code 77 = .ok (.ifCond .eq 15, 3) := by decide +kernel
theorem dA_times_80 : decode prog_3_method_12_code 80 = .ok (.aload_n 1, 1) := by decide +kernel
theorem dA_times_81 : decode prog_3_method_12_code 81 = .ok (.aload_n 0, 1) := by decide +kernel
theorem dA_times_82 : decode prog_3_method_12_code 82 = .ok (.iconst 0, 1) := by decide +kernel
theorem dA_times_83 : decode prog_3_method_12_code 83 = .ok (.invokevirtual 15, 3) := by decide +kernel
theorem dA_times_86 : decode prog_3_method_12_code 86 = .ok (.aload_n 2, 1) := by decide +kernel
theorem dA_times_87 : decode prog_3_method_12_code 87 = .ok (.invokestatic 108, 3) := by decide +kernel
theorem dA_times_90 : decode prog_3_method_12_code 90 = .ok (.iconst 0, 1) := by decide +kernel
theorem dA_times_91 : decode prog_3_method_12_code 91 = .ok (.ireturn, 1) := by decide +kernel
theorem dA_times_92 : decode prog_3_method_12_code 92 = .ok (.iconst 1, 1) := by decide +kernel
theorem dA_times_93 : decode prog_3_method_12_code 93 = .ok (.ireturn, 1) := by decide +kernel
theorem dD_array_0 : decode prog_7_method_21_code 0 = .ok (.aload_n 0, 1) := by decide +kernel
theorem dD_array_1 : decode prog_7_method_21_code 1 = .ok (.getfield 22, 3) := by decide +kernel
theorem dD_array_4 : decode prog_7_method_21_code 4 = .ok (.invokevirtual 108, 3) := by decide +kernel
theorem dD_array_7 : decode prog_7_method_21_code 7 = .ok (.istore_n 2, 1) := by decide +kernel
theorem dD_array_8 : decode prog_7_method_21_code 8 = .ok (.iconst 0, 1) := by decide +kernel
theorem dD_array_9 : decode prog_7_method_21_code 9 = .ok (.istore_n 3, 1) := by decide +kernel
theorem dD_array_10 : decode prog_7_method_21_code 10 = .ok (.aload_n 0, 1) := by decide +kernel
theorem dD_array_11 : decode prog_7_method_21_code 11 = .ok (.dup, 1) := by decide +kernel
theorem dD_array_12 : decode prog_7_method_21_code 12 = .ok (.getfield 9, 3) := by decide +kernel
theorem dD_array_15 : decode prog_7_method_21_code 15 = .ok (.iconst 1, 1) := by decide +kernel
theorem dD_array_16 : decode prog_7_method_21_code 16 = .ok (.iadd, 1) := by decide +kernel
theorem dD_array_17 : decode prog_7_method_21_code 17 = .ok (.putfield 9, 3) := by decide +kernel
theorem dD_array_20 : decode prog_7_method_21_code 20 = .ok (.aload_n 0, 1) := by decide +kernel
theorem dD_array_21 : decode prog_7_method_21_code 21 = .ok (.invokevirtual 30, 3) := by decide +kernel
theorem dD_array_24 : decode prog_7_method_21_code 24 = .ok (.aload_n 0, 1) := by decide +kernel
theorem dD_array_25 : decode prog_7_method_21_code 25 = .ok (.getfield 18, 3) := by decide +kernel
theorem dD_array_28 : decode prog_7_method_21_code 28 = .ok (.aload_n 0, 1) := by decide +kernel
theorem dD_array_29 : decode prog_7_method_21_code 29 = .ok (.getfield 9, 3) := by decide +kernel
theorem dD_array_32 : decode prog_7_method_21_code 32 = .ok (.invokevirtual 49, 3) := by decide +kernel
theorem dD_array_35 : decode prog_7_method_21_code 35 = .ok (.bipush 93, 2) := by decide +kernel
theorem dD_array_37 : decode prog_7_method_21_code 37 = .ok (.if_icmp .eq 7, 3) := by decide +kernel
theorem dD_array_40 : decode prog_7_method_21_code 40 = .ok (.iconst 1, 1) := by decide +kernel
theorem dD_array_41 : decode prog_7_method_21_code 41 = .ok (.goto 4, 3) := by decide +kernel
theorem dD_array_44 : decode prog_7_method_21_code 44 = .ok (.iconst 0, 1) := by decide +kernel
theorem dD_array_45 : decode prog_7_method_21_code 45 = .ok (.istore 4, 2) := by decide +kernel
theorem dD_array_47 : decode prog_7_method_21_code 47 = .ok (.iload 4, 2) := by decide +kernel
theorem dD_array_49 : decode prog_7_method_21_code 49 = .ok (.ifCond .eq 34, 3) := by decide +kernel
theorem dD_array_52 : decode prog_7_method_21_code 52 = .ok (.iload_n 3, 1) := by decide +kernel
theorem dD_array_53 : decode prog_7_method_21_code 53 = .ok (.sipush 4096, 3) := by decide +kernel
theorem dD_array_56 : decode prog_7_method_21_code 56 = .ok (.if_icmp .ge 27, 3) := by decide +kernel
theorem dD_array_59 : decode prog_7_method_21_code 59 = .ok (.aload_n 0, 1) := by decide +kernel
theorem dD_array_60 : decode prog_7_method_21_code 60 = .ok (.iload_n 1, 1) := by decide +kernel
theorem dD_array_61 : decode prog_7_method_21_code 61 = .ok (.iconst 1, 1) := by decide +kernel
theorem dD_array_62 : decode prog_7_method_21_code 62 = .ok (.iadd, 1) := by decide +kernel
theorem dD_array_63 : decode prog_7_method_21_code 63 = .ok (.invokevirtual 26, 3) := by decide +kernel
theorem dD_array_66 : decode prog_7_method_21_code 66 = .ok (.ifCond .ne 5, 3) := by decide +kernel
theorem dD_array_69 : decode prog_7_method_21_code 69 = .ok (.iconst 0, 1) := by decide +kernel
theorem dD_array_70 : decode prog_7_method_21_code 70 = .ok (.ireturn, 1) := by decide +kernel
theorem dD_array_71 : decode prog_7_method_21_code 71 = .ok (.iinc 3 1, 3) := by decide +kernel
theorem dD_array_74 : decode prog_7_method_21_code 74 = .ok (.aload_n 0, 1) := by decide +kernel
theorem dD_array_75 : decode prog_7_method_21_code 75 = .ok (.invokevirtual 134, 3) := by decide +kernel
theorem dD_array_78 : decode prog_7_method_21_code 78 = .ok (.istore 4, 2) := by decide +kernel
theorem dD_array_80 : decode prog_7_method_21_code 80 = .ok (.goto (-33), 3) := by decide +kernel
theorem dD_array_83 : decode prog_7_method_21_code 83 = .ok (.aload_n 0, 1) := by decide +kernel
theorem dD_array_84 : decode prog_7_method_21_code 84 = .ok (.getfield 22, 3) := by decide +kernel
theorem dD_array_87 : decode prog_7_method_21_code 87 = .ok (.iload_n 2, 1) := by decide +kernel
theorem dD_array_88 : decode prog_7_method_21_code 88 = .ok (.iconst 5, 1) := by decide +kernel
theorem dD_array_89 : decode prog_7_method_21_code 89 = .ok (.iload_n 3, 1) := by decide +kernel
theorem dD_array_90 : decode prog_7_method_21_code 90 = .ok (.invokevirtual 121, 3) := by decide +kernel
theorem dD_array_93 : decode prog_7_method_21_code 93 = .ok (.aload_n 0, 1) := by decide +kernel
theorem dD_array_94 : decode prog_7_method_21_code 94 = .ok (.bipush 93, 2) := by decide +kernel
theorem dD_array_96 : decode prog_7_method_21_code 96 = .ok (.invokevirtual 83, 3) := by decide +kernel
theorem dD_array_99 : decode prog_7_method_21_code 99 = .ok (.ireturn, 1) := by decide +kernel
theorem dD_broken_0 : decode prog_7_method_5_code 0 = .ok (.aload_n 0, 1) := by decide +kernel
theorem dD_broken_1 : decode prog_7_method_5_code 1 = .ok (.iload_n 1, 1) := by decide +kernel
theorem dD_broken_2 : decode prog_7_method_5_code 2 = .ok (.putfield 15, 3) := by decide +kernel
theorem dD_broken_5 : decode prog_7_method_5_code 5 = .ok (.iconst 0, 1) := by decide +kernel
theorem dD_broken_6 : decode prog_7_method_5_code 6 = .ok (.ireturn, 1) := by decide +kernel
theorem dD_brokenCode_0 : decode prog_7_method_6_code 0 = .ok (.aload_n 0, 1) := by decide +kernel
theorem dD_brokenCode_1 : decode prog_7_method_6_code 1 = .ok (.iload_n 1, 1) := by decide +kernel
theorem dD_brokenCode_2 : decode prog_7_method_6_code 2 = .ok (.putfield 15, 3) := by decide +kernel
theorem dD_brokenCode_5 : decode prog_7_method_6_code 5 = .ok (.iconst (-1), 1) := by decide +kernel
theorem dD_brokenCode_6 : decode prog_7_method_6_code 6 = .ok (.ireturn, 1) := by decide +kernel
theorem dD_codeOf_0 : decode prog_7_method_20_code 0 = .ok (.iload_n 0, 1) := by decide +kernel
theorem dD_codeOf_1 : decode prog_7_method_20_code 1 = .ok (.lookupswitch 92 #[(34, 75), (47, 75), (92, 75), (98, 77), (102, 80), (110, 83), (114, 86), (116, 89)], 75) := by decide +kernel
theorem dD_codeOf_76 : decode prog_7_method_20_code 76 = .ok (.iload_n 0, 1) := by decide +kernel
theorem dD_codeOf_77 : decode prog_7_method_20_code 77 = .ok (.ireturn, 1) := by decide +kernel
theorem dD_codeOf_78 : decode prog_7_method_20_code 78 = .ok (.bipush 8, 2) := by decide +kernel
theorem dD_codeOf_80 : decode prog_7_method_20_code 80 = .ok (.ireturn, 1) := by decide +kernel
theorem dD_codeOf_81 : decode prog_7_method_20_code 81 = .ok (.bipush 12, 2) := by decide +kernel
theorem dD_codeOf_83 : decode prog_7_method_20_code 83 = .ok (.ireturn, 1) := by decide +kernel
theorem dD_codeOf_84 : decode prog_7_method_20_code 84 = .ok (.bipush 10, 2) := by decide +kernel
theorem dD_codeOf_86 : decode prog_7_method_20_code 86 = .ok (.ireturn, 1) := by decide +kernel
theorem dD_codeOf_87 : decode prog_7_method_20_code 87 = .ok (.bipush 13, 2) := by decide +kernel
theorem dD_codeOf_89 : decode prog_7_method_20_code 89 = .ok (.ireturn, 1) := by decide +kernel
theorem dD_codeOf_90 : decode prog_7_method_20_code 90 = .ok (.bipush 9, 2) := by decide +kernel
theorem dD_codeOf_92 : decode prog_7_method_20_code 92 = .ok (.ireturn, 1) := by decide +kernel
theorem dD_codeOf_93 : decode prog_7_method_20_code 93 = .ok (.iconst (-1), 1) := by decide +kernel
theorem dD_codeOf_94 : decode prog_7_method_20_code 94 = .ok (.ireturn, 1) := by decide +kernel
theorem dD_colon_0 : decode prog_7_method_24_code 0 = .ok (.aload_n 0, 1) := by decide +kernel
theorem dD_colon_1 : decode prog_7_method_24_code 1 = .ok (.invokevirtual 30, 3) := by decide +kernel
theorem dD_colon_4 : decode prog_7_method_24_code 4 = .ok (.aload_n 0, 1) := by decide +kernel
theorem dD_colon_5 : decode prog_7_method_24_code 5 = .ok (.bipush 58, 2) := by decide +kernel
theorem dD_colon_7 : decode prog_7_method_24_code 7 = .ok (.invokevirtual 83, 3) := by decide +kernel
theorem dD_colon_10 : decode prog_7_method_24_code 10 = .ok (.ireturn, 1) := by decide +kernel
theorem dD_comma_0 : decode prog_7_method_25_code 0 = .ok (.aload_n 0, 1) := by decide +kernel
theorem dD_comma_1 : decode prog_7_method_25_code 1 = .ok (.invokevirtual 30, 3) := by decide +kernel
theorem dD_comma_4 : decode prog_7_method_25_code 4 = .ok (.aload_n 0, 1) := by decide +kernel
theorem dD_comma_5 : decode prog_7_method_25_code 5 = .ok (.getfield 18, 3) := by decide +kernel
theorem dD_comma_8 : decode prog_7_method_25_code 8 = .ok (.aload_n 0, 1) := by decide +kernel
theorem dD_comma_9 : decode prog_7_method_25_code 9 = .ok (.getfield 9, 3) := by decide +kernel
theorem dD_comma_12 : decode prog_7_method_25_code 12 = .ok (.invokevirtual 49, 3) := by decide +kernel
theorem dD_comma_15 : decode prog_7_method_25_code 15 = .ok (.bipush 44, 2) := by decide +kernel
theorem dD_comma_17 : decode prog_7_method_25_code 17 = .ok (.if_icmp .ne 7, 3) := by decide +kernel
theorem dD_comma_20 : decode prog_7_method_25_code 20 = .ok (.iconst 1, 1) := by decide +kernel
theorem dD_comma_21 : decode prog_7_method_25_code 21 = .ok (.goto 4, 3) := by decide +kernel
theorem dD_comma_24 : decode prog_7_method_25_code 24 = .ok (.iconst 0, 1) := by decide +kernel
theorem dD_comma_25 : decode prog_7_method_25_code 25 = .ok (.istore_n 1, 1) := by decide +kernel
theorem dD_comma_26 : decode prog_7_method_25_code 26 = .ok (.aload_n 0, 1) := by decide +kernel
theorem dD_comma_27 : decode prog_7_method_25_code 27 = .ok (.dup, 1) := by decide +kernel
theorem dD_comma_28 : decode prog_7_method_25_code 28 = .ok (.getfield 9, 3) := by decide +kernel
theorem dD_comma_31 : decode prog_7_method_25_code 31 = .ok (.iload_n 1, 1) := by decide +kernel
theorem dD_comma_32 : decode prog_7_method_25_code 32 = .ok (.ifCond .eq 7, 3) := by decide +kernel
theorem dD_comma_35 : decode prog_7_method_25_code 35 = .ok (.iconst 1, 1) := by decide +kernel
theorem dD_comma_36 : decode prog_7_method_25_code 36 = .ok (.goto 4, 3) := by decide +kernel
theorem dD_comma_39 : decode prog_7_method_25_code 39 = .ok (.iconst 0, 1) := by decide +kernel
theorem dD_comma_40 : decode prog_7_method_25_code 40 = .ok (.iadd, 1) := by decide +kernel
theorem dD_comma_41 : decode prog_7_method_25_code 41 = .ok (.putfield 9, 3) := by decide +kernel
theorem dD_comma_44 : decode prog_7_method_25_code 44 = .ok (.iload_n 1, 1) := by decide +kernel
theorem dD_comma_45 : decode prog_7_method_25_code 45 = .ok (.ireturn, 1) := by decide +kernel
theorem dD_demandEnd_0 : decode prog_7_method_4_code 0 = .ok (.aload_n 0, 1) := by decide +kernel
theorem dD_demandEnd_1 : decode prog_7_method_4_code 1 = .ok (.getfield 9, 3) := by decide +kernel
theorem dD_demandEnd_4 : decode prog_7_method_4_code 4 = .ok (.aload_n 0, 1) := by decide +kernel
theorem dD_demandEnd_5 : decode prog_7_method_4_code 5 = .ok (.getfield 18, 3) := by decide +kernel
theorem dD_demandEnd_8 : decode prog_7_method_4_code 8 = .ok (.invokevirtual 40, 3) := by decide +kernel
theorem dD_demandEnd_11 : decode prog_7_method_4_code 11 = .ok (.if_icmp .ge 12, 3) := by decide +kernel
theorem dD_demandEnd_14 : decode prog_7_method_4_code 14 = .ok (.aload_n 0, 1) := by decide +kernel
theorem dD_demandEnd_15 : decode prog_7_method_4_code 15 = .ok (.aload_n 0, 1) := by decide +kernel
theorem dD_demandEnd_16 : decode prog_7_method_4_code 16 = .ok (.getfield 9, 3) := by decide +kernel
theorem dD_demandEnd_19 : decode prog_7_method_4_code 19 = .ok (.invokevirtual 46, 3) := by decide +kernel
theorem dD_demandEnd_22 : decode prog_7_method_4_code 22 = .ok (.pop, 1) := by decide +kernel
theorem dD_demandEnd_23 : decode prog_7_method_4_code 23 = .ok (.return_, 1) := by decide +kernel
theorem dD_digitOf_0 : decode prog_7_method_19_code 0 = .ok (.iload_n 0, 1) := by decide +kernel
theorem dD_digitOf_1 : decode prog_7_method_19_code 1 = .ok (.bipush 48, 2) := by decide +kernel
theorem dD_digitOf_3 : decode prog_7_method_19_code 3 = .ok (.if_icmp .lt 14, 3) := by decide +kernel
theorem dD_digitOf_6 : decode prog_7_method_19_code 6 = .ok (.iload_n 0, 1) := by decide +kernel
theorem dD_digitOf_7 : decode prog_7_method_19_code 7 = .ok (.bipush 57, 2) := by decide +kernel
theorem dD_digitOf_9 : decode prog_7_method_19_code 9 = .ok (.if_icmp .gt 8, 3) := by decide +kernel
theorem dD_digitOf_12 : decode prog_7_method_19_code 12 = .ok (.iload_n 0, 1) := by decide +kernel
theorem dD_digitOf_13 : decode prog_7_method_19_code 13 = .ok (.bipush 48, 2) := by decide +kernel
theorem dD_digitOf_15 : decode prog_7_method_19_code 15 = .ok (.isub, 1) := by decide +kernel
theorem dD_digitOf_16 : decode prog_7_method_19_code 16 = .ok (.ireturn, 1) := by decide +kernel
theorem dD_digitOf_17 : decode prog_7_method_19_code 17 = .ok (.iload_n 0, 1) := by decide +kernel
theorem dD_digitOf_18 : decode prog_7_method_19_code 18 = .ok (.bipush 97, 2) := by decide +kernel
theorem dD_digitOf_20 : decode prog_7_method_19_code 20 = .ok (.if_icmp .lt 17, 3) := by decide +kernel
theorem dD_digitOf_23 : decode prog_7_method_19_code 23 = .ok (.iload_n 0, 1) := by decide +kernel
theorem dD_digitOf_24 : decode prog_7_method_19_code 24 = .ok (.bipush 102, 2) := by decide +kernel
theorem dD_digitOf_26 : decode prog_7_method_19_code 26 = .ok (.if_icmp .gt 11, 3) := by decide +kernel
theorem dD_digitOf_29 : decode prog_7_method_19_code 29 = .ok (.iload_n 0, 1) := by decide +kernel
theorem dD_digitOf_30 : decode prog_7_method_19_code 30 = .ok (.bipush 97, 2) := by decide +kernel
theorem dD_digitOf_32 : decode prog_7_method_19_code 32 = .ok (.isub, 1) := by decide +kernel
theorem dD_digitOf_33 : decode prog_7_method_19_code 33 = .ok (.bipush 10, 2) := by decide +kernel
theorem dD_digitOf_35 : decode prog_7_method_19_code 35 = .ok (.iadd, 1) := by decide +kernel
theorem dD_digitOf_36 : decode prog_7_method_19_code 36 = .ok (.ireturn, 1) := by decide +kernel
theorem dD_digitOf_37 : decode prog_7_method_19_code 37 = .ok (.iload_n 0, 1) := by decide +kernel
theorem dD_digitOf_38 : decode prog_7_method_19_code 38 = .ok (.bipush 65, 2) := by decide +kernel
theorem dD_digitOf_40 : decode prog_7_method_19_code 40 = .ok (.if_icmp .lt 19, 3) := by decide +kernel
theorem dD_digitOf_43 : decode prog_7_method_19_code 43 = .ok (.iload_n 0, 1) := by decide +kernel
theorem dD_digitOf_44 : decode prog_7_method_19_code 44 = .ok (.bipush 70, 2) := by decide +kernel
theorem dD_digitOf_46 : decode prog_7_method_19_code 46 = .ok (.if_icmp .gt 13, 3) := by decide +kernel
theorem dD_digitOf_49 : decode prog_7_method_19_code 49 = .ok (.iload_n 0, 1) := by decide +kernel
theorem dD_digitOf_50 : decode prog_7_method_19_code 50 = .ok (.bipush 65, 2) := by decide +kernel
theorem dD_digitOf_52 : decode prog_7_method_19_code 52 = .ok (.isub, 1) := by decide +kernel
theorem dD_digitOf_53 : decode prog_7_method_19_code 53 = .ok (.bipush 10, 2) := by decide +kernel
theorem dD_digitOf_55 : decode prog_7_method_19_code 55 = .ok (.iadd, 1) := by decide +kernel
theorem dD_digitOf_56 : decode prog_7_method_19_code 56 = .ok (.goto 4, 3) := by decide +kernel
theorem dD_digitOf_59 : decode prog_7_method_19_code 59 = .ok (.iconst (-1), 1) := by decide +kernel
theorem dD_digitOf_60 : decode prog_7_method_19_code 60 = .ok (.ireturn, 1) := by decide +kernel
theorem dD_digits_0 : decode prog_7_method_14_code 0 = .ok (.aload_n 0, 1) := by decide +kernel
theorem dD_digits_1 : decode prog_7_method_14_code 1 = .ok (.getfield 18, 3) := by decide +kernel
theorem dD_digits_4 : decode prog_7_method_14_code 4 = .ok (.aload_n 0, 1) := by decide +kernel
theorem dD_digits_5 : decode prog_7_method_14_code 5 = .ok (.getfield 9, 3) := by decide +kernel
theorem dD_digits_8 : decode prog_7_method_14_code 8 = .ok (.invokevirtual 49, 3) := by decide +kernel
theorem dD_digits_11 : decode prog_7_method_14_code 11 = .ok (.bipush 48, 2) := by decide +kernel
theorem dD_digits_13 : decode prog_7_method_14_code 13 = .ok (.isub, 1) := by decide +kernel
theorem dD_digits_14 : decode prog_7_method_14_code 14 = .ok (.i2l, 1) := by decide +kernel
theorem dD_digits_15 : decode prog_7_method_14_code 15 = .ok (.lstore_n 1, 1) := by decide +kernel
theorem dD_digits_16 : decode prog_7_method_14_code 16 = .ok (.aload_n 0, 1) := by decide +kernel
theorem dD_digits_17 : decode prog_7_method_14_code 17 = .ok (.dup, 1) := by decide +kernel
theorem dD_digits_18 : decode prog_7_method_14_code 18 = .ok (.getfield 9, 3) := by decide +kernel
theorem dD_digits_21 : decode prog_7_method_14_code 21 = .ok (.iconst 1, 1) := by decide +kernel
theorem dD_digits_22 : decode prog_7_method_14_code 22 = .ok (.iadd, 1) := by decide +kernel
theorem dD_digits_23 : decode prog_7_method_14_code 23 = .ok (.putfield 9, 3) := by decide +kernel
theorem dD_digits_26 : decode prog_7_method_14_code 26 = .ok (.lload_n 1, 1) := by decide +kernel
theorem dD_digits_27 : decode prog_7_method_14_code 27 = .ok (.lconst 0, 1) := by decide +kernel
theorem dD_digits_28 : decode prog_7_method_14_code 28 = .ok (.lcmp, 1) := by decide +kernel
theorem dD_digits_29 : decode prog_7_method_14_code 29 = .ok (.ifCond .le 82, 3) := by decide +kernel
theorem dD_digits_32 : decode prog_7_method_14_code 32 = .ok (.aload_n 0, 1) := by decide +kernel
theorem dD_digits_33 : decode prog_7_method_14_code 33 = .ok (.getfield 9, 3) := by decide +kernel
theorem dD_digits_36 : decode prog_7_method_14_code 36 = .ok (.aload_n 0, 1) := by decide +kernel
theorem dD_digits_37 : decode prog_7_method_14_code 37 = .ok (.getfield 18, 3) := by decide +kernel
theorem dD_digits_40 : decode prog_7_method_14_code 40 = .ok (.invokevirtual 40, 3) := by decide +kernel
theorem dD_digits_43 : decode prog_7_method_14_code 43 = .ok (.if_icmp .ge 68, 3) := by decide +kernel
theorem dD_digits_46 : decode prog_7_method_14_code 46 = .ok (.aload_n 0, 1) := by decide +kernel
theorem dD_digits_47 : decode prog_7_method_14_code 47 = .ok (.getfield 18, 3) := by decide +kernel
theorem dD_digits_50 : decode prog_7_method_14_code 50 = .ok (.aload_n 0, 1) := by decide +kernel
theorem dD_digits_51 : decode prog_7_method_14_code 51 = .ok (.getfield 9, 3) := by decide +kernel
theorem dD_digits_54 : decode prog_7_method_14_code 54 = .ok (.invokevirtual 49, 3) := by decide +kernel
theorem dD_digits_57 : decode prog_7_method_14_code 57 = .ok (.invokestatic 92, 3) := by decide +kernel
theorem dD_digits_60 : decode prog_7_method_14_code 60 = .ok (.ifCond .eq 51, 3) := by decide +kernel
theorem dD_digits_63 : decode prog_7_method_14_code 63 = .ok (.lload_n 1, 1) := by decide +kernel
theorem dD_digits_64 : decode prog_7_method_14_code 64 = .ok (.ldc2_w 99, 3) := by decide +kernel
theorem dD_digits_67 : decode prog_7_method_14_code 67 = .ok (.lcmp, 1) := by decide +kernel
theorem dD_digits_68 : decode prog_7_method_14_code 68 = .ok (.ifCond .le 7, 3) := by decide +kernel
theorem dD_digits_71 : decode prog_7_method_14_code 71 = .ok (.lload_n 1, 1) := by decide +kernel
theorem dD_digits_72 : decode prog_7_method_14_code 72 = .ok (.goto 25, 3) := by decide +kernel
theorem dD_digits_75 : decode prog_7_method_14_code 75 = .ok (.lload_n 1, 1) := by decide +kernel
theorem dD_digits_76 : decode prog_7_method_14_code 76 = .ok (.ldc2_w 104, 3) := by decide +kernel
theorem dD_digits_79 : decode prog_7_method_14_code 79 = .ok (.lmul, 1) := by decide +kernel
theorem dD_digits_80 : decode prog_7_method_14_code 80 = .ok (.aload_n 0, 1) := by decide +kernel
theorem dD_digits_81 : decode prog_7_method_14_code 81 = .ok (.getfield 18, 3) := by decide +kernel
theorem dD_digits_84 : decode prog_7_method_14_code 84 = .ok (.aload_n 0, 1) := by decide +kernel
theorem dD_digits_85 : decode prog_7_method_14_code 85 = .ok (.getfield 9, 3) := by decide +kernel
theorem dD_digits_88 : decode prog_7_method_14_code 88 = .ok (.invokevirtual 49, 3) := by decide +kernel
theorem dD_digits_91 : decode prog_7_method_14_code 91 = .ok (.i2l, 1) := by decide +kernel
theorem dD_digits_92 : decode prog_7_method_14_code 92 = .ok (.ladd, 1) := by decide +kernel
theorem dD_digits_93 : decode prog_7_method_14_code 93 = .ok (.ldc2_w 106, 3) := by decide +kernel
theorem dD_digits_96 : decode prog_7_method_14_code 96 = .ok (.lsub, 1) := by decide +kernel
theorem dD_digits_97 : decode prog_7_method_14_code 97 = .ok (.lstore_n 1, 1) := by decide +kernel
theorem dD_digits_98 : decode prog_7_method_14_code 98 = .ok (.aload_n 0, 1) := by decide +kernel
theorem dD_digits_99 : decode prog_7_method_14_code 99 = .ok (.dup, 1) := by decide +kernel
theorem dD_digits_100 : decode prog_7_method_14_code 100 = .ok (.getfield 9, 3) := by decide +kernel
theorem dD_digits_103 : decode prog_7_method_14_code 103 = .ok (.iconst 1, 1) := by decide +kernel
theorem dD_digits_104 : decode prog_7_method_14_code 104 = .ok (.iadd, 1) := by decide +kernel
theorem dD_digits_105 : decode prog_7_method_14_code 105 = .ok (.putfield 9, 3) := by decide +kernel
theorem dD_digits_108 : decode prog_7_method_14_code 108 = .ok (.goto (-82), 3) := by decide +kernel
theorem dD_digits_111 : decode prog_7_method_14_code 111 = .ok (.lload_n 1, 1) := by decide +kernel
theorem dD_digits_112 : decode prog_7_method_14_code 112 = .ok (.lreturn, 1) := by decide +kernel
theorem dD_fourDigits_0 : decode prog_7_method_18_code 0 = .ok (.aload_n 0, 1) := by decide +kernel
theorem dD_fourDigits_1 : decode prog_7_method_18_code 1 = .ok (.getfield 9, 3) := by decide +kernel
theorem dD_fourDigits_4 : decode prog_7_method_18_code 4 = .ok (.istore_n 1, 1) := by decide +kernel
theorem dD_fourDigits_5 : decode prog_7_method_18_code 5 = .ok (.iconst 0, 1) := by decide +kernel
theorem dD_fourDigits_6 : decode prog_7_method_18_code 6 = .ok (.istore_n 2, 1) := by decide +kernel
theorem dD_fourDigits_7 : decode prog_7_method_18_code 7 = .ok (.aload_n 0, 1) := by decide +kernel
theorem dD_fourDigits_8 : decode prog_7_method_18_code 8 = .ok (.dup, 1) := by decide +kernel
theorem dD_fourDigits_9 : decode prog_7_method_18_code 9 = .ok (.getfield 9, 3) := by decide +kernel
theorem dD_fourDigits_12 : decode prog_7_method_18_code 12 = .ok (.iconst 1, 1) := by decide +kernel
theorem dD_fourDigits_13 : decode prog_7_method_18_code 13 = .ok (.iadd, 1) := by decide +kernel
theorem dD_fourDigits_14 : decode prog_7_method_18_code 14 = .ok (.putfield 9, 3) := by decide +kernel
theorem dD_fourDigits_17 : decode prog_7_method_18_code 17 = .ok (.iconst 0, 1) := by decide +kernel
theorem dD_fourDigits_18 : decode prog_7_method_18_code 18 = .ok (.istore_n 3, 1) := by decide +kernel
theorem dD_fourDigits_19 : decode prog_7_method_18_code 19 = .ok (.iload_n 3, 1) := by decide +kernel
theorem dD_fourDigits_20 : decode prog_7_method_18_code 20 = .ok (.iconst 4, 1) := by decide +kernel
theorem dD_fourDigits_21 : decode prog_7_method_18_code 21 = .ok (.if_icmp .ge 58, 3) := by decide +kernel
theorem dD_fourDigits_24 : decode prog_7_method_18_code 24 = .ok (.aload_n 0, 1) := by decide +kernel
theorem dD_fourDigits_25 : decode prog_7_method_18_code 25 = .ok (.dup, 1) := by decide +kernel
theorem dD_fourDigits_26 : decode prog_7_method_18_code 26 = .ok (.getfield 9, 3) := by decide +kernel
theorem dD_fourDigits_29 : decode prog_7_method_18_code 29 = .ok (.iconst 1, 1) := by decide +kernel
theorem dD_fourDigits_30 : decode prog_7_method_18_code 30 = .ok (.iadd, 1) := by decide +kernel
theorem dD_fourDigits_31 : decode prog_7_method_18_code 31 = .ok (.putfield 9, 3) := by decide +kernel
theorem dD_fourDigits_34 : decode prog_7_method_18_code 34 = .ok (.aload_n 0, 1) := by decide +kernel
theorem dD_fourDigits_35 : decode prog_7_method_18_code 35 = .ok (.getfield 18, 3) := by decide +kernel
theorem dD_fourDigits_38 : decode prog_7_method_18_code 38 = .ok (.aload_n 0, 1) := by decide +kernel
theorem dD_fourDigits_39 : decode prog_7_method_18_code 39 = .ok (.getfield 9, 3) := by decide +kernel
theorem dD_fourDigits_42 : decode prog_7_method_18_code 42 = .ok (.invokevirtual 49, 3) := by decide +kernel
theorem dD_fourDigits_45 : decode prog_7_method_18_code 45 = .ok (.invokestatic 131, 3) := by decide +kernel
theorem dD_fourDigits_48 : decode prog_7_method_18_code 48 = .ok (.istore 4, 2) := by decide +kernel
theorem dD_fourDigits_50 : decode prog_7_method_18_code 50 = .ok (.iload 4, 2) := by decide +kernel
theorem dD_fourDigits_52 : decode prog_7_method_18_code 52 = .ok (.iconst (-1), 1) := by decide +kernel
theorem dD_fourDigits_53 : decode prog_7_method_18_code 53 = .ok (.if_icmp .ne 12, 3) := by decide +kernel
theorem dD_fourDigits_56 : decode prog_7_method_18_code 56 = .ok (.aload_n 0, 1) := by decide +kernel
theorem dD_fourDigits_57 : decode prog_7_method_18_code 57 = .ok (.aload_n 0, 1) := by decide +kernel
theorem dD_fourDigits_58 : decode prog_7_method_18_code 58 = .ok (.getfield 9, 3) := by decide +kernel
theorem dD_fourDigits_61 : decode prog_7_method_18_code 61 = .ok (.invokevirtual 125, 3) := by decide +kernel
theorem dD_fourDigits_64 : decode prog_7_method_18_code 64 = .ok (.ireturn, 1) := by decide +kernel
theorem dD_fourDigits_65 : decode prog_7_method_18_code 65 = .ok (.iload_n 2, 1) := by decide +kernel
theorem dD_fourDigits_66 : decode prog_7_method_18_code 66 = .ok (.bipush 16, 2) := by decide +kernel
theorem dD_fourDigits_68 : decode prog_7_method_18_code 68 = .ok (.imul, 1) := by decide +kernel
theorem dD_fourDigits_69 : decode prog_7_method_18_code 69 = .ok (.iload 4, 2) := by decide +kernel
theorem dD_fourDigits_71 : decode prog_7_method_18_code 71 = .ok (.iadd, 1) := by decide +kernel
theorem dD_fourDigits_72 : decode prog_7_method_18_code 72 = .ok (.istore_n 2, 1) := by decide +kernel
theorem dD_fourDigits_73 : decode prog_7_method_18_code 73 = .ok (.iinc 3 1, 3) := by decide +kernel
theorem dD_fourDigits_76 : decode prog_7_method_18_code 76 = .ok (.goto (-57), 3) := by decide +kernel
theorem dD_fourDigits_79 : decode prog_7_method_18_code 79 = .ok (.iload_n 2, 1) := by decide +kernel
theorem dD_fourDigits_80 : decode prog_7_method_18_code 80 = .ok (.bipush 127, 2) := by decide +kernel
theorem dD_fourDigits_82 : decode prog_7_method_18_code 82 = .ok (.if_icmp .le 11, 3) := by decide +kernel
theorem dD_fourDigits_85 : decode prog_7_method_18_code 85 = .ok (.aload_n 0, 1) := by decide +kernel
theorem dD_fourDigits_86 : decode prog_7_method_18_code 86 = .ok (.iload_n 1, 1) := by decide +kernel
theorem dD_fourDigits_87 : decode prog_7_method_18_code 87 = .ok (.invokevirtual 125, 3) := by decide +kernel
theorem dD_fourDigits_90 : decode prog_7_method_18_code 90 = .ok (.goto 4, 3) := by decide +kernel
theorem dD_fourDigits_93 : decode prog_7_method_18_code 93 = .ok (.iload_n 2, 1) := by decide +kernel
theorem dD_fourDigits_94 : decode prog_7_method_18_code 94 = .ok (.ireturn, 1) := by decide +kernel
theorem dD_init_0 : decode prog_7_method_1_code 0 = .ok (.aload_n 0, 1) := by decide +kernel
theorem dD_init_1 : decode prog_7_method_1_code 1 = .ok (.invokespecial 3, 3) := by decide +kernel
theorem dD_init_4 : decode prog_7_method_1_code 4 = .ok (.aload_n 0, 1) := by decide +kernel
theorem dD_init_5 : decode prog_7_method_1_code 5 = .ok (.iconst 0, 1) := by decide +kernel
theorem dD_init_6 : decode prog_7_method_1_code 6 = .ok (.putfield 9, 3) := by decide +kernel
theorem dD_init_9 : decode prog_7_method_1_code 9 = .ok (.aload_n 0, 1) := by decide +kernel
theorem dD_init_10 : decode prog_7_method_1_code 10 = .ok (.iconst (-1), 1) := by decide +kernel
theorem dD_init_11 : decode prog_7_method_1_code 11 = .ok (.putfield 15, 3) := by decide +kernel
theorem dD_init_14 : decode prog_7_method_1_code 14 = .ok (.aload_n 0, 1) := by decide +kernel
theorem dD_init_15 : decode prog_7_method_1_code 15 = .ok (.aload_n 1, 1) := by decide +kernel
theorem dD_init_16 : decode prog_7_method_1_code 16 = .ok (.putfield 18, 3) := by decide +kernel
theorem dD_init_19 : decode prog_7_method_1_code 19 = .ok (.aload_n 0, 1) := by decide +kernel
theorem dD_init_20 : decode prog_7_method_1_code 20 = .ok (.aload_n 2, 1) := by decide +kernel
theorem dD_init_21 : decode prog_7_method_1_code 21 = .ok (.putfield 22, 3) := by decide +kernel
theorem dD_init_24 : decode prog_7_method_1_code 24 = .ok (.return_, 1) := by decide +kernel
theorem dD_isBlank_0 : decode prog_7_method_9_code 0 = .ok (.iload_n 0, 1) := by decide +kernel
theorem dD_isBlank_1 : decode prog_7_method_9_code 1 = .ok (.bipush 32, 2) := by decide +kernel
theorem dD_isBlank_3 : decode prog_7_method_9_code 3 = .ok (.if_icmp .eq 21, 3) := by decide +kernel
theorem dD_isBlank_6 : decode prog_7_method_9_code 6 = .ok (.iload_n 0, 1) := by decide +kernel
theorem dD_isBlank_7 : decode prog_7_method_9_code 7 = .ok (.bipush 9, 2) := by decide +kernel
theorem dD_isBlank_9 : decode prog_7_method_9_code 9 = .ok (.if_icmp .eq 15, 3) := by decide +kernel
theorem dD_isBlank_12 : decode prog_7_method_9_code 12 = .ok (.iload_n 0, 1) := by decide +kernel
theorem dD_isBlank_13 : decode prog_7_method_9_code 13 = .ok (.bipush 10, 2) := by decide +kernel
theorem dD_isBlank_15 : decode prog_7_method_9_code 15 = .ok (.if_icmp .eq 9, 3) := by decide +kernel
theorem dD_isBlank_18 : decode prog_7_method_9_code 18 = .ok (.iload_n 0, 1) := by decide +kernel
theorem dD_isBlank_19 : decode prog_7_method_9_code 19 = .ok (.bipush 13, 2) := by decide +kernel
theorem dD_isBlank_21 : decode prog_7_method_9_code 21 = .ok (.if_icmp .ne 7, 3) := by decide +kernel
theorem dD_isBlank_24 : decode prog_7_method_9_code 24 = .ok (.iconst 1, 1) := by decide +kernel
theorem dD_isBlank_25 : decode prog_7_method_9_code 25 = .ok (.goto 4, 3) := by decide +kernel
theorem dD_isBlank_28 : decode prog_7_method_9_code 28 = .ok (.iconst 0, 1) := by decide +kernel
theorem dD_isBlank_29 : decode prog_7_method_9_code 29 = .ok (.ireturn, 1) := by decide +kernel
theorem dD_isDigit_0 : decode prog_7_method_13_code 0 = .ok (.iload_n 0, 1) := by decide +kernel
theorem dD_isDigit_1 : decode prog_7_method_13_code 1 = .ok (.bipush 48, 2) := by decide +kernel
theorem dD_isDigit_3 : decode prog_7_method_13_code 3 = .ok (.if_icmp .lt 13, 3) := by decide +kernel
theorem dD_isDigit_6 : decode prog_7_method_13_code 6 = .ok (.iload_n 0, 1) := by decide +kernel
theorem dD_isDigit_7 : decode prog_7_method_13_code 7 = .ok (.bipush 57, 2) := by decide +kernel
theorem dD_isDigit_9 : decode prog_7_method_13_code 9 = .ok (.if_icmp .gt 7, 3) := by decide +kernel
theorem dD_isDigit_12 : decode prog_7_method_13_code 12 = .ok (.iconst 1, 1) := by decide +kernel
theorem dD_isDigit_13 : decode prog_7_method_13_code 13 = .ok (.goto 4, 3) := by decide +kernel
theorem dD_isDigit_16 : decode prog_7_method_13_code 16 = .ok (.iconst 0, 1) := by decide +kernel
theorem dD_isDigit_17 : decode prog_7_method_13_code 17 = .ok (.ireturn, 1) := by decide +kernel
theorem dD_isNew_0 : decode prog_7_method_23_code 0 = .ok (.aload_n 0, 1) := by decide +kernel
theorem dD_isNew_1 : decode prog_7_method_23_code 1 = .ok (.getfield 22, 3) := by decide +kernel
theorem dD_isNew_4 : decode prog_7_method_23_code 4 = .ok (.iload_n 3, 1) := by decide +kernel
theorem dD_isNew_5 : decode prog_7_method_23_code 5 = .ok (.bipush 6, 2) := by decide +kernel
theorem dD_isNew_7 : decode prog_7_method_23_code 7 = .ok (.iload 4, 2) := by decide +kernel
theorem dD_isNew_9 : decode prog_7_method_23_code 9 = .ok (.invokevirtual 121, 3) := by decide +kernel
theorem dD_isNew_12 : decode prog_7_method_23_code 12 = .ok (.aload_n 0, 1) := by decide +kernel
theorem dD_isNew_13 : decode prog_7_method_23_code 13 = .ok (.getfield 22, 3) := by decide +kernel
theorem dD_isNew_16 : decode prog_7_method_23_code 16 = .ok (.iload_n 3, 1) := by decide +kernel
theorem dD_isNew_17 : decode prog_7_method_23_code 17 = .ok (.aload_n 0, 1) := by decide +kernel
theorem dD_isNew_18 : decode prog_7_method_23_code 18 = .ok (.getfield 22, 3) := by decide +kernel
theorem dD_isNew_21 : decode prog_7_method_23_code 21 = .ok (.iload_n 1, 1) := by decide +kernel
theorem dD_isNew_22 : decode prog_7_method_23_code 22 = .ok (.invokevirtual 144, 3) := by decide +kernel
theorem dD_isNew_25 : decode prog_7_method_23_code 25 = .ok (.iconst (-1), 1) := by decide +kernel
theorem dD_isNew_26 : decode prog_7_method_23_code 26 = .ok (.if_icmp .eq 11, 3) := by decide +kernel
theorem dD_isNew_29 : decode prog_7_method_23_code 29 = .ok (.aload_n 0, 1) := by decide +kernel
theorem dD_isNew_30 : decode prog_7_method_23_code 30 = .ok (.iload_n 2, 1) := by decide +kernel
theorem dD_isNew_31 : decode prog_7_method_23_code 31 = .ok (.invokevirtual 46, 3) := by decide +kernel
theorem dD_isNew_34 : decode prog_7_method_23_code 34 = .ok (.ifCond .eq 7, 3) := by decide +kernel
theorem dD_isNew_37 : decode prog_7_method_23_code 37 = .ok (.iconst 1, 1) := by decide +kernel
theorem dD_isNew_38 : decode prog_7_method_23_code 38 = .ok (.goto 4, 3) := by decide +kernel
theorem dD_isNew_41 : decode prog_7_method_23_code 41 = .ok (.iconst 0, 1) := by decide +kernel
theorem dD_isNew_42 : decode prog_7_method_23_code 42 = .ok (.ireturn, 1) := by decide +kernel
theorem dD_letter_0 : decode prog_7_method_17_code 0 = .ok (.aload_n 0, 1) := by decide +kernel
theorem dD_letter_1 : decode prog_7_method_17_code 1 = .ok (.dup, 1) := by decide +kernel
theorem dD_letter_2 : decode prog_7_method_17_code 2 = .ok (.getfield 9, 3) := by decide +kernel
theorem dD_letter_5 : decode prog_7_method_17_code 5 = .ok (.iconst 1, 1) := by decide +kernel
theorem dD_letter_6 : decode prog_7_method_17_code 6 = .ok (.iadd, 1) := by decide +kernel
theorem dD_letter_7 : decode prog_7_method_17_code 7 = .ok (.putfield 9, 3) := by decide +kernel
theorem dD_letter_10 : decode prog_7_method_17_code 10 = .ok (.aload_n 0, 1) := by decide +kernel
theorem dD_letter_11 : decode prog_7_method_17_code 11 = .ok (.getfield 18, 3) := by decide +kernel
theorem dD_letter_14 : decode prog_7_method_17_code 14 = .ok (.aload_n 0, 1) := by decide +kernel
theorem dD_letter_15 : decode prog_7_method_17_code 15 = .ok (.getfield 9, 3) := by decide +kernel
theorem dD_letter_18 : decode prog_7_method_17_code 18 = .ok (.invokevirtual 49, 3) := by decide +kernel
theorem dD_letter_21 : decode prog_7_method_17_code 21 = .ok (.invokestatic 128, 3) := by decide +kernel
theorem dD_letter_24 : decode prog_7_method_17_code 24 = .ok (.istore_n 1, 1) := by decide +kernel
theorem dD_letter_25 : decode prog_7_method_17_code 25 = .ok (.iload_n 1, 1) := by decide +kernel
theorem dD_letter_26 : decode prog_7_method_17_code 26 = .ok (.iconst (-1), 1) := by decide +kernel
theorem dD_letter_27 : decode prog_7_method_17_code 27 = .ok (.if_icmp .ne 14, 3) := by decide +kernel
theorem dD_letter_30 : decode prog_7_method_17_code 30 = .ok (.aload_n 0, 1) := by decide +kernel
theorem dD_letter_31 : decode prog_7_method_17_code 31 = .ok (.aload_n 0, 1) := by decide +kernel
theorem dD_letter_32 : decode prog_7_method_17_code 32 = .ok (.getfield 9, 3) := by decide +kernel
theorem dD_letter_35 : decode prog_7_method_17_code 35 = .ok (.invokevirtual 125, 3) := by decide +kernel
theorem dD_letter_38 : decode prog_7_method_17_code 38 = .ok (.goto 4, 3) := by decide +kernel
theorem dD_letter_41 : decode prog_7_method_17_code 41 = .ok (.iload_n 1, 1) := by decide +kernel
theorem dD_letter_42 : decode prog_7_method_17_code 42 = .ok (.ireturn, 1) := by decide +kernel
theorem dD_letters_0 : decode prog_7_method_11_code 0 = .ok (.iconst 0, 1) := by decide +kernel
theorem dD_letters_1 : decode prog_7_method_11_code 1 = .ok (.istore_n 3, 1) := by decide +kernel
theorem dD_letters_2 : decode prog_7_method_11_code 2 = .ok (.iload_n 3, 1) := by decide +kernel
theorem dD_letters_3 : decode prog_7_method_11_code 3 = .ok (.aload_n 1, 1) := by decide +kernel
theorem dD_letters_4 : decode prog_7_method_11_code 4 = .ok (.invokevirtual 74, 3) := by decide +kernel
theorem dD_letters_7 : decode prog_7_method_11_code 7 = .ok (.if_icmp .ge 23, 3) := by decide +kernel
theorem dD_letters_10 : decode prog_7_method_11_code 10 = .ok (.aload_n 0, 1) := by decide +kernel
theorem dD_letters_11 : decode prog_7_method_11_code 11 = .ok (.aload_n 1, 1) := by decide +kernel
theorem dD_letters_12 : decode prog_7_method_11_code 12 = .ok (.iload_n 3, 1) := by decide +kernel
theorem dD_letters_13 : decode prog_7_method_11_code 13 = .ok (.invokevirtual 79, 3) := by decide +kernel
theorem dD_letters_16 : decode prog_7_method_11_code 16 = .ok (.invokevirtual 83, 3) := by decide +kernel
theorem dD_letters_19 : decode prog_7_method_11_code 19 = .ok (.ifCond .ne 5, 3) := by decide +kernel
theorem dD_letters_22 : decode prog_7_method_11_code 22 = .ok (.iconst 0, 1) := by decide +kernel
theorem dD_letters_23 : decode prog_7_method_11_code 23 = .ok (.ireturn, 1) := by decide +kernel
theorem dD_letters_24 : decode prog_7_method_11_code 24 = .ok (.iinc 3 1, 3) := by decide +kernel
theorem dD_letters_27 : decode prog_7_method_11_code 27 = .ok (.goto (-25), 3) := by decide +kernel
theorem dD_letters_30 : decode prog_7_method_11_code 30 = .ok (.aload_n 0, 1) := by decide +kernel
theorem dD_letters_31 : decode prog_7_method_11_code 31 = .ok (.getfield 22, 3) := by decide +kernel
theorem dD_letters_34 : decode prog_7_method_11_code 34 = .ok (.iload_n 2, 1) := by decide +kernel
theorem dD_letters_35 : decode prog_7_method_11_code 35 = .ok (.i2l, 1) := by decide +kernel
theorem dD_letters_36 : decode prog_7_method_11_code 36 = .ok (.invokevirtual 86, 3) := by decide +kernel
theorem dD_letters_39 : decode prog_7_method_11_code 39 = .ok (.iconst 1, 1) := by decide +kernel
theorem dD_letters_40 : decode prog_7_method_11_code 40 = .ok (.ireturn, 1) := by decide +kernel
theorem dD_number_0 : decode prog_7_method_12_code 0 = .ok (.aload_n 0, 1) := by decide +kernel
theorem dD_number_1 : decode prog_7_method_12_code 1 = .ok (.getfield 9, 3) := by decide +kernel
theorem dD_number_4 : decode prog_7_method_12_code 4 = .ok (.istore_n 1, 1) := by decide +kernel
theorem dD_number_5 : decode prog_7_method_12_code 5 = .ok (.aload_n 0, 1) := by decide +kernel
theorem dD_number_6 : decode prog_7_method_12_code 6 = .ok (.getfield 18, 3) := by decide +kernel
theorem dD_number_9 : decode prog_7_method_12_code 9 = .ok (.aload_n 0, 1) := by decide +kernel
theorem dD_number_10 : decode prog_7_method_12_code 10 = .ok (.getfield 9, 3) := by decide +kernel
theorem dD_number_13 : decode prog_7_method_12_code 13 = .ok (.invokevirtual 49, 3) := by decide +kernel
theorem dD_number_16 : decode prog_7_method_12_code 16 = .ok (.bipush 45, 2) := by decide +kernel
theorem dD_number_18 : decode prog_7_method_12_code 18 = .ok (.if_icmp .ne 7, 3) := by decide +kernel
theorem dD_number_21 : decode prog_7_method_12_code 21 = .ok (.iconst 1, 1) := by decide +kernel
theorem dD_number_22 : decode prog_7_method_12_code 22 = .ok (.goto 4, 3) := by decide +kernel
theorem dD_number_25 : decode prog_7_method_12_code 25 = .ok (.iconst 0, 1) := by decide +kernel
theorem dD_number_26 : decode prog_7_method_12_code 26 = .ok (.istore_n 2, 1) := by decide +kernel
theorem dD_number_27 : decode prog_7_method_12_code 27 = .ok (.iload_n 2, 1) := by decide +kernel
theorem dD_number_28 : decode prog_7_method_12_code 28 = .ok (.ifCond .eq 13, 3) := by decide +kernel
theorem dD_number_31 : decode prog_7_method_12_code 31 = .ok (.aload_n 0, 1) := by decide +kernel
theorem dD_number_32 : decode prog_7_method_12_code 32 = .ok (.dup, 1) := by decide +kernel
theorem dD_number_33 : decode prog_7_method_12_code 33 = .ok (.getfield 9, 3) := by decide +kernel
theorem dD_number_36 : decode prog_7_method_12_code 36 = .ok (.iconst 1, 1) := by decide +kernel
theorem dD_number_37 : decode prog_7_method_12_code 37 = .ok (.iadd, 1) := by decide +kernel
theorem dD_number_38 : decode prog_7_method_12_code 38 = .ok (.putfield 9, 3) := by decide +kernel
theorem dD_number_41 : decode prog_7_method_12_code 41 = .ok (.aload_n 0, 1) := by decide +kernel
theorem dD_number_42 : decode prog_7_method_12_code 42 = .ok (.getfield 18, 3) := by decide +kernel
theorem dD_number_45 : decode prog_7_method_12_code 45 = .ok (.aload_n 0, 1) := by decide +kernel
theorem dD_number_46 : decode prog_7_method_12_code 46 = .ok (.getfield 9, 3) := by decide +kernel
theorem dD_number_49 : decode prog_7_method_12_code 49 = .ok (.invokevirtual 49, 3) := by decide +kernel
theorem dD_number_52 : decode prog_7_method_12_code 52 = .ok (.invokestatic 92, 3) := by decide +kernel
theorem dD_number_55 : decode prog_7_method_12_code 55 = .ok (.ifCond .ne 12, 3) := by decide +kernel
theorem dD_number_58 : decode prog_7_method_12_code 58 = .ok (.aload_n 0, 1) := by decide +kernel
theorem dD_number_59 : decode prog_7_method_12_code 59 = .ok (.aload_n 0, 1) := by decide +kernel
theorem dD_number_60 : decode prog_7_method_12_code 60 = .ok (.getfield 9, 3) := by decide +kernel
theorem dD_number_63 : decode prog_7_method_12_code 63 = .ok (.invokevirtual 46, 3) := by decide +kernel
theorem dD_number_66 : decode prog_7_method_12_code 66 = .ok (.ireturn, 1) := by decide +kernel
theorem dD_number_67 : decode prog_7_method_12_code 67 = .ok (.aload_n 0, 1) := by decide +kernel
theorem dD_number_68 : decode prog_7_method_12_code 68 = .ok (.invokevirtual 95, 3) := by decide +kernel
theorem dD_number_71 : decode prog_7_method_12_code 71 = .ok (.lstore_n 3, 1) := by decide +kernel
theorem dD_number_72 : decode prog_7_method_12_code 72 = .ok (.lload_n 3, 1) := by decide +kernel
theorem dD_number_73 : decode prog_7_method_12_code 73 = .ok (.ldc2_w 99, 3) := by decide +kernel
theorem dD_number_76 : decode prog_7_method_12_code 76 = .ok (.lcmp, 1) := by decide +kernel
theorem dD_number_77 : decode prog_7_method_12_code 77 = .ok (.ifCond .le 9, 3) := by decide +kernel
theorem dD_number_80 : decode prog_7_method_12_code 80 = .ok (.aload_n 0, 1) := by decide +kernel
theorem dD_number_81 : decode prog_7_method_12_code 81 = .ok (.iload_n 1, 1) := by decide +kernel
theorem dD_number_82 : decode prog_7_method_12_code 82 = .ok (.invokevirtual 46, 3) := by decide +kernel
theorem dD_number_85 : decode prog_7_method_12_code 85 = .ok (.ireturn, 1) := by decide +kernel
theorem dD_number_86 : decode prog_7_method_12_code 86 = .ok (.aload_n 0, 1) := by decide +kernel
theorem dD_number_87 : decode prog_7_method_12_code 87 = .ok (.getfield 22, 3) := by decide +kernel
theorem dD_number_90 : decode prog_7_method_12_code 90 = .ok (.iload_n 2, 1) := by decide +kernel
theorem dD_number_91 : decode prog_7_method_12_code 91 = .ok (.ifCond .eq 8, 3) := by decide +kernel
theorem dD_number_94 : decode prog_7_method_12_code 94 = .ok (.lload_n 3, 1) := by decide +kernel
theorem dD_number_95 : decode prog_7_method_12_code 95 = .ok (.lneg, 1) := by decide +kernel
theorem dD_number_96 : decode prog_7_method_12_code 96 = .ok (.goto 4, 3) := by decide +kernel
theorem dD_number_99 : decode prog_7_method_12_code 99 = .ok (.lload_n 3, 1) := by decide +kernel
theorem dD_number_100 : decode prog_7_method_12_code 100 = .ok (.invokevirtual 101, 3) := by decide +kernel
theorem dD_number_103 : decode prog_7_method_12_code 103 = .ok (.iconst 1, 1) := by decide +kernel
theorem dD_number_104 : decode prog_7_method_12_code 104 = .ok (.ireturn, 1) := by decide +kernel
theorem dD_object_0 : decode prog_7_method_22_code 0 = .ok (.aload_n 0, 1) := by decide +kernel
theorem dD_object_1 : decode prog_7_method_22_code 1 = .ok (.getfield 22, 3) := by decide +kernel
theorem dD_object_4 : decode prog_7_method_22_code 4 = .ok (.invokevirtual 108, 3) := by decide +kernel
theorem dD_object_7 : decode prog_7_method_22_code 7 = .ok (.istore_n 2, 1) := by decide +kernel
theorem dD_object_8 : decode prog_7_method_22_code 8 = .ok (.iconst 0, 1) := by decide +kernel
theorem dD_object_9 : decode prog_7_method_22_code 9 = .ok (.istore_n 3, 1) := by decide +kernel
theorem dD_object_10 : decode prog_7_method_22_code 10 = .ok (.aload_n 0, 1) := by decide +kernel
theorem dD_object_11 : decode prog_7_method_22_code 11 = .ok (.dup, 1) := by decide +kernel
theorem dD_object_12 : decode prog_7_method_22_code 12 = .ok (.getfield 9, 3) := by decide +kernel
theorem dD_object_15 : decode prog_7_method_22_code 15 = .ok (.iconst 1, 1) := by decide +kernel
theorem dD_object_16 : decode prog_7_method_22_code 16 = .ok (.iadd, 1) := by decide +kernel
theorem dD_object_17 : decode prog_7_method_22_code 17 = .ok (.putfield 9, 3) := by decide +kernel
theorem dD_object_20 : decode prog_7_method_22_code 20 = .ok (.aload_n 0, 1) := by decide +kernel
theorem dD_object_21 : decode prog_7_method_22_code 21 = .ok (.invokevirtual 30, 3) := by decide +kernel
theorem dD_object_24 : decode prog_7_method_22_code 24 = .ok (.aload_n 0, 1) := by decide +kernel
theorem dD_object_25 : decode prog_7_method_22_code 25 = .ok (.getfield 18, 3) := by decide +kernel
theorem dD_object_28 : decode prog_7_method_22_code 28 = .ok (.aload_n 0, 1) := by decide +kernel
theorem dD_object_29 : decode prog_7_method_22_code 29 = .ok (.getfield 9, 3) := by decide +kernel
theorem dD_object_32 : decode prog_7_method_22_code 32 = .ok (.invokevirtual 49, 3) := by decide +kernel
theorem dD_object_35 : decode prog_7_method_22_code 35 = .ok (.bipush 125, 2) := by decide +kernel
theorem dD_object_37 : decode prog_7_method_22_code 37 = .ok (.if_icmp .eq 7, 3) := by decide +kernel
theorem dD_object_40 : decode prog_7_method_22_code 40 = .ok (.iconst 1, 1) := by decide +kernel
theorem dD_object_41 : decode prog_7_method_22_code 41 = .ok (.goto 4, 3) := by decide +kernel
theorem dD_object_44 : decode prog_7_method_22_code 44 = .ok (.iconst 0, 1) := by decide +kernel
theorem dD_object_45 : decode prog_7_method_22_code 45 = .ok (.istore 4, 2) := by decide +kernel
theorem dD_object_47 : decode prog_7_method_22_code 47 = .ok (.iload 4, 2) := by decide +kernel
theorem dD_object_49 : decode prog_7_method_22_code 49 = .ok (.ifCond .eq 80, 3) := by decide +kernel
theorem dD_object_52 : decode prog_7_method_22_code 52 = .ok (.iload_n 3, 1) := by decide +kernel
theorem dD_object_53 : decode prog_7_method_22_code 53 = .ok (.sipush 4096, 3) := by decide +kernel
theorem dD_object_56 : decode prog_7_method_22_code 56 = .ok (.if_icmp .ge 73, 3) := by decide +kernel
theorem dD_object_59 : decode prog_7_method_22_code 59 = .ok (.aload_n 0, 1) := by decide +kernel
theorem dD_object_60 : decode prog_7_method_22_code 60 = .ok (.invokevirtual 30, 3) := by decide +kernel
theorem dD_object_63 : decode prog_7_method_22_code 63 = .ok (.aload_n 0, 1) := by decide +kernel
theorem dD_object_64 : decode prog_7_method_22_code 64 = .ok (.getfield 9, 3) := by decide +kernel
theorem dD_object_67 : decode prog_7_method_22_code 67 = .ok (.istore 5, 2) := by decide +kernel
theorem dD_object_69 : decode prog_7_method_22_code 69 = .ok (.aload_n 0, 1) := by decide +kernel
theorem dD_object_70 : decode prog_7_method_22_code 70 = .ok (.getfield 22, 3) := by decide +kernel
theorem dD_object_73 : decode prog_7_method_22_code 73 = .ok (.invokevirtual 120, 3) := by decide +kernel
theorem dD_object_76 : decode prog_7_method_22_code 76 = .ok (.istore 6, 2) := by decide +kernel
theorem dD_object_78 : decode prog_7_method_22_code 78 = .ok (.aload_n 0, 1) := by decide +kernel
theorem dD_object_79 : decode prog_7_method_22_code 79 = .ok (.invokevirtual 65, 3) := by decide +kernel
theorem dD_object_82 : decode prog_7_method_22_code 82 = .ok (.ifCond .eq 33, 3) := by decide +kernel
theorem dD_object_85 : decode prog_7_method_22_code 85 = .ok (.aload_n 0, 1) := by decide +kernel
theorem dD_object_86 : decode prog_7_method_22_code 86 = .ok (.iload 6, 2) := by decide +kernel
theorem dD_object_88 : decode prog_7_method_22_code 88 = .ok (.iload 5, 2) := by decide +kernel
theorem dD_object_90 : decode prog_7_method_22_code 90 = .ok (.iload_n 2, 1) := by decide +kernel
theorem dD_object_91 : decode prog_7_method_22_code 91 = .ok (.iload_n 3, 1) := by decide +kernel
theorem dD_object_92 : decode prog_7_method_22_code 92 = .ok (.invokevirtual 137, 3) := by decide +kernel
theorem dD_object_95 : decode prog_7_method_22_code 95 = .ok (.ifCond .eq 20, 3) := by decide +kernel
theorem dD_object_98 : decode prog_7_method_22_code 98 = .ok (.aload_n 0, 1) := by decide +kernel
theorem dD_object_99 : decode prog_7_method_22_code 99 = .ok (.invokevirtual 141, 3) := by decide +kernel
theorem dD_object_102 : decode prog_7_method_22_code 102 = .ok (.ifCond .eq 13, 3) := by decide +kernel
theorem dD_object_105 : decode prog_7_method_22_code 105 = .ok (.aload_n 0, 1) := by decide +kernel
theorem dD_object_106 : decode prog_7_method_22_code 106 = .ok (.iload_n 1, 1) := by decide +kernel
theorem dD_object_107 : decode prog_7_method_22_code 107 = .ok (.iconst 1, 1) := by decide +kernel
theorem dD_object_108 : decode prog_7_method_22_code 108 = .ok (.iadd, 1) := by decide +kernel
theorem dD_object_109 : decode prog_7_method_22_code 109 = .ok (.invokevirtual 26, 3) := by decide +kernel
theorem dD_object_112 : decode prog_7_method_22_code 112 = .ok (.ifCond .ne 5, 3) := by decide +kernel
theorem dD_object_115 : decode prog_7_method_22_code 115 = .ok (.iconst 0, 1) := by decide +kernel
theorem dD_object_116 : decode prog_7_method_22_code 116 = .ok (.ireturn, 1) := by decide +kernel
theorem dD_object_117 : decode prog_7_method_22_code 117 = .ok (.iinc 3 1, 3) := by decide +kernel
theorem dD_object_120 : decode prog_7_method_22_code 120 = .ok (.aload_n 0, 1) := by decide +kernel
theorem dD_object_121 : decode prog_7_method_22_code 121 = .ok (.invokevirtual 134, 3) := by decide +kernel
theorem dD_object_124 : decode prog_7_method_22_code 124 = .ok (.istore 4, 2) := by decide +kernel
theorem dD_object_126 : decode prog_7_method_22_code 126 = .ok (.goto (-79), 3) := by decide +kernel
theorem dD_object_129 : decode prog_7_method_22_code 129 = .ok (.aload_n 0, 1) := by decide +kernel
theorem dD_object_130 : decode prog_7_method_22_code 130 = .ok (.getfield 22, 3) := by decide +kernel
theorem dD_object_133 : decode prog_7_method_22_code 133 = .ok (.iload_n 2, 1) := by decide +kernel
theorem dD_object_134 : decode prog_7_method_22_code 134 = .ok (.bipush 6, 2) := by decide +kernel
theorem dD_object_136 : decode prog_7_method_22_code 136 = .ok (.iload_n 3, 1) := by decide +kernel
theorem dD_object_137 : decode prog_7_method_22_code 137 = .ok (.invokevirtual 121, 3) := by decide +kernel
theorem dD_object_140 : decode prog_7_method_22_code 140 = .ok (.aload_n 0, 1) := by decide +kernel
theorem dD_object_141 : decode prog_7_method_22_code 141 = .ok (.bipush 125, 2) := by decide +kernel
theorem dD_object_143 : decode prog_7_method_22_code 143 = .ok (.invokevirtual 83, 3) := by decide +kernel
theorem dD_object_146 : decode prog_7_method_22_code 146 = .ok (.ireturn, 1) := by decide +kernel
theorem dD_plain_0 : decode prog_7_method_16_code 0 = .ok (.aload_n 0, 1) := by decide +kernel
theorem dD_plain_1 : decode prog_7_method_16_code 1 = .ok (.getfield 18, 3) := by decide +kernel
theorem dD_plain_4 : decode prog_7_method_16_code 4 = .ok (.aload_n 0, 1) := by decide +kernel
theorem dD_plain_5 : decode prog_7_method_16_code 5 = .ok (.getfield 9, 3) := by decide +kernel
theorem dD_plain_8 : decode prog_7_method_16_code 8 = .ok (.invokevirtual 49, 3) := by decide +kernel
theorem dD_plain_11 : decode prog_7_method_16_code 11 = .ok (.istore_n 1, 1) := by decide +kernel
theorem dD_plain_12 : decode prog_7_method_16_code 12 = .ok (.iload_n 1, 1) := by decide +kernel
theorem dD_plain_13 : decode prog_7_method_16_code 13 = .ok (.bipush 32, 2) := by decide +kernel
theorem dD_plain_15 : decode prog_7_method_16_code 15 = .ok (.if_icmp .lt 13, 3) := by decide +kernel
theorem dD_plain_18 : decode prog_7_method_16_code 18 = .ok (.iload_n 1, 1) := by decide +kernel
theorem dD_plain_19 : decode prog_7_method_16_code 19 = .ok (.bipush 127, 2) := by decide +kernel
theorem dD_plain_21 : decode prog_7_method_16_code 21 = .ok (.if_icmp .ge 7, 3) := by decide +kernel
theorem dD_plain_24 : decode prog_7_method_16_code 24 = .ok (.iload_n 1, 1) := by decide +kernel
theorem dD_plain_25 : decode prog_7_method_16_code 25 = .ok (.goto 11, 3) := by decide +kernel
theorem dD_plain_28 : decode prog_7_method_16_code 28 = .ok (.aload_n 0, 1) := by decide +kernel
theorem dD_plain_29 : decode prog_7_method_16_code 29 = .ok (.aload_n 0, 1) := by decide +kernel
theorem dD_plain_30 : decode prog_7_method_16_code 30 = .ok (.getfield 9, 3) := by decide +kernel
theorem dD_plain_33 : decode prog_7_method_16_code 33 = .ok (.invokevirtual 125, 3) := by decide +kernel
theorem dD_plain_36 : decode prog_7_method_16_code 36 = .ok (.ireturn, 1) := by decide +kernel
theorem dD_readNumber_0 : decode prog_7_method_3_code 0 = .ok (.aload_n 0, 1) := by decide +kernel
theorem dD_readNumber_1 : decode prog_7_method_3_code 1 = .ok (.invokevirtual 36, 3) := by decide +kernel
theorem dD_readNumber_4 : decode prog_7_method_3_code 4 = .ok (.ifCond .eq 7, 3) := by decide +kernel
theorem dD_readNumber_7 : decode prog_7_method_3_code 7 = .ok (.aload_n 0, 1) := by decide +kernel
theorem dD_readNumber_8 : decode prog_7_method_3_code 8 = .ok (.invokevirtual 33, 3) := by decide +kernel
theorem dD_readNumber_11 : decode prog_7_method_3_code 11 = .ok (.aload_n 0, 1) := by decide +kernel
theorem dD_readNumber_12 : decode prog_7_method_3_code 12 = .ok (.getfield 15, 3) := by decide +kernel
theorem dD_readNumber_15 : decode prog_7_method_3_code 15 = .ok (.ireturn, 1) := by decide +kernel
theorem dD_readValue_0 : decode prog_7_method_2_code 0 = .ok (.aload_n 0, 1) := by decide +kernel
theorem dD_readValue_1 : decode prog_7_method_2_code 1 = .ok (.iconst 0, 1) := by decide +kernel
theorem dD_readValue_2 : decode prog_7_method_2_code 2 = .ok (.invokevirtual 26, 3) := by decide +kernel
theorem dD_readValue_5 : decode prog_7_method_2_code 5 = .ok (.ifCond .eq 11, 3) := by decide +kernel
theorem dD_readValue_8 : decode prog_7_method_2_code 8 = .ok (.aload_n 0, 1) := by decide +kernel
theorem dD_readValue_9 : decode prog_7_method_2_code 9 = .ok (.invokevirtual 30, 3) := by decide +kernel
theorem dD_readValue_12 : decode prog_7_method_2_code 12 = .ok (.aload_n 0, 1) := by decide +kernel
theorem dD_readValue_13 : decode prog_7_method_2_code 13 = .ok (.invokevirtual 33, 3) := by decide +kernel
theorem dD_readValue_16 : decode prog_7_method_2_code 16 = .ok (.aload_n 0, 1) := by decide +kernel
theorem dD_readValue_17 : decode prog_7_method_2_code 17 = .ok (.getfield 15, 3) := by decide +kernel
theorem dD_readValue_20 : decode prog_7_method_2_code 20 = .ok (.ireturn, 1) := by decide +kernel
theorem dD_skipBlanks_0 : decode prog_7_method_8_code 0 = .ok (.aload_n 0, 1) := by decide +kernel
theorem dD_skipBlanks_1 : decode prog_7_method_8_code 1 = .ok (.getfield 9, 3) := by decide +kernel
theorem dD_skipBlanks_4 : decode prog_7_method_8_code 4 = .ok (.aload_n 0, 1) := by decide +kernel
theorem dD_skipBlanks_5 : decode prog_7_method_8_code 5 = .ok (.getfield 18, 3) := by decide +kernel
theorem dD_skipBlanks_8 : decode prog_7_method_8_code 8 = .ok (.invokevirtual 40, 3) := by decide +kernel
theorem dD_skipBlanks_11 : decode prog_7_method_8_code 11 = .ok (.if_icmp .ge 33, 3) := by decide +kernel
theorem dD_skipBlanks_14 : decode prog_7_method_8_code 14 = .ok (.aload_n 0, 1) := by decide +kernel
theorem dD_skipBlanks_15 : decode prog_7_method_8_code 15 = .ok (.getfield 18, 3) := by decide +kernel
theorem dD_skipBlanks_18 : decode prog_7_method_8_code 18 = .ok (.aload_n 0, 1) := by decide +kernel
theorem dD_skipBlanks_19 : decode prog_7_method_8_code 19 = .ok (.getfield 9, 3) := by decide +kernel
theorem dD_skipBlanks_22 : decode prog_7_method_8_code 22 = .ok (.invokevirtual 49, 3) := by decide +kernel
theorem dD_skipBlanks_25 : decode prog_7_method_8_code 25 = .ok (.invokestatic 52, 3) := by decide +kernel
theorem dD_skipBlanks_28 : decode prog_7_method_8_code 28 = .ok (.ifCond .eq 16, 3) := by decide +kernel
theorem dD_skipBlanks_31 : decode prog_7_method_8_code 31 = .ok (.aload_n 0, 1) := by decide +kernel
theorem dD_skipBlanks_32 : decode prog_7_method_8_code 32 = .ok (.dup, 1) := by decide +kernel
theorem dD_skipBlanks_33 : decode prog_7_method_8_code 33 = .ok (.getfield 9, 3) := by decide +kernel
theorem dD_skipBlanks_36 : decode prog_7_method_8_code 36 = .ok (.iconst 1, 1) := by decide +kernel
theorem dD_skipBlanks_37 : decode prog_7_method_8_code 37 = .ok (.iadd, 1) := by decide +kernel
theorem dD_skipBlanks_38 : decode prog_7_method_8_code 38 = .ok (.putfield 9, 3) := by decide +kernel
theorem dD_skipBlanks_41 : decode prog_7_method_8_code 41 = .ok (.goto (-41), 3) := by decide +kernel
theorem dD_skipBlanks_44 : decode prog_7_method_8_code 44 = .ok (.return_, 1) := by decide +kernel
theorem dD_string_0 : decode prog_7_method_15_code 0 = .ok (.aload_n 0, 1) := by decide +kernel
theorem dD_string_1 : decode prog_7_method_15_code 1 = .ok (.getfield 22, 3) := by decide +kernel
theorem dD_string_4 : decode prog_7_method_15_code 4 = .ok (.invokevirtual 108, 3) := by decide +kernel
theorem dD_string_7 : decode prog_7_method_15_code 7 = .ok (.istore_n 1, 1) := by decide +kernel
theorem dD_string_8 : decode prog_7_method_15_code 8 = .ok (.aload_n 0, 1) := by decide +kernel
theorem dD_string_9 : decode prog_7_method_15_code 9 = .ok (.bipush 34, 2) := by decide +kernel
theorem dD_string_11 : decode prog_7_method_15_code 11 = .ok (.invokevirtual 83, 3) := by decide +kernel
theorem dD_string_14 : decode prog_7_method_15_code 14 = .ok (.ifCond .ne 5, 3) := by decide +kernel
theorem dD_string_17 : decode prog_7_method_15_code 17 = .ok (.iconst 0, 1) := by decide +kernel
theorem dD_string_18 : decode prog_7_method_15_code 18 = .ok (.ireturn, 1) := by decide +kernel
theorem dD_string_19 : decode prog_7_method_15_code 19 = .ok (.aload_n 0, 1) := by decide +kernel
theorem dD_string_20 : decode prog_7_method_15_code 20 = .ok (.getfield 9, 3) := by decide +kernel
theorem dD_string_23 : decode prog_7_method_15_code 23 = .ok (.aload_n 0, 1) := by decide +kernel
theorem dD_string_24 : decode prog_7_method_15_code 24 = .ok (.getfield 18, 3) := by decide +kernel
theorem dD_string_27 : decode prog_7_method_15_code 27 = .ok (.invokevirtual 40, 3) := by decide +kernel
theorem dD_string_30 : decode prog_7_method_15_code 30 = .ok (.if_icmp .ge 111, 3) := by decide +kernel
theorem dD_string_33 : decode prog_7_method_15_code 33 = .ok (.aload_n 0, 1) := by decide +kernel
theorem dD_string_34 : decode prog_7_method_15_code 34 = .ok (.getfield 18, 3) := by decide +kernel
theorem dD_string_37 : decode prog_7_method_15_code 37 = .ok (.aload_n 0, 1) := by decide +kernel
theorem dD_string_38 : decode prog_7_method_15_code 38 = .ok (.getfield 9, 3) := by decide +kernel
theorem dD_string_41 : decode prog_7_method_15_code 41 = .ok (.invokevirtual 49, 3) := by decide +kernel
theorem dD_string_44 : decode prog_7_method_15_code 44 = .ok (.bipush 34, 2) := by decide +kernel
theorem dD_string_46 : decode prog_7_method_15_code 46 = .ok (.if_icmp .eq 95, 3) := by decide +kernel
theorem dD_string_49 : decode prog_7_method_15_code 49 = .ok (.aload_n 0, 1) := by decide +kernel
theorem dD_string_50 : decode prog_7_method_15_code 50 = .ok (.getfield 18, 3) := by decide +kernel
theorem dD_string_53 : decode prog_7_method_15_code 53 = .ok (.aload_n 0, 1) := by decide +kernel
theorem dD_string_54 : decode prog_7_method_15_code 54 = .ok (.getfield 9, 3) := by decide +kernel
theorem dD_string_57 : decode prog_7_method_15_code 57 = .ok (.invokevirtual 49, 3) := by decide +kernel
theorem dD_string_60 : decode prog_7_method_15_code 60 = .ok (.bipush 92, 2) := by decide +kernel
theorem dD_string_62 : decode prog_7_method_15_code 62 = .ok (.if_icmp .ne 7, 3) := by decide +kernel
theorem dD_string_65 : decode prog_7_method_15_code 65 = .ok (.iconst 1, 1) := by decide +kernel
theorem dD_string_66 : decode prog_7_method_15_code 66 = .ok (.goto 4, 3) := by decide +kernel
theorem dD_string_69 : decode prog_7_method_15_code 69 = .ok (.iconst 0, 1) := by decide +kernel
theorem dD_string_70 : decode prog_7_method_15_code 70 = .ok (.istore_n 2, 1) := by decide +kernel
theorem dD_string_71 : decode prog_7_method_15_code 71 = .ok (.iload_n 2, 1) := by decide +kernel
theorem dD_string_72 : decode prog_7_method_15_code 72 = .ok (.ifCond .ne 10, 3) := by decide +kernel
theorem dD_string_75 : decode prog_7_method_15_code 75 = .ok (.aload_n 0, 1) := by decide +kernel
theorem dD_string_76 : decode prog_7_method_15_code 76 = .ok (.invokevirtual 111, 3) := by decide +kernel
theorem dD_string_79 : decode prog_7_method_15_code 79 = .ok (.goto 32, 3) := by decide +kernel
theorem dD_string_82 : decode prog_7_method_15_code 82 = .ok (.aload_n 0, 1) := by decide +kernel
theorem dD_string_83 : decode prog_7_method_15_code 83 = .ok (.getfield 18, 3) := by decide +kernel
theorem dD_string_86 : decode prog_7_method_15_code 86 = .ok (.aload_n 0, 1) := by decide +kernel
theorem dD_string_87 : decode prog_7_method_15_code 87 = .ok (.getfield 9, 3) := by decide +kernel
theorem dD_string_90 : decode prog_7_method_15_code 90 = .ok (.iconst 1, 1) := by decide +kernel
theorem dD_string_91 : decode prog_7_method_15_code 91 = .ok (.iadd, 1) := by decide +kernel
theorem dD_string_92 : decode prog_7_method_15_code 92 = .ok (.invokevirtual 49, 3) := by decide +kernel
theorem dD_string_95 : decode prog_7_method_15_code 95 = .ok (.bipush 117, 2) := by decide +kernel
theorem dD_string_97 : decode prog_7_method_15_code 97 = .ok (.if_icmp .ne 10, 3) := by decide +kernel
theorem dD_string_100 : decode prog_7_method_15_code 100 = .ok (.aload_n 0, 1) := by decide +kernel
theorem dD_string_101 : decode prog_7_method_15_code 101 = .ok (.invokevirtual 114, 3) := by decide +kernel
theorem dD_string_104 : decode prog_7_method_15_code 104 = .ok (.goto 7, 3) := by decide +kernel
theorem dD_string_107 : decode prog_7_method_15_code 107 = .ok (.aload_n 0, 1) := by decide +kernel
theorem dD_string_108 : decode prog_7_method_15_code 108 = .ok (.invokevirtual 117, 3) := by decide +kernel
theorem dD_string_111 : decode prog_7_method_15_code 111 = .ok (.istore_n 3, 1) := by decide +kernel
theorem dD_string_112 : decode prog_7_method_15_code 112 = .ok (.iload_n 3, 1) := by decide +kernel
theorem dD_string_113 : decode prog_7_method_15_code 113 = .ok (.iconst (-1), 1) := by decide +kernel
theorem dD_string_114 : decode prog_7_method_15_code 114 = .ok (.if_icmp .ne 5, 3) := by decide +kernel
theorem dD_string_117 : decode prog_7_method_15_code 117 = .ok (.iconst 0, 1) := by decide +kernel
theorem dD_string_118 : decode prog_7_method_15_code 118 = .ok (.ireturn, 1) := by decide +kernel
theorem dD_string_119 : decode prog_7_method_15_code 119 = .ok (.aload_n 0, 1) := by decide +kernel
theorem dD_string_120 : decode prog_7_method_15_code 120 = .ok (.getfield 22, 3) := by decide +kernel
theorem dD_string_123 : decode prog_7_method_15_code 123 = .ok (.iload_n 3, 1) := by decide +kernel
theorem dD_string_124 : decode prog_7_method_15_code 124 = .ok (.i2l, 1) := by decide +kernel
theorem dD_string_125 : decode prog_7_method_15_code 125 = .ok (.invokevirtual 86, 3) := by decide +kernel
theorem dD_string_128 : decode prog_7_method_15_code 128 = .ok (.aload_n 0, 1) := by decide +kernel
theorem dD_string_129 : decode prog_7_method_15_code 129 = .ok (.dup, 1) := by decide +kernel
theorem dD_string_130 : decode prog_7_method_15_code 130 = .ok (.getfield 9, 3) := by decide +kernel
theorem dD_string_133 : decode prog_7_method_15_code 133 = .ok (.iconst 1, 1) := by decide +kernel
theorem dD_string_134 : decode prog_7_method_15_code 134 = .ok (.iadd, 1) := by decide +kernel
theorem dD_string_135 : decode prog_7_method_15_code 135 = .ok (.putfield 9, 3) := by decide +kernel
theorem dD_string_138 : decode prog_7_method_15_code 138 = .ok (.goto (-119), 3) := by decide +kernel
theorem dD_string_141 : decode prog_7_method_15_code 141 = .ok (.aload_n 0, 1) := by decide +kernel
theorem dD_string_142 : decode prog_7_method_15_code 142 = .ok (.getfield 22, 3) := by decide +kernel
theorem dD_string_145 : decode prog_7_method_15_code 145 = .ok (.iload_n 1, 1) := by decide +kernel
theorem dD_string_146 : decode prog_7_method_15_code 146 = .ok (.iconst 4, 1) := by decide +kernel
theorem dD_string_147 : decode prog_7_method_15_code 147 = .ok (.aload_n 0, 1) := by decide +kernel
theorem dD_string_148 : decode prog_7_method_15_code 148 = .ok (.getfield 22, 3) := by decide +kernel
theorem dD_string_151 : decode prog_7_method_15_code 151 = .ok (.invokevirtual 120, 3) := by decide +kernel
theorem dD_string_154 : decode prog_7_method_15_code 154 = .ok (.iload_n 1, 1) := by decide +kernel
theorem dD_string_155 : decode prog_7_method_15_code 155 = .ok (.isub, 1) := by decide +kernel
theorem dD_string_156 : decode prog_7_method_15_code 156 = .ok (.iconst 1, 1) := by decide +kernel
theorem dD_string_157 : decode prog_7_method_15_code 157 = .ok (.isub, 1) := by decide +kernel
theorem dD_string_158 : decode prog_7_method_15_code 158 = .ok (.invokevirtual 121, 3) := by decide +kernel
theorem dD_string_161 : decode prog_7_method_15_code 161 = .ok (.aload_n 0, 1) := by decide +kernel
theorem dD_string_162 : decode prog_7_method_15_code 162 = .ok (.bipush 34, 2) := by decide +kernel
theorem dD_string_164 : decode prog_7_method_15_code 164 = .ok (.invokevirtual 83, 3) := by decide +kernel
theorem dD_string_167 : decode prog_7_method_15_code 167 = .ok (.ireturn, 1) := by decide +kernel
theorem dD_take_0 : decode prog_7_method_7_code 0 = .ok (.aload_n 0, 1) := by decide +kernel
theorem dD_take_1 : decode prog_7_method_7_code 1 = .ok (.getfield 18, 3) := by decide +kernel
theorem dD_take_4 : decode prog_7_method_7_code 4 = .ok (.aload_n 0, 1) := by decide +kernel
theorem dD_take_5 : decode prog_7_method_7_code 5 = .ok (.getfield 9, 3) := by decide +kernel
theorem dD_take_8 : decode prog_7_method_7_code 8 = .ok (.invokevirtual 49, 3) := by decide +kernel
theorem dD_take_11 : decode prog_7_method_7_code 11 = .ok (.iload_n 1, 1) := by decide +kernel
theorem dD_take_12 : decode prog_7_method_7_code 12 = .ok (.if_icmp .eq 12, 3) := by decide +kernel
theorem dD_take_15 : decode prog_7_method_7_code 15 = .ok (.aload_n 0, 1) := by decide +kernel
theorem dD_take_16 : decode prog_7_method_7_code 16 = .ok (.aload_n 0, 1) := by decide +kernel
theorem dD_take_17 : decode prog_7_method_7_code 17 = .ok (.getfield 9, 3) := by decide +kernel
theorem dD_take_20 : decode prog_7_method_7_code 20 = .ok (.invokevirtual 46, 3) := by decide +kernel
theorem dD_take_23 : decode prog_7_method_7_code 23 = .ok (.ireturn, 1) := by decide +kernel
theorem dD_take_24 : decode prog_7_method_7_code 24 = .ok (.aload_n 0, 1) := by decide +kernel
theorem dD_take_25 : decode prog_7_method_7_code 25 = .ok (.dup, 1) := by decide +kernel
theorem dD_take_26 : decode prog_7_method_7_code 26 = .ok (.getfield 9, 3) := by decide +kernel
theorem dD_take_29 : decode prog_7_method_7_code 29 = .ok (.iconst 1, 1) := by decide +kernel
theorem dD_take_30 : decode prog_7_method_7_code 30 = .ok (.iadd, 1) := by decide +kernel
theorem dD_take_31 : decode prog_7_method_7_code 31 = .ok (.putfield 9, 3) := by decide +kernel
theorem dD_take_34 : decode prog_7_method_7_code 34 = .ok (.iconst 1, 1) := by decide +kernel
theorem dD_take_35 : decode prog_7_method_7_code 35 = .ok (.ireturn, 1) := by decide +kernel
theorem dD_value_0 : decode prog_7_method_10_code 0 = .ok (.aload_n 0, 1) := by decide +kernel
theorem dD_value_1 : decode prog_7_method_10_code 1 = .ok (.invokevirtual 30, 3) := by decide +kernel
theorem dD_value_4 : decode prog_7_method_10_code 4 = .ok (.aload_n 0, 1) := by decide +kernel
theorem dD_value_5 : decode prog_7_method_10_code 5 = .ok (.getfield 18, 3) := by decide +kernel
theorem dD_value_8 : decode prog_7_method_10_code 8 = .ok (.aload_n 0, 1) := by decide +kernel
theorem dD_value_9 : decode prog_7_method_10_code 9 = .ok (.getfield 9, 3) := by decide +kernel
theorem dD_value_12 : decode prog_7_method_10_code 12 = .ok (.invokevirtual 49, 3) := by decide +kernel
theorem dD_value_15 : decode prog_7_method_10_code 15 = .ok (.lookupswitch 132 #[(34, 81), (91, 86), (102, 65), (110, 57), (116, 73), (123, 109)], 57) := by decide +kernel
theorem dD_value_72 : decode prog_7_method_10_code 72 = .ok (.aload_n 0, 1) := by decide +kernel
theorem dD_value_73 : decode prog_7_method_10_code 73 = .ok (.ldc 55, 2) := by decide +kernel
theorem dD_value_75 : decode prog_7_method_10_code 75 = .ok (.iconst 0, 1) := by decide +kernel
theorem dD_value_76 : decode prog_7_method_10_code 76 = .ok (.invokevirtual 57, 3) := by decide +kernel
theorem dD_value_79 : decode prog_7_method_10_code 79 = .ok (.ireturn, 1) := by decide +kernel
theorem dD_value_80 : decode prog_7_method_10_code 80 = .ok (.aload_n 0, 1) := by decide +kernel
theorem dD_value_81 : decode prog_7_method_10_code 81 = .ok (.ldc 61, 2) := by decide +kernel
theorem dD_value_83 : decode prog_7_method_10_code 83 = .ok (.iconst 1, 1) := by decide +kernel
theorem dD_value_84 : decode prog_7_method_10_code 84 = .ok (.invokevirtual 57, 3) := by decide +kernel
theorem dD_value_87 : decode prog_7_method_10_code 87 = .ok (.ireturn, 1) := by decide +kernel
theorem dD_value_88 : decode prog_7_method_10_code 88 = .ok (.aload_n 0, 1) := by decide +kernel
theorem dD_value_89 : decode prog_7_method_10_code 89 = .ok (.ldc 63, 2) := by decide +kernel
theorem dD_value_91 : decode prog_7_method_10_code 91 = .ok (.iconst 2, 1) := by decide +kernel
theorem dD_value_92 : decode prog_7_method_10_code 92 = .ok (.invokevirtual 57, 3) := by decide +kernel
theorem dD_value_95 : decode prog_7_method_10_code 95 = .ok (.ireturn, 1) := by decide +kernel
theorem dD_value_96 : decode prog_7_method_10_code 96 = .ok (.aload_n 0, 1) := by decide +kernel
theorem dD_value_97 : decode prog_7_method_10_code 97 = .ok (.invokevirtual 65, 3) := by decide +kernel
theorem dD_value_100 : decode prog_7_method_10_code 100 = .ok (.ireturn, 1) := by decide +kernel
theorem dD_value_101 : decode prog_7_method_10_code 101 = .ok (.iload_n 1, 1) := by decide +kernel
theorem dD_value_102 : decode prog_7_method_10_code 102 = .ok (.bipush 40, 2) := by decide +kernel
theorem dD_value_104 : decode prog_7_method_10_code 104 = .ok (.if_icmp .ge 11, 3) := by decide +kernel
theorem dD_value_107 : decode prog_7_method_10_code 107 = .ok (.aload_n 0, 1) := by decide +kernel
theorem dD_value_108 : decode prog_7_method_10_code 108 = .ok (.iload_n 1, 1) := by decide +kernel
theorem dD_value_109 : decode prog_7_method_10_code 109 = .ok (.invokevirtual 68, 3) := by decide +kernel
theorem dD_value_112 : decode prog_7_method_10_code 112 = .ok (.goto 11, 3) := by decide +kernel
theorem dD_value_115 : decode prog_7_method_10_code 115 = .ok (.aload_n 0, 1) := by decide +kernel
theorem dD_value_116 : decode prog_7_method_10_code 116 = .ok (.aload_n 0, 1) := by decide +kernel
theorem dD_value_117 : decode prog_7_method_10_code 117 = .ok (.getfield 9, 3) := by decide +kernel
theorem dD_value_120 : decode prog_7_method_10_code 120 = .ok (.invokevirtual 46, 3) := by decide +kernel
theorem dD_value_123 : decode prog_7_method_10_code 123 = .ok (.ireturn, 1) := by decide +kernel
theorem dD_value_124 : decode prog_7_method_10_code 124 = .ok (.iload_n 1, 1) := by decide +kernel
theorem dD_value_125 : decode prog_7_method_10_code 125 = .ok (.bipush 40, 2) := by decide +kernel
theorem dD_value_127 : decode prog_7_method_10_code 127 = .ok (.if_icmp .ge 11, 3) := by decide +kernel
theorem dD_value_130 : decode prog_7_method_10_code 130 = .ok (.aload_n 0, 1) := by decide +kernel
theorem dD_value_131 : decode prog_7_method_10_code 131 = .ok (.iload_n 1, 1) := by decide +kernel
theorem dD_value_132 : decode prog_7_method_10_code 132 = .ok (.invokevirtual 71, 3) := by decide +kernel
theorem dD_value_135 : decode prog_7_method_10_code 135 = .ok (.goto 11, 3) := by decide +kernel
theorem dD_value_138 : decode prog_7_method_10_code 138 = .ok (.aload_n 0, 1) := by decide +kernel
theorem dD_value_139 : decode prog_7_method_10_code 139 = .ok (.aload_n 0, 1) := by decide +kernel
theorem dD_value_140 : decode prog_7_method_10_code 140 = .ok (.getfield 9, 3) := by decide +kernel
theorem dD_value_143 : decode prog_7_method_10_code 143 = .ok (.invokevirtual 46, 3) := by decide +kernel
theorem dD_value_146 : decode prog_7_method_10_code 146 = .ok (.ireturn, 1) := by decide +kernel
theorem dD_value_147 : decode prog_7_method_10_code 147 = .ok (.aload_n 0, 1) := by decide +kernel
theorem dD_value_148 : decode prog_7_method_10_code 148 = .ok (.invokevirtual 36, 3) := by decide +kernel
theorem dD_value_151 : decode prog_7_method_10_code 151 = .ok (.ireturn, 1) := by decide +kernel
theorem dG_apply_0 : decode prog_9_method_2_code 0 = .ok (.iload_n 0, 1) := by decide +kernel
theorem dG_apply_1 : decode prog_9_method_2_code 1 = .ok (.tableswitch 242 0 12 #[67, 97, 104, 131, 138, 164, 172, 180, 188, 209, 217, 224, 231], 67) := by decide +kernel
theorem dG_apply_68 : decode prog_9_method_2_code 68 = .ok (.aload 4, 2) := by decide +kernel
theorem dG_apply_70 : decode prog_9_method_2_code 70 = .ok (.aload_n 1, 1) := by decide +kernel
theorem dG_apply_71 : decode prog_9_method_2_code 71 = .ok (.iconst 0, 1) := by decide +kernel
theorem dG_apply_72 : decode prog_9_method_2_code 72 = .ok (.iconst 0, 1) := by decide +kernel
theorem dG_apply_73 : decode prog_9_method_2_code 73 = .ok (.invokevirtual 9, 3) := by decide +kernel
theorem dG_apply_76 : decode prog_9_method_2_code 76 = .ok (.ifCond .ne 12, 3) := by decide +kernel
theorem dG_apply_79 : decode prog_9_method_2_code 79 = .ok (.aload_n 1, 1) := by decide +kernel
theorem dG_apply_80 : decode prog_9_method_2_code 80 = .ok (.iconst 0, 1) := by decide +kernel
theorem dG_apply_81 : decode prog_9_method_2_code 81 = .ok (.iconst 1, 1) := by decide +kernel
theorem dG_apply_82 : decode prog_9_method_2_code 82 = .ok (.invokevirtual 9, 3) := by decide +kernel
theorem dG_apply_85 : decode prog_9_method_2_code 85 = .ok (.ifCond .eq 7, 3) := by decide +kernel
theorem dG_apply_88 : decode prog_9_method_2_code 88 = .ok (.iconst 1, 1) := by decide +kernel
theorem dG_apply_89 : decode prog_9_method_2_code 89 = .ok (.goto 4, 3) := by decide +kernel
theorem dG_apply_92 : decode prog_9_method_2_code 92 = .ok (.iconst 0, 1) := by decide +kernel
theorem dG_apply_93 : decode prog_9_method_2_code 93 = .ok (.invokevirtual 15, 3) := by decide +kernel
theorem dG_apply_96 : decode prog_9_method_2_code 96 = .ok (.iconst 0, 1) := by decide +kernel
theorem dG_apply_97 : decode prog_9_method_2_code 97 = .ok (.ireturn, 1) := by decide +kernel
theorem dG_apply_98 : decode prog_9_method_2_code 98 = .ok (.aload_n 1, 1) := by decide +kernel
theorem dG_apply_99 : decode prog_9_method_2_code 99 = .ok (.aload 4, 2) := by decide +kernel
theorem dG_apply_101 : decode prog_9_method_2_code 101 = .ok (.invokestatic 19, 3) := by decide +kernel
theorem dG_apply_104 : decode prog_9_method_2_code 104 = .ok (.ireturn, 1) := by decide +kernel
theorem dG_apply_105 : decode prog_9_method_2_code 105 = .ok (.aload_n 1, 1) := by decide +kernel
theorem dG_apply_106 : decode prog_9_method_2_code 106 = .ok (.iconst 0, 1) := by decide +kernel
theorem dG_apply_107 : decode prog_9_method_2_code 107 = .ok (.bipush 6, 2) := by decide +kernel
theorem dG_apply_109 : decode prog_9_method_2_code 109 = .ok (.invokevirtual 9, 3) := by decide +kernel
theorem dG_apply_112 : decode prog_9_method_2_code 112 = .ok (.ifCond .eq 13, 3) := by decide +kernel
theorem dG_apply_115 : decode prog_9_method_2_code 115 = .ok (.aload_n 1, 1) := by decide +kernel
theorem dG_apply_116 : decode prog_9_method_2_code 116 = .ok (.aload_n 3, 1) := by decide +kernel
theorem dG_apply_117 : decode prog_9_method_2_code 117 = .ok (.aload 4, 2) := by decide +kernel
theorem dG_apply_119 : decode prog_9_method_2_code 119 = .ok (.invokestatic 25, 3) := by decide +kernel
theorem dG_apply_122 : decode prog_9_method_2_code 122 = .ok (.goto 9, 3) := by decide +kernel
theorem dG_apply_125 : decode prog_9_method_2_code 125 = .ok (.aload_n 1, 1) := by decide +kernel
theorem dG_apply_126 : decode prog_9_method_2_code 126 = .ok (.aload 4, 2) := by decide +kernel
theorem dG_apply_128 : decode prog_9_method_2_code 128 = .ok (.invokestatic 29, 3) := by decide +kernel
theorem dG_apply_131 : decode prog_9_method_2_code 131 = .ok (.ireturn, 1) := by decide +kernel
theorem dG_apply_132 : decode prog_9_method_2_code 132 = .ok (.aload_n 1, 1) := by decide +kernel
theorem dG_apply_133 : decode prog_9_method_2_code 133 = .ok (.aload 4, 2) := by decide +kernel
theorem dG_apply_135 : decode prog_9_method_2_code 135 = .ok (.invokestatic 29, 3) := by decide +kernel
theorem dG_apply_138 : decode prog_9_method_2_code 138 = .ok (.ireturn, 1) := by decide +kernel
theorem dG_apply_139 : decode prog_9_method_2_code 139 = .ok (.aload_n 1, 1) := by decide +kernel
theorem dG_apply_140 : decode prog_9_method_2_code 140 = .ok (.iconst 0, 1) := by decide +kernel
theorem dG_apply_141 : decode prog_9_method_2_code 141 = .ok (.iconst 4, 1) := by decide +kernel
theorem dG_apply_142 : decode prog_9_method_2_code 142 = .ok (.invokevirtual 9, 3) := by decide +kernel
theorem dG_apply_145 : decode prog_9_method_2_code 145 = .ok (.ifCond .eq 12, 3) := by decide +kernel
theorem dG_apply_148 : decode prog_9_method_2_code 148 = .ok (.aload_n 1, 1) := by decide +kernel
theorem dG_apply_149 : decode prog_9_method_2_code 149 = .ok (.aload 4, 2) := by decide +kernel
theorem dG_apply_151 : decode prog_9_method_2_code 151 = .ok (.invokestatic 32, 3) := by decide +kernel
theorem dG_apply_154 : decode prog_9_method_2_code 154 = .ok (.goto 10, 3) := by decide +kernel
theorem dG_apply_157 : decode prog_9_method_2_code 157 = .ok (.aload_n 1, 1) := by decide +kernel
theorem dG_apply_158 : decode prog_9_method_2_code 158 = .ok (.aload_n 2, 1) := by decide +kernel
theorem dG_apply_159 : decode prog_9_method_2_code 159 = .ok (.aload 4, 2) := by decide +kernel
theorem dG_apply_161 : decode prog_9_method_2_code 161 = .ok (.invokestatic 35, 3) := by decide +kernel
theorem dG_apply_164 : decode prog_9_method_2_code 164 = .ok (.ireturn, 1) := by decide +kernel
theorem dG_apply_165 : decode prog_9_method_2_code 165 = .ok (.aload_n 1, 1) := by decide +kernel
theorem dG_apply_166 : decode prog_9_method_2_code 166 = .ok (.aload_n 2, 1) := by decide +kernel
theorem dG_apply_167 : decode prog_9_method_2_code 167 = .ok (.aload 4, 2) := by decide +kernel
theorem dG_apply_169 : decode prog_9_method_2_code 169 = .ok (.invokestatic 39, 3) := by decide +kernel
theorem dG_apply_172 : decode prog_9_method_2_code 172 = .ok (.ireturn, 1) := by decide +kernel
theorem dG_apply_173 : decode prog_9_method_2_code 173 = .ok (.aload_n 1, 1) := by decide +kernel
theorem dG_apply_174 : decode prog_9_method_2_code 174 = .ok (.aload_n 2, 1) := by decide +kernel
theorem dG_apply_175 : decode prog_9_method_2_code 175 = .ok (.aload 4, 2) := by decide +kernel
theorem dG_apply_177 : decode prog_9_method_2_code 177 = .ok (.invokestatic 35, 3) := by decide +kernel
theorem dG_apply_180 : decode prog_9_method_2_code 180 = .ok (.ireturn, 1) := by decide +kernel
theorem dG_apply_181 : decode prog_9_method_2_code 181 = .ok (.aload_n 1, 1) := by decide +kernel
theorem dG_apply_182 : decode prog_9_method_2_code 182 = .ok (.aload_n 2, 1) := by decide +kernel
theorem dG_apply_183 : decode prog_9_method_2_code 183 = .ok (.aload 4, 2) := by decide +kernel
theorem dG_apply_185 : decode prog_9_method_2_code 185 = .ok (.invokestatic 42, 3) := by decide +kernel
theorem dG_apply_188 : decode prog_9_method_2_code 188 = .ok (.ireturn, 1) := by decide +kernel
theorem dG_apply_189 : decode prog_9_method_2_code 189 = .ok (.aload_n 1, 1) := by decide +kernel
theorem dG_apply_190 : decode prog_9_method_2_code 190 = .ok (.iconst 0, 1) := by decide +kernel
theorem dG_apply_191 : decode prog_9_method_2_code 191 = .ok (.iconst 5, 1) := by decide +kernel
theorem dG_apply_192 : decode prog_9_method_2_code 192 = .ok (.invokevirtual 9, 3) := by decide +kernel
theorem dG_apply_195 : decode prog_9_method_2_code 195 = .ok (.ifCond .eq 13, 3) := by decide +kernel
theorem dG_apply_198 : decode prog_9_method_2_code 198 = .ok (.aload_n 1, 1) := by decide +kernel
theorem dG_apply_199 : decode prog_9_method_2_code 199 = .ok (.aload_n 3, 1) := by decide +kernel
theorem dG_apply_200 : decode prog_9_method_2_code 200 = .ok (.aload 4, 2) := by decide +kernel
theorem dG_apply_202 : decode prog_9_method_2_code 202 = .ok (.invokestatic 25, 3) := by decide +kernel
theorem dG_apply_205 : decode prog_9_method_2_code 205 = .ok (.goto 4, 3) := by decide +kernel
theorem dG_apply_208 : decode prog_9_method_2_code 208 = .ok (.iconst 1, 1) := by decide +kernel
theorem dG_apply_209 : decode prog_9_method_2_code 209 = .ok (.ireturn, 1) := by decide +kernel
theorem dG_apply_210 : decode prog_9_method_2_code 210 = .ok (.aload_n 1, 1) := by decide +kernel
theorem dG_apply_211 : decode prog_9_method_2_code 211 = .ok (.aload_n 3, 1) := by decide +kernel
theorem dG_apply_212 : decode prog_9_method_2_code 212 = .ok (.aload 4, 2) := by decide +kernel
theorem dG_apply_214 : decode prog_9_method_2_code 214 = .ok (.invokestatic 45, 3) := by decide +kernel
theorem dG_apply_217 : decode prog_9_method_2_code 217 = .ok (.ireturn, 1) := by decide +kernel
theorem dG_apply_218 : decode prog_9_method_2_code 218 = .ok (.aload_n 1, 1) := by decide +kernel
theorem dG_apply_219 : decode prog_9_method_2_code 219 = .ok (.aload 4, 2) := by decide +kernel
theorem dG_apply_221 : decode prog_9_method_2_code 221 = .ok (.invokestatic 48, 3) := by decide +kernel
theorem dG_apply_224 : decode prog_9_method_2_code 224 = .ok (.ireturn, 1) := by decide +kernel
theorem dG_apply_225 : decode prog_9_method_2_code 225 = .ok (.aload_n 1, 1) := by decide +kernel
theorem dG_apply_226 : decode prog_9_method_2_code 226 = .ok (.aload 4, 2) := by decide +kernel
theorem dG_apply_228 : decode prog_9_method_2_code 228 = .ok (.invokestatic 51, 3) := by decide +kernel
theorem dG_apply_231 : decode prog_9_method_2_code 231 = .ok (.ireturn, 1) := by decide +kernel
theorem dG_apply_232 : decode prog_9_method_2_code 232 = .ok (.aload_n 1, 1) := by decide +kernel
theorem dG_apply_233 : decode prog_9_method_2_code 233 = .ok (.bipush 65, 2) := by decide +kernel
theorem dG_apply_235 : decode prog_9_method_2_code 235 = .ok (.bipush 32, 2) := by decide +kernel
theorem dG_apply_237 : decode prog_9_method_2_code 237 = .ok (.aload 4, 2) := by decide +kernel
theorem dG_apply_239 : decode prog_9_method_2_code 239 = .ok (.invokestatic 54, 3) := by decide +kernel
theorem dG_apply_242 : decode prog_9_method_2_code 242 = .ok (.ireturn, 1) := by decide +kernel
theorem dG_apply_243 : decode prog_9_method_2_code 243 = .ok (.aload_n 1, 1) := by decide +kernel
theorem dG_apply_244 : decode prog_9_method_2_code 244 = .ok (.bipush 97, 2) := by decide +kernel
theorem dG_apply_246 : decode prog_9_method_2_code 246 = .ok (.bipush (-32), 2) := by decide +kernel
theorem dG_apply_248 : decode prog_9_method_2_code 248 = .ok (.aload 4, 2) := by decide +kernel
theorem dG_apply_250 : decode prog_9_method_2_code 250 = .ok (.invokestatic 54, 3) := by decide +kernel
theorem dG_apply_253 : decode prog_9_method_2_code 253 = .ok (.ireturn, 1) := by decide +kernel
theorem dG_codes_0 : decode prog_9_method_14_code 0 = .ok (.aload_n 0, 1) := by decide +kernel
theorem dG_codes_1 : decode prog_9_method_14_code 1 = .ok (.iconst 0, 1) := by decide +kernel
theorem dG_codes_2 : decode prog_9_method_14_code 2 = .ok (.iconst 4, 1) := by decide +kernel
theorem dG_codes_3 : decode prog_9_method_14_code 3 = .ok (.invokevirtual 9, 3) := by decide +kernel
theorem dG_codes_6 : decode prog_9_method_14_code 6 = .ok (.ifCond .ne 5, 3) := by decide +kernel
theorem dG_codes_9 : decode prog_9_method_14_code 9 = .ok (.iconst 1, 1) := by decide +kernel
theorem dG_codes_10 : decode prog_9_method_14_code 10 = .ok (.ireturn, 1) := by decide +kernel
theorem dG_codes_11 : decode prog_9_method_14_code 11 = .ok (.aload_n 1, 1) := by decide +kernel
theorem dG_codes_12 : decode prog_9_method_14_code 12 = .ok (.invokevirtual 82, 3) := by decide +kernel
theorem dG_codes_15 : decode prog_9_method_14_code 15 = .ok (.istore_n 2, 1) := by decide +kernel
theorem dG_codes_16 : decode prog_9_method_14_code 16 = .ok (.iconst 0, 1) := by decide +kernel
theorem dG_codes_17 : decode prog_9_method_14_code 17 = .ok (.istore_n 3, 1) := by decide +kernel
theorem dG_codes_18 : decode prog_9_method_14_code 18 = .ok (.iload_n 3, 1) := by decide +kernel
theorem dG_codes_19 : decode prog_9_method_14_code 19 = .ok (.aload_n 0, 1) := by decide +kernel
theorem dG_codes_20 : decode prog_9_method_14_code 20 = .ok (.iconst 0, 1) := by decide +kernel
theorem dG_codes_21 : decode prog_9_method_14_code 21 = .ok (.invokevirtual 80, 3) := by decide +kernel
theorem dG_codes_24 : decode prog_9_method_14_code 24 = .ok (.if_icmp .ge 20, 3) := by decide +kernel
theorem dG_codes_27 : decode prog_9_method_14_code 27 = .ok (.aload_n 1, 1) := by decide +kernel
theorem dG_codes_28 : decode prog_9_method_14_code 28 = .ok (.aload_n 0, 1) := by decide +kernel
theorem dG_codes_29 : decode prog_9_method_14_code 29 = .ok (.iconst 0, 1) := by decide +kernel
theorem dG_codes_30 : decode prog_9_method_14_code 30 = .ok (.iload_n 3, 1) := by decide +kernel
theorem dG_codes_31 : decode prog_9_method_14_code 31 = .ok (.invokevirtual 142, 3) := by decide +kernel
theorem dG_codes_34 : decode prog_9_method_14_code 34 = .ok (.i2l, 1) := by decide +kernel
theorem dG_codes_35 : decode prog_9_method_14_code 35 = .ok (.invokevirtual 66, 3) := by decide +kernel
theorem dG_codes_38 : decode prog_9_method_14_code 38 = .ok (.iinc 3 1, 3) := by decide +kernel
theorem dG_codes_41 : decode prog_9_method_14_code 41 = .ok (.goto (-23), 3) := by decide +kernel
theorem dG_codes_44 : decode prog_9_method_14_code 44 = .ok (.aload_n 1, 1) := by decide +kernel
theorem dG_codes_45 : decode prog_9_method_14_code 45 = .ok (.iload_n 2, 1) := by decide +kernel
theorem dG_codes_46 : decode prog_9_method_14_code 46 = .ok (.iconst 5, 1) := by decide +kernel
theorem dG_codes_47 : decode prog_9_method_14_code 47 = .ok (.aload_n 0, 1) := by decide +kernel
theorem dG_codes_48 : decode prog_9_method_14_code 48 = .ok (.iconst 0, 1) := by decide +kernel
theorem dG_codes_49 : decode prog_9_method_14_code 49 = .ok (.invokevirtual 80, 3) := by decide +kernel
theorem dG_codes_52 : decode prog_9_method_14_code 52 = .ok (.invokevirtual 89, 3) := by decide +kernel
theorem dG_codes_55 : decode prog_9_method_14_code 55 = .ok (.iconst 0, 1) := by decide +kernel
theorem dG_codes_56 : decode prog_9_method_14_code 56 = .ok (.ireturn, 1) := by decide +kernel
theorem dG_fromJson_0 : decode prog_9_method_9_code 0 = .ok (.aload_n 0, 1) := by decide +kernel
theorem dG_fromJson_1 : decode prog_9_method_9_code 1 = .ok (.iconst 0, 1) := by decide +kernel
theorem dG_fromJson_2 : decode prog_9_method_9_code 2 = .ok (.iconst 4, 1) := by decide +kernel
theorem dG_fromJson_3 : decode prog_9_method_9_code 3 = .ok (.invokevirtual 9, 3) := by decide +kernel
theorem dG_fromJson_6 : decode prog_9_method_9_code 6 = .ok (.ifCond .ne 5, 3) := by decide +kernel
theorem dG_fromJson_9 : decode prog_9_method_9_code 9 = .ok (.iconst 1, 1) := by decide +kernel
theorem dG_fromJson_10 : decode prog_9_method_9_code 10 = .ok (.ireturn, 1) := by decide +kernel
theorem dG_fromJson_11 : decode prog_9_method_9_code 11 = .ok (.aload_n 0, 1) := by decide +kernel
theorem dG_fromJson_12 : decode prog_9_method_9_code 12 = .ok (.aload_n 1, 1) := by decide +kernel
theorem dG_fromJson_13 : decode prog_9_method_9_code 13 = .ok (.aload_n 2, 1) := by decide +kernel
theorem dG_fromJson_14 : decode prog_9_method_9_code 14 = .ok (.invokestatic 116, 3) := by decide +kernel
theorem dG_fromJson_17 : decode prog_9_method_9_code 17 = .ok (.invokevirtual 125, 3) := by decide +kernel
theorem dG_fromJson_20 : decode prog_9_method_9_code 20 = .ok (.iconst (-1), 1) := by decide +kernel
theorem dG_fromJson_21 : decode prog_9_method_9_code 21 = .ok (.if_icmp .ne 7, 3) := by decide +kernel
theorem dG_fromJson_24 : decode prog_9_method_9_code 24 = .ok (.iconst 0, 1) := by decide +kernel
theorem dG_fromJson_25 : decode prog_9_method_9_code 25 = .ok (.goto 4, 3) := by decide +kernel
theorem dG_fromJson_28 : decode prog_9_method_9_code 28 = .ok (.iconst 5, 1) := by decide +kernel
theorem dG_fromJson_29 : decode prog_9_method_9_code 29 = .ok (.ireturn, 1) := by decide +kernel
theorem dG_inCase_0 : decode prog_9_method_17_code 0 = .ok (.aload_n 0, 1) := by decide +kernel
theorem dG_inCase_1 : decode prog_9_method_17_code 1 = .ok (.iconst 0, 1) := by decide +kernel
theorem dG_inCase_2 : decode prog_9_method_17_code 2 = .ok (.iconst 4, 1) := by decide +kernel
theorem dG_inCase_3 : decode prog_9_method_17_code 3 = .ok (.invokevirtual 9, 3) := by decide +kernel
theorem dG_inCase_6 : decode prog_9_method_17_code 6 = .ok (.ifCond .ne 5, 3) := by decide +kernel
theorem dG_inCase_9 : decode prog_9_method_17_code 9 = .ok (.iconst 1, 1) := by decide +kernel
theorem dG_inCase_10 : decode prog_9_method_17_code 10 = .ok (.ireturn, 1) := by decide +kernel
theorem dG_inCase_11 : decode prog_9_method_17_code 11 = .ok (.aload_n 3, 1) := by decide +kernel
theorem dG_inCase_12 : decode prog_9_method_17_code 12 = .ok (.invokevirtual 82, 3) := by decide +kernel
theorem dG_inCase_15 : decode prog_9_method_17_code 15 = .ok (.istore 4, 2) := by decide +kernel
theorem dG_inCase_17 : decode prog_9_method_17_code 17 = .ok (.iconst 0, 1) := by decide +kernel
theorem dG_inCase_18 : decode prog_9_method_17_code 18 = .ok (.istore 5, 2) := by decide +kernel
theorem dG_inCase_20 : decode prog_9_method_17_code 20 = .ok (.iload 5, 2) := by decide +kernel
theorem dG_inCase_22 : decode prog_9_method_17_code 22 = .ok (.aload_n 0, 1) := by decide +kernel
theorem dG_inCase_23 : decode prog_9_method_17_code 23 = .ok (.iconst 0, 1) := by decide +kernel
theorem dG_inCase_24 : decode prog_9_method_17_code 24 = .ok (.invokevirtual 80, 3) := by decide +kernel
theorem dG_inCase_27 : decode prog_9_method_17_code 27 = .ok (.if_icmp .ge 60, 3) := by decide +kernel
theorem dG_inCase_30 : decode prog_9_method_17_code 30 = .ok (.aload_n 0, 1) := by decide +kernel
theorem dG_inCase_31 : decode prog_9_method_17_code 31 = .ok (.iconst 0, 1) := by decide +kernel
theorem dG_inCase_32 : decode prog_9_method_17_code 32 = .ok (.iload 5, 2) := by decide +kernel
theorem dG_inCase_34 : decode prog_9_method_17_code 34 = .ok (.invokevirtual 142, 3) := by decide +kernel
theorem dG_inCase_37 : decode prog_9_method_17_code 37 = .ok (.istore 6, 2) := by decide +kernel
theorem dG_inCase_39 : decode prog_9_method_17_code 39 = .ok (.iload 6, 2) := by decide +kernel
theorem dG_inCase_41 : decode prog_9_method_17_code 41 = .ok (.iload_n 1, 1) := by decide +kernel
theorem dG_inCase_42 : decode prog_9_method_17_code 42 = .ok (.if_icmp .lt 16, 3) := by decide +kernel
theorem dG_inCase_45 : decode prog_9_method_17_code 45 = .ok (.iload 6, 2) := by decide +kernel
theorem dG_inCase_47 : decode prog_9_method_17_code 47 = .ok (.iload_n 1, 1) := by decide +kernel
theorem dG_inCase_48 : decode prog_9_method_17_code 48 = .ok (.bipush 26, 2) := by decide +kernel
theorem dG_inCase_50 : decode prog_9_method_17_code 50 = .ok (.iadd, 1) := by decide +kernel
theorem dG_inCase_51 : decode prog_9_method_17_code 51 = .ok (.if_icmp .ge 7, 3) := by decide +kernel
theorem dG_inCase_54 : decode prog_9_method_17_code 54 = .ok (.iconst 1, 1) := by decide +kernel
theorem dG_inCase_55 : decode prog_9_method_17_code 55 = .ok (.goto 4, 3) := by decide +kernel
theorem dG_inCase_58 : decode prog_9_method_17_code 58 = .ok (.iconst 0, 1) := by decide +kernel
theorem dG_inCase_59 : decode prog_9_method_17_code 59 = .ok (.istore 7, 2) := by decide +kernel
theorem dG_inCase_61 : decode prog_9_method_17_code 61 = .ok (.aload_n 3, 1) := by decide +kernel
theorem dG_inCase_62 : decode prog_9_method_17_code 62 = .ok (.iload 7, 2) := by decide +kernel
theorem dG_inCase_64 : decode prog_9_method_17_code 64 = .ok (.ifCond .eq 11, 3) := by decide +kernel
theorem dG_inCase_67 : decode prog_9_method_17_code 67 = .ok (.iload 6, 2) := by decide +kernel
theorem dG_inCase_69 : decode prog_9_method_17_code 69 = .ok (.iload_n 2, 1) := by decide +kernel
theorem dG_inCase_70 : decode prog_9_method_17_code 70 = .ok (.iadd, 1) := by decide +kernel
theorem dG_inCase_71 : decode prog_9_method_17_code 71 = .ok (.i2l, 1) := by decide +kernel
theorem dG_inCase_72 : decode prog_9_method_17_code 72 = .ok (.goto 6, 3) := by decide +kernel
theorem dG_inCase_75 : decode prog_9_method_17_code 75 = .ok (.iload 6, 2) := by decide +kernel
theorem dG_inCase_77 : decode prog_9_method_17_code 77 = .ok (.i2l, 1) := by decide +kernel
theorem dG_inCase_78 : decode prog_9_method_17_code 78 = .ok (.invokevirtual 146, 3) := by decide +kernel
theorem dG_inCase_81 : decode prog_9_method_17_code 81 = .ok (.iinc 5 1, 3) := by decide +kernel
theorem dG_inCase_84 : decode prog_9_method_17_code 84 = .ok (.goto (-64), 3) := by decide +kernel
theorem dG_inCase_87 : decode prog_9_method_17_code 87 = .ok (.aload_n 3, 1) := by decide +kernel
theorem dG_inCase_88 : decode prog_9_method_17_code 88 = .ok (.iload 4, 2) := by decide +kernel
theorem dG_inCase_90 : decode prog_9_method_17_code 90 = .ok (.iconst 4, 1) := by decide +kernel
theorem dG_inCase_91 : decode prog_9_method_17_code 91 = .ok (.aload_n 0, 1) := by decide +kernel
theorem dG_inCase_92 : decode prog_9_method_17_code 92 = .ok (.iconst 0, 1) := by decide +kernel
theorem dG_inCase_93 : decode prog_9_method_17_code 93 = .ok (.invokevirtual 80, 3) := by decide +kernel
theorem dG_inCase_96 : decode prog_9_method_17_code 96 = .ok (.invokevirtual 89, 3) := by decide +kernel
theorem dG_inCase_99 : decode prog_9_method_17_code 99 = .ok (.iconst 0, 1) := by decide +kernel
theorem dG_inCase_100 : decode prog_9_method_17_code 100 = .ok (.ireturn, 1) := by decide +kernel
theorem dG_isOfNumbers_0 : decode prog_9_method_16_code 0 = .ok (.aload_n 0, 1) := by decide +kernel
theorem dG_isOfNumbers_1 : decode prog_9_method_16_code 1 = .ok (.iconst 0, 1) := by decide +kernel
theorem dG_isOfNumbers_2 : decode prog_9_method_16_code 2 = .ok (.iconst 5, 1) := by decide +kernel
theorem dG_isOfNumbers_3 : decode prog_9_method_16_code 3 = .ok (.invokevirtual 9, 3) := by decide +kernel
theorem dG_isOfNumbers_6 : decode prog_9_method_16_code 6 = .ok (.ifCond .ne 5, 3) := by decide +kernel
theorem dG_isOfNumbers_9 : decode prog_9_method_16_code 9 = .ok (.iconst 0, 1) := by decide +kernel
theorem dG_isOfNumbers_10 : decode prog_9_method_16_code 10 = .ok (.ireturn, 1) := by decide +kernel
theorem dG_isOfNumbers_11 : decode prog_9_method_16_code 11 = .ok (.iconst 1, 1) := by decide +kernel
theorem dG_isOfNumbers_12 : decode prog_9_method_16_code 12 = .ok (.istore_n 1, 1) := by decide +kernel
theorem dG_isOfNumbers_13 : decode prog_9_method_16_code 13 = .ok (.iconst 0, 1) := by decide +kernel
theorem dG_isOfNumbers_14 : decode prog_9_method_16_code 14 = .ok (.istore_n 2, 1) := by decide +kernel
theorem dG_isOfNumbers_15 : decode prog_9_method_16_code 15 = .ok (.iload_n 2, 1) := by decide +kernel
theorem dG_isOfNumbers_16 : decode prog_9_method_16_code 16 = .ok (.aload_n 0, 1) := by decide +kernel
theorem dG_isOfNumbers_17 : decode prog_9_method_16_code 17 = .ok (.iconst 0, 1) := by decide +kernel
theorem dG_isOfNumbers_18 : decode prog_9_method_16_code 18 = .ok (.invokevirtual 80, 3) := by decide +kernel
theorem dG_isOfNumbers_21 : decode prog_9_method_16_code 21 = .ok (.if_icmp .ge 26, 3) := by decide +kernel
theorem dG_isOfNumbers_24 : decode prog_9_method_16_code 24 = .ok (.aload_n 0, 1) := by decide +kernel
theorem dG_isOfNumbers_25 : decode prog_9_method_16_code 25 = .ok (.iload_n 1, 1) := by decide +kernel
theorem dG_isOfNumbers_26 : decode prog_9_method_16_code 26 = .ok (.iconst 3, 1) := by decide +kernel
theorem dG_isOfNumbers_27 : decode prog_9_method_16_code 27 = .ok (.invokevirtual 9, 3) := by decide +kernel
theorem dG_isOfNumbers_30 : decode prog_9_method_16_code 30 = .ok (.ifCond .ne 5, 3) := by decide +kernel
theorem dG_isOfNumbers_33 : decode prog_9_method_16_code 33 = .ok (.iconst 0, 1) := by decide +kernel
theorem dG_isOfNumbers_34 : decode prog_9_method_16_code 34 = .ok (.ireturn, 1) := by decide +kernel
theorem dG_isOfNumbers_35 : decode prog_9_method_16_code 35 = .ok (.aload_n 0, 1) := by decide +kernel
theorem dG_isOfNumbers_36 : decode prog_9_method_16_code 36 = .ok (.iload_n 1, 1) := by decide +kernel
theorem dG_isOfNumbers_37 : decode prog_9_method_16_code 37 = .ok (.invokevirtual 86, 3) := by decide +kernel
theorem dG_isOfNumbers_40 : decode prog_9_method_16_code 40 = .ok (.istore_n 1, 1) := by decide +kernel
theorem dG_isOfNumbers_41 : decode prog_9_method_16_code 41 = .ok (.iinc 2 1, 3) := by decide +kernel
theorem dG_isOfNumbers_44 : decode prog_9_method_16_code 44 = .ok (.goto (-29), 3) := by decide +kernel
theorem dG_isOfNumbers_47 : decode prog_9_method_16_code 47 = .ok (.iconst 1, 1) := by decide +kernel
theorem dG_isOfNumbers_48 : decode prog_9_method_16_code 48 = .ok (.ireturn, 1) := by decide +kernel
theorem dG_itself_0 : decode prog_9_method_3_code 0 = .ok (.aload_n 1, 1) := by decide +kernel
theorem dG_itself_1 : decode prog_9_method_3_code 1 = .ok (.aload_n 0, 1) := by decide +kernel
theorem dG_itself_2 : decode prog_9_method_3_code 2 = .ok (.iconst 0, 1) := by decide +kernel
theorem dG_itself_3 : decode prog_9_method_3_code 3 = .ok (.invokevirtual 58, 3) := by decide +kernel
theorem dG_itself_6 : decode prog_9_method_3_code 6 = .ok (.iconst 0, 1) := by decide +kernel
theorem dG_itself_7 : decode prog_9_method_3_code 7 = .ok (.ireturn, 1) := by decide +kernel
theorem dG_keys_0 : decode prog_9_method_5_code 0 = .ok (.aload_n 0, 1) := by decide +kernel
theorem dG_keys_1 : decode prog_9_method_5_code 1 = .ok (.iconst 0, 1) := by decide +kernel
theorem dG_keys_2 : decode prog_9_method_5_code 2 = .ok (.iconst 5, 1) := by decide +kernel
theorem dG_keys_3 : decode prog_9_method_5_code 3 = .ok (.invokevirtual 9, 3) := by decide +kernel
theorem dG_keys_6 : decode prog_9_method_5_code 6 = .ok (.ifCond .ne 15, 3) := by decide +kernel
theorem dG_keys_9 : decode prog_9_method_5_code 9 = .ok (.aload_n 0, 1) := by decide +kernel
theorem dG_keys_10 : decode prog_9_method_5_code 10 = .ok (.iconst 0, 1) := by decide +kernel
theorem dG_keys_11 : decode prog_9_method_5_code 11 = .ok (.bipush 6, 2) := by decide +kernel
theorem dG_keys_13 : decode prog_9_method_5_code 13 = .ok (.invokevirtual 9, 3) := by decide +kernel
theorem dG_keys_16 : decode prog_9_method_5_code 16 = .ok (.ifCond .ne 5, 3) := by decide +kernel
theorem dG_keys_19 : decode prog_9_method_5_code 19 = .ok (.iconst 1, 1) := by decide +kernel
theorem dG_keys_20 : decode prog_9_method_5_code 20 = .ok (.ireturn, 1) := by decide +kernel
theorem dG_keys_21 : decode prog_9_method_5_code 21 = .ok (.aload_n 1, 1) := by decide +kernel
theorem dG_keys_22 : decode prog_9_method_5_code 22 = .ok (.invokevirtual 82, 3) := by decide +kernel
theorem dG_keys_25 : decode prog_9_method_5_code 25 = .ok (.istore_n 2, 1) := by decide +kernel
theorem dG_keys_26 : decode prog_9_method_5_code 26 = .ok (.iconst 1, 1) := by decide +kernel
theorem dG_keys_27 : decode prog_9_method_5_code 27 = .ok (.istore_n 3, 1) := by decide +kernel
theorem dG_keys_28 : decode prog_9_method_5_code 28 = .ok (.iconst 0, 1) := by decide +kernel
theorem dG_keys_29 : decode prog_9_method_5_code 29 = .ok (.istore 4, 2) := by decide +kernel
theorem dG_keys_31 : decode prog_9_method_5_code 31 = .ok (.iload 4, 2) := by decide +kernel
theorem dG_keys_33 : decode prog_9_method_5_code 33 = .ok (.aload_n 0, 1) := by decide +kernel
theorem dG_keys_34 : decode prog_9_method_5_code 34 = .ok (.iconst 0, 1) := by decide +kernel
theorem dG_keys_35 : decode prog_9_method_5_code 35 = .ok (.invokevirtual 80, 3) := by decide +kernel
theorem dG_keys_38 : decode prog_9_method_5_code 38 = .ok (.if_icmp .ge 44, 3) := by decide +kernel
theorem dG_keys_41 : decode prog_9_method_5_code 41 = .ok (.aload_n 0, 1) := by decide +kernel
theorem dG_keys_42 : decode prog_9_method_5_code 42 = .ok (.iconst 0, 1) := by decide +kernel
theorem dG_keys_43 : decode prog_9_method_5_code 43 = .ok (.iconst 5, 1) := by decide +kernel
theorem dG_keys_44 : decode prog_9_method_5_code 44 = .ok (.invokevirtual 9, 3) := by decide +kernel
theorem dG_keys_47 : decode prog_9_method_5_code 47 = .ok (.ifCond .eq 13, 3) := by decide +kernel
theorem dG_keys_50 : decode prog_9_method_5_code 50 = .ok (.aload_n 1, 1) := by decide +kernel
theorem dG_keys_51 : decode prog_9_method_5_code 51 = .ok (.iload 4, 2) := by decide +kernel
theorem dG_keys_53 : decode prog_9_method_5_code 53 = .ok (.i2l, 1) := by decide +kernel
theorem dG_keys_54 : decode prog_9_method_5_code 54 = .ok (.invokevirtual 66, 3) := by decide +kernel
theorem dG_keys_57 : decode prog_9_method_5_code 57 = .ok (.goto 19, 3) := by decide +kernel
theorem dG_keys_60 : decode prog_9_method_5_code 60 = .ok (.aload_n 1, 1) := by decide +kernel
theorem dG_keys_61 : decode prog_9_method_5_code 61 = .ok (.aload_n 0, 1) := by decide +kernel
theorem dG_keys_62 : decode prog_9_method_5_code 62 = .ok (.iload_n 3, 1) := by decide +kernel
theorem dG_keys_63 : decode prog_9_method_5_code 63 = .ok (.invokevirtual 58, 3) := by decide +kernel
theorem dG_keys_66 : decode prog_9_method_5_code 66 = .ok (.aload_n 0, 1) := by decide +kernel
theorem dG_keys_67 : decode prog_9_method_5_code 67 = .ok (.aload_n 0, 1) := by decide +kernel
theorem dG_keys_68 : decode prog_9_method_5_code 68 = .ok (.iload_n 3, 1) := by decide +kernel
theorem dG_keys_69 : decode prog_9_method_5_code 69 = .ok (.invokevirtual 86, 3) := by decide +kernel
theorem dG_keys_72 : decode prog_9_method_5_code 72 = .ok (.invokevirtual 86, 3) := by decide +kernel
theorem dG_keys_75 : decode prog_9_method_5_code 75 = .ok (.istore_n 3, 1) := by decide +kernel
theorem dG_keys_76 : decode prog_9_method_5_code 76 = .ok (.iinc 4 1, 3) := by decide +kernel
theorem dG_keys_79 : decode prog_9_method_5_code 79 = .ok (.goto (-48), 3) := by decide +kernel
theorem dG_keys_82 : decode prog_9_method_5_code 82 = .ok (.aload_n 1, 1) := by decide +kernel
theorem dG_keys_83 : decode prog_9_method_5_code 83 = .ok (.iload_n 2, 1) := by decide +kernel
theorem dG_keys_84 : decode prog_9_method_5_code 84 = .ok (.iconst 5, 1) := by decide +kernel
theorem dG_keys_85 : decode prog_9_method_5_code 85 = .ok (.aload_n 0, 1) := by decide +kernel
theorem dG_keys_86 : decode prog_9_method_5_code 86 = .ok (.iconst 0, 1) := by decide +kernel
theorem dG_keys_87 : decode prog_9_method_5_code 87 = .ok (.invokevirtual 80, 3) := by decide +kernel
theorem dG_keys_90 : decode prog_9_method_5_code 90 = .ok (.invokevirtual 89, 3) := by decide +kernel
theorem dG_keys_93 : decode prog_9_method_5_code 93 = .ok (.iconst 0, 1) := by decide +kernel
theorem dG_keys_94 : decode prog_9_method_5_code 94 = .ok (.ireturn, 1) := by decide +kernel
theorem dG_length_0 : decode prog_9_method_4_code 0 = .ok (.aload_n 0, 1) := by decide +kernel
theorem dG_length_1 : decode prog_9_method_4_code 1 = .ok (.iconst 0, 1) := by decide +kernel
theorem dG_length_2 : decode prog_9_method_4_code 2 = .ok (.invokevirtual 62, 3) := by decide +kernel
theorem dG_length_5 : decode prog_9_method_4_code 5 = .ok (.tableswitch 54 0 3 #[33, 31, 31, 40], 31) := by decide +kernel
theorem dG_length_36 : decode prog_9_method_4_code 36 = .ok (.iconst 1, 1) := by decide +kernel
theorem dG_length_37 : decode prog_9_method_4_code 37 = .ok (.ireturn, 1) := by decide +kernel
theorem dG_length_38 : decode prog_9_method_4_code 38 = .ok (.aload_n 1, 1) := by decide +kernel
theorem dG_length_39 : decode prog_9_method_4_code 39 = .ok (.lconst 0, 1) := by decide +kernel
theorem dG_length_40 : decode prog_9_method_4_code 40 = .ok (.invokevirtual 66, 3) := by decide +kernel
theorem dG_length_43 : decode prog_9_method_4_code 43 = .ok (.iconst 0, 1) := by decide +kernel
theorem dG_length_44 : decode prog_9_method_4_code 44 = .ok (.ireturn, 1) := by decide +kernel
theorem dG_length_45 : decode prog_9_method_4_code 45 = .ok (.aload_n 1, 1) := by decide +kernel
theorem dG_length_46 : decode prog_9_method_4_code 46 = .ok (.aload_n 0, 1) := by decide +kernel
theorem dG_length_47 : decode prog_9_method_4_code 47 = .ok (.iconst 0, 1) := by decide +kernel
theorem dG_length_48 : decode prog_9_method_4_code 48 = .ok (.invokevirtual 70, 3) := by decide +kernel
theorem dG_length_51 : decode prog_9_method_4_code 51 = .ok (.invokestatic 74, 3) := by decide +kernel
theorem dG_length_54 : decode prog_9_method_4_code 54 = .ok (.invokevirtual 66, 3) := by decide +kernel
theorem dG_length_57 : decode prog_9_method_4_code 57 = .ok (.iconst 0, 1) := by decide +kernel
theorem dG_length_58 : decode prog_9_method_4_code 58 = .ok (.ireturn, 1) := by decide +kernel
theorem dG_length_59 : decode prog_9_method_4_code 59 = .ok (.aload_n 1, 1) := by decide +kernel
theorem dG_length_60 : decode prog_9_method_4_code 60 = .ok (.aload_n 0, 1) := by decide +kernel
theorem dG_length_61 : decode prog_9_method_4_code 61 = .ok (.iconst 0, 1) := by decide +kernel
theorem dG_length_62 : decode prog_9_method_4_code 62 = .ok (.invokevirtual 80, 3) := by decide +kernel
theorem dG_length_65 : decode prog_9_method_4_code 65 = .ok (.i2l, 1) := by decide +kernel
theorem dG_length_66 : decode prog_9_method_4_code 66 = .ok (.invokevirtual 66, 3) := by decide +kernel
theorem dG_length_69 : decode prog_9_method_4_code 69 = .ok (.iconst 0, 1) := by decide +kernel
theorem dG_length_70 : decode prog_9_method_4_code 70 = .ok (.ireturn, 1) := by decide +kernel
theorem dG_ofCodes_0 : decode prog_9_method_15_code 0 = .ok (.aload_n 0, 1) := by decide +kernel
theorem dG_ofCodes_1 : decode prog_9_method_15_code 1 = .ok (.invokestatic 152, 3) := by decide +kernel
theorem dG_ofCodes_4 : decode prog_9_method_15_code 4 = .ok (.ifCond .ne 5, 3) := by decide +kernel
theorem dG_ofCodes_7 : decode prog_9_method_15_code 7 = .ok (.iconst 1, 1) := by decide +kernel
theorem dG_ofCodes_8 : decode prog_9_method_15_code 8 = .ok (.ireturn, 1) := by decide +kernel
theorem dG_ofCodes_9 : decode prog_9_method_15_code 9 = .ok (.aload_n 1, 1) := by decide +kernel
theorem dG_ofCodes_10 : decode prog_9_method_15_code 10 = .ok (.invokevirtual 82, 3) := by decide +kernel
theorem dG_ofCodes_13 : decode prog_9_method_15_code 13 = .ok (.istore_n 2, 1) := by decide +kernel
theorem dG_ofCodes_14 : decode prog_9_method_15_code 14 = .ok (.iconst 1, 1) := by decide +kernel
theorem dG_ofCodes_15 : decode prog_9_method_15_code 15 = .ok (.istore_n 3, 1) := by decide +kernel
theorem dG_ofCodes_16 : decode prog_9_method_15_code 16 = .ok (.iload_n 3, 1) := by decide +kernel
theorem dG_ofCodes_17 : decode prog_9_method_15_code 17 = .ok (.aload_n 0, 1) := by decide +kernel
theorem dG_ofCodes_18 : decode prog_9_method_15_code 18 = .ok (.iconst 0, 1) := by decide +kernel
theorem dG_ofCodes_19 : decode prog_9_method_15_code 19 = .ok (.invokevirtual 80, 3) := by decide +kernel
theorem dG_ofCodes_22 : decode prog_9_method_15_code 22 = .ok (.if_icmp .gt 40, 3) := by decide +kernel
theorem dG_ofCodes_25 : decode prog_9_method_15_code 25 = .ok (.aload_n 0, 1) := by decide +kernel
theorem dG_ofCodes_26 : decode prog_9_method_15_code 26 = .ok (.iload_n 3, 1) := by decide +kernel
theorem dG_ofCodes_27 : decode prog_9_method_15_code 27 = .ok (.invokevirtual 70, 3) := by decide +kernel
theorem dG_ofCodes_30 : decode prog_9_method_15_code 30 = .ok (.lstore 4, 2) := by decide +kernel
theorem dG_ofCodes_32 : decode prog_9_method_15_code 32 = .ok (.lload 4, 2) := by decide +kernel
theorem dG_ofCodes_34 : decode prog_9_method_15_code 34 = .ok (.lconst 0, 1) := by decide +kernel
theorem dG_ofCodes_35 : decode prog_9_method_15_code 35 = .ok (.lcmp, 1) := by decide +kernel
theorem dG_ofCodes_36 : decode prog_9_method_15_code 36 = .ok (.ifCond .lt 12, 3) := by decide +kernel
theorem dG_ofCodes_39 : decode prog_9_method_15_code 39 = .ok (.lload 4, 2) := by decide +kernel
theorem dG_ofCodes_41 : decode prog_9_method_15_code 41 = .ok (.ldc2_w 156, 3) := by decide +kernel
theorem dG_ofCodes_44 : decode prog_9_method_15_code 44 = .ok (.lcmp, 1) := by decide +kernel
theorem dG_ofCodes_45 : decode prog_9_method_15_code 45 = .ok (.ifCond .le 5, 3) := by decide +kernel
theorem dG_ofCodes_48 : decode prog_9_method_15_code 48 = .ok (.iconst 2, 1) := by decide +kernel
theorem dG_ofCodes_49 : decode prog_9_method_15_code 49 = .ok (.ireturn, 1) := by decide +kernel
theorem dG_ofCodes_50 : decode prog_9_method_15_code 50 = .ok (.aload_n 1, 1) := by decide +kernel
theorem dG_ofCodes_51 : decode prog_9_method_15_code 51 = .ok (.lload 4, 2) := by decide +kernel
theorem dG_ofCodes_53 : decode prog_9_method_15_code 53 = .ok (.invokevirtual 146, 3) := by decide +kernel
theorem dG_ofCodes_56 : decode prog_9_method_15_code 56 = .ok (.iinc 3 1, 3) := by decide +kernel
theorem dG_ofCodes_59 : decode prog_9_method_15_code 59 = .ok (.goto (-43), 3) := by decide +kernel
theorem dG_ofCodes_62 : decode prog_9_method_15_code 62 = .ok (.aload_n 1, 1) := by decide +kernel
theorem dG_ofCodes_63 : decode prog_9_method_15_code 63 = .ok (.iload_n 2, 1) := by decide +kernel
theorem dG_ofCodes_64 : decode prog_9_method_15_code 64 = .ok (.iconst 4, 1) := by decide +kernel
theorem dG_ofCodes_65 : decode prog_9_method_15_code 65 = .ok (.aload_n 0, 1) := by decide +kernel
theorem dG_ofCodes_66 : decode prog_9_method_15_code 66 = .ok (.iconst 0, 1) := by decide +kernel
theorem dG_ofCodes_67 : decode prog_9_method_15_code 67 = .ok (.invokevirtual 80, 3) := by decide +kernel
theorem dG_ofCodes_70 : decode prog_9_method_15_code 70 = .ok (.invokevirtual 89, 3) := by decide +kernel
theorem dG_ofCodes_73 : decode prog_9_method_15_code 73 = .ok (.iconst 0, 1) := by decide +kernel
theorem dG_ofCodes_74 : decode prog_9_method_15_code 74 = .ok (.ireturn, 1) := by decide +kernel
theorem dG_printed_0 : decode prog_9_method_7_code 0 = .ok (.aload_n 1, 1) := by decide +kernel
theorem dG_printed_1 : decode prog_9_method_7_code 1 = .ok (.invokevirtual 101, 3) := by decide +kernel
theorem dG_printed_4 : decode prog_9_method_7_code 4 = .ok (.aload_n 0, 1) := by decide +kernel
theorem dG_printed_5 : decode prog_9_method_7_code 5 = .ok (.iconst 0, 1) := by decide +kernel
theorem dG_printed_6 : decode prog_9_method_7_code 6 = .ok (.aload_n 1, 1) := by decide +kernel
theorem dG_printed_7 : decode prog_9_method_7_code 7 = .ok (.iconst 0, 1) := by decide +kernel
theorem dG_printed_8 : decode prog_9_method_7_code 8 = .ok (.invokestatic 106, 3) := by decide +kernel
theorem dG_printed_11 : decode prog_9_method_7_code 11 = .ok (.aload_n 2, 1) := by decide +kernel
theorem dG_printed_12 : decode prog_9_method_7_code 12 = .ok (.aload_n 1, 1) := by decide +kernel
theorem dG_printed_13 : decode prog_9_method_7_code 13 = .ok (.invokevirtual 112, 3) := by decide +kernel
theorem dG_printed_16 : decode prog_9_method_7_code 16 = .ok (.iconst 0, 1) := by decide +kernel
theorem dG_printed_17 : decode prog_9_method_7_code 17 = .ok (.ireturn, 1) := by decide +kernel
theorem dG_putReversedArray_0 : decode prog_9_method_13_code 0 = .ok (.aload_n 2, 1) := by decide +kernel
theorem dG_putReversedArray_1 : decode prog_9_method_13_code 1 = .ok (.invokevirtual 82, 3) := by decide +kernel
theorem dG_putReversedArray_4 : decode prog_9_method_13_code 4 = .ok (.istore_n 3, 1) := by decide +kernel
theorem dG_putReversedArray_5 : decode prog_9_method_13_code 5 = .ok (.aload_n 1, 1) := by decide +kernel
theorem dG_putReversedArray_6 : decode prog_9_method_13_code 6 = .ok (.aload_n 0, 1) := by decide +kernel
theorem dG_putReversedArray_7 : decode prog_9_method_13_code 7 = .ok (.iconst 0, 1) := by decide +kernel
theorem dG_putReversedArray_8 : decode prog_9_method_13_code 8 = .ok (.invokevirtual 149, 3) := by decide +kernel
theorem dG_putReversedArray_11 : decode prog_9_method_13_code 11 = .ok (.aload_n 0, 1) := by decide +kernel
theorem dG_putReversedArray_12 : decode prog_9_method_13_code 12 = .ok (.iconst 0, 1) := by decide +kernel
theorem dG_putReversedArray_13 : decode prog_9_method_13_code 13 = .ok (.invokevirtual 80, 3) := by decide +kernel
theorem dG_putReversedArray_16 : decode prog_9_method_13_code 16 = .ok (.iconst 1, 1) := by decide +kernel
theorem dG_putReversedArray_17 : decode prog_9_method_13_code 17 = .ok (.isub, 1) := by decide +kernel
theorem dG_putReversedArray_18 : decode prog_9_method_13_code 18 = .ok (.istore 4, 2) := by decide +kernel
theorem dG_putReversedArray_20 : decode prog_9_method_13_code 20 = .ok (.iload 4, 2) := by decide +kernel
theorem dG_putReversedArray_22 : decode prog_9_method_13_code 22 = .ok (.ifCond .lt 20, 3) := by decide +kernel
theorem dG_putReversedArray_25 : decode prog_9_method_13_code 25 = .ok (.aload_n 2, 1) := by decide +kernel
theorem dG_putReversedArray_26 : decode prog_9_method_13_code 26 = .ok (.aload_n 0, 1) := by decide +kernel
theorem dG_putReversedArray_27 : decode prog_9_method_13_code 27 = .ok (.aload_n 1, 1) := by decide +kernel
theorem dG_putReversedArray_28 : decode prog_9_method_13_code 28 = .ok (.iload 4, 2) := by decide +kernel
theorem dG_putReversedArray_30 : decode prog_9_method_13_code 30 = .ok (.invokevirtual 98, 3) := by decide +kernel
theorem dG_putReversedArray_33 : decode prog_9_method_13_code 33 = .ok (.invokevirtual 58, 3) := by decide +kernel
theorem dG_putReversedArray_36 : decode prog_9_method_13_code 36 = .ok (.iinc 4 (-1), 3) := by decide +kernel
theorem dG_putReversedArray_39 : decode prog_9_method_13_code 39 = .ok (.goto (-19), 3) := by decide +kernel
theorem dG_putReversedArray_42 : decode prog_9_method_13_code 42 = .ok (.aload_n 2, 1) := by decide +kernel
theorem dG_putReversedArray_43 : decode prog_9_method_13_code 43 = .ok (.iload_n 3, 1) := by decide +kernel
theorem dG_putReversedArray_44 : decode prog_9_method_13_code 44 = .ok (.iconst 5, 1) := by decide +kernel
theorem dG_putReversedArray_45 : decode prog_9_method_13_code 45 = .ok (.aload_n 0, 1) := by decide +kernel
theorem dG_putReversedArray_46 : decode prog_9_method_13_code 46 = .ok (.iconst 0, 1) := by decide +kernel
theorem dG_putReversedArray_47 : decode prog_9_method_13_code 47 = .ok (.invokevirtual 80, 3) := by decide +kernel
theorem dG_putReversedArray_50 : decode prog_9_method_13_code 50 = .ok (.invokevirtual 89, 3) := by decide +kernel
theorem dG_putReversedArray_53 : decode prog_9_method_13_code 53 = .ok (.return_, 1) := by decide +kernel
theorem dG_putReversedString_0 : decode prog_9_method_12_code 0 = .ok (.aload_n 1, 1) := by decide +kernel
theorem dG_putReversedString_1 : decode prog_9_method_12_code 1 = .ok (.invokevirtual 82, 3) := by decide +kernel
theorem dG_putReversedString_4 : decode prog_9_method_12_code 4 = .ok (.istore_n 2, 1) := by decide +kernel
theorem dG_putReversedString_5 : decode prog_9_method_12_code 5 = .ok (.aload_n 0, 1) := by decide +kernel
theorem dG_putReversedString_6 : decode prog_9_method_12_code 6 = .ok (.iconst 0, 1) := by decide +kernel
theorem dG_putReversedString_7 : decode prog_9_method_12_code 7 = .ok (.invokevirtual 80, 3) := by decide +kernel
theorem dG_putReversedString_10 : decode prog_9_method_12_code 10 = .ok (.iconst 1, 1) := by decide +kernel
theorem dG_putReversedString_11 : decode prog_9_method_12_code 11 = .ok (.isub, 1) := by decide +kernel
theorem dG_putReversedString_12 : decode prog_9_method_12_code 12 = .ok (.istore_n 3, 1) := by decide +kernel
theorem dG_putReversedString_13 : decode prog_9_method_12_code 13 = .ok (.iload_n 3, 1) := by decide +kernel
theorem dG_putReversedString_14 : decode prog_9_method_12_code 14 = .ok (.ifCond .lt 20, 3) := by decide +kernel
theorem dG_putReversedString_17 : decode prog_9_method_12_code 17 = .ok (.aload_n 1, 1) := by decide +kernel
theorem dG_putReversedString_18 : decode prog_9_method_12_code 18 = .ok (.aload_n 0, 1) := by decide +kernel
theorem dG_putReversedString_19 : decode prog_9_method_12_code 19 = .ok (.iconst 0, 1) := by decide +kernel
theorem dG_putReversedString_20 : decode prog_9_method_12_code 20 = .ok (.iload_n 3, 1) := by decide +kernel
theorem dG_putReversedString_21 : decode prog_9_method_12_code 21 = .ok (.invokevirtual 142, 3) := by decide +kernel
theorem dG_putReversedString_24 : decode prog_9_method_12_code 24 = .ok (.i2l, 1) := by decide +kernel
theorem dG_putReversedString_25 : decode prog_9_method_12_code 25 = .ok (.invokevirtual 146, 3) := by decide +kernel
theorem dG_putReversedString_28 : decode prog_9_method_12_code 28 = .ok (.iinc 3 (-1), 3) := by decide +kernel
theorem dG_putReversedString_31 : decode prog_9_method_12_code 31 = .ok (.goto (-18), 3) := by decide +kernel
theorem dG_putReversedString_34 : decode prog_9_method_12_code 34 = .ok (.aload_n 1, 1) := by decide +kernel
theorem dG_putReversedString_35 : decode prog_9_method_12_code 35 = .ok (.iload_n 2, 1) := by decide +kernel
theorem dG_putReversedString_36 : decode prog_9_method_12_code 36 = .ok (.iconst 4, 1) := by decide +kernel
theorem dG_putReversedString_37 : decode prog_9_method_12_code 37 = .ok (.aload_n 0, 1) := by decide +kernel
theorem dG_putReversedString_38 : decode prog_9_method_12_code 38 = .ok (.iconst 0, 1) := by decide +kernel
theorem dG_putReversedString_39 : decode prog_9_method_12_code 39 = .ok (.invokevirtual 80, 3) := by decide +kernel
theorem dG_putReversedString_42 : decode prog_9_method_12_code 42 = .ok (.invokevirtual 89, 3) := by decide +kernel
theorem dG_putReversedString_45 : decode prog_9_method_12_code 45 = .ok (.return_, 1) := by decide +kernel
theorem dG_readerOf_0 : decode prog_9_method_10_code 0 = .ok (.aload_n 1, 1) := by decide +kernel
theorem dG_readerOf_1 : decode prog_9_method_10_code 1 = .ok (.invokevirtual 101, 3) := by decide +kernel
theorem dG_readerOf_4 : decode prog_9_method_10_code 4 = .ok (.aload_n 1, 1) := by decide +kernel
theorem dG_readerOf_5 : decode prog_9_method_10_code 5 = .ok (.aload_n 0, 1) := by decide +kernel
theorem dG_readerOf_6 : decode prog_9_method_10_code 6 = .ok (.iconst 0, 1) := by decide +kernel
theorem dG_readerOf_7 : decode prog_9_method_10_code 7 = .ok (.invokevirtual 128, 3) := by decide +kernel
theorem dG_readerOf_10 : decode prog_9_method_10_code 10 = .ok (.new 121, 3) := by decide +kernel
theorem dG_readerOf_13 : decode prog_9_method_10_code 13 = .ok (.dup, 1) := by decide +kernel
theorem dG_readerOf_14 : decode prog_9_method_10_code 14 = .ok (.aload_n 1, 1) := by decide +kernel
theorem dG_readerOf_15 : decode prog_9_method_10_code 15 = .ok (.aload_n 2, 1) := by decide +kernel
theorem dG_readerOf_16 : decode prog_9_method_10_code 16 = .ok (.invokespecial 131, 3) := by decide +kernel
theorem dG_readerOf_19 : decode prog_9_method_10_code 19 = .ok (.areturn, 1) := by decide +kernel
theorem dG_reversed_0 : decode prog_9_method_11_code 0 = .ok (.aload_n 0, 1) := by decide +kernel
theorem dG_reversed_1 : decode prog_9_method_11_code 1 = .ok (.iconst 0, 1) := by decide +kernel
theorem dG_reversed_2 : decode prog_9_method_11_code 2 = .ok (.invokevirtual 62, 3) := by decide +kernel
theorem dG_reversed_5 : decode prog_9_method_11_code 5 = .ok (.lookupswitch 62 #[(0, 35), (4, 47), (5, 54)], 35) := by decide +kernel
theorem dG_reversed_40 : decode prog_9_method_11_code 40 = .ok (.aload_n 2, 1) := by decide +kernel
theorem dG_reversed_41 : decode prog_9_method_11_code 41 = .ok (.aload_n 2, 1) := by decide +kernel
theorem dG_reversed_42 : decode prog_9_method_11_code 42 = .ok (.invokevirtual 82, 3) := by decide +kernel
theorem dG_reversed_45 : decode prog_9_method_11_code 45 = .ok (.iconst 5, 1) := by decide +kernel
theorem dG_reversed_46 : decode prog_9_method_11_code 46 = .ok (.iconst 0, 1) := by decide +kernel
theorem dG_reversed_47 : decode prog_9_method_11_code 47 = .ok (.invokevirtual 89, 3) := by decide +kernel
theorem dG_reversed_50 : decode prog_9_method_11_code 50 = .ok (.iconst 0, 1) := by decide +kernel
theorem dG_reversed_51 : decode prog_9_method_11_code 51 = .ok (.ireturn, 1) := by decide +kernel
theorem dG_reversed_52 : decode prog_9_method_11_code 52 = .ok (.aload_n 0, 1) := by decide +kernel
theorem dG_reversed_53 : decode prog_9_method_11_code 53 = .ok (.aload_n 2, 1) := by decide +kernel
theorem dG_reversed_54 : decode prog_9_method_11_code 54 = .ok (.invokestatic 134, 3) := by decide +kernel
theorem dG_reversed_57 : decode prog_9_method_11_code 57 = .ok (.iconst 0, 1) := by decide +kernel
theorem dG_reversed_58 : decode prog_9_method_11_code 58 = .ok (.ireturn, 1) := by decide +kernel
theorem dG_reversed_59 : decode prog_9_method_11_code 59 = .ok (.aload_n 0, 1) := by decide +kernel
theorem dG_reversed_60 : decode prog_9_method_11_code 60 = .ok (.aload_n 1, 1) := by decide +kernel
theorem dG_reversed_61 : decode prog_9_method_11_code 61 = .ok (.aload_n 2, 1) := by decide +kernel
theorem dG_reversed_62 : decode prog_9_method_11_code 62 = .ok (.invokestatic 138, 3) := by decide +kernel
theorem dG_reversed_65 : decode prog_9_method_11_code 65 = .ok (.iconst 0, 1) := by decide +kernel
theorem dG_reversed_66 : decode prog_9_method_11_code 66 = .ok (.ireturn, 1) := by decide +kernel
theorem dG_reversed_67 : decode prog_9_method_11_code 67 = .ok (.iconst 1, 1) := by decide +kernel
theorem dG_reversed_68 : decode prog_9_method_11_code 68 = .ok (.ireturn, 1) := by decide +kernel
theorem dG_sorted_0 : decode prog_9_method_6_code 0 = .ok (.aload_n 2, 1) := by decide +kernel
theorem dG_sorted_1 : decode prog_9_method_6_code 1 = .ok (.invokevirtual 82, 3) := by decide +kernel
theorem dG_sorted_4 : decode prog_9_method_6_code 4 = .ok (.istore_n 3, 1) := by decide +kernel
theorem dG_sorted_5 : decode prog_9_method_6_code 5 = .ok (.aload_n 1, 1) := by decide +kernel
theorem dG_sorted_6 : decode prog_9_method_6_code 6 = .ok (.aload_n 0, 1) := by decide +kernel
theorem dG_sorted_7 : decode prog_9_method_6_code 7 = .ok (.iconst 0, 1) := by decide +kernel
theorem dG_sorted_8 : decode prog_9_method_6_code 8 = .ok (.invokevirtual 93, 3) := by decide +kernel
theorem dG_sorted_11 : decode prog_9_method_6_code 11 = .ok (.iconst 0, 1) := by decide +kernel
theorem dG_sorted_12 : decode prog_9_method_6_code 12 = .ok (.istore 4, 2) := by decide +kernel
theorem dG_sorted_14 : decode prog_9_method_6_code 14 = .ok (.iload 4, 2) := by decide +kernel
theorem dG_sorted_16 : decode prog_9_method_6_code 16 = .ok (.aload_n 0, 1) := by decide +kernel
theorem dG_sorted_17 : decode prog_9_method_6_code 17 = .ok (.iconst 0, 1) := by decide +kernel
theorem dG_sorted_18 : decode prog_9_method_6_code 18 = .ok (.invokevirtual 80, 3) := by decide +kernel
theorem dG_sorted_21 : decode prog_9_method_6_code 21 = .ok (.if_icmp .ge 20, 3) := by decide +kernel
theorem dG_sorted_24 : decode prog_9_method_6_code 24 = .ok (.aload_n 2, 1) := by decide +kernel
theorem dG_sorted_25 : decode prog_9_method_6_code 25 = .ok (.aload_n 0, 1) := by decide +kernel
theorem dG_sorted_26 : decode prog_9_method_6_code 26 = .ok (.aload_n 1, 1) := by decide +kernel
theorem dG_sorted_27 : decode prog_9_method_6_code 27 = .ok (.iload 4, 2) := by decide +kernel
theorem dG_sorted_29 : decode prog_9_method_6_code 29 = .ok (.invokevirtual 98, 3) := by decide +kernel
theorem dG_sorted_32 : decode prog_9_method_6_code 32 = .ok (.invokevirtual 58, 3) := by decide +kernel
theorem dG_sorted_35 : decode prog_9_method_6_code 35 = .ok (.iinc 4 1, 3) := by decide +kernel
theorem dG_sorted_38 : decode prog_9_method_6_code 38 = .ok (.goto (-24), 3) := by decide +kernel
theorem dG_sorted_41 : decode prog_9_method_6_code 41 = .ok (.aload_n 2, 1) := by decide +kernel
theorem dG_sorted_42 : decode prog_9_method_6_code 42 = .ok (.iload_n 3, 1) := by decide +kernel
theorem dG_sorted_43 : decode prog_9_method_6_code 43 = .ok (.iconst 5, 1) := by decide +kernel
theorem dG_sorted_44 : decode prog_9_method_6_code 44 = .ok (.aload_n 0, 1) := by decide +kernel
theorem dG_sorted_45 : decode prog_9_method_6_code 45 = .ok (.iconst 0, 1) := by decide +kernel
theorem dG_sorted_46 : decode prog_9_method_6_code 46 = .ok (.invokevirtual 80, 3) := by decide +kernel
theorem dG_sorted_49 : decode prog_9_method_6_code 49 = .ok (.invokevirtual 89, 3) := by decide +kernel
theorem dG_sorted_52 : decode prog_9_method_6_code 52 = .ok (.iconst 0, 1) := by decide +kernel
theorem dG_sorted_53 : decode prog_9_method_6_code 53 = .ok (.ireturn, 1) := by decide +kernel
theorem dG_toNumber_0 : decode prog_9_method_8_code 0 = .ok (.aload_n 0, 1) := by decide +kernel
theorem dG_toNumber_1 : decode prog_9_method_8_code 1 = .ok (.iconst 0, 1) := by decide +kernel
theorem dG_toNumber_2 : decode prog_9_method_8_code 2 = .ok (.iconst 3, 1) := by decide +kernel
theorem dG_toNumber_3 : decode prog_9_method_8_code 3 = .ok (.invokevirtual 9, 3) := by decide +kernel
theorem dG_toNumber_6 : decode prog_9_method_8_code 6 = .ok (.ifCond .eq 9, 3) := by decide +kernel
theorem dG_toNumber_9 : decode prog_9_method_8_code 9 = .ok (.aload_n 0, 1) := by decide +kernel
theorem dG_toNumber_10 : decode prog_9_method_8_code 10 = .ok (.aload_n 2, 1) := by decide +kernel
theorem dG_toNumber_11 : decode prog_9_method_8_code 11 = .ok (.invokestatic 32, 3) := by decide +kernel
theorem dG_toNumber_14 : decode prog_9_method_8_code 14 = .ok (.ireturn, 1) := by decide +kernel
theorem dG_toNumber_15 : decode prog_9_method_8_code 15 = .ok (.aload_n 0, 1) := by decide +kernel
theorem dG_toNumber_16 : decode prog_9_method_8_code 16 = .ok (.iconst 0, 1) := by decide +kernel
theorem dG_toNumber_17 : decode prog_9_method_8_code 17 = .ok (.iconst 4, 1) := by decide +kernel
theorem dG_toNumber_18 : decode prog_9_method_8_code 18 = .ok (.invokevirtual 9, 3) := by decide +kernel
theorem dG_toNumber_21 : decode prog_9_method_8_code 21 = .ok (.ifCond .ne 5, 3) := by decide +kernel
theorem dG_toNumber_24 : decode prog_9_method_8_code 24 = .ok (.iconst 1, 1) := by decide +kernel
theorem dG_toNumber_25 : decode prog_9_method_8_code 25 = .ok (.ireturn, 1) := by decide +kernel
theorem dG_toNumber_26 : decode prog_9_method_8_code 26 = .ok (.aload_n 0, 1) := by decide +kernel
theorem dG_toNumber_27 : decode prog_9_method_8_code 27 = .ok (.aload_n 1, 1) := by decide +kernel
theorem dG_toNumber_28 : decode prog_9_method_8_code 28 = .ok (.aload_n 2, 1) := by decide +kernel
theorem dG_toNumber_29 : decode prog_9_method_8_code 29 = .ok (.invokestatic 116, 3) := by decide +kernel
theorem dG_toNumber_32 : decode prog_9_method_8_code 32 = .ok (.invokevirtual 120, 3) := by decide +kernel
theorem dG_toNumber_35 : decode prog_9_method_8_code 35 = .ok (.iconst (-1), 1) := by decide +kernel
theorem dG_toNumber_36 : decode prog_9_method_8_code 36 = .ok (.if_icmp .ne 7, 3) := by decide +kernel
theorem dG_toNumber_39 : decode prog_9_method_8_code 39 = .ok (.iconst 0, 1) := by decide +kernel
theorem dG_toNumber_40 : decode prog_9_method_8_code 40 = .ok (.goto 4, 3) := by decide +kernel
theorem dG_toNumber_43 : decode prog_9_method_8_code 43 = .ok (.iconst 4, 1) := by decide +kernel
theorem dG_toNumber_44 : decode prog_9_method_8_code 44 = .ok (.ireturn, 1) := by decide +kernel
theorem dH_addShown_0 : decode prog_5_method_17_code 0 = .ok (.aload_n 0, 1) := by decide +kernel
theorem dH_addShown_1 : decode prog_5_method_17_code 1 = .ok (.iload_n 1, 1) := by decide +kernel
theorem dH_addShown_2 : decode prog_5_method_17_code 2 = .ok (.iconst 4, 1) := by decide +kernel
theorem dH_addShown_3 : decode prog_5_method_17_code 3 = .ok (.invokevirtual 48, 3) := by decide +kernel
theorem dH_addShown_6 : decode prog_5_method_17_code 6 = .ok (.ifCond .eq 12, 3) := by decide +kernel
theorem dH_addShown_9 : decode prog_5_method_17_code 9 = .ok (.aload_n 2, 1) := by decide +kernel
theorem dH_addShown_10 : decode prog_5_method_17_code 10 = .ok (.aload_n 0, 1) := by decide +kernel
theorem dH_addShown_11 : decode prog_5_method_17_code 11 = .ok (.iload_n 1, 1) := by decide +kernel
theorem dH_addShown_12 : decode prog_5_method_17_code 12 = .ok (.invokevirtual 122, 3) := by decide +kernel
theorem dH_addShown_15 : decode prog_5_method_17_code 15 = .ok (.goto 19, 3) := by decide +kernel
theorem dH_addShown_18 : decode prog_5_method_17_code 18 = .ok (.aload_n 0, 1) := by decide +kernel
theorem dH_addShown_19 : decode prog_5_method_17_code 19 = .ok (.iload_n 1, 1) := by decide +kernel
theorem dH_addShown_20 : decode prog_5_method_17_code 20 = .ok (.iconst 0, 1) := by decide +kernel
theorem dH_addShown_21 : decode prog_5_method_17_code 21 = .ok (.invokevirtual 48, 3) := by decide +kernel
theorem dH_addShown_24 : decode prog_5_method_17_code 24 = .ok (.ifCond .ne 10, 3) := by decide +kernel
theorem dH_addShown_27 : decode prog_5_method_17_code 27 = .ok (.aload_n 0, 1) := by decide +kernel
theorem dH_addShown_28 : decode prog_5_method_17_code 28 = .ok (.iload_n 1, 1) := by decide +kernel
theorem dH_addShown_29 : decode prog_5_method_17_code 29 = .ok (.aload_n 2, 1) := by decide +kernel
theorem dH_addShown_30 : decode prog_5_method_17_code 30 = .ok (.iconst 0, 1) := by decide +kernel
theorem dH_addShown_31 : decode prog_5_method_17_code 31 = .ok (.invokestatic 133, 3) := by decide +kernel
theorem dH_addShown_34 : decode prog_5_method_17_code 34 = .ok (.return_, 1) := by decide +kernel
theorem dH_apply_0 : decode prog_5_method_2_code 0 = .ok (.iload_n 0, 1) := by decide +kernel
theorem dH_apply_1 : decode prog_5_method_2_code 1 = .ok (.tableswitch 154 0 8 #[51, 59, 67, 76, 84, 92, 115, 138, 146], 51) := by decide +kernel
theorem dH_apply_52 : decode prog_5_method_2_code 52 = .ok (.aload_n 1, 1) := by decide +kernel
theorem dH_apply_53 : decode prog_5_method_2_code 53 = .ok (.aload_n 2, 1) := by decide +kernel
theorem dH_apply_54 : decode prog_5_method_2_code 54 = .ok (.aload 4, 2) := by decide +kernel
theorem dH_apply_56 : decode prog_5_method_2_code 56 = .ok (.invokestatic 9, 3) := by decide +kernel
theorem dH_apply_59 : decode prog_5_method_2_code 59 = .ok (.ireturn, 1) := by decide +kernel
theorem dH_apply_60 : decode prog_5_method_2_code 60 = .ok (.aload_n 1, 1) := by decide +kernel
theorem dH_apply_61 : decode prog_5_method_2_code 61 = .ok (.aload_n 2, 1) := by decide +kernel
theorem dH_apply_62 : decode prog_5_method_2_code 62 = .ok (.aload 4, 2) := by decide +kernel
theorem dH_apply_64 : decode prog_5_method_2_code 64 = .ok (.invokestatic 15, 3) := by decide +kernel
theorem dH_apply_67 : decode prog_5_method_2_code 67 = .ok (.ireturn, 1) := by decide +kernel
theorem dH_apply_68 : decode prog_5_method_2_code 68 = .ok (.aload_n 1, 1) := by decide +kernel
theorem dH_apply_69 : decode prog_5_method_2_code 69 = .ok (.aload_n 2, 1) := by decide +kernel
theorem dH_apply_70 : decode prog_5_method_2_code 70 = .ok (.aload_n 3, 1) := by decide +kernel
theorem dH_apply_71 : decode prog_5_method_2_code 71 = .ok (.aload 4, 2) := by decide +kernel
theorem dH_apply_73 : decode prog_5_method_2_code 73 = .ok (.invokestatic 18, 3) := by decide +kernel
theorem dH_apply_76 : decode prog_5_method_2_code 76 = .ok (.ireturn, 1) := by decide +kernel
theorem dH_apply_77 : decode prog_5_method_2_code 77 = .ok (.aload_n 1, 1) := by decide +kernel
theorem dH_apply_78 : decode prog_5_method_2_code 78 = .ok (.aload_n 2, 1) := by decide +kernel
theorem dH_apply_79 : decode prog_5_method_2_code 79 = .ok (.aload 4, 2) := by decide +kernel
theorem dH_apply_81 : decode prog_5_method_2_code 81 = .ok (.invokestatic 22, 3) := by decide +kernel
theorem dH_apply_84 : decode prog_5_method_2_code 84 = .ok (.ireturn, 1) := by decide +kernel
theorem dH_apply_85 : decode prog_5_method_2_code 85 = .ok (.aload_n 1, 1) := by decide +kernel
theorem dH_apply_86 : decode prog_5_method_2_code 86 = .ok (.aload_n 2, 1) := by decide +kernel
theorem dH_apply_87 : decode prog_5_method_2_code 87 = .ok (.aload 4, 2) := by decide +kernel
theorem dH_apply_89 : decode prog_5_method_2_code 89 = .ok (.invokestatic 25, 3) := by decide +kernel
theorem dH_apply_92 : decode prog_5_method_2_code 92 = .ok (.ireturn, 1) := by decide +kernel
theorem dH_apply_93 : decode prog_5_method_2_code 93 = .ok (.aload_n 1, 1) := by decide +kernel
theorem dH_apply_94 : decode prog_5_method_2_code 94 = .ok (.aload_n 2, 1) := by decide +kernel
theorem dH_apply_95 : decode prog_5_method_2_code 95 = .ok (.invokestatic 28, 3) := by decide +kernel
theorem dH_apply_98 : decode prog_5_method_2_code 98 = .ok (.ifCond .eq 16, 3) := by decide +kernel
theorem dH_apply_101 : decode prog_5_method_2_code 101 = .ok (.aload_n 1, 1) := by decide +kernel
theorem dH_apply_102 : decode prog_5_method_2_code 102 = .ok (.aload_n 2, 1) := by decide +kernel
theorem dH_apply_103 : decode prog_5_method_2_code 103 = .ok (.invokestatic 32, 3) := by decide +kernel
theorem dH_apply_106 : decode prog_5_method_2_code 106 = .ok (.aload 4, 2) := by decide +kernel
theorem dH_apply_108 : decode prog_5_method_2_code 108 = .ok (.invokestatic 35, 3) := by decide +kernel
theorem dH_apply_111 : decode prog_5_method_2_code 111 = .ok (.goto 4, 3) := by decide +kernel
theorem dH_apply_114 : decode prog_5_method_2_code 114 = .ok (.iconst 1, 1) := by decide +kernel
theorem dH_apply_115 : decode prog_5_method_2_code 115 = .ok (.ireturn, 1) := by decide +kernel
theorem dH_apply_116 : decode prog_5_method_2_code 116 = .ok (.aload_n 1, 1) := by decide +kernel
theorem dH_apply_117 : decode prog_5_method_2_code 117 = .ok (.aload_n 2, 1) := by decide +kernel
theorem dH_apply_118 : decode prog_5_method_2_code 118 = .ok (.invokestatic 28, 3) := by decide +kernel
theorem dH_apply_121 : decode prog_5_method_2_code 121 = .ok (.ifCond .eq 16, 3) := by decide +kernel
theorem dH_apply_124 : decode prog_5_method_2_code 124 = .ok (.aload_n 1, 1) := by decide +kernel
theorem dH_apply_125 : decode prog_5_method_2_code 125 = .ok (.aload_n 2, 1) := by decide +kernel
theorem dH_apply_126 : decode prog_5_method_2_code 126 = .ok (.invokestatic 39, 3) := by decide +kernel
theorem dH_apply_129 : decode prog_5_method_2_code 129 = .ok (.aload 4, 2) := by decide +kernel
theorem dH_apply_131 : decode prog_5_method_2_code 131 = .ok (.invokestatic 35, 3) := by decide +kernel
theorem dH_apply_134 : decode prog_5_method_2_code 134 = .ok (.goto 4, 3) := by decide +kernel
theorem dH_apply_137 : decode prog_5_method_2_code 137 = .ok (.iconst 1, 1) := by decide +kernel
theorem dH_apply_138 : decode prog_5_method_2_code 138 = .ok (.ireturn, 1) := by decide +kernel
theorem dH_apply_139 : decode prog_5_method_2_code 139 = .ok (.aload_n 1, 1) := by decide +kernel
theorem dH_apply_140 : decode prog_5_method_2_code 140 = .ok (.aload_n 2, 1) := by decide +kernel
theorem dH_apply_141 : decode prog_5_method_2_code 141 = .ok (.aload 4, 2) := by decide +kernel
theorem dH_apply_143 : decode prog_5_method_2_code 143 = .ok (.invokestatic 42, 3) := by decide +kernel
theorem dH_apply_146 : decode prog_5_method_2_code 146 = .ok (.ireturn, 1) := by decide +kernel
theorem dH_apply_147 : decode prog_5_method_2_code 147 = .ok (.aload_n 1, 1) := by decide +kernel
theorem dH_apply_148 : decode prog_5_method_2_code 148 = .ok (.aload_n 2, 1) := by decide +kernel
theorem dH_apply_149 : decode prog_5_method_2_code 149 = .ok (.aload 4, 2) := by decide +kernel
theorem dH_apply_151 : decode prog_5_method_2_code 151 = .ok (.invokestatic 45, 3) := by decide +kernel
theorem dH_apply_154 : decode prog_5_method_2_code 154 = .ok (.ireturn, 1) := by decide +kernel
theorem dH_apply_155 : decode prog_5_method_2_code 155 = .ok (.aload_n 1, 1) := by decide +kernel
theorem dH_apply_156 : decode prog_5_method_2_code 156 = .ok (.iconst 0, 1) := by decide +kernel
theorem dH_apply_157 : decode prog_5_method_2_code 157 = .ok (.iconst 5, 1) := by decide +kernel
theorem dH_apply_158 : decode prog_5_method_2_code 158 = .ok (.invokevirtual 48, 3) := by decide +kernel
theorem dH_apply_161 : decode prog_5_method_2_code 161 = .ok (.ifCond .eq 22, 3) := by decide +kernel
theorem dH_apply_164 : decode prog_5_method_2_code 164 = .ok (.aload_n 2, 1) := by decide +kernel
theorem dH_apply_165 : decode prog_5_method_2_code 165 = .ok (.iconst 0, 1) := by decide +kernel
theorem dH_apply_166 : decode prog_5_method_2_code 166 = .ok (.iconst 5, 1) := by decide +kernel
theorem dH_apply_167 : decode prog_5_method_2_code 167 = .ok (.invokevirtual 48, 3) := by decide +kernel
theorem dH_apply_170 : decode prog_5_method_2_code 170 = .ok (.ifCond .eq 13, 3) := by decide +kernel
theorem dH_apply_173 : decode prog_5_method_2_code 173 = .ok (.aload_n 1, 1) := by decide +kernel
theorem dH_apply_174 : decode prog_5_method_2_code 174 = .ok (.aload_n 2, 1) := by decide +kernel
theorem dH_apply_175 : decode prog_5_method_2_code 175 = .ok (.aload 4, 2) := by decide +kernel
theorem dH_apply_177 : decode prog_5_method_2_code 177 = .ok (.invokestatic 42, 3) := by decide +kernel
theorem dH_apply_180 : decode prog_5_method_2_code 180 = .ok (.goto 10, 3) := by decide +kernel
theorem dH_apply_183 : decode prog_5_method_2_code 183 = .ok (.aload_n 1, 1) := by decide +kernel
theorem dH_apply_184 : decode prog_5_method_2_code 184 = .ok (.aload_n 2, 1) := by decide +kernel
theorem dH_apply_185 : decode prog_5_method_2_code 185 = .ok (.aload 4, 2) := by decide +kernel
theorem dH_apply_187 : decode prog_5_method_2_code 187 = .ok (.invokestatic 54, 3) := by decide +kernel
theorem dH_apply_190 : decode prog_5_method_2_code 190 = .ok (.ireturn, 1) := by decide +kernel
theorem dH_areElementsIn_0 : decode prog_5_method_13_code 0 = .ok (.iload_n 3, 1) := by decide +kernel
theorem dH_areElementsIn_1 : decode prog_5_method_13_code 1 = .ok (.iconst 1, 1) := by decide +kernel
theorem dH_areElementsIn_2 : decode prog_5_method_13_code 2 = .ok (.iadd, 1) := by decide +kernel
theorem dH_areElementsIn_3 : decode prog_5_method_13_code 3 = .ok (.istore 5, 2) := by decide +kernel
theorem dH_areElementsIn_5 : decode prog_5_method_13_code 5 = .ok (.iconst 0, 1) := by decide +kernel
theorem dH_areElementsIn_6 : decode prog_5_method_13_code 6 = .ok (.istore 6, 2) := by decide +kernel
theorem dH_areElementsIn_8 : decode prog_5_method_13_code 8 = .ok (.iload 6, 2) := by decide +kernel
theorem dH_areElementsIn_10 : decode prog_5_method_13_code 10 = .ok (.aload_n 2, 1) := by decide +kernel
theorem dH_areElementsIn_11 : decode prog_5_method_13_code 11 = .ok (.iload_n 3, 1) := by decide +kernel
theorem dH_areElementsIn_12 : decode prog_5_method_13_code 12 = .ok (.invokevirtual 76, 3) := by decide +kernel
theorem dH_areElementsIn_15 : decode prog_5_method_13_code 15 = .ok (.if_icmp .ge 32, 3) := by decide +kernel
theorem dH_areElementsIn_18 : decode prog_5_method_13_code 18 = .ok (.aload_n 0, 1) := by decide +kernel
theorem dH_areElementsIn_19 : decode prog_5_method_13_code 19 = .ok (.iload_n 1, 1) := by decide +kernel
theorem dH_areElementsIn_20 : decode prog_5_method_13_code 20 = .ok (.aload_n 2, 1) := by decide +kernel
theorem dH_areElementsIn_21 : decode prog_5_method_13_code 21 = .ok (.iload 5, 2) := by decide +kernel
theorem dH_areElementsIn_23 : decode prog_5_method_13_code 23 = .ok (.iload 4, 2) := by decide +kernel
theorem dH_areElementsIn_25 : decode prog_5_method_13_code 25 = .ok (.invokestatic 111, 3) := by decide +kernel
theorem dH_areElementsIn_28 : decode prog_5_method_13_code 28 = .ok (.ifCond .ne 5, 3) := by decide +kernel
theorem dH_areElementsIn_31 : decode prog_5_method_13_code 31 = .ok (.iconst 0, 1) := by decide +kernel
theorem dH_areElementsIn_32 : decode prog_5_method_13_code 32 = .ok (.ireturn, 1) := by decide +kernel
theorem dH_areElementsIn_33 : decode prog_5_method_13_code 33 = .ok (.aload_n 2, 1) := by decide +kernel
theorem dH_areElementsIn_34 : decode prog_5_method_13_code 34 = .ok (.iload 5, 2) := by decide +kernel
theorem dH_areElementsIn_36 : decode prog_5_method_13_code 36 = .ok (.invokevirtual 114, 3) := by decide +kernel
theorem dH_areElementsIn_39 : decode prog_5_method_13_code 39 = .ok (.istore 5, 2) := by decide +kernel
theorem dH_areElementsIn_41 : decode prog_5_method_13_code 41 = .ok (.iinc 6 1, 3) := by decide +kernel
theorem dH_areElementsIn_44 : decode prog_5_method_13_code 44 = .ok (.goto (-36), 3) := by decide +kernel
theorem dH_areElementsIn_47 : decode prog_5_method_13_code 47 = .ok (.iconst 1, 1) := by decide +kernel
theorem dH_areElementsIn_48 : decode prog_5_method_13_code 48 = .ok (.ireturn, 1) := by decide +kernel
theorem dH_areNamesIn_0 : decode prog_5_method_15_code 0 = .ok (.iload_n 3, 1) := by decide +kernel
theorem dH_areNamesIn_1 : decode prog_5_method_15_code 1 = .ok (.iconst 1, 1) := by decide +kernel
theorem dH_areNamesIn_2 : decode prog_5_method_15_code 2 = .ok (.iadd, 1) := by decide +kernel
theorem dH_areNamesIn_3 : decode prog_5_method_15_code 3 = .ok (.istore 5, 2) := by decide +kernel
theorem dH_areNamesIn_5 : decode prog_5_method_15_code 5 = .ok (.iconst 0, 1) := by decide +kernel
theorem dH_areNamesIn_6 : decode prog_5_method_15_code 6 = .ok (.istore 6, 2) := by decide +kernel
theorem dH_areNamesIn_8 : decode prog_5_method_15_code 8 = .ok (.iload 6, 2) := by decide +kernel
theorem dH_areNamesIn_10 : decode prog_5_method_15_code 10 = .ok (.aload_n 2, 1) := by decide +kernel
theorem dH_areNamesIn_11 : decode prog_5_method_15_code 11 = .ok (.iload_n 3, 1) := by decide +kernel
theorem dH_areNamesIn_12 : decode prog_5_method_15_code 12 = .ok (.invokevirtual 76, 3) := by decide +kernel
theorem dH_areNamesIn_15 : decode prog_5_method_15_code 15 = .ok (.if_icmp .ge 59, 3) := by decide +kernel
theorem dH_areNamesIn_18 : decode prog_5_method_15_code 18 = .ok (.aload_n 2, 1) := by decide +kernel
theorem dH_areNamesIn_19 : decode prog_5_method_15_code 19 = .ok (.iload 5, 2) := by decide +kernel
theorem dH_areNamesIn_21 : decode prog_5_method_15_code 21 = .ok (.invokevirtual 114, 3) := by decide +kernel
theorem dH_areNamesIn_24 : decode prog_5_method_15_code 24 = .ok (.istore 7, 2) := by decide +kernel
theorem dH_areNamesIn_26 : decode prog_5_method_15_code 26 = .ok (.aload_n 0, 1) := by decide +kernel
theorem dH_areNamesIn_27 : decode prog_5_method_15_code 27 = .ok (.iload_n 1, 1) := by decide +kernel
theorem dH_areNamesIn_28 : decode prog_5_method_15_code 28 = .ok (.aload_n 2, 1) := by decide +kernel
theorem dH_areNamesIn_29 : decode prog_5_method_15_code 29 = .ok (.iload 5, 2) := by decide +kernel
theorem dH_areNamesIn_31 : decode prog_5_method_15_code 31 = .ok (.invokevirtual 68, 3) := by decide +kernel
theorem dH_areNamesIn_34 : decode prog_5_method_15_code 34 = .ok (.istore 8, 2) := by decide +kernel
theorem dH_areNamesIn_36 : decode prog_5_method_15_code 36 = .ok (.iload 8, 2) := by decide +kernel
theorem dH_areNamesIn_38 : decode prog_5_method_15_code 38 = .ok (.iconst (-1), 1) := by decide +kernel
theorem dH_areNamesIn_39 : decode prog_5_method_15_code 39 = .ok (.if_icmp .eq 19, 3) := by decide +kernel
theorem dH_areNamesIn_42 : decode prog_5_method_15_code 42 = .ok (.aload_n 0, 1) := by decide +kernel
theorem dH_areNamesIn_43 : decode prog_5_method_15_code 43 = .ok (.iload 8, 2) := by decide +kernel
theorem dH_areNamesIn_45 : decode prog_5_method_15_code 45 = .ok (.aload_n 2, 1) := by decide +kernel
theorem dH_areNamesIn_46 : decode prog_5_method_15_code 46 = .ok (.iload 7, 2) := by decide +kernel
theorem dH_areNamesIn_48 : decode prog_5_method_15_code 48 = .ok (.iload 4, 2) := by decide +kernel
theorem dH_areNamesIn_50 : decode prog_5_method_15_code 50 = .ok (.iconst 1, 1) := by decide +kernel
theorem dH_areNamesIn_51 : decode prog_5_method_15_code 51 = .ok (.iadd, 1) := by decide +kernel
theorem dH_areNamesIn_52 : decode prog_5_method_15_code 52 = .ok (.invokestatic 84, 3) := by decide +kernel
theorem dH_areNamesIn_55 : decode prog_5_method_15_code 55 = .ok (.ifCond .ne 5, 3) := by decide +kernel
theorem dH_areNamesIn_58 : decode prog_5_method_15_code 58 = .ok (.iconst 0, 1) := by decide +kernel
theorem dH_areNamesIn_59 : decode prog_5_method_15_code 59 = .ok (.ireturn, 1) := by decide +kernel
theorem dH_areNamesIn_60 : decode prog_5_method_15_code 60 = .ok (.aload_n 2, 1) := by decide +kernel
theorem dH_areNamesIn_61 : decode prog_5_method_15_code 61 = .ok (.iload 7, 2) := by decide +kernel
theorem dH_areNamesIn_63 : decode prog_5_method_15_code 63 = .ok (.invokevirtual 114, 3) := by decide +kernel
theorem dH_areNamesIn_66 : decode prog_5_method_15_code 66 = .ok (.istore 5, 2) := by decide +kernel
theorem dH_areNamesIn_68 : decode prog_5_method_15_code 68 = .ok (.iinc 6 1, 3) := by decide +kernel
theorem dH_areNamesIn_71 : decode prog_5_method_15_code 71 = .ok (.goto (-63), 3) := by decide +kernel
theorem dH_areNamesIn_74 : decode prog_5_method_15_code 74 = .ok (.iconst 1, 1) := by decide +kernel
theorem dH_areNamesIn_75 : decode prog_5_method_15_code 75 = .ok (.ireturn, 1) := by decide +kernel
theorem dH_areOfOneKind_0 : decode prog_5_method_9_code 0 = .ok (.aload_n 0, 1) := by decide +kernel
theorem dH_areOfOneKind_1 : decode prog_5_method_9_code 1 = .ok (.iload_n 1, 1) := by decide +kernel
theorem dH_areOfOneKind_2 : decode prog_5_method_9_code 2 = .ok (.invokevirtual 88, 3) := by decide +kernel
theorem dH_areOfOneKind_5 : decode prog_5_method_9_code 5 = .ok (.aload_n 2, 1) := by decide +kernel
theorem dH_areOfOneKind_6 : decode prog_5_method_9_code 6 = .ok (.iload_n 3, 1) := by decide +kernel
theorem dH_areOfOneKind_7 : decode prog_5_method_9_code 7 = .ok (.invokevirtual 88, 3) := by decide +kernel
theorem dH_areOfOneKind_10 : decode prog_5_method_9_code 10 = .ok (.if_icmp .eq 25, 3) := by decide +kernel
theorem dH_areOfOneKind_13 : decode prog_5_method_9_code 13 = .ok (.aload_n 0, 1) := by decide +kernel
theorem dH_areOfOneKind_14 : decode prog_5_method_9_code 14 = .ok (.iload_n 1, 1) := by decide +kernel
theorem dH_areOfOneKind_15 : decode prog_5_method_9_code 15 = .ok (.invokevirtual 88, 3) := by decide +kernel
theorem dH_areOfOneKind_18 : decode prog_5_method_9_code 18 = .ok (.invokestatic 91, 3) := by decide +kernel
theorem dH_areOfOneKind_21 : decode prog_5_method_9_code 21 = .ok (.ifCond .eq 18, 3) := by decide +kernel
theorem dH_areOfOneKind_24 : decode prog_5_method_9_code 24 = .ok (.aload_n 2, 1) := by decide +kernel
theorem dH_areOfOneKind_25 : decode prog_5_method_9_code 25 = .ok (.iload_n 3, 1) := by decide +kernel
theorem dH_areOfOneKind_26 : decode prog_5_method_9_code 26 = .ok (.invokevirtual 88, 3) := by decide +kernel
theorem dH_areOfOneKind_29 : decode prog_5_method_9_code 29 = .ok (.invokestatic 91, 3) := by decide +kernel
theorem dH_areOfOneKind_32 : decode prog_5_method_9_code 32 = .ok (.ifCond .eq 7, 3) := by decide +kernel
theorem dH_areOfOneKind_35 : decode prog_5_method_9_code 35 = .ok (.iconst 1, 1) := by decide +kernel
theorem dH_areOfOneKind_36 : decode prog_5_method_9_code 36 = .ok (.goto 4, 3) := by decide +kernel
theorem dH_areOfOneKind_39 : decode prog_5_method_9_code 39 = .ok (.iconst 0, 1) := by decide +kernel
theorem dH_areOfOneKind_40 : decode prog_5_method_9_code 40 = .ok (.ireturn, 1) := by decide +kernel
theorem dH_areSame_0 : decode prog_5_method_25_code 0 = .ok (.iload_n 1, 1) := by decide +kernel
theorem dH_areSame_1 : decode prog_5_method_25_code 1 = .ok (.istore 5, 2) := by decide +kernel
theorem dH_areSame_3 : decode prog_5_method_25_code 3 = .ok (.iload_n 3, 1) := by decide +kernel
theorem dH_areSame_4 : decode prog_5_method_25_code 4 = .ok (.istore 6, 2) := by decide +kernel
theorem dH_areSame_6 : decode prog_5_method_25_code 6 = .ok (.iconst 0, 1) := by decide +kernel
theorem dH_areSame_7 : decode prog_5_method_25_code 7 = .ok (.istore 7, 2) := by decide +kernel
theorem dH_areSame_9 : decode prog_5_method_25_code 9 = .ok (.iload 7, 2) := by decide +kernel
theorem dH_areSame_11 : decode prog_5_method_25_code 11 = .ok (.iload 4, 2) := by decide +kernel
theorem dH_areSame_13 : decode prog_5_method_25_code 13 = .ok (.if_icmp .ge 56, 3) := by decide +kernel
theorem dH_areSame_16 : decode prog_5_method_25_code 16 = .ok (.aload_n 0, 1) := by decide +kernel
theorem dH_areSame_17 : decode prog_5_method_25_code 17 = .ok (.iload 5, 2) := by decide +kernel
theorem dH_areSame_19 : decode prog_5_method_25_code 19 = .ok (.invokevirtual 104, 3) := by decide +kernel
theorem dH_areSame_22 : decode prog_5_method_25_code 22 = .ok (.aload_n 2, 1) := by decide +kernel
theorem dH_areSame_23 : decode prog_5_method_25_code 23 = .ok (.iload 6, 2) := by decide +kernel
theorem dH_areSame_25 : decode prog_5_method_25_code 25 = .ok (.invokevirtual 104, 3) := by decide +kernel
theorem dH_areSame_28 : decode prog_5_method_25_code 28 = .ok (.lcmp, 1) := by decide +kernel
theorem dH_areSame_29 : decode prog_5_method_25_code 29 = .ok (.ifCond .ne 16, 3) := by decide +kernel
theorem dH_areSame_32 : decode prog_5_method_25_code 32 = .ok (.aload_n 0, 1) := by decide +kernel
theorem dH_areSame_33 : decode prog_5_method_25_code 33 = .ok (.iload 5, 2) := by decide +kernel
theorem dH_areSame_35 : decode prog_5_method_25_code 35 = .ok (.aload_n 2, 1) := by decide +kernel
theorem dH_areSame_36 : decode prog_5_method_25_code 36 = .ok (.iload 6, 2) := by decide +kernel
theorem dH_areSame_38 : decode prog_5_method_25_code 38 = .ok (.iconst 0, 1) := by decide +kernel
theorem dH_areSame_39 : decode prog_5_method_25_code 39 = .ok (.invokestatic 173, 3) := by decide +kernel
theorem dH_areSame_42 : decode prog_5_method_25_code 42 = .ok (.ifCond .eq 5, 3) := by decide +kernel
theorem dH_areSame_45 : decode prog_5_method_25_code 45 = .ok (.iconst 0, 1) := by decide +kernel
theorem dH_areSame_46 : decode prog_5_method_25_code 46 = .ok (.ireturn, 1) := by decide +kernel
theorem dH_areSame_47 : decode prog_5_method_25_code 47 = .ok (.aload_n 0, 1) := by decide +kernel
theorem dH_areSame_48 : decode prog_5_method_25_code 48 = .ok (.iload 5, 2) := by decide +kernel
theorem dH_areSame_50 : decode prog_5_method_25_code 50 = .ok (.invokevirtual 114, 3) := by decide +kernel
theorem dH_areSame_53 : decode prog_5_method_25_code 53 = .ok (.istore 5, 2) := by decide +kernel
theorem dH_areSame_55 : decode prog_5_method_25_code 55 = .ok (.aload_n 2, 1) := by decide +kernel
theorem dH_areSame_56 : decode prog_5_method_25_code 56 = .ok (.iload 6, 2) := by decide +kernel
theorem dH_areSame_58 : decode prog_5_method_25_code 58 = .ok (.invokevirtual 114, 3) := by decide +kernel
theorem dH_areSame_61 : decode prog_5_method_25_code 61 = .ok (.istore 6, 2) := by decide +kernel
theorem dH_areSame_63 : decode prog_5_method_25_code 63 = .ok (.iinc 7 1, 3) := by decide +kernel
theorem dH_areSame_66 : decode prog_5_method_25_code 66 = .ok (.goto (-57), 3) := by decide +kernel
theorem dH_areSame_69 : decode prog_5_method_25_code 69 = .ok (.iconst 1, 1) := by decide +kernel
theorem dH_areSame_70 : decode prog_5_method_25_code 70 = .ok (.ireturn, 1) := by decide +kernel
theorem dH_areStrings_0 : decode prog_5_method_6_code 0 = .ok (.aload_n 0, 1) := by decide +kernel
theorem dH_areStrings_1 : decode prog_5_method_6_code 1 = .ok (.iconst 0, 1) := by decide +kernel
theorem dH_areStrings_2 : decode prog_5_method_6_code 2 = .ok (.iconst 4, 1) := by decide +kernel
theorem dH_areStrings_3 : decode prog_5_method_6_code 3 = .ok (.invokevirtual 48, 3) := by decide +kernel
theorem dH_areStrings_6 : decode prog_5_method_6_code 6 = .ok (.ifCond .eq 16, 3) := by decide +kernel
theorem dH_areStrings_9 : decode prog_5_method_6_code 9 = .ok (.aload_n 1, 1) := by decide +kernel
theorem dH_areStrings_10 : decode prog_5_method_6_code 10 = .ok (.iconst 0, 1) := by decide +kernel
theorem dH_areStrings_11 : decode prog_5_method_6_code 11 = .ok (.iconst 4, 1) := by decide +kernel
theorem dH_areStrings_12 : decode prog_5_method_6_code 12 = .ok (.invokevirtual 48, 3) := by decide +kernel
theorem dH_areStrings_15 : decode prog_5_method_6_code 15 = .ok (.ifCond .eq 7, 3) := by decide +kernel
theorem dH_areStrings_18 : decode prog_5_method_6_code 18 = .ok (.iconst 1, 1) := by decide +kernel
theorem dH_areStrings_19 : decode prog_5_method_6_code 19 = .ok (.goto 4, 3) := by decide +kernel
theorem dH_areStrings_22 : decode prog_5_method_6_code 22 = .ok (.iconst 0, 1) := by decide +kernel
theorem dH_areStrings_23 : decode prog_5_method_6_code 23 = .ok (.ireturn, 1) := by decide +kernel
theorem dH_at_0 : decode prog_5_method_28_code 0 = .ok (.aload_n 0, 1) := by decide +kernel
theorem dH_at_1 : decode prog_5_method_28_code 1 = .ok (.iconst 0, 1) := by decide +kernel
theorem dH_at_2 : decode prog_5_method_28_code 2 = .ok (.bipush 6, 2) := by decide +kernel
theorem dH_at_4 : decode prog_5_method_28_code 4 = .ok (.invokevirtual 48, 3) := by decide +kernel
theorem dH_at_7 : decode prog_5_method_28_code 7 = .ok (.ifCond .eq 39, 3) := by decide +kernel
theorem dH_at_10 : decode prog_5_method_28_code 10 = .ok (.aload_n 1, 1) := by decide +kernel
theorem dH_at_11 : decode prog_5_method_28_code 11 = .ok (.iconst 0, 1) := by decide +kernel
theorem dH_at_12 : decode prog_5_method_28_code 12 = .ok (.iconst 4, 1) := by decide +kernel
theorem dH_at_13 : decode prog_5_method_28_code 13 = .ok (.invokevirtual 48, 3) := by decide +kernel
theorem dH_at_16 : decode prog_5_method_28_code 16 = .ok (.ifCond .eq 30, 3) := by decide +kernel
theorem dH_at_19 : decode prog_5_method_28_code 19 = .ok (.aload_n 0, 1) := by decide +kernel
theorem dH_at_20 : decode prog_5_method_28_code 20 = .ok (.iconst 0, 1) := by decide +kernel
theorem dH_at_21 : decode prog_5_method_28_code 21 = .ok (.aload_n 1, 1) := by decide +kernel
theorem dH_at_22 : decode prog_5_method_28_code 22 = .ok (.iconst 0, 1) := by decide +kernel
theorem dH_at_23 : decode prog_5_method_28_code 23 = .ok (.invokevirtual 68, 3) := by decide +kernel
theorem dH_at_26 : decode prog_5_method_28_code 26 = .ok (.istore_n 3, 1) := by decide +kernel
theorem dH_at_27 : decode prog_5_method_28_code 27 = .ok (.iload_n 3, 1) := by decide +kernel
theorem dH_at_28 : decode prog_5_method_28_code 28 = .ok (.iconst (-1), 1) := by decide +kernel
theorem dH_at_29 : decode prog_5_method_28_code 29 = .ok (.if_icmp .ne 10, 3) := by decide +kernel
theorem dH_at_32 : decode prog_5_method_28_code 32 = .ok (.aload_n 2, 1) := by decide +kernel
theorem dH_at_33 : decode prog_5_method_28_code 33 = .ok (.invokestatic 147, 3) := by decide +kernel
theorem dH_at_36 : decode prog_5_method_28_code 36 = .ok (.goto 9, 3) := by decide +kernel
theorem dH_at_39 : decode prog_5_method_28_code 39 = .ok (.aload_n 0, 1) := by decide +kernel
theorem dH_at_40 : decode prog_5_method_28_code 40 = .ok (.iload_n 3, 1) := by decide +kernel
theorem dH_at_41 : decode prog_5_method_28_code 41 = .ok (.aload_n 2, 1) := by decide +kernel
theorem dH_at_42 : decode prog_5_method_28_code 42 = .ok (.invokestatic 139, 3) := by decide +kernel
theorem dH_at_45 : decode prog_5_method_28_code 45 = .ok (.ireturn, 1) := by decide +kernel
theorem dH_at_46 : decode prog_5_method_28_code 46 = .ok (.aload_n 0, 1) := by decide +kernel
theorem dH_at_47 : decode prog_5_method_28_code 47 = .ok (.iconst 0, 1) := by decide +kernel
theorem dH_at_48 : decode prog_5_method_28_code 48 = .ok (.iconst 5, 1) := by decide +kernel
theorem dH_at_49 : decode prog_5_method_28_code 49 = .ok (.invokevirtual 48, 3) := by decide +kernel
theorem dH_at_52 : decode prog_5_method_28_code 52 = .ok (.ifCond .eq 23, 3) := by decide +kernel
theorem dH_at_55 : decode prog_5_method_28_code 55 = .ok (.aload_n 1, 1) := by decide +kernel
theorem dH_at_56 : decode prog_5_method_28_code 56 = .ok (.iconst 0, 1) := by decide +kernel
theorem dH_at_57 : decode prog_5_method_28_code 57 = .ok (.iconst 3, 1) := by decide +kernel
theorem dH_at_58 : decode prog_5_method_28_code 58 = .ok (.invokevirtual 48, 3) := by decide +kernel
theorem dH_at_61 : decode prog_5_method_28_code 61 = .ok (.ifCond .eq 14, 3) := by decide +kernel
theorem dH_at_64 : decode prog_5_method_28_code 64 = .ok (.aload_n 0, 1) := by decide +kernel
theorem dH_at_65 : decode prog_5_method_28_code 65 = .ok (.aload_n 1, 1) := by decide +kernel
theorem dH_at_66 : decode prog_5_method_28_code 66 = .ok (.iconst 0, 1) := by decide +kernel
theorem dH_at_67 : decode prog_5_method_28_code 67 = .ok (.invokevirtual 72, 3) := by decide +kernel
theorem dH_at_70 : decode prog_5_method_28_code 70 = .ok (.aload_n 2, 1) := by decide +kernel
theorem dH_at_71 : decode prog_5_method_28_code 71 = .ok (.invokestatic 183, 3) := by decide +kernel
theorem dH_at_74 : decode prog_5_method_28_code 74 = .ok (.ireturn, 1) := by decide +kernel
theorem dH_at_75 : decode prog_5_method_28_code 75 = .ok (.aload_n 0, 1) := by decide +kernel
theorem dH_at_76 : decode prog_5_method_28_code 76 = .ok (.iconst 0, 1) := by decide +kernel
theorem dH_at_77 : decode prog_5_method_28_code 77 = .ok (.iconst 0, 1) := by decide +kernel
theorem dH_at_78 : decode prog_5_method_28_code 78 = .ok (.invokevirtual 48, 3) := by decide +kernel
theorem dH_at_81 : decode prog_5_method_28_code 81 = .ok (.ifCond .eq 34, 3) := by decide +kernel
theorem dH_at_84 : decode prog_5_method_28_code 84 = .ok (.aload_n 1, 1) := by decide +kernel
theorem dH_at_85 : decode prog_5_method_28_code 85 = .ok (.iconst 0, 1) := by decide +kernel
theorem dH_at_86 : decode prog_5_method_28_code 86 = .ok (.iconst 0, 1) := by decide +kernel
theorem dH_at_87 : decode prog_5_method_28_code 87 = .ok (.invokevirtual 48, 3) := by decide +kernel
theorem dH_at_90 : decode prog_5_method_28_code 90 = .ok (.ifCond .ne 21, 3) := by decide +kernel
theorem dH_at_93 : decode prog_5_method_28_code 93 = .ok (.aload_n 1, 1) := by decide +kernel
theorem dH_at_94 : decode prog_5_method_28_code 94 = .ok (.iconst 0, 1) := by decide +kernel
theorem dH_at_95 : decode prog_5_method_28_code 95 = .ok (.iconst 3, 1) := by decide +kernel
theorem dH_at_96 : decode prog_5_method_28_code 96 = .ok (.invokevirtual 48, 3) := by decide +kernel
theorem dH_at_99 : decode prog_5_method_28_code 99 = .ok (.ifCond .ne 12, 3) := by decide +kernel
theorem dH_at_102 : decode prog_5_method_28_code 102 = .ok (.aload_n 1, 1) := by decide +kernel
theorem dH_at_103 : decode prog_5_method_28_code 103 = .ok (.iconst 0, 1) := by decide +kernel
theorem dH_at_104 : decode prog_5_method_28_code 104 = .ok (.iconst 4, 1) := by decide +kernel
theorem dH_at_105 : decode prog_5_method_28_code 105 = .ok (.invokevirtual 48, 3) := by decide +kernel
theorem dH_at_108 : decode prog_5_method_28_code 108 = .ok (.ifCond .eq 7, 3) := by decide +kernel
theorem dH_at_111 : decode prog_5_method_28_code 111 = .ok (.iconst 1, 1) := by decide +kernel
theorem dH_at_112 : decode prog_5_method_28_code 112 = .ok (.goto 4, 3) := by decide +kernel
theorem dH_at_115 : decode prog_5_method_28_code 115 = .ok (.iconst 0, 1) := by decide +kernel
theorem dH_at_116 : decode prog_5_method_28_code 116 = .ok (.istore_n 3, 1) := by decide +kernel
theorem dH_at_117 : decode prog_5_method_28_code 117 = .ok (.iload_n 3, 1) := by decide +kernel
theorem dH_at_118 : decode prog_5_method_28_code 118 = .ok (.ifCond .eq 10, 3) := by decide +kernel
theorem dH_at_121 : decode prog_5_method_28_code 121 = .ok (.aload_n 2, 1) := by decide +kernel
theorem dH_at_122 : decode prog_5_method_28_code 122 = .ok (.invokestatic 147, 3) := by decide +kernel
theorem dH_at_125 : decode prog_5_method_28_code 125 = .ok (.goto 4, 3) := by decide +kernel
theorem dH_at_128 : decode prog_5_method_28_code 128 = .ok (.iconst 1, 1) := by decide +kernel
theorem dH_at_129 : decode prog_5_method_28_code 129 = .ok (.ireturn, 1) := by decide +kernel
theorem dH_begins_0 : decode prog_5_method_18_code 0 = .ok (.aload_n 0, 1) := by decide +kernel
theorem dH_begins_1 : decode prog_5_method_18_code 1 = .ok (.iconst 0, 1) := by decide +kernel
theorem dH_begins_2 : decode prog_5_method_18_code 2 = .ok (.iconst 0, 1) := by decide +kernel
theorem dH_begins_3 : decode prog_5_method_18_code 3 = .ok (.aload_n 1, 1) := by decide +kernel
theorem dH_begins_4 : decode prog_5_method_18_code 4 = .ok (.iconst 0, 1) := by decide +kernel
theorem dH_begins_5 : decode prog_5_method_18_code 5 = .ok (.invokevirtual 107, 3) := by decide +kernel
theorem dH_begins_8 : decode prog_5_method_18_code 8 = .ok (.ireturn, 1) := by decide +kernel
theorem dH_contains_0 : decode prog_5_method_8_code 0 = .ok (.aload_n 0, 1) := by decide +kernel
theorem dH_contains_1 : decode prog_5_method_8_code 1 = .ok (.iconst 0, 1) := by decide +kernel
theorem dH_contains_2 : decode prog_5_method_8_code 2 = .ok (.aload_n 1, 1) := by decide +kernel
theorem dH_contains_3 : decode prog_5_method_8_code 3 = .ok (.iconst 0, 1) := by decide +kernel
theorem dH_contains_4 : decode prog_5_method_8_code 4 = .ok (.invokestatic 80, 3) := by decide +kernel
theorem dH_contains_7 : decode prog_5_method_8_code 7 = .ok (.ifCond .eq 18, 3) := by decide +kernel
theorem dH_contains_10 : decode prog_5_method_8_code 10 = .ok (.aload_n 0, 1) := by decide +kernel
theorem dH_contains_11 : decode prog_5_method_8_code 11 = .ok (.iconst 0, 1) := by decide +kernel
theorem dH_contains_12 : decode prog_5_method_8_code 12 = .ok (.aload_n 1, 1) := by decide +kernel
theorem dH_contains_13 : decode prog_5_method_8_code 13 = .ok (.iconst 0, 1) := by decide +kernel
theorem dH_contains_14 : decode prog_5_method_8_code 14 = .ok (.iconst 0, 1) := by decide +kernel
theorem dH_contains_15 : decode prog_5_method_8_code 15 = .ok (.invokestatic 84, 3) := by decide +kernel
theorem dH_contains_18 : decode prog_5_method_8_code 18 = .ok (.aload_n 2, 1) := by decide +kernel
theorem dH_contains_19 : decode prog_5_method_8_code 19 = .ok (.invokestatic 35, 3) := by decide +kernel
theorem dH_contains_22 : decode prog_5_method_8_code 22 = .ok (.goto 4, 3) := by decide +kernel
theorem dH_contains_25 : decode prog_5_method_8_code 25 = .ok (.iconst 1, 1) := by decide +kernel
theorem dH_contains_26 : decode prog_5_method_8_code 26 = .ok (.ireturn, 1) := by decide +kernel
theorem dH_copy_0 : decode prog_5_method_5_code 0 = .ok (.aload_n 2, 1) := by decide +kernel
theorem dH_copy_1 : decode prog_5_method_5_code 1 = .ok (.aload_n 0, 1) := by decide +kernel
theorem dH_copy_2 : decode prog_5_method_5_code 2 = .ok (.iload_n 1, 1) := by decide +kernel
theorem dH_copy_3 : decode prog_5_method_5_code 3 = .ok (.invokevirtual 64, 3) := by decide +kernel
theorem dH_copy_6 : decode prog_5_method_5_code 6 = .ok (.iconst 0, 1) := by decide +kernel
theorem dH_copy_7 : decode prog_5_method_5_code 7 = .ok (.ireturn, 1) := by decide +kernel
theorem dH_elementAt_0 : decode prog_5_method_29_code 0 = .ok (.lload_n 1, 1) := by decide +kernel
theorem dH_elementAt_1 : decode prog_5_method_29_code 1 = .ok (.lconst 0, 1) := by decide +kernel
theorem dH_elementAt_2 : decode prog_5_method_29_code 2 = .ok (.lcmp, 1) := by decide +kernel
theorem dH_elementAt_3 : decode prog_5_method_29_code 3 = .ok (.ifCond .ge 14, 3) := by decide +kernel
theorem dH_elementAt_6 : decode prog_5_method_29_code 6 = .ok (.lload_n 1, 1) := by decide +kernel
theorem dH_elementAt_7 : decode prog_5_method_29_code 7 = .ok (.aload_n 0, 1) := by decide +kernel
theorem dH_elementAt_8 : decode prog_5_method_29_code 8 = .ok (.iconst 0, 1) := by decide +kernel
theorem dH_elementAt_9 : decode prog_5_method_29_code 9 = .ok (.invokevirtual 76, 3) := by decide +kernel
theorem dH_elementAt_12 : decode prog_5_method_29_code 12 = .ok (.i2l, 1) := by decide +kernel
theorem dH_elementAt_13 : decode prog_5_method_29_code 13 = .ok (.ladd, 1) := by decide +kernel
theorem dH_elementAt_14 : decode prog_5_method_29_code 14 = .ok (.goto 4, 3) := by decide +kernel
theorem dH_elementAt_17 : decode prog_5_method_29_code 17 = .ok (.lload_n 1, 1) := by decide +kernel
theorem dH_elementAt_18 : decode prog_5_method_29_code 18 = .ok (.lstore 4, 2) := by decide +kernel
theorem dH_elementAt_20 : decode prog_5_method_29_code 20 = .ok (.lload 4, 2) := by decide +kernel
theorem dH_elementAt_22 : decode prog_5_method_29_code 22 = .ok (.lconst 0, 1) := by decide +kernel
theorem dH_elementAt_23 : decode prog_5_method_29_code 23 = .ok (.lcmp, 1) := by decide +kernel
theorem dH_elementAt_24 : decode prog_5_method_29_code 24 = .ok (.ifCond .lt 19, 3) := by decide +kernel
theorem dH_elementAt_27 : decode prog_5_method_29_code 27 = .ok (.lload 4, 2) := by decide +kernel
theorem dH_elementAt_29 : decode prog_5_method_29_code 29 = .ok (.aload_n 0, 1) := by decide +kernel
theorem dH_elementAt_30 : decode prog_5_method_29_code 30 = .ok (.iconst 0, 1) := by decide +kernel
theorem dH_elementAt_31 : decode prog_5_method_29_code 31 = .ok (.invokevirtual 76, 3) := by decide +kernel
theorem dH_elementAt_34 : decode prog_5_method_29_code 34 = .ok (.i2l, 1) := by decide +kernel
theorem dH_elementAt_35 : decode prog_5_method_29_code 35 = .ok (.lcmp, 1) := by decide +kernel
theorem dH_elementAt_36 : decode prog_5_method_29_code 36 = .ok (.ifCond .ge 7, 3) := by decide +kernel
theorem dH_elementAt_39 : decode prog_5_method_29_code 39 = .ok (.iconst 1, 1) := by decide +kernel
theorem dH_elementAt_40 : decode prog_5_method_29_code 40 = .ok (.goto 4, 3) := by decide +kernel
theorem dH_elementAt_43 : decode prog_5_method_29_code 43 = .ok (.iconst 0, 1) := by decide +kernel
theorem dH_elementAt_44 : decode prog_5_method_29_code 44 = .ok (.istore 6, 2) := by decide +kernel
theorem dH_elementAt_46 : decode prog_5_method_29_code 46 = .ok (.iload 6, 2) := by decide +kernel
theorem dH_elementAt_48 : decode prog_5_method_29_code 48 = .ok (.ifCond .eq 18, 3) := by decide +kernel
theorem dH_elementAt_51 : decode prog_5_method_29_code 51 = .ok (.aload_n 0, 1) := by decide +kernel
theorem dH_elementAt_52 : decode prog_5_method_29_code 52 = .ok (.aload_n 0, 1) := by decide +kernel
theorem dH_elementAt_53 : decode prog_5_method_29_code 53 = .ok (.iconst 0, 1) := by decide +kernel
theorem dH_elementAt_54 : decode prog_5_method_29_code 54 = .ok (.lload 4, 2) := by decide +kernel
theorem dH_elementAt_56 : decode prog_5_method_29_code 56 = .ok (.invokevirtual 187, 3) := by decide +kernel
theorem dH_elementAt_59 : decode prog_5_method_29_code 59 = .ok (.aload_n 3, 1) := by decide +kernel
theorem dH_elementAt_60 : decode prog_5_method_29_code 60 = .ok (.invokestatic 139, 3) := by decide +kernel
theorem dH_elementAt_63 : decode prog_5_method_29_code 63 = .ok (.goto 7, 3) := by decide +kernel
theorem dH_elementAt_66 : decode prog_5_method_29_code 66 = .ok (.aload_n 3, 1) := by decide +kernel
theorem dH_elementAt_67 : decode prog_5_method_29_code 67 = .ok (.invokestatic 147, 3) := by decide +kernel
theorem dH_elementAt_70 : decode prog_5_method_29_code 70 = .ok (.ireturn, 1) := by decide +kernel
theorem dH_ends_0 : decode prog_5_method_19_code 0 = .ok (.aload_n 0, 1) := by decide +kernel
theorem dH_ends_1 : decode prog_5_method_19_code 1 = .ok (.iconst 0, 1) := by decide +kernel
theorem dH_ends_2 : decode prog_5_method_19_code 2 = .ok (.aload_n 0, 1) := by decide +kernel
theorem dH_ends_3 : decode prog_5_method_19_code 3 = .ok (.iconst 0, 1) := by decide +kernel
theorem dH_ends_4 : decode prog_5_method_19_code 4 = .ok (.invokevirtual 76, 3) := by decide +kernel
theorem dH_ends_7 : decode prog_5_method_19_code 7 = .ok (.aload_n 1, 1) := by decide +kernel
theorem dH_ends_8 : decode prog_5_method_19_code 8 = .ok (.iconst 0, 1) := by decide +kernel
theorem dH_ends_9 : decode prog_5_method_19_code 9 = .ok (.invokevirtual 76, 3) := by decide +kernel
theorem dH_ends_12 : decode prog_5_method_19_code 12 = .ok (.isub, 1) := by decide +kernel
theorem dH_ends_13 : decode prog_5_method_19_code 13 = .ok (.aload_n 1, 1) := by decide +kernel
theorem dH_ends_14 : decode prog_5_method_19_code 14 = .ok (.iconst 0, 1) := by decide +kernel
theorem dH_ends_15 : decode prog_5_method_19_code 15 = .ok (.invokevirtual 107, 3) := by decide +kernel
theorem dH_ends_18 : decode prog_5_method_19_code 18 = .ok (.ireturn, 1) := by decide +kernel
theorem dH_flat_0 : decode prog_5_method_26_code 0 = .ok (.aload_n 0, 1) := by decide +kernel
theorem dH_flat_1 : decode prog_5_method_26_code 1 = .ok (.iconst 0, 1) := by decide +kernel
theorem dH_flat_2 : decode prog_5_method_26_code 2 = .ok (.iconst 5, 1) := by decide +kernel
theorem dH_flat_3 : decode prog_5_method_26_code 3 = .ok (.invokevirtual 48, 3) := by decide +kernel
theorem dH_flat_6 : decode prog_5_method_26_code 6 = .ok (.ifCond .eq 12, 3) := by decide +kernel
theorem dH_flat_9 : decode prog_5_method_26_code 9 = .ok (.aload_n 1, 1) := by decide +kernel
theorem dH_flat_10 : decode prog_5_method_26_code 10 = .ok (.iconst 0, 1) := by decide +kernel
theorem dH_flat_11 : decode prog_5_method_26_code 11 = .ok (.iconst 3, 1) := by decide +kernel
theorem dH_flat_12 : decode prog_5_method_26_code 12 = .ok (.invokevirtual 48, 3) := by decide +kernel
theorem dH_flat_15 : decode prog_5_method_26_code 15 = .ok (.ifCond .ne 5, 3) := by decide +kernel
theorem dH_flat_18 : decode prog_5_method_26_code 18 = .ok (.iconst 1, 1) := by decide +kernel
theorem dH_flat_19 : decode prog_5_method_26_code 19 = .ok (.ireturn, 1) := by decide +kernel
theorem dH_flat_20 : decode prog_5_method_26_code 20 = .ok (.aload_n 1, 1) := by decide +kernel
theorem dH_flat_21 : decode prog_5_method_26_code 21 = .ok (.iconst 0, 1) := by decide +kernel
theorem dH_flat_22 : decode prog_5_method_26_code 22 = .ok (.invokevirtual 72, 3) := by decide +kernel
theorem dH_flat_25 : decode prog_5_method_26_code 25 = .ok (.lconst 0, 1) := by decide +kernel
theorem dH_flat_26 : decode prog_5_method_26_code 26 = .ok (.lcmp, 1) := by decide +kernel
theorem dH_flat_27 : decode prog_5_method_26_code 27 = .ok (.ifCond .ge 5, 3) := by decide +kernel
theorem dH_flat_30 : decode prog_5_method_26_code 30 = .ok (.iconst 2, 1) := by decide +kernel
theorem dH_flat_31 : decode prog_5_method_26_code 31 = .ok (.ireturn, 1) := by decide +kernel
theorem dH_flat_32 : decode prog_5_method_26_code 32 = .ok (.aload_n 2, 1) := by decide +kernel
theorem dH_flat_33 : decode prog_5_method_26_code 33 = .ok (.invokevirtual 151, 3) := by decide +kernel
theorem dH_flat_36 : decode prog_5_method_26_code 36 = .ok (.istore_n 3, 1) := by decide +kernel
theorem dH_flat_37 : decode prog_5_method_26_code 37 = .ok (.aload_n 0, 1) := by decide +kernel
theorem dH_flat_38 : decode prog_5_method_26_code 38 = .ok (.iconst 0, 1) := by decide +kernel
theorem dH_flat_39 : decode prog_5_method_26_code 39 = .ok (.aload_n 1, 1) := by decide +kernel
theorem dH_flat_40 : decode prog_5_method_26_code 40 = .ok (.iconst 0, 1) := by decide +kernel
theorem dH_flat_41 : decode prog_5_method_26_code 41 = .ok (.invokevirtual 72, 3) := by decide +kernel
theorem dH_flat_44 : decode prog_5_method_26_code 44 = .ok (.aload_n 2, 1) := by decide +kernel
theorem dH_flat_45 : decode prog_5_method_26_code 45 = .ok (.iconst 0, 1) := by decide +kernel
theorem dH_flat_46 : decode prog_5_method_26_code 46 = .ok (.invokestatic 179, 3) := by decide +kernel
theorem dH_flat_49 : decode prog_5_method_26_code 49 = .ok (.istore 4, 2) := by decide +kernel
theorem dH_flat_51 : decode prog_5_method_26_code 51 = .ok (.aload_n 2, 1) := by decide +kernel
theorem dH_flat_52 : decode prog_5_method_26_code 52 = .ok (.iload_n 3, 1) := by decide +kernel
theorem dH_flat_53 : decode prog_5_method_26_code 53 = .ok (.iconst 5, 1) := by decide +kernel
theorem dH_flat_54 : decode prog_5_method_26_code 54 = .ok (.iload 4, 2) := by decide +kernel
theorem dH_flat_56 : decode prog_5_method_26_code 56 = .ok (.invokevirtual 162, 3) := by decide +kernel
theorem dH_flat_59 : decode prog_5_method_26_code 59 = .ok (.iconst 0, 1) := by decide +kernel
theorem dH_flat_60 : decode prog_5_method_26_code 60 = .ok (.ireturn, 1) := by decide +kernel
theorem dH_has_0 : decode prog_5_method_7_code 0 = .ok (.aload_n 0, 1) := by decide +kernel
theorem dH_has_1 : decode prog_5_method_7_code 1 = .ok (.iconst 0, 1) := by decide +kernel
theorem dH_has_2 : decode prog_5_method_7_code 2 = .ok (.bipush 6, 2) := by decide +kernel
theorem dH_has_4 : decode prog_5_method_7_code 4 = .ok (.invokevirtual 48, 3) := by decide +kernel
theorem dH_has_7 : decode prog_5_method_7_code 7 = .ok (.ifCond .eq 33, 3) := by decide +kernel
theorem dH_has_10 : decode prog_5_method_7_code 10 = .ok (.aload_n 1, 1) := by decide +kernel
theorem dH_has_11 : decode prog_5_method_7_code 11 = .ok (.iconst 0, 1) := by decide +kernel
theorem dH_has_12 : decode prog_5_method_7_code 12 = .ok (.iconst 4, 1) := by decide +kernel
theorem dH_has_13 : decode prog_5_method_7_code 13 = .ok (.invokevirtual 48, 3) := by decide +kernel
theorem dH_has_16 : decode prog_5_method_7_code 16 = .ok (.ifCond .eq 24, 3) := by decide +kernel
theorem dH_has_19 : decode prog_5_method_7_code 19 = .ok (.aload_n 0, 1) := by decide +kernel
theorem dH_has_20 : decode prog_5_method_7_code 20 = .ok (.iconst 0, 1) := by decide +kernel
theorem dH_has_21 : decode prog_5_method_7_code 21 = .ok (.aload_n 1, 1) := by decide +kernel
theorem dH_has_22 : decode prog_5_method_7_code 22 = .ok (.iconst 0, 1) := by decide +kernel
theorem dH_has_23 : decode prog_5_method_7_code 23 = .ok (.invokevirtual 68, 3) := by decide +kernel
theorem dH_has_26 : decode prog_5_method_7_code 26 = .ok (.iconst (-1), 1) := by decide +kernel
theorem dH_has_27 : decode prog_5_method_7_code 27 = .ok (.if_icmp .eq 7, 3) := by decide +kernel
theorem dH_has_30 : decode prog_5_method_7_code 30 = .ok (.iconst 1, 1) := by decide +kernel
theorem dH_has_31 : decode prog_5_method_7_code 31 = .ok (.goto 4, 3) := by decide +kernel
theorem dH_has_34 : decode prog_5_method_7_code 34 = .ok (.iconst 0, 1) := by decide +kernel
theorem dH_has_35 : decode prog_5_method_7_code 35 = .ok (.aload_n 2, 1) := by decide +kernel
theorem dH_has_36 : decode prog_5_method_7_code 36 = .ok (.invokestatic 35, 3) := by decide +kernel
theorem dH_has_39 : decode prog_5_method_7_code 39 = .ok (.ireturn, 1) := by decide +kernel
theorem dH_has_40 : decode prog_5_method_7_code 40 = .ok (.aload_n 0, 1) := by decide +kernel
theorem dH_has_41 : decode prog_5_method_7_code 41 = .ok (.iconst 0, 1) := by decide +kernel
theorem dH_has_42 : decode prog_5_method_7_code 42 = .ok (.iconst 5, 1) := by decide +kernel
theorem dH_has_43 : decode prog_5_method_7_code 43 = .ok (.invokevirtual 48, 3) := by decide +kernel
theorem dH_has_46 : decode prog_5_method_7_code 46 = .ok (.ifCond .eq 47, 3) := by decide +kernel
theorem dH_has_49 : decode prog_5_method_7_code 49 = .ok (.aload_n 1, 1) := by decide +kernel
theorem dH_has_50 : decode prog_5_method_7_code 50 = .ok (.iconst 0, 1) := by decide +kernel
theorem dH_has_51 : decode prog_5_method_7_code 51 = .ok (.iconst 3, 1) := by decide +kernel
theorem dH_has_52 : decode prog_5_method_7_code 52 = .ok (.invokevirtual 48, 3) := by decide +kernel
theorem dH_has_55 : decode prog_5_method_7_code 55 = .ok (.ifCond .eq 38, 3) := by decide +kernel
theorem dH_has_58 : decode prog_5_method_7_code 58 = .ok (.aload_n 1, 1) := by decide +kernel
theorem dH_has_59 : decode prog_5_method_7_code 59 = .ok (.iconst 0, 1) := by decide +kernel
theorem dH_has_60 : decode prog_5_method_7_code 60 = .ok (.invokevirtual 72, 3) := by decide +kernel
theorem dH_has_63 : decode prog_5_method_7_code 63 = .ok (.lconst 0, 1) := by decide +kernel
theorem dH_has_64 : decode prog_5_method_7_code 64 = .ok (.lcmp, 1) := by decide +kernel
theorem dH_has_65 : decode prog_5_method_7_code 65 = .ok (.ifCond .lt 22, 3) := by decide +kernel
theorem dH_has_68 : decode prog_5_method_7_code 68 = .ok (.aload_n 1, 1) := by decide +kernel
theorem dH_has_69 : decode prog_5_method_7_code 69 = .ok (.iconst 0, 1) := by decide +kernel
theorem dH_has_70 : decode prog_5_method_7_code 70 = .ok (.invokevirtual 72, 3) := by decide +kernel
theorem dH_has_73 : decode prog_5_method_7_code 73 = .ok (.aload_n 0, 1) := by decide +kernel
theorem dH_has_74 : decode prog_5_method_7_code 74 = .ok (.iconst 0, 1) := by decide +kernel
theorem dH_has_75 : decode prog_5_method_7_code 75 = .ok (.invokevirtual 76, 3) := by decide +kernel
theorem dH_has_78 : decode prog_5_method_7_code 78 = .ok (.i2l, 1) := by decide +kernel
theorem dH_has_79 : decode prog_5_method_7_code 79 = .ok (.lcmp, 1) := by decide +kernel
theorem dH_has_80 : decode prog_5_method_7_code 80 = .ok (.ifCond .ge 7, 3) := by decide +kernel
theorem dH_has_83 : decode prog_5_method_7_code 83 = .ok (.iconst 1, 1) := by decide +kernel
theorem dH_has_84 : decode prog_5_method_7_code 84 = .ok (.goto 4, 3) := by decide +kernel
theorem dH_has_87 : decode prog_5_method_7_code 87 = .ok (.iconst 0, 1) := by decide +kernel
theorem dH_has_88 : decode prog_5_method_7_code 88 = .ok (.aload_n 2, 1) := by decide +kernel
theorem dH_has_89 : decode prog_5_method_7_code 89 = .ok (.invokestatic 35, 3) := by decide +kernel
theorem dH_has_92 : decode prog_5_method_7_code 92 = .ok (.ireturn, 1) := by decide +kernel
theorem dH_has_93 : decode prog_5_method_7_code 93 = .ok (.iconst 1, 1) := by decide +kernel
theorem dH_has_94 : decode prog_5_method_7_code 94 = .ok (.ireturn, 1) := by decide +kernel
theorem dH_indices_0 : decode prog_5_method_22_code 0 = .ok (.aload_n 0, 1) := by decide +kernel
theorem dH_indices_1 : decode prog_5_method_22_code 1 = .ok (.iconst 0, 1) := by decide +kernel
theorem dH_indices_2 : decode prog_5_method_22_code 2 = .ok (.iconst 0, 1) := by decide +kernel
theorem dH_indices_3 : decode prog_5_method_22_code 3 = .ok (.invokevirtual 48, 3) := by decide +kernel
theorem dH_indices_6 : decode prog_5_method_22_code 6 = .ok (.ifCond .eq 8, 3) := by decide +kernel
theorem dH_indices_9 : decode prog_5_method_22_code 9 = .ok (.aload_n 2, 1) := by decide +kernel
theorem dH_indices_10 : decode prog_5_method_22_code 10 = .ok (.invokestatic 147, 3) := by decide +kernel
theorem dH_indices_13 : decode prog_5_method_22_code 13 = .ok (.ireturn, 1) := by decide +kernel
theorem dH_indices_14 : decode prog_5_method_22_code 14 = .ok (.aload_n 0, 1) := by decide +kernel
theorem dH_indices_15 : decode prog_5_method_22_code 15 = .ok (.iconst 0, 1) := by decide +kernel
theorem dH_indices_16 : decode prog_5_method_22_code 16 = .ok (.iconst 5, 1) := by decide +kernel
theorem dH_indices_17 : decode prog_5_method_22_code 17 = .ok (.invokevirtual 48, 3) := by decide +kernel
theorem dH_indices_20 : decode prog_5_method_22_code 20 = .ok (.ifCond .ne 13, 3) := by decide +kernel
theorem dH_indices_23 : decode prog_5_method_22_code 23 = .ok (.aload_n 0, 1) := by decide +kernel
theorem dH_indices_24 : decode prog_5_method_22_code 24 = .ok (.aload_n 1, 1) := by decide +kernel
theorem dH_indices_25 : decode prog_5_method_22_code 25 = .ok (.invokestatic 28, 3) := by decide +kernel
theorem dH_indices_28 : decode prog_5_method_22_code 28 = .ok (.ifCond .ne 5, 3) := by decide +kernel
theorem dH_indices_31 : decode prog_5_method_22_code 31 = .ok (.iconst 1, 1) := by decide +kernel
theorem dH_indices_32 : decode prog_5_method_22_code 32 = .ok (.ireturn, 1) := by decide +kernel
theorem dH_indices_33 : decode prog_5_method_22_code 33 = .ok (.aload_n 0, 1) := by decide +kernel
theorem dH_indices_34 : decode prog_5_method_22_code 34 = .ok (.iconst 0, 1) := by decide +kernel
theorem dH_indices_35 : decode prog_5_method_22_code 35 = .ok (.iconst 5, 1) := by decide +kernel
theorem dH_indices_36 : decode prog_5_method_22_code 36 = .ok (.invokevirtual 48, 3) := by decide +kernel
theorem dH_indices_39 : decode prog_5_method_22_code 39 = .ok (.ifCond .eq 16, 3) := by decide +kernel
theorem dH_indices_42 : decode prog_5_method_22_code 42 = .ok (.aload_n 1, 1) := by decide +kernel
theorem dH_indices_43 : decode prog_5_method_22_code 43 = .ok (.iconst 0, 1) := by decide +kernel
theorem dH_indices_44 : decode prog_5_method_22_code 44 = .ok (.iconst 5, 1) := by decide +kernel
theorem dH_indices_45 : decode prog_5_method_22_code 45 = .ok (.invokevirtual 48, 3) := by decide +kernel
theorem dH_indices_48 : decode prog_5_method_22_code 48 = .ok (.ifCond .ne 7, 3) := by decide +kernel
theorem dH_indices_51 : decode prog_5_method_22_code 51 = .ok (.iconst 1, 1) := by decide +kernel
theorem dH_indices_52 : decode prog_5_method_22_code 52 = .ok (.goto 4, 3) := by decide +kernel
theorem dH_indices_55 : decode prog_5_method_22_code 55 = .ok (.iconst 0, 1) := by decide +kernel
theorem dH_indices_56 : decode prog_5_method_22_code 56 = .ok (.istore_n 3, 1) := by decide +kernel
theorem dH_indices_57 : decode prog_5_method_22_code 57 = .ok (.iload_n 3, 1) := by decide +kernel
theorem dH_indices_58 : decode prog_5_method_22_code 58 = .ok (.ifCond .ne 16, 3) := by decide +kernel
theorem dH_indices_61 : decode prog_5_method_22_code 61 = .ok (.aload_n 1, 1) := by decide +kernel
theorem dH_indices_62 : decode prog_5_method_22_code 62 = .ok (.iconst 0, 1) := by decide +kernel
theorem dH_indices_63 : decode prog_5_method_22_code 63 = .ok (.invokevirtual 76, 3) := by decide +kernel
theorem dH_indices_66 : decode prog_5_method_22_code 66 = .ok (.ifCond .ne 8, 3) := by decide +kernel
theorem dH_indices_69 : decode prog_5_method_22_code 69 = .ok (.aload_n 2, 1) := by decide +kernel
theorem dH_indices_70 : decode prog_5_method_22_code 70 = .ok (.invokestatic 147, 3) := by decide +kernel
theorem dH_indices_73 : decode prog_5_method_22_code 73 = .ok (.ireturn, 1) := by decide +kernel
theorem dH_indices_74 : decode prog_5_method_22_code 74 = .ok (.aload_n 2, 1) := by decide +kernel
theorem dH_indices_75 : decode prog_5_method_22_code 75 = .ok (.invokevirtual 151, 3) := by decide +kernel
theorem dH_indices_78 : decode prog_5_method_22_code 78 = .ok (.istore 4, 2) := by decide +kernel
theorem dH_indices_80 : decode prog_5_method_22_code 80 = .ok (.aload_n 0, 1) := by decide +kernel
theorem dH_indices_81 : decode prog_5_method_22_code 81 = .ok (.iconst 0, 1) := by decide +kernel
theorem dH_indices_82 : decode prog_5_method_22_code 82 = .ok (.iconst 4, 1) := by decide +kernel
theorem dH_indices_83 : decode prog_5_method_22_code 83 = .ok (.invokevirtual 48, 3) := by decide +kernel
theorem dH_indices_86 : decode prog_5_method_22_code 86 = .ok (.ifCond .eq 12, 3) := by decide +kernel
theorem dH_indices_89 : decode prog_5_method_22_code 89 = .ok (.aload_n 0, 1) := by decide +kernel
theorem dH_indices_90 : decode prog_5_method_22_code 90 = .ok (.aload_n 1, 1) := by decide +kernel
theorem dH_indices_91 : decode prog_5_method_22_code 91 = .ok (.aload_n 2, 1) := by decide +kernel
theorem dH_indices_92 : decode prog_5_method_22_code 92 = .ok (.invokestatic 155, 3) := by decide +kernel
theorem dH_indices_95 : decode prog_5_method_22_code 95 = .ok (.goto 10, 3) := by decide +kernel
theorem dH_indices_98 : decode prog_5_method_22_code 98 = .ok (.aload_n 0, 1) := by decide +kernel
theorem dH_indices_99 : decode prog_5_method_22_code 99 = .ok (.aload_n 1, 1) := by decide +kernel
theorem dH_indices_100 : decode prog_5_method_22_code 100 = .ok (.iload_n 3, 1) := by decide +kernel
theorem dH_indices_101 : decode prog_5_method_22_code 101 = .ok (.aload_n 2, 1) := by decide +kernel
theorem dH_indices_102 : decode prog_5_method_22_code 102 = .ok (.invokestatic 158, 3) := by decide +kernel
theorem dH_indices_105 : decode prog_5_method_22_code 105 = .ok (.istore 5, 2) := by decide +kernel
theorem dH_indices_107 : decode prog_5_method_22_code 107 = .ok (.aload_n 2, 1) := by decide +kernel
theorem dH_indices_108 : decode prog_5_method_22_code 108 = .ok (.iload 4, 2) := by decide +kernel
theorem dH_indices_110 : decode prog_5_method_22_code 110 = .ok (.iconst 5, 1) := by decide +kernel
theorem dH_indices_111 : decode prog_5_method_22_code 111 = .ok (.iload 5, 2) := by decide +kernel
theorem dH_indices_113 : decode prog_5_method_22_code 113 = .ok (.invokevirtual 162, 3) := by decide +kernel
theorem dH_indices_116 : decode prog_5_method_22_code 116 = .ok (.iconst 0, 1) := by decide +kernel
theorem dH_indices_117 : decode prog_5_method_22_code 117 = .ok (.ireturn, 1) := by decide +kernel
theorem dH_isIn_0 : decode prog_5_method_11_code 0 = .ok (.aload_n 0, 1) := by decide +kernel
theorem dH_isIn_1 : decode prog_5_method_11_code 1 = .ok (.iload_n 1, 1) := by decide +kernel
theorem dH_isIn_2 : decode prog_5_method_11_code 2 = .ok (.invokevirtual 88, 3) := by decide +kernel
theorem dH_isIn_5 : decode prog_5_method_11_code 5 = .ok (.aload_n 2, 1) := by decide +kernel
theorem dH_isIn_6 : decode prog_5_method_11_code 6 = .ok (.iload_n 3, 1) := by decide +kernel
theorem dH_isIn_7 : decode prog_5_method_11_code 7 = .ok (.invokevirtual 88, 3) := by decide +kernel
theorem dH_isIn_10 : decode prog_5_method_11_code 10 = .ok (.if_icmp .ne 10, 3) := by decide +kernel
theorem dH_isIn_13 : decode prog_5_method_11_code 13 = .ok (.iload 4, 2) := by decide +kernel
theorem dH_isIn_15 : decode prog_5_method_11_code 15 = .ok (.bipush 60, 2) := by decide +kernel
theorem dH_isIn_17 : decode prog_5_method_11_code 17 = .ok (.if_icmp .le 5, 3) := by decide +kernel
theorem dH_isIn_20 : decode prog_5_method_11_code 20 = .ok (.iconst 0, 1) := by decide +kernel
theorem dH_isIn_21 : decode prog_5_method_11_code 21 = .ok (.ireturn, 1) := by decide +kernel
theorem dH_isIn_22 : decode prog_5_method_11_code 22 = .ok (.aload_n 0, 1) := by decide +kernel
theorem dH_isIn_23 : decode prog_5_method_11_code 23 = .ok (.iload_n 1, 1) := by decide +kernel
theorem dH_isIn_24 : decode prog_5_method_11_code 24 = .ok (.invokevirtual 88, 3) := by decide +kernel
theorem dH_isIn_27 : decode prog_5_method_11_code 27 = .ok (.tableswitch 53 4 6 #[25, 33, 43], 25) := by decide +kernel
theorem dH_isIn_52 : decode prog_5_method_11_code 52 = .ok (.aload_n 0, 1) := by decide +kernel
theorem dH_isIn_53 : decode prog_5_method_11_code 53 = .ok (.iload_n 1, 1) := by decide +kernel
theorem dH_isIn_54 : decode prog_5_method_11_code 54 = .ok (.aload_n 2, 1) := by decide +kernel
theorem dH_isIn_55 : decode prog_5_method_11_code 55 = .ok (.iload_n 3, 1) := by decide +kernel
theorem dH_isIn_56 : decode prog_5_method_11_code 56 = .ok (.invokestatic 95, 3) := by decide +kernel
theorem dH_isIn_59 : decode prog_5_method_11_code 59 = .ok (.ireturn, 1) := by decide +kernel
theorem dH_isIn_60 : decode prog_5_method_11_code 60 = .ok (.aload_n 0, 1) := by decide +kernel
theorem dH_isIn_61 : decode prog_5_method_11_code 61 = .ok (.iload_n 1, 1) := by decide +kernel
theorem dH_isIn_62 : decode prog_5_method_11_code 62 = .ok (.aload_n 2, 1) := by decide +kernel
theorem dH_isIn_63 : decode prog_5_method_11_code 63 = .ok (.iload_n 3, 1) := by decide +kernel
theorem dH_isIn_64 : decode prog_5_method_11_code 64 = .ok (.iload 4, 2) := by decide +kernel
theorem dH_isIn_66 : decode prog_5_method_11_code 66 = .ok (.invokestatic 98, 3) := by decide +kernel
theorem dH_isIn_69 : decode prog_5_method_11_code 69 = .ok (.ireturn, 1) := by decide +kernel
theorem dH_isIn_70 : decode prog_5_method_11_code 70 = .ok (.aload_n 0, 1) := by decide +kernel
theorem dH_isIn_71 : decode prog_5_method_11_code 71 = .ok (.iload_n 1, 1) := by decide +kernel
theorem dH_isIn_72 : decode prog_5_method_11_code 72 = .ok (.aload_n 2, 1) := by decide +kernel
theorem dH_isIn_73 : decode prog_5_method_11_code 73 = .ok (.iload_n 3, 1) := by decide +kernel
theorem dH_isIn_74 : decode prog_5_method_11_code 74 = .ok (.iload 4, 2) := by decide +kernel
theorem dH_isIn_76 : decode prog_5_method_11_code 76 = .ok (.invokestatic 101, 3) := by decide +kernel
theorem dH_isIn_79 : decode prog_5_method_11_code 79 = .ok (.ireturn, 1) := by decide +kernel
theorem dH_isIn_80 : decode prog_5_method_11_code 80 = .ok (.aload_n 0, 1) := by decide +kernel
theorem dH_isIn_81 : decode prog_5_method_11_code 81 = .ok (.iload_n 1, 1) := by decide +kernel
theorem dH_isIn_82 : decode prog_5_method_11_code 82 = .ok (.invokevirtual 104, 3) := by decide +kernel
theorem dH_isIn_85 : decode prog_5_method_11_code 85 = .ok (.aload_n 2, 1) := by decide +kernel
theorem dH_isIn_86 : decode prog_5_method_11_code 86 = .ok (.iload_n 3, 1) := by decide +kernel
theorem dH_isIn_87 : decode prog_5_method_11_code 87 = .ok (.invokevirtual 104, 3) := by decide +kernel
theorem dH_isIn_90 : decode prog_5_method_11_code 90 = .ok (.lcmp, 1) := by decide +kernel
theorem dH_isIn_91 : decode prog_5_method_11_code 91 = .ok (.ifCond .ne 7, 3) := by decide +kernel
theorem dH_isIn_94 : decode prog_5_method_11_code 94 = .ok (.iconst 1, 1) := by decide +kernel
theorem dH_isIn_95 : decode prog_5_method_11_code 95 = .ok (.goto 4, 3) := by decide +kernel
theorem dH_isIn_98 : decode prog_5_method_11_code 98 = .ok (.iconst 0, 1) := by decide +kernel
theorem dH_isIn_99 : decode prog_5_method_11_code 99 = .ok (.ireturn, 1) := by decide +kernel
theorem dH_isInSome_0 : decode prog_5_method_14_code 0 = .ok (.iload_n 1, 1) := by decide +kernel
theorem dH_isInSome_1 : decode prog_5_method_14_code 1 = .ok (.iconst 1, 1) := by decide +kernel
theorem dH_isInSome_2 : decode prog_5_method_14_code 2 = .ok (.iadd, 1) := by decide +kernel
theorem dH_isInSome_3 : decode prog_5_method_14_code 3 = .ok (.istore 5, 2) := by decide +kernel
theorem dH_isInSome_5 : decode prog_5_method_14_code 5 = .ok (.iconst 0, 1) := by decide +kernel
theorem dH_isInSome_6 : decode prog_5_method_14_code 6 = .ok (.istore 6, 2) := by decide +kernel
theorem dH_isInSome_8 : decode prog_5_method_14_code 8 = .ok (.iload 6, 2) := by decide +kernel
theorem dH_isInSome_10 : decode prog_5_method_14_code 10 = .ok (.aload_n 0, 1) := by decide +kernel
theorem dH_isInSome_11 : decode prog_5_method_14_code 11 = .ok (.iload_n 1, 1) := by decide +kernel
theorem dH_isInSome_12 : decode prog_5_method_14_code 12 = .ok (.invokevirtual 76, 3) := by decide +kernel
theorem dH_isInSome_15 : decode prog_5_method_14_code 15 = .ok (.if_icmp .ge 34, 3) := by decide +kernel
theorem dH_isInSome_18 : decode prog_5_method_14_code 18 = .ok (.aload_n 0, 1) := by decide +kernel
theorem dH_isInSome_19 : decode prog_5_method_14_code 19 = .ok (.iload 5, 2) := by decide +kernel
theorem dH_isInSome_21 : decode prog_5_method_14_code 21 = .ok (.aload_n 2, 1) := by decide +kernel
theorem dH_isInSome_22 : decode prog_5_method_14_code 22 = .ok (.iload_n 3, 1) := by decide +kernel
theorem dH_isInSome_23 : decode prog_5_method_14_code 23 = .ok (.iload 4, 2) := by decide +kernel
theorem dH_isInSome_25 : decode prog_5_method_14_code 25 = .ok (.iconst 1, 1) := by decide +kernel
theorem dH_isInSome_26 : decode prog_5_method_14_code 26 = .ok (.iadd, 1) := by decide +kernel
theorem dH_isInSome_27 : decode prog_5_method_14_code 27 = .ok (.invokestatic 84, 3) := by decide +kernel
theorem dH_isInSome_30 : decode prog_5_method_14_code 30 = .ok (.ifCond .eq 5, 3) := by decide +kernel
theorem dH_isInSome_33 : decode prog_5_method_14_code 33 = .ok (.iconst 1, 1) := by decide +kernel
theorem dH_isInSome_34 : decode prog_5_method_14_code 34 = .ok (.ireturn, 1) := by decide +kernel
theorem dH_isInSome_35 : decode prog_5_method_14_code 35 = .ok (.aload_n 0, 1) := by decide +kernel
theorem dH_isInSome_36 : decode prog_5_method_14_code 36 = .ok (.iload 5, 2) := by decide +kernel
theorem dH_isInSome_38 : decode prog_5_method_14_code 38 = .ok (.invokevirtual 114, 3) := by decide +kernel
theorem dH_isInSome_41 : decode prog_5_method_14_code 41 = .ok (.istore 5, 2) := by decide +kernel
theorem dH_isInSome_43 : decode prog_5_method_14_code 43 = .ok (.iinc 6 1, 3) := by decide +kernel
theorem dH_isInSome_46 : decode prog_5_method_14_code 46 = .ok (.goto (-38), 3) := by decide +kernel
theorem dH_isInSome_49 : decode prog_5_method_14_code 49 = .ok (.iconst 0, 1) := by decide +kernel
theorem dH_isInSome_50 : decode prog_5_method_14_code 50 = .ok (.ireturn, 1) := by decide +kernel
theorem dH_isPart_0 : decode prog_5_method_12_code 0 = .ok (.iconst 0, 1) := by decide +kernel
theorem dH_isPart_1 : decode prog_5_method_12_code 1 = .ok (.istore 4, 2) := by decide +kernel
theorem dH_isPart_3 : decode prog_5_method_12_code 3 = .ok (.iload 4, 2) := by decide +kernel
theorem dH_isPart_5 : decode prog_5_method_12_code 5 = .ok (.aload_n 0, 1) := by decide +kernel
theorem dH_isPart_6 : decode prog_5_method_12_code 6 = .ok (.iload_n 1, 1) := by decide +kernel
theorem dH_isPart_7 : decode prog_5_method_12_code 7 = .ok (.invokevirtual 76, 3) := by decide +kernel
theorem dH_isPart_10 : decode prog_5_method_12_code 10 = .ok (.if_icmp .gt 23, 3) := by decide +kernel
theorem dH_isPart_13 : decode prog_5_method_12_code 13 = .ok (.aload_n 0, 1) := by decide +kernel
theorem dH_isPart_14 : decode prog_5_method_12_code 14 = .ok (.iload_n 1, 1) := by decide +kernel
theorem dH_isPart_15 : decode prog_5_method_12_code 15 = .ok (.iload 4, 2) := by decide +kernel
theorem dH_isPart_17 : decode prog_5_method_12_code 17 = .ok (.aload_n 2, 1) := by decide +kernel
theorem dH_isPart_18 : decode prog_5_method_12_code 18 = .ok (.iload_n 3, 1) := by decide +kernel
theorem dH_isPart_19 : decode prog_5_method_12_code 19 = .ok (.invokevirtual 107, 3) := by decide +kernel
theorem dH_isPart_22 : decode prog_5_method_12_code 22 = .ok (.ifCond .eq 5, 3) := by decide +kernel
theorem dH_isPart_25 : decode prog_5_method_12_code 25 = .ok (.iconst 1, 1) := by decide +kernel
theorem dH_isPart_26 : decode prog_5_method_12_code 26 = .ok (.ireturn, 1) := by decide +kernel
theorem dH_isPart_27 : decode prog_5_method_12_code 27 = .ok (.iinc 4 1, 3) := by decide +kernel
theorem dH_isPart_30 : decode prog_5_method_12_code 30 = .ok (.goto (-27), 3) := by decide +kernel
theorem dH_isPart_33 : decode prog_5_method_12_code 33 = .ok (.iconst 0, 1) := by decide +kernel
theorem dH_isPart_34 : decode prog_5_method_12_code 34 = .ok (.ireturn, 1) := by decide +kernel
theorem dH_isTruth_0 : decode prog_5_method_10_code 0 = .ok (.iload_n 0, 1) := by decide +kernel
theorem dH_isTruth_1 : decode prog_5_method_10_code 1 = .ok (.iconst 1, 1) := by decide +kernel
theorem dH_isTruth_2 : decode prog_5_method_10_code 2 = .ok (.if_icmp .eq 8, 3) := by decide +kernel
theorem dH_isTruth_5 : decode prog_5_method_10_code 5 = .ok (.iload_n 0, 1) := by decide +kernel
theorem dH_isTruth_6 : decode prog_5_method_10_code 6 = .ok (.iconst 2, 1) := by decide +kernel
theorem dH_isTruth_7 : decode prog_5_method_10_code 7 = .ok (.if_icmp .ne 7, 3) := by decide +kernel
theorem dH_isTruth_10 : decode prog_5_method_10_code 10 = .ok (.iconst 1, 1) := by decide +kernel
theorem dH_isTruth_11 : decode prog_5_method_10_code 11 = .ok (.goto 4, 3) := by decide +kernel
theorem dH_isTruth_14 : decode prog_5_method_10_code 14 = .ok (.iconst 0, 1) := by decide +kernel
theorem dH_isTruth_15 : decode prog_5_method_10_code 15 = .ok (.ireturn, 1) := by decide +kernel
theorem dH_joined_0 : decode prog_5_method_16_code 0 = .ok (.aload_n 0, 1) := by decide +kernel
theorem dH_joined_1 : decode prog_5_method_16_code 1 = .ok (.iconst 0, 1) := by decide +kernel
theorem dH_joined_2 : decode prog_5_method_16_code 2 = .ok (.iconst 5, 1) := by decide +kernel
theorem dH_joined_3 : decode prog_5_method_16_code 3 = .ok (.invokevirtual 48, 3) := by decide +kernel
theorem dH_joined_6 : decode prog_5_method_16_code 6 = .ok (.ifCond .eq 12, 3) := by decide +kernel
theorem dH_joined_9 : decode prog_5_method_16_code 9 = .ok (.aload_n 1, 1) := by decide +kernel
theorem dH_joined_10 : decode prog_5_method_16_code 10 = .ok (.iconst 0, 1) := by decide +kernel
theorem dH_joined_11 : decode prog_5_method_16_code 11 = .ok (.iconst 4, 1) := by decide +kernel
theorem dH_joined_12 : decode prog_5_method_16_code 12 = .ok (.invokevirtual 48, 3) := by decide +kernel
theorem dH_joined_15 : decode prog_5_method_16_code 15 = .ok (.ifCond .ne 5, 3) := by decide +kernel
theorem dH_joined_18 : decode prog_5_method_16_code 18 = .ok (.iconst 1, 1) := by decide +kernel
theorem dH_joined_19 : decode prog_5_method_16_code 19 = .ok (.ireturn, 1) := by decide +kernel
theorem dH_joined_20 : decode prog_5_method_16_code 20 = .ok (.aload_n 2, 1) := by decide +kernel
theorem dH_joined_21 : decode prog_5_method_16_code 21 = .ok (.invokevirtual 117, 3) := by decide +kernel
theorem dH_joined_24 : decode prog_5_method_16_code 24 = .ok (.iconst 1, 1) := by decide +kernel
theorem dH_joined_25 : decode prog_5_method_16_code 25 = .ok (.istore 4, 2) := by decide +kernel
theorem dH_joined_27 : decode prog_5_method_16_code 27 = .ok (.iconst 0, 1) := by decide +kernel
theorem dH_joined_28 : decode prog_5_method_16_code 28 = .ok (.istore 5, 2) := by decide +kernel
theorem dH_joined_30 : decode prog_5_method_16_code 30 = .ok (.iload 5, 2) := by decide +kernel
theorem dH_joined_32 : decode prog_5_method_16_code 32 = .ok (.aload_n 0, 1) := by decide +kernel
theorem dH_joined_33 : decode prog_5_method_16_code 33 = .ok (.iconst 0, 1) := by decide +kernel
theorem dH_joined_34 : decode prog_5_method_16_code 34 = .ok (.invokevirtual 76, 3) := by decide +kernel
theorem dH_joined_37 : decode prog_5_method_16_code 37 = .ok (.if_icmp .ge 58, 3) := by decide +kernel
theorem dH_joined_40 : decode prog_5_method_16_code 40 = .ok (.aload_n 0, 1) := by decide +kernel
theorem dH_joined_41 : decode prog_5_method_16_code 41 = .ok (.iload 4, 2) := by decide +kernel
theorem dH_joined_43 : decode prog_5_method_16_code 43 = .ok (.iconst 5, 1) := by decide +kernel
theorem dH_joined_44 : decode prog_5_method_16_code 44 = .ok (.invokevirtual 48, 3) := by decide +kernel
theorem dH_joined_47 : decode prog_5_method_16_code 47 = .ok (.ifCond .ne 14, 3) := by decide +kernel
theorem dH_joined_50 : decode prog_5_method_16_code 50 = .ok (.aload_n 0, 1) := by decide +kernel
theorem dH_joined_51 : decode prog_5_method_16_code 51 = .ok (.iload 4, 2) := by decide +kernel
theorem dH_joined_53 : decode prog_5_method_16_code 53 = .ok (.bipush 6, 2) := by decide +kernel
theorem dH_joined_55 : decode prog_5_method_16_code 55 = .ok (.invokevirtual 48, 3) := by decide +kernel
theorem dH_joined_58 : decode prog_5_method_16_code 58 = .ok (.ifCond .eq 5, 3) := by decide +kernel
theorem dH_joined_61 : decode prog_5_method_16_code 61 = .ok (.iconst 1, 1) := by decide +kernel
theorem dH_joined_62 : decode prog_5_method_16_code 62 = .ok (.ireturn, 1) := by decide +kernel
theorem dH_joined_63 : decode prog_5_method_16_code 63 = .ok (.iload 5, 2) := by decide +kernel
theorem dH_joined_65 : decode prog_5_method_16_code 65 = .ok (.ifCond .le 9, 3) := by decide +kernel
theorem dH_joined_68 : decode prog_5_method_16_code 68 = .ok (.aload_n 2, 1) := by decide +kernel
theorem dH_joined_69 : decode prog_5_method_16_code 69 = .ok (.aload_n 1, 1) := by decide +kernel
theorem dH_joined_70 : decode prog_5_method_16_code 70 = .ok (.iconst 0, 1) := by decide +kernel
theorem dH_joined_71 : decode prog_5_method_16_code 71 = .ok (.invokevirtual 122, 3) := by decide +kernel
theorem dH_joined_74 : decode prog_5_method_16_code 74 = .ok (.aload_n 0, 1) := by decide +kernel
theorem dH_joined_75 : decode prog_5_method_16_code 75 = .ok (.iload 4, 2) := by decide +kernel
theorem dH_joined_77 : decode prog_5_method_16_code 77 = .ok (.aload_n 2, 1) := by decide +kernel
theorem dH_joined_78 : decode prog_5_method_16_code 78 = .ok (.invokestatic 125, 3) := by decide +kernel
theorem dH_joined_81 : decode prog_5_method_16_code 81 = .ok (.aload_n 0, 1) := by decide +kernel
theorem dH_joined_82 : decode prog_5_method_16_code 82 = .ok (.iload 4, 2) := by decide +kernel
theorem dH_joined_84 : decode prog_5_method_16_code 84 = .ok (.invokevirtual 114, 3) := by decide +kernel
theorem dH_joined_87 : decode prog_5_method_16_code 87 = .ok (.istore 4, 2) := by decide +kernel
theorem dH_joined_89 : decode prog_5_method_16_code 89 = .ok (.iinc 5 1, 3) := by decide +kernel
theorem dH_joined_92 : decode prog_5_method_16_code 92 = .ok (.goto (-62), 3) := by decide +kernel
theorem dH_joined_95 : decode prog_5_method_16_code 95 = .ok (.aload_n 3, 1) := by decide +kernel
theorem dH_joined_96 : decode prog_5_method_16_code 96 = .ok (.aload_n 2, 1) := by decide +kernel
theorem dH_joined_97 : decode prog_5_method_16_code 97 = .ok (.invokevirtual 129, 3) := by decide +kernel
theorem dH_joined_100 : decode prog_5_method_16_code 100 = .ok (.iconst 0, 1) := by decide +kernel
theorem dH_joined_101 : decode prog_5_method_16_code 101 = .ok (.ireturn, 1) := by decide +kernel
theorem dH_nothing_0 : decode prog_5_method_4_code 0 = .ok (.aload_n 0, 1) := by decide +kernel
theorem dH_nothing_1 : decode prog_5_method_4_code 1 = .ok (.invokevirtual 61, 3) := by decide +kernel
theorem dH_nothing_4 : decode prog_5_method_4_code 4 = .ok (.iconst 0, 1) := by decide +kernel
theorem dH_nothing_5 : decode prog_5_method_4_code 5 = .ok (.ireturn, 1) := by decide +kernel
theorem dH_putArrayIndices_0 : decode prog_5_method_24_code 0 = .ok (.iload_n 2, 1) := by decide +kernel
theorem dH_putArrayIndices_1 : decode prog_5_method_24_code 1 = .ok (.ifCond .eq 7, 3) := by decide +kernel
theorem dH_putArrayIndices_4 : decode prog_5_method_24_code 4 = .ok (.iconst 0, 1) := by decide +kernel
theorem dH_putArrayIndices_5 : decode prog_5_method_24_code 5 = .ok (.goto 4, 3) := by decide +kernel
theorem dH_putArrayIndices_8 : decode prog_5_method_24_code 8 = .ok (.iconst 1, 1) := by decide +kernel
theorem dH_putArrayIndices_9 : decode prog_5_method_24_code 9 = .ok (.istore 4, 2) := by decide +kernel
theorem dH_putArrayIndices_11 : decode prog_5_method_24_code 11 = .ok (.iload_n 2, 1) := by decide +kernel
theorem dH_putArrayIndices_12 : decode prog_5_method_24_code 12 = .ok (.ifCond .eq 7, 3) := by decide +kernel
theorem dH_putArrayIndices_15 : decode prog_5_method_24_code 15 = .ok (.iconst 1, 1) := by decide +kernel
theorem dH_putArrayIndices_16 : decode prog_5_method_24_code 16 = .ok (.goto 8, 3) := by decide +kernel
theorem dH_putArrayIndices_19 : decode prog_5_method_24_code 19 = .ok (.aload_n 1, 1) := by decide +kernel
theorem dH_putArrayIndices_20 : decode prog_5_method_24_code 20 = .ok (.iconst 0, 1) := by decide +kernel
theorem dH_putArrayIndices_21 : decode prog_5_method_24_code 21 = .ok (.invokevirtual 76, 3) := by decide +kernel
theorem dH_putArrayIndices_24 : decode prog_5_method_24_code 24 = .ok (.istore 5, 2) := by decide +kernel
theorem dH_putArrayIndices_26 : decode prog_5_method_24_code 26 = .ok (.iconst 0, 1) := by decide +kernel
theorem dH_putArrayIndices_27 : decode prog_5_method_24_code 27 = .ok (.istore 6, 2) := by decide +kernel
theorem dH_putArrayIndices_29 : decode prog_5_method_24_code 29 = .ok (.iconst 1, 1) := by decide +kernel
theorem dH_putArrayIndices_30 : decode prog_5_method_24_code 30 = .ok (.istore 7, 2) := by decide +kernel
theorem dH_putArrayIndices_32 : decode prog_5_method_24_code 32 = .ok (.iconst 0, 1) := by decide +kernel
theorem dH_putArrayIndices_33 : decode prog_5_method_24_code 33 = .ok (.istore 8, 2) := by decide +kernel
theorem dH_putArrayIndices_35 : decode prog_5_method_24_code 35 = .ok (.iload 8, 2) := by decide +kernel
theorem dH_putArrayIndices_37 : decode prog_5_method_24_code 37 = .ok (.iload 5, 2) := by decide +kernel
theorem dH_putArrayIndices_39 : decode prog_5_method_24_code 39 = .ok (.iadd, 1) := by decide +kernel
theorem dH_putArrayIndices_40 : decode prog_5_method_24_code 40 = .ok (.aload_n 0, 1) := by decide +kernel
theorem dH_putArrayIndices_41 : decode prog_5_method_24_code 41 = .ok (.iconst 0, 1) := by decide +kernel
theorem dH_putArrayIndices_42 : decode prog_5_method_24_code 42 = .ok (.invokevirtual 76, 3) := by decide +kernel
theorem dH_putArrayIndices_45 : decode prog_5_method_24_code 45 = .ok (.if_icmp .gt 41, 3) := by decide +kernel
theorem dH_putArrayIndices_48 : decode prog_5_method_24_code 48 = .ok (.aload_n 0, 1) := by decide +kernel
theorem dH_putArrayIndices_49 : decode prog_5_method_24_code 49 = .ok (.iload 7, 2) := by decide +kernel
theorem dH_putArrayIndices_51 : decode prog_5_method_24_code 51 = .ok (.aload_n 1, 1) := by decide +kernel
theorem dH_putArrayIndices_52 : decode prog_5_method_24_code 52 = .ok (.iload 4, 2) := by decide +kernel
theorem dH_putArrayIndices_54 : decode prog_5_method_24_code 54 = .ok (.iload 5, 2) := by decide +kernel
theorem dH_putArrayIndices_56 : decode prog_5_method_24_code 56 = .ok (.invokestatic 170, 3) := by decide +kernel
theorem dH_putArrayIndices_59 : decode prog_5_method_24_code 59 = .ok (.ifCond .eq 13, 3) := by decide +kernel
theorem dH_putArrayIndices_62 : decode prog_5_method_24_code 62 = .ok (.aload_n 3, 1) := by decide +kernel
theorem dH_putArrayIndices_63 : decode prog_5_method_24_code 63 = .ok (.iload 8, 2) := by decide +kernel
theorem dH_putArrayIndices_65 : decode prog_5_method_24_code 65 = .ok (.i2l, 1) := by decide +kernel
theorem dH_putArrayIndices_66 : decode prog_5_method_24_code 66 = .ok (.invokevirtual 166, 3) := by decide +kernel
theorem dH_putArrayIndices_69 : decode prog_5_method_24_code 69 = .ok (.iinc 6 1, 3) := by decide +kernel
theorem dH_putArrayIndices_72 : decode prog_5_method_24_code 72 = .ok (.aload_n 0, 1) := by decide +kernel
theorem dH_putArrayIndices_73 : decode prog_5_method_24_code 73 = .ok (.iload 7, 2) := by decide +kernel
theorem dH_putArrayIndices_75 : decode prog_5_method_24_code 75 = .ok (.invokevirtual 114, 3) := by decide +kernel
theorem dH_putArrayIndices_78 : decode prog_5_method_24_code 78 = .ok (.istore 7, 2) := by decide +kernel
theorem dH_putArrayIndices_80 : decode prog_5_method_24_code 80 = .ok (.iinc 8 1, 3) := by decide +kernel
theorem dH_putArrayIndices_83 : decode prog_5_method_24_code 83 = .ok (.goto (-48), 3) := by decide +kernel
theorem dH_putArrayIndices_86 : decode prog_5_method_24_code 86 = .ok (.iload 6, 2) := by decide +kernel
theorem dH_putArrayIndices_88 : decode prog_5_method_24_code 88 = .ok (.ireturn, 1) := by decide +kernel
theorem dH_putFlat_0 : decode prog_5_method_27_code 0 = .ok (.iconst 0, 1) := by decide +kernel
theorem dH_putFlat_1 : decode prog_5_method_27_code 1 = .ok (.istore 6, 2) := by decide +kernel
theorem dH_putFlat_3 : decode prog_5_method_27_code 3 = .ok (.iload_n 1, 1) := by decide +kernel
theorem dH_putFlat_4 : decode prog_5_method_27_code 4 = .ok (.iconst 1, 1) := by decide +kernel
theorem dH_putFlat_5 : decode prog_5_method_27_code 5 = .ok (.iadd, 1) := by decide +kernel
theorem dH_putFlat_6 : decode prog_5_method_27_code 6 = .ok (.istore 7, 2) := by decide +kernel
theorem dH_putFlat_8 : decode prog_5_method_27_code 8 = .ok (.iconst 0, 1) := by decide +kernel
theorem dH_putFlat_9 : decode prog_5_method_27_code 9 = .ok (.istore 8, 2) := by decide +kernel
theorem dH_putFlat_11 : decode prog_5_method_27_code 11 = .ok (.iload 8, 2) := by decide +kernel
theorem dH_putFlat_13 : decode prog_5_method_27_code 13 = .ok (.aload_n 0, 1) := by decide +kernel
theorem dH_putFlat_14 : decode prog_5_method_27_code 14 = .ok (.iload_n 1, 1) := by decide +kernel
theorem dH_putFlat_15 : decode prog_5_method_27_code 15 = .ok (.invokevirtual 76, 3) := by decide +kernel
theorem dH_putFlat_18 : decode prog_5_method_27_code 18 = .ok (.if_icmp .ge 74, 3) := by decide +kernel
theorem dH_putFlat_21 : decode prog_5_method_27_code 21 = .ok (.lload_n 2, 1) := by decide +kernel
theorem dH_putFlat_22 : decode prog_5_method_27_code 22 = .ok (.lconst 0, 1) := by decide +kernel
theorem dH_putFlat_23 : decode prog_5_method_27_code 23 = .ok (.lcmp, 1) := by decide +kernel
theorem dH_putFlat_24 : decode prog_5_method_27_code 24 = .ok (.ifCond .le 43, 3) := by decide +kernel
theorem dH_putFlat_27 : decode prog_5_method_27_code 27 = .ok (.iload 5, 2) := by decide +kernel
theorem dH_putFlat_29 : decode prog_5_method_27_code 29 = .ok (.bipush 60, 2) := by decide +kernel
theorem dH_putFlat_31 : decode prog_5_method_27_code 31 = .ok (.if_icmp .ge 36, 3) := by decide +kernel
theorem dH_putFlat_34 : decode prog_5_method_27_code 34 = .ok (.aload_n 0, 1) := by decide +kernel
theorem dH_putFlat_35 : decode prog_5_method_27_code 35 = .ok (.iload 7, 2) := by decide +kernel
theorem dH_putFlat_37 : decode prog_5_method_27_code 37 = .ok (.iconst 5, 1) := by decide +kernel
theorem dH_putFlat_38 : decode prog_5_method_27_code 38 = .ok (.invokevirtual 48, 3) := by decide +kernel
theorem dH_putFlat_41 : decode prog_5_method_27_code 41 = .ok (.ifCond .eq 26, 3) := by decide +kernel
theorem dH_putFlat_44 : decode prog_5_method_27_code 44 = .ok (.iload 6, 2) := by decide +kernel
theorem dH_putFlat_46 : decode prog_5_method_27_code 46 = .ok (.aload_n 0, 1) := by decide +kernel
theorem dH_putFlat_47 : decode prog_5_method_27_code 47 = .ok (.iload 7, 2) := by decide +kernel
theorem dH_putFlat_49 : decode prog_5_method_27_code 49 = .ok (.lload_n 2, 1) := by decide +kernel
theorem dH_putFlat_50 : decode prog_5_method_27_code 50 = .ok (.lconst 1, 1) := by decide +kernel
theorem dH_putFlat_51 : decode prog_5_method_27_code 51 = .ok (.lsub, 1) := by decide +kernel
theorem dH_putFlat_52 : decode prog_5_method_27_code 52 = .ok (.aload 4, 2) := by decide +kernel
theorem dH_putFlat_54 : decode prog_5_method_27_code 54 = .ok (.iload 5, 2) := by decide +kernel
theorem dH_putFlat_56 : decode prog_5_method_27_code 56 = .ok (.iconst 1, 1) := by decide +kernel
theorem dH_putFlat_57 : decode prog_5_method_27_code 57 = .ok (.iadd, 1) := by decide +kernel
theorem dH_putFlat_58 : decode prog_5_method_27_code 58 = .ok (.invokestatic 179, 3) := by decide +kernel
theorem dH_putFlat_61 : decode prog_5_method_27_code 61 = .ok (.iadd, 1) := by decide +kernel
theorem dH_putFlat_62 : decode prog_5_method_27_code 62 = .ok (.istore 6, 2) := by decide +kernel
theorem dH_putFlat_64 : decode prog_5_method_27_code 64 = .ok (.goto 14, 3) := by decide +kernel
theorem dH_putFlat_67 : decode prog_5_method_27_code 67 = .ok (.aload 4, 2) := by decide +kernel
theorem dH_putFlat_69 : decode prog_5_method_27_code 69 = .ok (.aload_n 0, 1) := by decide +kernel
theorem dH_putFlat_70 : decode prog_5_method_27_code 70 = .ok (.iload 7, 2) := by decide +kernel
theorem dH_putFlat_72 : decode prog_5_method_27_code 72 = .ok (.invokevirtual 64, 3) := by decide +kernel
theorem dH_putFlat_75 : decode prog_5_method_27_code 75 = .ok (.iinc 6 1, 3) := by decide +kernel
theorem dH_putFlat_78 : decode prog_5_method_27_code 78 = .ok (.aload_n 0, 1) := by decide +kernel
theorem dH_putFlat_79 : decode prog_5_method_27_code 79 = .ok (.iload 7, 2) := by decide +kernel
theorem dH_putFlat_81 : decode prog_5_method_27_code 81 = .ok (.invokevirtual 114, 3) := by decide +kernel
theorem dH_putFlat_84 : decode prog_5_method_27_code 84 = .ok (.istore 7, 2) := by decide +kernel
theorem dH_putFlat_86 : decode prog_5_method_27_code 86 = .ok (.iinc 8 1, 3) := by decide +kernel
theorem dH_putFlat_89 : decode prog_5_method_27_code 89 = .ok (.goto (-78), 3) := by decide +kernel
theorem dH_putFlat_92 : decode prog_5_method_27_code 92 = .ok (.iload 6, 2) := by decide +kernel
theorem dH_putFlat_94 : decode prog_5_method_27_code 94 = .ok (.ireturn, 1) := by decide +kernel
theorem dH_putStringIndices_0 : decode prog_5_method_23_code 0 = .ok (.iconst 0, 1) := by decide +kernel
theorem dH_putStringIndices_1 : decode prog_5_method_23_code 1 = .ok (.istore_n 3, 1) := by decide +kernel
theorem dH_putStringIndices_2 : decode prog_5_method_23_code 2 = .ok (.iconst 0, 1) := by decide +kernel
theorem dH_putStringIndices_3 : decode prog_5_method_23_code 3 = .ok (.istore 4, 2) := by decide +kernel
theorem dH_putStringIndices_5 : decode prog_5_method_23_code 5 = .ok (.iload 4, 2) := by decide +kernel
theorem dH_putStringIndices_7 : decode prog_5_method_23_code 7 = .ok (.aload_n 0, 1) := by decide +kernel
theorem dH_putStringIndices_8 : decode prog_5_method_23_code 8 = .ok (.iconst 0, 1) := by decide +kernel
theorem dH_putStringIndices_9 : decode prog_5_method_23_code 9 = .ok (.invokevirtual 76, 3) := by decide +kernel
theorem dH_putStringIndices_12 : decode prog_5_method_23_code 12 = .ok (.if_icmp .ge 31, 3) := by decide +kernel
theorem dH_putStringIndices_15 : decode prog_5_method_23_code 15 = .ok (.aload_n 0, 1) := by decide +kernel
theorem dH_putStringIndices_16 : decode prog_5_method_23_code 16 = .ok (.iconst 0, 1) := by decide +kernel
theorem dH_putStringIndices_17 : decode prog_5_method_23_code 17 = .ok (.iload 4, 2) := by decide +kernel
theorem dH_putStringIndices_19 : decode prog_5_method_23_code 19 = .ok (.aload_n 1, 1) := by decide +kernel
theorem dH_putStringIndices_20 : decode prog_5_method_23_code 20 = .ok (.iconst 0, 1) := by decide +kernel
theorem dH_putStringIndices_21 : decode prog_5_method_23_code 21 = .ok (.invokevirtual 107, 3) := by decide +kernel
theorem dH_putStringIndices_24 : decode prog_5_method_23_code 24 = .ok (.ifCond .eq 13, 3) := by decide +kernel
theorem dH_putStringIndices_27 : decode prog_5_method_23_code 27 = .ok (.aload_n 2, 1) := by decide +kernel
theorem dH_putStringIndices_28 : decode prog_5_method_23_code 28 = .ok (.iload 4, 2) := by decide +kernel
theorem dH_putStringIndices_30 : decode prog_5_method_23_code 30 = .ok (.i2l, 1) := by decide +kernel
theorem dH_putStringIndices_31 : decode prog_5_method_23_code 31 = .ok (.invokevirtual 166, 3) := by decide +kernel
theorem dH_putStringIndices_34 : decode prog_5_method_23_code 34 = .ok (.iinc 3 1, 3) := by decide +kernel
theorem dH_putStringIndices_37 : decode prog_5_method_23_code 37 = .ok (.iinc 4 1, 3) := by decide +kernel
theorem dH_putStringIndices_40 : decode prog_5_method_23_code 40 = .ok (.goto (-35), 3) := by decide +kernel
theorem dH_putStringIndices_43 : decode prog_5_method_23_code 43 = .ok (.iload_n 3, 1) := by decide +kernel
theorem dH_putStringIndices_44 : decode prog_5_method_23_code 44 = .ok (.ireturn, 1) := by decide +kernel
theorem dH_truth_0 : decode prog_5_method_3_code 0 = .ok (.aload_n 1, 1) := by decide +kernel
theorem dH_truth_1 : decode prog_5_method_3_code 1 = .ok (.iload_n 0, 1) := by decide +kernel
theorem dH_truth_2 : decode prog_5_method_3_code 2 = .ok (.invokevirtual 57, 3) := by decide +kernel
theorem dH_truth_5 : decode prog_5_method_3_code 5 = .ok (.iconst 0, 1) := by decide +kernel
theorem dH_truth_6 : decode prog_5_method_3_code 6 = .ok (.ireturn, 1) := by decide +kernel
theorem dH_withoutBeginning_0 : decode prog_5_method_20_code 0 = .ok (.aload_n 0, 1) := by decide +kernel
theorem dH_withoutBeginning_1 : decode prog_5_method_20_code 1 = .ok (.aload_n 1, 1) := by decide +kernel
theorem dH_withoutBeginning_2 : decode prog_5_method_20_code 2 = .ok (.invokestatic 28, 3) := by decide +kernel
theorem dH_withoutBeginning_5 : decode prog_5_method_20_code 5 = .ok (.ifCond .eq 11, 3) := by decide +kernel
theorem dH_withoutBeginning_8 : decode prog_5_method_20_code 8 = .ok (.aload_n 0, 1) := by decide +kernel
theorem dH_withoutBeginning_9 : decode prog_5_method_20_code 9 = .ok (.aload_n 1, 1) := by decide +kernel
theorem dH_withoutBeginning_10 : decode prog_5_method_20_code 10 = .ok (.invokestatic 32, 3) := by decide +kernel
theorem dH_withoutBeginning_13 : decode prog_5_method_20_code 13 = .ok (.ifCond .ne 10, 3) := by decide +kernel
theorem dH_withoutBeginning_16 : decode prog_5_method_20_code 16 = .ok (.aload_n 0, 1) := by decide +kernel
theorem dH_withoutBeginning_17 : decode prog_5_method_20_code 17 = .ok (.iconst 0, 1) := by decide +kernel
theorem dH_withoutBeginning_18 : decode prog_5_method_20_code 18 = .ok (.aload_n 2, 1) := by decide +kernel
theorem dH_withoutBeginning_19 : decode prog_5_method_20_code 19 = .ok (.invokestatic 139, 3) := by decide +kernel
theorem dH_withoutBeginning_22 : decode prog_5_method_20_code 22 = .ok (.ireturn, 1) := by decide +kernel
theorem dH_withoutBeginning_23 : decode prog_5_method_20_code 23 = .ok (.aload_n 2, 1) := by decide +kernel
theorem dH_withoutBeginning_24 : decode prog_5_method_20_code 24 = .ok (.aload_n 0, 1) := by decide +kernel
theorem dH_withoutBeginning_25 : decode prog_5_method_20_code 25 = .ok (.iconst 0, 1) := by decide +kernel
theorem dH_withoutBeginning_26 : decode prog_5_method_20_code 26 = .ok (.aload_n 1, 1) := by decide +kernel
theorem dH_withoutBeginning_27 : decode prog_5_method_20_code 27 = .ok (.iconst 0, 1) := by decide +kernel
theorem dH_withoutBeginning_28 : decode prog_5_method_20_code 28 = .ok (.invokevirtual 76, 3) := by decide +kernel
theorem dH_withoutBeginning_31 : decode prog_5_method_20_code 31 = .ok (.aload_n 0, 1) := by decide +kernel
theorem dH_withoutBeginning_32 : decode prog_5_method_20_code 32 = .ok (.iconst 0, 1) := by decide +kernel
theorem dH_withoutBeginning_33 : decode prog_5_method_20_code 33 = .ok (.invokevirtual 76, 3) := by decide +kernel
theorem dH_withoutBeginning_36 : decode prog_5_method_20_code 36 = .ok (.invokevirtual 143, 3) := by decide +kernel
theorem dH_withoutBeginning_39 : decode prog_5_method_20_code 39 = .ok (.iconst 0, 1) := by decide +kernel
theorem dH_withoutBeginning_40 : decode prog_5_method_20_code 40 = .ok (.ireturn, 1) := by decide +kernel
theorem dH_withoutEnd_0 : decode prog_5_method_21_code 0 = .ok (.aload_n 0, 1) := by decide +kernel
theorem dH_withoutEnd_1 : decode prog_5_method_21_code 1 = .ok (.aload_n 1, 1) := by decide +kernel
theorem dH_withoutEnd_2 : decode prog_5_method_21_code 2 = .ok (.invokestatic 28, 3) := by decide +kernel
theorem dH_withoutEnd_5 : decode prog_5_method_21_code 5 = .ok (.ifCond .eq 11, 3) := by decide +kernel
theorem dH_withoutEnd_8 : decode prog_5_method_21_code 8 = .ok (.aload_n 0, 1) := by decide +kernel
theorem dH_withoutEnd_9 : decode prog_5_method_21_code 9 = .ok (.aload_n 1, 1) := by decide +kernel
theorem dH_withoutEnd_10 : decode prog_5_method_21_code 10 = .ok (.invokestatic 39, 3) := by decide +kernel
theorem dH_withoutEnd_13 : decode prog_5_method_21_code 13 = .ok (.ifCond .ne 10, 3) := by decide +kernel
theorem dH_withoutEnd_16 : decode prog_5_method_21_code 16 = .ok (.aload_n 0, 1) := by decide +kernel
theorem dH_withoutEnd_17 : decode prog_5_method_21_code 17 = .ok (.iconst 0, 1) := by decide +kernel
theorem dH_withoutEnd_18 : decode prog_5_method_21_code 18 = .ok (.aload_n 2, 1) := by decide +kernel
theorem dH_withoutEnd_19 : decode prog_5_method_21_code 19 = .ok (.invokestatic 139, 3) := by decide +kernel
theorem dH_withoutEnd_22 : decode prog_5_method_21_code 22 = .ok (.ireturn, 1) := by decide +kernel
theorem dH_withoutEnd_23 : decode prog_5_method_21_code 23 = .ok (.aload_n 2, 1) := by decide +kernel
theorem dH_withoutEnd_24 : decode prog_5_method_21_code 24 = .ok (.aload_n 0, 1) := by decide +kernel
theorem dH_withoutEnd_25 : decode prog_5_method_21_code 25 = .ok (.iconst 0, 1) := by decide +kernel
theorem dH_withoutEnd_26 : decode prog_5_method_21_code 26 = .ok (.iconst 0, 1) := by decide +kernel
theorem dH_withoutEnd_27 : decode prog_5_method_21_code 27 = .ok (.aload_n 0, 1) := by decide +kernel
theorem dH_withoutEnd_28 : decode prog_5_method_21_code 28 = .ok (.iconst 0, 1) := by decide +kernel
theorem dH_withoutEnd_29 : decode prog_5_method_21_code 29 = .ok (.invokevirtual 76, 3) := by decide +kernel
theorem dH_withoutEnd_32 : decode prog_5_method_21_code 32 = .ok (.aload_n 1, 1) := by decide +kernel
theorem dH_withoutEnd_33 : decode prog_5_method_21_code 33 = .ok (.iconst 0, 1) := by decide +kernel
theorem dH_withoutEnd_34 : decode prog_5_method_21_code 34 = .ok (.invokevirtual 76, 3) := by decide +kernel
theorem dH_withoutEnd_37 : decode prog_5_method_21_code 37 = .ok (.isub, 1) := by decide +kernel
theorem dH_withoutEnd_38 : decode prog_5_method_21_code 38 = .ok (.invokevirtual 143, 3) := by decide +kernel
theorem dH_withoutEnd_41 : decode prog_5_method_21_code 41 = .ok (.iconst 0, 1) := by decide +kernel
theorem dH_withoutEnd_42 : decode prog_5_method_21_code 42 = .ok (.ireturn, 1) := by decide +kernel
theorem dJI_compare_0 : decode prog_19_method_40_code 0 = .ok (.iload_n 0, 1) := by decide +kernel
theorem dJI_compare_1 : decode prog_19_method_40_code 1 = .ok (.iload_n 1, 1) := by decide +kernel
theorem dJI_compare_2 : decode prog_19_method_40_code 2 = .ok (.if_icmp .ge 7, 3) := by decide +kernel
theorem dJI_compare_5 : decode prog_19_method_40_code 5 = .ok (.iconst (-1), 1) := by decide +kernel
theorem dJI_compare_6 : decode prog_19_method_40_code 6 = .ok (.goto 13, 3) := by decide +kernel
theorem dJI_compare_9 : decode prog_19_method_40_code 9 = .ok (.iload_n 0, 1) := by decide +kernel
theorem dJI_compare_10 : decode prog_19_method_40_code 10 = .ok (.iload_n 1, 1) := by decide +kernel
theorem dJI_compare_11 : decode prog_19_method_40_code 11 = .ok (.if_icmp .ne 7, 3) := by decide +kernel
theorem dJI_compare_14 : decode prog_19_method_40_code 14 = .ok (.iconst 0, 1) := by decide +kernel
theorem dJI_compare_15 : decode prog_19_method_40_code 15 = .ok (.goto 4, 3) := by decide +kernel
theorem dJI_compare_18 : decode prog_19_method_40_code 18 = .ok (.iconst 1, 1) := by decide +kernel
theorem dJI_compare_19 : decode prog_19_method_40_code 19 = .ok (.ireturn, 1) := by decide +kernel
theorem dJL_compare_0 : decode prog_20_method_42_code 0 = .ok (.lload_n 0, 1) := by decide +kernel
theorem dJL_compare_1 : decode prog_20_method_42_code 1 = .ok (.lload_n 2, 1) := by decide +kernel
theorem dJL_compare_2 : decode prog_20_method_42_code 2 = .ok (.lcmp, 1) := by decide +kernel
theorem dJL_compare_3 : decode prog_20_method_42_code 3 = .ok (.ifCond .ge 7, 3) := by decide +kernel
theorem dJL_compare_6 : decode prog_20_method_42_code 6 = .ok (.iconst (-1), 1) := by decide +kernel
theorem dJL_compare_7 : decode prog_20_method_42_code 7 = .ok (.goto 14, 3) := by decide +kernel
theorem dJL_compare_10 : decode prog_20_method_42_code 10 = .ok (.lload_n 0, 1) := by decide +kernel
theorem dJL_compare_11 : decode prog_20_method_42_code 11 = .ok (.lload_n 2, 1) := by decide +kernel
theorem dJL_compare_12 : decode prog_20_method_42_code 12 = .ok (.lcmp, 1) := by decide +kernel
theorem dJL_compare_13 : decode prog_20_method_42_code 13 = .ok (.ifCond .ne 7, 3) := by decide +kernel
theorem dJL_compare_16 : decode prog_20_method_42_code 16 = .ok (.iconst 0, 1) := by decide +kernel
theorem dJL_compare_17 : decode prog_20_method_42_code 17 = .ok (.goto 4, 3) := by decide +kernel
theorem dJL_compare_20 : decode prog_20_method_42_code 20 = .ok (.iconst 1, 1) := by decide +kernel
theorem dJL_compare_21 : decode prog_20_method_42_code 21 = .ok (.ireturn, 1) := by decide +kernel
theorem dK_apply_0 : decode prog_2_method_2_code 0 = .ok (.aload_n 1, 1) := by decide +kernel
theorem dK_apply_1 : decode prog_2_method_2_code 1 = .ok (.iconst 0, 1) := by decide +kernel
theorem dK_apply_2 : decode prog_2_method_2_code 2 = .ok (.iconst 5, 1) := by decide +kernel
theorem dK_apply_3 : decode prog_2_method_2_code 3 = .ok (.invokevirtual 9, 3) := by decide +kernel
theorem dK_apply_6 : decode prog_2_method_2_code 6 = .ok (.ifCond .eq 25, 3) := by decide +kernel
theorem dK_apply_9 : decode prog_2_method_2_code 9 = .ok (.aload_n 2, 1) := by decide +kernel
theorem dK_apply_10 : decode prog_2_method_2_code 10 = .ok (.iconst 0, 1) := by decide +kernel
theorem dK_apply_11 : decode prog_2_method_2_code 11 = .ok (.iconst 5, 1) := by decide +kernel
theorem dK_apply_12 : decode prog_2_method_2_code 12 = .ok (.invokevirtual 9, 3) := by decide +kernel
theorem dK_apply_15 : decode prog_2_method_2_code 15 = .ok (.ifCond .eq 16, 3) := by decide +kernel
theorem dK_apply_18 : decode prog_2_method_2_code 18 = .ok (.aload_n 1, 1) := by decide +kernel
theorem dK_apply_19 : decode prog_2_method_2_code 19 = .ok (.iconst 0, 1) := by decide +kernel
theorem dK_apply_20 : decode prog_2_method_2_code 20 = .ok (.invokevirtual 15, 3) := by decide +kernel
theorem dK_apply_23 : decode prog_2_method_2_code 23 = .ok (.aload_n 2, 1) := by decide +kernel
theorem dK_apply_24 : decode prog_2_method_2_code 24 = .ok (.iconst 0, 1) := by decide +kernel
theorem dK_apply_25 : decode prog_2_method_2_code 25 = .ok (.invokevirtual 15, 3) := by decide +kernel
theorem dK_apply_28 : decode prog_2_method_2_code 28 = .ok (.if_icmp .eq 5, 3) := by decide +kernel
theorem dK_apply_31 : decode prog_2_method_2_code 31 = .ok (.iconst 1, 1) := by decide +kernel
theorem dK_apply_32 : decode prog_2_method_2_code 32 = .ok (.ireturn, 1) := by decide +kernel
theorem dK_apply_33 : decode prog_2_method_2_code 33 = .ok (.aload_n 3, 1) := by decide +kernel
theorem dK_apply_34 : decode prog_2_method_2_code 34 = .ok (.aload_n 2, 1) := by decide +kernel
theorem dK_apply_35 : decode prog_2_method_2_code 35 = .ok (.iconst 0, 1) := by decide +kernel
theorem dK_apply_36 : decode prog_2_method_2_code 36 = .ok (.invokevirtual 19, 3) := by decide +kernel
theorem dK_apply_39 : decode prog_2_method_2_code 39 = .ok (.aload_n 3, 1) := by decide +kernel
theorem dK_apply_40 : decode prog_2_method_2_code 40 = .ok (.aload_n 1, 1) := by decide +kernel
theorem dK_apply_41 : decode prog_2_method_2_code 41 = .ok (.iconst 0, 1) := by decide +kernel
theorem dK_apply_42 : decode prog_2_method_2_code 42 = .ok (.invokevirtual 25, 3) := by decide +kernel
theorem dK_apply_45 : decode prog_2_method_2_code 45 = .ok (.iload_n 0, 1) := by decide +kernel
theorem dK_apply_46 : decode prog_2_method_2_code 46 = .ok (.tableswitch 69 0 3 #[30, 39, 49, 59], 30) := by decide +kernel
theorem dK_apply_76 : decode prog_2_method_2_code 76 = .ok (.aload_n 1, 1) := by decide +kernel
theorem dK_apply_77 : decode prog_2_method_2_code 77 = .ok (.aload_n 3, 1) := by decide +kernel
theorem dK_apply_78 : decode prog_2_method_2_code 78 = .ok (.aload 4, 2) := by decide +kernel
theorem dK_apply_80 : decode prog_2_method_2_code 80 = .ok (.invokestatic 28, 3) := by decide +kernel
theorem dK_apply_83 : decode prog_2_method_2_code 83 = .ok (.iconst 0, 1) := by decide +kernel
theorem dK_apply_84 : decode prog_2_method_2_code 84 = .ok (.ireturn, 1) := by decide +kernel
theorem dK_apply_85 : decode prog_2_method_2_code 85 = .ok (.aload_n 1, 1) := by decide +kernel
theorem dK_apply_86 : decode prog_2_method_2_code 86 = .ok (.aload_n 2, 1) := by decide +kernel
theorem dK_apply_87 : decode prog_2_method_2_code 87 = .ok (.aload_n 3, 1) := by decide +kernel
theorem dK_apply_88 : decode prog_2_method_2_code 88 = .ok (.aload 4, 2) := by decide +kernel
theorem dK_apply_90 : decode prog_2_method_2_code 90 = .ok (.invokestatic 34, 3) := by decide +kernel
theorem dK_apply_93 : decode prog_2_method_2_code 93 = .ok (.iconst 0, 1) := by decide +kernel
theorem dK_apply_94 : decode prog_2_method_2_code 94 = .ok (.ireturn, 1) := by decide +kernel
theorem dK_apply_95 : decode prog_2_method_2_code 95 = .ok (.aload_n 1, 1) := by decide +kernel
theorem dK_apply_96 : decode prog_2_method_2_code 96 = .ok (.aload_n 2, 1) := by decide +kernel
theorem dK_apply_97 : decode prog_2_method_2_code 97 = .ok (.aload_n 3, 1) := by decide +kernel
theorem dK_apply_98 : decode prog_2_method_2_code 98 = .ok (.aload 4, 2) := by decide +kernel
theorem dK_apply_100 : decode prog_2_method_2_code 100 = .ok (.invokestatic 38, 3) := by decide +kernel
theorem dK_apply_103 : decode prog_2_method_2_code 103 = .ok (.iconst 0, 1) := by decide +kernel
theorem dK_apply_104 : decode prog_2_method_2_code 104 = .ok (.ireturn, 1) := by decide +kernel
theorem dK_apply_105 : decode prog_2_method_2_code 105 = .ok (.aload_n 1, 1) := by decide +kernel
theorem dK_apply_106 : decode prog_2_method_2_code 106 = .ok (.iconst 0, 1) := by decide +kernel
theorem dK_apply_107 : decode prog_2_method_2_code 107 = .ok (.aload_n 3, 1) := by decide +kernel
theorem dK_apply_108 : decode prog_2_method_2_code 108 = .ok (.aload 4, 2) := by decide +kernel
theorem dK_apply_110 : decode prog_2_method_2_code 110 = .ok (.invokestatic 41, 3) := by decide +kernel
theorem dK_apply_113 : decode prog_2_method_2_code 113 = .ok (.iconst 0, 1) := by decide +kernel
theorem dK_apply_114 : decode prog_2_method_2_code 114 = .ok (.ireturn, 1) := by decide +kernel
theorem dK_apply_115 : decode prog_2_method_2_code 115 = .ok (.aload_n 1, 1) := by decide +kernel
theorem dK_apply_116 : decode prog_2_method_2_code 116 = .ok (.aload_n 1, 1) := by decide +kernel
theorem dK_apply_117 : decode prog_2_method_2_code 117 = .ok (.iconst 0, 1) := by decide +kernel
theorem dK_apply_118 : decode prog_2_method_2_code 118 = .ok (.invokevirtual 15, 3) := by decide +kernel
theorem dK_apply_121 : decode prog_2_method_2_code 121 = .ok (.iconst 1, 1) := by decide +kernel
theorem dK_apply_122 : decode prog_2_method_2_code 122 = .ok (.isub, 1) := by decide +kernel
theorem dK_apply_123 : decode prog_2_method_2_code 123 = .ok (.aload_n 3, 1) := by decide +kernel
theorem dK_apply_124 : decode prog_2_method_2_code 124 = .ok (.aload 4, 2) := by decide +kernel
theorem dK_apply_126 : decode prog_2_method_2_code 126 = .ok (.invokestatic 41, 3) := by decide +kernel
theorem dK_apply_129 : decode prog_2_method_2_code 129 = .ok (.iconst 0, 1) := by decide +kernel
theorem dK_apply_130 : decode prog_2_method_2_code 130 = .ok (.ireturn, 1) := by decide +kernel
theorem dK_beginsGroup_0 : decode prog_2_method_5_code 0 = .ok (.iload_n 1, 1) := by decide +kernel
theorem dK_beginsGroup_1 : decode prog_2_method_5_code 1 = .ok (.ifCond .eq 24, 3) := by decide +kernel
theorem dK_beginsGroup_4 : decode prog_2_method_5_code 4 = .ok (.aload_n 0, 1) := by decide +kernel
theorem dK_beginsGroup_5 : decode prog_2_method_5_code 5 = .ok (.aload_n 2, 1) := by decide +kernel
theorem dK_beginsGroup_6 : decode prog_2_method_5_code 6 = .ok (.iload_n 1, 1) := by decide +kernel
theorem dK_beginsGroup_7 : decode prog_2_method_5_code 7 = .ok (.iconst 1, 1) := by decide +kernel
theorem dK_beginsGroup_8 : decode prog_2_method_5_code 8 = .ok (.isub, 1) := by decide +kernel
theorem dK_beginsGroup_9 : decode prog_2_method_5_code 9 = .ok (.invokevirtual 62, 3) := by decide +kernel
theorem dK_beginsGroup_12 : decode prog_2_method_5_code 12 = .ok (.aload_n 0, 1) := by decide +kernel
theorem dK_beginsGroup_13 : decode prog_2_method_5_code 13 = .ok (.aload_n 2, 1) := by decide +kernel
theorem dK_beginsGroup_14 : decode prog_2_method_5_code 14 = .ok (.iload_n 1, 1) := by decide +kernel
theorem dK_beginsGroup_15 : decode prog_2_method_5_code 15 = .ok (.invokevirtual 62, 3) := by decide +kernel
theorem dK_beginsGroup_18 : decode prog_2_method_5_code 18 = .ok (.iconst 0, 1) := by decide +kernel
theorem dK_beginsGroup_19 : decode prog_2_method_5_code 19 = .ok (.invokestatic 65, 3) := by decide +kernel
theorem dK_beginsGroup_22 : decode prog_2_method_5_code 22 = .ok (.ifCond .eq 7, 3) := by decide +kernel
theorem dK_beginsGroup_25 : decode prog_2_method_5_code 25 = .ok (.iconst 1, 1) := by decide +kernel
theorem dK_beginsGroup_26 : decode prog_2_method_5_code 26 = .ok (.goto 4, 3) := by decide +kernel
theorem dK_beginsGroup_29 : decode prog_2_method_5_code 29 = .ok (.iconst 0, 1) := by decide +kernel
theorem dK_beginsGroup_30 : decode prog_2_method_5_code 30 = .ok (.ireturn, 1) := by decide +kernel
theorem dK_putFirsts_0 : decode prog_2_method_8_code 0 = .ok (.aload_n 3, 1) := by decide +kernel
theorem dK_putFirsts_1 : decode prog_2_method_8_code 1 = .ok (.invokevirtual 45, 3) := by decide +kernel
theorem dK_putFirsts_4 : decode prog_2_method_8_code 4 = .ok (.istore 4, 2) := by decide +kernel
theorem dK_putFirsts_6 : decode prog_2_method_8_code 6 = .ok (.iconst 0, 1) := by decide +kernel
theorem dK_putFirsts_7 : decode prog_2_method_8_code 7 = .ok (.istore 5, 2) := by decide +kernel
theorem dK_putFirsts_9 : decode prog_2_method_8_code 9 = .ok (.iconst 0, 1) := by decide +kernel
theorem dK_putFirsts_10 : decode prog_2_method_8_code 10 = .ok (.istore 6, 2) := by decide +kernel
theorem dK_putFirsts_12 : decode prog_2_method_8_code 12 = .ok (.iload 6, 2) := by decide +kernel
theorem dK_putFirsts_14 : decode prog_2_method_8_code 14 = .ok (.aload_n 0, 1) := by decide +kernel
theorem dK_putFirsts_15 : decode prog_2_method_8_code 15 = .ok (.iconst 0, 1) := by decide +kernel
theorem dK_putFirsts_16 : decode prog_2_method_8_code 16 = .ok (.invokevirtual 15, 3) := by decide +kernel
theorem dK_putFirsts_19 : decode prog_2_method_8_code 19 = .ok (.if_icmp .ge 33, 3) := by decide +kernel
theorem dK_putFirsts_22 : decode prog_2_method_8_code 22 = .ok (.aload_n 1, 1) := by decide +kernel
theorem dK_putFirsts_23 : decode prog_2_method_8_code 23 = .ok (.iload 6, 2) := by decide +kernel
theorem dK_putFirsts_25 : decode prog_2_method_8_code 25 = .ok (.aload_n 2, 1) := by decide +kernel
theorem dK_putFirsts_26 : decode prog_2_method_8_code 26 = .ok (.invokestatic 71, 3) := by decide +kernel
theorem dK_putFirsts_29 : decode prog_2_method_8_code 29 = .ok (.ifCond .eq 17, 3) := by decide +kernel
theorem dK_putFirsts_32 : decode prog_2_method_8_code 32 = .ok (.aload_n 3, 1) := by decide +kernel
theorem dK_putFirsts_33 : decode prog_2_method_8_code 33 = .ok (.aload_n 0, 1) := by decide +kernel
theorem dK_putFirsts_34 : decode prog_2_method_8_code 34 = .ok (.aload_n 2, 1) := by decide +kernel
theorem dK_putFirsts_35 : decode prog_2_method_8_code 35 = .ok (.iload 6, 2) := by decide +kernel
theorem dK_putFirsts_37 : decode prog_2_method_8_code 37 = .ok (.invokevirtual 49, 3) := by decide +kernel
theorem dK_putFirsts_40 : decode prog_2_method_8_code 40 = .ok (.invokevirtual 52, 3) := by decide +kernel
theorem dK_putFirsts_43 : decode prog_2_method_8_code 43 = .ok (.iinc 5 1, 3) := by decide +kernel
theorem dK_putFirsts_46 : decode prog_2_method_8_code 46 = .ok (.iinc 6 1, 3) := by decide +kernel
theorem dK_putFirsts_49 : decode prog_2_method_8_code 49 = .ok (.goto (-37), 3) := by decide +kernel
theorem dK_putFirsts_52 : decode prog_2_method_8_code 52 = .ok (.aload_n 3, 1) := by decide +kernel
theorem dK_putFirsts_53 : decode prog_2_method_8_code 53 = .ok (.iload 4, 2) := by decide +kernel
theorem dK_putFirsts_55 : decode prog_2_method_8_code 55 = .ok (.iconst 5, 1) := by decide +kernel
theorem dK_putFirsts_56 : decode prog_2_method_8_code 56 = .ok (.iload 5, 2) := by decide +kernel
theorem dK_putFirsts_58 : decode prog_2_method_8_code 58 = .ok (.invokevirtual 55, 3) := by decide +kernel
theorem dK_putFirsts_61 : decode prog_2_method_8_code 61 = .ok (.return_, 1) := by decide +kernel
theorem dK_putGroup_0 : decode prog_2_method_7_code 0 = .ok (.aload 4, 2) := by decide +kernel
theorem dK_putGroup_2 : decode prog_2_method_7_code 2 = .ok (.invokevirtual 45, 3) := by decide +kernel
theorem dK_putGroup_5 : decode prog_2_method_7_code 5 = .ok (.istore 5, 2) := by decide +kernel
theorem dK_putGroup_7 : decode prog_2_method_7_code 7 = .ok (.aload 4, 2) := by decide +kernel
theorem dK_putGroup_9 : decode prog_2_method_7_code 9 = .ok (.aload_n 0, 1) := by decide +kernel
theorem dK_putGroup_10 : decode prog_2_method_7_code 10 = .ok (.aload_n 3, 1) := by decide +kernel
theorem dK_putGroup_11 : decode prog_2_method_7_code 11 = .ok (.iload_n 2, 1) := by decide +kernel
theorem dK_putGroup_12 : decode prog_2_method_7_code 12 = .ok (.invokevirtual 49, 3) := by decide +kernel
theorem dK_putGroup_15 : decode prog_2_method_7_code 15 = .ok (.invokevirtual 52, 3) := by decide +kernel
theorem dK_putGroup_18 : decode prog_2_method_7_code 18 = .ok (.iload_n 2, 1) := by decide +kernel
theorem dK_putGroup_19 : decode prog_2_method_7_code 19 = .ok (.iconst 1, 1) := by decide +kernel
theorem dK_putGroup_20 : decode prog_2_method_7_code 20 = .ok (.iadd, 1) := by decide +kernel
theorem dK_putGroup_21 : decode prog_2_method_7_code 21 = .ok (.istore 6, 2) := by decide +kernel
theorem dK_putGroup_23 : decode prog_2_method_7_code 23 = .ok (.iload 6, 2) := by decide +kernel
theorem dK_putGroup_25 : decode prog_2_method_7_code 25 = .ok (.aload_n 0, 1) := by decide +kernel
theorem dK_putGroup_26 : decode prog_2_method_7_code 26 = .ok (.iconst 0, 1) := by decide +kernel
theorem dK_putGroup_27 : decode prog_2_method_7_code 27 = .ok (.invokevirtual 15, 3) := by decide +kernel
theorem dK_putGroup_30 : decode prog_2_method_7_code 30 = .ok (.if_icmp .ge 31, 3) := by decide +kernel
theorem dK_putGroup_33 : decode prog_2_method_7_code 33 = .ok (.aload_n 1, 1) := by decide +kernel
theorem dK_putGroup_34 : decode prog_2_method_7_code 34 = .ok (.iload 6, 2) := by decide +kernel
theorem dK_putGroup_36 : decode prog_2_method_7_code 36 = .ok (.aload_n 3, 1) := by decide +kernel
theorem dK_putGroup_37 : decode prog_2_method_7_code 37 = .ok (.invokestatic 71, 3) := by decide +kernel
theorem dK_putGroup_40 : decode prog_2_method_7_code 40 = .ok (.ifCond .ne 21, 3) := by decide +kernel
theorem dK_putGroup_43 : decode prog_2_method_7_code 43 = .ok (.aload 4, 2) := by decide +kernel
theorem dK_putGroup_45 : decode prog_2_method_7_code 45 = .ok (.aload_n 0, 1) := by decide +kernel
theorem dK_putGroup_46 : decode prog_2_method_7_code 46 = .ok (.aload_n 3, 1) := by decide +kernel
theorem dK_putGroup_47 : decode prog_2_method_7_code 47 = .ok (.iload 6, 2) := by decide +kernel
theorem dK_putGroup_49 : decode prog_2_method_7_code 49 = .ok (.invokevirtual 49, 3) := by decide +kernel
theorem dK_putGroup_52 : decode prog_2_method_7_code 52 = .ok (.invokevirtual 52, 3) := by decide +kernel
theorem dK_putGroup_55 : decode prog_2_method_7_code 55 = .ok (.iinc 6 1, 3) := by decide +kernel
theorem dK_putGroup_58 : decode prog_2_method_7_code 58 = .ok (.goto (-35), 3) := by decide +kernel
theorem dK_putGroup_61 : decode prog_2_method_7_code 61 = .ok (.aload 4, 2) := by decide +kernel
theorem dK_putGroup_63 : decode prog_2_method_7_code 63 = .ok (.iload 5, 2) := by decide +kernel
theorem dK_putGroup_65 : decode prog_2_method_7_code 65 = .ok (.iconst 5, 1) := by decide +kernel
theorem dK_putGroup_66 : decode prog_2_method_7_code 66 = .ok (.iload 6, 2) := by decide +kernel
theorem dK_putGroup_68 : decode prog_2_method_7_code 68 = .ok (.iload_n 2, 1) := by decide +kernel
theorem dK_putGroup_69 : decode prog_2_method_7_code 69 = .ok (.isub, 1) := by decide +kernel
theorem dK_putGroup_70 : decode prog_2_method_7_code 70 = .ok (.invokevirtual 55, 3) := by decide +kernel
theorem dK_putGroup_73 : decode prog_2_method_7_code 73 = .ok (.return_, 1) := by decide +kernel
theorem dK_putGroups_0 : decode prog_2_method_6_code 0 = .ok (.aload_n 3, 1) := by decide +kernel
theorem dK_putGroups_1 : decode prog_2_method_6_code 1 = .ok (.invokevirtual 45, 3) := by decide +kernel
theorem dK_putGroups_4 : decode prog_2_method_6_code 4 = .ok (.istore 4, 2) := by decide +kernel
theorem dK_putGroups_6 : decode prog_2_method_6_code 6 = .ok (.iconst 0, 1) := by decide +kernel
theorem dK_putGroups_7 : decode prog_2_method_6_code 7 = .ok (.istore 5, 2) := by decide +kernel
theorem dK_putGroups_9 : decode prog_2_method_6_code 9 = .ok (.iconst 0, 1) := by decide +kernel
theorem dK_putGroups_10 : decode prog_2_method_6_code 10 = .ok (.istore 6, 2) := by decide +kernel
theorem dK_putGroups_12 : decode prog_2_method_6_code 12 = .ok (.iload 6, 2) := by decide +kernel
theorem dK_putGroups_14 : decode prog_2_method_6_code 14 = .ok (.aload_n 0, 1) := by decide +kernel
theorem dK_putGroups_15 : decode prog_2_method_6_code 15 = .ok (.iconst 0, 1) := by decide +kernel
theorem dK_putGroups_16 : decode prog_2_method_6_code 16 = .ok (.invokevirtual 15, 3) := by decide +kernel
theorem dK_putGroups_19 : decode prog_2_method_6_code 19 = .ok (.if_icmp .ge 31, 3) := by decide +kernel
theorem dK_putGroups_22 : decode prog_2_method_6_code 22 = .ok (.aload_n 1, 1) := by decide +kernel
theorem dK_putGroups_23 : decode prog_2_method_6_code 23 = .ok (.iload 6, 2) := by decide +kernel
theorem dK_putGroups_25 : decode prog_2_method_6_code 25 = .ok (.aload_n 2, 1) := by decide +kernel
theorem dK_putGroups_26 : decode prog_2_method_6_code 26 = .ok (.invokestatic 71, 3) := by decide +kernel
theorem dK_putGroups_29 : decode prog_2_method_6_code 29 = .ok (.ifCond .eq 15, 3) := by decide +kernel
theorem dK_putGroups_32 : decode prog_2_method_6_code 32 = .ok (.aload_n 0, 1) := by decide +kernel
theorem dK_putGroups_33 : decode prog_2_method_6_code 33 = .ok (.aload_n 1, 1) := by decide +kernel
theorem dK_putGroups_34 : decode prog_2_method_6_code 34 = .ok (.iload 6, 2) := by decide +kernel
theorem dK_putGroups_36 : decode prog_2_method_6_code 36 = .ok (.aload_n 2, 1) := by decide +kernel
theorem dK_putGroups_37 : decode prog_2_method_6_code 37 = .ok (.aload_n 3, 1) := by decide +kernel
theorem dK_putGroups_38 : decode prog_2_method_6_code 38 = .ok (.invokestatic 75, 3) := by decide +kernel
theorem dK_putGroups_41 : decode prog_2_method_6_code 41 = .ok (.iinc 5 1, 3) := by decide +kernel
theorem dK_putGroups_44 : decode prog_2_method_6_code 44 = .ok (.iinc 6 1, 3) := by decide +kernel
theorem dK_putGroups_47 : decode prog_2_method_6_code 47 = .ok (.goto (-35), 3) := by decide +kernel
theorem dK_putGroups_50 : decode prog_2_method_6_code 50 = .ok (.aload_n 3, 1) := by decide +kernel
theorem dK_putGroups_51 : decode prog_2_method_6_code 51 = .ok (.iload 4, 2) := by decide +kernel
theorem dK_putGroups_53 : decode prog_2_method_6_code 53 = .ok (.iconst 5, 1) := by decide +kernel
theorem dK_putGroups_54 : decode prog_2_method_6_code 54 = .ok (.iload 5, 2) := by decide +kernel
theorem dK_putGroups_56 : decode prog_2_method_6_code 56 = .ok (.invokevirtual 55, 3) := by decide +kernel
theorem dK_putGroups_59 : decode prog_2_method_6_code 59 = .ok (.return_, 1) := by decide +kernel
theorem dK_putSorted_0 : decode prog_2_method_3_code 0 = .ok (.aload_n 2, 1) := by decide +kernel
theorem dK_putSorted_1 : decode prog_2_method_3_code 1 = .ok (.invokevirtual 45, 3) := by decide +kernel
theorem dK_putSorted_4 : decode prog_2_method_3_code 4 = .ok (.istore_n 3, 1) := by decide +kernel
theorem dK_putSorted_5 : decode prog_2_method_3_code 5 = .ok (.iconst 0, 1) := by decide +kernel
theorem dK_putSorted_6 : decode prog_2_method_3_code 6 = .ok (.istore 4, 2) := by decide +kernel
theorem dK_putSorted_8 : decode prog_2_method_3_code 8 = .ok (.iload 4, 2) := by decide +kernel
theorem dK_putSorted_10 : decode prog_2_method_3_code 10 = .ok (.aload_n 0, 1) := by decide +kernel
theorem dK_putSorted_11 : decode prog_2_method_3_code 11 = .ok (.iconst 0, 1) := by decide +kernel
theorem dK_putSorted_12 : decode prog_2_method_3_code 12 = .ok (.invokevirtual 15, 3) := by decide +kernel
theorem dK_putSorted_15 : decode prog_2_method_3_code 15 = .ok (.if_icmp .ge 20, 3) := by decide +kernel
theorem dK_putSorted_18 : decode prog_2_method_3_code 18 = .ok (.aload_n 2, 1) := by decide +kernel
theorem dK_putSorted_19 : decode prog_2_method_3_code 19 = .ok (.aload_n 0, 1) := by decide +kernel
theorem dK_putSorted_20 : decode prog_2_method_3_code 20 = .ok (.aload_n 1, 1) := by decide +kernel
theorem dK_putSorted_21 : decode prog_2_method_3_code 21 = .ok (.iload 4, 2) := by decide +kernel
theorem dK_putSorted_23 : decode prog_2_method_3_code 23 = .ok (.invokevirtual 49, 3) := by decide +kernel
theorem dK_putSorted_26 : decode prog_2_method_3_code 26 = .ok (.invokevirtual 52, 3) := by decide +kernel
theorem dK_putSorted_29 : decode prog_2_method_3_code 29 = .ok (.iinc 4 1, 3) := by decide +kernel
theorem dK_putSorted_32 : decode prog_2_method_3_code 32 = .ok (.goto (-24), 3) := by decide +kernel
theorem dK_putSorted_35 : decode prog_2_method_3_code 35 = .ok (.aload_n 2, 1) := by decide +kernel
theorem dK_putSorted_36 : decode prog_2_method_3_code 36 = .ok (.iload_n 3, 1) := by decide +kernel
theorem dK_putSorted_37 : decode prog_2_method_3_code 37 = .ok (.iconst 5, 1) := by decide +kernel
theorem dK_putSorted_38 : decode prog_2_method_3_code 38 = .ok (.aload_n 0, 1) := by decide +kernel
theorem dK_putSorted_39 : decode prog_2_method_3_code 39 = .ok (.iconst 0, 1) := by decide +kernel
theorem dK_putSorted_40 : decode prog_2_method_3_code 40 = .ok (.invokevirtual 15, 3) := by decide +kernel
theorem dK_putSorted_43 : decode prog_2_method_3_code 43 = .ok (.invokevirtual 55, 3) := by decide +kernel
theorem dK_putSorted_46 : decode prog_2_method_3_code 46 = .ok (.return_, 1) := by decide +kernel
theorem dK_putTurnOrNull_0 : decode prog_2_method_4_code 0 = .ok (.aload_n 0, 1) := by decide +kernel
theorem dK_putTurnOrNull_1 : decode prog_2_method_4_code 1 = .ok (.iconst 0, 1) := by decide +kernel
theorem dK_putTurnOrNull_2 : decode prog_2_method_4_code 2 = .ok (.invokevirtual 15, 3) := by decide +kernel
theorem dK_putTurnOrNull_5 : decode prog_2_method_4_code 5 = .ok (.ifCond .ne 10, 3) := by decide +kernel
theorem dK_putTurnOrNull_8 : decode prog_2_method_4_code 8 = .ok (.aload_n 3, 1) := by decide +kernel
theorem dK_putTurnOrNull_9 : decode prog_2_method_4_code 9 = .ok (.invokevirtual 59, 3) := by decide +kernel
theorem dK_putTurnOrNull_12 : decode prog_2_method_4_code 12 = .ok (.goto 13, 3) := by decide +kernel
theorem dK_putTurnOrNull_15 : decode prog_2_method_4_code 15 = .ok (.aload_n 3, 1) := by decide +kernel
theorem dK_putTurnOrNull_16 : decode prog_2_method_4_code 16 = .ok (.aload_n 0, 1) := by decide +kernel
theorem dK_putTurnOrNull_17 : decode prog_2_method_4_code 17 = .ok (.aload_n 2, 1) := by decide +kernel
theorem dK_putTurnOrNull_18 : decode prog_2_method_4_code 18 = .ok (.iload_n 1, 1) := by decide +kernel
theorem dK_putTurnOrNull_19 : decode prog_2_method_4_code 19 = .ok (.invokevirtual 49, 3) := by decide +kernel
theorem dK_putTurnOrNull_22 : decode prog_2_method_4_code 22 = .ok (.invokevirtual 52, 3) := by decide +kernel
theorem dK_putTurnOrNull_25 : decode prog_2_method_4_code 25 = .ok (.return_, 1) := by decide +kernel
theorem dO_isSame_0 : decode prog_4_method_3_code 0 = .ok (.aload_n 0, 1) := by decide +kernel
theorem dO_isSame_1 : decode prog_4_method_3_code 1 = .ok (.iload_n 1, 1) := by decide +kernel
theorem dO_isSame_2 : decode prog_4_method_3_code 2 = .ok (.invokevirtual 43, 3) := by decide +kernel
theorem dO_isSame_5 : decode prog_4_method_3_code 5 = .ok (.aload_n 2, 1) := by decide +kernel
theorem dO_isSame_6 : decode prog_4_method_3_code 6 = .ok (.iload_n 3, 1) := by decide +kernel
theorem dO_isSame_7 : decode prog_4_method_3_code 7 = .ok (.invokevirtual 43, 3) := by decide +kernel
theorem dO_isSame_10 : decode prog_4_method_3_code 10 = .ok (.lcmp, 1) := by decide +kernel
theorem dO_isSame_11 : decode prog_4_method_3_code 11 = .ok (.ifCond .ne 18, 3) := by decide +kernel
theorem dO_isSame_14 : decode prog_4_method_3_code 14 = .ok (.aload_n 0, 1) := by decide +kernel
theorem dO_isSame_15 : decode prog_4_method_3_code 15 = .ok (.iload_n 1, 1) := by decide +kernel
theorem dO_isSame_16 : decode prog_4_method_3_code 16 = .ok (.aload_n 2, 1) := by decide +kernel
theorem dO_isSame_17 : decode prog_4_method_3_code 17 = .ok (.iload_n 3, 1) := by decide +kernel
theorem dO_isSame_18 : decode prog_4_method_3_code 18 = .ok (.iconst 0, 1) := by decide +kernel
theorem dO_isSame_19 : decode prog_4_method_3_code 19 = .ok (.invokestatic 46, 3) := by decide +kernel
theorem dO_isSame_22 : decode prog_4_method_3_code 22 = .ok (.ifCond .ne 7, 3) := by decide +kernel
theorem dO_isSame_25 : decode prog_4_method_3_code 25 = .ok (.iconst 1, 1) := by decide +kernel
theorem dO_isSame_26 : decode prog_4_method_3_code 26 = .ok (.goto 4, 3) := by decide +kernel
theorem dO_isSame_29 : decode prog_4_method_3_code 29 = .ok (.iconst 0, 1) := by decide +kernel
theorem dO_isSame_30 : decode prog_4_method_3_code 30 = .ok (.ireturn, 1) := by decide +kernel
theorem dO_nextName_0 : decode prog_4_method_6_code 0 = .ok (.iconst (-1), 1) := by decide +kernel
theorem dO_nextName_1 : decode prog_4_method_6_code 1 = .ok (.istore_n 3, 1) := by decide +kernel
theorem dO_nextName_2 : decode prog_4_method_6_code 2 = .ok (.iload_n 1, 1) := by decide +kernel
theorem dO_nextName_3 : decode prog_4_method_6_code 3 = .ok (.iconst 1, 1) := by decide +kernel
theorem dO_nextName_4 : decode prog_4_method_6_code 4 = .ok (.iadd, 1) := by decide +kernel
theorem dO_nextName_5 : decode prog_4_method_6_code 5 = .ok (.istore 4, 2) := by decide +kernel
theorem dO_nextName_7 : decode prog_4_method_6_code 7 = .ok (.iconst 0, 1) := by decide +kernel
theorem dO_nextName_8 : decode prog_4_method_6_code 8 = .ok (.istore 5, 2) := by decide +kernel
theorem dO_nextName_10 : decode prog_4_method_6_code 10 = .ok (.iload 5, 2) := by decide +kernel
theorem dO_nextName_12 : decode prog_4_method_6_code 12 = .ok (.aload_n 0, 1) := by decide +kernel
theorem dO_nextName_13 : decode prog_4_method_6_code 13 = .ok (.iload_n 1, 1) := by decide +kernel
theorem dO_nextName_14 : decode prog_4_method_6_code 14 = .ok (.invokevirtual 49, 3) := by decide +kernel
theorem dO_nextName_17 : decode prog_4_method_6_code 17 = .ok (.if_icmp .ge 68, 3) := by decide +kernel
theorem dO_nextName_20 : decode prog_4_method_6_code 20 = .ok (.iload_n 2, 1) := by decide +kernel
theorem dO_nextName_21 : decode prog_4_method_6_code 21 = .ok (.iconst (-1), 1) := by decide +kernel
theorem dO_nextName_22 : decode prog_4_method_6_code 22 = .ok (.if_icmp .eq 14, 3) := by decide +kernel
theorem dO_nextName_25 : decode prog_4_method_6_code 25 = .ok (.aload_n 0, 1) := by decide +kernel
theorem dO_nextName_26 : decode prog_4_method_6_code 26 = .ok (.iload 4, 2) := by decide +kernel
theorem dO_nextName_28 : decode prog_4_method_6_code 28 = .ok (.aload_n 0, 1) := by decide +kernel
theorem dO_nextName_29 : decode prog_4_method_6_code 29 = .ok (.iload_n 2, 1) := by decide +kernel
theorem dO_nextName_30 : decode prog_4_method_6_code 30 = .ok (.invokevirtual 30, 3) := by decide +kernel
theorem dO_nextName_33 : decode prog_4_method_6_code 33 = .ok (.ifCond .le 7, 3) := by decide +kernel
theorem dO_nextName_36 : decode prog_4_method_6_code 36 = .ok (.iconst 1, 1) := by decide +kernel
theorem dO_nextName_37 : decode prog_4_method_6_code 37 = .ok (.goto 4, 3) := by decide +kernel
theorem dO_nextName_40 : decode prog_4_method_6_code 40 = .ok (.iconst 0, 1) := by decide +kernel
theorem dO_nextName_41 : decode prog_4_method_6_code 41 = .ok (.istore 6, 2) := by decide +kernel
theorem dO_nextName_43 : decode prog_4_method_6_code 43 = .ok (.iload 6, 2) := by decide +kernel
theorem dO_nextName_45 : decode prog_4_method_6_code 45 = .ok (.ifCond .eq 22, 3) := by decide +kernel
theorem dO_nextName_48 : decode prog_4_method_6_code 48 = .ok (.iload_n 3, 1) := by decide +kernel
theorem dO_nextName_49 : decode prog_4_method_6_code 49 = .ok (.iconst (-1), 1) := by decide +kernel
theorem dO_nextName_50 : decode prog_4_method_6_code 50 = .ok (.if_icmp .eq 14, 3) := by decide +kernel
theorem dO_nextName_53 : decode prog_4_method_6_code 53 = .ok (.aload_n 0, 1) := by decide +kernel
theorem dO_nextName_54 : decode prog_4_method_6_code 54 = .ok (.iload 4, 2) := by decide +kernel
theorem dO_nextName_56 : decode prog_4_method_6_code 56 = .ok (.aload_n 0, 1) := by decide +kernel
theorem dO_nextName_57 : decode prog_4_method_6_code 57 = .ok (.iload_n 3, 1) := by decide +kernel
theorem dO_nextName_58 : decode prog_4_method_6_code 58 = .ok (.invokevirtual 30, 3) := by decide +kernel
theorem dO_nextName_61 : decode prog_4_method_6_code 61 = .ok (.ifCond .ge 6, 3) := by decide +kernel
theorem dO_nextName_64 : decode prog_4_method_6_code 64 = .ok (.iload 4, 2) := by decide +kernel
theorem dO_nextName_66 : decode prog_4_method_6_code 66 = .ok (.istore_n 3, 1) := by decide +kernel
theorem dO_nextName_67 : decode prog_4_method_6_code 67 = .ok (.aload_n 0, 1) := by decide +kernel
theorem dO_nextName_68 : decode prog_4_method_6_code 68 = .ok (.aload_n 0, 1) := by decide +kernel
theorem dO_nextName_69 : decode prog_4_method_6_code 69 = .ok (.iload 4, 2) := by decide +kernel
theorem dO_nextName_71 : decode prog_4_method_6_code 71 = .ok (.invokevirtual 57, 3) := by decide +kernel
theorem dO_nextName_74 : decode prog_4_method_6_code 74 = .ok (.invokevirtual 57, 3) := by decide +kernel
theorem dO_nextName_77 : decode prog_4_method_6_code 77 = .ok (.istore 4, 2) := by decide +kernel
theorem dO_nextName_79 : decode prog_4_method_6_code 79 = .ok (.iinc 5 1, 3) := by decide +kernel
theorem dO_nextName_82 : decode prog_4_method_6_code 82 = .ok (.goto (-72), 3) := by decide +kernel
theorem dO_nextName_85 : decode prog_4_method_6_code 85 = .ok (.iload_n 3, 1) := by decide +kernel
theorem dO_nextName_86 : decode prog_4_method_6_code 86 = .ok (.ireturn, 1) := by decide +kernel
theorem dO_of_0 : decode prog_4_method_2_code 0 = .ok (.aload_n 0, 1) := by decide +kernel
theorem dO_of_1 : decode prog_4_method_2_code 1 = .ok (.iload_n 1, 1) := by decide +kernel
theorem dO_of_2 : decode prog_4_method_2_code 2 = .ok (.invokevirtual 9, 3) := by decide +kernel
theorem dO_of_5 : decode prog_4_method_2_code 5 = .ok (.aload_n 2, 1) := by decide +kernel
theorem dO_of_6 : decode prog_4_method_2_code 6 = .ok (.iload_n 3, 1) := by decide +kernel
theorem dO_of_7 : decode prog_4_method_2_code 7 = .ok (.invokevirtual 9, 3) := by decide +kernel
theorem dO_of_10 : decode prog_4_method_2_code 10 = .ok (.if_icmp .ne 10, 3) := by decide +kernel
theorem dO_of_13 : decode prog_4_method_2_code 13 = .ok (.iload 4, 2) := by decide +kernel
theorem dO_of_15 : decode prog_4_method_2_code 15 = .ok (.bipush 60, 2) := by decide +kernel
theorem dO_of_17 : decode prog_4_method_2_code 17 = .ok (.if_icmp .le 17, 3) := by decide +kernel
theorem dO_of_20 : decode prog_4_method_2_code 20 = .ok (.aload_n 0, 1) := by decide +kernel
theorem dO_of_21 : decode prog_4_method_2_code 21 = .ok (.iload_n 1, 1) := by decide +kernel
theorem dO_of_22 : decode prog_4_method_2_code 22 = .ok (.invokevirtual 9, 3) := by decide +kernel
theorem dO_of_25 : decode prog_4_method_2_code 25 = .ok (.aload_n 2, 1) := by decide +kernel
theorem dO_of_26 : decode prog_4_method_2_code 26 = .ok (.iload_n 3, 1) := by decide +kernel
theorem dO_of_27 : decode prog_4_method_2_code 27 = .ok (.invokevirtual 9, 3) := by decide +kernel
theorem dO_of_30 : decode prog_4_method_2_code 30 = .ok (.invokestatic 15, 3) := by decide +kernel
theorem dO_of_33 : decode prog_4_method_2_code 33 = .ok (.ireturn, 1) := by decide +kernel
theorem dO_of_34 : decode prog_4_method_2_code 34 = .ok (.aload_n 0, 1) := by decide +kernel
theorem dO_of_35 : decode prog_4_method_2_code 35 = .ok (.iload_n 1, 1) := by decide +kernel
theorem dO_of_36 : decode prog_4_method_2_code 36 = .ok (.invokevirtual 9, 3) := by decide +kernel
theorem dO_of_39 : decode prog_4_method_2_code 39 = .ok (.tableswitch 71 3 6 #[29, 43, 51, 61], 29) := by decide +kernel
theorem dO_of_68 : decode prog_4_method_2_code 68 = .ok (.aload_n 0, 1) := by decide +kernel
theorem dO_of_69 : decode prog_4_method_2_code 69 = .ok (.iload_n 1, 1) := by decide +kernel
theorem dO_of_70 : decode prog_4_method_2_code 70 = .ok (.invokevirtual 21, 3) := by decide +kernel
theorem dO_of_73 : decode prog_4_method_2_code 73 = .ok (.aload_n 2, 1) := by decide +kernel
theorem dO_of_74 : decode prog_4_method_2_code 74 = .ok (.iload_n 3, 1) := by decide +kernel
theorem dO_of_75 : decode prog_4_method_2_code 75 = .ok (.invokevirtual 21, 3) := by decide +kernel
theorem dO_of_78 : decode prog_4_method_2_code 78 = .ok (.invokestatic 25, 3) := by decide +kernel
theorem dO_of_81 : decode prog_4_method_2_code 81 = .ok (.ireturn, 1) := by decide +kernel
theorem dO_of_82 : decode prog_4_method_2_code 82 = .ok (.aload_n 0, 1) := by decide +kernel
theorem dO_of_83 : decode prog_4_method_2_code 83 = .ok (.iload_n 1, 1) := by decide +kernel
theorem dO_of_84 : decode prog_4_method_2_code 84 = .ok (.aload_n 2, 1) := by decide +kernel
theorem dO_of_85 : decode prog_4_method_2_code 85 = .ok (.iload_n 3, 1) := by decide +kernel
theorem dO_of_86 : decode prog_4_method_2_code 86 = .ok (.invokevirtual 30, 3) := by decide +kernel
theorem dO_of_89 : decode prog_4_method_2_code 89 = .ok (.ireturn, 1) := by decide +kernel
theorem dO_of_90 : decode prog_4_method_2_code 90 = .ok (.aload_n 0, 1) := by decide +kernel
theorem dO_of_91 : decode prog_4_method_2_code 91 = .ok (.iload_n 1, 1) := by decide +kernel
theorem dO_of_92 : decode prog_4_method_2_code 92 = .ok (.aload_n 2, 1) := by decide +kernel
theorem dO_of_93 : decode prog_4_method_2_code 93 = .ok (.iload_n 3, 1) := by decide +kernel
theorem dO_of_94 : decode prog_4_method_2_code 94 = .ok (.iload 4, 2) := by decide +kernel
theorem dO_of_96 : decode prog_4_method_2_code 96 = .ok (.invokestatic 34, 3) := by decide +kernel
theorem dO_of_99 : decode prog_4_method_2_code 99 = .ok (.ireturn, 1) := by decide +kernel
theorem dO_of_100 : decode prog_4_method_2_code 100 = .ok (.aload_n 0, 1) := by decide +kernel
theorem dO_of_101 : decode prog_4_method_2_code 101 = .ok (.iload_n 1, 1) := by decide +kernel
theorem dO_of_102 : decode prog_4_method_2_code 102 = .ok (.aload_n 2, 1) := by decide +kernel
theorem dO_of_103 : decode prog_4_method_2_code 103 = .ok (.iload_n 3, 1) := by decide +kernel
theorem dO_of_104 : decode prog_4_method_2_code 104 = .ok (.iload 4, 2) := by decide +kernel
theorem dO_of_106 : decode prog_4_method_2_code 106 = .ok (.invokestatic 40, 3) := by decide +kernel
theorem dO_of_109 : decode prog_4_method_2_code 109 = .ok (.ireturn, 1) := by decide +kernel
theorem dO_of_110 : decode prog_4_method_2_code 110 = .ok (.iconst 0, 1) := by decide +kernel
theorem dO_of_111 : decode prog_4_method_2_code 111 = .ok (.ireturn, 1) := by decide +kernel
theorem dO_ofArrays_0 : decode prog_4_method_4_code 0 = .ok (.aload_n 0, 1) := by decide +kernel
theorem dO_ofArrays_1 : decode prog_4_method_4_code 1 = .ok (.iload_n 1, 1) := by decide +kernel
theorem dO_ofArrays_2 : decode prog_4_method_4_code 2 = .ok (.invokevirtual 49, 3) := by decide +kernel
theorem dO_ofArrays_5 : decode prog_4_method_4_code 5 = .ok (.aload_n 2, 1) := by decide +kernel
theorem dO_ofArrays_6 : decode prog_4_method_4_code 6 = .ok (.iload_n 3, 1) := by decide +kernel
theorem dO_ofArrays_7 : decode prog_4_method_4_code 7 = .ok (.invokevirtual 49, 3) := by decide +kernel
theorem dO_ofArrays_10 : decode prog_4_method_4_code 10 = .ok (.invokestatic 52, 3) := by decide +kernel
theorem dO_ofArrays_13 : decode prog_4_method_4_code 13 = .ok (.istore 5, 2) := by decide +kernel
theorem dO_ofArrays_15 : decode prog_4_method_4_code 15 = .ok (.iload_n 1, 1) := by decide +kernel
theorem dO_ofArrays_16 : decode prog_4_method_4_code 16 = .ok (.iconst 1, 1) := by decide +kernel
theorem dO_ofArrays_17 : decode prog_4_method_4_code 17 = .ok (.iadd, 1) := by decide +kernel
theorem dO_ofArrays_18 : decode prog_4_method_4_code 18 = .ok (.istore 6, 2) := by decide +kernel
theorem dO_ofArrays_20 : decode prog_4_method_4_code 20 = .ok (.iload_n 3, 1) := by decide +kernel
theorem dO_ofArrays_21 : decode prog_4_method_4_code 21 = .ok (.iconst 1, 1) := by decide +kernel
theorem dO_ofArrays_22 : decode prog_4_method_4_code 22 = .ok (.iadd, 1) := by decide +kernel
theorem dO_ofArrays_23 : decode prog_4_method_4_code 23 = .ok (.istore 7, 2) := by decide +kernel
theorem dO_ofArrays_25 : decode prog_4_method_4_code 25 = .ok (.iconst 0, 1) := by decide +kernel
theorem dO_ofArrays_26 : decode prog_4_method_4_code 26 = .ok (.istore 8, 2) := by decide +kernel
theorem dO_ofArrays_28 : decode prog_4_method_4_code 28 = .ok (.iload 8, 2) := by decide +kernel
theorem dO_ofArrays_30 : decode prog_4_method_4_code 30 = .ok (.iload 5, 2) := by decide +kernel
theorem dO_ofArrays_32 : decode prog_4_method_4_code 32 = .ok (.if_icmp .ge 48, 3) := by decide +kernel
theorem dO_ofArrays_35 : decode prog_4_method_4_code 35 = .ok (.aload_n 0, 1) := by decide +kernel
theorem dO_ofArrays_36 : decode prog_4_method_4_code 36 = .ok (.iload 6, 2) := by decide +kernel
theorem dO_ofArrays_38 : decode prog_4_method_4_code 38 = .ok (.aload_n 2, 1) := by decide +kernel
theorem dO_ofArrays_39 : decode prog_4_method_4_code 39 = .ok (.iload 7, 2) := by decide +kernel
theorem dO_ofArrays_41 : decode prog_4_method_4_code 41 = .ok (.iload 4, 2) := by decide +kernel
theorem dO_ofArrays_43 : decode prog_4_method_4_code 43 = .ok (.iconst 1, 1) := by decide +kernel
theorem dO_ofArrays_44 : decode prog_4_method_4_code 44 = .ok (.iadd, 1) := by decide +kernel
theorem dO_ofArrays_45 : decode prog_4_method_4_code 45 = .ok (.invokestatic 46, 3) := by decide +kernel
theorem dO_ofArrays_48 : decode prog_4_method_4_code 48 = .ok (.istore 9, 2) := by decide +kernel
theorem dO_ofArrays_50 : decode prog_4_method_4_code 50 = .ok (.iload 9, 2) := by decide +kernel
theorem dO_ofArrays_52 : decode prog_4_method_4_code 52 = .ok (.ifCond .eq 6, 3) := by decide +kernel
theorem dO_ofArrays_55 : decode prog_4_method_4_code 55 = .ok (.iload 9, 2) := by decide +kernel
theorem dO_ofArrays_57 : decode prog_4_method_4_code 57 = .ok (.ireturn, 1) := by decide +kernel
theorem dO_ofArrays_58 : decode prog_4_method_4_code 58 = .ok (.aload_n 0, 1) := by decide +kernel
theorem dO_ofArrays_59 : decode prog_4_method_4_code 59 = .ok (.iload 6, 2) := by decide +kernel
theorem dO_ofArrays_61 : decode prog_4_method_4_code 61 = .ok (.invokevirtual 57, 3) := by decide +kernel
theorem dO_ofArrays_64 : decode prog_4_method_4_code 64 = .ok (.istore 6, 2) := by decide +kernel
theorem dO_ofArrays_66 : decode prog_4_method_4_code 66 = .ok (.aload_n 2, 1) := by decide +kernel
theorem dO_ofArrays_67 : decode prog_4_method_4_code 67 = .ok (.iload 7, 2) := by decide +kernel
theorem dO_ofArrays_69 : decode prog_4_method_4_code 69 = .ok (.invokevirtual 57, 3) := by decide +kernel
theorem dO_ofArrays_72 : decode prog_4_method_4_code 72 = .ok (.istore 7, 2) := by decide +kernel
theorem dO_ofArrays_74 : decode prog_4_method_4_code 74 = .ok (.iinc 8 1, 3) := by decide +kernel
theorem dO_ofArrays_77 : decode prog_4_method_4_code 77 = .ok (.goto (-49), 3) := by decide +kernel
theorem dO_ofArrays_80 : decode prog_4_method_4_code 80 = .ok (.aload_n 0, 1) := by decide +kernel
theorem dO_ofArrays_81 : decode prog_4_method_4_code 81 = .ok (.iload_n 1, 1) := by decide +kernel
theorem dO_ofArrays_82 : decode prog_4_method_4_code 82 = .ok (.invokevirtual 49, 3) := by decide +kernel
theorem dO_ofArrays_85 : decode prog_4_method_4_code 85 = .ok (.aload_n 2, 1) := by decide +kernel
theorem dO_ofArrays_86 : decode prog_4_method_4_code 86 = .ok (.iload_n 3, 1) := by decide +kernel
theorem dO_ofArrays_87 : decode prog_4_method_4_code 87 = .ok (.invokevirtual 49, 3) := by decide +kernel
theorem dO_ofArrays_90 : decode prog_4_method_4_code 90 = .ok (.invokestatic 15, 3) := by decide +kernel
theorem dO_ofArrays_93 : decode prog_4_method_4_code 93 = .ok (.ireturn, 1) := by decide +kernel
theorem dO_ofObjects_0 : decode prog_4_method_5_code 0 = .ok (.aload_n 0, 1) := by decide +kernel
theorem dO_ofObjects_1 : decode prog_4_method_5_code 1 = .ok (.iload_n 1, 1) := by decide +kernel
theorem dO_ofObjects_2 : decode prog_4_method_5_code 2 = .ok (.invokevirtual 49, 3) := by decide +kernel
theorem dO_ofObjects_5 : decode prog_4_method_5_code 5 = .ok (.aload_n 2, 1) := by decide +kernel
theorem dO_ofObjects_6 : decode prog_4_method_5_code 6 = .ok (.iload_n 3, 1) := by decide +kernel
theorem dO_ofObjects_7 : decode prog_4_method_5_code 7 = .ok (.invokevirtual 49, 3) := by decide +kernel
theorem dO_ofObjects_10 : decode prog_4_method_5_code 10 = .ok (.invokestatic 52, 3) := by decide +kernel
theorem dO_ofObjects_13 : decode prog_4_method_5_code 13 = .ok (.istore 5, 2) := by decide +kernel
theorem dO_ofObjects_15 : decode prog_4_method_5_code 15 = .ok (.iconst (-1), 1) := by decide +kernel
theorem dO_ofObjects_16 : decode prog_4_method_5_code 16 = .ok (.istore 6, 2) := by decide +kernel
theorem dO_ofObjects_18 : decode prog_4_method_5_code 18 = .ok (.iconst (-1), 1) := by decide +kernel
theorem dO_ofObjects_19 : decode prog_4_method_5_code 19 = .ok (.istore 7, 2) := by decide +kernel
theorem dO_ofObjects_21 : decode prog_4_method_5_code 21 = .ok (.iconst 0, 1) := by decide +kernel
theorem dO_ofObjects_22 : decode prog_4_method_5_code 22 = .ok (.istore 8, 2) := by decide +kernel
theorem dO_ofObjects_24 : decode prog_4_method_5_code 24 = .ok (.iconst 0, 1) := by decide +kernel
theorem dO_ofObjects_25 : decode prog_4_method_5_code 25 = .ok (.istore 9, 2) := by decide +kernel
theorem dO_ofObjects_27 : decode prog_4_method_5_code 27 = .ok (.iload 9, 2) := by decide +kernel
theorem dO_ofObjects_29 : decode prog_4_method_5_code 29 = .ok (.iload 5, 2) := by decide +kernel
theorem dO_ofObjects_31 : decode prog_4_method_5_code 31 = .ok (.if_icmp .ge 74, 3) := by decide +kernel
theorem dO_ofObjects_34 : decode prog_4_method_5_code 34 = .ok (.aload_n 0, 1) := by decide +kernel
theorem dO_ofObjects_35 : decode prog_4_method_5_code 35 = .ok (.iload_n 1, 1) := by decide +kernel
theorem dO_ofObjects_36 : decode prog_4_method_5_code 36 = .ok (.iload 6, 2) := by decide +kernel
theorem dO_ofObjects_38 : decode prog_4_method_5_code 38 = .ok (.invokestatic 60, 3) := by decide +kernel
theorem dO_ofObjects_41 : decode prog_4_method_5_code 41 = .ok (.istore 6, 2) := by decide +kernel
theorem dO_ofObjects_43 : decode prog_4_method_5_code 43 = .ok (.aload_n 2, 1) := by decide +kernel
theorem dO_ofObjects_44 : decode prog_4_method_5_code 44 = .ok (.iload_n 3, 1) := by decide +kernel
theorem dO_ofObjects_45 : decode prog_4_method_5_code 45 = .ok (.iload 7, 2) := by decide +kernel
theorem dO_ofObjects_47 : decode prog_4_method_5_code 47 = .ok (.invokestatic 60, 3) := by decide +kernel
theorem dO_ofObjects_50 : decode prog_4_method_5_code 50 = .ok (.istore 7, 2) := by decide +kernel
theorem dO_ofObjects_52 : decode prog_4_method_5_code 52 = .ok (.aload_n 0, 1) := by decide +kernel
theorem dO_ofObjects_53 : decode prog_4_method_5_code 53 = .ok (.iload 6, 2) := by decide +kernel
theorem dO_ofObjects_55 : decode prog_4_method_5_code 55 = .ok (.aload_n 2, 1) := by decide +kernel
theorem dO_ofObjects_56 : decode prog_4_method_5_code 56 = .ok (.iload 7, 2) := by decide +kernel
theorem dO_ofObjects_58 : decode prog_4_method_5_code 58 = .ok (.invokevirtual 30, 3) := by decide +kernel
theorem dO_ofObjects_61 : decode prog_4_method_5_code 61 = .ok (.istore 10, 2) := by decide +kernel
theorem dO_ofObjects_63 : decode prog_4_method_5_code 63 = .ok (.iload 10, 2) := by decide +kernel
theorem dO_ofObjects_65 : decode prog_4_method_5_code 65 = .ok (.ifCond .eq 6, 3) := by decide +kernel
theorem dO_ofObjects_68 : decode prog_4_method_5_code 68 = .ok (.iload 10, 2) := by decide +kernel
theorem dO_ofObjects_70 : decode prog_4_method_5_code 70 = .ok (.ireturn, 1) := by decide +kernel
theorem dO_ofObjects_71 : decode prog_4_method_5_code 71 = .ok (.iload 8, 2) := by decide +kernel
theorem dO_ofObjects_73 : decode prog_4_method_5_code 73 = .ok (.ifCond .ne 26, 3) := by decide +kernel
theorem dO_ofObjects_76 : decode prog_4_method_5_code 76 = .ok (.aload_n 0, 1) := by decide +kernel
theorem dO_ofObjects_77 : decode prog_4_method_5_code 77 = .ok (.aload_n 0, 1) := by decide +kernel
theorem dO_ofObjects_78 : decode prog_4_method_5_code 78 = .ok (.iload 6, 2) := by decide +kernel
theorem dO_ofObjects_80 : decode prog_4_method_5_code 80 = .ok (.invokevirtual 57, 3) := by decide +kernel
theorem dO_ofObjects_83 : decode prog_4_method_5_code 83 = .ok (.aload_n 2, 1) := by decide +kernel
theorem dO_ofObjects_84 : decode prog_4_method_5_code 84 = .ok (.aload_n 2, 1) := by decide +kernel
theorem dO_ofObjects_85 : decode prog_4_method_5_code 85 = .ok (.iload 7, 2) := by decide +kernel
theorem dO_ofObjects_87 : decode prog_4_method_5_code 87 = .ok (.invokevirtual 57, 3) := by decide +kernel
theorem dO_ofObjects_90 : decode prog_4_method_5_code 90 = .ok (.iload 4, 2) := by decide +kernel
theorem dO_ofObjects_92 : decode prog_4_method_5_code 92 = .ok (.iconst 1, 1) := by decide +kernel
theorem dO_ofObjects_93 : decode prog_4_method_5_code 93 = .ok (.iadd, 1) := by decide +kernel
theorem dO_ofObjects_94 : decode prog_4_method_5_code 94 = .ok (.invokestatic 46, 3) := by decide +kernel
theorem dO_ofObjects_97 : decode prog_4_method_5_code 97 = .ok (.istore 8, 2) := by decide +kernel
theorem dO_ofObjects_99 : decode prog_4_method_5_code 99 = .ok (.iinc 9 1, 3) := by decide +kernel
theorem dO_ofObjects_102 : decode prog_4_method_5_code 102 = .ok (.goto (-75), 3) := by decide +kernel
theorem dO_ofObjects_105 : decode prog_4_method_5_code 105 = .ok (.aload_n 0, 1) := by decide +kernel
theorem dO_ofObjects_106 : decode prog_4_method_5_code 106 = .ok (.iload_n 1, 1) := by decide +kernel
theorem dO_ofObjects_107 : decode prog_4_method_5_code 107 = .ok (.invokevirtual 49, 3) := by decide +kernel
theorem dO_ofObjects_110 : decode prog_4_method_5_code 110 = .ok (.aload_n 2, 1) := by decide +kernel
theorem dO_ofObjects_111 : decode prog_4_method_5_code 111 = .ok (.iload_n 3, 1) := by decide +kernel
theorem dO_ofObjects_112 : decode prog_4_method_5_code 112 = .ok (.invokevirtual 49, 3) := by decide +kernel
theorem dO_ofObjects_115 : decode prog_4_method_5_code 115 = .ok (.invokestatic 15, 3) := by decide +kernel
theorem dO_ofObjects_118 : decode prog_4_method_5_code 118 = .ok (.istore 9, 2) := by decide +kernel
theorem dO_ofObjects_120 : decode prog_4_method_5_code 120 = .ok (.iload 9, 2) := by decide +kernel
theorem dO_ofObjects_122 : decode prog_4_method_5_code 122 = .ok (.ifCond .eq 8, 3) := by decide +kernel
theorem dO_ofObjects_125 : decode prog_4_method_5_code 125 = .ok (.iload 9, 2) := by decide +kernel
theorem dO_ofObjects_127 : decode prog_4_method_5_code 127 = .ok (.goto 5, 3) := by decide +kernel
theorem dO_ofObjects_130 : decode prog_4_method_5_code 130 = .ok (.iload 8, 2) := by decide +kernel
theorem dO_ofObjects_132 : decode prog_4_method_5_code 132 = .ok (.ireturn, 1) := by decide +kernel
theorem dP_letterOf_0 : decode prog_6_method_6_code 0 = .ok (.iload_n 0, 1) := by decide +kernel
theorem dP_letterOf_1 : decode prog_6_method_6_code 1 = .ok (.lookupswitch 84 #[(8, 69), (9, 72), (10, 75), (12, 78), (13, 81), (34, 67), (92, 67)], 67) := by decide +kernel
theorem dP_letterOf_68 : decode prog_6_method_6_code 68 = .ok (.iload_n 0, 1) := by decide +kernel
theorem dP_letterOf_69 : decode prog_6_method_6_code 69 = .ok (.ireturn, 1) := by decide +kernel
theorem dP_letterOf_70 : decode prog_6_method_6_code 70 = .ok (.bipush 98, 2) := by decide +kernel
theorem dP_letterOf_72 : decode prog_6_method_6_code 72 = .ok (.ireturn, 1) := by decide +kernel
theorem dP_letterOf_73 : decode prog_6_method_6_code 73 = .ok (.bipush 116, 2) := by decide +kernel
theorem dP_letterOf_75 : decode prog_6_method_6_code 75 = .ok (.ireturn, 1) := by decide +kernel
theorem dP_letterOf_76 : decode prog_6_method_6_code 76 = .ok (.bipush 110, 2) := by decide +kernel
theorem dP_letterOf_78 : decode prog_6_method_6_code 78 = .ok (.ireturn, 1) := by decide +kernel
theorem dP_letterOf_79 : decode prog_6_method_6_code 79 = .ok (.bipush 102, 2) := by decide +kernel
theorem dP_letterOf_81 : decode prog_6_method_6_code 81 = .ok (.ireturn, 1) := by decide +kernel
theorem dP_letterOf_82 : decode prog_6_method_6_code 82 = .ok (.bipush 114, 2) := by decide +kernel
theorem dP_letterOf_84 : decode prog_6_method_6_code 84 = .ok (.ireturn, 1) := by decide +kernel
theorem dP_letterOf_85 : decode prog_6_method_6_code 85 = .ok (.iconst (-1), 1) := by decide +kernel
theorem dP_letterOf_86 : decode prog_6_method_6_code 86 = .ok (.ireturn, 1) := by decide +kernel
theorem dP_write_0 : decode prog_6_method_2_code 0 = .ok (.aload_n 0, 1) := by decide +kernel
theorem dP_write_1 : decode prog_6_method_2_code 1 = .ok (.iload_n 1, 1) := by decide +kernel
theorem dP_write_2 : decode prog_6_method_2_code 2 = .ok (.invokevirtual 9, 3) := by decide +kernel
theorem dP_write_5 : decode prog_6_method_2_code 5 = .ok (.tableswitch 83 0 4 #[35, 44, 53, 62, 74], 35) := by decide +kernel
theorem dP_write_40 : decode prog_6_method_2_code 40 = .ok (.aload_n 2, 1) := by decide +kernel
theorem dP_write_41 : decode prog_6_method_2_code 41 = .ok (.ldc 15, 2) := by decide +kernel
theorem dP_write_43 : decode prog_6_method_2_code 43 = .ok (.invokevirtual 17, 3) := by decide +kernel
theorem dP_write_46 : decode prog_6_method_2_code 46 = .ok (.goto 49, 3) := by decide +kernel
theorem dP_write_49 : decode prog_6_method_2_code 49 = .ok (.aload_n 2, 1) := by decide +kernel
theorem dP_write_50 : decode prog_6_method_2_code 50 = .ok (.ldc 23, 2) := by decide +kernel
theorem dP_write_52 : decode prog_6_method_2_code 52 = .ok (.invokevirtual 17, 3) := by decide +kernel
theorem dP_write_55 : decode prog_6_method_2_code 55 = .ok (.goto 40, 3) := by decide +kernel
theorem dP_write_58 : decode prog_6_method_2_code 58 = .ok (.aload_n 2, 1) := by decide +kernel
theorem dP_write_59 : decode prog_6_method_2_code 59 = .ok (.ldc 25, 2) := by decide +kernel
theorem dP_write_61 : decode prog_6_method_2_code 61 = .ok (.invokevirtual 17, 3) := by decide +kernel
theorem dP_write_64 : decode prog_6_method_2_code 64 = .ok (.goto 31, 3) := by decide +kernel
theorem dP_write_67 : decode prog_6_method_2_code 67 = .ok (.aload_n 2, 1) := by decide +kernel
theorem dP_write_68 : decode prog_6_method_2_code 68 = .ok (.aload_n 0, 1) := by decide +kernel
theorem dP_write_69 : decode prog_6_method_2_code 69 = .ok (.iload_n 1, 1) := by decide +kernel
theorem dP_write_70 : decode prog_6_method_2_code 70 = .ok (.invokevirtual 27, 3) := by decide +kernel
theorem dP_write_73 : decode prog_6_method_2_code 73 = .ok (.invokevirtual 31, 3) := by decide +kernel
theorem dP_write_76 : decode prog_6_method_2_code 76 = .ok (.goto 19, 3) := by decide +kernel
theorem dP_write_79 : decode prog_6_method_2_code 79 = .ok (.aload_n 0, 1) := by decide +kernel
theorem dP_write_80 : decode prog_6_method_2_code 80 = .ok (.iload_n 1, 1) := by decide +kernel
theorem dP_write_81 : decode prog_6_method_2_code 81 = .ok (.aload_n 2, 1) := by decide +kernel
theorem dP_write_82 : decode prog_6_method_2_code 82 = .ok (.invokestatic 35, 3) := by decide +kernel
theorem dP_write_85 : decode prog_6_method_2_code 85 = .ok (.goto 10, 3) := by decide +kernel
theorem dP_write_88 : decode prog_6_method_2_code 88 = .ok (.aload_n 0, 1) := by decide +kernel
theorem dP_write_89 : decode prog_6_method_2_code 89 = .ok (.iload_n 1, 1) := by decide +kernel
theorem dP_write_90 : decode prog_6_method_2_code 90 = .ok (.aload_n 2, 1) := by decide +kernel
theorem dP_write_91 : decode prog_6_method_2_code 91 = .ok (.iload_n 3, 1) := by decide +kernel
theorem dP_write_92 : decode prog_6_method_2_code 92 = .ok (.invokestatic 41, 3) := by decide +kernel
theorem dP_write_95 : decode prog_6_method_2_code 95 = .ok (.return_, 1) := by decide +kernel
theorem dP_writeCode_0 : decode prog_6_method_5_code 0 = .ok (.iload_n 0, 1) := by decide +kernel
theorem dP_writeCode_1 : decode prog_6_method_5_code 1 = .ok (.invokestatic 73, 3) := by decide +kernel
theorem dP_writeCode_4 : decode prog_6_method_5_code 4 = .ok (.istore_n 2, 1) := by decide +kernel
theorem dP_writeCode_5 : decode prog_6_method_5_code 5 = .ok (.iload_n 2, 1) := by decide +kernel
theorem dP_writeCode_6 : decode prog_6_method_5_code 6 = .ok (.iconst (-1), 1) := by decide +kernel
theorem dP_writeCode_7 : decode prog_6_method_5_code 7 = .ok (.if_icmp .eq 17, 3) := by decide +kernel
theorem dP_writeCode_10 : decode prog_6_method_5_code 10 = .ok (.aload_n 1, 1) := by decide +kernel
theorem dP_writeCode_11 : decode prog_6_method_5_code 11 = .ok (.bipush 92, 2) := by decide +kernel
theorem dP_writeCode_13 : decode prog_6_method_5_code 13 = .ok (.invokevirtual 52, 3) := by decide +kernel
theorem dP_writeCode_16 : decode prog_6_method_5_code 16 = .ok (.aload_n 1, 1) := by decide +kernel
theorem dP_writeCode_17 : decode prog_6_method_5_code 17 = .ok (.iload_n 2, 1) := by decide +kernel
theorem dP_writeCode_18 : decode prog_6_method_5_code 18 = .ok (.invokevirtual 52, 3) := by decide +kernel
theorem dP_writeCode_21 : decode prog_6_method_5_code 21 = .ok (.goto 75, 3) := by decide +kernel
theorem dP_writeCode_24 : decode prog_6_method_5_code 24 = .ok (.iload_n 0, 1) := by decide +kernel
theorem dP_writeCode_25 : decode prog_6_method_5_code 25 = .ok (.bipush 32, 2) := by decide +kernel
theorem dP_writeCode_27 : decode prog_6_method_5_code 27 = .ok (.if_icmp .lt 9, 3) := by decide +kernel
theorem dP_writeCode_30 : decode prog_6_method_5_code 30 = .ok (.iload_n 0, 1) := by decide +kernel
theorem dP_writeCode_31 : decode prog_6_method_5_code 31 = .ok (.bipush 127, 2) := by decide +kernel
theorem dP_writeCode_33 : decode prog_6_method_5_code 33 = .ok (.if_icmp .ne 58, 3) := by decide +kernel
theorem dP_writeCode_36 : decode prog_6_method_5_code 36 = .ok (.aload_n 1, 1) := by decide +kernel
theorem dP_writeCode_37 : decode prog_6_method_5_code 37 = .ok (.bipush 92, 2) := by decide +kernel
theorem dP_writeCode_39 : decode prog_6_method_5_code 39 = .ok (.invokevirtual 52, 3) := by decide +kernel
theorem dP_writeCode_42 : decode prog_6_method_5_code 42 = .ok (.aload_n 1, 1) := by decide +kernel
theorem dP_writeCode_43 : decode prog_6_method_5_code 43 = .ok (.bipush 117, 2) := by decide +kernel
theorem dP_writeCode_45 : decode prog_6_method_5_code 45 = .ok (.invokevirtual 52, 3) := by decide +kernel
theorem dP_writeCode_48 : decode prog_6_method_5_code 48 = .ok (.aload_n 1, 1) := by decide +kernel
theorem dP_writeCode_49 : decode prog_6_method_5_code 49 = .ok (.bipush 48, 2) := by decide +kernel
theorem dP_writeCode_51 : decode prog_6_method_5_code 51 = .ok (.invokevirtual 52, 3) := by decide +kernel
theorem dP_writeCode_54 : decode prog_6_method_5_code 54 = .ok (.aload_n 1, 1) := by decide +kernel
theorem dP_writeCode_55 : decode prog_6_method_5_code 55 = .ok (.bipush 48, 2) := by decide +kernel
theorem dP_writeCode_57 : decode prog_6_method_5_code 57 = .ok (.invokevirtual 52, 3) := by decide +kernel
theorem dP_writeCode_60 : decode prog_6_method_5_code 60 = .ok (.aload_n 1, 1) := by decide +kernel
theorem dP_writeCode_61 : decode prog_6_method_5_code 61 = .ok (.ldc 76, 2) := by decide +kernel
theorem dP_writeCode_63 : decode prog_6_method_5_code 63 = .ok (.iload_n 0, 1) := by decide +kernel
theorem dP_writeCode_64 : decode prog_6_method_5_code 64 = .ok (.iconst 4, 1) := by decide +kernel
theorem dP_writeCode_65 : decode prog_6_method_5_code 65 = .ok (.ishr, 1) := by decide +kernel
theorem dP_writeCode_66 : decode prog_6_method_5_code 66 = .ok (.bipush 15, 2) := by decide +kernel
theorem dP_writeCode_68 : decode prog_6_method_5_code 68 = .ok (.iand, 1) := by decide +kernel
theorem dP_writeCode_69 : decode prog_6_method_5_code 69 = .ok (.invokevirtual 78, 3) := by decide +kernel
theorem dP_writeCode_72 : decode prog_6_method_5_code 72 = .ok (.invokevirtual 52, 3) := by decide +kernel
theorem dP_writeCode_75 : decode prog_6_method_5_code 75 = .ok (.aload_n 1, 1) := by decide +kernel
theorem dP_writeCode_76 : decode prog_6_method_5_code 76 = .ok (.ldc 76, 2) := by decide +kernel
theorem dP_writeCode_78 : decode prog_6_method_5_code 78 = .ok (.iload_n 0, 1) := by decide +kernel
theorem dP_writeCode_79 : decode prog_6_method_5_code 79 = .ok (.bipush 15, 2) := by decide +kernel
theorem dP_writeCode_81 : decode prog_6_method_5_code 81 = .ok (.iand, 1) := by decide +kernel
theorem dP_writeCode_82 : decode prog_6_method_5_code 82 = .ok (.invokevirtual 78, 3) := by decide +kernel
theorem dP_writeCode_85 : decode prog_6_method_5_code 85 = .ok (.invokevirtual 52, 3) := by decide +kernel
theorem dP_writeCode_88 : decode prog_6_method_5_code 88 = .ok (.goto 8, 3) := by decide +kernel
theorem dP_writeCode_91 : decode prog_6_method_5_code 91 = .ok (.aload_n 1, 1) := by decide +kernel
theorem dP_writeCode_92 : decode prog_6_method_5_code 92 = .ok (.iload_n 0, 1) := by decide +kernel
theorem dP_writeCode_93 : decode prog_6_method_5_code 93 = .ok (.invokevirtual 52, 3) := by decide +kernel
theorem dP_writeCode_96 : decode prog_6_method_5_code 96 = .ok (.return_, 1) := by decide +kernel
theorem dP_writeList_0 : decode prog_6_method_3_code 0 = .ok (.iload_n 3, 1) := by decide +kernel
theorem dP_writeList_1 : decode prog_6_method_3_code 1 = .ok (.bipush 60, 2) := by decide +kernel
theorem dP_writeList_3 : decode prog_6_method_3_code 3 = .ok (.if_icmp .lt 8, 3) := by decide +kernel
theorem dP_writeList_6 : decode prog_6_method_3_code 6 = .ok (.aload_n 2, 1) := by decide +kernel
theorem dP_writeList_7 : decode prog_6_method_3_code 7 = .ok (.invokevirtual 45, 3) := by decide +kernel
theorem dP_writeList_10 : decode prog_6_method_3_code 10 = .ok (.return_, 1) := by decide +kernel
theorem dP_writeList_11 : decode prog_6_method_3_code 11 = .ok (.aload_n 0, 1) := by decide +kernel
theorem dP_writeList_12 : decode prog_6_method_3_code 12 = .ok (.iload_n 1, 1) := by decide +kernel
theorem dP_writeList_13 : decode prog_6_method_3_code 13 = .ok (.bipush 6, 2) := by decide +kernel
theorem dP_writeList_15 : decode prog_6_method_3_code 15 = .ok (.invokevirtual 48, 3) := by decide +kernel
theorem dP_writeList_18 : decode prog_6_method_3_code 18 = .ok (.istore 4, 2) := by decide +kernel
theorem dP_writeList_20 : decode prog_6_method_3_code 20 = .ok (.aload_n 2, 1) := by decide +kernel
theorem dP_writeList_21 : decode prog_6_method_3_code 21 = .ok (.iload 4, 2) := by decide +kernel
theorem dP_writeList_23 : decode prog_6_method_3_code 23 = .ok (.ifCond .eq 8, 3) := by decide +kernel
theorem dP_writeList_26 : decode prog_6_method_3_code 26 = .ok (.bipush 123, 2) := by decide +kernel
theorem dP_writeList_28 : decode prog_6_method_3_code 28 = .ok (.goto 5, 3) := by decide +kernel
theorem dP_writeList_31 : decode prog_6_method_3_code 31 = .ok (.bipush 91, 2) := by decide +kernel
theorem dP_writeList_33 : decode prog_6_method_3_code 33 = .ok (.invokevirtual 52, 3) := by decide +kernel
theorem dP_writeList_36 : decode prog_6_method_3_code 36 = .ok (.iload_n 1, 1) := by decide +kernel
theorem dP_writeList_37 : decode prog_6_method_3_code 37 = .ok (.iconst 1, 1) := by decide +kernel
theorem dP_writeList_38 : decode prog_6_method_3_code 38 = .ok (.iadd, 1) := by decide +kernel
theorem dP_writeList_39 : decode prog_6_method_3_code 39 = .ok (.istore 5, 2) := by decide +kernel
theorem dP_writeList_41 : decode prog_6_method_3_code 41 = .ok (.iconst 0, 1) := by decide +kernel
theorem dP_writeList_42 : decode prog_6_method_3_code 42 = .ok (.istore 6, 2) := by decide +kernel
theorem dP_writeList_44 : decode prog_6_method_3_code 44 = .ok (.iload 6, 2) := by decide +kernel
theorem dP_writeList_46 : decode prog_6_method_3_code 46 = .ok (.aload_n 0, 1) := by decide +kernel
theorem dP_writeList_47 : decode prog_6_method_3_code 47 = .ok (.iload_n 1, 1) := by decide +kernel
theorem dP_writeList_48 : decode prog_6_method_3_code 48 = .ok (.invokevirtual 56, 3) := by decide +kernel
theorem dP_writeList_51 : decode prog_6_method_3_code 51 = .ok (.if_icmp .ge 64, 3) := by decide +kernel
theorem dP_writeList_54 : decode prog_6_method_3_code 54 = .ok (.iload 6, 2) := by decide +kernel
theorem dP_writeList_56 : decode prog_6_method_3_code 56 = .ok (.ifCond .le 9, 3) := by decide +kernel
theorem dP_writeList_59 : decode prog_6_method_3_code 59 = .ok (.aload_n 2, 1) := by decide +kernel
theorem dP_writeList_60 : decode prog_6_method_3_code 60 = .ok (.bipush 44, 2) := by decide +kernel
theorem dP_writeList_62 : decode prog_6_method_3_code 62 = .ok (.invokevirtual 52, 3) := by decide +kernel
theorem dP_writeList_65 : decode prog_6_method_3_code 65 = .ok (.iload 4, 2) := by decide +kernel
theorem dP_writeList_67 : decode prog_6_method_3_code 67 = .ok (.ifCond .eq 24, 3) := by decide +kernel
theorem dP_writeList_70 : decode prog_6_method_3_code 70 = .ok (.aload_n 0, 1) := by decide +kernel
theorem dP_writeList_71 : decode prog_6_method_3_code 71 = .ok (.iload 5, 2) := by decide +kernel
theorem dP_writeList_73 : decode prog_6_method_3_code 73 = .ok (.aload_n 2, 1) := by decide +kernel
theorem dP_writeList_74 : decode prog_6_method_3_code 74 = .ok (.invokestatic 35, 3) := by decide +kernel
theorem dP_writeList_77 : decode prog_6_method_3_code 77 = .ok (.aload_n 2, 1) := by decide +kernel
theorem dP_writeList_78 : decode prog_6_method_3_code 78 = .ok (.bipush 58, 2) := by decide +kernel
theorem dP_writeList_80 : decode prog_6_method_3_code 80 = .ok (.invokevirtual 52, 3) := by decide +kernel
theorem dP_writeList_83 : decode prog_6_method_3_code 83 = .ok (.aload_n 0, 1) := by decide +kernel
theorem dP_writeList_84 : decode prog_6_method_3_code 84 = .ok (.iload 5, 2) := by decide +kernel
theorem dP_writeList_86 : decode prog_6_method_3_code 86 = .ok (.invokevirtual 59, 3) := by decide +kernel
theorem dP_writeList_89 : decode prog_6_method_3_code 89 = .ok (.istore 5, 2) := by decide +kernel
theorem dP_writeList_91 : decode prog_6_method_3_code 91 = .ok (.aload_n 0, 1) := by decide +kernel
theorem dP_writeList_92 : decode prog_6_method_3_code 92 = .ok (.iload 5, 2) := by decide +kernel
theorem dP_writeList_94 : decode prog_6_method_3_code 94 = .ok (.aload_n 2, 1) := by decide +kernel
theorem dP_writeList_95 : decode prog_6_method_3_code 95 = .ok (.iload_n 3, 1) := by decide +kernel
theorem dP_writeList_96 : decode prog_6_method_3_code 96 = .ok (.iconst 1, 1) := by decide +kernel
theorem dP_writeList_97 : decode prog_6_method_3_code 97 = .ok (.iadd, 1) := by decide +kernel
theorem dP_writeList_98 : decode prog_6_method_3_code 98 = .ok (.invokestatic 62, 3) := by decide +kernel
theorem dP_writeList_101 : decode prog_6_method_3_code 101 = .ok (.aload_n 0, 1) := by decide +kernel
theorem dP_writeList_102 : decode prog_6_method_3_code 102 = .ok (.iload 5, 2) := by decide +kernel
theorem dP_writeList_104 : decode prog_6_method_3_code 104 = .ok (.invokevirtual 59, 3) := by decide +kernel
theorem dP_writeList_107 : decode prog_6_method_3_code 107 = .ok (.istore 5, 2) := by decide +kernel
theorem dP_writeList_109 : decode prog_6_method_3_code 109 = .ok (.iinc 6 1, 3) := by decide +kernel
theorem dP_writeList_112 : decode prog_6_method_3_code 112 = .ok (.goto (-68), 3) := by decide +kernel
theorem dP_writeList_115 : decode prog_6_method_3_code 115 = .ok (.aload_n 2, 1) := by decide +kernel
theorem dP_writeList_116 : decode prog_6_method_3_code 116 = .ok (.iload 4, 2) := by decide +kernel
theorem dP_writeList_118 : decode prog_6_method_3_code 118 = .ok (.ifCond .eq 8, 3) := by decide +kernel
theorem dP_writeList_121 : decode prog_6_method_3_code 121 = .ok (.bipush 125, 2) := by decide +kernel
theorem dP_writeList_123 : decode prog_6_method_3_code 123 = .ok (.goto 5, 3) := by decide +kernel
theorem dP_writeList_126 : decode prog_6_method_3_code 126 = .ok (.bipush 93, 2) := by decide +kernel
theorem dP_writeList_128 : decode prog_6_method_3_code 128 = .ok (.invokevirtual 52, 3) := by decide +kernel
theorem dP_writeList_131 : decode prog_6_method_3_code 131 = .ok (.return_, 1) := by decide +kernel
theorem dP_writeString_0 : decode prog_6_method_4_code 0 = .ok (.aload_n 2, 1) := by decide +kernel
theorem dP_writeString_1 : decode prog_6_method_4_code 1 = .ok (.bipush 34, 2) := by decide +kernel
theorem dP_writeString_3 : decode prog_6_method_4_code 3 = .ok (.invokevirtual 52, 3) := by decide +kernel
theorem dP_writeString_6 : decode prog_6_method_4_code 6 = .ok (.iconst 0, 1) := by decide +kernel
theorem dP_writeString_7 : decode prog_6_method_4_code 7 = .ok (.istore_n 3, 1) := by decide +kernel
theorem dP_writeString_8 : decode prog_6_method_4_code 8 = .ok (.iload_n 3, 1) := by decide +kernel
theorem dP_writeString_9 : decode prog_6_method_4_code 9 = .ok (.aload_n 0, 1) := by decide +kernel
theorem dP_writeString_10 : decode prog_6_method_4_code 10 = .ok (.iload_n 1, 1) := by decide +kernel
theorem dP_writeString_11 : decode prog_6_method_4_code 11 = .ok (.invokevirtual 56, 3) := by decide +kernel
theorem dP_writeString_14 : decode prog_6_method_4_code 14 = .ok (.if_icmp .ge 19, 3) := by decide +kernel
theorem dP_writeString_17 : decode prog_6_method_4_code 17 = .ok (.aload_n 0, 1) := by decide +kernel
theorem dP_writeString_18 : decode prog_6_method_4_code 18 = .ok (.iload_n 1, 1) := by decide +kernel
theorem dP_writeString_19 : decode prog_6_method_4_code 19 = .ok (.iload_n 3, 1) := by decide +kernel
theorem dP_writeString_20 : decode prog_6_method_4_code 20 = .ok (.invokevirtual 65, 3) := by decide +kernel
theorem dP_writeString_23 : decode prog_6_method_4_code 23 = .ok (.aload_n 2, 1) := by decide +kernel
theorem dP_writeString_24 : decode prog_6_method_4_code 24 = .ok (.invokestatic 69, 3) := by decide +kernel
theorem dP_writeString_27 : decode prog_6_method_4_code 27 = .ok (.iinc 3 1, 3) := by decide +kernel
theorem dP_writeString_30 : decode prog_6_method_4_code 30 = .ok (.goto (-22), 3) := by decide +kernel
theorem dP_writeString_33 : decode prog_6_method_4_code 33 = .ok (.aload_n 2, 1) := by decide +kernel
theorem dP_writeString_34 : decode prog_6_method_4_code 34 = .ok (.bipush 34, 2) := by decide +kernel
theorem dP_writeString_36 : decode prog_6_method_4_code 36 = .ok (.invokevirtual 52, 3) := by decide +kernel
theorem dP_writeString_39 : decode prog_6_method_4_code 39 = .ok (.return_, 1) := by decide +kernel
theorem dS_arrange_0 : decode prog_10_method_2_code 0 = .ok (.aload_n 0, 1) := by decide +kernel
theorem dS_arrange_1 : decode prog_10_method_2_code 1 = .ok (.aload_n 1, 1) := by decide +kernel
theorem dS_arrange_2 : decode prog_10_method_2_code 2 = .ok (.iload_n 2, 1) := by decide +kernel
theorem dS_arrange_3 : decode prog_10_method_2_code 3 = .ok (.invokevirtual 28, 3) := by decide +kernel
theorem dS_arrange_6 : decode prog_10_method_2_code 6 = .ok (.iconst 1, 1) := by decide +kernel
theorem dS_arrange_7 : decode prog_10_method_2_code 7 = .ok (.istore_n 3, 1) := by decide +kernel
theorem dS_arrange_8 : decode prog_10_method_2_code 8 = .ok (.iload_n 3, 1) := by decide +kernel
theorem dS_arrange_9 : decode prog_10_method_2_code 9 = .ok (.aload_n 0, 1) := by decide +kernel
theorem dS_arrange_10 : decode prog_10_method_2_code 10 = .ok (.getfield 24, 3) := by decide +kernel
theorem dS_arrange_13 : decode prog_10_method_2_code 13 = .ok (.if_icmp .ge 84, 3) := by decide +kernel
theorem dS_arrange_16 : decode prog_10_method_2_code 16 = .ok (.iconst 0, 1) := by decide +kernel
theorem dS_arrange_17 : decode prog_10_method_2_code 17 = .ok (.istore 4, 2) := by decide +kernel
theorem dS_arrange_19 : decode prog_10_method_2_code 19 = .ok (.iload 4, 2) := by decide +kernel
theorem dS_arrange_21 : decode prog_10_method_2_code 21 = .ok (.aload_n 0, 1) := by decide +kernel
theorem dS_arrange_22 : decode prog_10_method_2_code 22 = .ok (.getfield 24, 3) := by decide +kernel
theorem dS_arrange_25 : decode prog_10_method_2_code 25 = .ok (.if_icmp .ge 45, 3) := by decide +kernel
theorem dS_arrange_28 : decode prog_10_method_2_code 28 = .ok (.aload_n 0, 1) := by decide +kernel
theorem dS_arrange_29 : decode prog_10_method_2_code 29 = .ok (.aload_n 1, 1) := by decide +kernel
theorem dS_arrange_30 : decode prog_10_method_2_code 30 = .ok (.iload 4, 2) := by decide +kernel
theorem dS_arrange_32 : decode prog_10_method_2_code 32 = .ok (.iload 4, 2) := by decide +kernel
theorem dS_arrange_34 : decode prog_10_method_2_code 34 = .ok (.iload_n 3, 1) := by decide +kernel
theorem dS_arrange_35 : decode prog_10_method_2_code 35 = .ok (.iadd, 1) := by decide +kernel
theorem dS_arrange_36 : decode prog_10_method_2_code 36 = .ok (.aload_n 0, 1) := by decide +kernel
theorem dS_arrange_37 : decode prog_10_method_2_code 37 = .ok (.getfield 24, 3) := by decide +kernel
theorem dS_arrange_40 : decode prog_10_method_2_code 40 = .ok (.invokestatic 32, 3) := by decide +kernel
theorem dS_arrange_43 : decode prog_10_method_2_code 43 = .ok (.iload 4, 2) := by decide +kernel
theorem dS_arrange_45 : decode prog_10_method_2_code 45 = .ok (.iconst 2, 1) := by decide +kernel
theorem dS_arrange_46 : decode prog_10_method_2_code 46 = .ok (.iload_n 3, 1) := by decide +kernel
theorem dS_arrange_47 : decode prog_10_method_2_code 47 = .ok (.imul, 1) := by decide +kernel
theorem dS_arrange_48 : decode prog_10_method_2_code 48 = .ok (.iadd, 1) := by decide +kernel
theorem dS_arrange_49 : decode prog_10_method_2_code 49 = .ok (.aload_n 0, 1) := by decide +kernel
theorem dS_arrange_50 : decode prog_10_method_2_code 50 = .ok (.getfield 24, 3) := by decide +kernel
theorem dS_arrange_53 : decode prog_10_method_2_code 53 = .ok (.invokestatic 32, 3) := by decide +kernel
theorem dS_arrange_56 : decode prog_10_method_2_code 56 = .ok (.invokevirtual 38, 3) := by decide +kernel
theorem dS_arrange_59 : decode prog_10_method_2_code 59 = .ok (.iload 4, 2) := by decide +kernel
theorem dS_arrange_61 : decode prog_10_method_2_code 61 = .ok (.iconst 2, 1) := by decide +kernel
theorem dS_arrange_62 : decode prog_10_method_2_code 62 = .ok (.iload_n 3, 1) := by decide +kernel
theorem dS_arrange_63 : decode prog_10_method_2_code 63 = .ok (.imul, 1) := by decide +kernel
theorem dS_arrange_64 : decode prog_10_method_2_code 64 = .ok (.iadd, 1) := by decide +kernel
theorem dS_arrange_65 : decode prog_10_method_2_code 65 = .ok (.istore 4, 2) := by decide +kernel
theorem dS_arrange_67 : decode prog_10_method_2_code 67 = .ok (.goto (-48), 3) := by decide +kernel
theorem dS_arrange_70 : decode prog_10_method_2_code 70 = .ok (.aload_n 0, 1) := by decide +kernel
theorem dS_arrange_71 : decode prog_10_method_2_code 71 = .ok (.getfield 21, 3) := by decide +kernel
theorem dS_arrange_74 : decode prog_10_method_2_code 74 = .ok (.astore 4, 2) := by decide +kernel
theorem dS_arrange_76 : decode prog_10_method_2_code 76 = .ok (.aload_n 0, 1) := by decide +kernel
theorem dS_arrange_77 : decode prog_10_method_2_code 77 = .ok (.aload_n 0, 1) := by decide +kernel
theorem dS_arrange_78 : decode prog_10_method_2_code 78 = .ok (.getfield 18, 3) := by decide +kernel
theorem dS_arrange_81 : decode prog_10_method_2_code 81 = .ok (.putfield 21, 3) := by decide +kernel
theorem dS_arrange_84 : decode prog_10_method_2_code 84 = .ok (.aload_n 0, 1) := by decide +kernel
theorem dS_arrange_85 : decode prog_10_method_2_code 85 = .ok (.aload 4, 2) := by decide +kernel
theorem dS_arrange_87 : decode prog_10_method_2_code 87 = .ok (.putfield 18, 3) := by decide +kernel
theorem dS_arrange_90 : decode prog_10_method_2_code 90 = .ok (.iload_n 3, 1) := by decide +kernel
theorem dS_arrange_91 : decode prog_10_method_2_code 91 = .ok (.iconst 2, 1) := by decide +kernel
theorem dS_arrange_92 : decode prog_10_method_2_code 92 = .ok (.imul, 1) := by decide +kernel
theorem dS_arrange_93 : decode prog_10_method_2_code 93 = .ok (.istore_n 3, 1) := by decide +kernel
theorem dS_arrange_94 : decode prog_10_method_2_code 94 = .ok (.goto (-86), 3) := by decide +kernel
theorem dS_arrange_97 : decode prog_10_method_2_code 97 = .ok (.return_, 1) := by decide +kernel
theorem dS_attach_0 : decode prog_10_method_3_code 0 = .ok (.iload_n 2, 1) := by decide +kernel
theorem dS_attach_1 : decode prog_10_method_3_code 1 = .ok (.iconst 1, 1) := by decide +kernel
theorem dS_attach_2 : decode prog_10_method_3_code 2 = .ok (.iadd, 1) := by decide +kernel
theorem dS_attach_3 : decode prog_10_method_3_code 3 = .ok (.istore_n 3, 1) := by decide +kernel
theorem dS_attach_4 : decode prog_10_method_3_code 4 = .ok (.iconst 0, 1) := by decide +kernel
theorem dS_attach_5 : decode prog_10_method_3_code 5 = .ok (.istore 4, 2) := by decide +kernel
theorem dS_attach_7 : decode prog_10_method_3_code 7 = .ok (.iload 4, 2) := by decide +kernel
theorem dS_attach_9 : decode prog_10_method_3_code 9 = .ok (.aload_n 0, 1) := by decide +kernel
theorem dS_attach_10 : decode prog_10_method_3_code 10 = .ok (.getfield 24, 3) := by decide +kernel
theorem dS_attach_13 : decode prog_10_method_3_code 13 = .ok (.if_icmp .ge 23, 3) := by decide +kernel
theorem dS_attach_16 : decode prog_10_method_3_code 16 = .ok (.aload_n 0, 1) := by decide +kernel
theorem dS_attach_17 : decode prog_10_method_3_code 17 = .ok (.getfield 15, 3) := by decide +kernel
theorem dS_attach_20 : decode prog_10_method_3_code 20 = .ok (.iload 4, 2) := by decide +kernel
theorem dS_attach_22 : decode prog_10_method_3_code 22 = .ok (.iload_n 3, 1) := by decide +kernel
theorem dS_attach_23 : decode prog_10_method_3_code 23 = .ok (.iastore, 1) := by decide +kernel
theorem dS_attach_24 : decode prog_10_method_3_code 24 = .ok (.aload_n 1, 1) := by decide +kernel
theorem dS_attach_25 : decode prog_10_method_3_code 25 = .ok (.iload_n 3, 1) := by decide +kernel
theorem dS_attach_26 : decode prog_10_method_3_code 26 = .ok (.invokevirtual 42, 3) := by decide +kernel
theorem dS_attach_29 : decode prog_10_method_3_code 29 = .ok (.istore_n 3, 1) := by decide +kernel
theorem dS_attach_30 : decode prog_10_method_3_code 30 = .ok (.iinc 4 1, 3) := by decide +kernel
theorem dS_attach_33 : decode prog_10_method_3_code 33 = .ok (.goto (-26), 3) := by decide +kernel
theorem dS_attach_36 : decode prog_10_method_3_code 36 = .ok (.return_, 1) := by decide +kernel
theorem dS_elementAtTurn_0 : decode prog_10_method_5_code 0 = .ok (.iload_n 1, 1) := by decide +kernel
theorem dS_elementAtTurn_1 : decode prog_10_method_5_code 1 = .ok (.ifCond .lt 25, 3) := by decide +kernel
theorem dS_elementAtTurn_4 : decode prog_10_method_5_code 4 = .ok (.iload_n 1, 1) := by decide +kernel
theorem dS_elementAtTurn_5 : decode prog_10_method_5_code 5 = .ok (.aload_n 0, 1) := by decide +kernel
theorem dS_elementAtTurn_6 : decode prog_10_method_5_code 6 = .ok (.getfield 24, 3) := by decide +kernel
theorem dS_elementAtTurn_9 : decode prog_10_method_5_code 9 = .ok (.if_icmp .ge 17, 3) := by decide +kernel
theorem dS_elementAtTurn_12 : decode prog_10_method_5_code 12 = .ok (.aload_n 0, 1) := by decide +kernel
theorem dS_elementAtTurn_13 : decode prog_10_method_5_code 13 = .ok (.getfield 15, 3) := by decide +kernel
theorem dS_elementAtTurn_16 : decode prog_10_method_5_code 16 = .ok (.aload_n 0, 1) := by decide +kernel
theorem dS_elementAtTurn_17 : decode prog_10_method_5_code 17 = .ok (.getfield 18, 3) := by decide +kernel
theorem dS_elementAtTurn_20 : decode prog_10_method_5_code 20 = .ok (.iload_n 1, 1) := by decide +kernel
theorem dS_elementAtTurn_21 : decode prog_10_method_5_code 21 = .ok (.iaload, 1) := by decide +kernel
theorem dS_elementAtTurn_22 : decode prog_10_method_5_code 22 = .ok (.iaload, 1) := by decide +kernel
theorem dS_elementAtTurn_23 : decode prog_10_method_5_code 23 = .ok (.goto 4, 3) := by decide +kernel
theorem dS_elementAtTurn_26 : decode prog_10_method_5_code 26 = .ok (.iconst 0, 1) := by decide +kernel
theorem dS_elementAtTurn_27 : decode prog_10_method_5_code 27 = .ok (.ireturn, 1) := by decide +kernel
theorem dS_gather_0 : decode prog_10_method_6_code 0 = .ok (.aload_n 1, 1) := by decide +kernel
theorem dS_gather_1 : decode prog_10_method_6_code 1 = .ok (.iload_n 2, 1) := by decide +kernel
theorem dS_gather_2 : decode prog_10_method_6_code 2 = .ok (.bipush 6, 2) := by decide +kernel
theorem dS_gather_4 : decode prog_10_method_6_code 4 = .ok (.invokevirtual 48, 3) := by decide +kernel
theorem dS_gather_7 : decode prog_10_method_6_code 7 = .ok (.istore_n 3, 1) := by decide +kernel
theorem dS_gather_8 : decode prog_10_method_6_code 8 = .ok (.aload_n 0, 1) := by decide +kernel
theorem dS_gather_9 : decode prog_10_method_6_code 9 = .ok (.aload_n 1, 1) := by decide +kernel
theorem dS_gather_10 : decode prog_10_method_6_code 10 = .ok (.iload_n 2, 1) := by decide +kernel
theorem dS_gather_11 : decode prog_10_method_6_code 11 = .ok (.invokevirtual 52, 3) := by decide +kernel
theorem dS_gather_14 : decode prog_10_method_6_code 14 = .ok (.sipush 2048, 3) := by decide +kernel
theorem dS_gather_17 : decode prog_10_method_6_code 17 = .ok (.invokestatic 32, 3) := by decide +kernel
theorem dS_gather_20 : decode prog_10_method_6_code 20 = .ok (.putfield 24, 3) := by decide +kernel
theorem dS_gather_23 : decode prog_10_method_6_code 23 = .ok (.iload_n 2, 1) := by decide +kernel
theorem dS_gather_24 : decode prog_10_method_6_code 24 = .ok (.iconst 1, 1) := by decide +kernel
theorem dS_gather_25 : decode prog_10_method_6_code 25 = .ok (.iadd, 1) := by decide +kernel
theorem dS_gather_26 : decode prog_10_method_6_code 26 = .ok (.istore 4, 2) := by decide +kernel
theorem dS_gather_28 : decode prog_10_method_6_code 28 = .ok (.iconst 0, 1) := by decide +kernel
theorem dS_gather_29 : decode prog_10_method_6_code 29 = .ok (.istore 5, 2) := by decide +kernel
theorem dS_gather_31 : decode prog_10_method_6_code 31 = .ok (.iload 5, 2) := by decide +kernel
theorem dS_gather_33 : decode prog_10_method_6_code 33 = .ok (.aload_n 0, 1) := by decide +kernel
theorem dS_gather_34 : decode prog_10_method_6_code 34 = .ok (.getfield 24, 3) := by decide +kernel
theorem dS_gather_37 : decode prog_10_method_6_code 37 = .ok (.if_icmp .ge 47, 3) := by decide +kernel
theorem dS_gather_40 : decode prog_10_method_6_code 40 = .ok (.aload_n 0, 1) := by decide +kernel
theorem dS_gather_41 : decode prog_10_method_6_code 41 = .ok (.getfield 11, 3) := by decide +kernel
theorem dS_gather_44 : decode prog_10_method_6_code 44 = .ok (.iload 5, 2) := by decide +kernel
theorem dS_gather_46 : decode prog_10_method_6_code 46 = .ok (.iload 4, 2) := by decide +kernel
theorem dS_gather_48 : decode prog_10_method_6_code 48 = .ok (.iastore, 1) := by decide +kernel
theorem dS_gather_49 : decode prog_10_method_6_code 49 = .ok (.aload_n 0, 1) := by decide +kernel
theorem dS_gather_50 : decode prog_10_method_6_code 50 = .ok (.getfield 18, 3) := by decide +kernel
theorem dS_gather_53 : decode prog_10_method_6_code 53 = .ok (.iload 5, 2) := by decide +kernel
theorem dS_gather_55 : decode prog_10_method_6_code 55 = .ok (.iload 5, 2) := by decide +kernel
theorem dS_gather_57 : decode prog_10_method_6_code 57 = .ok (.iastore, 1) := by decide +kernel
theorem dS_gather_58 : decode prog_10_method_6_code 58 = .ok (.aload_n 1, 1) := by decide +kernel
theorem dS_gather_59 : decode prog_10_method_6_code 59 = .ok (.iload 4, 2) := by decide +kernel
theorem dS_gather_61 : decode prog_10_method_6_code 61 = .ok (.invokevirtual 42, 3) := by decide +kernel
theorem dS_gather_64 : decode prog_10_method_6_code 64 = .ok (.istore 4, 2) := by decide +kernel
theorem dS_gather_66 : decode prog_10_method_6_code 66 = .ok (.iload_n 3, 1) := by decide +kernel
theorem dS_gather_67 : decode prog_10_method_6_code 67 = .ok (.ifCond .eq 11, 3) := by decide +kernel
theorem dS_gather_70 : decode prog_10_method_6_code 70 = .ok (.aload_n 1, 1) := by decide +kernel
theorem dS_gather_71 : decode prog_10_method_6_code 71 = .ok (.iload 4, 2) := by decide +kernel
theorem dS_gather_73 : decode prog_10_method_6_code 73 = .ok (.invokevirtual 42, 3) := by decide +kernel
theorem dS_gather_76 : decode prog_10_method_6_code 76 = .ok (.istore 4, 2) := by decide +kernel
theorem dS_gather_78 : decode prog_10_method_6_code 78 = .ok (.iinc 5 1, 3) := by decide +kernel
theorem dS_gather_81 : decode prog_10_method_6_code 81 = .ok (.goto (-50), 3) := by decide +kernel
theorem dS_gather_84 : decode prog_10_method_6_code 84 = .ok (.return_, 1) := by decide +kernel
theorem dS_keyAtTurn_0 : decode prog_10_method_4_code 0 = .ok (.iload_n 1, 1) := by decide +kernel
theorem dS_keyAtTurn_1 : decode prog_10_method_4_code 1 = .ok (.ifCond .lt 25, 3) := by decide +kernel
theorem dS_keyAtTurn_4 : decode prog_10_method_4_code 4 = .ok (.iload_n 1, 1) := by decide +kernel
theorem dS_keyAtTurn_5 : decode prog_10_method_4_code 5 = .ok (.aload_n 0, 1) := by decide +kernel
theorem dS_keyAtTurn_6 : decode prog_10_method_4_code 6 = .ok (.getfield 24, 3) := by decide +kernel
theorem dS_keyAtTurn_9 : decode prog_10_method_4_code 9 = .ok (.if_icmp .ge 17, 3) := by decide +kernel
theorem dS_keyAtTurn_12 : decode prog_10_method_4_code 12 = .ok (.aload_n 0, 1) := by decide +kernel
theorem dS_keyAtTurn_13 : decode prog_10_method_4_code 13 = .ok (.getfield 11, 3) := by decide +kernel
theorem dS_keyAtTurn_16 : decode prog_10_method_4_code 16 = .ok (.aload_n 0, 1) := by decide +kernel
theorem dS_keyAtTurn_17 : decode prog_10_method_4_code 17 = .ok (.getfield 18, 3) := by decide +kernel
theorem dS_keyAtTurn_20 : decode prog_10_method_4_code 20 = .ok (.iload_n 1, 1) := by decide +kernel
theorem dS_keyAtTurn_21 : decode prog_10_method_4_code 21 = .ok (.iaload, 1) := by decide +kernel
theorem dS_keyAtTurn_22 : decode prog_10_method_4_code 22 = .ok (.iaload, 1) := by decide +kernel
theorem dS_keyAtTurn_23 : decode prog_10_method_4_code 23 = .ok (.goto 4, 3) := by decide +kernel
theorem dS_keyAtTurn_26 : decode prog_10_method_4_code 26 = .ok (.iconst 0, 1) := by decide +kernel
theorem dS_keyAtTurn_27 : decode prog_10_method_4_code 27 = .ok (.ireturn, 1) := by decide +kernel
theorem dS_merge_0 : decode prog_10_method_7_code 0 = .ok (.iload_n 2, 1) := by decide +kernel
theorem dS_merge_1 : decode prog_10_method_7_code 1 = .ok (.istore 5, 2) := by decide +kernel
theorem dS_merge_3 : decode prog_10_method_7_code 3 = .ok (.iload_n 3, 1) := by decide +kernel
theorem dS_merge_4 : decode prog_10_method_7_code 4 = .ok (.istore 6, 2) := by decide +kernel
theorem dS_merge_6 : decode prog_10_method_7_code 6 = .ok (.iload_n 2, 1) := by decide +kernel
theorem dS_merge_7 : decode prog_10_method_7_code 7 = .ok (.istore 7, 2) := by decide +kernel
theorem dS_merge_9 : decode prog_10_method_7_code 9 = .ok (.iload 7, 2) := by decide +kernel
theorem dS_merge_11 : decode prog_10_method_7_code 11 = .ok (.iload 4, 2) := by decide +kernel
theorem dS_merge_13 : decode prog_10_method_7_code 13 = .ok (.if_icmp .ge 109, 3) := by decide +kernel
theorem dS_merge_16 : decode prog_10_method_7_code 16 = .ok (.iload 5, 2) := by decide +kernel
theorem dS_merge_18 : decode prog_10_method_7_code 18 = .ok (.iload_n 3, 1) := by decide +kernel
theorem dS_merge_19 : decode prog_10_method_7_code 19 = .ok (.if_icmp .ge 31, 3) := by decide +kernel
theorem dS_merge_22 : decode prog_10_method_7_code 22 = .ok (.iload 6, 2) := by decide +kernel
theorem dS_merge_24 : decode prog_10_method_7_code 24 = .ok (.iload 4, 2) := by decide +kernel
theorem dS_merge_26 : decode prog_10_method_7_code 26 = .ok (.if_icmp .ge 28, 3) := by decide +kernel
theorem dS_merge_29 : decode prog_10_method_7_code 29 = .ok (.aload_n 1, 1) := by decide +kernel
theorem dS_merge_30 : decode prog_10_method_7_code 30 = .ok (.aload_n 0, 1) := by decide +kernel
theorem dS_merge_31 : decode prog_10_method_7_code 31 = .ok (.iload 6, 2) := by decide +kernel
theorem dS_merge_33 : decode prog_10_method_7_code 33 = .ok (.invokevirtual 55, 3) := by decide +kernel
theorem dS_merge_36 : decode prog_10_method_7_code 36 = .ok (.aload_n 1, 1) := by decide +kernel
theorem dS_merge_37 : decode prog_10_method_7_code 37 = .ok (.aload_n 0, 1) := by decide +kernel
theorem dS_merge_38 : decode prog_10_method_7_code 38 = .ok (.iload 5, 2) := by decide +kernel
theorem dS_merge_40 : decode prog_10_method_7_code 40 = .ok (.invokevirtual 55, 3) := by decide +kernel
theorem dS_merge_43 : decode prog_10_method_7_code 43 = .ok (.iconst 0, 1) := by decide +kernel
theorem dS_merge_44 : decode prog_10_method_7_code 44 = .ok (.invokestatic 58, 3) := by decide +kernel
theorem dS_merge_47 : decode prog_10_method_7_code 47 = .ok (.ifCond .ge 7, 3) := by decide +kernel
theorem dS_merge_50 : decode prog_10_method_7_code 50 = .ok (.iconst 1, 1) := by decide +kernel
theorem dS_merge_51 : decode prog_10_method_7_code 51 = .ok (.goto 4, 3) := by decide +kernel
theorem dS_merge_54 : decode prog_10_method_7_code 54 = .ok (.iconst 0, 1) := by decide +kernel
theorem dS_merge_55 : decode prog_10_method_7_code 55 = .ok (.istore 8, 2) := by decide +kernel
theorem dS_merge_57 : decode prog_10_method_7_code 57 = .ok (.aload_n 0, 1) := by decide +kernel
theorem dS_merge_58 : decode prog_10_method_7_code 58 = .ok (.getfield 21, 3) := by decide +kernel
theorem dS_merge_61 : decode prog_10_method_7_code 61 = .ok (.iload 7, 2) := by decide +kernel
theorem dS_merge_63 : decode prog_10_method_7_code 63 = .ok (.iload 8, 2) := by decide +kernel
theorem dS_merge_65 : decode prog_10_method_7_code 65 = .ok (.ifCond .eq 13, 3) := by decide +kernel
theorem dS_merge_68 : decode prog_10_method_7_code 68 = .ok (.aload_n 0, 1) := by decide +kernel
theorem dS_merge_69 : decode prog_10_method_7_code 69 = .ok (.getfield 18, 3) := by decide +kernel
theorem dS_merge_72 : decode prog_10_method_7_code 72 = .ok (.iload 6, 2) := by decide +kernel
theorem dS_merge_74 : decode prog_10_method_7_code 74 = .ok (.iaload, 1) := by decide +kernel
theorem dS_merge_75 : decode prog_10_method_7_code 75 = .ok (.goto 10, 3) := by decide +kernel
theorem dS_merge_78 : decode prog_10_method_7_code 78 = .ok (.aload_n 0, 1) := by decide +kernel
theorem dS_merge_79 : decode prog_10_method_7_code 79 = .ok (.getfield 18, 3) := by decide +kernel
theorem dS_merge_82 : decode prog_10_method_7_code 82 = .ok (.iload 5, 2) := by decide +kernel
theorem dS_merge_84 : decode prog_10_method_7_code 84 = .ok (.iaload, 1) := by decide +kernel
theorem dS_merge_85 : decode prog_10_method_7_code 85 = .ok (.iastore, 1) := by decide +kernel
theorem dS_merge_86 : decode prog_10_method_7_code 86 = .ok (.iload 5, 2) := by decide +kernel
theorem dS_merge_88 : decode prog_10_method_7_code 88 = .ok (.iload 8, 2) := by decide +kernel
theorem dS_merge_90 : decode prog_10_method_7_code 90 = .ok (.ifCond .eq 7, 3) := by decide +kernel
theorem dS_merge_93 : decode prog_10_method_7_code 93 = .ok (.iconst 0, 1) := by decide +kernel
theorem dS_merge_94 : decode prog_10_method_7_code 94 = .ok (.goto 4, 3) := by decide +kernel
theorem dS_merge_97 : decode prog_10_method_7_code 97 = .ok (.iconst 1, 1) := by decide +kernel
theorem dS_merge_98 : decode prog_10_method_7_code 98 = .ok (.iadd, 1) := by decide +kernel
theorem dS_merge_99 : decode prog_10_method_7_code 99 = .ok (.istore 5, 2) := by decide +kernel
theorem dS_merge_101 : decode prog_10_method_7_code 101 = .ok (.iload 6, 2) := by decide +kernel
theorem dS_merge_103 : decode prog_10_method_7_code 103 = .ok (.iload 8, 2) := by decide +kernel
theorem dS_merge_105 : decode prog_10_method_7_code 105 = .ok (.ifCond .eq 7, 3) := by decide +kernel
theorem dS_merge_108 : decode prog_10_method_7_code 108 = .ok (.iconst 1, 1) := by decide +kernel
theorem dS_merge_109 : decode prog_10_method_7_code 109 = .ok (.goto 4, 3) := by decide +kernel
theorem dS_merge_112 : decode prog_10_method_7_code 112 = .ok (.iconst 0, 1) := by decide +kernel
theorem dS_merge_113 : decode prog_10_method_7_code 113 = .ok (.iadd, 1) := by decide +kernel
theorem dS_merge_114 : decode prog_10_method_7_code 114 = .ok (.istore 6, 2) := by decide +kernel
theorem dS_merge_116 : decode prog_10_method_7_code 116 = .ok (.iinc 7 1, 3) := by decide +kernel
theorem dS_merge_119 : decode prog_10_method_7_code 119 = .ok (.goto (-110), 3) := by decide +kernel
theorem dS_merge_122 : decode prog_10_method_7_code 122 = .ok (.return_, 1) := by decide +kernel
