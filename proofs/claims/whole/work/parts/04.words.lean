abbrev yb_BS_init : ByteArray := prog_1_method_1_code
abbrev yn_BS_init : MethodName := ⟨"BeanServer", "<init>", "()V"⟩
abbrev yb_SB_init : ByteArray := prog_18_method_1_code
abbrev yn_SB_init : MethodName := ⟨"java/lang/StringBuilder", "<init>", "()V"⟩
abbrev yb_AS_init : ByteArray := prog_13_method_2_code
abbrev yn_AS_init : MethodName := ⟨"java/lang/AbstractStringBuilder", "<init>", "(I)V"⟩
abbrev yb_SU_newBytesFor : ByteArray := prog_20_method_2_code
abbrev yn_SU_newBytesFor : MethodName := ⟨"java/lang/StringUTF16", "newBytesFor", "(I)[B"⟩
abbrev yb_SU_newBytesLength : ByteArray := prog_20_method_3_code
abbrev yn_SU_newBytesLength : MethodName := ⟨"java/lang/StringUTF16", "newBytesLength", "(I)I"⟩
abbrev yb_LG_init : ByteArray := prog_5_method_1_code
abbrev yn_LG_init : MethodName := ⟨"BeanServer$Log", "<init>", "()V"⟩
abbrev yb_BS_write : ByteArray := prog_1_method_2_code
abbrev yn_BS_write : MethodName := ⟨"BeanServer", "write", "(C)Z"⟩
abbrev yb_SB_length : ByteArray := prog_18_method_93_code
abbrev yn_SB_length : MethodName := ⟨"java/lang/StringBuilder", "length", "()I"⟩
abbrev yb_AS_length : ByteArray := prog_13_method_6_code
abbrev yn_AS_length : MethodName := ⟨"java/lang/AbstractStringBuilder", "length", "()I"⟩
abbrev yb_SB_append : ByteArray := prog_18_method_14_code
abbrev yn_SB_append : MethodName := ⟨"java/lang/StringBuilder", "append", "(C)Ljava/lang/StringBuilder;"⟩
abbrev yb_AS_append : ByteArray := prog_13_method_31_code
abbrev yn_AS_append : MethodName := ⟨"java/lang/AbstractStringBuilder", "append", "(C)Ljava/lang/AbstractStringBuilder;"⟩
abbrev yb_AS_ensureCapacityInternal : ByteArray := prog_13_method_9_code
abbrev yn_AS_ensureCapacityInternal : MethodName := ⟨"java/lang/AbstractStringBuilder", "ensureCapacityInternal", "(I)V"⟩
abbrev yb_AS_newCapacity : ByteArray := prog_13_method_10_code
abbrev yn_AS_newCapacity : MethodName := ⟨"java/lang/AbstractStringBuilder", "newCapacity", "(I)I"⟩
abbrev yb_AP_newLength : ByteArray := prog_23_method_27_code
abbrev yn_AP_newLength : MethodName := ⟨"jdk/internal/util/ArraysSupport", "newLength", "(III)I"⟩
abbrev yb_MA_max : ByteArray := prog_16_method_65_code
abbrev yn_MA_max : MethodName := ⟨"java/lang/Math", "max", "(II)I"⟩
abbrev yb_AP_hugeLength : ByteArray := prog_23_method_28_code
abbrev yn_AP_hugeLength : MethodName := ⟨"jdk/internal/util/ArraysSupport", "hugeLength", "(II)I"⟩
abbrev yb_AR_copyOf : ByteArray := prog_22_method_121_code
abbrev yn_AR_copyOf : MethodName := ⟨"java/util/Arrays", "copyOf", "([BI)[B"⟩
abbrev yb_MA_min : ByteArray := prog_16_method_69_code
abbrev yn_MA_min : MethodName := ⟨"java/lang/Math", "min", "(II)I"⟩
abbrev yb_AS_isLatin1 : ByteArray := prog_13_method_68_code
abbrev yn_AS_isLatin1 : MethodName := ⟨"java/lang/AbstractStringBuilder", "isLatin1", "()Z"⟩
abbrev yb_SL_canEncode1 : ByteArray := prog_19_method_3_code
abbrev yn_SL_canEncode1 : MethodName := ⟨"java/lang/StringLatin1", "canEncode", "(C)Z"⟩
abbrev yb_AS_inflate : ByteArray := prog_13_method_11_code
abbrev yn_AS_inflate : MethodName := ⟨"java/lang/AbstractStringBuilder", "inflate", "()V"⟩
abbrev yb_SL_inflate : ByteArray := prog_19_method_50_code
abbrev yn_SL_inflate : MethodName := ⟨"java/lang/StringLatin1", "inflate", "([BI[BII)V"⟩
abbrev yb_SU_inflate : ByteArray := prog_20_method_86_code
abbrev yn_SU_inflate : MethodName := ⟨"java/lang/StringUTF16", "inflate", "([BI[BII)V"⟩
abbrev yb_SU_checkBoundsOffCount : ByteArray := prog_20_method_94_code
abbrev yn_SU_checkBoundsOffCount : MethodName := ⟨"java/lang/StringUTF16", "checkBoundsOffCount", "(II[B)V"⟩
abbrev yb_SU_length : ByteArray := prog_20_method_6_code
abbrev yn_SU_length : MethodName := ⟨"java/lang/StringUTF16", "length", "([B)I"⟩
abbrev yb_ST_checkBoundsOffCount : ByteArray := prog_17_method_157_code
abbrev yn_ST_checkBoundsOffCount : MethodName := ⟨"java/lang/String", "checkBoundsOffCount", "(III)I"⟩
abbrev yb_PR_checkFromIndexSize : ByteArray := prog_24_method_13_code
abbrev yn_PR_checkFromIndexSize : MethodName := ⟨"jdk/internal/util/Preconditions", "checkFromIndexSize", "(IIILjava/util/function/BiFunction;)I"⟩
abbrev yb_SU_putChar : ByteArray := prog_20_method_4_code
abbrev yn_SU_putChar : MethodName := ⟨"java/lang/StringUTF16", "putChar", "([BII)V"⟩
abbrev yb_SU_putCharSB : ByteArray := prog_20_method_71_code
abbrev yn_SU_putCharSB : MethodName := ⟨"java/lang/StringUTF16", "putCharSB", "([BII)V"⟩
abbrev yb_SU_checkIndex : ByteArray := prog_20_method_91_code
abbrev yn_SU_checkIndex : MethodName := ⟨"java/lang/StringUTF16", "checkIndex", "(I[B)V"⟩
abbrev yb_ST_checkIndex : ByteArray := prog_17_method_155_code
abbrev yn_ST_checkIndex : MethodName := ⟨"java/lang/String", "checkIndex", "(II)V"⟩
abbrev yb_PR_checkIndex : ByteArray := prog_24_method_11_code
abbrev yn_PR_checkIndex : MethodName := ⟨"jdk/internal/util/Preconditions", "checkIndex", "(IILjava/util/function/BiFunction;)I"⟩
abbrev yb_BS_register : ByteArray := prog_1_method_3_code
abbrev yn_BS_register : MethodName := ⟨"BeanServer", "register", "()I"⟩
abbrev yb_BS_takenName : ByteArray := prog_1_method_22_code
abbrev yn_BS_takenName : MethodName := ⟨"BeanServer", "takenName", "()LBeanServer$Pattern;"⟩
abbrev yb_BS_taken : ByteArray := prog_1_method_21_code
abbrev yn_BS_taken : MethodName := ⟨"BeanServer", "taken", "()Ljava/lang/String;"⟩
abbrev yb_SB_toString : ByteArray := prog_18_method_42_code
abbrev yn_SB_toString : MethodName := ⟨"java/lang/StringBuilder", "toString", "()Ljava/lang/String;"⟩
abbrev yb_ST_init1 : ByteArray := prog_17_method_53_code
abbrev yn_ST_init1 : MethodName := ⟨"java/lang/String", "<init>", "(Ljava/lang/StringBuilder;)V"⟩
abbrev yb_ST_init2 : ByteArray := prog_17_method_150_code
abbrev yn_ST_init2 : MethodName := ⟨"java/lang/String", "<init>", "(Ljava/lang/AbstractStringBuilder;Ljava/lang/Void;)V"⟩
abbrev yb_AS_getValue : ByteArray := prog_13_method_64_code
abbrev yn_AS_getValue : MethodName := ⟨"java/lang/AbstractStringBuilder", "getValue", "()[B"⟩
abbrev yb_AR_copyOfRange : ByteArray := prog_22_method_132_code
abbrev yn_AR_copyOfRange : MethodName := ⟨"java/util/Arrays", "copyOfRange", "([BII)[B"⟩
abbrev yb_AR_copyOfRangeByte : ByteArray := prog_22_method_133_code
abbrev yn_AR_copyOfRangeByte : MethodName := ⟨"java/util/Arrays", "copyOfRangeByte", "([BII)[B"⟩
abbrev yb_AR_checkLength : ByteArray := prog_22_method_131_code
abbrev yn_AR_checkLength : MethodName := ⟨"java/util/Arrays", "checkLength", "(II)V"⟩
abbrev yb_SU_compress1 : ByteArray := prog_20_method_17_code
abbrev yn_SU_compress1 : MethodName := ⟨"java/lang/StringUTF16", "compress", "([BII)[B"⟩
abbrev yb_SU_compress2 : ByteArray := prog_20_method_22_code
abbrev yn_SU_compress2 : MethodName := ⟨"java/lang/StringUTF16", "compress", "([BI[BII)I"⟩
abbrev yb_SU_getChar : ByteArray := prog_20_method_5_code
abbrev yn_SU_getChar : MethodName := ⟨"java/lang/StringUTF16", "getChar", "([BI)C"⟩
abbrev yb_SU_coderFromArrayLen : ByteArray := prog_20_method_15_code
abbrev yn_SU_coderFromArrayLen : MethodName := ⟨"java/lang/StringUTF16", "coderFromArrayLen", "([BI)B"⟩
abbrev yb_SB_setLength : ByteArray := prog_18_method_89_code
abbrev yn_SB_setLength : MethodName := ⟨"java/lang/StringBuilder", "setLength", "(I)V"⟩
abbrev yb_AS_setLength : ByteArray := prog_13_method_13_code
abbrev yn_AS_setLength : MethodName := ⟨"java/lang/AbstractStringBuilder", "setLength", "(I)V"⟩
abbrev yb_SL_fillNull : ByteArray := prog_19_method_48_code
abbrev yn_SL_fillNull : MethodName := ⟨"java/lang/StringLatin1", "fillNull", "([BII)V"⟩
abbrev yb_AR_fill : ByteArray := prog_22_method_110_code
abbrev yn_AR_fill : MethodName := ⟨"java/util/Arrays", "fill", "([BIIB)V"⟩
abbrev yb_AR_rangeCheck : ByteArray := prog_22_method_30_code
abbrev yn_AR_rangeCheck : MethodName := ⟨"java/util/Arrays", "rangeCheck", "(III)V"⟩
abbrev yb_SU_fillNull : ByteArray := prog_20_method_70_code
abbrev yn_SU_fillNull : MethodName := ⟨"java/lang/StringUTF16", "fillNull", "([BII)V"⟩
abbrev yb_BS_patternIn : ByteArray := prog_1_method_23_code
abbrev yn_BS_patternIn : MethodName := ⟨"BeanServer", "patternIn", "(Ljava/lang/String;)LBeanServer$Pattern;"⟩
abbrev yb_PT_init : ByteArray := prog_7_method_1_code
abbrev yn_PT_init : MethodName := ⟨"BeanServer$Pattern", "<init>", "(Ljava/lang/String;)V"⟩
abbrev yb_PT_parse : ByteArray := prog_7_method_2_code
abbrev yn_PT_parse : MethodName := ⟨"BeanServer$Pattern", "parse", "()Z"⟩
abbrev yb_PT_rowEnd : ByteArray := prog_7_method_5_code
abbrev yn_PT_rowEnd : MethodName := ⟨"BeanServer$Pattern", "rowEnd", "(I)I"⟩
abbrev yb_ST_length : ByteArray := prog_17_method_54_code
abbrev yn_ST_length : MethodName := ⟨"java/lang/String", "length", "()I"⟩
abbrev yb_ST_coder : ByteArray := prog_17_method_152_code
abbrev yn_ST_coder : MethodName := ⟨"java/lang/String", "coder", "()B"⟩
abbrev yb_ST_charAt : ByteArray := prog_17_method_56_code
abbrev yn_ST_charAt : MethodName := ⟨"java/lang/String", "charAt", "(I)C"⟩
abbrev yb_ST_isLatin1 : ByteArray := prog_17_method_154_code
abbrev yn_ST_isLatin1 : MethodName := ⟨"java/lang/String", "isLatin1", "()Z"⟩
abbrev yb_SL_charAt : ByteArray := prog_19_method_2_code
abbrev yn_SL_charAt : MethodName := ⟨"java/lang/StringLatin1", "charAt", "([BI)C"⟩
abbrev yb_SU_charAt : ByteArray := prog_20_method_83_code
abbrev yn_SU_charAt : MethodName := ⟨"java/lang/StringUTF16", "charAt", "([BI)C"⟩
abbrev yb_PT_isRowCharacter : ByteArray := prog_7_method_6_code
abbrev yn_PT_isRowCharacter : MethodName := ⟨"BeanServer$Pattern", "isRowCharacter", "(C)Z"⟩
abbrev yb_PT_parseList : ByteArray := prog_7_method_7_code
abbrev yn_PT_parseList : MethodName := ⟨"BeanServer$Pattern", "parseList", "(I)Z"⟩
abbrev yb_PT_parseProperty : ByteArray := prog_7_method_8_code
abbrev yn_PT_parseProperty : MethodName := ⟨"BeanServer$Pattern", "parseProperty", "(I)I"⟩
abbrev yb_PT_ordered : ByteArray := prog_7_method_9_code
abbrev yn_PT_ordered : MethodName := ⟨"BeanServer$Pattern", "ordered", "()Ljava/lang/String;"⟩
abbrev yb_PT_copy : ByteArray := prog_7_method_10_code
abbrev yn_PT_copy : MethodName := ⟨"BeanServer$Pattern", "copy", "(IILjava/lang/StringBuilder;)V"⟩
abbrev yb_PT_separate : ByteArray := prog_7_method_11_code
abbrev yn_PT_separate : MethodName := ⟨"BeanServer$Pattern", "separate", "(ILjava/lang/StringBuilder;)V"⟩
abbrev yb_PT_isName : ByteArray := prog_7_method_3_code
abbrev yn_PT_isName : MethodName := ⟨"BeanServer$Pattern", "isName", "()Z"⟩
abbrev yb_ST_indexOf1 : ByteArray := prog_17_method_79_code
abbrev yn_ST_indexOf1 : MethodName := ⟨"java/lang/String", "indexOf", "(I)I"⟩
abbrev yb_ST_indexOf2 : ByteArray := prog_17_method_80_code
abbrev yn_ST_indexOf2 : MethodName := ⟨"java/lang/String", "indexOf", "(II)I"⟩
abbrev yb_SL_indexOf : ByteArray := prog_19_method_22_code
abbrev yn_SL_indexOf : MethodName := ⟨"java/lang/StringLatin1", "indexOf", "([BIII)I"⟩
abbrev yb_SL_canEncode2 : ByteArray := prog_19_method_4_code
abbrev yn_SL_canEncode2 : MethodName := ⟨"java/lang/StringLatin1", "canEncode", "(I)Z"⟩
abbrev yb_SL_indexOfChar : ByteArray := prog_19_method_23_code
abbrev yn_SL_indexOfChar : MethodName := ⟨"java/lang/StringLatin1", "indexOfChar", "([BIII)I"⟩
abbrev yb_SU_indexOf : ByteArray := prog_20_method_40_code
abbrev yn_SU_indexOf : MethodName := ⟨"java/lang/StringUTF16", "indexOf", "([BIII)I"⟩
abbrev yb_SU_indexOfChar : ByteArray := prog_20_method_47_code
abbrev yn_SU_indexOfChar : MethodName := ⟨"java/lang/StringUTF16", "indexOfChar", "([BIII)I"⟩
abbrev yb_SU_checkBoundsBeginEnd : ByteArray := prog_20_method_93_code
abbrev yn_SU_checkBoundsBeginEnd : MethodName := ⟨"java/lang/StringUTF16", "checkBoundsBeginEnd", "(II[B)V"⟩
abbrev yb_ST_checkBoundsBeginEnd : ByteArray := prog_17_method_158_code
abbrev yn_ST_checkBoundsBeginEnd : MethodName := ⟨"java/lang/String", "checkBoundsBeginEnd", "(III)V"⟩
abbrev yb_PR_checkFromToIndex : ByteArray := prog_24_method_12_code
abbrev yn_PR_checkFromToIndex : MethodName := ⟨"jdk/internal/util/Preconditions", "checkFromToIndex", "(IIILjava/util/function/BiFunction;)I"⟩
abbrev yb_SU_indexOfCharUnsafe : ByteArray := prog_20_method_48_code
abbrev yn_SU_indexOfCharUnsafe : MethodName := ⟨"java/lang/StringUTF16", "indexOfCharUnsafe", "([BIII)I"⟩
abbrev yb_SU_indexOfSupplementary : ByteArray := prog_20_method_49_code
abbrev yn_SU_indexOfSupplementary : MethodName := ⟨"java/lang/StringUTF16", "indexOfSupplementary", "([BIII)I"⟩
abbrev yb_CH_isValidCodePoint : ByteArray := prog_14_method_11_code
abbrev yn_CH_isValidCodePoint : MethodName := ⟨"java/lang/Character", "isValidCodePoint", "(I)Z"⟩
abbrev yb_CH_highSurrogate : ByteArray := prog_14_method_28_code
abbrev yn_CH_highSurrogate : MethodName := ⟨"java/lang/Character", "highSurrogate", "(I)C"⟩
abbrev yb_CH_lowSurrogate : ByteArray := prog_14_method_29_code
abbrev yn_CH_lowSurrogate : MethodName := ⟨"java/lang/Character", "lowSurrogate", "(I)C"⟩
abbrev yb_BS_beanNamed : ByteArray := prog_1_method_29_code
abbrev yn_BS_beanNamed : MethodName := ⟨"BeanServer", "beanNamed", "(Ljava/lang/String;)I"⟩
abbrev yb_ST_equals : ByteArray := prog_17_method_66_code
abbrev yn_ST_equals : MethodName := ⟨"java/lang/String", "equals", "(Ljava/lang/Object;)Z"⟩
abbrev yb_SL_equals : ByteArray := prog_19_method_13_code
abbrev yn_SL_equals : MethodName := ⟨"java/lang/StringLatin1", "equals", "([B[B)Z"⟩
abbrev yb_BS_freeBean : ByteArray := prog_1_method_30_code
abbrev yn_BS_freeBean : MethodName := ⟨"BeanServer", "freeBean", "()I"⟩
abbrev yb_BE_init : ByteArray := prog_2_method_1_code
abbrev yn_BE_init : MethodName := ⟨"BeanServer$Bean", "<init>", "(LBeanServer$Pattern;)V"⟩
abbrev yb_LG_give : ByteArray := prog_5_method_2_code
abbrev yn_LG_give : MethodName := ⟨"BeanServer$Log", "give", "(III)V"⟩
abbrev yb_BS_unregister : ByteArray := prog_1_method_4_code
abbrev yn_BS_unregister : MethodName := ⟨"BeanServer", "unregister", "()I"⟩
abbrev yb_BS_find : ByteArray := prog_1_method_5_code
abbrev yn_BS_find : MethodName := ⟨"BeanServer", "find", "()I"⟩
abbrev yb_BS_set : ByteArray := prog_1_method_6_code
abbrev yn_BS_set : MethodName := ⟨"BeanServer", "set", "(III)Z"⟩
abbrev yb_BS_beanAt : ByteArray := prog_1_method_26_code
abbrev yn_BS_beanAt : MethodName := ⟨"BeanServer", "beanAt", "(I)LBeanServer$Bean;"⟩
abbrev yb_BS_isAttribute : ByteArray := prog_1_method_24_code
abbrev yn_BS_isAttribute : MethodName := ⟨"BeanServer", "isAttribute", "(I)Z"⟩
abbrev yb_BS_unset : ByteArray := prog_1_method_7_code
abbrev yn_BS_unset : MethodName := ⟨"BeanServer", "unset", "(II)Z"⟩
abbrev yb_BS_get : ByteArray := prog_1_method_8_code
abbrev yn_BS_get : MethodName := ⟨"BeanServer", "get", "(II)I"⟩
abbrev yb_BS_define : ByteArray := prog_1_method_9_code
abbrev yn_BS_define : MethodName := ⟨"BeanServer", "define", "()I"⟩
abbrev yb_BS_nestings : ByteArray := prog_1_method_25_code
abbrev yn_BS_nestings : MethodName := ⟨"BeanServer", "nestings", "(Ljava/lang/String;)I"⟩
abbrev yb_QR_init : ByteArray := prog_10_method_1_code
abbrev yn_QR_init : MethodName := ⟨"BeanServer$QueryReader", "<init>", "(Ljava/lang/String;LBeanServer$Bean;)V"⟩
abbrev yb_ST_isEmpty : ByteArray := prog_17_method_55_code
abbrev yn_ST_isEmpty : MethodName := ⟨"java/lang/String", "isEmpty", "()Z"⟩
abbrev yb_QR_any : ByteArray := prog_10_method_2_code
abbrev yn_QR_any : MethodName := ⟨"BeanServer$QueryReader", "any", "()I"⟩
abbrev yb_QR_all : ByteArray := prog_10_method_3_code
abbrev yn_QR_all : MethodName := ⟨"BeanServer$QueryReader", "all", "()I"⟩
abbrev yb_QR_one : ByteArray := prog_10_method_4_code
abbrev yn_QR_one : MethodName := ⟨"BeanServer$QueryReader", "one", "()I"⟩
abbrev yb_QR_step : ByteArray := prog_10_method_10_code
abbrev yn_QR_step : MethodName := ⟨"BeanServer$QueryReader", "step", "()V"⟩
abbrev yb_QR_sum : ByteArray := prog_10_method_7_code
abbrev yn_QR_sum : MethodName := ⟨"BeanServer$QueryReader", "sum", "()I"⟩
abbrev yb_QR_product : ByteArray := prog_10_method_8_code
abbrev yn_QR_product : MethodName := ⟨"BeanServer$QueryReader", "product", "()I"⟩
abbrev yb_QR_unit : ByteArray := prog_10_method_9_code
abbrev yn_QR_unit : MethodName := ⟨"BeanServer$QueryReader", "unit", "()I"⟩
abbrev yb_QR_isRelation : ByteArray := prog_10_method_5_code
abbrev yn_QR_isRelation : MethodName := ⟨"BeanServer$QueryReader", "isRelation", "(C)Z"⟩
abbrev yb_QR_compared : ByteArray := prog_10_method_6_code
abbrev yn_QR_compared : MethodName := ⟨"BeanServer$QueryReader", "compared", "(ICI)I"⟩
abbrev yb_QF_init : ByteArray := prog_9_method_1_code
abbrev yn_QF_init : MethodName := ⟨"BeanServer$QueryForm", "<init>", "(Ljava/lang/String;)V"⟩
abbrev yb_QF_written : ByteArray := prog_9_method_2_code
abbrev yn_QF_written : MethodName := ⟨"BeanServer$QueryForm", "written", "()Ljava/lang/String;"⟩
abbrev yb_QF_openParenthesis : ByteArray := prog_9_method_3_code
abbrev yn_QF_openParenthesis : MethodName := ⟨"BeanServer$QueryForm", "openParenthesis", "()V"⟩
abbrev yb_QF_closeParenthesis : ByteArray := prog_9_method_4_code
abbrev yn_QF_closeParenthesis : MethodName := ⟨"BeanServer$QueryForm", "closeParenthesis", "(C)V"⟩
abbrev yb_QF_lastBefore : ByteArray := prog_9_method_7_code
abbrev yn_QF_lastBefore : MethodName := ⟨"BeanServer$QueryForm", "lastBefore", "(I)C"⟩
abbrev yb_SB_charAt : ByteArray := prog_18_method_88_code
abbrev yn_SB_charAt : MethodName := ⟨"java/lang/StringBuilder", "charAt", "(I)C"⟩
abbrev yb_AS_charAt : ByteArray := prog_13_method_14_code
abbrev yn_AS_charAt : MethodName := ⟨"java/lang/AbstractStringBuilder", "charAt", "(I)C"⟩
abbrev yb_QF_jointFrom : ByteArray := prog_9_method_8_code
abbrev yn_QF_jointFrom : MethodName := ⟨"BeanServer$QueryForm", "jointFrom", "(I)C"⟩
abbrev yb_QF_isNeeded : ByteArray := prog_9_method_5_code
abbrev yn_QF_isNeeded : MethodName := ⟨"BeanServer$QueryForm", "isNeeded", "(CCC)Z"⟩
abbrev yb_SB_deleteCharAt : ByteArray := prog_18_method_21_code
abbrev yn_SB_deleteCharAt : MethodName := ⟨"java/lang/StringBuilder", "deleteCharAt", "(I)Ljava/lang/StringBuilder;"⟩
abbrev yb_AS_deleteCharAt : ByteArray := prog_13_method_38_code
abbrev yn_AS_deleteCharAt : MethodName := ⟨"java/lang/AbstractStringBuilder", "deleteCharAt", "(I)Ljava/lang/AbstractStringBuilder;"⟩
abbrev yb_AS_shift : ByteArray := prog_13_method_43_code
abbrev yn_AS_shift : MethodName := ⟨"java/lang/AbstractStringBuilder", "shift", "(II)V"⟩
abbrev yb_QF_isDigit : ByteArray := prog_9_method_6_code
abbrev yn_QF_isDigit : MethodName := ⟨"BeanServer$QueryForm", "isDigit", "(C)Z"⟩
abbrev yb_QU_init : ByteArray := prog_8_method_1_code
abbrev yn_QU_init : MethodName := ⟨"BeanServer$Query", "<init>", "(Ljava/lang/String;)V"⟩
abbrev yb_BS_check : ByteArray := prog_1_method_10_code
abbrev yn_BS_check : MethodName := ⟨"BeanServer", "check", "(II)I"⟩
abbrev yb_BS_queryAt : ByteArray := prog_1_method_27_code
abbrev yn_BS_queryAt : MethodName := ⟨"BeanServer", "queryAt", "(I)LBeanServer$Query;"⟩
abbrev yb_BS_select : ByteArray := prog_1_method_11_code
abbrev yn_BS_select : MethodName := ⟨"BeanServer", "select", "(I)I"⟩
abbrev yb_PT_fits : ByteArray := prog_7_method_4_code
abbrev yn_PT_fits : MethodName := ⟨"BeanServer$Pattern", "fits", "(LBeanServer$Pattern;)Z"⟩
abbrev yb_PT_standsFor : ByteArray := prog_7_method_12_code
abbrev yn_PT_standsFor : MethodName := ⟨"BeanServer$Pattern", "standsFor", "(IILjava/lang/String;II)Z"⟩
abbrev yb_PT_reachedBehind : ByteArray := prog_7_method_13_code
abbrev yn_PT_reachedBehind : MethodName := ⟨"BeanServer$Pattern", "reachedBehind", "(CILjava/lang/String;II)I"⟩
abbrev yb_BS_selected : ByteArray := prog_1_method_12_code
abbrev yn_BS_selected : MethodName := ⟨"BeanServer", "selected", "(I)I"⟩
abbrev yb_BS_form : ByteArray := prog_1_method_13_code
abbrev yn_BS_form : MethodName := ⟨"BeanServer", "form", "(III)I"⟩
abbrev yb_BS_shownForm : ByteArray := prog_1_method_32_code
abbrev yn_BS_shownForm : MethodName := ⟨"BeanServer", "shownForm", "(II)Ljava/lang/String;"⟩
abbrev yb_BS_counter : ByteArray := prog_1_method_14_code
abbrev yn_BS_counter : MethodName := ⟨"BeanServer", "counter", "(IIII)I"⟩
abbrev yb_BS_numberForMonitorOf : ByteArray := prog_1_method_31_code
abbrev yn_BS_numberForMonitorOf : MethodName := ⟨"BeanServer", "numberForMonitorOf", "(I)I"⟩
abbrev yb_CT_init : ByteArray := prog_3_method_1_code
abbrev yn_CT_init : MethodName := ⟨"BeanServer$Counter", "<init>", "(Ljava/lang/String;III)V"⟩
abbrev yb_MN_init : ByteArray := prog_6_method_1_code
abbrev yn_MN_init : MethodName := ⟨"BeanServer$Monitor", "<init>", "(Ljava/lang/String;I)V"⟩
abbrev yb_BS_gauge : ByteArray := prog_1_method_15_code
abbrev yn_BS_gauge : MethodName := ⟨"BeanServer", "gauge", "(IIII)I"⟩
abbrev yb_GA_init : ByteArray := prog_4_method_1_code
abbrev yn_GA_init : MethodName := ⟨"BeanServer$Gauge", "<init>", "(Ljava/lang/String;III)V"⟩
abbrev yb_BS_cancel : ByteArray := prog_1_method_16_code
abbrev yn_BS_cancel : MethodName := ⟨"BeanServer", "cancel", "(I)Z"⟩
abbrev yb_BS_monitorAt : ByteArray := prog_1_method_28_code
abbrev yn_BS_monitorAt : MethodName := ⟨"BeanServer", "monitorAt", "(I)LBeanServer$Monitor;"⟩
abbrev yb_BS_observe : ByteArray := prog_1_method_17_code
abbrev yn_BS_observe : MethodName := ⟨"BeanServer", "observe", "()I"⟩
abbrev yb_BS_letLook : ByteArray := prog_1_method_33_code
abbrev yn_BS_letLook : MethodName := ⟨"BeanServer", "letLook", "(LBeanServer$Monitor;I)V"⟩
abbrev yb_CT_kindFor : ByteArray := prog_3_method_2_code
abbrev yn_CT_kindFor : MethodName := ⟨"BeanServer$Counter", "kindFor", "(I)I"⟩
abbrev yb_CT_firstMarkAbove : ByteArray := prog_3_method_3_code
abbrev yn_CT_firstMarkAbove : MethodName := ⟨"BeanServer$Counter", "firstMarkAbove", "(I)J"⟩
abbrev yb_GA_kindFor : ByteArray := prog_4_method_2_code
abbrev yn_GA_kindFor : MethodName := ⟨"BeanServer$Gauge", "kindFor", "(I)I"⟩
abbrev yb_BS_mark : ByteArray := prog_1_method_18_code
abbrev yn_BS_mark : MethodName := ⟨"BeanServer", "mark", "(I)J"⟩
abbrev yb_CT_level : ByteArray := prog_3_method_4_code
abbrev yn_CT_level : MethodName := ⟨"BeanServer$Counter", "level", "()J"⟩
abbrev yb_GA_level : ByteArray := prog_4_method_3_code
abbrev yn_GA_level : MethodName := ⟨"BeanServer$Gauge", "level", "()J"⟩
abbrev yb_BS_listen : ByteArray := prog_1_method_19_code
abbrev yn_BS_listen : MethodName := ⟨"BeanServer", "listen", "(I)I"⟩
abbrev yb_BS_notice : ByteArray := prog_1_method_20_code
abbrev yn_BS_notice : MethodName := ⟨"BeanServer", "notice", "(II)I"⟩
abbrev yb_LG_told : ByteArray := prog_5_method_3_code
abbrev yn_LG_told : MethodName := ⟨"BeanServer$Log", "told", "(II)I"⟩
abbrev yb_MA_floorMod : ByteArray := prog_16_method_50_code
abbrev yn_MA_floorMod : MethodName := ⟨"java/lang/Math", "floorMod", "(II)I"⟩
abbrev yb_MO_init : ByteArray := prog_12_method_1_code
abbrev yn_MO_init : MethodName := ⟨"BeanServerModel", "<init>", "()V"⟩
abbrev yb_MO_write : ByteArray := prog_12_method_7_code
abbrev yn_MO_write : MethodName := ⟨"BeanServerModel", "write", "(C)Z"⟩
abbrev yb_MO_put : ByteArray := prog_12_method_3_code
abbrev yn_MO_put : MethodName := ⟨"BeanServerModel", "put", "(IC)V"⟩
abbrev yb_MO_register : ByteArray := prog_12_method_24_code
abbrev yn_MO_register : MethodName := ⟨"BeanServerModel", "register", "()I"⟩
abbrev yb_MO_takeName : ByteArray := prog_12_method_16_code
abbrev yn_MO_takeName : MethodName := ⟨"BeanServerModel", "takeName", "()Z"⟩
abbrev yb_MO_take : ByteArray := prog_12_method_6_code
abbrev yn_MO_take : MethodName := ⟨"BeanServerModel", "take", "()V"⟩
abbrev yb_MO_copy : ByteArray := prog_12_method_4_code
abbrev yn_MO_copy : MethodName := ⟨"BeanServerModel", "copy", "(II)V"⟩
abbrev yb_MO_get1 : ByteArray := prog_12_method_2_code
abbrev yn_MO_get1 : MethodName := ⟨"BeanServerModel", "get1", "(II)C"⟩
abbrev yb_MO_reads : ByteArray := prog_12_method_13_code
abbrev yn_MO_reads : MethodName := ⟨"BeanServerModel", "reads", "(IZ)Z"⟩
abbrev yb_MO_colon : ByteArray := prog_12_method_12_code
abbrev yn_MO_colon : MethodName := ⟨"BeanServerModel", "colon", "(I)I"⟩
abbrev yb_MO_allowed : ByteArray := prog_12_method_10_code
abbrev yn_MO_allowed : MethodName := ⟨"BeanServerModel", "allowed", "(CZ)Z"⟩
abbrev yb_MO_isSmall : ByteArray := prog_12_method_8_code
abbrev yn_MO_isSmall : MethodName := ⟨"BeanServerModel", "isSmall", "(C)Z"⟩
abbrev yb_MO_isDigit : ByteArray := prog_12_method_9_code
abbrev yn_MO_isDigit : MethodName := ⟨"BeanServerModel", "isDigit", "(C)Z"⟩
abbrev yb_MO_list : ByteArray := prog_12_method_11_code
abbrev yn_MO_list : MethodName := ⟨"BeanServerModel", "list", "(IIZ)Z"⟩
abbrev yb_MO_order : ByteArray := prog_12_method_15_code
abbrev yn_MO_order : MethodName := ⟨"BeanServerModel", "order", "()V"⟩
abbrev yb_MO_copyProperty : ByteArray := prog_12_method_14_code
abbrev yn_MO_copyProperty : MethodName := ⟨"BeanServerModel", "copyProperty", "(III)V"⟩
abbrev yb_MO_beanWith : ByteArray := prog_12_method_17_code
abbrev yn_MO_beanWith : MethodName := ⟨"BeanServerModel", "beanWith", "(I)I"⟩
abbrev yb_MO_same : ByteArray := prog_12_method_5_code
abbrev yn_MO_same : MethodName := ⟨"BeanServerModel", "same", "(II)Z"⟩
abbrev yb_MO_give : ByteArray := prog_12_method_23_code
abbrev yn_MO_give : MethodName := ⟨"BeanServerModel", "give", "(III)V"⟩
abbrev yb_MO_unregister : ByteArray := prog_12_method_25_code
abbrev yn_MO_unregister : MethodName := ⟨"BeanServerModel", "unregister", "()I"⟩
abbrev yb_MO_find : ByteArray := prog_12_method_26_code
abbrev yn_MO_find : MethodName := ⟨"BeanServerModel", "find", "()I"⟩
abbrev yb_MO_set : ByteArray := prog_12_method_29_code
abbrev yn_MO_set : MethodName := ⟨"BeanServerModel", "set", "(III)Z"⟩
abbrev yb_MO_isSlot : ByteArray := prog_12_method_28_code
abbrev yn_MO_isSlot : MethodName := ⟨"BeanServerModel", "isSlot", "(II)Z"⟩
abbrev yb_MO_isBean : ByteArray := prog_12_method_27_code
abbrev yn_MO_isBean : MethodName := ⟨"BeanServerModel", "isBean", "(I)Z"⟩
abbrev yb_MO_unset : ByteArray := prog_12_method_30_code
abbrev yn_MO_unset : MethodName := ⟨"BeanServerModel", "unset", "(II)Z"⟩
abbrev yb_MO_get : ByteArray := prog_12_method_31_code
abbrev yn_MO_get : MethodName := ⟨"BeanServerModel", "get", "(II)I"⟩
abbrev yb_MO_define : ByteArray := prog_12_method_44_code
abbrev yn_MO_define : MethodName := ⟨"BeanServerModel", "define", "()I"⟩
abbrev yb_MO_isQuery : ByteArray := prog_12_method_37_code
abbrev yn_MO_isQuery : MethodName := ⟨"BeanServerModel", "isQuery", "()Z"⟩
abbrev yb_MO_comparisonEnd : ByteArray := prog_12_method_36_code
abbrev yn_MO_comparisonEnd : MethodName := ⟨"BeanServerModel", "comparisonEnd", "(I)I"⟩
abbrev yb_MO_valueEnd : ByteArray := prog_12_method_35_code
abbrev yn_MO_valueEnd : MethodName := ⟨"BeanServerModel", "valueEnd", "(I)I"⟩
abbrev yb_MO_unit : ByteArray := prog_12_method_32_code
abbrev yn_MO_unit : MethodName := ⟨"BeanServerModel", "unit", "(I)I"⟩
abbrev yb_MO_isOperator : ByteArray := prog_12_method_33_code
abbrev yn_MO_isOperator : MethodName := ⟨"BeanServerModel", "isOperator", "(C)Z"⟩
abbrev yb_MO_isRelation : ByteArray := prog_12_method_34_code
abbrev yn_MO_isRelation : MethodName := ⟨"BeanServerModel", "isRelation", "(C)Z"⟩
abbrev yb_MO_shorten : ByteArray := prog_12_method_42_code
abbrev yn_MO_shorten : MethodName := ⟨"BeanServerModel", "shorten", "()V"⟩
abbrev yb_MO_last : ByteArray := prog_12_method_43_code
abbrev yn_MO_last : MethodName := ⟨"BeanServerModel", "last", "()C"⟩
abbrev yb_MO_needed : ByteArray := prog_12_method_41_code
abbrev yn_MO_needed : MethodName := ⟨"BeanServerModel", "needed", "(I)Z"⟩
abbrev yb_MO_partner : ByteArray := prog_12_method_38_code
abbrev yn_MO_partner : MethodName := ⟨"BeanServerModel", "partner", "(I)I"⟩
abbrev yb_MO_contains : ByteArray := prog_12_method_39_code
abbrev yn_MO_contains : MethodName := ⟨"BeanServerModel", "contains", "(IIC)Z"⟩
abbrev yb_MO_amongSeveral : ByteArray := prog_12_method_40_code
abbrev yn_MO_amongSeveral : MethodName := ⟨"BeanServerModel", "amongSeveral", "(II)Z"⟩
abbrev yb_MO_check : ByteArray := prog_12_method_53_code
abbrev yn_MO_check : MethodName := ⟨"BeanServerModel", "check", "(II)I"⟩
abbrev yb_MO_isAsked : ByteArray := prog_12_method_52_code
abbrev yn_MO_isAsked : MethodName := ⟨"BeanServerModel", "isAsked", "(I)Z"⟩
abbrev yb_MO_truth : ByteArray := prog_12_method_51_code
abbrev yn_MO_truth : MethodName := ⟨"BeanServerModel", "truth", "(II)I"⟩
abbrev yb_MO_enter : ByteArray := prog_12_method_48_code
abbrev yn_MO_enter : MethodName := ⟨"BeanServerModel", "enter", "(IZ)V"⟩
abbrev yb_MO_looked : ByteArray := prog_12_method_50_code
abbrev yn_MO_looked : MethodName := ⟨"BeanServerModel", "looked", "(I)Z"⟩
abbrev yb_MO_settle : ByteArray := prog_12_method_49_code
abbrev yn_MO_settle : MethodName := ⟨"BeanServerModel", "settle", "(IZ)V"⟩
abbrev yb_MO_comparison : ByteArray := prog_12_method_47_code
abbrev yn_MO_comparison : MethodName := ⟨"BeanServerModel", "comparison", "(II)Z"⟩
abbrev yb_MO_value : ByteArray := prog_12_method_46_code
abbrev yn_MO_value : MethodName := ⟨"BeanServerModel", "value", "(II)I"⟩
abbrev yb_MO_unitValue : ByteArray := prog_12_method_45_code
abbrev yn_MO_unitValue : MethodName := ⟨"BeanServerModel", "unitValue", "(II)I"⟩
abbrev yb_MO_select : ByteArray := prog_12_method_54_code
abbrev yn_MO_select : MethodName := ⟨"BeanServerModel", "select", "(I)I"⟩
abbrev yb_MO_fits : ByteArray := prog_12_method_22_code
abbrev yn_MO_fits : MethodName := ⟨"BeanServerModel", "fits", "(I)Z"⟩
abbrev yb_MO_matches : ByteArray := prog_12_method_18_code
abbrev yn_MO_matches : MethodName := ⟨"BeanServerModel", "matches", "(IIII)Z"⟩
abbrev yb_MO_isPart : ByteArray := prog_12_method_19_code
abbrev yn_MO_isPart : MethodName := ⟨"BeanServerModel", "isPart", "(C)Z"⟩
abbrev yb_MO_spread : ByteArray := prog_12_method_20_code
abbrev yn_MO_spread : MethodName := ⟨"BeanServerModel", "spread", "(IIII)I"⟩
abbrev yb_MO_property : ByteArray := prog_12_method_21_code
abbrev yn_MO_property : MethodName := ⟨"BeanServerModel", "property", "(II)I"⟩
abbrev yb_MO_selected : ByteArray := prog_12_method_55_code
abbrev yn_MO_selected : MethodName := ⟨"BeanServerModel", "selected", "(I)I"⟩
abbrev yb_MO_form : ByteArray := prog_12_method_56_code
abbrev yn_MO_form : MethodName := ⟨"BeanServerModel", "form", "(III)I"⟩
abbrev yb_MO_counter : ByteArray := prog_12_method_58_code
abbrev yn_MO_counter : MethodName := ⟨"BeanServerModel", "counter", "(IIII)I"⟩
abbrev yb_MO_watch : ByteArray := prog_12_method_57_code
abbrev yn_MO_watch : MethodName := ⟨"BeanServerModel", "watch", "(IIIII)I"⟩
abbrev yb_MO_gauge : ByteArray := prog_12_method_59_code
abbrev yn_MO_gauge : MethodName := ⟨"BeanServerModel", "gauge", "(IIII)I"⟩
abbrev yb_MO_cancel : ByteArray := prog_12_method_61_code
abbrev yn_MO_cancel : MethodName := ⟨"BeanServerModel", "cancel", "(I)Z"⟩
abbrev yb_MO_isMonitor : ByteArray := prog_12_method_60_code
abbrev yn_MO_isMonitor : MethodName := ⟨"BeanServerModel", "isMonitor", "(I)Z"⟩
abbrev yb_MO_observe : ByteArray := prog_12_method_65_code
abbrev yn_MO_observe : MethodName := ⟨"BeanServerModel", "observe", "()I"⟩
abbrev yb_MO_observe1 : ByteArray := prog_12_method_64_code
abbrev yn_MO_observe1 : MethodName := ⟨"BeanServerModel", "observe1", "(I)V"⟩
abbrev yb_MO_count : ByteArray := prog_12_method_62_code
abbrev yn_MO_count : MethodName := ⟨"BeanServerModel", "count", "(II)V"⟩
abbrev yb_MO_gaugeOf : ByteArray := prog_12_method_63_code
abbrev yn_MO_gaugeOf : MethodName := ⟨"BeanServerModel", "gaugeOf", "(II)V"⟩
abbrev yb_MO_mark : ByteArray := prog_12_method_66_code
abbrev yn_MO_mark : MethodName := ⟨"BeanServerModel", "mark", "(I)J"⟩
abbrev yb_MO_listen : ByteArray := prog_12_method_67_code
abbrev yn_MO_listen : MethodName := ⟨"BeanServerModel", "listen", "(I)I"⟩
abbrev yb_MO_notice : ByteArray := prog_12_method_68_code
abbrev yn_MO_notice : MethodName := ⟨"BeanServerModel", "notice", "(II)I"⟩
theorem jj_mem1 {w : Cond} (h : w ∈ tables_1_1) (hg : goodWord w = true) : w ∈ jj_gw := jj_mem (by unfold tables_1; exact List.mem_append_left _ h) hg
theorem jj_mem2 {w : Cond} (h : w ∈ tables_1_2) (hg : goodWord w = true) : w ∈ jj_gw := jj_mem (by unfold tables_1; exact List.mem_append_right _ (List.mem_append_left _ h)) hg
theorem jj_mem3 {w : Cond} (h : w ∈ tables_1_3) (hg : goodWord w = true) : w ∈ jj_gw := jj_mem (by unfold tables_1; exact List.mem_append_right _ (List.mem_append_right _ (List.mem_append_left _ h))) hg
theorem jj_mem4 {w : Cond} (h : w ∈ tables_1_4) (hg : goodWord w = true) : w ∈ jj_gw := jj_mem (by unfold tables_1; exact List.mem_append_right _ (List.mem_append_right _ (List.mem_append_right _ (List.mem_append_left _ h)))) hg
theorem jj_mem5 {w : Cond} (h : w ∈ tables_1_5) (hg : goodWord w = true) : w ∈ jj_gw := jj_mem (by unfold tables_1; exact List.mem_append_right _ (List.mem_append_right _ (List.mem_append_right _ (List.mem_append_right _ (List.mem_append_left _ h))))) hg
theorem jj_mem6 {w : Cond} (h : w ∈ tables_1_6) (hg : goodWord w = true) : w ∈ jj_gw := jj_mem (by unfold tables_1; exact List.mem_append_right _ (List.mem_append_right _ (List.mem_append_right _ (List.mem_append_right _ (List.mem_append_right _ (h)))))) hg
theorem wd_0 : Cond.initialized "BeanServerLaw" ∈ jj_gw := jj_mem1 (List.mem_of_getElem? (i := 0) (by decide +kernel)) (by decide +kernel)
theorem wd_1 : Cond.initialized "BeanServer" ∈ jj_gw := jj_mem1 (List.mem_of_getElem? (i := 1) (by decide +kernel)) (by decide +kernel)
theorem wd_2 : Cond.initialized "java/lang/AbstractStringBuilder" ∈ jj_gw := jj_mem1 (List.mem_of_getElem? (i := 2) (by decide +kernel)) (by decide +kernel)
theorem wd_3 : Cond.initialized "java/lang/StringBuilder" ∈ jj_gw := jj_mem1 (List.mem_of_getElem? (i := 3) (by decide +kernel)) (by decide +kernel)
theorem wd_4 : Cond.initialized "java/lang/String" ∈ jj_gw := jj_mem1 (List.mem_of_getElem? (i := 4) (by decide +kernel)) (by decide +kernel)
theorem wd_5 : Cond.initialized "java/lang/StringUTF16" ∈ jj_gw := jj_mem1 (List.mem_of_getElem? (i := 5) (by decide +kernel)) (by decide +kernel)
theorem wd_6 : Cond.initialized "BeanServer$Log" ∈ jj_gw := jj_mem1 (List.mem_of_getElem? (i := 6) (by decide +kernel)) (by decide +kernel)
theorem wd_7 : Cond.initialized "BeanServerModel" ∈ jj_gw := jj_mem1 (List.mem_of_getElem? (i := 7) (by decide +kernel)) (by decide +kernel)
theorem wd_8 : Cond.initialized "jdk/internal/util/ArraysSupport" ∈ jj_gw := jj_mem1 (List.mem_of_getElem? (i := 8) (by decide +kernel)) (by decide +kernel)
theorem wd_9 : Cond.initialized "java/lang/Math" ∈ jj_gw := jj_mem1 (List.mem_of_getElem? (i := 9) (by decide +kernel)) (by decide +kernel)
theorem wd_10 : Cond.initialized "java/util/Arrays" ∈ jj_gw := jj_mem1 (List.mem_of_getElem? (i := 10) (by decide +kernel)) (by decide +kernel)
theorem wd_11 : Cond.initialized "java/lang/System" ∈ jj_gw := jj_mem1 (List.mem_of_getElem? (i := 11) (by decide +kernel)) (by decide +kernel)
theorem wd_12 : Cond.initialized "java/lang/StringLatin1" ∈ jj_gw := jj_mem1 (List.mem_of_getElem? (i := 12) (by decide +kernel)) (by decide +kernel)
theorem wd_13 : Cond.initialized "jdk/internal/util/Preconditions" ∈ jj_gw := jj_mem1 (List.mem_of_getElem? (i := 13) (by decide +kernel)) (by decide +kernel)
theorem wd_14 : Cond.initialized "BeanServer$Pattern" ∈ jj_gw := jj_mem1 (List.mem_of_getElem? (i := 14) (by decide +kernel)) (by decide +kernel)
theorem wd_15 : Cond.initialized "java/lang/Character" ∈ jj_gw := jj_mem1 (List.mem_of_getElem? (i := 15) (by decide +kernel)) (by decide +kernel)
theorem wd_16 : Cond.initialized "BeanServer$Bean" ∈ jj_gw := jj_mem1 (List.mem_of_getElem? (i := 16) (by decide +kernel)) (by decide +kernel)
theorem wd_17 : Cond.initialized "BeanServer$QueryReader" ∈ jj_gw := jj_mem1 (List.mem_of_getElem? (i := 17) (by decide +kernel)) (by decide +kernel)
theorem wd_18 : Cond.initialized "BeanServer$Query" ∈ jj_gw := jj_mem1 (List.mem_of_getElem? (i := 18) (by decide +kernel)) (by decide +kernel)
theorem wd_19 : Cond.initialized "BeanServer$QueryForm" ∈ jj_gw := jj_mem1 (List.mem_of_getElem? (i := 19) (by decide +kernel)) (by decide +kernel)
theorem wd_20 : Cond.initialized "BeanServer$Monitor" ∈ jj_gw := jj_mem1 (List.mem_of_getElem? (i := 20) (by decide +kernel)) (by decide +kernel)
theorem wd_21 : Cond.initialized "BeanServer$Counter" ∈ jj_gw := jj_mem1 (List.mem_of_getElem? (i := 21) (by decide +kernel)) (by decide +kernel)
theorem wd_22 : Cond.initialized "BeanServer$Gauge" ∈ jj_gw := jj_mem1 (List.mem_of_getElem? (i := 22) (by decide +kernel)) (by decide +kernel)
theorem wd_23 : Cond.classLink "BeanServerLaw" (7 : Nat) "BeanServer" ∈ jj_gw := jj_mem1 (List.mem_of_getElem? (i := 23) (by decide +kernel)) (by decide +kernel)
theorem wd_24 : Cond.instantiable "BeanServer" (9 : Nat) ∈ jj_gw := jj_mem1 (List.mem_of_getElem? (i := 24) (by decide +kernel)) (by decide +kernel)
theorem wd_25 : Cond.methodLink "BeanServerLaw" (9 : Nat) (⟨"BeanServer", "<init>", "()V"⟩ : MethodName) ∈ jj_gw := jj_mem1 (List.mem_of_getElem? (i := 25) (by decide +kernel)) (by decide +kernel)
theorem wd_26 : Cond.instanceMethod (⟨"BeanServer", "<init>", "()V"⟩ : MethodName) ∈ jj_gw := jj_mem1 (List.mem_of_getElem? (i := 26) (by decide +kernel)) (by decide +kernel)
theorem wd_27 : Cond.code (⟨"BeanServer", "<init>", "()V"⟩ : MethodName) prog_1_method_1_code (1 : Nat) (Option.none : Option FieldType) ∈ jj_gw := jj_mem1 (List.mem_of_getElem? (i := 27) (by decide +kernel)) (by decide +kernel)
theorem wd_28 : Cond.methodLink "BeanServer" (1 : Nat) (⟨"java/lang/Object", "<init>", "()V"⟩ : MethodName) ∈ jj_gw := jj_mem1 (List.mem_of_getElem? (i := 28) (by decide +kernel)) (by decide +kernel)
theorem wd_29 : Cond.instanceMethod (⟨"java/lang/Object", "<init>", "()V"⟩ : MethodName) ∈ jj_gw := jj_mem1 (List.mem_of_getElem? (i := 29) (by decide +kernel)) (by decide +kernel)
theorem wd_30 : Cond.code (⟨"java/lang/Object", "<init>", "()V"⟩ : MethodName) object_method_1_code (1 : Nat) (Option.none : Option FieldType) ∈ jj_gw := jj_mem1 (List.mem_of_getElem? (i := 30) (by decide +kernel)) (by decide +kernel)
theorem wd_31 : Cond.classLink "BeanServer" (7 : Nat) "java/lang/StringBuilder" ∈ jj_gw := jj_mem1 (List.mem_of_getElem? (i := 31) (by decide +kernel)) (by decide +kernel)
theorem wd_32 : Cond.instantiable "java/lang/StringBuilder" (4 : Nat) ∈ jj_gw := jj_mem1 (List.mem_of_getElem? (i := 32) (by decide +kernel)) (by decide +kernel)
theorem wd_33 : Cond.methodLink "BeanServer" (9 : Nat) (⟨"java/lang/StringBuilder", "<init>", "()V"⟩ : MethodName) ∈ jj_gw := jj_mem1 (List.mem_of_getElem? (i := 33) (by decide +kernel)) (by decide +kernel)
theorem wd_34 : Cond.instanceMethod (⟨"java/lang/StringBuilder", "<init>", "()V"⟩ : MethodName) ∈ jj_gw := jj_mem1 (List.mem_of_getElem? (i := 34) (by decide +kernel)) (by decide +kernel)
theorem wd_35 : Cond.code (⟨"java/lang/StringBuilder", "<init>", "()V"⟩ : MethodName) prog_18_method_1_code (1 : Nat) (Option.none : Option FieldType) ∈ jj_gw := jj_mem1 (List.mem_of_getElem? (i := 35) (by decide +kernel)) (by decide +kernel)
theorem wd_36 : Cond.methodLink "java/lang/StringBuilder" (1 : Nat) (⟨"java/lang/AbstractStringBuilder", "<init>", "(I)V"⟩ : MethodName) ∈ jj_gw := jj_mem1 (List.mem_of_getElem? (i := 36) (by decide +kernel)) (by decide +kernel)
theorem wd_37 : Cond.instanceMethod (⟨"java/lang/AbstractStringBuilder", "<init>", "(I)V"⟩ : MethodName) ∈ jj_gw := jj_mem1 (List.mem_of_getElem? (i := 37) (by decide +kernel)) (by decide +kernel)
theorem wd_38 : Cond.code (⟨"java/lang/AbstractStringBuilder", "<init>", "(I)V"⟩ : MethodName) prog_13_method_2_code (2 : Nat) (Option.none : Option FieldType) ∈ jj_gw := jj_mem1 (List.mem_of_getElem? (i := 38) (by decide +kernel)) (by decide +kernel)
theorem wd_39 : Cond.methodLink "java/lang/AbstractStringBuilder" (3 : Nat) (⟨"java/lang/Object", "<init>", "()V"⟩ : MethodName) ∈ jj_gw := jj_mem1 (List.mem_of_getElem? (i := 39) (by decide +kernel)) (by decide +kernel)
theorem wd_40 : Cond.fieldLink "java/lang/AbstractStringBuilder" (18 : Nat) "java/lang/String" "COMPACT_STRINGS" "Z" ∈ jj_gw := jj_mem1 (List.mem_of_getElem? (i := 40) (by decide +kernel)) (by decide +kernel)
theorem wd_42 : Cond.methodLink "java/lang/AbstractStringBuilder" (26 : Nat) (⟨"java/lang/StringUTF16", "newBytesFor", "(I)[B"⟩ : MethodName) ∈ jj_gw := jj_mem1 (List.mem_of_getElem? (i := 42) (by decide +kernel)) (by decide +kernel)
theorem wd_43 : Cond.static (⟨"java/lang/StringUTF16", "newBytesFor", "(I)[B"⟩ : MethodName) ∈ jj_gw := jj_mem1 (List.mem_of_getElem? (i := 43) (by decide +kernel)) (by decide +kernel)
theorem wd_44 : Cond.code (⟨"java/lang/StringUTF16", "newBytesFor", "(I)[B"⟩ : MethodName) prog_20_method_2_code (1 : Nat) (Option.some (FieldType.array FieldType.byte)) ∈ jj_gw := jj_mem1 (List.mem_of_getElem? (i := 44) (by decide +kernel)) (by decide +kernel)
theorem wd_45 : Cond.methodLink "java/lang/StringUTF16" (11 : Nat) (⟨"java/lang/StringUTF16", "newBytesLength", "(I)I"⟩ : MethodName) ∈ jj_gw := jj_mem1 (List.mem_of_getElem? (i := 45) (by decide +kernel)) (by decide +kernel)
theorem wd_46 : Cond.static (⟨"java/lang/StringUTF16", "newBytesLength", "(I)I"⟩ : MethodName) ∈ jj_gw := jj_mem1 (List.mem_of_getElem? (i := 46) (by decide +kernel)) (by decide +kernel)
theorem wd_47 : Cond.code (⟨"java/lang/StringUTF16", "newBytesLength", "(I)I"⟩ : MethodName) prog_20_method_3_code (1 : Nat) (Option.some FieldType.int) ∈ jj_gw := jj_mem1 (List.mem_of_getElem? (i := 47) (by decide +kernel)) (by decide +kernel)
theorem wd_48 : Cond.constant "java/lang/StringUTF16" (20 : Nat) (1073741823 : Int32) ∈ jj_gw := jj_mem1 (List.mem_of_getElem? (i := 48) (by decide +kernel)) (by decide +kernel)
theorem wd_49 : Cond.fieldLink "java/lang/AbstractStringBuilder" (15 : Nat) "java/lang/AbstractStringBuilder" "value" "[B" ∈ jj_gw := jj_mem1 (List.mem_of_getElem? (i := 49) (by decide +kernel)) (by decide +kernel)
theorem wd_50 : Cond.fieldLink "java/lang/AbstractStringBuilder" (22 : Nat) "java/lang/AbstractStringBuilder" "coder" "B" ∈ jj_gw := jj_mem1 (List.mem_of_getElem? (i := 50) (by decide +kernel)) (by decide +kernel)
theorem wd_51 : Cond.fieldLink "java/lang/AbstractStringBuilder" (73 : Nat) "java/lang/AbstractStringBuilder" "maybeLatin1" "Z" ∈ jj_gw := jj_mem1 (List.mem_of_getElem? (i := 51) (by decide +kernel)) (by decide +kernel)
theorem wd_52 : Cond.fieldLink "java/lang/String" (1048 : Nat) "java/lang/AbstractStringBuilder" "maybeLatin1" "Z" ∈ jj_gw := jj_mem1 (List.mem_of_getElem? (i := 52) (by decide +kernel)) (by decide +kernel)
theorem wd_53 : Cond.fieldLink "java/lang/AbstractStringBuilder" (79 : Nat) "java/lang/AbstractStringBuilder" "count" "I" ∈ jj_gw := jj_mem1 (List.mem_of_getElem? (i := 53) (by decide +kernel)) (by decide +kernel)
theorem wd_54 : Cond.lays "java/lang/StringBuilder" "java/lang/AbstractStringBuilder" "value" "[B" ∈ jj_gw := jj_mem1 (List.mem_of_getElem? (i := 54) (by decide +kernel)) (by decide +kernel)
theorem wd_56 : Cond.lays "java/lang/StringBuilder" "java/lang/AbstractStringBuilder" "coder" "B" ∈ jj_gw := jj_mem1 (List.mem_of_getElem? (i := 56) (by decide +kernel)) (by decide +kernel)
theorem wd_58 : Cond.lays "java/lang/StringBuilder" "java/lang/AbstractStringBuilder" "maybeLatin1" "Z" ∈ jj_gw := jj_mem1 (List.mem_of_getElem? (i := 58) (by decide +kernel)) (by decide +kernel)
theorem wd_60 : Cond.lays "java/lang/StringBuilder" "java/lang/AbstractStringBuilder" "count" "I" ∈ jj_gw := jj_mem1 (List.mem_of_getElem? (i := 60) (by decide +kernel)) (by decide +kernel)
theorem wd_62 : Cond.superclass "java/lang/StringBuilder" "java/lang/AbstractStringBuilder" ∈ jj_gw := jj_mem1 (List.mem_of_getElem? (i := 62) (by decide +kernel)) (by decide +kernel)
theorem wd_63 : Cond.arrayClass FieldType.byte ∈ jj_gw := jj_mem1 (List.mem_of_getElem? (i := 63) (by decide +kernel)) (by decide +kernel)
theorem wd_64 : Cond.classLink "BeanServer" (16 : Nat) "BeanServer$Bean" ∈ jj_gw := jj_mem1 (List.mem_of_getElem? (i := 64) (by decide +kernel)) (by decide +kernel)
theorem wd_66 : Cond.classLink "BeanServer" (22 : Nat) "BeanServer$Query" ∈ jj_gw := jj_mem1 (List.mem_of_getElem? (i := 66) (by decide +kernel)) (by decide +kernel)
theorem wd_68 : Cond.classLink "BeanServer" (32 : Nat) "BeanServer$Monitor" ∈ jj_gw := jj_mem1 (List.mem_of_getElem? (i := 68) (by decide +kernel)) (by decide +kernel)
theorem wd_70 : Cond.classLink "BeanServer" (38 : Nat) "BeanServer$Log" ∈ jj_gw := jj_mem1 (List.mem_of_getElem? (i := 70) (by decide +kernel)) (by decide +kernel)
theorem wd_71 : Cond.instantiable "BeanServer$Log" (8 : Nat) ∈ jj_gw := jj_mem1 (List.mem_of_getElem? (i := 71) (by decide +kernel)) (by decide +kernel)
theorem wd_73 : Cond.instanceMethod (⟨"BeanServer$Log", "<init>", "()V"⟩ : MethodName) ∈ jj_gw := jj_mem1 (List.mem_of_getElem? (i := 73) (by decide +kernel)) (by decide +kernel)
theorem wd_74 : Cond.code (⟨"BeanServer$Log", "<init>", "()V"⟩ : MethodName) prog_5_method_1_code (1 : Nat) (Option.none : Option FieldType) ∈ jj_gw := jj_mem1 (List.mem_of_getElem? (i := 74) (by decide +kernel)) (by decide +kernel)
theorem wd_75 : Cond.methodLink "BeanServer$Log" (3 : Nat) (⟨"java/lang/Object", "<init>", "()V"⟩ : MethodName) ∈ jj_gw := jj_mem1 (List.mem_of_getElem? (i := 75) (by decide +kernel)) (by decide +kernel)
theorem wd_76 : Cond.fieldLink "BeanServer$Log" (9 : Nat) "BeanServer$Log" "numbers" "[I" ∈ jj_gw := jj_mem1 (List.mem_of_getElem? (i := 76) (by decide +kernel)) (by decide +kernel)
theorem wd_77 : Cond.fieldLink "BeanServer$Log" (15 : Nat) "BeanServer$Log" "kinds" "[I" ∈ jj_gw := jj_mem1 (List.mem_of_getElem? (i := 77) (by decide +kernel)) (by decide +kernel)
theorem wd_78 : Cond.fieldLink "BeanServer$Log" (18 : Nat) "BeanServer$Log" "sources" "[I" ∈ jj_gw := jj_mem1 (List.mem_of_getElem? (i := 78) (by decide +kernel)) (by decide +kernel)
theorem wd_79 : Cond.fieldLink "BeanServer$Log" (21 : Nat) "BeanServer$Log" "values" "[I" ∈ jj_gw := jj_mem1 (List.mem_of_getElem? (i := 79) (by decide +kernel)) (by decide +kernel)
theorem wd_80 : Cond.fieldLink "BeanServer$Log" (24 : Nat) "BeanServer$Log" "size" "I" ∈ jj_gw := jj_mem1 (List.mem_of_getElem? (i := 80) (by decide +kernel)) (by decide +kernel)
theorem wd_81 : Cond.fieldLink "BeanServer$Log" (28 : Nat) "BeanServer$Log" "next" "I" ∈ jj_gw := jj_mem1 (List.mem_of_getElem? (i := 81) (by decide +kernel)) (by decide +kernel)
theorem wd_82 : Cond.fieldLink "BeanServer$Log" (31 : Nat) "BeanServer$Log" "given" "I" ∈ jj_gw := jj_mem1 (List.mem_of_getElem? (i := 82) (by decide +kernel)) (by decide +kernel)
theorem wd_83 : Cond.fieldLink "BeanServer" (183 : Nat) "BeanServer$Log" "given" "I" ∈ jj_gw := jj_mem1 (List.mem_of_getElem? (i := 83) (by decide +kernel)) (by decide +kernel)
theorem wd_84 : Cond.fieldLink "BeanServer$Log" (34 : Nat) "BeanServer$Log" "listened" "I" ∈ jj_gw := jj_mem1 (List.mem_of_getElem? (i := 84) (by decide +kernel)) (by decide +kernel)
theorem wd_85 : Cond.fieldLink "BeanServer" (194 : Nat) "BeanServer$Log" "listened" "I" ∈ jj_gw := jj_mem1 (List.mem_of_getElem? (i := 85) (by decide +kernel)) (by decide +kernel)
theorem wd_86 : Cond.laysFinal "BeanServer$Log" "BeanServer$Log" "numbers" "[I" ∈ jj_gw := jj_mem1 (List.mem_of_getElem? (i := 86) (by decide +kernel)) (by decide +kernel)
theorem wd_88 : Cond.laysFinal "BeanServer$Log" "BeanServer$Log" "kinds" "[I" ∈ jj_gw := jj_mem1 (List.mem_of_getElem? (i := 88) (by decide +kernel)) (by decide +kernel)
theorem wd_90 : Cond.laysFinal "BeanServer$Log" "BeanServer$Log" "sources" "[I" ∈ jj_gw := jj_mem1 (List.mem_of_getElem? (i := 90) (by decide +kernel)) (by decide +kernel)
theorem wd_92 : Cond.laysFinal "BeanServer$Log" "BeanServer$Log" "values" "[I" ∈ jj_gw := jj_mem1 (List.mem_of_getElem? (i := 92) (by decide +kernel)) (by decide +kernel)
theorem wd_94 : Cond.lays "BeanServer$Log" "BeanServer$Log" "size" "I" ∈ jj_gw := jj_mem1 (List.mem_of_getElem? (i := 94) (by decide +kernel)) (by decide +kernel)
theorem wd_96 : Cond.lays "BeanServer$Log" "BeanServer$Log" "next" "I" ∈ jj_gw := jj_mem1 (List.mem_of_getElem? (i := 96) (by decide +kernel)) (by decide +kernel)
theorem wd_98 : Cond.lays "BeanServer$Log" "BeanServer$Log" "given" "I" ∈ jj_gw := jj_mem1 (List.mem_of_getElem? (i := 98) (by decide +kernel)) (by decide +kernel)
theorem wd_100 : Cond.lays "BeanServer$Log" "BeanServer$Log" "listened" "I" ∈ jj_gw := jj_mem1 (List.mem_of_getElem? (i := 100) (by decide +kernel)) (by decide +kernel)
theorem wd_102 : Cond.superclass "BeanServer$Log" "java/lang/Object" ∈ jj_gw := jj_mem1 (List.mem_of_getElem? (i := 102) (by decide +kernel)) (by decide +kernel)
theorem wd_103 : Cond.arrayClass FieldType.int ∈ jj_gw := jj_mem1 (List.mem_of_getElem? (i := 103) (by decide +kernel)) (by decide +kernel)
theorem wd_105 : Cond.fieldLink "BeanServer" (10 : Nat) "BeanServer" "buffer" "Ljava/lang/StringBuilder;" ∈ jj_gw := jj_mem1 (List.mem_of_getElem? (i := 105) (by decide +kernel)) (by decide +kernel)
theorem wd_106 : Cond.fieldLink "BeanServer" (18 : Nat) "BeanServer" "beans" "[LBeanServer$Bean;" ∈ jj_gw := jj_mem1 (List.mem_of_getElem? (i := 106) (by decide +kernel)) (by decide +kernel)
theorem wd_107 : Cond.fieldLink "BeanServer" (24 : Nat) "BeanServer" "queries" "[LBeanServer$Query;" ∈ jj_gw := jj_mem1 (List.mem_of_getElem? (i := 107) (by decide +kernel)) (by decide +kernel)
theorem wd_108 : Cond.fieldLink "BeanServer" (28 : Nat) "BeanServer" "queryCount" "I" ∈ jj_gw := jj_mem1 (List.mem_of_getElem? (i := 108) (by decide +kernel)) (by decide +kernel)
theorem wd_109 : Cond.fieldLink "BeanServer" (34 : Nat) "BeanServer" "monitors" "[LBeanServer$Monitor;" ∈ jj_gw := jj_mem1 (List.mem_of_getElem? (i := 109) (by decide +kernel)) (by decide +kernel)
theorem wd_110 : Cond.fieldLink "BeanServer" (41 : Nat) "BeanServer" "log" "LBeanServer$Log;" ∈ jj_gw := jj_mem1 (List.mem_of_getElem? (i := 110) (by decide +kernel)) (by decide +kernel)
theorem wd_111 : Cond.fieldLink "BeanServer" (45 : Nat) "BeanServer" "selection" "[I" ∈ jj_gw := jj_mem1 (List.mem_of_getElem? (i := 111) (by decide +kernel)) (by decide +kernel)
theorem wd_112 : Cond.fieldLink "BeanServer" (49 : Nat) "BeanServer" "selectionSize" "I" ∈ jj_gw := jj_mem1 (List.mem_of_getElem? (i := 112) (by decide +kernel)) (by decide +kernel)
theorem wd_113 : Cond.fieldLink "BeanServer" (54 : Nat) "BeanServer" "latestPattern" "Ljava/lang/String;" ∈ jj_gw := jj_mem1 (List.mem_of_getElem? (i := 113) (by decide +kernel)) (by decide +kernel)
theorem wd_114 : Cond.laysFinal "BeanServer" "BeanServer" "buffer" "Ljava/lang/StringBuilder;" ∈ jj_gw := jj_mem1 (List.mem_of_getElem? (i := 114) (by decide +kernel)) (by decide +kernel)
theorem wd_116 : Cond.laysFinal "BeanServer" "BeanServer" "beans" "[LBeanServer$Bean;" ∈ jj_gw := jj_mem1 (List.mem_of_getElem? (i := 116) (by decide +kernel)) (by decide +kernel)
theorem wd_118 : Cond.laysFinal "BeanServer" "BeanServer" "queries" "[LBeanServer$Query;" ∈ jj_gw := jj_mem1 (List.mem_of_getElem? (i := 118) (by decide +kernel)) (by decide +kernel)
theorem wd_120 : Cond.lays "BeanServer" "BeanServer" "queryCount" "I" ∈ jj_gw := jj_mem1 (List.mem_of_getElem? (i := 120) (by decide +kernel)) (by decide +kernel)
theorem wd_122 : Cond.laysFinal "BeanServer" "BeanServer" "monitors" "[LBeanServer$Monitor;" ∈ jj_gw := jj_mem1 (List.mem_of_getElem? (i := 122) (by decide +kernel)) (by decide +kernel)
theorem wd_124 : Cond.laysFinal "BeanServer" "BeanServer" "log" "LBeanServer$Log;" ∈ jj_gw := jj_mem1 (List.mem_of_getElem? (i := 124) (by decide +kernel)) (by decide +kernel)
theorem wd_126 : Cond.laysFinal "BeanServer" "BeanServer" "selection" "[I" ∈ jj_gw := jj_mem1 (List.mem_of_getElem? (i := 126) (by decide +kernel)) (by decide +kernel)
theorem wd_128 : Cond.lays "BeanServer" "BeanServer" "selectionSize" "I" ∈ jj_gw := jj_mem1 (List.mem_of_getElem? (i := 128) (by decide +kernel)) (by decide +kernel)
theorem wd_130 : Cond.lays "BeanServer" "BeanServer" "latestPattern" "Ljava/lang/String;" ∈ jj_gw := jj_mem1 (List.mem_of_getElem? (i := 130) (by decide +kernel)) (by decide +kernel)
theorem wd_132 : Cond.superclass "BeanServer" "java/lang/Object" ∈ jj_gw := jj_mem1 (List.mem_of_getElem? (i := 132) (by decide +kernel)) (by decide +kernel)
theorem wd_133 : Cond.methodLink "BeanServerLaw" (13 : Nat) (⟨"BeanServer", "write", "(C)Z"⟩ : MethodName) ∈ jj_gw := jj_mem1 (List.mem_of_getElem? (i := 133) (by decide +kernel)) (by decide +kernel)
theorem wd_134 : Cond.instanceMethod (⟨"BeanServer", "write", "(C)Z"⟩ : MethodName) ∈ jj_gw := jj_mem1 (List.mem_of_getElem? (i := 134) (by decide +kernel)) (by decide +kernel)
theorem wd_135 : Cond.selects "BeanServer" (⟨"BeanServer", "write", "(C)Z"⟩ : MethodName) (⟨"BeanServer", "write", "(C)Z"⟩ : MethodName) ∈ jj_gw := jj_mem1 (List.mem_of_getElem? (i := 135) (by decide +kernel)) (by decide +kernel)
theorem wd_136 : Cond.code (⟨"BeanServer", "write", "(C)Z"⟩ : MethodName) prog_1_method_2_code (2 : Nat) (Option.some FieldType.boolean) ∈ jj_gw := jj_mem1 (List.mem_of_getElem? (i := 136) (by decide +kernel)) (by decide +kernel)
theorem wd_137 : Cond.methodLink "BeanServer" (58 : Nat) (⟨"java/lang/StringBuilder", "length", "()I"⟩ : MethodName) ∈ jj_gw := jj_mem1 (List.mem_of_getElem? (i := 137) (by decide +kernel)) (by decide +kernel)
theorem wd_138 : Cond.instanceMethod (⟨"java/lang/StringBuilder", "length", "()I"⟩ : MethodName) ∈ jj_gw := jj_mem1 (List.mem_of_getElem? (i := 138) (by decide +kernel)) (by decide +kernel)
theorem wd_139 : Cond.selects "java/lang/StringBuilder" (⟨"java/lang/StringBuilder", "length", "()I"⟩ : MethodName) (⟨"java/lang/StringBuilder", "length", "()I"⟩ : MethodName) ∈ jj_gw := jj_mem1 (List.mem_of_getElem? (i := 139) (by decide +kernel)) (by decide +kernel)
theorem wd_140 : Cond.code (⟨"java/lang/StringBuilder", "length", "()I"⟩ : MethodName) prog_18_method_93_code (1 : Nat) (Option.some FieldType.int) ∈ jj_gw := jj_mem1 (List.mem_of_getElem? (i := 140) (by decide +kernel)) (by decide +kernel)
theorem wd_141 : Cond.methodLink "java/lang/StringBuilder" (343 : Nat) (⟨"java/lang/AbstractStringBuilder", "length", "()I"⟩ : MethodName) ∈ jj_gw := jj_mem1 (List.mem_of_getElem? (i := 141) (by decide +kernel)) (by decide +kernel)
theorem wd_142 : Cond.instanceMethod (⟨"java/lang/AbstractStringBuilder", "length", "()I"⟩ : MethodName) ∈ jj_gw := jj_mem1 (List.mem_of_getElem? (i := 142) (by decide +kernel)) (by decide +kernel)
theorem wd_143 : Cond.code (⟨"java/lang/AbstractStringBuilder", "length", "()I"⟩ : MethodName) prog_13_method_6_code (1 : Nat) (Option.some FieldType.int) ∈ jj_gw := jj_mem1 (List.mem_of_getElem? (i := 143) (by decide +kernel)) (by decide +kernel)
theorem wd_144 : Cond.methodLink "BeanServer" (62 : Nat) (⟨"java/lang/StringBuilder", "append", "(C)Ljava/lang/StringBuilder;"⟩ : MethodName) ∈ jj_gw := jj_mem1 (List.mem_of_getElem? (i := 144) (by decide +kernel)) (by decide +kernel)
theorem wd_145 : Cond.instanceMethod (⟨"java/lang/StringBuilder", "append", "(C)Ljava/lang/StringBuilder;"⟩ : MethodName) ∈ jj_gw := jj_mem1 (List.mem_of_getElem? (i := 145) (by decide +kernel)) (by decide +kernel)
theorem wd_146 : Cond.selects "java/lang/StringBuilder" (⟨"java/lang/StringBuilder", "append", "(C)Ljava/lang/StringBuilder;"⟩ : MethodName) (⟨"java/lang/StringBuilder", "append", "(C)Ljava/lang/StringBuilder;"⟩ : MethodName) ∈ jj_gw := jj_mem1 (List.mem_of_getElem? (i := 146) (by decide +kernel)) (by decide +kernel)
theorem wd_147 : Cond.code (⟨"java/lang/StringBuilder", "append", "(C)Ljava/lang/StringBuilder;"⟩ : MethodName) prog_18_method_14_code (2 : Nat) (Option.some (FieldType.object "java/lang/StringBuilder")) ∈ jj_gw := jj_mem1 (List.mem_of_getElem? (i := 147) (by decide +kernel)) (by decide +kernel)
theorem wd_148 : Cond.methodLink "java/lang/StringBuilder" (50 : Nat) (⟨"java/lang/AbstractStringBuilder", "append", "(C)Ljava/lang/AbstractStringBuilder;"⟩ : MethodName) ∈ jj_gw := jj_mem1 (List.mem_of_getElem? (i := 148) (by decide +kernel)) (by decide +kernel)
theorem wd_149 : Cond.instanceMethod (⟨"java/lang/AbstractStringBuilder", "append", "(C)Ljava/lang/AbstractStringBuilder;"⟩ : MethodName) ∈ jj_gw := jj_mem1 (List.mem_of_getElem? (i := 149) (by decide +kernel)) (by decide +kernel)
theorem wd_150 : Cond.code (⟨"java/lang/AbstractStringBuilder", "append", "(C)Ljava/lang/AbstractStringBuilder;"⟩ : MethodName) prog_13_method_31_code (2 : Nat) (Option.some (FieldType.object "java/lang/AbstractStringBuilder")) ∈ jj_gw := jj_mem1 (List.mem_of_getElem? (i := 150) (by decide +kernel)) (by decide +kernel)
theorem wd_151 : Cond.methodLink "java/lang/AbstractStringBuilder" (100 : Nat) (⟨"java/lang/AbstractStringBuilder", "ensureCapacityInternal", "(I)V"⟩ : MethodName) ∈ jj_gw := jj_mem1 (List.mem_of_getElem? (i := 151) (by decide +kernel)) (by decide +kernel)
theorem wd_153 : Cond.instanceMethod (⟨"java/lang/AbstractStringBuilder", "ensureCapacityInternal", "(I)V"⟩ : MethodName) ∈ jj_gw := jj_mem1 (List.mem_of_getElem? (i := 153) (by decide +kernel)) (by decide +kernel)
theorem wd_154 : Cond.code (⟨"java/lang/AbstractStringBuilder", "ensureCapacityInternal", "(I)V"⟩ : MethodName) prog_13_method_9_code (3 : Nat) (Option.none : Option FieldType) ∈ jj_gw := jj_mem1 (List.mem_of_getElem? (i := 154) (by decide +kernel)) (by decide +kernel)
theorem wd_155 : Cond.methodLink "java/lang/AbstractStringBuilder" (104 : Nat) (⟨"java/lang/AbstractStringBuilder", "newCapacity", "(I)I"⟩ : MethodName) ∈ jj_gw := jj_mem1 (List.mem_of_getElem? (i := 155) (by decide +kernel)) (by decide +kernel)
theorem wd_157 : Cond.instanceMethod (⟨"java/lang/AbstractStringBuilder", "newCapacity", "(I)I"⟩ : MethodName) ∈ jj_gw := jj_mem1 (List.mem_of_getElem? (i := 157) (by decide +kernel)) (by decide +kernel)
theorem wd_158 : Cond.code (⟨"java/lang/AbstractStringBuilder", "newCapacity", "(I)I"⟩ : MethodName) prog_13_method_10_code (6 : Nat) (Option.some FieldType.int) ∈ jj_gw := jj_mem1 (List.mem_of_getElem? (i := 158) (by decide +kernel)) (by decide +kernel)
theorem wd_159 : Cond.methodLink "java/lang/AbstractStringBuilder" (114 : Nat) (⟨"jdk/internal/util/ArraysSupport", "newLength", "(III)I"⟩ : MethodName) ∈ jj_gw := jj_mem1 (List.mem_of_getElem? (i := 159) (by decide +kernel)) (by decide +kernel)
theorem wd_160 : Cond.static (⟨"jdk/internal/util/ArraysSupport", "newLength", "(III)I"⟩ : MethodName) ∈ jj_gw := jj_mem1 (List.mem_of_getElem? (i := 160) (by decide +kernel)) (by decide +kernel)
theorem wd_161 : Cond.code (⟨"jdk/internal/util/ArraysSupport", "newLength", "(III)I"⟩ : MethodName) prog_23_method_27_code (4 : Nat) (Option.some FieldType.int) ∈ jj_gw := jj_mem1 (List.mem_of_getElem? (i := 161) (by decide +kernel)) (by decide +kernel)
theorem wd_162 : Cond.methodLink "jdk/internal/util/ArraysSupport" (194 : Nat) (⟨"java/lang/Math", "max", "(II)I"⟩ : MethodName) ∈ jj_gw := jj_mem1 (List.mem_of_getElem? (i := 162) (by decide +kernel)) (by decide +kernel)
theorem wd_163 : Cond.static (⟨"java/lang/Math", "max", "(II)I"⟩ : MethodName) ∈ jj_gw := jj_mem1 (List.mem_of_getElem? (i := 163) (by decide +kernel)) (by decide +kernel)
theorem wd_164 : Cond.code (⟨"java/lang/Math", "max", "(II)I"⟩ : MethodName) prog_16_method_65_code (2 : Nat) (Option.some FieldType.int) ∈ jj_gw := jj_mem1 (List.mem_of_getElem? (i := 164) (by decide +kernel)) (by decide +kernel)
theorem wd_165 : Cond.constant "jdk/internal/util/ArraysSupport" (200 : Nat) (2147483639 : Int32) ∈ jj_gw := jj_mem1 (List.mem_of_getElem? (i := 165) (by decide +kernel)) (by decide +kernel)
theorem wd_166 : Cond.methodLink "jdk/internal/util/ArraysSupport" (201 : Nat) (⟨"jdk/internal/util/ArraysSupport", "hugeLength", "(II)I"⟩ : MethodName) ∈ jj_gw := jj_mem1 (List.mem_of_getElem? (i := 166) (by decide +kernel)) (by decide +kernel)
theorem wd_167 : Cond.static (⟨"jdk/internal/util/ArraysSupport", "hugeLength", "(II)I"⟩ : MethodName) ∈ jj_gw := jj_mem1 (List.mem_of_getElem? (i := 167) (by decide +kernel)) (by decide +kernel)
theorem wd_168 : Cond.code (⟨"jdk/internal/util/ArraysSupport", "hugeLength", "(II)I"⟩ : MethodName) prog_23_method_28_code (3 : Nat) (Option.some FieldType.int) ∈ jj_gw := jj_mem1 (List.mem_of_getElem? (i := 168) (by decide +kernel)) (by decide +kernel)
theorem wd_169 : Cond.constant "java/lang/AbstractStringBuilder" (39 : Nat) (2147483647 : Int32) ∈ jj_gw := jj_mem1 (List.mem_of_getElem? (i := 169) (by decide +kernel)) (by decide +kernel)
theorem wd_170 : Cond.methodLink "java/lang/AbstractStringBuilder" (108 : Nat) (⟨"java/util/Arrays", "copyOf", "([BI)[B"⟩ : MethodName) ∈ jj_gw := jj_mem1 (List.mem_of_getElem? (i := 170) (by decide +kernel)) (by decide +kernel)
theorem wd_171 : Cond.static (⟨"java/util/Arrays", "copyOf", "([BI)[B"⟩ : MethodName) ∈ jj_gw := jj_mem1 (List.mem_of_getElem? (i := 171) (by decide +kernel)) (by decide +kernel)
theorem wd_172 : Cond.code (⟨"java/util/Arrays", "copyOf", "([BI)[B"⟩ : MethodName) prog_22_method_121_code (3 : Nat) (Option.some (FieldType.array FieldType.byte)) ∈ jj_gw := jj_mem1 (List.mem_of_getElem? (i := 172) (by decide +kernel)) (by decide +kernel)
theorem wd_173 : Cond.methodLink "java/util/Arrays" (310 : Nat) (⟨"[B", "clone", "()Ljava/lang/Object;"⟩ : MethodName) ∈ jj_gw := jj_mem1 (List.mem_of_getElem? (i := 173) (by decide +kernel)) (by decide +kernel)
theorem wd_174 : Cond.sameMethod "[B" "java/lang/Object" "clone" "()Ljava/lang/Object;" ∈ jj_gw := jj_mem1 (List.mem_of_getElem? (i := 174) (by decide +kernel)) (by decide +kernel)
theorem wd_175 : Cond.native (⟨"java/lang/Object", "clone", "()Ljava/lang/Object;"⟩ : MethodName) ∈ jj_gw := jj_mem1 (List.mem_of_getElem? (i := 175) (by decide +kernel)) (by decide +kernel)
theorem wd_176 : Cond.instanceMethod (⟨"java/lang/Object", "clone", "()Ljava/lang/Object;"⟩ : MethodName) ∈ jj_gw := jj_mem1 (List.mem_of_getElem? (i := 176) (by decide +kernel)) (by decide +kernel)
theorem wd_177 : Cond.selects "[B" (⟨"[B", "clone", "()Ljava/lang/Object;"⟩ : MethodName) (⟨"java/lang/Object", "clone", "()Ljava/lang/Object;"⟩ : MethodName) ∈ jj_gw := jj_mem1 (List.mem_of_getElem? (i := 177) (by decide +kernel)) (by decide +kernel)
theorem wd_179 : Cond.classLink "java/util/Arrays" (311 : Nat) "[B" ∈ jj_gw := jj_mem1 (List.mem_of_getElem? (i := 179) (by decide +kernel)) (by decide +kernel)
theorem wd_180 : Cond.methodLink "java/util/Arrays" (304 : Nat) (⟨"java/lang/Math", "min", "(II)I"⟩ : MethodName) ∈ jj_gw := jj_mem1 (List.mem_of_getElem? (i := 180) (by decide +kernel)) (by decide +kernel)
theorem wd_181 : Cond.static (⟨"java/lang/Math", "min", "(II)I"⟩ : MethodName) ∈ jj_gw := jj_mem1 (List.mem_of_getElem? (i := 181) (by decide +kernel)) (by decide +kernel)
theorem wd_182 : Cond.code (⟨"java/lang/Math", "min", "(II)I"⟩ : MethodName) prog_16_method_69_code (2 : Nat) (Option.some FieldType.int) ∈ jj_gw := jj_mem1 (List.mem_of_getElem? (i := 182) (by decide +kernel)) (by decide +kernel)
theorem wd_183 : Cond.methodLink "java/util/Arrays" (150 : Nat) (⟨"java/lang/System", "arraycopy", "(Ljava/lang/Object;ILjava/lang/Object;II)V"⟩ : MethodName) ∈ jj_gw := jj_mem1 (List.mem_of_getElem? (i := 183) (by decide +kernel)) (by decide +kernel)
theorem wd_184 : Cond.static (⟨"java/lang/System", "arraycopy", "(Ljava/lang/Object;ILjava/lang/Object;II)V"⟩ : MethodName) ∈ jj_gw := jj_mem1 (List.mem_of_getElem? (i := 184) (by decide +kernel)) (by decide +kernel)
theorem wd_185 : Cond.native (⟨"java/lang/System", "arraycopy", "(Ljava/lang/Object;ILjava/lang/Object;II)V"⟩ : MethodName) ∈ jj_gw := jj_mem1 (List.mem_of_getElem? (i := 185) (by decide +kernel)) (by decide +kernel)
theorem wd_186 : Cond.methodLink "java/lang/AbstractStringBuilder" (83 : Nat) (⟨"java/lang/AbstractStringBuilder", "isLatin1", "()Z"⟩ : MethodName) ∈ jj_gw := jj_mem1 (List.mem_of_getElem? (i := 186) (by decide +kernel)) (by decide +kernel)
theorem wd_187 : Cond.instanceMethod (⟨"java/lang/AbstractStringBuilder", "isLatin1", "()Z"⟩ : MethodName) ∈ jj_gw := jj_mem1 (List.mem_of_getElem? (i := 187) (by decide +kernel)) (by decide +kernel)
theorem wd_188 : Cond.sameMethod "java/lang/AbstractStringBuilder" "java/lang/AbstractStringBuilder" "isLatin1" "()Z" ∈ jj_gw := jj_mem1 (List.mem_of_getElem? (i := 188) (by decide +kernel)) (by decide +kernel)
theorem wd_189 : Cond.selects "java/lang/StringBuilder" (⟨"java/lang/AbstractStringBuilder", "isLatin1", "()Z"⟩ : MethodName) (⟨"java/lang/AbstractStringBuilder", "isLatin1", "()Z"⟩ : MethodName) ∈ jj_gw := jj_mem1 (List.mem_of_getElem? (i := 189) (by decide +kernel)) (by decide +kernel)
theorem wd_190 : Cond.code (⟨"java/lang/AbstractStringBuilder", "isLatin1", "()Z"⟩ : MethodName) prog_13_method_68_code (1 : Nat) (Option.some FieldType.boolean) ∈ jj_gw := jj_mem1 (List.mem_of_getElem? (i := 190) (by decide +kernel)) (by decide +kernel)
theorem wd_191 : Cond.methodLink "java/lang/AbstractStringBuilder" (191 : Nat) (⟨"java/lang/StringLatin1", "canEncode", "(C)Z"⟩ : MethodName) ∈ jj_gw := jj_mem1 (List.mem_of_getElem? (i := 191) (by decide +kernel)) (by decide +kernel)
theorem wd_192 : Cond.static (⟨"java/lang/StringLatin1", "canEncode", "(C)Z"⟩ : MethodName) ∈ jj_gw := jj_mem1 (List.mem_of_getElem? (i := 192) (by decide +kernel)) (by decide +kernel)
theorem wd_193 : Cond.code (⟨"java/lang/StringLatin1", "canEncode", "(C)Z"⟩ : MethodName) prog_19_method_3_code (1 : Nat) (Option.some FieldType.boolean) ∈ jj_gw := jj_mem1 (List.mem_of_getElem? (i := 193) (by decide +kernel)) (by decide +kernel)
theorem wd_194 : Cond.methodLink "java/lang/AbstractStringBuilder" (195 : Nat) (⟨"java/lang/AbstractStringBuilder", "inflate", "()V"⟩ : MethodName) ∈ jj_gw := jj_mem1 (List.mem_of_getElem? (i := 194) (by decide +kernel)) (by decide +kernel)
theorem wd_196 : Cond.instanceMethod (⟨"java/lang/AbstractStringBuilder", "inflate", "()V"⟩ : MethodName) ∈ jj_gw := jj_mem1 (List.mem_of_getElem? (i := 196) (by decide +kernel)) (by decide +kernel)
theorem wd_197 : Cond.code (⟨"java/lang/AbstractStringBuilder", "inflate", "()V"⟩ : MethodName) prog_13_method_11_code (2 : Nat) (Option.none : Option FieldType) ∈ jj_gw := jj_mem1 (List.mem_of_getElem? (i := 197) (by decide +kernel)) (by decide +kernel)
theorem wd_198 : Cond.methodLink "java/lang/AbstractStringBuilder" (125 : Nat) (⟨"java/lang/StringLatin1", "inflate", "([BI[BII)V"⟩ : MethodName) ∈ jj_gw := jj_mem1 (List.mem_of_getElem? (i := 198) (by decide +kernel)) (by decide +kernel)
theorem wd_199 : Cond.static (⟨"java/lang/StringLatin1", "inflate", "([BI[BII)V"⟩ : MethodName) ∈ jj_gw := jj_mem1 (List.mem_of_getElem? (i := 199) (by decide +kernel)) (by decide +kernel)
theorem wd_200 : Cond.code (⟨"java/lang/StringLatin1", "inflate", "([BI[BII)V"⟩ : MethodName) prog_19_method_50_code (5 : Nat) (Option.none : Option FieldType) ∈ jj_gw := jj_mem1 (List.mem_of_getElem? (i := 200) (by decide +kernel)) (by decide +kernel)
theorem wd_201 : Cond.methodLink "java/lang/StringLatin1" (240 : Nat) (⟨"java/lang/StringUTF16", "inflate", "([BI[BII)V"⟩ : MethodName) ∈ jj_gw := jj_mem1 (List.mem_of_getElem? (i := 201) (by decide +kernel)) (by decide +kernel)
theorem wd_202 : Cond.static (⟨"java/lang/StringUTF16", "inflate", "([BI[BII)V"⟩ : MethodName) ∈ jj_gw := jj_mem1 (List.mem_of_getElem? (i := 202) (by decide +kernel)) (by decide +kernel)
theorem wd_203 : Cond.code (⟨"java/lang/StringUTF16", "inflate", "([BI[BII)V"⟩ : MethodName) prog_20_method_86_code (6 : Nat) (Option.none : Option FieldType) ∈ jj_gw := jj_mem1 (List.mem_of_getElem? (i := 203) (by decide +kernel)) (by decide +kernel)
theorem wd_204 : Cond.methodLink "java/lang/StringUTF16" (173 : Nat) (⟨"java/lang/StringUTF16", "checkBoundsOffCount", "(II[B)V"⟩ : MethodName) ∈ jj_gw := jj_mem1 (List.mem_of_getElem? (i := 204) (by decide +kernel)) (by decide +kernel)
theorem wd_205 : Cond.static (⟨"java/lang/StringUTF16", "checkBoundsOffCount", "(II[B)V"⟩ : MethodName) ∈ jj_gw := jj_mem1 (List.mem_of_getElem? (i := 205) (by decide +kernel)) (by decide +kernel)
theorem wd_206 : Cond.code (⟨"java/lang/StringUTF16", "checkBoundsOffCount", "(II[B)V"⟩ : MethodName) prog_20_method_94_code (3 : Nat) (Option.none : Option FieldType) ∈ jj_gw := jj_mem1 (List.mem_of_getElem? (i := 206) (by decide +kernel)) (by decide +kernel)
theorem wd_207 : Cond.methodLink "java/lang/StringUTF16" (48 : Nat) (⟨"java/lang/StringUTF16", "length", "([B)I"⟩ : MethodName) ∈ jj_gw := jj_mem1 (List.mem_of_getElem? (i := 207) (by decide +kernel)) (by decide +kernel)
theorem wd_208 : Cond.static (⟨"java/lang/StringUTF16", "length", "([B)I"⟩ : MethodName) ∈ jj_gw := jj_mem1 (List.mem_of_getElem? (i := 208) (by decide +kernel)) (by decide +kernel)
theorem wd_209 : Cond.code (⟨"java/lang/StringUTF16", "length", "([B)I"⟩ : MethodName) prog_20_method_6_code (1 : Nat) (Option.some FieldType.int) ∈ jj_gw := jj_mem1 (List.mem_of_getElem? (i := 209) (by decide +kernel)) (by decide +kernel)
theorem wd_210 : Cond.methodLink "java/lang/StringUTF16" (419 : Nat) (⟨"java/lang/String", "checkBoundsOffCount", "(III)I"⟩ : MethodName) ∈ jj_gw := jj_mem1 (List.mem_of_getElem? (i := 210) (by decide +kernel)) (by decide +kernel)
theorem wd_211 : Cond.static (⟨"java/lang/String", "checkBoundsOffCount", "(III)I"⟩ : MethodName) ∈ jj_gw := jj_mem1 (List.mem_of_getElem? (i := 211) (by decide +kernel)) (by decide +kernel)
theorem wd_212 : Cond.code (⟨"java/lang/String", "checkBoundsOffCount", "(III)I"⟩ : MethodName) prog_17_method_157_code (3 : Nat) (Option.some FieldType.int) ∈ jj_gw := jj_mem1 (List.mem_of_getElem? (i := 212) (by decide +kernel)) (by decide +kernel)
theorem wd_213 : Cond.fieldLink "java/lang/String" (1053 : Nat) "jdk/internal/util/Preconditions" "SIOOBE_FORMATTER" "Ljava/util/function/BiFunction;" ∈ jj_gw := jj_mem1 (List.mem_of_getElem? (i := 213) (by decide +kernel)) (by decide +kernel)
theorem wd_215 : Cond.methodLink "java/lang/String" (1065 : Nat) (⟨"jdk/internal/util/Preconditions", "checkFromIndexSize", "(IIILjava/util/function/BiFunction;)I"⟩ : MethodName) ∈ jj_gw := jj_mem1 (List.mem_of_getElem? (i := 215) (by decide +kernel)) (by decide +kernel)
theorem wd_216 : Cond.static (⟨"jdk/internal/util/Preconditions", "checkFromIndexSize", "(IIILjava/util/function/BiFunction;)I"⟩ : MethodName) ∈ jj_gw := jj_mem1 (List.mem_of_getElem? (i := 216) (by decide +kernel)) (by decide +kernel)
theorem wd_217 : Cond.code (⟨"jdk/internal/util/Preconditions", "checkFromIndexSize", "(IIILjava/util/function/BiFunction;)I"⟩ : MethodName) prog_24_method_13_code (4 : Nat) (Option.some FieldType.int) ∈ jj_gw := jj_mem1 (List.mem_of_getElem? (i := 217) (by decide +kernel)) (by decide +kernel)
theorem wd_218 : Cond.methodLink "java/lang/StringUTF16" (111 : Nat) (⟨"java/lang/StringUTF16", "putChar", "([BII)V"⟩ : MethodName) ∈ jj_gw := jj_mem1 (List.mem_of_getElem? (i := 218) (by decide +kernel)) (by decide +kernel)
theorem wd_219 : Cond.static (⟨"java/lang/StringUTF16", "putChar", "([BII)V"⟩ : MethodName) ∈ jj_gw := jj_mem1 (List.mem_of_getElem? (i := 219) (by decide +kernel)) (by decide +kernel)
theorem wd_220 : Cond.code (⟨"java/lang/StringUTF16", "putChar", "([BII)V"⟩ : MethodName) prog_20_method_4_code (3 : Nat) (Option.none : Option FieldType) ∈ jj_gw := jj_mem1 (List.mem_of_getElem? (i := 220) (by decide +kernel)) (by decide +kernel)
theorem wd_221 : Cond.fieldLink "java/lang/StringUTF16" (44 : Nat) "java/lang/StringUTF16" "$assertionsDisabled" "Z" ∈ jj_gw := jj_mem1 (List.mem_of_getElem? (i := 221) (by decide +kernel)) (by decide +kernel)
theorem wd_223 : Cond.fieldLink "java/lang/StringUTF16" (59 : Nat) "java/lang/StringUTF16" "HI_BYTE_SHIFT" "I" ∈ jj_gw := jj_mem1 (List.mem_of_getElem? (i := 223) (by decide +kernel)) (by decide +kernel)
theorem wd_225 : Cond.fieldLink "java/lang/StringUTF16" (63 : Nat) "java/lang/StringUTF16" "LO_BYTE_SHIFT" "I" ∈ jj_gw := jj_mem1 (List.mem_of_getElem? (i := 225) (by decide +kernel)) (by decide +kernel)
theorem wd_227 : Cond.methodLink "java/lang/AbstractStringBuilder" (197 : Nat) (⟨"java/lang/StringUTF16", "putCharSB", "([BII)V"⟩ : MethodName) ∈ jj_gw := jj_mem1 (List.mem_of_getElem? (i := 227) (by decide +kernel)) (by decide +kernel)
theorem wd_228 : Cond.static (⟨"java/lang/StringUTF16", "putCharSB", "([BII)V"⟩ : MethodName) ∈ jj_gw := jj_mem1 (List.mem_of_getElem? (i := 228) (by decide +kernel)) (by decide +kernel)
theorem wd_229 : Cond.code (⟨"java/lang/StringUTF16", "putCharSB", "([BII)V"⟩ : MethodName) prog_20_method_71_code (3 : Nat) (Option.none : Option FieldType) ∈ jj_gw := jj_mem1 (List.mem_of_getElem? (i := 229) (by decide +kernel)) (by decide +kernel)
theorem wd_230 : Cond.methodLink "java/lang/StringUTF16" (67 : Nat) (⟨"java/lang/StringUTF16", "checkIndex", "(I[B)V"⟩ : MethodName) ∈ jj_gw := jj_mem1 (List.mem_of_getElem? (i := 230) (by decide +kernel)) (by decide +kernel)
theorem wd_231 : Cond.static (⟨"java/lang/StringUTF16", "checkIndex", "(I[B)V"⟩ : MethodName) ∈ jj_gw := jj_mem1 (List.mem_of_getElem? (i := 231) (by decide +kernel)) (by decide +kernel)
theorem wd_232 : Cond.code (⟨"java/lang/StringUTF16", "checkIndex", "(I[B)V"⟩ : MethodName) prog_20_method_91_code (2 : Nat) (Option.none : Option FieldType) ∈ jj_gw := jj_mem1 (List.mem_of_getElem? (i := 232) (by decide +kernel)) (by decide +kernel)
theorem wd_233 : Cond.methodLink "java/lang/StringUTF16" (414 : Nat) (⟨"java/lang/String", "checkIndex", "(II)V"⟩ : MethodName) ∈ jj_gw := jj_mem1 (List.mem_of_getElem? (i := 233) (by decide +kernel)) (by decide +kernel)
theorem wd_234 : Cond.static (⟨"java/lang/String", "checkIndex", "(II)V"⟩ : MethodName) ∈ jj_gw := jj_mem1 (List.mem_of_getElem? (i := 234) (by decide +kernel)) (by decide +kernel)
theorem wd_235 : Cond.code (⟨"java/lang/String", "checkIndex", "(II)V"⟩ : MethodName) prog_17_method_155_code (2 : Nat) (Option.none : Option FieldType) ∈ jj_gw := jj_mem1 (List.mem_of_getElem? (i := 235) (by decide +kernel)) (by decide +kernel)
theorem wd_236 : Cond.methodLink "java/lang/String" (1059 : Nat) (⟨"jdk/internal/util/Preconditions", "checkIndex", "(IILjava/util/function/BiFunction;)I"⟩ : MethodName) ∈ jj_gw := jj_mem1 (List.mem_of_getElem? (i := 236) (by decide +kernel)) (by decide +kernel)
theorem wd_237 : Cond.static (⟨"jdk/internal/util/Preconditions", "checkIndex", "(IILjava/util/function/BiFunction;)I"⟩ : MethodName) ∈ jj_gw := jj_mem1 (List.mem_of_getElem? (i := 237) (by decide +kernel)) (by decide +kernel)
theorem wd_238 : Cond.code (⟨"jdk/internal/util/Preconditions", "checkIndex", "(IILjava/util/function/BiFunction;)I"⟩ : MethodName) prog_24_method_11_code (3 : Nat) (Option.some FieldType.int) ∈ jj_gw := jj_mem1 (List.mem_of_getElem? (i := 238) (by decide +kernel)) (by decide +kernel)
theorem wd_239 : Cond.methodLink "BeanServerLaw" (18 : Nat) (⟨"BeanServer", "register", "()I"⟩ : MethodName) ∈ jj_gw := jj_mem1 (List.mem_of_getElem? (i := 239) (by decide +kernel)) (by decide +kernel)
theorem wd_240 : Cond.instanceMethod (⟨"BeanServer", "register", "()I"⟩ : MethodName) ∈ jj_gw := jj_mem2 (List.mem_of_getElem? (i := 0) (by decide +kernel)) (by decide +kernel)
theorem wd_241 : Cond.selects "BeanServer" (⟨"BeanServer", "register", "()I"⟩ : MethodName) (⟨"BeanServer", "register", "()I"⟩ : MethodName) ∈ jj_gw := jj_mem2 (List.mem_of_getElem? (i := 1) (by decide +kernel)) (by decide +kernel)
theorem wd_242 : Cond.code (⟨"BeanServer", "register", "()I"⟩ : MethodName) prog_1_method_3_code (3 : Nat) (Option.some FieldType.int) ∈ jj_gw := jj_mem2 (List.mem_of_getElem? (i := 2) (by decide +kernel)) (by decide +kernel)
theorem wd_243 : Cond.methodLink "BeanServer" (66 : Nat) (⟨"BeanServer", "takenName", "()LBeanServer$Pattern;"⟩ : MethodName) ∈ jj_gw := jj_mem2 (List.mem_of_getElem? (i := 3) (by decide +kernel)) (by decide +kernel)
theorem wd_245 : Cond.instanceMethod (⟨"BeanServer", "takenName", "()LBeanServer$Pattern;"⟩ : MethodName) ∈ jj_gw := jj_mem2 (List.mem_of_getElem? (i := 5) (by decide +kernel)) (by decide +kernel)
theorem wd_246 : Cond.code (⟨"BeanServer", "takenName", "()LBeanServer$Pattern;"⟩ : MethodName) prog_1_method_22_code (2 : Nat) (Option.some (FieldType.object "BeanServer$Pattern")) ∈ jj_gw := jj_mem2 (List.mem_of_getElem? (i := 6) (by decide +kernel)) (by decide +kernel)
theorem wd_247 : Cond.methodLink "BeanServer" (104 : Nat) (⟨"BeanServer", "taken", "()Ljava/lang/String;"⟩ : MethodName) ∈ jj_gw := jj_mem2 (List.mem_of_getElem? (i := 7) (by decide +kernel)) (by decide +kernel)
theorem wd_249 : Cond.instanceMethod (⟨"BeanServer", "taken", "()Ljava/lang/String;"⟩ : MethodName) ∈ jj_gw := jj_mem2 (List.mem_of_getElem? (i := 9) (by decide +kernel)) (by decide +kernel)
theorem wd_250 : Cond.code (⟨"BeanServer", "taken", "()Ljava/lang/String;"⟩ : MethodName) prog_1_method_21_code (2 : Nat) (Option.some (FieldType.object "java/lang/String")) ∈ jj_gw := jj_mem2 (List.mem_of_getElem? (i := 10) (by decide +kernel)) (by decide +kernel)
theorem wd_251 : Cond.methodLink "BeanServer" (201 : Nat) (⟨"java/lang/StringBuilder", "toString", "()Ljava/lang/String;"⟩ : MethodName) ∈ jj_gw := jj_mem2 (List.mem_of_getElem? (i := 11) (by decide +kernel)) (by decide +kernel)
theorem wd_252 : Cond.instanceMethod (⟨"java/lang/StringBuilder", "toString", "()Ljava/lang/String;"⟩ : MethodName) ∈ jj_gw := jj_mem2 (List.mem_of_getElem? (i := 12) (by decide +kernel)) (by decide +kernel)
theorem wd_253 : Cond.selects "java/lang/StringBuilder" (⟨"java/lang/StringBuilder", "toString", "()Ljava/lang/String;"⟩ : MethodName) (⟨"java/lang/StringBuilder", "toString", "()Ljava/lang/String;"⟩ : MethodName) ∈ jj_gw := jj_mem2 (List.mem_of_getElem? (i := 13) (by decide +kernel)) (by decide +kernel)
theorem wd_254 : Cond.code (⟨"java/lang/StringBuilder", "toString", "()Ljava/lang/String;"⟩ : MethodName) prog_18_method_42_code (1 : Nat) (Option.some (FieldType.object "java/lang/String")) ∈ jj_gw := jj_mem2 (List.mem_of_getElem? (i := 14) (by decide +kernel)) (by decide +kernel)
theorem wd_255 : Cond.classLink "java/lang/StringBuilder" (18 : Nat) "java/lang/String" ∈ jj_gw := jj_mem2 (List.mem_of_getElem? (i := 15) (by decide +kernel)) (by decide +kernel)
theorem wd_256 : Cond.instantiable "java/lang/String" (4 : Nat) ∈ jj_gw := jj_mem2 (List.mem_of_getElem? (i := 16) (by decide +kernel)) (by decide +kernel)
theorem wd_257 : Cond.methodLink "java/lang/StringBuilder" (137 : Nat) (⟨"java/lang/String", "<init>", "(Ljava/lang/StringBuilder;)V"⟩ : MethodName) ∈ jj_gw := jj_mem2 (List.mem_of_getElem? (i := 17) (by decide +kernel)) (by decide +kernel)
theorem wd_258 : Cond.instanceMethod (⟨"java/lang/String", "<init>", "(Ljava/lang/StringBuilder;)V"⟩ : MethodName) ∈ jj_gw := jj_mem2 (List.mem_of_getElem? (i := 18) (by decide +kernel)) (by decide +kernel)
theorem wd_259 : Cond.code (⟨"java/lang/String", "<init>", "(Ljava/lang/StringBuilder;)V"⟩ : MethodName) prog_17_method_53_code (2 : Nat) (Option.none : Option FieldType) ∈ jj_gw := jj_mem2 (List.mem_of_getElem? (i := 19) (by decide +kernel)) (by decide +kernel)
theorem wd_260 : Cond.methodLink "java/lang/String" (489 : Nat) (⟨"java/lang/String", "<init>", "(Ljava/lang/AbstractStringBuilder;Ljava/lang/Void;)V"⟩ : MethodName) ∈ jj_gw := jj_mem2 (List.mem_of_getElem? (i := 20) (by decide +kernel)) (by decide +kernel)
theorem wd_261 : Cond.instanceMethod (⟨"java/lang/String", "<init>", "(Ljava/lang/AbstractStringBuilder;Ljava/lang/Void;)V"⟩ : MethodName) ∈ jj_gw := jj_mem2 (List.mem_of_getElem? (i := 21) (by decide +kernel)) (by decide +kernel)
theorem wd_262 : Cond.code (⟨"java/lang/String", "<init>", "(Ljava/lang/AbstractStringBuilder;Ljava/lang/Void;)V"⟩ : MethodName) prog_17_method_150_code (5 : Nat) (Option.none : Option FieldType) ∈ jj_gw := jj_mem2 (List.mem_of_getElem? (i := 22) (by decide +kernel)) (by decide +kernel)
theorem wd_263 : Cond.methodLink "java/lang/String" (1 : Nat) (⟨"java/lang/Object", "<init>", "()V"⟩ : MethodName) ∈ jj_gw := jj_mem2 (List.mem_of_getElem? (i := 23) (by decide +kernel)) (by decide +kernel)
theorem wd_264 : Cond.methodLink "java/lang/String" (552 : Nat) (⟨"java/lang/AbstractStringBuilder", "getValue", "()[B"⟩ : MethodName) ∈ jj_gw := jj_mem2 (List.mem_of_getElem? (i := 24) (by decide +kernel)) (by decide +kernel)
theorem wd_265 : Cond.instanceMethod (⟨"java/lang/AbstractStringBuilder", "getValue", "()[B"⟩ : MethodName) ∈ jj_gw := jj_mem2 (List.mem_of_getElem? (i := 25) (by decide +kernel)) (by decide +kernel)
theorem wd_266 : Cond.sameMethod "java/lang/AbstractStringBuilder" "java/lang/AbstractStringBuilder" "getValue" "()[B" ∈ jj_gw := jj_mem2 (List.mem_of_getElem? (i := 26) (by decide +kernel)) (by decide +kernel)
theorem wd_267 : Cond.selects "java/lang/StringBuilder" (⟨"java/lang/AbstractStringBuilder", "getValue", "()[B"⟩ : MethodName) (⟨"java/lang/AbstractStringBuilder", "getValue", "()[B"⟩ : MethodName) ∈ jj_gw := jj_mem2 (List.mem_of_getElem? (i := 27) (by decide +kernel)) (by decide +kernel)
theorem wd_268 : Cond.code (⟨"java/lang/AbstractStringBuilder", "getValue", "()[B"⟩ : MethodName) prog_13_method_64_code (1 : Nat) (Option.some (FieldType.array FieldType.byte)) ∈ jj_gw := jj_mem2 (List.mem_of_getElem? (i := 28) (by decide +kernel)) (by decide +kernel)
theorem wd_269 : Cond.methodLink "java/lang/String" (549 : Nat) (⟨"java/lang/AbstractStringBuilder", "length", "()I"⟩ : MethodName) ∈ jj_gw := jj_mem2 (List.mem_of_getElem? (i := 29) (by decide +kernel)) (by decide +kernel)
theorem wd_270 : Cond.methodLink "java/lang/String" (1047 : Nat) (⟨"java/lang/AbstractStringBuilder", "isLatin1", "()Z"⟩ : MethodName) ∈ jj_gw := jj_mem2 (List.mem_of_getElem? (i := 30) (by decide +kernel)) (by decide +kernel)
theorem wd_271 : Cond.methodLink "java/lang/String" (54 : Nat) (⟨"java/util/Arrays", "copyOfRange", "([BII)[B"⟩ : MethodName) ∈ jj_gw := jj_mem2 (List.mem_of_getElem? (i := 31) (by decide +kernel)) (by decide +kernel)
theorem wd_272 : Cond.static (⟨"java/util/Arrays", "copyOfRange", "([BII)[B"⟩ : MethodName) ∈ jj_gw := jj_mem2 (List.mem_of_getElem? (i := 32) (by decide +kernel)) (by decide +kernel)
theorem wd_273 : Cond.code (⟨"java/util/Arrays", "copyOfRange", "([BII)[B"⟩ : MethodName) prog_22_method_132_code (3 : Nat) (Option.some (FieldType.array FieldType.byte)) ∈ jj_gw := jj_mem2 (List.mem_of_getElem? (i := 33) (by decide +kernel)) (by decide +kernel)
theorem wd_274 : Cond.methodLink "java/util/Arrays" (339 : Nat) (⟨"java/util/Arrays", "copyOfRangeByte", "([BII)[B"⟩ : MethodName) ∈ jj_gw := jj_mem2 (List.mem_of_getElem? (i := 34) (by decide +kernel)) (by decide +kernel)
theorem wd_275 : Cond.static (⟨"java/util/Arrays", "copyOfRangeByte", "([BII)[B"⟩ : MethodName) ∈ jj_gw := jj_mem2 (List.mem_of_getElem? (i := 35) (by decide +kernel)) (by decide +kernel)
theorem wd_276 : Cond.code (⟨"java/util/Arrays", "copyOfRangeByte", "([BII)[B"⟩ : MethodName) prog_22_method_133_code (5 : Nat) (Option.some (FieldType.array FieldType.byte)) ∈ jj_gw := jj_mem2 (List.mem_of_getElem? (i := 36) (by decide +kernel)) (by decide +kernel)
theorem wd_277 : Cond.methodLink "java/util/Arrays" (343 : Nat) (⟨"java/util/Arrays", "checkLength", "(II)V"⟩ : MethodName) ∈ jj_gw := jj_mem2 (List.mem_of_getElem? (i := 37) (by decide +kernel)) (by decide +kernel)
theorem wd_278 : Cond.static (⟨"java/util/Arrays", "checkLength", "(II)V"⟩ : MethodName) ∈ jj_gw := jj_mem2 (List.mem_of_getElem? (i := 38) (by decide +kernel)) (by decide +kernel)
theorem wd_279 : Cond.code (⟨"java/util/Arrays", "checkLength", "(II)V"⟩ : MethodName) prog_22_method_131_code (2 : Nat) (Option.none : Option FieldType) ∈ jj_gw := jj_mem2 (List.mem_of_getElem? (i := 39) (by decide +kernel)) (by decide +kernel)
theorem wd_280 : Cond.fieldLink "java/lang/String" (38 : Nat) "java/lang/String" "COMPACT_STRINGS" "Z" ∈ jj_gw := jj_mem2 (List.mem_of_getElem? (i := 40) (by decide +kernel)) (by decide +kernel)
theorem wd_281 : Cond.methodLink "java/lang/String" (1051 : Nat) (⟨"java/lang/StringUTF16", "compress", "([BII)[B"⟩ : MethodName) ∈ jj_gw := jj_mem2 (List.mem_of_getElem? (i := 41) (by decide +kernel)) (by decide +kernel)
theorem wd_282 : Cond.static (⟨"java/lang/StringUTF16", "compress", "([BII)[B"⟩ : MethodName) ∈ jj_gw := jj_mem2 (List.mem_of_getElem? (i := 42) (by decide +kernel)) (by decide +kernel)
theorem wd_283 : Cond.code (⟨"java/lang/StringUTF16", "compress", "([BII)[B"⟩ : MethodName) prog_20_method_17_code (6 : Nat) (Option.some (FieldType.array FieldType.byte)) ∈ jj_gw := jj_mem2 (List.mem_of_getElem? (i := 43) (by decide +kernel)) (by decide +kernel)
theorem wd_284 : Cond.methodLink "java/lang/StringUTF16" (123 : Nat) (⟨"java/lang/StringUTF16", "compress", "([BI[BII)I"⟩ : MethodName) ∈ jj_gw := jj_mem2 (List.mem_of_getElem? (i := 44) (by decide +kernel)) (by decide +kernel)
theorem wd_285 : Cond.static (⟨"java/lang/StringUTF16", "compress", "([BI[BII)I"⟩ : MethodName) ∈ jj_gw := jj_mem2 (List.mem_of_getElem? (i := 45) (by decide +kernel)) (by decide +kernel)
theorem wd_286 : Cond.code (⟨"java/lang/StringUTF16", "compress", "([BI[BII)I"⟩ : MethodName) prog_20_method_22_code (7 : Nat) (Option.some FieldType.int) ∈ jj_gw := jj_mem2 (List.mem_of_getElem? (i := 46) (by decide +kernel)) (by decide +kernel)
theorem wd_287 : Cond.methodLink "java/lang/StringUTF16" (71 : Nat) (⟨"java/lang/StringUTF16", "getChar", "([BI)C"⟩ : MethodName) ∈ jj_gw := jj_mem2 (List.mem_of_getElem? (i := 47) (by decide +kernel)) (by decide +kernel)
theorem wd_288 : Cond.static (⟨"java/lang/StringUTF16", "getChar", "([BI)C"⟩ : MethodName) ∈ jj_gw := jj_mem2 (List.mem_of_getElem? (i := 48) (by decide +kernel)) (by decide +kernel)
theorem wd_289 : Cond.code (⟨"java/lang/StringUTF16", "getChar", "([BI)C"⟩ : MethodName) prog_20_method_5_code (2 : Nat) (Option.some FieldType.char) ∈ jj_gw := jj_mem2 (List.mem_of_getElem? (i := 49) (by decide +kernel)) (by decide +kernel)
theorem wd_290 : Cond.methodLink "java/lang/StringUTF16" (126 : Nat) (⟨"java/util/Arrays", "copyOfRange", "([BII)[B"⟩ : MethodName) ∈ jj_gw := jj_mem2 (List.mem_of_getElem? (i := 50) (by decide +kernel)) (by decide +kernel)
theorem wd_291 : Cond.methodLink "java/lang/String" (47 : Nat) (⟨"java/lang/StringUTF16", "coderFromArrayLen", "([BI)B"⟩ : MethodName) ∈ jj_gw := jj_mem2 (List.mem_of_getElem? (i := 51) (by decide +kernel)) (by decide +kernel)
theorem wd_292 : Cond.static (⟨"java/lang/StringUTF16", "coderFromArrayLen", "([BI)B"⟩ : MethodName) ∈ jj_gw := jj_mem2 (List.mem_of_getElem? (i := 52) (by decide +kernel)) (by decide +kernel)
theorem wd_293 : Cond.code (⟨"java/lang/StringUTF16", "coderFromArrayLen", "([BI)B"⟩ : MethodName) prog_20_method_15_code (2 : Nat) (Option.some FieldType.byte) ∈ jj_gw := jj_mem2 (List.mem_of_getElem? (i := 53) (by decide +kernel)) (by decide +kernel)
theorem wd_294 : Cond.fieldLink "java/lang/String" (9 : Nat) "java/lang/String" "value" "[B" ∈ jj_gw := jj_mem2 (List.mem_of_getElem? (i := 54) (by decide +kernel)) (by decide +kernel)
theorem wd_295 : Cond.fieldLink "java/lang/String" (15 : Nat) "java/lang/String" "coder" "B" ∈ jj_gw := jj_mem2 (List.mem_of_getElem? (i := 55) (by decide +kernel)) (by decide +kernel)
theorem wd_296 : Cond.laysFinal "java/lang/String" "java/lang/String" "value" "[B" ∈ jj_gw := jj_mem2 (List.mem_of_getElem? (i := 56) (by decide +kernel)) (by decide +kernel)
theorem wd_298 : Cond.laysFinal "java/lang/String" "java/lang/String" "coder" "B" ∈ jj_gw := jj_mem2 (List.mem_of_getElem? (i := 58) (by decide +kernel)) (by decide +kernel)
theorem wd_300 : Cond.lays "java/lang/String" "java/lang/String" "hash" "I" ∈ jj_gw := jj_mem2 (List.mem_of_getElem? (i := 60) (by decide +kernel)) (by decide +kernel)
theorem wd_302 : Cond.lays "java/lang/String" "java/lang/String" "hashIsZero" "Z" ∈ jj_gw := jj_mem2 (List.mem_of_getElem? (i := 62) (by decide +kernel)) (by decide +kernel)
theorem wd_304 : Cond.superclass "java/lang/String" "java/lang/Object" ∈ jj_gw := jj_mem2 (List.mem_of_getElem? (i := 64) (by decide +kernel)) (by decide +kernel)
theorem wd_305 : Cond.methodLink "BeanServer" (204 : Nat) (⟨"java/lang/StringBuilder", "setLength", "(I)V"⟩ : MethodName) ∈ jj_gw := jj_mem2 (List.mem_of_getElem? (i := 65) (by decide +kernel)) (by decide +kernel)
theorem wd_306 : Cond.instanceMethod (⟨"java/lang/StringBuilder", "setLength", "(I)V"⟩ : MethodName) ∈ jj_gw := jj_mem2 (List.mem_of_getElem? (i := 66) (by decide +kernel)) (by decide +kernel)
theorem wd_307 : Cond.selects "java/lang/StringBuilder" (⟨"java/lang/StringBuilder", "setLength", "(I)V"⟩ : MethodName) (⟨"java/lang/StringBuilder", "setLength", "(I)V"⟩ : MethodName) ∈ jj_gw := jj_mem2 (List.mem_of_getElem? (i := 67) (by decide +kernel)) (by decide +kernel)
theorem wd_308 : Cond.code (⟨"java/lang/StringBuilder", "setLength", "(I)V"⟩ : MethodName) prog_18_method_89_code (2 : Nat) (Option.none : Option FieldType) ∈ jj_gw := jj_mem2 (List.mem_of_getElem? (i := 68) (by decide +kernel)) (by decide +kernel)
theorem wd_309 : Cond.methodLink "java/lang/StringBuilder" (333 : Nat) (⟨"java/lang/AbstractStringBuilder", "setLength", "(I)V"⟩ : MethodName) ∈ jj_gw := jj_mem2 (List.mem_of_getElem? (i := 69) (by decide +kernel)) (by decide +kernel)
theorem wd_310 : Cond.instanceMethod (⟨"java/lang/AbstractStringBuilder", "setLength", "(I)V"⟩ : MethodName) ∈ jj_gw := jj_mem2 (List.mem_of_getElem? (i := 70) (by decide +kernel)) (by decide +kernel)
theorem wd_311 : Cond.code (⟨"java/lang/AbstractStringBuilder", "setLength", "(I)V"⟩ : MethodName) prog_13_method_13_code (2 : Nat) (Option.none : Option FieldType) ∈ jj_gw := jj_mem2 (List.mem_of_getElem? (i := 71) (by decide +kernel)) (by decide +kernel)
theorem wd_312 : Cond.methodLink "java/lang/AbstractStringBuilder" (133 : Nat) (⟨"java/lang/StringLatin1", "fillNull", "([BII)V"⟩ : MethodName) ∈ jj_gw := jj_mem2 (List.mem_of_getElem? (i := 72) (by decide +kernel)) (by decide +kernel)
theorem wd_313 : Cond.static (⟨"java/lang/StringLatin1", "fillNull", "([BII)V"⟩ : MethodName) ∈ jj_gw := jj_mem2 (List.mem_of_getElem? (i := 73) (by decide +kernel)) (by decide +kernel)
theorem wd_314 : Cond.code (⟨"java/lang/StringLatin1", "fillNull", "([BII)V"⟩ : MethodName) prog_19_method_48_code (3 : Nat) (Option.none : Option FieldType) ∈ jj_gw := jj_mem2 (List.mem_of_getElem? (i := 74) (by decide +kernel)) (by decide +kernel)
theorem wd_315 : Cond.methodLink "java/lang/StringLatin1" (236 : Nat) (⟨"java/util/Arrays", "fill", "([BIIB)V"⟩ : MethodName) ∈ jj_gw := jj_mem2 (List.mem_of_getElem? (i := 75) (by decide +kernel)) (by decide +kernel)
theorem wd_316 : Cond.static (⟨"java/util/Arrays", "fill", "([BIIB)V"⟩ : MethodName) ∈ jj_gw := jj_mem2 (List.mem_of_getElem? (i := 76) (by decide +kernel)) (by decide +kernel)
theorem wd_317 : Cond.code (⟨"java/util/Arrays", "fill", "([BIIB)V"⟩ : MethodName) prog_22_method_110_code (5 : Nat) (Option.none : Option FieldType) ∈ jj_gw := jj_mem2 (List.mem_of_getElem? (i := 77) (by decide +kernel)) (by decide +kernel)
theorem wd_318 : Cond.methodLink "java/util/Arrays" (13 : Nat) (⟨"java/util/Arrays", "rangeCheck", "(III)V"⟩ : MethodName) ∈ jj_gw := jj_mem2 (List.mem_of_getElem? (i := 78) (by decide +kernel)) (by decide +kernel)
theorem wd_319 : Cond.static (⟨"java/util/Arrays", "rangeCheck", "(III)V"⟩ : MethodName) ∈ jj_gw := jj_mem2 (List.mem_of_getElem? (i := 79) (by decide +kernel)) (by decide +kernel)
theorem wd_320 : Cond.code (⟨"java/util/Arrays", "rangeCheck", "(III)V"⟩ : MethodName) prog_22_method_30_code (3 : Nat) (Option.none : Option FieldType) ∈ jj_gw := jj_mem2 (List.mem_of_getElem? (i := 80) (by decide +kernel)) (by decide +kernel)
theorem wd_321 : Cond.methodLink "java/lang/AbstractStringBuilder" (137 : Nat) (⟨"java/lang/StringUTF16", "fillNull", "([BII)V"⟩ : MethodName) ∈ jj_gw := jj_mem2 (List.mem_of_getElem? (i := 81) (by decide +kernel)) (by decide +kernel)
theorem wd_322 : Cond.static (⟨"java/lang/StringUTF16", "fillNull", "([BII)V"⟩ : MethodName) ∈ jj_gw := jj_mem2 (List.mem_of_getElem? (i := 82) (by decide +kernel)) (by decide +kernel)
theorem wd_323 : Cond.code (⟨"java/lang/StringUTF16", "fillNull", "([BII)V"⟩ : MethodName) prog_20_method_70_code (3 : Nat) (Option.none : Option FieldType) ∈ jj_gw := jj_mem2 (List.mem_of_getElem? (i := 83) (by decide +kernel)) (by decide +kernel)
theorem wd_324 : Cond.methodLink "java/lang/StringUTF16" (380 : Nat) (⟨"java/util/Arrays", "fill", "([BIIB)V"⟩ : MethodName) ∈ jj_gw := jj_mem2 (List.mem_of_getElem? (i := 84) (by decide +kernel)) (by decide +kernel)
theorem wd_325 : Cond.methodLink "BeanServer" (143 : Nat) (⟨"BeanServer", "patternIn", "(Ljava/lang/String;)LBeanServer$Pattern;"⟩ : MethodName) ∈ jj_gw := jj_mem2 (List.mem_of_getElem? (i := 85) (by decide +kernel)) (by decide +kernel)
theorem wd_326 : Cond.static (⟨"BeanServer", "patternIn", "(Ljava/lang/String;)LBeanServer$Pattern;"⟩ : MethodName) ∈ jj_gw := jj_mem2 (List.mem_of_getElem? (i := 86) (by decide +kernel)) (by decide +kernel)
theorem wd_327 : Cond.code (⟨"BeanServer", "patternIn", "(Ljava/lang/String;)LBeanServer$Pattern;"⟩ : MethodName) prog_1_method_23_code (2 : Nat) (Option.some (FieldType.object "BeanServer$Pattern")) ∈ jj_gw := jj_mem2 (List.mem_of_getElem? (i := 87) (by decide +kernel)) (by decide +kernel)
theorem wd_328 : Cond.classLink "BeanServer" (71 : Nat) "BeanServer$Pattern" ∈ jj_gw := jj_mem2 (List.mem_of_getElem? (i := 88) (by decide +kernel)) (by decide +kernel)
theorem wd_329 : Cond.instantiable "BeanServer$Pattern" (6 : Nat) ∈ jj_gw := jj_mem2 (List.mem_of_getElem? (i := 89) (by decide +kernel)) (by decide +kernel)
theorem wd_330 : Cond.methodLink "BeanServer" (211 : Nat) (⟨"BeanServer$Pattern", "<init>", "(Ljava/lang/String;)V"⟩ : MethodName) ∈ jj_gw := jj_mem2 (List.mem_of_getElem? (i := 90) (by decide +kernel)) (by decide +kernel)
theorem wd_331 : Cond.instanceMethod (⟨"BeanServer$Pattern", "<init>", "(Ljava/lang/String;)V"⟩ : MethodName) ∈ jj_gw := jj_mem2 (List.mem_of_getElem? (i := 91) (by decide +kernel)) (by decide +kernel)
theorem wd_332 : Cond.code (⟨"BeanServer$Pattern", "<init>", "(Ljava/lang/String;)V"⟩ : MethodName) prog_7_method_1_code (2 : Nat) (Option.none : Option FieldType) ∈ jj_gw := jj_mem2 (List.mem_of_getElem? (i := 92) (by decide +kernel)) (by decide +kernel)
theorem wd_333 : Cond.methodLink "BeanServer$Pattern" (3 : Nat) (⟨"java/lang/Object", "<init>", "()V"⟩ : MethodName) ∈ jj_gw := jj_mem2 (List.mem_of_getElem? (i := 93) (by decide +kernel)) (by decide +kernel)
theorem wd_335 : Cond.fieldLink "BeanServer$Pattern" (32 : Nat) "BeanServer$Pattern" "text" "Ljava/lang/String;" ∈ jj_gw := jj_mem2 (List.mem_of_getElem? (i := 95) (by decide +kernel)) (by decide +kernel)
theorem wd_336 : Cond.fieldLink "BeanServer$Pattern" (9 : Nat) "BeanServer$Pattern" "starts" "[I" ∈ jj_gw := jj_mem2 (List.mem_of_getElem? (i := 96) (by decide +kernel)) (by decide +kernel)
theorem wd_337 : Cond.fieldLink "BeanServer$Pattern" (15 : Nat) "BeanServer$Pattern" "ends" "[I" ∈ jj_gw := jj_mem2 (List.mem_of_getElem? (i := 97) (by decide +kernel)) (by decide +kernel)
theorem wd_338 : Cond.fieldLink "BeanServer$Pattern" (18 : Nat) "BeanServer$Pattern" "domainEnd" "I" ∈ jj_gw := jj_mem2 (List.mem_of_getElem? (i := 98) (by decide +kernel)) (by decide +kernel)
theorem wd_339 : Cond.fieldLink "BeanServer$Pattern" (22 : Nat) "BeanServer$Pattern" "open" "Z" ∈ jj_gw := jj_mem2 (List.mem_of_getElem? (i := 99) (by decide +kernel)) (by decide +kernel)
theorem wd_340 : Cond.fieldLink "BeanServer$Pattern" (28 : Nat) "BeanServer$Pattern" "form" "Ljava/lang/String;" ∈ jj_gw := jj_mem2 (List.mem_of_getElem? (i := 100) (by decide +kernel)) (by decide +kernel)
theorem wd_341 : Cond.fieldLink "BeanServer" (70 : Nat) "BeanServer$Pattern" "form" "Ljava/lang/String;" ∈ jj_gw := jj_mem2 (List.mem_of_getElem? (i := 101) (by decide +kernel)) (by decide +kernel)
theorem wd_342 : Cond.laysFinal "BeanServer$Pattern" "BeanServer$Pattern" "text" "Ljava/lang/String;" ∈ jj_gw := jj_mem2 (List.mem_of_getElem? (i := 102) (by decide +kernel)) (by decide +kernel)
theorem wd_344 : Cond.laysFinal "BeanServer$Pattern" "BeanServer$Pattern" "starts" "[I" ∈ jj_gw := jj_mem2 (List.mem_of_getElem? (i := 104) (by decide +kernel)) (by decide +kernel)
theorem wd_346 : Cond.laysFinal "BeanServer$Pattern" "BeanServer$Pattern" "ends" "[I" ∈ jj_gw := jj_mem2 (List.mem_of_getElem? (i := 106) (by decide +kernel)) (by decide +kernel)
theorem wd_348 : Cond.lays "BeanServer$Pattern" "BeanServer$Pattern" "domainEnd" "I" ∈ jj_gw := jj_mem2 (List.mem_of_getElem? (i := 108) (by decide +kernel)) (by decide +kernel)
theorem wd_350 : Cond.lays "BeanServer$Pattern" "BeanServer$Pattern" "open" "Z" ∈ jj_gw := jj_mem2 (List.mem_of_getElem? (i := 110) (by decide +kernel)) (by decide +kernel)
theorem wd_352 : Cond.lays "BeanServer$Pattern" "BeanServer$Pattern" "form" "Ljava/lang/String;" ∈ jj_gw := jj_mem2 (List.mem_of_getElem? (i := 112) (by decide +kernel)) (by decide +kernel)
theorem wd_354 : Cond.superclass "BeanServer$Pattern" "java/lang/Object" ∈ jj_gw := jj_mem2 (List.mem_of_getElem? (i := 114) (by decide +kernel)) (by decide +kernel)
theorem wd_355 : Cond.methodLink "BeanServer" (212 : Nat) (⟨"BeanServer$Pattern", "parse", "()Z"⟩ : MethodName) ∈ jj_gw := jj_mem2 (List.mem_of_getElem? (i := 115) (by decide +kernel)) (by decide +kernel)
theorem wd_356 : Cond.instanceMethod (⟨"BeanServer$Pattern", "parse", "()Z"⟩ : MethodName) ∈ jj_gw := jj_mem2 (List.mem_of_getElem? (i := 116) (by decide +kernel)) (by decide +kernel)
theorem wd_357 : Cond.selects "BeanServer$Pattern" (⟨"BeanServer$Pattern", "parse", "()Z"⟩ : MethodName) (⟨"BeanServer$Pattern", "parse", "()Z"⟩ : MethodName) ∈ jj_gw := jj_mem2 (List.mem_of_getElem? (i := 117) (by decide +kernel)) (by decide +kernel)
theorem wd_358 : Cond.code (⟨"BeanServer$Pattern", "parse", "()Z"⟩ : MethodName) prog_7_method_2_code (1 : Nat) (Option.some FieldType.boolean) ∈ jj_gw := jj_mem2 (List.mem_of_getElem? (i := 118) (by decide +kernel)) (by decide +kernel)
theorem wd_359 : Cond.methodLink "BeanServer$Pattern" (35 : Nat) (⟨"BeanServer$Pattern", "rowEnd", "(I)I"⟩ : MethodName) ∈ jj_gw := jj_mem2 (List.mem_of_getElem? (i := 119) (by decide +kernel)) (by decide +kernel)
theorem wd_361 : Cond.instanceMethod (⟨"BeanServer$Pattern", "rowEnd", "(I)I"⟩ : MethodName) ∈ jj_gw := jj_mem2 (List.mem_of_getElem? (i := 121) (by decide +kernel)) (by decide +kernel)
theorem wd_362 : Cond.code (⟨"BeanServer$Pattern", "rowEnd", "(I)I"⟩ : MethodName) prog_7_method_5_code (3 : Nat) (Option.some FieldType.int) ∈ jj_gw := jj_mem2 (List.mem_of_getElem? (i := 122) (by decide +kernel)) (by decide +kernel)
theorem wd_363 : Cond.methodLink "BeanServer$Pattern" (39 : Nat) (⟨"java/lang/String", "length", "()I"⟩ : MethodName) ∈ jj_gw := jj_mem2 (List.mem_of_getElem? (i := 123) (by decide +kernel)) (by decide +kernel)
theorem wd_364 : Cond.instanceMethod (⟨"java/lang/String", "length", "()I"⟩ : MethodName) ∈ jj_gw := jj_mem2 (List.mem_of_getElem? (i := 124) (by decide +kernel)) (by decide +kernel)
theorem wd_365 : Cond.selects "java/lang/String" (⟨"java/lang/String", "length", "()I"⟩ : MethodName) (⟨"java/lang/String", "length", "()I"⟩ : MethodName) ∈ jj_gw := jj_mem2 (List.mem_of_getElem? (i := 125) (by decide +kernel)) (by decide +kernel)
theorem wd_366 : Cond.code (⟨"java/lang/String", "length", "()I"⟩ : MethodName) prog_17_method_54_code (1 : Nat) (Option.some FieldType.int) ∈ jj_gw := jj_mem2 (List.mem_of_getElem? (i := 126) (by decide +kernel)) (by decide +kernel)
theorem wd_367 : Cond.methodLink "java/lang/String" (335 : Nat) (⟨"java/lang/String", "coder", "()B"⟩ : MethodName) ∈ jj_gw := jj_mem2 (List.mem_of_getElem? (i := 127) (by decide +kernel)) (by decide +kernel)
theorem wd_368 : Cond.instanceMethod (⟨"java/lang/String", "coder", "()B"⟩ : MethodName) ∈ jj_gw := jj_mem2 (List.mem_of_getElem? (i := 128) (by decide +kernel)) (by decide +kernel)
theorem wd_369 : Cond.selects "java/lang/String" (⟨"java/lang/String", "coder", "()B"⟩ : MethodName) (⟨"java/lang/String", "coder", "()B"⟩ : MethodName) ∈ jj_gw := jj_mem2 (List.mem_of_getElem? (i := 129) (by decide +kernel)) (by decide +kernel)
theorem wd_370 : Cond.code (⟨"java/lang/String", "coder", "()B"⟩ : MethodName) prog_17_method_152_code (1 : Nat) (Option.some FieldType.byte) ∈ jj_gw := jj_mem2 (List.mem_of_getElem? (i := 130) (by decide +kernel)) (by decide +kernel)
theorem wd_371 : Cond.methodLink "BeanServer$Pattern" (45 : Nat) (⟨"java/lang/String", "charAt", "(I)C"⟩ : MethodName) ∈ jj_gw := jj_mem2 (List.mem_of_getElem? (i := 131) (by decide +kernel)) (by decide +kernel)
theorem wd_372 : Cond.instanceMethod (⟨"java/lang/String", "charAt", "(I)C"⟩ : MethodName) ∈ jj_gw := jj_mem2 (List.mem_of_getElem? (i := 132) (by decide +kernel)) (by decide +kernel)
theorem wd_373 : Cond.selects "java/lang/String" (⟨"java/lang/String", "charAt", "(I)C"⟩ : MethodName) (⟨"java/lang/String", "charAt", "(I)C"⟩ : MethodName) ∈ jj_gw := jj_mem2 (List.mem_of_getElem? (i := 133) (by decide +kernel)) (by decide +kernel)
theorem wd_374 : Cond.code (⟨"java/lang/String", "charAt", "(I)C"⟩ : MethodName) prog_17_method_56_code (2 : Nat) (Option.some FieldType.char) ∈ jj_gw := jj_mem2 (List.mem_of_getElem? (i := 134) (by decide +kernel)) (by decide +kernel)
theorem wd_375 : Cond.methodLink "java/lang/String" (492 : Nat) (⟨"java/lang/String", "isLatin1", "()Z"⟩ : MethodName) ∈ jj_gw := jj_mem2 (List.mem_of_getElem? (i := 135) (by decide +kernel)) (by decide +kernel)
theorem wd_376 : Cond.instanceMethod (⟨"java/lang/String", "isLatin1", "()Z"⟩ : MethodName) ∈ jj_gw := jj_mem2 (List.mem_of_getElem? (i := 136) (by decide +kernel)) (by decide +kernel)
theorem wd_377 : Cond.selects "java/lang/String" (⟨"java/lang/String", "isLatin1", "()Z"⟩ : MethodName) (⟨"java/lang/String", "isLatin1", "()Z"⟩ : MethodName) ∈ jj_gw := jj_mem2 (List.mem_of_getElem? (i := 137) (by decide +kernel)) (by decide +kernel)
theorem wd_378 : Cond.code (⟨"java/lang/String", "isLatin1", "()Z"⟩ : MethodName) prog_17_method_154_code (1 : Nat) (Option.some FieldType.boolean) ∈ jj_gw := jj_mem2 (List.mem_of_getElem? (i := 138) (by decide +kernel)) (by decide +kernel)
theorem wd_379 : Cond.methodLink "java/lang/String" (495 : Nat) (⟨"java/lang/StringLatin1", "charAt", "([BI)C"⟩ : MethodName) ∈ jj_gw := jj_mem2 (List.mem_of_getElem? (i := 139) (by decide +kernel)) (by decide +kernel)
theorem wd_380 : Cond.static (⟨"java/lang/StringLatin1", "charAt", "([BI)C"⟩ : MethodName) ∈ jj_gw := jj_mem2 (List.mem_of_getElem? (i := 140) (by decide +kernel)) (by decide +kernel)
theorem wd_381 : Cond.code (⟨"java/lang/StringLatin1", "charAt", "([BI)C"⟩ : MethodName) prog_19_method_2_code (2 : Nat) (Option.some FieldType.char) ∈ jj_gw := jj_mem2 (List.mem_of_getElem? (i := 141) (by decide +kernel)) (by decide +kernel)
theorem wd_382 : Cond.methodLink "java/lang/StringLatin1" (9 : Nat) (⟨"java/lang/String", "checkIndex", "(II)V"⟩ : MethodName) ∈ jj_gw := jj_mem2 (List.mem_of_getElem? (i := 142) (by decide +kernel)) (by decide +kernel)
theorem wd_383 : Cond.methodLink "java/lang/String" (498 : Nat) (⟨"java/lang/StringUTF16", "charAt", "([BI)C"⟩ : MethodName) ∈ jj_gw := jj_mem2 (List.mem_of_getElem? (i := 143) (by decide +kernel)) (by decide +kernel)
theorem wd_384 : Cond.static (⟨"java/lang/StringUTF16", "charAt", "([BI)C"⟩ : MethodName) ∈ jj_gw := jj_mem2 (List.mem_of_getElem? (i := 144) (by decide +kernel)) (by decide +kernel)
theorem wd_385 : Cond.code (⟨"java/lang/StringUTF16", "charAt", "([BI)C"⟩ : MethodName) prog_20_method_83_code (2 : Nat) (Option.some FieldType.char) ∈ jj_gw := jj_mem2 (List.mem_of_getElem? (i := 145) (by decide +kernel)) (by decide +kernel)
theorem wd_386 : Cond.methodLink "BeanServer$Pattern" (64 : Nat) (⟨"BeanServer$Pattern", "isRowCharacter", "(C)Z"⟩ : MethodName) ∈ jj_gw := jj_mem2 (List.mem_of_getElem? (i := 146) (by decide +kernel)) (by decide +kernel)
theorem wd_387 : Cond.static (⟨"BeanServer$Pattern", "isRowCharacter", "(C)Z"⟩ : MethodName) ∈ jj_gw := jj_mem2 (List.mem_of_getElem? (i := 147) (by decide +kernel)) (by decide +kernel)
theorem wd_388 : Cond.code (⟨"BeanServer$Pattern", "isRowCharacter", "(C)Z"⟩ : MethodName) prog_7_method_6_code (1 : Nat) (Option.some FieldType.boolean) ∈ jj_gw := jj_mem2 (List.mem_of_getElem? (i := 148) (by decide +kernel)) (by decide +kernel)
theorem wd_389 : Cond.methodLink "BeanServer$Pattern" (49 : Nat) (⟨"BeanServer$Pattern", "parseList", "(I)Z"⟩ : MethodName) ∈ jj_gw := jj_mem2 (List.mem_of_getElem? (i := 149) (by decide +kernel)) (by decide +kernel)
theorem wd_391 : Cond.instanceMethod (⟨"BeanServer$Pattern", "parseList", "(I)Z"⟩ : MethodName) ∈ jj_gw := jj_mem2 (List.mem_of_getElem? (i := 151) (by decide +kernel)) (by decide +kernel)
theorem wd_392 : Cond.code (⟨"BeanServer$Pattern", "parseList", "(I)Z"⟩ : MethodName) prog_7_method_7_code (5 : Nat) (Option.some FieldType.boolean) ∈ jj_gw := jj_mem2 (List.mem_of_getElem? (i := 152) (by decide +kernel)) (by decide +kernel)
theorem wd_393 : Cond.methodLink "BeanServer$Pattern" (68 : Nat) (⟨"BeanServer$Pattern", "parseProperty", "(I)I"⟩ : MethodName) ∈ jj_gw := jj_mem2 (List.mem_of_getElem? (i := 153) (by decide +kernel)) (by decide +kernel)
theorem wd_395 : Cond.instanceMethod (⟨"BeanServer$Pattern", "parseProperty", "(I)I"⟩ : MethodName) ∈ jj_gw := jj_mem2 (List.mem_of_getElem? (i := 155) (by decide +kernel)) (by decide +kernel)
theorem wd_396 : Cond.code (⟨"BeanServer$Pattern", "parseProperty", "(I)I"⟩ : MethodName) prog_7_method_8_code (5 : Nat) (Option.some FieldType.int) ∈ jj_gw := jj_mem2 (List.mem_of_getElem? (i := 156) (by decide +kernel)) (by decide +kernel)
theorem wd_397 : Cond.methodLink "BeanServer$Pattern" (53 : Nat) (⟨"BeanServer$Pattern", "ordered", "()Ljava/lang/String;"⟩ : MethodName) ∈ jj_gw := jj_mem2 (List.mem_of_getElem? (i := 157) (by decide +kernel)) (by decide +kernel)
theorem wd_399 : Cond.instanceMethod (⟨"BeanServer$Pattern", "ordered", "()Ljava/lang/String;"⟩ : MethodName) ∈ jj_gw := jj_mem2 (List.mem_of_getElem? (i := 159) (by decide +kernel)) (by decide +kernel)
theorem wd_400 : Cond.code (⟨"BeanServer$Pattern", "ordered", "()Ljava/lang/String;"⟩ : MethodName) prog_7_method_9_code (4 : Nat) (Option.some (FieldType.object "java/lang/String")) ∈ jj_gw := jj_mem2 (List.mem_of_getElem? (i := 160) (by decide +kernel)) (by decide +kernel)
theorem wd_401 : Cond.classLink "BeanServer$Pattern" (71 : Nat) "java/lang/StringBuilder" ∈ jj_gw := jj_mem2 (List.mem_of_getElem? (i := 161) (by decide +kernel)) (by decide +kernel)
theorem wd_402 : Cond.methodLink "BeanServer$Pattern" (73 : Nat) (⟨"java/lang/StringBuilder", "<init>", "()V"⟩ : MethodName) ∈ jj_gw := jj_mem2 (List.mem_of_getElem? (i := 162) (by decide +kernel)) (by decide +kernel)
theorem wd_403 : Cond.methodLink "BeanServer$Pattern" (74 : Nat) (⟨"BeanServer$Pattern", "copy", "(IILjava/lang/StringBuilder;)V"⟩ : MethodName) ∈ jj_gw := jj_mem2 (List.mem_of_getElem? (i := 163) (by decide +kernel)) (by decide +kernel)
theorem wd_405 : Cond.instanceMethod (⟨"BeanServer$Pattern", "copy", "(IILjava/lang/StringBuilder;)V"⟩ : MethodName) ∈ jj_gw := jj_mem2 (List.mem_of_getElem? (i := 165) (by decide +kernel)) (by decide +kernel)
theorem wd_406 : Cond.code (⟨"BeanServer$Pattern", "copy", "(IILjava/lang/StringBuilder;)V"⟩ : MethodName) prog_7_method_10_code (5 : Nat) (Option.none : Option FieldType) ∈ jj_gw := jj_mem2 (List.mem_of_getElem? (i := 166) (by decide +kernel)) (by decide +kernel)
theorem wd_407 : Cond.methodLink "BeanServer$Pattern" (83 : Nat) (⟨"java/lang/StringBuilder", "append", "(C)Ljava/lang/StringBuilder;"⟩ : MethodName) ∈ jj_gw := jj_mem2 (List.mem_of_getElem? (i := 167) (by decide +kernel)) (by decide +kernel)
theorem wd_408 : Cond.methodLink "BeanServer$Pattern" (78 : Nat) (⟨"java/lang/StringBuilder", "length", "()I"⟩ : MethodName) ∈ jj_gw := jj_mem2 (List.mem_of_getElem? (i := 168) (by decide +kernel)) (by decide +kernel)
theorem wd_409 : Cond.methodLink "BeanServer$Pattern" (79 : Nat) (⟨"BeanServer$Pattern", "separate", "(ILjava/lang/StringBuilder;)V"⟩ : MethodName) ∈ jj_gw := jj_mem2 (List.mem_of_getElem? (i := 169) (by decide +kernel)) (by decide +kernel)
theorem wd_410 : Cond.static (⟨"BeanServer$Pattern", "separate", "(ILjava/lang/StringBuilder;)V"⟩ : MethodName) ∈ jj_gw := jj_mem2 (List.mem_of_getElem? (i := 170) (by decide +kernel)) (by decide +kernel)
theorem wd_411 : Cond.code (⟨"BeanServer$Pattern", "separate", "(ILjava/lang/StringBuilder;)V"⟩ : MethodName) prog_7_method_11_code (2 : Nat) (Option.none : Option FieldType) ∈ jj_gw := jj_mem2 (List.mem_of_getElem? (i := 171) (by decide +kernel)) (by decide +kernel)
theorem wd_412 : Cond.methodLink "BeanServer$Pattern" (87 : Nat) (⟨"java/lang/StringBuilder", "toString", "()Ljava/lang/String;"⟩ : MethodName) ∈ jj_gw := jj_mem2 (List.mem_of_getElem? (i := 172) (by decide +kernel)) (by decide +kernel)
theorem wd_413 : Cond.methodLink "BeanServer" (208 : Nat) (⟨"BeanServer$Pattern", "isName", "()Z"⟩ : MethodName) ∈ jj_gw := jj_mem2 (List.mem_of_getElem? (i := 173) (by decide +kernel)) (by decide +kernel)
theorem wd_414 : Cond.instanceMethod (⟨"BeanServer$Pattern", "isName", "()Z"⟩ : MethodName) ∈ jj_gw := jj_mem2 (List.mem_of_getElem? (i := 174) (by decide +kernel)) (by decide +kernel)
theorem wd_415 : Cond.selects "BeanServer$Pattern" (⟨"BeanServer$Pattern", "isName", "()Z"⟩ : MethodName) (⟨"BeanServer$Pattern", "isName", "()Z"⟩ : MethodName) ∈ jj_gw := jj_mem2 (List.mem_of_getElem? (i := 175) (by decide +kernel)) (by decide +kernel)
theorem wd_416 : Cond.code (⟨"BeanServer$Pattern", "isName", "()Z"⟩ : MethodName) prog_7_method_3_code (1 : Nat) (Option.some FieldType.boolean) ∈ jj_gw := jj_mem2 (List.mem_of_getElem? (i := 176) (by decide +kernel)) (by decide +kernel)
theorem wd_417 : Cond.methodLink "BeanServer$Pattern" (57 : Nat) (⟨"java/lang/String", "indexOf", "(I)I"⟩ : MethodName) ∈ jj_gw := jj_mem2 (List.mem_of_getElem? (i := 177) (by decide +kernel)) (by decide +kernel)
theorem wd_418 : Cond.instanceMethod (⟨"java/lang/String", "indexOf", "(I)I"⟩ : MethodName) ∈ jj_gw := jj_mem2 (List.mem_of_getElem? (i := 178) (by decide +kernel)) (by decide +kernel)
theorem wd_419 : Cond.selects "java/lang/String" (⟨"java/lang/String", "indexOf", "(I)I"⟩ : MethodName) (⟨"java/lang/String", "indexOf", "(I)I"⟩ : MethodName) ∈ jj_gw := jj_mem2 (List.mem_of_getElem? (i := 179) (by decide +kernel)) (by decide +kernel)
theorem wd_420 : Cond.code (⟨"java/lang/String", "indexOf", "(I)I"⟩ : MethodName) prog_17_method_79_code (2 : Nat) (Option.some FieldType.int) ∈ jj_gw := jj_mem2 (List.mem_of_getElem? (i := 180) (by decide +kernel)) (by decide +kernel)
theorem wd_421 : Cond.methodLink "java/lang/String" (633 : Nat) (⟨"java/lang/String", "indexOf", "(II)I"⟩ : MethodName) ∈ jj_gw := jj_mem2 (List.mem_of_getElem? (i := 181) (by decide +kernel)) (by decide +kernel)
theorem wd_422 : Cond.instanceMethod (⟨"java/lang/String", "indexOf", "(II)I"⟩ : MethodName) ∈ jj_gw := jj_mem2 (List.mem_of_getElem? (i := 182) (by decide +kernel)) (by decide +kernel)
theorem wd_423 : Cond.selects "java/lang/String" (⟨"java/lang/String", "indexOf", "(II)I"⟩ : MethodName) (⟨"java/lang/String", "indexOf", "(II)I"⟩ : MethodName) ∈ jj_gw := jj_mem2 (List.mem_of_getElem? (i := 183) (by decide +kernel)) (by decide +kernel)
theorem wd_424 : Cond.code (⟨"java/lang/String", "indexOf", "(II)I"⟩ : MethodName) prog_17_method_80_code (3 : Nat) (Option.some FieldType.int) ∈ jj_gw := jj_mem2 (List.mem_of_getElem? (i := 184) (by decide +kernel)) (by decide +kernel)
theorem wd_425 : Cond.methodLink "java/lang/String" (505 : Nat) (⟨"java/lang/String", "length", "()I"⟩ : MethodName) ∈ jj_gw := jj_mem2 (List.mem_of_getElem? (i := 185) (by decide +kernel)) (by decide +kernel)
theorem wd_426 : Cond.methodLink "java/lang/String" (637 : Nat) (⟨"java/lang/StringLatin1", "indexOf", "([BIII)I"⟩ : MethodName) ∈ jj_gw := jj_mem2 (List.mem_of_getElem? (i := 186) (by decide +kernel)) (by decide +kernel)
theorem wd_427 : Cond.static (⟨"java/lang/StringLatin1", "indexOf", "([BIII)I"⟩ : MethodName) ∈ jj_gw := jj_mem2 (List.mem_of_getElem? (i := 187) (by decide +kernel)) (by decide +kernel)
theorem wd_428 : Cond.code (⟨"java/lang/StringLatin1", "indexOf", "([BIII)I"⟩ : MethodName) prog_19_method_22_code (4 : Nat) (Option.some FieldType.int) ∈ jj_gw := jj_mem2 (List.mem_of_getElem? (i := 188) (by decide +kernel)) (by decide +kernel)
theorem wd_429 : Cond.methodLink "java/lang/StringLatin1" (88 : Nat) (⟨"java/lang/StringLatin1", "canEncode", "(I)Z"⟩ : MethodName) ∈ jj_gw := jj_mem2 (List.mem_of_getElem? (i := 189) (by decide +kernel)) (by decide +kernel)
theorem wd_430 : Cond.static (⟨"java/lang/StringLatin1", "canEncode", "(I)Z"⟩ : MethodName) ∈ jj_gw := jj_mem2 (List.mem_of_getElem? (i := 190) (by decide +kernel)) (by decide +kernel)
theorem wd_431 : Cond.code (⟨"java/lang/StringLatin1", "canEncode", "(I)Z"⟩ : MethodName) prog_19_method_4_code (1 : Nat) (Option.some FieldType.boolean) ∈ jj_gw := jj_mem2 (List.mem_of_getElem? (i := 191) (by decide +kernel)) (by decide +kernel)
theorem wd_432 : Cond.methodLink "java/lang/StringLatin1" (92 : Nat) (⟨"java/lang/Math", "max", "(II)I"⟩ : MethodName) ∈ jj_gw := jj_mem2 (List.mem_of_getElem? (i := 192) (by decide +kernel)) (by decide +kernel)
theorem wd_433 : Cond.methodLink "java/lang/StringLatin1" (38 : Nat) (⟨"java/lang/Math", "min", "(II)I"⟩ : MethodName) ∈ jj_gw := jj_mem2 (List.mem_of_getElem? (i := 193) (by decide +kernel)) (by decide +kernel)
theorem wd_434 : Cond.methodLink "java/lang/StringLatin1" (95 : Nat) (⟨"java/lang/StringLatin1", "indexOfChar", "([BIII)I"⟩ : MethodName) ∈ jj_gw := jj_mem2 (List.mem_of_getElem? (i := 194) (by decide +kernel)) (by decide +kernel)
theorem wd_435 : Cond.static (⟨"java/lang/StringLatin1", "indexOfChar", "([BIII)I"⟩ : MethodName) ∈ jj_gw := jj_mem2 (List.mem_of_getElem? (i := 195) (by decide +kernel)) (by decide +kernel)
theorem wd_436 : Cond.code (⟨"java/lang/StringLatin1", "indexOfChar", "([BIII)I"⟩ : MethodName) prog_19_method_23_code (6 : Nat) (Option.some FieldType.int) ∈ jj_gw := jj_mem2 (List.mem_of_getElem? (i := 196) (by decide +kernel)) (by decide +kernel)
theorem wd_437 : Cond.methodLink "java/lang/String" (640 : Nat) (⟨"java/lang/StringUTF16", "indexOf", "([BIII)I"⟩ : MethodName) ∈ jj_gw := jj_mem2 (List.mem_of_getElem? (i := 197) (by decide +kernel)) (by decide +kernel)
theorem wd_438 : Cond.static (⟨"java/lang/StringUTF16", "indexOf", "([BIII)I"⟩ : MethodName) ∈ jj_gw := jj_mem2 (List.mem_of_getElem? (i := 198) (by decide +kernel)) (by decide +kernel)
theorem wd_439 : Cond.code (⟨"java/lang/StringUTF16", "indexOf", "([BIII)I"⟩ : MethodName) prog_20_method_40_code (4 : Nat) (Option.some FieldType.int) ∈ jj_gw := jj_mem2 (List.mem_of_getElem? (i := 199) (by decide +kernel)) (by decide +kernel)
theorem wd_440 : Cond.methodLink "java/lang/StringUTF16" (224 : Nat) (⟨"java/lang/Math", "max", "(II)I"⟩ : MethodName) ∈ jj_gw := jj_mem2 (List.mem_of_getElem? (i := 200) (by decide +kernel)) (by decide +kernel)
theorem wd_441 : Cond.methodLink "java/lang/StringUTF16" (183 : Nat) (⟨"java/lang/Math", "min", "(II)I"⟩ : MethodName) ∈ jj_gw := jj_mem2 (List.mem_of_getElem? (i := 201) (by decide +kernel)) (by decide +kernel)
theorem wd_442 : Cond.constant "java/lang/StringUTF16" (227 : Nat) (65536 : Int32) ∈ jj_gw := jj_mem2 (List.mem_of_getElem? (i := 202) (by decide +kernel)) (by decide +kernel)
theorem wd_443 : Cond.methodLink "java/lang/StringUTF16" (228 : Nat) (⟨"java/lang/StringUTF16", "indexOfChar", "([BIII)I"⟩ : MethodName) ∈ jj_gw := jj_mem2 (List.mem_of_getElem? (i := 203) (by decide +kernel)) (by decide +kernel)
theorem wd_444 : Cond.static (⟨"java/lang/StringUTF16", "indexOfChar", "([BIII)I"⟩ : MethodName) ∈ jj_gw := jj_mem2 (List.mem_of_getElem? (i := 204) (by decide +kernel)) (by decide +kernel)
theorem wd_445 : Cond.code (⟨"java/lang/StringUTF16", "indexOfChar", "([BIII)I"⟩ : MethodName) prog_20_method_47_code (4 : Nat) (Option.some FieldType.int) ∈ jj_gw := jj_mem2 (List.mem_of_getElem? (i := 205) (by decide +kernel)) (by decide +kernel)
theorem wd_446 : Cond.methodLink "java/lang/StringUTF16" (96 : Nat) (⟨"java/lang/StringUTF16", "checkBoundsBeginEnd", "(II[B)V"⟩ : MethodName) ∈ jj_gw := jj_mem2 (List.mem_of_getElem? (i := 206) (by decide +kernel)) (by decide +kernel)
theorem wd_447 : Cond.static (⟨"java/lang/StringUTF16", "checkBoundsBeginEnd", "(II[B)V"⟩ : MethodName) ∈ jj_gw := jj_mem2 (List.mem_of_getElem? (i := 207) (by decide +kernel)) (by decide +kernel)
theorem wd_448 : Cond.code (⟨"java/lang/StringUTF16", "checkBoundsBeginEnd", "(II[B)V"⟩ : MethodName) prog_20_method_93_code (3 : Nat) (Option.none : Option FieldType) ∈ jj_gw := jj_mem2 (List.mem_of_getElem? (i := 208) (by decide +kernel)) (by decide +kernel)
theorem wd_449 : Cond.methodLink "java/lang/StringUTF16" (241 : Nat) (⟨"java/lang/String", "checkBoundsBeginEnd", "(III)V"⟩ : MethodName) ∈ jj_gw := jj_mem2 (List.mem_of_getElem? (i := 209) (by decide +kernel)) (by decide +kernel)
theorem wd_450 : Cond.static (⟨"java/lang/String", "checkBoundsBeginEnd", "(III)V"⟩ : MethodName) ∈ jj_gw := jj_mem2 (List.mem_of_getElem? (i := 210) (by decide +kernel)) (by decide +kernel)
theorem wd_451 : Cond.code (⟨"java/lang/String", "checkBoundsBeginEnd", "(III)V"⟩ : MethodName) prog_17_method_158_code (3 : Nat) (Option.none : Option FieldType) ∈ jj_gw := jj_mem2 (List.mem_of_getElem? (i := 211) (by decide +kernel)) (by decide +kernel)
theorem wd_452 : Cond.methodLink "java/lang/String" (1062 : Nat) (⟨"jdk/internal/util/Preconditions", "checkFromToIndex", "(IIILjava/util/function/BiFunction;)I"⟩ : MethodName) ∈ jj_gw := jj_mem2 (List.mem_of_getElem? (i := 212) (by decide +kernel)) (by decide +kernel)
theorem wd_453 : Cond.static (⟨"jdk/internal/util/Preconditions", "checkFromToIndex", "(IIILjava/util/function/BiFunction;)I"⟩ : MethodName) ∈ jj_gw := jj_mem2 (List.mem_of_getElem? (i := 213) (by decide +kernel)) (by decide +kernel)
theorem wd_454 : Cond.code (⟨"jdk/internal/util/Preconditions", "checkFromToIndex", "(IIILjava/util/function/BiFunction;)I"⟩ : MethodName) prog_24_method_12_code (4 : Nat) (Option.some FieldType.int) ∈ jj_gw := jj_mem2 (List.mem_of_getElem? (i := 214) (by decide +kernel)) (by decide +kernel)
theorem wd_455 : Cond.methodLink "java/lang/StringUTF16" (244 : Nat) (⟨"java/lang/StringUTF16", "indexOfCharUnsafe", "([BIII)I"⟩ : MethodName) ∈ jj_gw := jj_mem2 (List.mem_of_getElem? (i := 215) (by decide +kernel)) (by decide +kernel)
theorem wd_456 : Cond.static (⟨"java/lang/StringUTF16", "indexOfCharUnsafe", "([BIII)I"⟩ : MethodName) ∈ jj_gw := jj_mem2 (List.mem_of_getElem? (i := 216) (by decide +kernel)) (by decide +kernel)
theorem wd_457 : Cond.code (⟨"java/lang/StringUTF16", "indexOfCharUnsafe", "([BIII)I"⟩ : MethodName) prog_20_method_48_code (5 : Nat) (Option.some FieldType.int) ∈ jj_gw := jj_mem2 (List.mem_of_getElem? (i := 217) (by decide +kernel)) (by decide +kernel)
theorem wd_458 : Cond.methodLink "java/lang/StringUTF16" (232 : Nat) (⟨"java/lang/StringUTF16", "indexOfSupplementary", "([BIII)I"⟩ : MethodName) ∈ jj_gw := jj_mem2 (List.mem_of_getElem? (i := 218) (by decide +kernel)) (by decide +kernel)
theorem wd_459 : Cond.static (⟨"java/lang/StringUTF16", "indexOfSupplementary", "([BIII)I"⟩ : MethodName) ∈ jj_gw := jj_mem2 (List.mem_of_getElem? (i := 219) (by decide +kernel)) (by decide +kernel)
theorem wd_460 : Cond.code (⟨"java/lang/StringUTF16", "indexOfSupplementary", "([BIII)I"⟩ : MethodName) prog_20_method_49_code (7 : Nat) (Option.some FieldType.int) ∈ jj_gw := jj_mem2 (List.mem_of_getElem? (i := 220) (by decide +kernel)) (by decide +kernel)
theorem wd_461 : Cond.methodLink "java/lang/StringUTF16" (164 : Nat) (⟨"java/lang/Character", "isValidCodePoint", "(I)Z"⟩ : MethodName) ∈ jj_gw := jj_mem2 (List.mem_of_getElem? (i := 221) (by decide +kernel)) (by decide +kernel)
theorem wd_462 : Cond.static (⟨"java/lang/Character", "isValidCodePoint", "(I)Z"⟩ : MethodName) ∈ jj_gw := jj_mem2 (List.mem_of_getElem? (i := 222) (by decide +kernel)) (by decide +kernel)
theorem wd_463 : Cond.code (⟨"java/lang/Character", "isValidCodePoint", "(I)Z"⟩ : MethodName) prog_14_method_11_code (2 : Nat) (Option.some FieldType.boolean) ∈ jj_gw := jj_mem2 (List.mem_of_getElem? (i := 223) (by decide +kernel)) (by decide +kernel)
theorem wd_464 : Cond.methodLink "java/lang/StringUTF16" (157 : Nat) (⟨"java/lang/Character", "highSurrogate", "(I)C"⟩ : MethodName) ∈ jj_gw := jj_mem2 (List.mem_of_getElem? (i := 224) (by decide +kernel)) (by decide +kernel)
theorem wd_465 : Cond.static (⟨"java/lang/Character", "highSurrogate", "(I)C"⟩ : MethodName) ∈ jj_gw := jj_mem2 (List.mem_of_getElem? (i := 225) (by decide +kernel)) (by decide +kernel)
theorem wd_466 : Cond.code (⟨"java/lang/Character", "highSurrogate", "(I)C"⟩ : MethodName) prog_14_method_28_code (1 : Nat) (Option.some FieldType.char) ∈ jj_gw := jj_mem2 (List.mem_of_getElem? (i := 226) (by decide +kernel)) (by decide +kernel)
theorem wd_467 : Cond.constant "java/lang/Character" (110 : Nat) (55232 : Int32) ∈ jj_gw := jj_mem2 (List.mem_of_getElem? (i := 227) (by decide +kernel)) (by decide +kernel)
theorem wd_468 : Cond.methodLink "java/lang/StringUTF16" (161 : Nat) (⟨"java/lang/Character", "lowSurrogate", "(I)C"⟩ : MethodName) ∈ jj_gw := jj_mem2 (List.mem_of_getElem? (i := 228) (by decide +kernel)) (by decide +kernel)
theorem wd_469 : Cond.static (⟨"java/lang/Character", "lowSurrogate", "(I)C"⟩ : MethodName) ∈ jj_gw := jj_mem2 (List.mem_of_getElem? (i := 229) (by decide +kernel)) (by decide +kernel)
theorem wd_470 : Cond.code (⟨"java/lang/Character", "lowSurrogate", "(I)C"⟩ : MethodName) prog_14_method_29_code (1 : Nat) (Option.some FieldType.char) ∈ jj_gw := jj_mem2 (List.mem_of_getElem? (i := 230) (by decide +kernel)) (by decide +kernel)
theorem wd_471 : Cond.constant "java/lang/Character" (76 : Nat) (56320 : Int32) ∈ jj_gw := jj_mem2 (List.mem_of_getElem? (i := 231) (by decide +kernel)) (by decide +kernel)
theorem wd_472 : Cond.methodLink "BeanServer" (75 : Nat) (⟨"BeanServer", "beanNamed", "(Ljava/lang/String;)I"⟩ : MethodName) ∈ jj_gw := jj_mem2 (List.mem_of_getElem? (i := 232) (by decide +kernel)) (by decide +kernel)
theorem wd_474 : Cond.instanceMethod (⟨"BeanServer", "beanNamed", "(Ljava/lang/String;)I"⟩ : MethodName) ∈ jj_gw := jj_mem2 (List.mem_of_getElem? (i := 234) (by decide +kernel)) (by decide +kernel)
theorem wd_475 : Cond.code (⟨"BeanServer", "beanNamed", "(Ljava/lang/String;)I"⟩ : MethodName) prog_1_method_29_code (3 : Nat) (Option.some FieldType.int) ∈ jj_gw := jj_mem2 (List.mem_of_getElem? (i := 235) (by decide +kernel)) (by decide +kernel)
theorem wd_476 : Cond.methodLink "BeanServer" (215 : Nat) (⟨"java/lang/String", "equals", "(Ljava/lang/Object;)Z"⟩ : MethodName) ∈ jj_gw := jj_mem2 (List.mem_of_getElem? (i := 236) (by decide +kernel)) (by decide +kernel)
theorem wd_477 : Cond.instanceMethod (⟨"java/lang/String", "equals", "(Ljava/lang/Object;)Z"⟩ : MethodName) ∈ jj_gw := jj_mem2 (List.mem_of_getElem? (i := 237) (by decide +kernel)) (by decide +kernel)
theorem wd_478 : Cond.selects "java/lang/String" (⟨"java/lang/String", "equals", "(Ljava/lang/Object;)Z"⟩ : MethodName) (⟨"java/lang/String", "equals", "(Ljava/lang/Object;)Z"⟩ : MethodName) ∈ jj_gw := jj_mem2 (List.mem_of_getElem? (i := 238) (by decide +kernel)) (by decide +kernel)
theorem wd_479 : Cond.code (⟨"java/lang/String", "equals", "(Ljava/lang/Object;)Z"⟩ : MethodName) prog_17_method_66_code (3 : Nat) (Option.some FieldType.boolean) ∈ jj_gw := jj_mem2 (List.mem_of_getElem? (i := 239) (by decide +kernel)) (by decide +kernel)
theorem wd_480 : Cond.classLink "java/lang/String" (10 : Nat) "java/lang/String" ∈ jj_gw := jj_mem3 (List.mem_of_getElem? (i := 0) (by decide +kernel)) (by decide +kernel)
theorem wd_481 : Cond.methodLink "java/lang/String" (541 : Nat) (⟨"java/lang/StringLatin1", "equals", "([B[B)Z"⟩ : MethodName) ∈ jj_gw := jj_mem3 (List.mem_of_getElem? (i := 1) (by decide +kernel)) (by decide +kernel)
theorem wd_482 : Cond.static (⟨"java/lang/StringLatin1", "equals", "([B[B)Z"⟩ : MethodName) ∈ jj_gw := jj_mem3 (List.mem_of_getElem? (i := 2) (by decide +kernel)) (by decide +kernel)
theorem wd_483 : Cond.code (⟨"java/lang/StringLatin1", "equals", "([B[B)Z"⟩ : MethodName) prog_19_method_13_code (3 : Nat) (Option.some FieldType.boolean) ∈ jj_gw := jj_mem3 (List.mem_of_getElem? (i := 3) (by decide +kernel)) (by decide +kernel)
theorem wd_484 : Cond.methodLink "BeanServer" (79 : Nat) (⟨"BeanServer", "freeBean", "()I"⟩ : MethodName) ∈ jj_gw := jj_mem3 (List.mem_of_getElem? (i := 4) (by decide +kernel)) (by decide +kernel)
theorem wd_486 : Cond.instanceMethod (⟨"BeanServer", "freeBean", "()I"⟩ : MethodName) ∈ jj_gw := jj_mem3 (List.mem_of_getElem? (i := 6) (by decide +kernel)) (by decide +kernel)
theorem wd_487 : Cond.code (⟨"BeanServer", "freeBean", "()I"⟩ : MethodName) prog_1_method_30_code (2 : Nat) (Option.some FieldType.int) ∈ jj_gw := jj_mem3 (List.mem_of_getElem? (i := 7) (by decide +kernel)) (by decide +kernel)
theorem wd_488 : Cond.instantiable "BeanServer$Bean" (3 : Nat) ∈ jj_gw := jj_mem3 (List.mem_of_getElem? (i := 8) (by decide +kernel)) (by decide +kernel)
theorem wd_489 : Cond.methodLink "BeanServer" (82 : Nat) (⟨"BeanServer$Bean", "<init>", "(LBeanServer$Pattern;)V"⟩ : MethodName) ∈ jj_gw := jj_mem3 (List.mem_of_getElem? (i := 9) (by decide +kernel)) (by decide +kernel)
theorem wd_490 : Cond.instanceMethod (⟨"BeanServer$Bean", "<init>", "(LBeanServer$Pattern;)V"⟩ : MethodName) ∈ jj_gw := jj_mem3 (List.mem_of_getElem? (i := 10) (by decide +kernel)) (by decide +kernel)
theorem wd_491 : Cond.code (⟨"BeanServer$Bean", "<init>", "(LBeanServer$Pattern;)V"⟩ : MethodName) prog_2_method_1_code (2 : Nat) (Option.none : Option FieldType) ∈ jj_gw := jj_mem3 (List.mem_of_getElem? (i := 11) (by decide +kernel)) (by decide +kernel)
theorem wd_492 : Cond.methodLink "BeanServer$Bean" (3 : Nat) (⟨"java/lang/Object", "<init>", "()V"⟩ : MethodName) ∈ jj_gw := jj_mem3 (List.mem_of_getElem? (i := 12) (by decide +kernel)) (by decide +kernel)
theorem wd_493 : Cond.fieldLink "BeanServer$Bean" (19 : Nat) "BeanServer$Bean" "name" "LBeanServer$Pattern;" ∈ jj_gw := jj_mem3 (List.mem_of_getElem? (i := 13) (by decide +kernel)) (by decide +kernel)
theorem wd_494 : Cond.fieldLink "BeanServer" (147 : Nat) "BeanServer$Bean" "name" "LBeanServer$Pattern;" ∈ jj_gw := jj_mem3 (List.mem_of_getElem? (i := 14) (by decide +kernel)) (by decide +kernel)
theorem wd_495 : Cond.fieldLink "BeanServer$Bean" (9 : Nat) "BeanServer$Bean" "values" "[I" ∈ jj_gw := jj_mem3 (List.mem_of_getElem? (i := 15) (by decide +kernel)) (by decide +kernel)
theorem wd_496 : Cond.fieldLink "BeanServer" (97 : Nat) "BeanServer$Bean" "values" "[I" ∈ jj_gw := jj_mem3 (List.mem_of_getElem? (i := 16) (by decide +kernel)) (by decide +kernel)
theorem wd_497 : Cond.fieldLink "BeanServer$QueryReader" (83 : Nat) "BeanServer$Bean" "values" "[I" ∈ jj_gw := jj_mem3 (List.mem_of_getElem? (i := 17) (by decide +kernel)) (by decide +kernel)
theorem wd_498 : Cond.fieldLink "BeanServer$Bean" (15 : Nat) "BeanServer$Bean" "present" "[Z" ∈ jj_gw := jj_mem3 (List.mem_of_getElem? (i := 18) (by decide +kernel)) (by decide +kernel)
theorem wd_499 : Cond.fieldLink "BeanServer" (100 : Nat) "BeanServer$Bean" "present" "[Z" ∈ jj_gw := jj_mem3 (List.mem_of_getElem? (i := 19) (by decide +kernel)) (by decide +kernel)
theorem wd_500 : Cond.fieldLink "BeanServer$QueryReader" (77 : Nat) "BeanServer$Bean" "present" "[Z" ∈ jj_gw := jj_mem3 (List.mem_of_getElem? (i := 20) (by decide +kernel)) (by decide +kernel)
theorem wd_501 : Cond.laysFinal "BeanServer$Bean" "BeanServer$Bean" "name" "LBeanServer$Pattern;" ∈ jj_gw := jj_mem3 (List.mem_of_getElem? (i := 21) (by decide +kernel)) (by decide +kernel)
theorem wd_503 : Cond.laysFinal "BeanServer$Bean" "BeanServer$Bean" "values" "[I" ∈ jj_gw := jj_mem3 (List.mem_of_getElem? (i := 23) (by decide +kernel)) (by decide +kernel)
theorem wd_505 : Cond.laysFinal "BeanServer$Bean" "BeanServer$Bean" "present" "[Z" ∈ jj_gw := jj_mem3 (List.mem_of_getElem? (i := 25) (by decide +kernel)) (by decide +kernel)
theorem wd_507 : Cond.superclass "BeanServer$Bean" "java/lang/Object" ∈ jj_gw := jj_mem3 (List.mem_of_getElem? (i := 27) (by decide +kernel)) (by decide +kernel)
theorem wd_508 : Cond.arrayClass FieldType.boolean ∈ jj_gw := jj_mem3 (List.mem_of_getElem? (i := 28) (by decide +kernel)) (by decide +kernel)
theorem wd_509 : Cond.methodLink "BeanServer" (85 : Nat) (⟨"BeanServer$Log", "give", "(III)V"⟩ : MethodName) ∈ jj_gw := jj_mem3 (List.mem_of_getElem? (i := 29) (by decide +kernel)) (by decide +kernel)
theorem wd_510 : Cond.instanceMethod (⟨"BeanServer$Log", "give", "(III)V"⟩ : MethodName) ∈ jj_gw := jj_mem3 (List.mem_of_getElem? (i := 30) (by decide +kernel)) (by decide +kernel)
theorem wd_511 : Cond.selects "BeanServer$Log" (⟨"BeanServer$Log", "give", "(III)V"⟩ : MethodName) (⟨"BeanServer$Log", "give", "(III)V"⟩ : MethodName) ∈ jj_gw := jj_mem3 (List.mem_of_getElem? (i := 31) (by decide +kernel)) (by decide +kernel)
theorem wd_512 : Cond.code (⟨"BeanServer$Log", "give", "(III)V"⟩ : MethodName) prog_5_method_2_code (4 : Nat) (Option.none : Option FieldType) ∈ jj_gw := jj_mem3 (List.mem_of_getElem? (i := 32) (by decide +kernel)) (by decide +kernel)
theorem wd_513 : Cond.methodLink "BeanServer$Log" (37 : Nat) (⟨"java/lang/Math", "min", "(II)I"⟩ : MethodName) ∈ jj_gw := jj_mem3 (List.mem_of_getElem? (i := 33) (by decide +kernel)) (by decide +kernel)
theorem wd_514 : Cond.methodLink "BeanServerLaw" (23 : Nat) (⟨"BeanServer", "unregister", "()I"⟩ : MethodName) ∈ jj_gw := jj_mem3 (List.mem_of_getElem? (i := 34) (by decide +kernel)) (by decide +kernel)
theorem wd_515 : Cond.instanceMethod (⟨"BeanServer", "unregister", "()I"⟩ : MethodName) ∈ jj_gw := jj_mem3 (List.mem_of_getElem? (i := 35) (by decide +kernel)) (by decide +kernel)
theorem wd_516 : Cond.selects "BeanServer" (⟨"BeanServer", "unregister", "()I"⟩ : MethodName) (⟨"BeanServer", "unregister", "()I"⟩ : MethodName) ∈ jj_gw := jj_mem3 (List.mem_of_getElem? (i := 36) (by decide +kernel)) (by decide +kernel)
theorem wd_517 : Cond.code (⟨"BeanServer", "unregister", "()I"⟩ : MethodName) prog_1_method_4_code (3 : Nat) (Option.some FieldType.int) ∈ jj_gw := jj_mem3 (List.mem_of_getElem? (i := 37) (by decide +kernel)) (by decide +kernel)
theorem wd_518 : Cond.methodLink "BeanServerLaw" (27 : Nat) (⟨"BeanServer", "find", "()I"⟩ : MethodName) ∈ jj_gw := jj_mem3 (List.mem_of_getElem? (i := 38) (by decide +kernel)) (by decide +kernel)
theorem wd_519 : Cond.instanceMethod (⟨"BeanServer", "find", "()I"⟩ : MethodName) ∈ jj_gw := jj_mem3 (List.mem_of_getElem? (i := 39) (by decide +kernel)) (by decide +kernel)
theorem wd_520 : Cond.selects "BeanServer" (⟨"BeanServer", "find", "()I"⟩ : MethodName) (⟨"BeanServer", "find", "()I"⟩ : MethodName) ∈ jj_gw := jj_mem3 (List.mem_of_getElem? (i := 40) (by decide +kernel)) (by decide +kernel)
theorem wd_521 : Cond.code (⟨"BeanServer", "find", "()I"⟩ : MethodName) prog_1_method_5_code (2 : Nat) (Option.some FieldType.int) ∈ jj_gw := jj_mem3 (List.mem_of_getElem? (i := 41) (by decide +kernel)) (by decide +kernel)
theorem wd_522 : Cond.methodLink "BeanServerLaw" (31 : Nat) (⟨"BeanServer", "set", "(III)Z"⟩ : MethodName) ∈ jj_gw := jj_mem3 (List.mem_of_getElem? (i := 42) (by decide +kernel)) (by decide +kernel)
theorem wd_523 : Cond.instanceMethod (⟨"BeanServer", "set", "(III)Z"⟩ : MethodName) ∈ jj_gw := jj_mem3 (List.mem_of_getElem? (i := 43) (by decide +kernel)) (by decide +kernel)
theorem wd_524 : Cond.selects "BeanServer" (⟨"BeanServer", "set", "(III)Z"⟩ : MethodName) (⟨"BeanServer", "set", "(III)Z"⟩ : MethodName) ∈ jj_gw := jj_mem3 (List.mem_of_getElem? (i := 44) (by decide +kernel)) (by decide +kernel)
theorem wd_525 : Cond.code (⟨"BeanServer", "set", "(III)Z"⟩ : MethodName) prog_1_method_6_code (5 : Nat) (Option.some FieldType.boolean) ∈ jj_gw := jj_mem3 (List.mem_of_getElem? (i := 45) (by decide +kernel)) (by decide +kernel)
theorem wd_526 : Cond.methodLink "BeanServer" (89 : Nat) (⟨"BeanServer", "beanAt", "(I)LBeanServer$Bean;"⟩ : MethodName) ∈ jj_gw := jj_mem3 (List.mem_of_getElem? (i := 46) (by decide +kernel)) (by decide +kernel)
theorem wd_528 : Cond.instanceMethod (⟨"BeanServer", "beanAt", "(I)LBeanServer$Bean;"⟩ : MethodName) ∈ jj_gw := jj_mem3 (List.mem_of_getElem? (i := 48) (by decide +kernel)) (by decide +kernel)
theorem wd_529 : Cond.code (⟨"BeanServer", "beanAt", "(I)LBeanServer$Bean;"⟩ : MethodName) prog_1_method_26_code (2 : Nat) (Option.some (FieldType.object "BeanServer$Bean")) ∈ jj_gw := jj_mem3 (List.mem_of_getElem? (i := 49) (by decide +kernel)) (by decide +kernel)
theorem wd_530 : Cond.methodLink "BeanServer" (93 : Nat) (⟨"BeanServer", "isAttribute", "(I)Z"⟩ : MethodName) ∈ jj_gw := jj_mem3 (List.mem_of_getElem? (i := 50) (by decide +kernel)) (by decide +kernel)
theorem wd_531 : Cond.static (⟨"BeanServer", "isAttribute", "(I)Z"⟩ : MethodName) ∈ jj_gw := jj_mem3 (List.mem_of_getElem? (i := 51) (by decide +kernel)) (by decide +kernel)
theorem wd_532 : Cond.code (⟨"BeanServer", "isAttribute", "(I)Z"⟩ : MethodName) prog_1_method_24_code (1 : Nat) (Option.some FieldType.boolean) ∈ jj_gw := jj_mem3 (List.mem_of_getElem? (i := 52) (by decide +kernel)) (by decide +kernel)
theorem wd_533 : Cond.methodLink "BeanServerLaw" (36 : Nat) (⟨"BeanServer", "unset", "(II)Z"⟩ : MethodName) ∈ jj_gw := jj_mem3 (List.mem_of_getElem? (i := 53) (by decide +kernel)) (by decide +kernel)
theorem wd_534 : Cond.instanceMethod (⟨"BeanServer", "unset", "(II)Z"⟩ : MethodName) ∈ jj_gw := jj_mem3 (List.mem_of_getElem? (i := 54) (by decide +kernel)) (by decide +kernel)
theorem wd_535 : Cond.selects "BeanServer" (⟨"BeanServer", "unset", "(II)Z"⟩ : MethodName) (⟨"BeanServer", "unset", "(II)Z"⟩ : MethodName) ∈ jj_gw := jj_mem3 (List.mem_of_getElem? (i := 55) (by decide +kernel)) (by decide +kernel)
theorem wd_536 : Cond.code (⟨"BeanServer", "unset", "(II)Z"⟩ : MethodName) prog_1_method_7_code (4 : Nat) (Option.some FieldType.boolean) ∈ jj_gw := jj_mem3 (List.mem_of_getElem? (i := 56) (by decide +kernel)) (by decide +kernel)
theorem wd_537 : Cond.methodLink "BeanServerLaw" (41 : Nat) (⟨"BeanServer", "get", "(II)I"⟩ : MethodName) ∈ jj_gw := jj_mem3 (List.mem_of_getElem? (i := 57) (by decide +kernel)) (by decide +kernel)
theorem wd_538 : Cond.instanceMethod (⟨"BeanServer", "get", "(II)I"⟩ : MethodName) ∈ jj_gw := jj_mem3 (List.mem_of_getElem? (i := 58) (by decide +kernel)) (by decide +kernel)
theorem wd_539 : Cond.selects "BeanServer" (⟨"BeanServer", "get", "(II)I"⟩ : MethodName) (⟨"BeanServer", "get", "(II)I"⟩ : MethodName) ∈ jj_gw := jj_mem3 (List.mem_of_getElem? (i := 59) (by decide +kernel)) (by decide +kernel)
theorem wd_540 : Cond.code (⟨"BeanServer", "get", "(II)I"⟩ : MethodName) prog_1_method_8_code (4 : Nat) (Option.some FieldType.int) ∈ jj_gw := jj_mem3 (List.mem_of_getElem? (i := 60) (by decide +kernel)) (by decide +kernel)
theorem wd_541 : Cond.methodLink "BeanServerLaw" (46 : Nat) (⟨"BeanServer", "define", "()I"⟩ : MethodName) ∈ jj_gw := jj_mem3 (List.mem_of_getElem? (i := 61) (by decide +kernel)) (by decide +kernel)
theorem wd_542 : Cond.instanceMethod (⟨"BeanServer", "define", "()I"⟩ : MethodName) ∈ jj_gw := jj_mem3 (List.mem_of_getElem? (i := 62) (by decide +kernel)) (by decide +kernel)
theorem wd_543 : Cond.selects "BeanServer" (⟨"BeanServer", "define", "()I"⟩ : MethodName) (⟨"BeanServer", "define", "()I"⟩ : MethodName) ∈ jj_gw := jj_mem3 (List.mem_of_getElem? (i := 63) (by decide +kernel)) (by decide +kernel)
theorem wd_544 : Cond.code (⟨"BeanServer", "define", "()I"⟩ : MethodName) prog_1_method_9_code (3 : Nat) (Option.some FieldType.int) ∈ jj_gw := jj_mem3 (List.mem_of_getElem? (i := 64) (by decide +kernel)) (by decide +kernel)
theorem wd_545 : Cond.methodLink "BeanServer" (108 : Nat) (⟨"BeanServer", "nestings", "(Ljava/lang/String;)I"⟩ : MethodName) ∈ jj_gw := jj_mem3 (List.mem_of_getElem? (i := 65) (by decide +kernel)) (by decide +kernel)
theorem wd_546 : Cond.static (⟨"BeanServer", "nestings", "(Ljava/lang/String;)I"⟩ : MethodName) ∈ jj_gw := jj_mem3 (List.mem_of_getElem? (i := 66) (by decide +kernel)) (by decide +kernel)
theorem wd_547 : Cond.code (⟨"BeanServer", "nestings", "(Ljava/lang/String;)I"⟩ : MethodName) prog_1_method_25_code (3 : Nat) (Option.some FieldType.int) ∈ jj_gw := jj_mem3 (List.mem_of_getElem? (i := 67) (by decide +kernel)) (by decide +kernel)
theorem wd_548 : Cond.methodLink "BeanServer" (126 : Nat) (⟨"java/lang/String", "length", "()I"⟩ : MethodName) ∈ jj_gw := jj_mem3 (List.mem_of_getElem? (i := 68) (by decide +kernel)) (by decide +kernel)
theorem wd_549 : Cond.methodLink "BeanServer" (163 : Nat) (⟨"java/lang/String", "charAt", "(I)C"⟩ : MethodName) ∈ jj_gw := jj_mem3 (List.mem_of_getElem? (i := 69) (by decide +kernel)) (by decide +kernel)
theorem wd_550 : Cond.classLink "BeanServer" (111 : Nat) "BeanServer$QueryReader" ∈ jj_gw := jj_mem3 (List.mem_of_getElem? (i := 70) (by decide +kernel)) (by decide +kernel)
theorem wd_551 : Cond.instantiable "BeanServer$QueryReader" (6 : Nat) ∈ jj_gw := jj_mem3 (List.mem_of_getElem? (i := 71) (by decide +kernel)) (by decide +kernel)
theorem wd_552 : Cond.methodLink "BeanServer" (113 : Nat) (⟨"BeanServer$QueryReader", "<init>", "(Ljava/lang/String;LBeanServer$Bean;)V"⟩ : MethodName) ∈ jj_gw := jj_mem3 (List.mem_of_getElem? (i := 72) (by decide +kernel)) (by decide +kernel)
theorem wd_553 : Cond.instanceMethod (⟨"BeanServer$QueryReader", "<init>", "(Ljava/lang/String;LBeanServer$Bean;)V"⟩ : MethodName) ∈ jj_gw := jj_mem3 (List.mem_of_getElem? (i := 73) (by decide +kernel)) (by decide +kernel)
theorem wd_554 : Cond.code (⟨"BeanServer$QueryReader", "<init>", "(Ljava/lang/String;LBeanServer$Bean;)V"⟩ : MethodName) prog_10_method_1_code (3 : Nat) (Option.none : Option FieldType) ∈ jj_gw := jj_mem3 (List.mem_of_getElem? (i := 74) (by decide +kernel)) (by decide +kernel)
theorem wd_555 : Cond.methodLink "BeanServer$QueryReader" (3 : Nat) (⟨"java/lang/Object", "<init>", "()V"⟩ : MethodName) ∈ jj_gw := jj_mem3 (List.mem_of_getElem? (i := 75) (by decide +kernel)) (by decide +kernel)
theorem wd_556 : Cond.methodLink "BeanServer$QueryReader" (30 : Nat) (⟨"java/lang/String", "isEmpty", "()Z"⟩ : MethodName) ∈ jj_gw := jj_mem3 (List.mem_of_getElem? (i := 76) (by decide +kernel)) (by decide +kernel)
theorem wd_557 : Cond.instanceMethod (⟨"java/lang/String", "isEmpty", "()Z"⟩ : MethodName) ∈ jj_gw := jj_mem3 (List.mem_of_getElem? (i := 77) (by decide +kernel)) (by decide +kernel)
theorem wd_558 : Cond.selects "java/lang/String" (⟨"java/lang/String", "isEmpty", "()Z"⟩ : MethodName) (⟨"java/lang/String", "isEmpty", "()Z"⟩ : MethodName) ∈ jj_gw := jj_mem3 (List.mem_of_getElem? (i := 78) (by decide +kernel)) (by decide +kernel)
theorem wd_559 : Cond.code (⟨"java/lang/String", "isEmpty", "()Z"⟩ : MethodName) prog_17_method_55_code (1 : Nat) (Option.some FieldType.boolean) ∈ jj_gw := jj_mem3 (List.mem_of_getElem? (i := 79) (by decide +kernel)) (by decide +kernel)
theorem wd_560 : Cond.methodLink "BeanServer$QueryReader" (36 : Nat) (⟨"java/lang/String", "charAt", "(I)C"⟩ : MethodName) ∈ jj_gw := jj_mem3 (List.mem_of_getElem? (i := 80) (by decide +kernel)) (by decide +kernel)
theorem wd_561 : Cond.fieldLink "BeanServer$QueryReader" (22 : Nat) "BeanServer$QueryReader" "text" "Ljava/lang/String;" ∈ jj_gw := jj_mem3 (List.mem_of_getElem? (i := 81) (by decide +kernel)) (by decide +kernel)
theorem wd_562 : Cond.fieldLink "BeanServer$QueryReader" (26 : Nat) "BeanServer$QueryReader" "bean" "LBeanServer$Bean;" ∈ jj_gw := jj_mem3 (List.mem_of_getElem? (i := 82) (by decide +kernel)) (by decide +kernel)
theorem wd_563 : Cond.fieldLink "BeanServer$QueryReader" (9 : Nat) "BeanServer$QueryReader" "at" "I" ∈ jj_gw := jj_mem3 (List.mem_of_getElem? (i := 83) (by decide +kernel)) (by decide +kernel)
theorem wd_564 : Cond.fieldLink "BeanServer" (123 : Nat) "BeanServer$QueryReader" "at" "I" ∈ jj_gw := jj_mem3 (List.mem_of_getElem? (i := 84) (by decide +kernel)) (by decide +kernel)
theorem wd_565 : Cond.fieldLink "BeanServer$QueryReader" (15 : Nat) "BeanServer$QueryReader" "wrong" "Z" ∈ jj_gw := jj_mem3 (List.mem_of_getElem? (i := 85) (by decide +kernel)) (by decide +kernel)
theorem wd_566 : Cond.fieldLink "BeanServer" (119 : Nat) "BeanServer$QueryReader" "wrong" "Z" ∈ jj_gw := jj_mem3 (List.mem_of_getElem? (i := 86) (by decide +kernel)) (by decide +kernel)
theorem wd_567 : Cond.fieldLink "BeanServer$QueryReader" (40 : Nat) "BeanServer$QueryReader" "here" "C" ∈ jj_gw := jj_mem3 (List.mem_of_getElem? (i := 87) (by decide +kernel)) (by decide +kernel)
theorem wd_568 : Cond.fieldLink "BeanServer$QueryReader" (19 : Nat) "BeanServer$QueryReader" "failed" "Z" ∈ jj_gw := jj_mem3 (List.mem_of_getElem? (i := 88) (by decide +kernel)) (by decide +kernel)
theorem wd_569 : Cond.laysFinal "BeanServer$QueryReader" "BeanServer$QueryReader" "text" "Ljava/lang/String;" ∈ jj_gw := jj_mem3 (List.mem_of_getElem? (i := 89) (by decide +kernel)) (by decide +kernel)
theorem wd_571 : Cond.laysFinal "BeanServer$QueryReader" "BeanServer$QueryReader" "bean" "LBeanServer$Bean;" ∈ jj_gw := jj_mem3 (List.mem_of_getElem? (i := 91) (by decide +kernel)) (by decide +kernel)
theorem wd_573 : Cond.lays "BeanServer$QueryReader" "BeanServer$QueryReader" "at" "I" ∈ jj_gw := jj_mem3 (List.mem_of_getElem? (i := 93) (by decide +kernel)) (by decide +kernel)
theorem wd_575 : Cond.lays "BeanServer$QueryReader" "BeanServer$QueryReader" "wrong" "Z" ∈ jj_gw := jj_mem3 (List.mem_of_getElem? (i := 95) (by decide +kernel)) (by decide +kernel)
theorem wd_577 : Cond.lays "BeanServer$QueryReader" "BeanServer$QueryReader" "here" "C" ∈ jj_gw := jj_mem3 (List.mem_of_getElem? (i := 97) (by decide +kernel)) (by decide +kernel)
theorem wd_579 : Cond.lays "BeanServer$QueryReader" "BeanServer$QueryReader" "failed" "Z" ∈ jj_gw := jj_mem3 (List.mem_of_getElem? (i := 99) (by decide +kernel)) (by decide +kernel)
theorem wd_581 : Cond.superclass "BeanServer$QueryReader" "java/lang/Object" ∈ jj_gw := jj_mem3 (List.mem_of_getElem? (i := 101) (by decide +kernel)) (by decide +kernel)
theorem wd_582 : Cond.methodLink "BeanServer" (116 : Nat) (⟨"BeanServer$QueryReader", "any", "()I"⟩ : MethodName) ∈ jj_gw := jj_mem3 (List.mem_of_getElem? (i := 102) (by decide +kernel)) (by decide +kernel)
theorem wd_583 : Cond.instanceMethod (⟨"BeanServer$QueryReader", "any", "()I"⟩ : MethodName) ∈ jj_gw := jj_mem3 (List.mem_of_getElem? (i := 103) (by decide +kernel)) (by decide +kernel)
theorem wd_584 : Cond.selects "BeanServer$QueryReader" (⟨"BeanServer$QueryReader", "any", "()I"⟩ : MethodName) (⟨"BeanServer$QueryReader", "any", "()I"⟩ : MethodName) ∈ jj_gw := jj_mem3 (List.mem_of_getElem? (i := 104) (by decide +kernel)) (by decide +kernel)
theorem wd_585 : Cond.code (⟨"BeanServer$QueryReader", "any", "()I"⟩ : MethodName) prog_10_method_2_code (4 : Nat) (Option.some FieldType.int) ∈ jj_gw := jj_mem3 (List.mem_of_getElem? (i := 105) (by decide +kernel)) (by decide +kernel)
theorem wd_586 : Cond.methodLink "BeanServer$QueryReader" (44 : Nat) (⟨"BeanServer$QueryReader", "all", "()I"⟩ : MethodName) ∈ jj_gw := jj_mem3 (List.mem_of_getElem? (i := 106) (by decide +kernel)) (by decide +kernel)
theorem wd_588 : Cond.instanceMethod (⟨"BeanServer$QueryReader", "all", "()I"⟩ : MethodName) ∈ jj_gw := jj_mem3 (List.mem_of_getElem? (i := 108) (by decide +kernel)) (by decide +kernel)
theorem wd_589 : Cond.code (⟨"BeanServer$QueryReader", "all", "()I"⟩ : MethodName) prog_10_method_3_code (4 : Nat) (Option.some FieldType.int) ∈ jj_gw := jj_mem3 (List.mem_of_getElem? (i := 109) (by decide +kernel)) (by decide +kernel)
theorem wd_590 : Cond.methodLink "BeanServer$QueryReader" (54 : Nat) (⟨"BeanServer$QueryReader", "one", "()I"⟩ : MethodName) ∈ jj_gw := jj_mem3 (List.mem_of_getElem? (i := 110) (by decide +kernel)) (by decide +kernel)
theorem wd_592 : Cond.instanceMethod (⟨"BeanServer$QueryReader", "one", "()I"⟩ : MethodName) ∈ jj_gw := jj_mem3 (List.mem_of_getElem? (i := 112) (by decide +kernel)) (by decide +kernel)
theorem wd_593 : Cond.code (⟨"BeanServer$QueryReader", "one", "()I"⟩ : MethodName) prog_10_method_4_code (4 : Nat) (Option.some FieldType.int) ∈ jj_gw := jj_mem3 (List.mem_of_getElem? (i := 113) (by decide +kernel)) (by decide +kernel)
theorem wd_594 : Cond.methodLink "BeanServer$QueryReader" (51 : Nat) (⟨"BeanServer$QueryReader", "step", "()V"⟩ : MethodName) ∈ jj_gw := jj_mem3 (List.mem_of_getElem? (i := 114) (by decide +kernel)) (by decide +kernel)
theorem wd_596 : Cond.instanceMethod (⟨"BeanServer$QueryReader", "step", "()V"⟩ : MethodName) ∈ jj_gw := jj_mem3 (List.mem_of_getElem? (i := 116) (by decide +kernel)) (by decide +kernel)
theorem wd_597 : Cond.code (⟨"BeanServer$QueryReader", "step", "()V"⟩ : MethodName) prog_10_method_10_code (1 : Nat) (Option.none : Option FieldType) ∈ jj_gw := jj_mem3 (List.mem_of_getElem? (i := 117) (by decide +kernel)) (by decide +kernel)
theorem wd_598 : Cond.methodLink "BeanServer$QueryReader" (48 : Nat) (⟨"java/lang/String", "length", "()I"⟩ : MethodName) ∈ jj_gw := jj_mem3 (List.mem_of_getElem? (i := 118) (by decide +kernel)) (by decide +kernel)
theorem wd_599 : Cond.methodLink "BeanServer$QueryReader" (57 : Nat) (⟨"BeanServer$QueryReader", "any", "()I"⟩ : MethodName) ∈ jj_gw := jj_mem3 (List.mem_of_getElem? (i := 119) (by decide +kernel)) (by decide +kernel)
theorem wd_600 : Cond.methodLink "BeanServer$QueryReader" (60 : Nat) (⟨"BeanServer$QueryReader", "sum", "()I"⟩ : MethodName) ∈ jj_gw := jj_mem3 (List.mem_of_getElem? (i := 120) (by decide +kernel)) (by decide +kernel)
theorem wd_602 : Cond.instanceMethod (⟨"BeanServer$QueryReader", "sum", "()I"⟩ : MethodName) ∈ jj_gw := jj_mem3 (List.mem_of_getElem? (i := 122) (by decide +kernel)) (by decide +kernel)
theorem wd_603 : Cond.code (⟨"BeanServer$QueryReader", "sum", "()I"⟩ : MethodName) prog_10_method_7_code (5 : Nat) (Option.some FieldType.int) ∈ jj_gw := jj_mem3 (List.mem_of_getElem? (i := 123) (by decide +kernel)) (by decide +kernel)
theorem wd_604 : Cond.methodLink "BeanServer$QueryReader" (71 : Nat) (⟨"BeanServer$QueryReader", "product", "()I"⟩ : MethodName) ∈ jj_gw := jj_mem3 (List.mem_of_getElem? (i := 124) (by decide +kernel)) (by decide +kernel)
theorem wd_606 : Cond.instanceMethod (⟨"BeanServer$QueryReader", "product", "()I"⟩ : MethodName) ∈ jj_gw := jj_mem3 (List.mem_of_getElem? (i := 126) (by decide +kernel)) (by decide +kernel)
theorem wd_607 : Cond.code (⟨"BeanServer$QueryReader", "product", "()I"⟩ : MethodName) prog_10_method_8_code (5 : Nat) (Option.some FieldType.int) ∈ jj_gw := jj_mem3 (List.mem_of_getElem? (i := 127) (by decide +kernel)) (by decide +kernel)
theorem wd_608 : Cond.methodLink "BeanServer$QueryReader" (74 : Nat) (⟨"BeanServer$QueryReader", "unit", "()I"⟩ : MethodName) ∈ jj_gw := jj_mem3 (List.mem_of_getElem? (i := 128) (by decide +kernel)) (by decide +kernel)
theorem wd_610 : Cond.instanceMethod (⟨"BeanServer$QueryReader", "unit", "()I"⟩ : MethodName) ∈ jj_gw := jj_mem3 (List.mem_of_getElem? (i := 130) (by decide +kernel)) (by decide +kernel)
theorem wd_611 : Cond.code (⟨"BeanServer$QueryReader", "unit", "()I"⟩ : MethodName) prog_10_method_9_code (3 : Nat) (Option.some FieldType.int) ∈ jj_gw := jj_mem3 (List.mem_of_getElem? (i := 131) (by decide +kernel)) (by decide +kernel)
theorem wd_612 : Cond.methodLink "BeanServer$QueryReader" (63 : Nat) (⟨"BeanServer$QueryReader", "isRelation", "(C)Z"⟩ : MethodName) ∈ jj_gw := jj_mem3 (List.mem_of_getElem? (i := 132) (by decide +kernel)) (by decide +kernel)
theorem wd_613 : Cond.static (⟨"BeanServer$QueryReader", "isRelation", "(C)Z"⟩ : MethodName) ∈ jj_gw := jj_mem3 (List.mem_of_getElem? (i := 133) (by decide +kernel)) (by decide +kernel)
theorem wd_614 : Cond.code (⟨"BeanServer$QueryReader", "isRelation", "(C)Z"⟩ : MethodName) prog_10_method_5_code (1 : Nat) (Option.some FieldType.boolean) ∈ jj_gw := jj_mem3 (List.mem_of_getElem? (i := 134) (by decide +kernel)) (by decide +kernel)
theorem wd_615 : Cond.methodLink "BeanServer$QueryReader" (67 : Nat) (⟨"BeanServer$QueryReader", "compared", "(ICI)I"⟩ : MethodName) ∈ jj_gw := jj_mem3 (List.mem_of_getElem? (i := 135) (by decide +kernel)) (by decide +kernel)
theorem wd_616 : Cond.static (⟨"BeanServer$QueryReader", "compared", "(ICI)I"⟩ : MethodName) ∈ jj_gw := jj_mem3 (List.mem_of_getElem? (i := 136) (by decide +kernel)) (by decide +kernel)
theorem wd_617 : Cond.code (⟨"BeanServer$QueryReader", "compared", "(ICI)I"⟩ : MethodName) prog_10_method_6_code (4 : Nat) (Option.some FieldType.int) ∈ jj_gw := jj_mem3 (List.mem_of_getElem? (i := 137) (by decide +kernel)) (by decide +kernel)
theorem wd_618 : Cond.instantiable "BeanServer$Query" (1 : Nat) ∈ jj_gw := jj_mem3 (List.mem_of_getElem? (i := 138) (by decide +kernel)) (by decide +kernel)
theorem wd_619 : Cond.classLink "BeanServer" (129 : Nat) "BeanServer$QueryForm" ∈ jj_gw := jj_mem3 (List.mem_of_getElem? (i := 139) (by decide +kernel)) (by decide +kernel)
theorem wd_620 : Cond.instantiable "BeanServer$QueryForm" (4 : Nat) ∈ jj_gw := jj_mem3 (List.mem_of_getElem? (i := 140) (by decide +kernel)) (by decide +kernel)
theorem wd_621 : Cond.methodLink "BeanServer" (131 : Nat) (⟨"BeanServer$QueryForm", "<init>", "(Ljava/lang/String;)V"⟩ : MethodName) ∈ jj_gw := jj_mem3 (List.mem_of_getElem? (i := 141) (by decide +kernel)) (by decide +kernel)
theorem wd_622 : Cond.instanceMethod (⟨"BeanServer$QueryForm", "<init>", "(Ljava/lang/String;)V"⟩ : MethodName) ∈ jj_gw := jj_mem3 (List.mem_of_getElem? (i := 142) (by decide +kernel)) (by decide +kernel)
theorem wd_623 : Cond.code (⟨"BeanServer$QueryForm", "<init>", "(Ljava/lang/String;)V"⟩ : MethodName) prog_9_method_1_code (2 : Nat) (Option.none : Option FieldType) ∈ jj_gw := jj_mem3 (List.mem_of_getElem? (i := 143) (by decide +kernel)) (by decide +kernel)
theorem wd_624 : Cond.methodLink "BeanServer$QueryForm" (3 : Nat) (⟨"java/lang/Object", "<init>", "()V"⟩ : MethodName) ∈ jj_gw := jj_mem3 (List.mem_of_getElem? (i := 144) (by decide +kernel)) (by decide +kernel)
theorem wd_625 : Cond.classLink "BeanServer$QueryForm" (9 : Nat) "java/lang/StringBuilder" ∈ jj_gw := jj_mem3 (List.mem_of_getElem? (i := 145) (by decide +kernel)) (by decide +kernel)
theorem wd_626 : Cond.methodLink "BeanServer$QueryForm" (11 : Nat) (⟨"java/lang/StringBuilder", "<init>", "()V"⟩ : MethodName) ∈ jj_gw := jj_mem3 (List.mem_of_getElem? (i := 146) (by decide +kernel)) (by decide +kernel)
theorem wd_627 : Cond.fieldLink "BeanServer$QueryForm" (26 : Nat) "BeanServer$QueryForm" "text" "Ljava/lang/String;" ∈ jj_gw := jj_mem3 (List.mem_of_getElem? (i := 147) (by decide +kernel)) (by decide +kernel)
theorem wd_628 : Cond.fieldLink "BeanServer$QueryForm" (12 : Nat) "BeanServer$QueryForm" "out" "Ljava/lang/StringBuilder;" ∈ jj_gw := jj_mem3 (List.mem_of_getElem? (i := 148) (by decide +kernel)) (by decide +kernel)
theorem wd_629 : Cond.fieldLink "BeanServer$QueryForm" (18 : Nat) "BeanServer$QueryForm" "opens" "[I" ∈ jj_gw := jj_mem3 (List.mem_of_getElem? (i := 149) (by decide +kernel)) (by decide +kernel)
theorem wd_630 : Cond.fieldLink "BeanServer$QueryForm" (22 : Nat) "BeanServer$QueryForm" "depth" "I" ∈ jj_gw := jj_mem3 (List.mem_of_getElem? (i := 150) (by decide +kernel)) (by decide +kernel)
theorem wd_631 : Cond.laysFinal "BeanServer$QueryForm" "BeanServer$QueryForm" "text" "Ljava/lang/String;" ∈ jj_gw := jj_mem3 (List.mem_of_getElem? (i := 151) (by decide +kernel)) (by decide +kernel)
theorem wd_633 : Cond.laysFinal "BeanServer$QueryForm" "BeanServer$QueryForm" "out" "Ljava/lang/StringBuilder;" ∈ jj_gw := jj_mem3 (List.mem_of_getElem? (i := 153) (by decide +kernel)) (by decide +kernel)
theorem wd_635 : Cond.laysFinal "BeanServer$QueryForm" "BeanServer$QueryForm" "opens" "[I" ∈ jj_gw := jj_mem3 (List.mem_of_getElem? (i := 155) (by decide +kernel)) (by decide +kernel)
theorem wd_637 : Cond.lays "BeanServer$QueryForm" "BeanServer$QueryForm" "depth" "I" ∈ jj_gw := jj_mem3 (List.mem_of_getElem? (i := 157) (by decide +kernel)) (by decide +kernel)
theorem wd_639 : Cond.superclass "BeanServer$QueryForm" "java/lang/Object" ∈ jj_gw := jj_mem3 (List.mem_of_getElem? (i := 159) (by decide +kernel)) (by decide +kernel)
theorem wd_640 : Cond.methodLink "BeanServer" (134 : Nat) (⟨"BeanServer$QueryForm", "written", "()Ljava/lang/String;"⟩ : MethodName) ∈ jj_gw := jj_mem3 (List.mem_of_getElem? (i := 160) (by decide +kernel)) (by decide +kernel)
theorem wd_641 : Cond.instanceMethod (⟨"BeanServer$QueryForm", "written", "()Ljava/lang/String;"⟩ : MethodName) ∈ jj_gw := jj_mem3 (List.mem_of_getElem? (i := 161) (by decide +kernel)) (by decide +kernel)
theorem wd_642 : Cond.selects "BeanServer$QueryForm" (⟨"BeanServer$QueryForm", "written", "()Ljava/lang/String;"⟩ : MethodName) (⟨"BeanServer$QueryForm", "written", "()Ljava/lang/String;"⟩ : MethodName) ∈ jj_gw := jj_mem3 (List.mem_of_getElem? (i := 162) (by decide +kernel)) (by decide +kernel)
theorem wd_643 : Cond.code (⟨"BeanServer$QueryForm", "written", "()Ljava/lang/String;"⟩ : MethodName) prog_9_method_2_code (4 : Nat) (Option.some (FieldType.object "java/lang/String")) ∈ jj_gw := jj_mem3 (List.mem_of_getElem? (i := 163) (by decide +kernel)) (by decide +kernel)
theorem wd_644 : Cond.methodLink "BeanServer$QueryForm" (30 : Nat) (⟨"java/lang/String", "length", "()I"⟩ : MethodName) ∈ jj_gw := jj_mem3 (List.mem_of_getElem? (i := 164) (by decide +kernel)) (by decide +kernel)
theorem wd_645 : Cond.methodLink "BeanServer$QueryForm" (36 : Nat) (⟨"java/lang/String", "charAt", "(I)C"⟩ : MethodName) ∈ jj_gw := jj_mem3 (List.mem_of_getElem? (i := 165) (by decide +kernel)) (by decide +kernel)
theorem wd_646 : Cond.methodLink "BeanServer$QueryForm" (40 : Nat) (⟨"BeanServer$QueryForm", "openParenthesis", "()V"⟩ : MethodName) ∈ jj_gw := jj_mem3 (List.mem_of_getElem? (i := 166) (by decide +kernel)) (by decide +kernel)
theorem wd_648 : Cond.instanceMethod (⟨"BeanServer$QueryForm", "openParenthesis", "()V"⟩ : MethodName) ∈ jj_gw := jj_mem3 (List.mem_of_getElem? (i := 168) (by decide +kernel)) (by decide +kernel)
theorem wd_649 : Cond.code (⟨"BeanServer$QueryForm", "openParenthesis", "()V"⟩ : MethodName) prog_9_method_3_code (1 : Nat) (Option.none : Option FieldType) ∈ jj_gw := jj_mem3 (List.mem_of_getElem? (i := 169) (by decide +kernel)) (by decide +kernel)
theorem wd_650 : Cond.methodLink "BeanServer$QueryForm" (51 : Nat) (⟨"java/lang/StringBuilder", "length", "()I"⟩ : MethodName) ∈ jj_gw := jj_mem3 (List.mem_of_getElem? (i := 170) (by decide +kernel)) (by decide +kernel)
theorem wd_651 : Cond.methodLink "BeanServer$QueryForm" (55 : Nat) (⟨"java/lang/StringBuilder", "append", "(C)Ljava/lang/StringBuilder;"⟩ : MethodName) ∈ jj_gw := jj_mem3 (List.mem_of_getElem? (i := 171) (by decide +kernel)) (by decide +kernel)
theorem wd_652 : Cond.methodLink "BeanServer$QueryForm" (43 : Nat) (⟨"BeanServer$QueryForm", "closeParenthesis", "(C)V"⟩ : MethodName) ∈ jj_gw := jj_mem3 (List.mem_of_getElem? (i := 172) (by decide +kernel)) (by decide +kernel)
theorem wd_654 : Cond.instanceMethod (⟨"BeanServer$QueryForm", "closeParenthesis", "(C)V"⟩ : MethodName) ∈ jj_gw := jj_mem3 (List.mem_of_getElem? (i := 174) (by decide +kernel)) (by decide +kernel)
theorem wd_655 : Cond.code (⟨"BeanServer$QueryForm", "closeParenthesis", "(C)V"⟩ : MethodName) prog_9_method_4_code (3 : Nat) (Option.none : Option FieldType) ∈ jj_gw := jj_mem3 (List.mem_of_getElem? (i := 175) (by decide +kernel)) (by decide +kernel)
theorem wd_656 : Cond.methodLink "BeanServer$QueryForm" (52 : Nat) (⟨"BeanServer$QueryForm", "lastBefore", "(I)C"⟩ : MethodName) ∈ jj_gw := jj_mem3 (List.mem_of_getElem? (i := 176) (by decide +kernel)) (by decide +kernel)
theorem wd_658 : Cond.instanceMethod (⟨"BeanServer$QueryForm", "lastBefore", "(I)C"⟩ : MethodName) ∈ jj_gw := jj_mem3 (List.mem_of_getElem? (i := 178) (by decide +kernel)) (by decide +kernel)
theorem wd_659 : Cond.code (⟨"BeanServer$QueryForm", "lastBefore", "(I)C"⟩ : MethodName) prog_9_method_7_code (2 : Nat) (Option.some FieldType.char) ∈ jj_gw := jj_mem3 (List.mem_of_getElem? (i := 179) (by decide +kernel)) (by decide +kernel)
theorem wd_660 : Cond.methodLink "BeanServer$QueryForm" (74 : Nat) (⟨"java/lang/StringBuilder", "charAt", "(I)C"⟩ : MethodName) ∈ jj_gw := jj_mem3 (List.mem_of_getElem? (i := 180) (by decide +kernel)) (by decide +kernel)
theorem wd_661 : Cond.instanceMethod (⟨"java/lang/StringBuilder", "charAt", "(I)C"⟩ : MethodName) ∈ jj_gw := jj_mem3 (List.mem_of_getElem? (i := 181) (by decide +kernel)) (by decide +kernel)
theorem wd_662 : Cond.selects "java/lang/StringBuilder" (⟨"java/lang/StringBuilder", "charAt", "(I)C"⟩ : MethodName) (⟨"java/lang/StringBuilder", "charAt", "(I)C"⟩ : MethodName) ∈ jj_gw := jj_mem3 (List.mem_of_getElem? (i := 182) (by decide +kernel)) (by decide +kernel)
theorem wd_663 : Cond.code (⟨"java/lang/StringBuilder", "charAt", "(I)C"⟩ : MethodName) prog_18_method_88_code (2 : Nat) (Option.some FieldType.char) ∈ jj_gw := jj_mem3 (List.mem_of_getElem? (i := 183) (by decide +kernel)) (by decide +kernel)
theorem wd_664 : Cond.methodLink "java/lang/StringBuilder" (329 : Nat) (⟨"java/lang/AbstractStringBuilder", "charAt", "(I)C"⟩ : MethodName) ∈ jj_gw := jj_mem3 (List.mem_of_getElem? (i := 184) (by decide +kernel)) (by decide +kernel)
theorem wd_665 : Cond.instanceMethod (⟨"java/lang/AbstractStringBuilder", "charAt", "(I)C"⟩ : MethodName) ∈ jj_gw := jj_mem3 (List.mem_of_getElem? (i := 185) (by decide +kernel)) (by decide +kernel)
theorem wd_666 : Cond.code (⟨"java/lang/AbstractStringBuilder", "charAt", "(I)C"⟩ : MethodName) prog_13_method_14_code (5 : Nat) (Option.some FieldType.char) ∈ jj_gw := jj_mem3 (List.mem_of_getElem? (i := 186) (by decide +kernel)) (by decide +kernel)
theorem wd_667 : Cond.methodLink "java/lang/AbstractStringBuilder" (138 : Nat) (⟨"java/lang/Math", "min", "(II)I"⟩ : MethodName) ∈ jj_gw := jj_mem3 (List.mem_of_getElem? (i := 187) (by decide +kernel)) (by decide +kernel)
theorem wd_668 : Cond.methodLink "java/lang/AbstractStringBuilder" (144 : Nat) (⟨"java/lang/String", "checkIndex", "(II)V"⟩ : MethodName) ∈ jj_gw := jj_mem3 (List.mem_of_getElem? (i := 188) (by decide +kernel)) (by decide +kernel)
theorem wd_669 : Cond.methodLink "java/lang/AbstractStringBuilder" (148 : Nat) (⟨"java/lang/StringUTF16", "getChar", "([BI)C"⟩ : MethodName) ∈ jj_gw := jj_mem3 (List.mem_of_getElem? (i := 189) (by decide +kernel)) (by decide +kernel)
theorem wd_670 : Cond.methodLink "BeanServer$QueryForm" (63 : Nat) (⟨"BeanServer$QueryForm", "jointFrom", "(I)C"⟩ : MethodName) ∈ jj_gw := jj_mem3 (List.mem_of_getElem? (i := 190) (by decide +kernel)) (by decide +kernel)
theorem wd_672 : Cond.instanceMethod (⟨"BeanServer$QueryForm", "jointFrom", "(I)C"⟩ : MethodName) ∈ jj_gw := jj_mem3 (List.mem_of_getElem? (i := 192) (by decide +kernel)) (by decide +kernel)
theorem wd_673 : Cond.code (⟨"BeanServer$QueryForm", "jointFrom", "(I)C"⟩ : MethodName) prog_9_method_8_code (6 : Nat) (Option.some FieldType.char) ∈ jj_gw := jj_mem3 (List.mem_of_getElem? (i := 193) (by decide +kernel)) (by decide +kernel)
theorem wd_674 : Cond.methodLink "BeanServer$QueryForm" (66 : Nat) (⟨"BeanServer$QueryForm", "isNeeded", "(CCC)Z"⟩ : MethodName) ∈ jj_gw := jj_mem3 (List.mem_of_getElem? (i := 194) (by decide +kernel)) (by decide +kernel)
theorem wd_675 : Cond.static (⟨"BeanServer$QueryForm", "isNeeded", "(CCC)Z"⟩ : MethodName) ∈ jj_gw := jj_mem3 (List.mem_of_getElem? (i := 195) (by decide +kernel)) (by decide +kernel)
theorem wd_676 : Cond.code (⟨"BeanServer$QueryForm", "isNeeded", "(CCC)Z"⟩ : MethodName) prog_9_method_5_code (3 : Nat) (Option.some FieldType.boolean) ∈ jj_gw := jj_mem3 (List.mem_of_getElem? (i := 196) (by decide +kernel)) (by decide +kernel)
theorem wd_677 : Cond.methodLink "BeanServer$QueryForm" (70 : Nat) (⟨"java/lang/StringBuilder", "deleteCharAt", "(I)Ljava/lang/StringBuilder;"⟩ : MethodName) ∈ jj_gw := jj_mem3 (List.mem_of_getElem? (i := 197) (by decide +kernel)) (by decide +kernel)
theorem wd_678 : Cond.instanceMethod (⟨"java/lang/StringBuilder", "deleteCharAt", "(I)Ljava/lang/StringBuilder;"⟩ : MethodName) ∈ jj_gw := jj_mem3 (List.mem_of_getElem? (i := 198) (by decide +kernel)) (by decide +kernel)
theorem wd_679 : Cond.selects "java/lang/StringBuilder" (⟨"java/lang/StringBuilder", "deleteCharAt", "(I)Ljava/lang/StringBuilder;"⟩ : MethodName) (⟨"java/lang/StringBuilder", "deleteCharAt", "(I)Ljava/lang/StringBuilder;"⟩ : MethodName) ∈ jj_gw := jj_mem3 (List.mem_of_getElem? (i := 199) (by decide +kernel)) (by decide +kernel)
theorem wd_680 : Cond.code (⟨"java/lang/StringBuilder", "deleteCharAt", "(I)Ljava/lang/StringBuilder;"⟩ : MethodName) prog_18_method_21_code (2 : Nat) (Option.some (FieldType.object "java/lang/StringBuilder")) ∈ jj_gw := jj_mem3 (List.mem_of_getElem? (i := 200) (by decide +kernel)) (by decide +kernel)
theorem wd_681 : Cond.methodLink "java/lang/StringBuilder" (72 : Nat) (⟨"java/lang/AbstractStringBuilder", "deleteCharAt", "(I)Ljava/lang/AbstractStringBuilder;"⟩ : MethodName) ∈ jj_gw := jj_mem3 (List.mem_of_getElem? (i := 201) (by decide +kernel)) (by decide +kernel)
theorem wd_682 : Cond.instanceMethod (⟨"java/lang/AbstractStringBuilder", "deleteCharAt", "(I)Ljava/lang/AbstractStringBuilder;"⟩ : MethodName) ∈ jj_gw := jj_mem3 (List.mem_of_getElem? (i := 202) (by decide +kernel)) (by decide +kernel)
theorem wd_683 : Cond.code (⟨"java/lang/AbstractStringBuilder", "deleteCharAt", "(I)Ljava/lang/AbstractStringBuilder;"⟩ : MethodName) prog_13_method_38_code (2 : Nat) (Option.some (FieldType.object "java/lang/AbstractStringBuilder")) ∈ jj_gw := jj_mem3 (List.mem_of_getElem? (i := 203) (by decide +kernel)) (by decide +kernel)
theorem wd_684 : Cond.methodLink "java/lang/AbstractStringBuilder" (283 : Nat) (⟨"java/lang/AbstractStringBuilder", "shift", "(II)V"⟩ : MethodName) ∈ jj_gw := jj_mem3 (List.mem_of_getElem? (i := 204) (by decide +kernel)) (by decide +kernel)
theorem wd_686 : Cond.instanceMethod (⟨"java/lang/AbstractStringBuilder", "shift", "(II)V"⟩ : MethodName) ∈ jj_gw := jj_mem3 (List.mem_of_getElem? (i := 206) (by decide +kernel)) (by decide +kernel)
theorem wd_687 : Cond.code (⟨"java/lang/AbstractStringBuilder", "shift", "(II)V"⟩ : MethodName) prog_13_method_43_code (3 : Nat) (Option.none : Option FieldType) ∈ jj_gw := jj_mem3 (List.mem_of_getElem? (i := 207) (by decide +kernel)) (by decide +kernel)
theorem wd_688 : Cond.methodLink "java/lang/AbstractStringBuilder" (309 : Nat) (⟨"java/lang/System", "arraycopy", "(Ljava/lang/Object;ILjava/lang/Object;II)V"⟩ : MethodName) ∈ jj_gw := jj_mem3 (List.mem_of_getElem? (i := 208) (by decide +kernel)) (by decide +kernel)
theorem wd_689 : Cond.methodLink "BeanServer$QueryForm" (47 : Nat) (⟨"BeanServer$QueryForm", "isDigit", "(C)Z"⟩ : MethodName) ∈ jj_gw := jj_mem3 (List.mem_of_getElem? (i := 209) (by decide +kernel)) (by decide +kernel)
theorem wd_690 : Cond.static (⟨"BeanServer$QueryForm", "isDigit", "(C)Z"⟩ : MethodName) ∈ jj_gw := jj_mem3 (List.mem_of_getElem? (i := 210) (by decide +kernel)) (by decide +kernel)
theorem wd_691 : Cond.code (⟨"BeanServer$QueryForm", "isDigit", "(C)Z"⟩ : MethodName) prog_9_method_6_code (1 : Nat) (Option.some FieldType.boolean) ∈ jj_gw := jj_mem3 (List.mem_of_getElem? (i := 211) (by decide +kernel)) (by decide +kernel)
theorem wd_692 : Cond.methodLink "BeanServer$QueryForm" (59 : Nat) (⟨"java/lang/StringBuilder", "toString", "()Ljava/lang/String;"⟩ : MethodName) ∈ jj_gw := jj_mem3 (List.mem_of_getElem? (i := 212) (by decide +kernel)) (by decide +kernel)
theorem wd_693 : Cond.methodLink "BeanServer" (137 : Nat) (⟨"BeanServer$Query", "<init>", "(Ljava/lang/String;)V"⟩ : MethodName) ∈ jj_gw := jj_mem3 (List.mem_of_getElem? (i := 213) (by decide +kernel)) (by decide +kernel)
theorem wd_694 : Cond.instanceMethod (⟨"BeanServer$Query", "<init>", "(Ljava/lang/String;)V"⟩ : MethodName) ∈ jj_gw := jj_mem3 (List.mem_of_getElem? (i := 214) (by decide +kernel)) (by decide +kernel)
theorem wd_695 : Cond.code (⟨"BeanServer$Query", "<init>", "(Ljava/lang/String;)V"⟩ : MethodName) prog_8_method_1_code (2 : Nat) (Option.none : Option FieldType) ∈ jj_gw := jj_mem3 (List.mem_of_getElem? (i := 215) (by decide +kernel)) (by decide +kernel)
theorem wd_696 : Cond.methodLink "BeanServer$Query" (1 : Nat) (⟨"java/lang/Object", "<init>", "()V"⟩ : MethodName) ∈ jj_gw := jj_mem3 (List.mem_of_getElem? (i := 216) (by decide +kernel)) (by decide +kernel)
theorem wd_697 : Cond.fieldLink "BeanServer$Query" (7 : Nat) "BeanServer$Query" "form" "Ljava/lang/String;" ∈ jj_gw := jj_mem3 (List.mem_of_getElem? (i := 217) (by decide +kernel)) (by decide +kernel)
theorem wd_698 : Cond.fieldLink "BeanServer" (142 : Nat) "BeanServer$Query" "form" "Ljava/lang/String;" ∈ jj_gw := jj_mem3 (List.mem_of_getElem? (i := 218) (by decide +kernel)) (by decide +kernel)
theorem wd_699 : Cond.laysFinal "BeanServer$Query" "BeanServer$Query" "form" "Ljava/lang/String;" ∈ jj_gw := jj_mem3 (List.mem_of_getElem? (i := 219) (by decide +kernel)) (by decide +kernel)
theorem wd_701 : Cond.superclass "BeanServer$Query" "java/lang/Object" ∈ jj_gw := jj_mem3 (List.mem_of_getElem? (i := 221) (by decide +kernel)) (by decide +kernel)
theorem wd_702 : Cond.methodLink "BeanServerLaw" (50 : Nat) (⟨"BeanServer", "check", "(II)I"⟩ : MethodName) ∈ jj_gw := jj_mem3 (List.mem_of_getElem? (i := 222) (by decide +kernel)) (by decide +kernel)
theorem wd_703 : Cond.instanceMethod (⟨"BeanServer", "check", "(II)I"⟩ : MethodName) ∈ jj_gw := jj_mem3 (List.mem_of_getElem? (i := 223) (by decide +kernel)) (by decide +kernel)
theorem wd_704 : Cond.selects "BeanServer" (⟨"BeanServer", "check", "(II)I"⟩ : MethodName) (⟨"BeanServer", "check", "(II)I"⟩ : MethodName) ∈ jj_gw := jj_mem3 (List.mem_of_getElem? (i := 224) (by decide +kernel)) (by decide +kernel)
theorem wd_705 : Cond.code (⟨"BeanServer", "check", "(II)I"⟩ : MethodName) prog_1_method_10_code (5 : Nat) (Option.some FieldType.int) ∈ jj_gw := jj_mem3 (List.mem_of_getElem? (i := 225) (by decide +kernel)) (by decide +kernel)
theorem wd_706 : Cond.methodLink "BeanServer" (138 : Nat) (⟨"BeanServer", "queryAt", "(I)LBeanServer$Query;"⟩ : MethodName) ∈ jj_gw := jj_mem3 (List.mem_of_getElem? (i := 226) (by decide +kernel)) (by decide +kernel)
theorem wd_708 : Cond.instanceMethod (⟨"BeanServer", "queryAt", "(I)LBeanServer$Query;"⟩ : MethodName) ∈ jj_gw := jj_mem3 (List.mem_of_getElem? (i := 228) (by decide +kernel)) (by decide +kernel)
theorem wd_709 : Cond.code (⟨"BeanServer", "queryAt", "(I)LBeanServer$Query;"⟩ : MethodName) prog_1_method_27_code (2 : Nat) (Option.some (FieldType.object "BeanServer$Query")) ∈ jj_gw := jj_mem3 (List.mem_of_getElem? (i := 229) (by decide +kernel)) (by decide +kernel)
theorem wd_710 : Cond.methodLink "BeanServerLaw" (54 : Nat) (⟨"BeanServer", "select", "(I)I"⟩ : MethodName) ∈ jj_gw := jj_mem3 (List.mem_of_getElem? (i := 230) (by decide +kernel)) (by decide +kernel)
theorem wd_711 : Cond.instanceMethod (⟨"BeanServer", "select", "(I)I"⟩ : MethodName) ∈ jj_gw := jj_mem3 (List.mem_of_getElem? (i := 231) (by decide +kernel)) (by decide +kernel)
theorem wd_712 : Cond.selects "BeanServer" (⟨"BeanServer", "select", "(I)I"⟩ : MethodName) (⟨"BeanServer", "select", "(I)I"⟩ : MethodName) ∈ jj_gw := jj_mem3 (List.mem_of_getElem? (i := 232) (by decide +kernel)) (by decide +kernel)
theorem wd_713 : Cond.code (⟨"BeanServer", "select", "(I)I"⟩ : MethodName) prog_1_method_11_code (7 : Nat) (Option.some FieldType.int) ∈ jj_gw := jj_mem3 (List.mem_of_getElem? (i := 233) (by decide +kernel)) (by decide +kernel)
theorem wd_714 : Cond.methodLink "BeanServer" (151 : Nat) (⟨"BeanServer$Pattern", "fits", "(LBeanServer$Pattern;)Z"⟩ : MethodName) ∈ jj_gw := jj_mem3 (List.mem_of_getElem? (i := 234) (by decide +kernel)) (by decide +kernel)
theorem wd_715 : Cond.instanceMethod (⟨"BeanServer$Pattern", "fits", "(LBeanServer$Pattern;)Z"⟩ : MethodName) ∈ jj_gw := jj_mem3 (List.mem_of_getElem? (i := 235) (by decide +kernel)) (by decide +kernel)
theorem wd_716 : Cond.selects "BeanServer$Pattern" (⟨"BeanServer$Pattern", "fits", "(LBeanServer$Pattern;)Z"⟩ : MethodName) (⟨"BeanServer$Pattern", "fits", "(LBeanServer$Pattern;)Z"⟩ : MethodName) ∈ jj_gw := jj_mem3 (List.mem_of_getElem? (i := 236) (by decide +kernel)) (by decide +kernel)
theorem wd_717 : Cond.code (⟨"BeanServer$Pattern", "fits", "(LBeanServer$Pattern;)Z"⟩ : MethodName) prog_7_method_4_code (4 : Nat) (Option.some FieldType.boolean) ∈ jj_gw := jj_mem3 (List.mem_of_getElem? (i := 237) (by decide +kernel)) (by decide +kernel)
theorem wd_718 : Cond.methodLink "BeanServer$Pattern" (60 : Nat) (⟨"BeanServer$Pattern", "standsFor", "(IILjava/lang/String;II)Z"⟩ : MethodName) ∈ jj_gw := jj_mem3 (List.mem_of_getElem? (i := 238) (by decide +kernel)) (by decide +kernel)
theorem wd_720 : Cond.instanceMethod (⟨"BeanServer$Pattern", "standsFor", "(IILjava/lang/String;II)Z"⟩ : MethodName) ∈ jj_gw := jj_mem4 (List.mem_of_getElem? (i := 0) (by decide +kernel)) (by decide +kernel)
theorem wd_721 : Cond.code (⟨"BeanServer$Pattern", "standsFor", "(IILjava/lang/String;II)Z"⟩ : MethodName) prog_7_method_12_code (9 : Nat) (Option.some FieldType.boolean) ∈ jj_gw := jj_mem4 (List.mem_of_getElem? (i := 1) (by decide +kernel)) (by decide +kernel)
theorem wd_722 : Cond.methodLink "BeanServer$Pattern" (90 : Nat) (⟨"BeanServer$Pattern", "reachedBehind", "(CILjava/lang/String;II)I"⟩ : MethodName) ∈ jj_gw := jj_mem4 (List.mem_of_getElem? (i := 2) (by decide +kernel)) (by decide +kernel)
theorem wd_723 : Cond.static (⟨"BeanServer$Pattern", "reachedBehind", "(CILjava/lang/String;II)I"⟩ : MethodName) ∈ jj_gw := jj_mem4 (List.mem_of_getElem? (i := 3) (by decide +kernel)) (by decide +kernel)
theorem wd_724 : Cond.code (⟨"BeanServer$Pattern", "reachedBehind", "(CILjava/lang/String;II)I"⟩ : MethodName) prog_7_method_13_code (8 : Nat) (Option.some FieldType.int) ∈ jj_gw := jj_mem4 (List.mem_of_getElem? (i := 4) (by decide +kernel)) (by decide +kernel)
theorem wd_725 : Cond.methodLink "BeanServerLaw" (59 : Nat) (⟨"BeanServer", "selected", "(I)I"⟩ : MethodName) ∈ jj_gw := jj_mem4 (List.mem_of_getElem? (i := 5) (by decide +kernel)) (by decide +kernel)
theorem wd_726 : Cond.instanceMethod (⟨"BeanServer", "selected", "(I)I"⟩ : MethodName) ∈ jj_gw := jj_mem4 (List.mem_of_getElem? (i := 6) (by decide +kernel)) (by decide +kernel)
theorem wd_727 : Cond.selects "BeanServer" (⟨"BeanServer", "selected", "(I)I"⟩ : MethodName) (⟨"BeanServer", "selected", "(I)I"⟩ : MethodName) ∈ jj_gw := jj_mem4 (List.mem_of_getElem? (i := 7) (by decide +kernel)) (by decide +kernel)
theorem wd_728 : Cond.code (⟨"BeanServer", "selected", "(I)I"⟩ : MethodName) prog_1_method_12_code (2 : Nat) (Option.some FieldType.int) ∈ jj_gw := jj_mem4 (List.mem_of_getElem? (i := 8) (by decide +kernel)) (by decide +kernel)
theorem wd_729 : Cond.methodLink "BeanServerLaw" (63 : Nat) (⟨"BeanServer", "form", "(III)I"⟩ : MethodName) ∈ jj_gw := jj_mem4 (List.mem_of_getElem? (i := 9) (by decide +kernel)) (by decide +kernel)
theorem wd_730 : Cond.instanceMethod (⟨"BeanServer", "form", "(III)I"⟩ : MethodName) ∈ jj_gw := jj_mem4 (List.mem_of_getElem? (i := 10) (by decide +kernel)) (by decide +kernel)
theorem wd_731 : Cond.selects "BeanServer" (⟨"BeanServer", "form", "(III)I"⟩ : MethodName) (⟨"BeanServer", "form", "(III)I"⟩ : MethodName) ∈ jj_gw := jj_mem4 (List.mem_of_getElem? (i := 11) (by decide +kernel)) (by decide +kernel)
theorem wd_732 : Cond.code (⟨"BeanServer", "form", "(III)I"⟩ : MethodName) prog_1_method_13_code (5 : Nat) (Option.some FieldType.int) ∈ jj_gw := jj_mem4 (List.mem_of_getElem? (i := 12) (by decide +kernel)) (by decide +kernel)
theorem wd_733 : Cond.methodLink "BeanServer" (155 : Nat) (⟨"BeanServer", "shownForm", "(II)Ljava/lang/String;"⟩ : MethodName) ∈ jj_gw := jj_mem4 (List.mem_of_getElem? (i := 13) (by decide +kernel)) (by decide +kernel)
theorem wd_735 : Cond.instanceMethod (⟨"BeanServer", "shownForm", "(II)Ljava/lang/String;"⟩ : MethodName) ∈ jj_gw := jj_mem4 (List.mem_of_getElem? (i := 15) (by decide +kernel)) (by decide +kernel)
theorem wd_736 : Cond.code (⟨"BeanServer", "shownForm", "(II)Ljava/lang/String;"⟩ : MethodName) prog_1_method_32_code (3 : Nat) (Option.some (FieldType.object "java/lang/String")) ∈ jj_gw := jj_mem4 (List.mem_of_getElem? (i := 16) (by decide +kernel)) (by decide +kernel)
theorem wd_737 : Cond.methodLink "BeanServer" (159 : Nat) (⟨"java/lang/String", "isEmpty", "()Z"⟩ : MethodName) ∈ jj_gw := jj_mem4 (List.mem_of_getElem? (i := 17) (by decide +kernel)) (by decide +kernel)
theorem wd_738 : Cond.methodLink "BeanServerLaw" (68 : Nat) (⟨"BeanServer", "counter", "(IIII)I"⟩ : MethodName) ∈ jj_gw := jj_mem4 (List.mem_of_getElem? (i := 18) (by decide +kernel)) (by decide +kernel)
theorem wd_739 : Cond.instanceMethod (⟨"BeanServer", "counter", "(IIII)I"⟩ : MethodName) ∈ jj_gw := jj_mem4 (List.mem_of_getElem? (i := 19) (by decide +kernel)) (by decide +kernel)
theorem wd_740 : Cond.selects "BeanServer" (⟨"BeanServer", "counter", "(IIII)I"⟩ : MethodName) (⟨"BeanServer", "counter", "(IIII)I"⟩ : MethodName) ∈ jj_gw := jj_mem4 (List.mem_of_getElem? (i := 20) (by decide +kernel)) (by decide +kernel)
theorem wd_741 : Cond.code (⟨"BeanServer", "counter", "(IIII)I"⟩ : MethodName) prog_1_method_14_code (6 : Nat) (Option.some FieldType.int) ∈ jj_gw := jj_mem4 (List.mem_of_getElem? (i := 21) (by decide +kernel)) (by decide +kernel)
theorem wd_742 : Cond.methodLink "BeanServer" (167 : Nat) (⟨"BeanServer", "numberForMonitorOf", "(I)I"⟩ : MethodName) ∈ jj_gw := jj_mem4 (List.mem_of_getElem? (i := 22) (by decide +kernel)) (by decide +kernel)
theorem wd_744 : Cond.instanceMethod (⟨"BeanServer", "numberForMonitorOf", "(I)I"⟩ : MethodName) ∈ jj_gw := jj_mem4 (List.mem_of_getElem? (i := 24) (by decide +kernel)) (by decide +kernel)
theorem wd_745 : Cond.code (⟨"BeanServer", "numberForMonitorOf", "(I)I"⟩ : MethodName) prog_1_method_31_code (3 : Nat) (Option.some FieldType.int) ∈ jj_gw := jj_mem4 (List.mem_of_getElem? (i := 25) (by decide +kernel)) (by decide +kernel)
theorem wd_746 : Cond.classLink "BeanServer" (171 : Nat) "BeanServer$Counter" ∈ jj_gw := jj_mem4 (List.mem_of_getElem? (i := 26) (by decide +kernel)) (by decide +kernel)
theorem wd_747 : Cond.instantiable "BeanServer$Counter" (9 : Nat) ∈ jj_gw := jj_mem4 (List.mem_of_getElem? (i := 27) (by decide +kernel)) (by decide +kernel)
theorem wd_748 : Cond.methodLink "BeanServer" (173 : Nat) (⟨"BeanServer$Counter", "<init>", "(Ljava/lang/String;III)V"⟩ : MethodName) ∈ jj_gw := jj_mem4 (List.mem_of_getElem? (i := 28) (by decide +kernel)) (by decide +kernel)
theorem wd_749 : Cond.instanceMethod (⟨"BeanServer$Counter", "<init>", "(Ljava/lang/String;III)V"⟩ : MethodName) ∈ jj_gw := jj_mem4 (List.mem_of_getElem? (i := 29) (by decide +kernel)) (by decide +kernel)
theorem wd_750 : Cond.code (⟨"BeanServer$Counter", "<init>", "(Ljava/lang/String;III)V"⟩ : MethodName) prog_3_method_1_code (5 : Nat) (Option.none : Option FieldType) ∈ jj_gw := jj_mem4 (List.mem_of_getElem? (i := 30) (by decide +kernel)) (by decide +kernel)
theorem wd_751 : Cond.methodLink "BeanServer$Counter" (3 : Nat) (⟨"BeanServer$Monitor", "<init>", "(Ljava/lang/String;I)V"⟩ : MethodName) ∈ jj_gw := jj_mem4 (List.mem_of_getElem? (i := 31) (by decide +kernel)) (by decide +kernel)
theorem wd_752 : Cond.instanceMethod (⟨"BeanServer$Monitor", "<init>", "(Ljava/lang/String;I)V"⟩ : MethodName) ∈ jj_gw := jj_mem4 (List.mem_of_getElem? (i := 32) (by decide +kernel)) (by decide +kernel)
theorem wd_753 : Cond.code (⟨"BeanServer$Monitor", "<init>", "(Ljava/lang/String;I)V"⟩ : MethodName) prog_6_method_1_code (3 : Nat) (Option.none : Option FieldType) ∈ jj_gw := jj_mem4 (List.mem_of_getElem? (i := 33) (by decide +kernel)) (by decide +kernel)
theorem wd_754 : Cond.methodLink "BeanServer$Monitor" (1 : Nat) (⟨"java/lang/Object", "<init>", "()V"⟩ : MethodName) ∈ jj_gw := jj_mem4 (List.mem_of_getElem? (i := 34) (by decide +kernel)) (by decide +kernel)
theorem wd_755 : Cond.fieldLink "BeanServer$Counter" (22 : Nat) "BeanServer$Counter" "start" "I" ∈ jj_gw := jj_mem4 (List.mem_of_getElem? (i := 35) (by decide +kernel)) (by decide +kernel)
theorem wd_756 : Cond.fieldLink "BeanServer$Counter" (25 : Nat) "BeanServer$Counter" "step" "I" ∈ jj_gw := jj_mem4 (List.mem_of_getElem? (i := 36) (by decide +kernel)) (by decide +kernel)
theorem wd_757 : Cond.fieldLink "BeanServer$Counter" (28 : Nat) "BeanServer$Counter" "mark" "J" ∈ jj_gw := jj_mem4 (List.mem_of_getElem? (i := 37) (by decide +kernel)) (by decide +kernel)
theorem wd_758 : Cond.fieldLink "BeanServer$Counter" (9 : Nat) "BeanServer$Counter" "ready" "Z" ∈ jj_gw := jj_mem4 (List.mem_of_getElem? (i := 38) (by decide +kernel)) (by decide +kernel)
theorem wd_759 : Cond.fieldLink "BeanServer$Counter" (15 : Nat) "BeanServer$Counter" "hasLatest" "Z" ∈ jj_gw := jj_mem4 (List.mem_of_getElem? (i := 39) (by decide +kernel)) (by decide +kernel)
theorem wd_760 : Cond.fieldLink "BeanServer$Counter" (18 : Nat) "BeanServer$Counter" "latest" "I" ∈ jj_gw := jj_mem4 (List.mem_of_getElem? (i := 40) (by decide +kernel)) (by decide +kernel)
theorem wd_761 : Cond.fieldLink "BeanServer$Monitor" (13 : Nat) "BeanServer$Monitor" "name" "Ljava/lang/String;" ∈ jj_gw := jj_mem4 (List.mem_of_getElem? (i := 41) (by decide +kernel)) (by decide +kernel)
theorem wd_762 : Cond.fieldLink "BeanServer" (219 : Nat) "BeanServer$Monitor" "name" "Ljava/lang/String;" ∈ jj_gw := jj_mem4 (List.mem_of_getElem? (i := 42) (by decide +kernel)) (by decide +kernel)
theorem wd_763 : Cond.fieldLink "BeanServer$Monitor" (17 : Nat) "BeanServer$Monitor" "attribute" "I" ∈ jj_gw := jj_mem4 (List.mem_of_getElem? (i := 43) (by decide +kernel)) (by decide +kernel)
theorem wd_764 : Cond.fieldLink "BeanServer" (221 : Nat) "BeanServer$Monitor" "attribute" "I" ∈ jj_gw := jj_mem4 (List.mem_of_getElem? (i := 44) (by decide +kernel)) (by decide +kernel)
theorem wd_765 : Cond.fieldLink "BeanServer$Monitor" (7 : Nat) "BeanServer$Monitor" "erred" "Z" ∈ jj_gw := jj_mem4 (List.mem_of_getElem? (i := 45) (by decide +kernel)) (by decide +kernel)
theorem wd_766 : Cond.fieldLink "BeanServer" (224 : Nat) "BeanServer$Monitor" "erred" "Z" ∈ jj_gw := jj_mem4 (List.mem_of_getElem? (i := 46) (by decide +kernel)) (by decide +kernel)
theorem wd_767 : Cond.laysFinal "BeanServer$Counter" "BeanServer$Counter" "start" "I" ∈ jj_gw := jj_mem4 (List.mem_of_getElem? (i := 47) (by decide +kernel)) (by decide +kernel)
theorem wd_769 : Cond.laysFinal "BeanServer$Counter" "BeanServer$Counter" "step" "I" ∈ jj_gw := jj_mem4 (List.mem_of_getElem? (i := 49) (by decide +kernel)) (by decide +kernel)
theorem wd_771 : Cond.lays "BeanServer$Counter" "BeanServer$Counter" "mark" "J" ∈ jj_gw := jj_mem4 (List.mem_of_getElem? (i := 51) (by decide +kernel)) (by decide +kernel)
theorem wd_773 : Cond.lays "BeanServer$Counter" "BeanServer$Counter" "ready" "Z" ∈ jj_gw := jj_mem4 (List.mem_of_getElem? (i := 53) (by decide +kernel)) (by decide +kernel)
theorem wd_775 : Cond.lays "BeanServer$Counter" "BeanServer$Counter" "hasLatest" "Z" ∈ jj_gw := jj_mem4 (List.mem_of_getElem? (i := 55) (by decide +kernel)) (by decide +kernel)
theorem wd_777 : Cond.lays "BeanServer$Counter" "BeanServer$Counter" "latest" "I" ∈ jj_gw := jj_mem4 (List.mem_of_getElem? (i := 57) (by decide +kernel)) (by decide +kernel)
theorem wd_779 : Cond.laysFinal "BeanServer$Counter" "BeanServer$Monitor" "name" "Ljava/lang/String;" ∈ jj_gw := jj_mem4 (List.mem_of_getElem? (i := 59) (by decide +kernel)) (by decide +kernel)
theorem wd_781 : Cond.laysFinal "BeanServer$Counter" "BeanServer$Monitor" "attribute" "I" ∈ jj_gw := jj_mem4 (List.mem_of_getElem? (i := 61) (by decide +kernel)) (by decide +kernel)
theorem wd_783 : Cond.lays "BeanServer$Counter" "BeanServer$Monitor" "erred" "Z" ∈ jj_gw := jj_mem4 (List.mem_of_getElem? (i := 63) (by decide +kernel)) (by decide +kernel)
theorem wd_785 : Cond.superclass "BeanServer$Counter" "BeanServer$Monitor" ∈ jj_gw := jj_mem4 (List.mem_of_getElem? (i := 65) (by decide +kernel)) (by decide +kernel)
theorem wd_786 : Cond.methodLink "BeanServerLaw" (73 : Nat) (⟨"BeanServer", "gauge", "(IIII)I"⟩ : MethodName) ∈ jj_gw := jj_mem4 (List.mem_of_getElem? (i := 66) (by decide +kernel)) (by decide +kernel)
theorem wd_787 : Cond.instanceMethod (⟨"BeanServer", "gauge", "(IIII)I"⟩ : MethodName) ∈ jj_gw := jj_mem4 (List.mem_of_getElem? (i := 67) (by decide +kernel)) (by decide +kernel)
theorem wd_788 : Cond.selects "BeanServer" (⟨"BeanServer", "gauge", "(IIII)I"⟩ : MethodName) (⟨"BeanServer", "gauge", "(IIII)I"⟩ : MethodName) ∈ jj_gw := jj_mem4 (List.mem_of_getElem? (i := 68) (by decide +kernel)) (by decide +kernel)
theorem wd_789 : Cond.code (⟨"BeanServer", "gauge", "(IIII)I"⟩ : MethodName) prog_1_method_15_code (6 : Nat) (Option.some FieldType.int) ∈ jj_gw := jj_mem4 (List.mem_of_getElem? (i := 69) (by decide +kernel)) (by decide +kernel)
theorem wd_790 : Cond.classLink "BeanServer" (176 : Nat) "BeanServer$Gauge" ∈ jj_gw := jj_mem4 (List.mem_of_getElem? (i := 70) (by decide +kernel)) (by decide +kernel)
theorem wd_791 : Cond.instantiable "BeanServer$Gauge" (6 : Nat) ∈ jj_gw := jj_mem4 (List.mem_of_getElem? (i := 71) (by decide +kernel)) (by decide +kernel)
theorem wd_792 : Cond.methodLink "BeanServer" (178 : Nat) (⟨"BeanServer$Gauge", "<init>", "(Ljava/lang/String;III)V"⟩ : MethodName) ∈ jj_gw := jj_mem4 (List.mem_of_getElem? (i := 72) (by decide +kernel)) (by decide +kernel)
theorem wd_793 : Cond.instanceMethod (⟨"BeanServer$Gauge", "<init>", "(Ljava/lang/String;III)V"⟩ : MethodName) ∈ jj_gw := jj_mem4 (List.mem_of_getElem? (i := 73) (by decide +kernel)) (by decide +kernel)
theorem wd_794 : Cond.code (⟨"BeanServer$Gauge", "<init>", "(Ljava/lang/String;III)V"⟩ : MethodName) prog_4_method_1_code (5 : Nat) (Option.none : Option FieldType) ∈ jj_gw := jj_mem4 (List.mem_of_getElem? (i := 74) (by decide +kernel)) (by decide +kernel)
theorem wd_795 : Cond.methodLink "BeanServer$Gauge" (3 : Nat) (⟨"BeanServer$Monitor", "<init>", "(Ljava/lang/String;I)V"⟩ : MethodName) ∈ jj_gw := jj_mem4 (List.mem_of_getElem? (i := 75) (by decide +kernel)) (by decide +kernel)
theorem wd_796 : Cond.fieldLink "BeanServer$Gauge" (15 : Nat) "BeanServer$Gauge" "low" "I" ∈ jj_gw := jj_mem4 (List.mem_of_getElem? (i := 76) (by decide +kernel)) (by decide +kernel)
theorem wd_797 : Cond.fieldLink "BeanServer$Gauge" (18 : Nat) "BeanServer$Gauge" "high" "I" ∈ jj_gw := jj_mem4 (List.mem_of_getElem? (i := 77) (by decide +kernel)) (by decide +kernel)
theorem wd_798 : Cond.fieldLink "BeanServer$Gauge" (9 : Nat) "BeanServer$Gauge" "side" "I" ∈ jj_gw := jj_mem4 (List.mem_of_getElem? (i := 78) (by decide +kernel)) (by decide +kernel)
theorem wd_799 : Cond.laysFinal "BeanServer$Gauge" "BeanServer$Gauge" "low" "I" ∈ jj_gw := jj_mem4 (List.mem_of_getElem? (i := 79) (by decide +kernel)) (by decide +kernel)
theorem wd_801 : Cond.laysFinal "BeanServer$Gauge" "BeanServer$Gauge" "high" "I" ∈ jj_gw := jj_mem4 (List.mem_of_getElem? (i := 81) (by decide +kernel)) (by decide +kernel)
theorem wd_803 : Cond.lays "BeanServer$Gauge" "BeanServer$Gauge" "side" "I" ∈ jj_gw := jj_mem4 (List.mem_of_getElem? (i := 83) (by decide +kernel)) (by decide +kernel)
theorem wd_805 : Cond.laysFinal "BeanServer$Gauge" "BeanServer$Monitor" "name" "Ljava/lang/String;" ∈ jj_gw := jj_mem4 (List.mem_of_getElem? (i := 85) (by decide +kernel)) (by decide +kernel)
theorem wd_806 : Cond.laysFinal "BeanServer$Gauge" "BeanServer$Monitor" "attribute" "I" ∈ jj_gw := jj_mem4 (List.mem_of_getElem? (i := 86) (by decide +kernel)) (by decide +kernel)
theorem wd_807 : Cond.lays "BeanServer$Gauge" "BeanServer$Monitor" "erred" "Z" ∈ jj_gw := jj_mem4 (List.mem_of_getElem? (i := 87) (by decide +kernel)) (by decide +kernel)
theorem wd_808 : Cond.superclass "BeanServer$Gauge" "BeanServer$Monitor" ∈ jj_gw := jj_mem4 (List.mem_of_getElem? (i := 88) (by decide +kernel)) (by decide +kernel)
theorem wd_809 : Cond.methodLink "BeanServerLaw" (77 : Nat) (⟨"BeanServer", "cancel", "(I)Z"⟩ : MethodName) ∈ jj_gw := jj_mem4 (List.mem_of_getElem? (i := 89) (by decide +kernel)) (by decide +kernel)
theorem wd_810 : Cond.instanceMethod (⟨"BeanServer", "cancel", "(I)Z"⟩ : MethodName) ∈ jj_gw := jj_mem4 (List.mem_of_getElem? (i := 90) (by decide +kernel)) (by decide +kernel)
theorem wd_811 : Cond.selects "BeanServer" (⟨"BeanServer", "cancel", "(I)Z"⟩ : MethodName) (⟨"BeanServer", "cancel", "(I)Z"⟩ : MethodName) ∈ jj_gw := jj_mem4 (List.mem_of_getElem? (i := 91) (by decide +kernel)) (by decide +kernel)
theorem wd_812 : Cond.code (⟨"BeanServer", "cancel", "(I)Z"⟩ : MethodName) prog_1_method_16_code (2 : Nat) (Option.some FieldType.boolean) ∈ jj_gw := jj_mem4 (List.mem_of_getElem? (i := 92) (by decide +kernel)) (by decide +kernel)
theorem wd_813 : Cond.methodLink "BeanServer" (179 : Nat) (⟨"BeanServer", "monitorAt", "(I)LBeanServer$Monitor;"⟩ : MethodName) ∈ jj_gw := jj_mem4 (List.mem_of_getElem? (i := 93) (by decide +kernel)) (by decide +kernel)
theorem wd_815 : Cond.instanceMethod (⟨"BeanServer", "monitorAt", "(I)LBeanServer$Monitor;"⟩ : MethodName) ∈ jj_gw := jj_mem4 (List.mem_of_getElem? (i := 95) (by decide +kernel)) (by decide +kernel)
theorem wd_816 : Cond.code (⟨"BeanServer", "monitorAt", "(I)LBeanServer$Monitor;"⟩ : MethodName) prog_1_method_28_code (2 : Nat) (Option.some (FieldType.object "BeanServer$Monitor")) ∈ jj_gw := jj_mem4 (List.mem_of_getElem? (i := 96) (by decide +kernel)) (by decide +kernel)
theorem wd_817 : Cond.methodLink "BeanServerLaw" (82 : Nat) (⟨"BeanServer", "observe", "()I"⟩ : MethodName) ∈ jj_gw := jj_mem4 (List.mem_of_getElem? (i := 97) (by decide +kernel)) (by decide +kernel)
theorem wd_818 : Cond.instanceMethod (⟨"BeanServer", "observe", "()I"⟩ : MethodName) ∈ jj_gw := jj_mem4 (List.mem_of_getElem? (i := 98) (by decide +kernel)) (by decide +kernel)
theorem wd_819 : Cond.selects "BeanServer" (⟨"BeanServer", "observe", "()I"⟩ : MethodName) (⟨"BeanServer", "observe", "()I"⟩ : MethodName) ∈ jj_gw := jj_mem4 (List.mem_of_getElem? (i := 99) (by decide +kernel)) (by decide +kernel)
theorem wd_820 : Cond.code (⟨"BeanServer", "observe", "()I"⟩ : MethodName) prog_1_method_17_code (3 : Nat) (Option.some FieldType.int) ∈ jj_gw := jj_mem4 (List.mem_of_getElem? (i := 100) (by decide +kernel)) (by decide +kernel)
theorem wd_821 : Cond.methodLink "BeanServer" (186 : Nat) (⟨"BeanServer", "letLook", "(LBeanServer$Monitor;I)V"⟩ : MethodName) ∈ jj_gw := jj_mem4 (List.mem_of_getElem? (i := 101) (by decide +kernel)) (by decide +kernel)
theorem wd_823 : Cond.instanceMethod (⟨"BeanServer", "letLook", "(LBeanServer$Monitor;I)V"⟩ : MethodName) ∈ jj_gw := jj_mem4 (List.mem_of_getElem? (i := 103) (by decide +kernel)) (by decide +kernel)
theorem wd_824 : Cond.code (⟨"BeanServer", "letLook", "(LBeanServer$Monitor;I)V"⟩ : MethodName) prog_1_method_33_code (6 : Nat) (Option.none : Option FieldType) ∈ jj_gw := jj_mem4 (List.mem_of_getElem? (i := 104) (by decide +kernel)) (by decide +kernel)
theorem wd_825 : Cond.methodLink "BeanServer" (227 : Nat) (⟨"BeanServer$Monitor", "kindFor", "(I)I"⟩ : MethodName) ∈ jj_gw := jj_mem4 (List.mem_of_getElem? (i := 105) (by decide +kernel)) (by decide +kernel)
theorem wd_827 : Cond.sameMethod "BeanServer$Monitor" "BeanServer$Monitor" "kindFor" "(I)I" ∈ jj_gw := jj_mem4 (List.mem_of_getElem? (i := 107) (by decide +kernel)) (by decide +kernel)
theorem wd_828 : Cond.selects "BeanServer$Counter" (⟨"BeanServer$Monitor", "kindFor", "(I)I"⟩ : MethodName) (⟨"BeanServer$Counter", "kindFor", "(I)I"⟩ : MethodName) ∈ jj_gw := jj_mem4 (List.mem_of_getElem? (i := 108) (by decide +kernel)) (by decide +kernel)
theorem wd_829 : Cond.instanceMethod (⟨"BeanServer$Counter", "kindFor", "(I)I"⟩ : MethodName) ∈ jj_gw := jj_mem4 (List.mem_of_getElem? (i := 109) (by decide +kernel)) (by decide +kernel)
theorem wd_830 : Cond.code (⟨"BeanServer$Counter", "kindFor", "(I)I"⟩ : MethodName) prog_3_method_2_code (2 : Nat) (Option.some FieldType.int) ∈ jj_gw := jj_mem4 (List.mem_of_getElem? (i := 110) (by decide +kernel)) (by decide +kernel)
theorem wd_831 : Cond.methodLink "BeanServer$Counter" (32 : Nat) (⟨"BeanServer$Counter", "firstMarkAbove", "(I)J"⟩ : MethodName) ∈ jj_gw := jj_mem4 (List.mem_of_getElem? (i := 111) (by decide +kernel)) (by decide +kernel)
theorem wd_833 : Cond.instanceMethod (⟨"BeanServer$Counter", "firstMarkAbove", "(I)J"⟩ : MethodName) ∈ jj_gw := jj_mem4 (List.mem_of_getElem? (i := 113) (by decide +kernel)) (by decide +kernel)
theorem wd_834 : Cond.code (⟨"BeanServer$Counter", "firstMarkAbove", "(I)J"⟩ : MethodName) prog_3_method_3_code (4 : Nat) (Option.some FieldType.long) ∈ jj_gw := jj_mem4 (List.mem_of_getElem? (i := 114) (by decide +kernel)) (by decide +kernel)
theorem wd_835 : Cond.selects "BeanServer$Gauge" (⟨"BeanServer$Monitor", "kindFor", "(I)I"⟩ : MethodName) (⟨"BeanServer$Gauge", "kindFor", "(I)I"⟩ : MethodName) ∈ jj_gw := jj_mem4 (List.mem_of_getElem? (i := 115) (by decide +kernel)) (by decide +kernel)
theorem wd_836 : Cond.instanceMethod (⟨"BeanServer$Gauge", "kindFor", "(I)I"⟩ : MethodName) ∈ jj_gw := jj_mem4 (List.mem_of_getElem? (i := 116) (by decide +kernel)) (by decide +kernel)
theorem wd_837 : Cond.code (⟨"BeanServer$Gauge", "kindFor", "(I)I"⟩ : MethodName) prog_4_method_2_code (2 : Nat) (Option.some FieldType.int) ∈ jj_gw := jj_mem4 (List.mem_of_getElem? (i := 117) (by decide +kernel)) (by decide +kernel)
theorem wd_838 : Cond.methodLink "BeanServerLaw" (86 : Nat) (⟨"BeanServer", "mark", "(I)J"⟩ : MethodName) ∈ jj_gw := jj_mem4 (List.mem_of_getElem? (i := 118) (by decide +kernel)) (by decide +kernel)
theorem wd_839 : Cond.instanceMethod (⟨"BeanServer", "mark", "(I)J"⟩ : MethodName) ∈ jj_gw := jj_mem4 (List.mem_of_getElem? (i := 119) (by decide +kernel)) (by decide +kernel)
theorem wd_840 : Cond.selects "BeanServer" (⟨"BeanServer", "mark", "(I)J"⟩ : MethodName) (⟨"BeanServer", "mark", "(I)J"⟩ : MethodName) ∈ jj_gw := jj_mem4 (List.mem_of_getElem? (i := 120) (by decide +kernel)) (by decide +kernel)
theorem wd_841 : Cond.code (⟨"BeanServer", "mark", "(I)J"⟩ : MethodName) prog_1_method_18_code (3 : Nat) (Option.some FieldType.long) ∈ jj_gw := jj_mem4 (List.mem_of_getElem? (i := 121) (by decide +kernel)) (by decide +kernel)
theorem wd_842 : Cond.methodLink "BeanServer" (190 : Nat) (⟨"BeanServer$Monitor", "level", "()J"⟩ : MethodName) ∈ jj_gw := jj_mem4 (List.mem_of_getElem? (i := 122) (by decide +kernel)) (by decide +kernel)
theorem wd_844 : Cond.sameMethod "BeanServer$Monitor" "BeanServer$Monitor" "level" "()J" ∈ jj_gw := jj_mem4 (List.mem_of_getElem? (i := 124) (by decide +kernel)) (by decide +kernel)
theorem wd_845 : Cond.selects "BeanServer$Counter" (⟨"BeanServer$Monitor", "level", "()J"⟩ : MethodName) (⟨"BeanServer$Counter", "level", "()J"⟩ : MethodName) ∈ jj_gw := jj_mem4 (List.mem_of_getElem? (i := 125) (by decide +kernel)) (by decide +kernel)
theorem wd_846 : Cond.instanceMethod (⟨"BeanServer$Counter", "level", "()J"⟩ : MethodName) ∈ jj_gw := jj_mem4 (List.mem_of_getElem? (i := 126) (by decide +kernel)) (by decide +kernel)
theorem wd_847 : Cond.code (⟨"BeanServer$Counter", "level", "()J"⟩ : MethodName) prog_3_method_4_code (1 : Nat) (Option.some FieldType.long) ∈ jj_gw := jj_mem4 (List.mem_of_getElem? (i := 127) (by decide +kernel)) (by decide +kernel)
theorem wd_848 : Cond.selects "BeanServer$Gauge" (⟨"BeanServer$Monitor", "level", "()J"⟩ : MethodName) (⟨"BeanServer$Gauge", "level", "()J"⟩ : MethodName) ∈ jj_gw := jj_mem4 (List.mem_of_getElem? (i := 128) (by decide +kernel)) (by decide +kernel)
theorem wd_849 : Cond.instanceMethod (⟨"BeanServer$Gauge", "level", "()J"⟩ : MethodName) ∈ jj_gw := jj_mem4 (List.mem_of_getElem? (i := 129) (by decide +kernel)) (by decide +kernel)
theorem wd_850 : Cond.code (⟨"BeanServer$Gauge", "level", "()J"⟩ : MethodName) prog_4_method_3_code (1 : Nat) (Option.some FieldType.long) ∈ jj_gw := jj_mem4 (List.mem_of_getElem? (i := 130) (by decide +kernel)) (by decide +kernel)
theorem wd_851 : Cond.methodLink "BeanServerLaw" (91 : Nat) (⟨"BeanServer", "listen", "(I)I"⟩ : MethodName) ∈ jj_gw := jj_mem4 (List.mem_of_getElem? (i := 131) (by decide +kernel)) (by decide +kernel)
theorem wd_852 : Cond.instanceMethod (⟨"BeanServer", "listen", "(I)I"⟩ : MethodName) ∈ jj_gw := jj_mem4 (List.mem_of_getElem? (i := 132) (by decide +kernel)) (by decide +kernel)
theorem wd_853 : Cond.selects "BeanServer" (⟨"BeanServer", "listen", "(I)I"⟩ : MethodName) (⟨"BeanServer", "listen", "(I)I"⟩ : MethodName) ∈ jj_gw := jj_mem4 (List.mem_of_getElem? (i := 133) (by decide +kernel)) (by decide +kernel)
theorem wd_854 : Cond.code (⟨"BeanServer", "listen", "(I)I"⟩ : MethodName) prog_1_method_19_code (2 : Nat) (Option.some FieldType.int) ∈ jj_gw := jj_mem4 (List.mem_of_getElem? (i := 134) (by decide +kernel)) (by decide +kernel)
theorem wd_855 : Cond.methodLink "BeanServerLaw" (95 : Nat) (⟨"BeanServer", "notice", "(II)I"⟩ : MethodName) ∈ jj_gw := jj_mem4 (List.mem_of_getElem? (i := 135) (by decide +kernel)) (by decide +kernel)
theorem wd_856 : Cond.instanceMethod (⟨"BeanServer", "notice", "(II)I"⟩ : MethodName) ∈ jj_gw := jj_mem4 (List.mem_of_getElem? (i := 136) (by decide +kernel)) (by decide +kernel)
theorem wd_857 : Cond.selects "BeanServer" (⟨"BeanServer", "notice", "(II)I"⟩ : MethodName) (⟨"BeanServer", "notice", "(II)I"⟩ : MethodName) ∈ jj_gw := jj_mem4 (List.mem_of_getElem? (i := 137) (by decide +kernel)) (by decide +kernel)
theorem wd_858 : Cond.code (⟨"BeanServer", "notice", "(II)I"⟩ : MethodName) prog_1_method_20_code (3 : Nat) (Option.some FieldType.int) ∈ jj_gw := jj_mem4 (List.mem_of_getElem? (i := 138) (by decide +kernel)) (by decide +kernel)
theorem wd_859 : Cond.methodLink "BeanServer" (197 : Nat) (⟨"BeanServer$Log", "told", "(II)I"⟩ : MethodName) ∈ jj_gw := jj_mem4 (List.mem_of_getElem? (i := 139) (by decide +kernel)) (by decide +kernel)
theorem wd_860 : Cond.instanceMethod (⟨"BeanServer$Log", "told", "(II)I"⟩ : MethodName) ∈ jj_gw := jj_mem4 (List.mem_of_getElem? (i := 140) (by decide +kernel)) (by decide +kernel)
theorem wd_861 : Cond.selects "BeanServer$Log" (⟨"BeanServer$Log", "told", "(II)I"⟩ : MethodName) (⟨"BeanServer$Log", "told", "(II)I"⟩ : MethodName) ∈ jj_gw := jj_mem4 (List.mem_of_getElem? (i := 141) (by decide +kernel)) (by decide +kernel)
theorem wd_862 : Cond.code (⟨"BeanServer$Log", "told", "(II)I"⟩ : MethodName) prog_5_method_3_code (4 : Nat) (Option.some FieldType.int) ∈ jj_gw := jj_mem4 (List.mem_of_getElem? (i := 142) (by decide +kernel)) (by decide +kernel)
theorem wd_863 : Cond.methodLink "BeanServer$Log" (43 : Nat) (⟨"java/lang/Math", "floorMod", "(II)I"⟩ : MethodName) ∈ jj_gw := jj_mem4 (List.mem_of_getElem? (i := 143) (by decide +kernel)) (by decide +kernel)
theorem wd_864 : Cond.static (⟨"java/lang/Math", "floorMod", "(II)I"⟩ : MethodName) ∈ jj_gw := jj_mem4 (List.mem_of_getElem? (i := 144) (by decide +kernel)) (by decide +kernel)
theorem wd_865 : Cond.code (⟨"java/lang/Math", "floorMod", "(II)I"⟩ : MethodName) prog_16_method_50_code (3 : Nat) (Option.some FieldType.int) ∈ jj_gw := jj_mem4 (List.mem_of_getElem? (i := 145) (by decide +kernel)) (by decide +kernel)
theorem wd_866 : Cond.classLink "BeanServerLaw" (10 : Nat) "BeanServerModel" ∈ jj_gw := jj_mem4 (List.mem_of_getElem? (i := 146) (by decide +kernel)) (by decide +kernel)
theorem wd_867 : Cond.instantiable "BeanServerModel" (29 : Nat) ∈ jj_gw := jj_mem4 (List.mem_of_getElem? (i := 147) (by decide +kernel)) (by decide +kernel)
theorem wd_868 : Cond.methodLink "BeanServerLaw" (12 : Nat) (⟨"BeanServerModel", "<init>", "()V"⟩ : MethodName) ∈ jj_gw := jj_mem4 (List.mem_of_getElem? (i := 148) (by decide +kernel)) (by decide +kernel)
theorem wd_869 : Cond.instanceMethod (⟨"BeanServerModel", "<init>", "()V"⟩ : MethodName) ∈ jj_gw := jj_mem4 (List.mem_of_getElem? (i := 149) (by decide +kernel)) (by decide +kernel)
theorem wd_870 : Cond.code (⟨"BeanServerModel", "<init>", "()V"⟩ : MethodName) prog_12_method_1_code (1 : Nat) (Option.none : Option FieldType) ∈ jj_gw := jj_mem4 (List.mem_of_getElem? (i := 150) (by decide +kernel)) (by decide +kernel)
theorem wd_871 : Cond.methodLink "BeanServerModel" (1 : Nat) (⟨"java/lang/Object", "<init>", "()V"⟩ : MethodName) ∈ jj_gw := jj_mem4 (List.mem_of_getElem? (i := 151) (by decide +kernel)) (by decide +kernel)
theorem wd_872 : Cond.fieldLink "BeanServerModel" (7 : Nat) "BeanServerModel" "letters" "[C" ∈ jj_gw := jj_mem4 (List.mem_of_getElem? (i := 152) (by decide +kernel)) (by decide +kernel)
theorem wd_873 : Cond.fieldLink "BeanServerModel" (13 : Nat) "BeanServerModel" "sizes" "[I" ∈ jj_gw := jj_mem4 (List.mem_of_getElem? (i := 153) (by decide +kernel)) (by decide +kernel)
theorem wd_874 : Cond.fieldLink "BeanServerModel" (17 : Nat) "BeanServerModel" "there" "[Z" ∈ jj_gw := jj_mem4 (List.mem_of_getElem? (i := 154) (by decide +kernel)) (by decide +kernel)
theorem wd_875 : Cond.fieldLink "BeanServerModel" (21 : Nat) "BeanServerModel" "values" "[I" ∈ jj_gw := jj_mem4 (List.mem_of_getElem? (i := 155) (by decide +kernel)) (by decide +kernel)
theorem wd_876 : Cond.fieldLink "BeanServerModel" (24 : Nat) "BeanServerModel" "has" "[Z" ∈ jj_gw := jj_mem4 (List.mem_of_getElem? (i := 156) (by decide +kernel)) (by decide +kernel)
theorem wd_877 : Cond.fieldLink "BeanServerModel" (27 : Nat) "BeanServerModel" "asked" "[Z" ∈ jj_gw := jj_mem4 (List.mem_of_getElem? (i := 157) (by decide +kernel)) (by decide +kernel)
theorem wd_878 : Cond.fieldLink "BeanServerModel" (30 : Nat) "BeanServerModel" "monitor" "[I" ∈ jj_gw := jj_mem4 (List.mem_of_getElem? (i := 158) (by decide +kernel)) (by decide +kernel)
theorem wd_879 : Cond.fieldLink "BeanServerModel" (33 : Nat) "BeanServerModel" "watched" "[I" ∈ jj_gw := jj_mem4 (List.mem_of_getElem? (i := 159) (by decide +kernel)) (by decide +kernel)
theorem wd_880 : Cond.fieldLink "BeanServerModel" (36 : Nat) "BeanServerModel" "low" "[I" ∈ jj_gw := jj_mem4 (List.mem_of_getElem? (i := 160) (by decide +kernel)) (by decide +kernel)
theorem wd_881 : Cond.fieldLink "BeanServerModel" (39 : Nat) "BeanServerModel" "high" "[I" ∈ jj_gw := jj_mem4 (List.mem_of_getElem? (i := 161) (by decide +kernel)) (by decide +kernel)
theorem wd_882 : Cond.fieldLink "BeanServerModel" (42 : Nat) "BeanServerModel" "marks" "[J" ∈ jj_gw := jj_mem4 (List.mem_of_getElem? (i := 162) (by decide +kernel)) (by decide +kernel)
theorem wd_883 : Cond.fieldLink "BeanServerModel" (46 : Nat) "BeanServerModel" "ready" "[Z" ∈ jj_gw := jj_mem4 (List.mem_of_getElem? (i := 163) (by decide +kernel)) (by decide +kernel)
theorem wd_884 : Cond.fieldLink "BeanServerModel" (49 : Nat) "BeanServerModel" "seen" "[Z" ∈ jj_gw := jj_mem4 (List.mem_of_getElem? (i := 164) (by decide +kernel)) (by decide +kernel)
theorem wd_885 : Cond.fieldLink "BeanServerModel" (52 : Nat) "BeanServerModel" "latest" "[I" ∈ jj_gw := jj_mem4 (List.mem_of_getElem? (i := 165) (by decide +kernel)) (by decide +kernel)
theorem wd_886 : Cond.fieldLink "BeanServerModel" (55 : Nat) "BeanServerModel" "erred" "[Z" ∈ jj_gw := jj_mem4 (List.mem_of_getElem? (i := 166) (by decide +kernel)) (by decide +kernel)
theorem wd_887 : Cond.fieldLink "BeanServerModel" (151 : Nat) "BeanServerModel" "given" "I" ∈ jj_gw := jj_mem4 (List.mem_of_getElem? (i := 167) (by decide +kernel)) (by decide +kernel)
theorem wd_888 : Cond.fieldLink "BeanServerModel" (58 : Nat) "BeanServerModel" "listened" "I" ∈ jj_gw := jj_mem4 (List.mem_of_getElem? (i := 168) (by decide +kernel)) (by decide +kernel)
theorem wd_889 : Cond.fieldLink "BeanServerModel" (154 : Nat) "BeanServerModel" "logged" "I" ∈ jj_gw := jj_mem4 (List.mem_of_getElem? (i := 169) (by decide +kernel)) (by decide +kernel)
theorem wd_890 : Cond.fieldLink "BeanServerModel" (62 : Nat) "BeanServerModel" "log" "[I" ∈ jj_gw := jj_mem4 (List.mem_of_getElem? (i := 170) (by decide +kernel)) (by decide +kernel)
theorem wd_891 : Cond.fieldLink "BeanServerModel" (250 : Nat) "BeanServerModel" "chosen" "I" ∈ jj_gw := jj_mem4 (List.mem_of_getElem? (i := 171) (by decide +kernel)) (by decide +kernel)
theorem wd_892 : Cond.fieldLink "BeanServerModel" (65 : Nat) "BeanServerModel" "choice" "[I" ∈ jj_gw := jj_mem4 (List.mem_of_getElem? (i := 172) (by decide +kernel)) (by decide +kernel)
theorem wd_893 : Cond.fieldLink "BeanServerModel" (68 : Nat) "BeanServerModel" "where" "[I" ∈ jj_gw := jj_mem4 (List.mem_of_getElem? (i := 173) (by decide +kernel)) (by decide +kernel)
theorem wd_894 : Cond.fieldLink "BeanServerModel" (102 : Nat) "BeanServerModel" "open" "Z" ∈ jj_gw := jj_mem4 (List.mem_of_getElem? (i := 174) (by decide +kernel)) (by decide +kernel)
theorem wd_895 : Cond.fieldLink "BeanServerModel" (71 : Nat) "BeanServerModel" "live" "[Z" ∈ jj_gw := jj_mem4 (List.mem_of_getElem? (i := 175) (by decide +kernel)) (by decide +kernel)
theorem wd_896 : Cond.fieldLink "BeanServerModel" (74 : Nat) "BeanServerModel" "any" "[Z" ∈ jj_gw := jj_mem4 (List.mem_of_getElem? (i := 176) (by decide +kernel)) (by decide +kernel)
theorem wd_897 : Cond.fieldLink "BeanServerModel" (77 : Nat) "BeanServerModel" "all" "[Z" ∈ jj_gw := jj_mem4 (List.mem_of_getElem? (i := 177) (by decide +kernel)) (by decide +kernel)
theorem wd_898 : Cond.fieldLink "BeanServerModel" (80 : Nat) "BeanServerModel" "turned" "[Z" ∈ jj_gw := jj_mem4 (List.mem_of_getElem? (i := 178) (by decide +kernel)) (by decide +kernel)
theorem wd_899 : Cond.fieldLink "BeanServerModel" (219 : Nat) "BeanServerModel" "failed" "Z" ∈ jj_gw := jj_mem4 (List.mem_of_getElem? (i := 179) (by decide +kernel)) (by decide +kernel)
theorem wd_900 : Cond.fieldLink "BeanServerModel" (216 : Nat) "BeanServerModel" "at" "I" ∈ jj_gw := jj_mem4 (List.mem_of_getElem? (i := 180) (by decide +kernel)) (by decide +kernel)
theorem wd_901 : Cond.laysFinal "BeanServerModel" "BeanServerModel" "letters" "[C" ∈ jj_gw := jj_mem4 (List.mem_of_getElem? (i := 181) (by decide +kernel)) (by decide +kernel)
theorem wd_903 : Cond.laysFinal "BeanServerModel" "BeanServerModel" "sizes" "[I" ∈ jj_gw := jj_mem4 (List.mem_of_getElem? (i := 183) (by decide +kernel)) (by decide +kernel)
theorem wd_905 : Cond.laysFinal "BeanServerModel" "BeanServerModel" "there" "[Z" ∈ jj_gw := jj_mem4 (List.mem_of_getElem? (i := 185) (by decide +kernel)) (by decide +kernel)
theorem wd_907 : Cond.laysFinal "BeanServerModel" "BeanServerModel" "values" "[I" ∈ jj_gw := jj_mem4 (List.mem_of_getElem? (i := 187) (by decide +kernel)) (by decide +kernel)
theorem wd_909 : Cond.laysFinal "BeanServerModel" "BeanServerModel" "has" "[Z" ∈ jj_gw := jj_mem4 (List.mem_of_getElem? (i := 189) (by decide +kernel)) (by decide +kernel)
theorem wd_911 : Cond.laysFinal "BeanServerModel" "BeanServerModel" "asked" "[Z" ∈ jj_gw := jj_mem4 (List.mem_of_getElem? (i := 191) (by decide +kernel)) (by decide +kernel)
theorem wd_913 : Cond.laysFinal "BeanServerModel" "BeanServerModel" "monitor" "[I" ∈ jj_gw := jj_mem4 (List.mem_of_getElem? (i := 193) (by decide +kernel)) (by decide +kernel)
theorem wd_915 : Cond.laysFinal "BeanServerModel" "BeanServerModel" "watched" "[I" ∈ jj_gw := jj_mem4 (List.mem_of_getElem? (i := 195) (by decide +kernel)) (by decide +kernel)
theorem wd_917 : Cond.laysFinal "BeanServerModel" "BeanServerModel" "low" "[I" ∈ jj_gw := jj_mem4 (List.mem_of_getElem? (i := 197) (by decide +kernel)) (by decide +kernel)
theorem wd_919 : Cond.laysFinal "BeanServerModel" "BeanServerModel" "high" "[I" ∈ jj_gw := jj_mem4 (List.mem_of_getElem? (i := 199) (by decide +kernel)) (by decide +kernel)
theorem wd_921 : Cond.laysFinal "BeanServerModel" "BeanServerModel" "marks" "[J" ∈ jj_gw := jj_mem4 (List.mem_of_getElem? (i := 201) (by decide +kernel)) (by decide +kernel)
theorem wd_923 : Cond.laysFinal "BeanServerModel" "BeanServerModel" "ready" "[Z" ∈ jj_gw := jj_mem4 (List.mem_of_getElem? (i := 203) (by decide +kernel)) (by decide +kernel)
theorem wd_925 : Cond.laysFinal "BeanServerModel" "BeanServerModel" "seen" "[Z" ∈ jj_gw := jj_mem4 (List.mem_of_getElem? (i := 205) (by decide +kernel)) (by decide +kernel)
theorem wd_927 : Cond.laysFinal "BeanServerModel" "BeanServerModel" "latest" "[I" ∈ jj_gw := jj_mem4 (List.mem_of_getElem? (i := 207) (by decide +kernel)) (by decide +kernel)
theorem wd_929 : Cond.laysFinal "BeanServerModel" "BeanServerModel" "erred" "[Z" ∈ jj_gw := jj_mem4 (List.mem_of_getElem? (i := 209) (by decide +kernel)) (by decide +kernel)
theorem wd_931 : Cond.lays "BeanServerModel" "BeanServerModel" "given" "I" ∈ jj_gw := jj_mem4 (List.mem_of_getElem? (i := 211) (by decide +kernel)) (by decide +kernel)
theorem wd_933 : Cond.lays "BeanServerModel" "BeanServerModel" "listened" "I" ∈ jj_gw := jj_mem4 (List.mem_of_getElem? (i := 213) (by decide +kernel)) (by decide +kernel)
theorem wd_935 : Cond.lays "BeanServerModel" "BeanServerModel" "logged" "I" ∈ jj_gw := jj_mem4 (List.mem_of_getElem? (i := 215) (by decide +kernel)) (by decide +kernel)
theorem wd_937 : Cond.laysFinal "BeanServerModel" "BeanServerModel" "log" "[I" ∈ jj_gw := jj_mem4 (List.mem_of_getElem? (i := 217) (by decide +kernel)) (by decide +kernel)
theorem wd_939 : Cond.lays "BeanServerModel" "BeanServerModel" "chosen" "I" ∈ jj_gw := jj_mem4 (List.mem_of_getElem? (i := 219) (by decide +kernel)) (by decide +kernel)
theorem wd_941 : Cond.laysFinal "BeanServerModel" "BeanServerModel" "choice" "[I" ∈ jj_gw := jj_mem4 (List.mem_of_getElem? (i := 221) (by decide +kernel)) (by decide +kernel)
theorem wd_943 : Cond.laysFinal "BeanServerModel" "BeanServerModel" "where" "[I" ∈ jj_gw := jj_mem4 (List.mem_of_getElem? (i := 223) (by decide +kernel)) (by decide +kernel)
theorem wd_945 : Cond.lays "BeanServerModel" "BeanServerModel" "open" "Z" ∈ jj_gw := jj_mem4 (List.mem_of_getElem? (i := 225) (by decide +kernel)) (by decide +kernel)
theorem wd_947 : Cond.laysFinal "BeanServerModel" "BeanServerModel" "live" "[Z" ∈ jj_gw := jj_mem4 (List.mem_of_getElem? (i := 227) (by decide +kernel)) (by decide +kernel)
theorem wd_949 : Cond.laysFinal "BeanServerModel" "BeanServerModel" "any" "[Z" ∈ jj_gw := jj_mem4 (List.mem_of_getElem? (i := 229) (by decide +kernel)) (by decide +kernel)
theorem wd_951 : Cond.laysFinal "BeanServerModel" "BeanServerModel" "all" "[Z" ∈ jj_gw := jj_mem4 (List.mem_of_getElem? (i := 231) (by decide +kernel)) (by decide +kernel)
theorem wd_953 : Cond.laysFinal "BeanServerModel" "BeanServerModel" "turned" "[Z" ∈ jj_gw := jj_mem4 (List.mem_of_getElem? (i := 233) (by decide +kernel)) (by decide +kernel)
theorem wd_955 : Cond.lays "BeanServerModel" "BeanServerModel" "failed" "Z" ∈ jj_gw := jj_mem4 (List.mem_of_getElem? (i := 235) (by decide +kernel)) (by decide +kernel)
theorem wd_957 : Cond.lays "BeanServerModel" "BeanServerModel" "at" "I" ∈ jj_gw := jj_mem4 (List.mem_of_getElem? (i := 237) (by decide +kernel)) (by decide +kernel)
theorem wd_959 : Cond.superclass "BeanServerModel" "java/lang/Object" ∈ jj_gw := jj_mem4 (List.mem_of_getElem? (i := 239) (by decide +kernel)) (by decide +kernel)
theorem wd_960 : Cond.arrayClass FieldType.char ∈ jj_gw := jj_mem5 (List.mem_of_getElem? (i := 0) (by decide +kernel)) (by decide +kernel)
theorem wd_961 : Cond.arrayClass FieldType.long ∈ jj_gw := jj_mem5 (List.mem_of_getElem? (i := 1) (by decide +kernel)) (by decide +kernel)
theorem wd_962 : Cond.methodLink "BeanServerLaw" (17 : Nat) (⟨"BeanServerModel", "write", "(C)Z"⟩ : MethodName) ∈ jj_gw := jj_mem5 (List.mem_of_getElem? (i := 2) (by decide +kernel)) (by decide +kernel)
theorem wd_963 : Cond.instanceMethod (⟨"BeanServerModel", "write", "(C)Z"⟩ : MethodName) ∈ jj_gw := jj_mem5 (List.mem_of_getElem? (i := 3) (by decide +kernel)) (by decide +kernel)
theorem wd_964 : Cond.selects "BeanServerModel" (⟨"BeanServerModel", "write", "(C)Z"⟩ : MethodName) (⟨"BeanServerModel", "write", "(C)Z"⟩ : MethodName) ∈ jj_gw := jj_mem5 (List.mem_of_getElem? (i := 4) (by decide +kernel)) (by decide +kernel)
theorem wd_965 : Cond.code (⟨"BeanServerModel", "write", "(C)Z"⟩ : MethodName) prog_12_method_7_code (2 : Nat) (Option.some FieldType.boolean) ∈ jj_gw := jj_mem5 (List.mem_of_getElem? (i := 5) (by decide +kernel)) (by decide +kernel)
theorem wd_966 : Cond.methodLink "BeanServerModel" (87 : Nat) (⟨"BeanServerModel", "put", "(IC)V"⟩ : MethodName) ∈ jj_gw := jj_mem5 (List.mem_of_getElem? (i := 6) (by decide +kernel)) (by decide +kernel)
theorem wd_968 : Cond.instanceMethod (⟨"BeanServerModel", "put", "(IC)V"⟩ : MethodName) ∈ jj_gw := jj_mem5 (List.mem_of_getElem? (i := 8) (by decide +kernel)) (by decide +kernel)
theorem wd_969 : Cond.code (⟨"BeanServerModel", "put", "(IC)V"⟩ : MethodName) prog_12_method_3_code (3 : Nat) (Option.none : Option FieldType) ∈ jj_gw := jj_mem5 (List.mem_of_getElem? (i := 9) (by decide +kernel)) (by decide +kernel)
theorem wd_970 : Cond.methodLink "BeanServerLaw" (22 : Nat) (⟨"BeanServerModel", "register", "()I"⟩ : MethodName) ∈ jj_gw := jj_mem5 (List.mem_of_getElem? (i := 10) (by decide +kernel)) (by decide +kernel)
theorem wd_971 : Cond.instanceMethod (⟨"BeanServerModel", "register", "()I"⟩ : MethodName) ∈ jj_gw := jj_mem5 (List.mem_of_getElem? (i := 11) (by decide +kernel)) (by decide +kernel)
theorem wd_972 : Cond.selects "BeanServerModel" (⟨"BeanServerModel", "register", "()I"⟩ : MethodName) (⟨"BeanServerModel", "register", "()I"⟩ : MethodName) ∈ jj_gw := jj_mem5 (List.mem_of_getElem? (i := 12) (by decide +kernel)) (by decide +kernel)
theorem wd_973 : Cond.code (⟨"BeanServerModel", "register", "()I"⟩ : MethodName) prog_12_method_24_code (3 : Nat) (Option.some FieldType.int) ∈ jj_gw := jj_mem5 (List.mem_of_getElem? (i := 13) (by decide +kernel)) (by decide +kernel)
theorem wd_974 : Cond.methodLink "BeanServerModel" (157 : Nat) (⟨"BeanServerModel", "takeName", "()Z"⟩ : MethodName) ∈ jj_gw := jj_mem5 (List.mem_of_getElem? (i := 14) (by decide +kernel)) (by decide +kernel)
theorem wd_976 : Cond.instanceMethod (⟨"BeanServerModel", "takeName", "()Z"⟩ : MethodName) ∈ jj_gw := jj_mem5 (List.mem_of_getElem? (i := 16) (by decide +kernel)) (by decide +kernel)
theorem wd_977 : Cond.code (⟨"BeanServerModel", "takeName", "()Z"⟩ : MethodName) prog_12_method_16_code (1 : Nat) (Option.some FieldType.boolean) ∈ jj_gw := jj_mem5 (List.mem_of_getElem? (i := 17) (by decide +kernel)) (by decide +kernel)
theorem wd_978 : Cond.methodLink "BeanServerModel" (122 : Nat) (⟨"BeanServerModel", "take", "()V"⟩ : MethodName) ∈ jj_gw := jj_mem5 (List.mem_of_getElem? (i := 18) (by decide +kernel)) (by decide +kernel)
theorem wd_980 : Cond.instanceMethod (⟨"BeanServerModel", "take", "()V"⟩ : MethodName) ∈ jj_gw := jj_mem5 (List.mem_of_getElem? (i := 20) (by decide +kernel)) (by decide +kernel)
theorem wd_981 : Cond.code (⟨"BeanServerModel", "take", "()V"⟩ : MethodName) prog_12_method_6_code (1 : Nat) (Option.none : Option FieldType) ∈ jj_gw := jj_mem5 (List.mem_of_getElem? (i := 21) (by decide +kernel)) (by decide +kernel)
theorem wd_982 : Cond.methodLink "BeanServerModel" (91 : Nat) (⟨"BeanServerModel", "copy", "(II)V"⟩ : MethodName) ∈ jj_gw := jj_mem5 (List.mem_of_getElem? (i := 22) (by decide +kernel)) (by decide +kernel)
theorem wd_984 : Cond.instanceMethod (⟨"BeanServerModel", "copy", "(II)V"⟩ : MethodName) ∈ jj_gw := jj_mem5 (List.mem_of_getElem? (i := 24) (by decide +kernel)) (by decide +kernel)
theorem wd_985 : Cond.code (⟨"BeanServerModel", "copy", "(II)V"⟩ : MethodName) prog_12_method_4_code (4 : Nat) (Option.none : Option FieldType) ∈ jj_gw := jj_mem5 (List.mem_of_getElem? (i := 25) (by decide +kernel)) (by decide +kernel)
theorem wd_986 : Cond.methodLink "BeanServerModel" (83 : Nat) (⟨"BeanServerModel", "get1", "(II)C"⟩ : MethodName) ∈ jj_gw := jj_mem5 (List.mem_of_getElem? (i := 26) (by decide +kernel)) (by decide +kernel)
theorem wd_988 : Cond.instanceMethod (⟨"BeanServerModel", "get1", "(II)C"⟩ : MethodName) ∈ jj_gw := jj_mem5 (List.mem_of_getElem? (i := 28) (by decide +kernel)) (by decide +kernel)
theorem wd_989 : Cond.code (⟨"BeanServerModel", "get1", "(II)C"⟩ : MethodName) prog_12_method_2_code (3 : Nat) (Option.some FieldType.char) ∈ jj_gw := jj_mem5 (List.mem_of_getElem? (i := 29) (by decide +kernel)) (by decide +kernel)
theorem wd_990 : Cond.methodLink "BeanServerModel" (125 : Nat) (⟨"BeanServerModel", "reads", "(IZ)Z"⟩ : MethodName) ∈ jj_gw := jj_mem5 (List.mem_of_getElem? (i := 30) (by decide +kernel)) (by decide +kernel)
theorem wd_992 : Cond.instanceMethod (⟨"BeanServerModel", "reads", "(IZ)Z"⟩ : MethodName) ∈ jj_gw := jj_mem5 (List.mem_of_getElem? (i := 32) (by decide +kernel)) (by decide +kernel)
theorem wd_993 : Cond.code (⟨"BeanServerModel", "reads", "(IZ)Z"⟩ : MethodName) prog_12_method_13_code (5 : Nat) (Option.some FieldType.boolean) ∈ jj_gw := jj_mem5 (List.mem_of_getElem? (i := 33) (by decide +kernel)) (by decide +kernel)
theorem wd_994 : Cond.methodLink "BeanServerModel" (110 : Nat) (⟨"BeanServerModel", "colon", "(I)I"⟩ : MethodName) ∈ jj_gw := jj_mem5 (List.mem_of_getElem? (i := 34) (by decide +kernel)) (by decide +kernel)
theorem wd_996 : Cond.instanceMethod (⟨"BeanServerModel", "colon", "(I)I"⟩ : MethodName) ∈ jj_gw := jj_mem5 (List.mem_of_getElem? (i := 36) (by decide +kernel)) (by decide +kernel)
theorem wd_997 : Cond.code (⟨"BeanServerModel", "colon", "(I)I"⟩ : MethodName) prog_12_method_12_code (3 : Nat) (Option.some FieldType.int) ∈ jj_gw := jj_mem5 (List.mem_of_getElem? (i := 37) (by decide +kernel)) (by decide +kernel)
theorem wd_998 : Cond.methodLink "BeanServerModel" (106 : Nat) (⟨"BeanServerModel", "allowed", "(CZ)Z"⟩ : MethodName) ∈ jj_gw := jj_mem5 (List.mem_of_getElem? (i := 38) (by decide +kernel)) (by decide +kernel)
theorem wd_999 : Cond.static (⟨"BeanServerModel", "allowed", "(CZ)Z"⟩ : MethodName) ∈ jj_gw := jj_mem5 (List.mem_of_getElem? (i := 39) (by decide +kernel)) (by decide +kernel)
theorem wd_1000 : Cond.code (⟨"BeanServerModel", "allowed", "(CZ)Z"⟩ : MethodName) prog_12_method_10_code (2 : Nat) (Option.some FieldType.boolean) ∈ jj_gw := jj_mem5 (List.mem_of_getElem? (i := 40) (by decide +kernel)) (by decide +kernel)
theorem wd_1001 : Cond.methodLink "BeanServerModel" (95 : Nat) (⟨"BeanServerModel", "isSmall", "(C)Z"⟩ : MethodName) ∈ jj_gw := jj_mem5 (List.mem_of_getElem? (i := 41) (by decide +kernel)) (by decide +kernel)
theorem wd_1002 : Cond.static (⟨"BeanServerModel", "isSmall", "(C)Z"⟩ : MethodName) ∈ jj_gw := jj_mem5 (List.mem_of_getElem? (i := 42) (by decide +kernel)) (by decide +kernel)
theorem wd_1003 : Cond.code (⟨"BeanServerModel", "isSmall", "(C)Z"⟩ : MethodName) prog_12_method_8_code (1 : Nat) (Option.some FieldType.boolean) ∈ jj_gw := jj_mem5 (List.mem_of_getElem? (i := 43) (by decide +kernel)) (by decide +kernel)
theorem wd_1004 : Cond.methodLink "BeanServerModel" (99 : Nat) (⟨"BeanServerModel", "isDigit", "(C)Z"⟩ : MethodName) ∈ jj_gw := jj_mem5 (List.mem_of_getElem? (i := 44) (by decide +kernel)) (by decide +kernel)
theorem wd_1005 : Cond.static (⟨"BeanServerModel", "isDigit", "(C)Z"⟩ : MethodName) ∈ jj_gw := jj_mem5 (List.mem_of_getElem? (i := 45) (by decide +kernel)) (by decide +kernel)
theorem wd_1006 : Cond.code (⟨"BeanServerModel", "isDigit", "(C)Z"⟩ : MethodName) prog_12_method_9_code (1 : Nat) (Option.some FieldType.boolean) ∈ jj_gw := jj_mem5 (List.mem_of_getElem? (i := 46) (by decide +kernel)) (by decide +kernel)
theorem wd_1007 : Cond.methodLink "BeanServerModel" (114 : Nat) (⟨"BeanServerModel", "list", "(IIZ)Z"⟩ : MethodName) ∈ jj_gw := jj_mem5 (List.mem_of_getElem? (i := 47) (by decide +kernel)) (by decide +kernel)
theorem wd_1009 : Cond.instanceMethod (⟨"BeanServerModel", "list", "(IIZ)Z"⟩ : MethodName) ∈ jj_gw := jj_mem5 (List.mem_of_getElem? (i := 49) (by decide +kernel)) (by decide +kernel)
theorem wd_1010 : Cond.code (⟨"BeanServerModel", "list", "(IIZ)Z"⟩ : MethodName) prog_12_method_11_code (9 : Nat) (Option.some FieldType.boolean) ∈ jj_gw := jj_mem5 (List.mem_of_getElem? (i := 50) (by decide +kernel)) (by decide +kernel)
theorem wd_1011 : Cond.methodLink "BeanServerModel" (129 : Nat) (⟨"BeanServerModel", "order", "()V"⟩ : MethodName) ∈ jj_gw := jj_mem5 (List.mem_of_getElem? (i := 51) (by decide +kernel)) (by decide +kernel)
theorem wd_1013 : Cond.instanceMethod (⟨"BeanServerModel", "order", "()V"⟩ : MethodName) ∈ jj_gw := jj_mem5 (List.mem_of_getElem? (i := 53) (by decide +kernel)) (by decide +kernel)
theorem wd_1014 : Cond.code (⟨"BeanServerModel", "order", "()V"⟩ : MethodName) prog_12_method_15_code (4 : Nat) (Option.none : Option FieldType) ∈ jj_gw := jj_mem5 (List.mem_of_getElem? (i := 54) (by decide +kernel)) (by decide +kernel)
theorem wd_1015 : Cond.methodLink "BeanServerModel" (118 : Nat) (⟨"BeanServerModel", "copyProperty", "(III)V"⟩ : MethodName) ∈ jj_gw := jj_mem5 (List.mem_of_getElem? (i := 55) (by decide +kernel)) (by decide +kernel)
theorem wd_1017 : Cond.instanceMethod (⟨"BeanServerModel", "copyProperty", "(III)V"⟩ : MethodName) ∈ jj_gw := jj_mem5 (List.mem_of_getElem? (i := 57) (by decide +kernel)) (by decide +kernel)
theorem wd_1018 : Cond.code (⟨"BeanServerModel", "copyProperty", "(III)V"⟩ : MethodName) prog_12_method_14_code (5 : Nat) (Option.none : Option FieldType) ∈ jj_gw := jj_mem5 (List.mem_of_getElem? (i := 58) (by decide +kernel)) (by decide +kernel)
theorem wd_1019 : Cond.methodLink "BeanServerModel" (161 : Nat) (⟨"BeanServerModel", "beanWith", "(I)I"⟩ : MethodName) ∈ jj_gw := jj_mem5 (List.mem_of_getElem? (i := 59) (by decide +kernel)) (by decide +kernel)
theorem wd_1021 : Cond.instanceMethod (⟨"BeanServerModel", "beanWith", "(I)I"⟩ : MethodName) ∈ jj_gw := jj_mem5 (List.mem_of_getElem? (i := 61) (by decide +kernel)) (by decide +kernel)
theorem wd_1022 : Cond.code (⟨"BeanServerModel", "beanWith", "(I)I"⟩ : MethodName) prog_12_method_17_code (3 : Nat) (Option.some FieldType.int) ∈ jj_gw := jj_mem5 (List.mem_of_getElem? (i := 62) (by decide +kernel)) (by decide +kernel)
theorem wd_1023 : Cond.methodLink "BeanServerModel" (132 : Nat) (⟨"BeanServerModel", "same", "(II)Z"⟩ : MethodName) ∈ jj_gw := jj_mem5 (List.mem_of_getElem? (i := 63) (by decide +kernel)) (by decide +kernel)
theorem wd_1025 : Cond.instanceMethod (⟨"BeanServerModel", "same", "(II)Z"⟩ : MethodName) ∈ jj_gw := jj_mem5 (List.mem_of_getElem? (i := 65) (by decide +kernel)) (by decide +kernel)
theorem wd_1026 : Cond.code (⟨"BeanServerModel", "same", "(II)Z"⟩ : MethodName) prog_12_method_5_code (5 : Nat) (Option.some FieldType.boolean) ∈ jj_gw := jj_mem5 (List.mem_of_getElem? (i := 66) (by decide +kernel)) (by decide +kernel)
theorem wd_1027 : Cond.methodLink "BeanServerModel" (164 : Nat) (⟨"BeanServerModel", "give", "(III)V"⟩ : MethodName) ∈ jj_gw := jj_mem5 (List.mem_of_getElem? (i := 67) (by decide +kernel)) (by decide +kernel)
theorem wd_1029 : Cond.instanceMethod (⟨"BeanServerModel", "give", "(III)V"⟩ : MethodName) ∈ jj_gw := jj_mem5 (List.mem_of_getElem? (i := 69) (by decide +kernel)) (by decide +kernel)
theorem wd_1030 : Cond.code (⟨"BeanServerModel", "give", "(III)V"⟩ : MethodName) prog_12_method_23_code (5 : Nat) (Option.none : Option FieldType) ∈ jj_gw := jj_mem5 (List.mem_of_getElem? (i := 70) (by decide +kernel)) (by decide +kernel)
theorem wd_1031 : Cond.methodLink "BeanServerLaw" (26 : Nat) (⟨"BeanServerModel", "unregister", "()I"⟩ : MethodName) ∈ jj_gw := jj_mem5 (List.mem_of_getElem? (i := 71) (by decide +kernel)) (by decide +kernel)
theorem wd_1032 : Cond.instanceMethod (⟨"BeanServerModel", "unregister", "()I"⟩ : MethodName) ∈ jj_gw := jj_mem5 (List.mem_of_getElem? (i := 72) (by decide +kernel)) (by decide +kernel)
theorem wd_1033 : Cond.selects "BeanServerModel" (⟨"BeanServerModel", "unregister", "()I"⟩ : MethodName) (⟨"BeanServerModel", "unregister", "()I"⟩ : MethodName) ∈ jj_gw := jj_mem5 (List.mem_of_getElem? (i := 73) (by decide +kernel)) (by decide +kernel)
theorem wd_1034 : Cond.code (⟨"BeanServerModel", "unregister", "()I"⟩ : MethodName) prog_12_method_25_code (2 : Nat) (Option.some FieldType.int) ∈ jj_gw := jj_mem5 (List.mem_of_getElem? (i := 74) (by decide +kernel)) (by decide +kernel)
theorem wd_1035 : Cond.methodLink "BeanServerModel" (167 : Nat) (⟨"BeanServerModel", "find", "()I"⟩ : MethodName) ∈ jj_gw := jj_mem5 (List.mem_of_getElem? (i := 75) (by decide +kernel)) (by decide +kernel)
theorem wd_1036 : Cond.instanceMethod (⟨"BeanServerModel", "find", "()I"⟩ : MethodName) ∈ jj_gw := jj_mem5 (List.mem_of_getElem? (i := 76) (by decide +kernel)) (by decide +kernel)
theorem wd_1037 : Cond.selects "BeanServerModel" (⟨"BeanServerModel", "find", "()I"⟩ : MethodName) (⟨"BeanServerModel", "find", "()I"⟩ : MethodName) ∈ jj_gw := jj_mem5 (List.mem_of_getElem? (i := 77) (by decide +kernel)) (by decide +kernel)
theorem wd_1038 : Cond.code (⟨"BeanServerModel", "find", "()I"⟩ : MethodName) prog_12_method_26_code (2 : Nat) (Option.some FieldType.int) ∈ jj_gw := jj_mem5 (List.mem_of_getElem? (i := 78) (by decide +kernel)) (by decide +kernel)
theorem wd_1039 : Cond.methodLink "BeanServerLaw" (30 : Nat) (⟨"BeanServerModel", "find", "()I"⟩ : MethodName) ∈ jj_gw := jj_mem5 (List.mem_of_getElem? (i := 79) (by decide +kernel)) (by decide +kernel)
theorem wd_1040 : Cond.methodLink "BeanServerLaw" (35 : Nat) (⟨"BeanServerModel", "set", "(III)Z"⟩ : MethodName) ∈ jj_gw := jj_mem5 (List.mem_of_getElem? (i := 80) (by decide +kernel)) (by decide +kernel)
theorem wd_1041 : Cond.instanceMethod (⟨"BeanServerModel", "set", "(III)Z"⟩ : MethodName) ∈ jj_gw := jj_mem5 (List.mem_of_getElem? (i := 81) (by decide +kernel)) (by decide +kernel)
theorem wd_1042 : Cond.selects "BeanServerModel" (⟨"BeanServerModel", "set", "(III)Z"⟩ : MethodName) (⟨"BeanServerModel", "set", "(III)Z"⟩ : MethodName) ∈ jj_gw := jj_mem5 (List.mem_of_getElem? (i := 82) (by decide +kernel)) (by decide +kernel)
theorem wd_1043 : Cond.code (⟨"BeanServerModel", "set", "(III)Z"⟩ : MethodName) prog_12_method_29_code (4 : Nat) (Option.some FieldType.boolean) ∈ jj_gw := jj_mem5 (List.mem_of_getElem? (i := 83) (by decide +kernel)) (by decide +kernel)
theorem wd_1044 : Cond.methodLink "BeanServerModel" (175 : Nat) (⟨"BeanServerModel", "isSlot", "(II)Z"⟩ : MethodName) ∈ jj_gw := jj_mem5 (List.mem_of_getElem? (i := 84) (by decide +kernel)) (by decide +kernel)
theorem wd_1046 : Cond.instanceMethod (⟨"BeanServerModel", "isSlot", "(II)Z"⟩ : MethodName) ∈ jj_gw := jj_mem5 (List.mem_of_getElem? (i := 86) (by decide +kernel)) (by decide +kernel)
theorem wd_1047 : Cond.code (⟨"BeanServerModel", "isSlot", "(II)Z"⟩ : MethodName) prog_12_method_28_code (3 : Nat) (Option.some FieldType.boolean) ∈ jj_gw := jj_mem5 (List.mem_of_getElem? (i := 87) (by decide +kernel)) (by decide +kernel)
theorem wd_1048 : Cond.methodLink "BeanServerModel" (171 : Nat) (⟨"BeanServerModel", "isBean", "(I)Z"⟩ : MethodName) ∈ jj_gw := jj_mem5 (List.mem_of_getElem? (i := 88) (by decide +kernel)) (by decide +kernel)
theorem wd_1050 : Cond.instanceMethod (⟨"BeanServerModel", "isBean", "(I)Z"⟩ : MethodName) ∈ jj_gw := jj_mem5 (List.mem_of_getElem? (i := 90) (by decide +kernel)) (by decide +kernel)
theorem wd_1051 : Cond.code (⟨"BeanServerModel", "isBean", "(I)Z"⟩ : MethodName) prog_12_method_27_code (2 : Nat) (Option.some FieldType.boolean) ∈ jj_gw := jj_mem5 (List.mem_of_getElem? (i := 91) (by decide +kernel)) (by decide +kernel)
theorem wd_1052 : Cond.methodLink "BeanServerLaw" (40 : Nat) (⟨"BeanServerModel", "unset", "(II)Z"⟩ : MethodName) ∈ jj_gw := jj_mem5 (List.mem_of_getElem? (i := 92) (by decide +kernel)) (by decide +kernel)
theorem wd_1053 : Cond.instanceMethod (⟨"BeanServerModel", "unset", "(II)Z"⟩ : MethodName) ∈ jj_gw := jj_mem5 (List.mem_of_getElem? (i := 93) (by decide +kernel)) (by decide +kernel)
theorem wd_1054 : Cond.selects "BeanServerModel" (⟨"BeanServerModel", "unset", "(II)Z"⟩ : MethodName) (⟨"BeanServerModel", "unset", "(II)Z"⟩ : MethodName) ∈ jj_gw := jj_mem5 (List.mem_of_getElem? (i := 94) (by decide +kernel)) (by decide +kernel)
theorem wd_1055 : Cond.code (⟨"BeanServerModel", "unset", "(II)Z"⟩ : MethodName) prog_12_method_30_code (4 : Nat) (Option.some FieldType.boolean) ∈ jj_gw := jj_mem5 (List.mem_of_getElem? (i := 95) (by decide +kernel)) (by decide +kernel)
theorem wd_1056 : Cond.methodLink "BeanServerLaw" (45 : Nat) (⟨"BeanServerModel", "get", "(II)I"⟩ : MethodName) ∈ jj_gw := jj_mem5 (List.mem_of_getElem? (i := 96) (by decide +kernel)) (by decide +kernel)
theorem wd_1057 : Cond.instanceMethod (⟨"BeanServerModel", "get", "(II)I"⟩ : MethodName) ∈ jj_gw := jj_mem5 (List.mem_of_getElem? (i := 97) (by decide +kernel)) (by decide +kernel)
theorem wd_1058 : Cond.selects "BeanServerModel" (⟨"BeanServerModel", "get", "(II)I"⟩ : MethodName) (⟨"BeanServerModel", "get", "(II)I"⟩ : MethodName) ∈ jj_gw := jj_mem5 (List.mem_of_getElem? (i := 98) (by decide +kernel)) (by decide +kernel)
theorem wd_1059 : Cond.code (⟨"BeanServerModel", "get", "(II)I"⟩ : MethodName) prog_12_method_31_code (3 : Nat) (Option.some FieldType.int) ∈ jj_gw := jj_mem5 (List.mem_of_getElem? (i := 99) (by decide +kernel)) (by decide +kernel)
theorem wd_1060 : Cond.methodLink "BeanServerLaw" (49 : Nat) (⟨"BeanServerModel", "define", "()I"⟩ : MethodName) ∈ jj_gw := jj_mem5 (List.mem_of_getElem? (i := 100) (by decide +kernel)) (by decide +kernel)
theorem wd_1061 : Cond.instanceMethod (⟨"BeanServerModel", "define", "()I"⟩ : MethodName) ∈ jj_gw := jj_mem5 (List.mem_of_getElem? (i := 101) (by decide +kernel)) (by decide +kernel)
theorem wd_1062 : Cond.selects "BeanServerModel" (⟨"BeanServerModel", "define", "()I"⟩ : MethodName) (⟨"BeanServerModel", "define", "()I"⟩ : MethodName) ∈ jj_gw := jj_mem5 (List.mem_of_getElem? (i := 102) (by decide +kernel)) (by decide +kernel)
theorem wd_1063 : Cond.code (⟨"BeanServerModel", "define", "()I"⟩ : MethodName) prog_12_method_44_code (3 : Nat) (Option.some FieldType.int) ∈ jj_gw := jj_mem5 (List.mem_of_getElem? (i := 103) (by decide +kernel)) (by decide +kernel)
theorem wd_1064 : Cond.methodLink "BeanServerModel" (210 : Nat) (⟨"BeanServerModel", "isQuery", "()Z"⟩ : MethodName) ∈ jj_gw := jj_mem5 (List.mem_of_getElem? (i := 104) (by decide +kernel)) (by decide +kernel)
theorem wd_1066 : Cond.instanceMethod (⟨"BeanServerModel", "isQuery", "()Z"⟩ : MethodName) ∈ jj_gw := jj_mem5 (List.mem_of_getElem? (i := 106) (by decide +kernel)) (by decide +kernel)
theorem wd_1067 : Cond.code (⟨"BeanServerModel", "isQuery", "()Z"⟩ : MethodName) prog_12_method_37_code (5 : Nat) (Option.some FieldType.boolean) ∈ jj_gw := jj_mem5 (List.mem_of_getElem? (i := 107) (by decide +kernel)) (by decide +kernel)
theorem wd_1068 : Cond.methodLink "BeanServerModel" (190 : Nat) (⟨"BeanServerModel", "comparisonEnd", "(I)I"⟩ : MethodName) ∈ jj_gw := jj_mem5 (List.mem_of_getElem? (i := 108) (by decide +kernel)) (by decide +kernel)
theorem wd_1070 : Cond.instanceMethod (⟨"BeanServerModel", "comparisonEnd", "(I)I"⟩ : MethodName) ∈ jj_gw := jj_mem5 (List.mem_of_getElem? (i := 110) (by decide +kernel)) (by decide +kernel)
theorem wd_1071 : Cond.code (⟨"BeanServerModel", "comparisonEnd", "(I)I"⟩ : MethodName) prog_12_method_36_code (3 : Nat) (Option.some FieldType.int) ∈ jj_gw := jj_mem5 (List.mem_of_getElem? (i := 111) (by decide +kernel)) (by decide +kernel)
theorem wd_1072 : Cond.methodLink "BeanServerModel" (184 : Nat) (⟨"BeanServerModel", "valueEnd", "(I)I"⟩ : MethodName) ∈ jj_gw := jj_mem5 (List.mem_of_getElem? (i := 112) (by decide +kernel)) (by decide +kernel)
theorem wd_1074 : Cond.instanceMethod (⟨"BeanServerModel", "valueEnd", "(I)I"⟩ : MethodName) ∈ jj_gw := jj_mem5 (List.mem_of_getElem? (i := 114) (by decide +kernel)) (by decide +kernel)
theorem wd_1075 : Cond.code (⟨"BeanServerModel", "valueEnd", "(I)I"⟩ : MethodName) prog_12_method_35_code (3 : Nat) (Option.some FieldType.int) ∈ jj_gw := jj_mem5 (List.mem_of_getElem? (i := 115) (by decide +kernel)) (by decide +kernel)
theorem wd_1076 : Cond.methodLink "BeanServerModel" (178 : Nat) (⟨"BeanServerModel", "unit", "(I)I"⟩ : MethodName) ∈ jj_gw := jj_mem5 (List.mem_of_getElem? (i := 116) (by decide +kernel)) (by decide +kernel)
theorem wd_1078 : Cond.instanceMethod (⟨"BeanServerModel", "unit", "(I)I"⟩ : MethodName) ∈ jj_gw := jj_mem5 (List.mem_of_getElem? (i := 118) (by decide +kernel)) (by decide +kernel)
theorem wd_1079 : Cond.code (⟨"BeanServerModel", "unit", "(I)I"⟩ : MethodName) prog_12_method_32_code (4 : Nat) (Option.some FieldType.int) ∈ jj_gw := jj_mem5 (List.mem_of_getElem? (i := 119) (by decide +kernel)) (by decide +kernel)
theorem wd_1080 : Cond.methodLink "BeanServerModel" (181 : Nat) (⟨"BeanServerModel", "isOperator", "(C)Z"⟩ : MethodName) ∈ jj_gw := jj_mem5 (List.mem_of_getElem? (i := 120) (by decide +kernel)) (by decide +kernel)
theorem wd_1081 : Cond.static (⟨"BeanServerModel", "isOperator", "(C)Z"⟩ : MethodName) ∈ jj_gw := jj_mem5 (List.mem_of_getElem? (i := 121) (by decide +kernel)) (by decide +kernel)
theorem wd_1082 : Cond.code (⟨"BeanServerModel", "isOperator", "(C)Z"⟩ : MethodName) prog_12_method_33_code (1 : Nat) (Option.some FieldType.boolean) ∈ jj_gw := jj_mem5 (List.mem_of_getElem? (i := 122) (by decide +kernel)) (by decide +kernel)
theorem wd_1083 : Cond.methodLink "BeanServerModel" (187 : Nat) (⟨"BeanServerModel", "isRelation", "(C)Z"⟩ : MethodName) ∈ jj_gw := jj_mem5 (List.mem_of_getElem? (i := 123) (by decide +kernel)) (by decide +kernel)
theorem wd_1084 : Cond.static (⟨"BeanServerModel", "isRelation", "(C)Z"⟩ : MethodName) ∈ jj_gw := jj_mem5 (List.mem_of_getElem? (i := 124) (by decide +kernel)) (by decide +kernel)
theorem wd_1085 : Cond.code (⟨"BeanServerModel", "isRelation", "(C)Z"⟩ : MethodName) prog_12_method_34_code (1 : Nat) (Option.some FieldType.boolean) ∈ jj_gw := jj_mem5 (List.mem_of_getElem? (i := 125) (by decide +kernel)) (by decide +kernel)
theorem wd_1086 : Cond.methodLink "BeanServerModel" (213 : Nat) (⟨"BeanServerModel", "shorten", "()V"⟩ : MethodName) ∈ jj_gw := jj_mem5 (List.mem_of_getElem? (i := 126) (by decide +kernel)) (by decide +kernel)
theorem wd_1088 : Cond.instanceMethod (⟨"BeanServerModel", "shorten", "()V"⟩ : MethodName) ∈ jj_gw := jj_mem5 (List.mem_of_getElem? (i := 128) (by decide +kernel)) (by decide +kernel)
theorem wd_1089 : Cond.code (⟨"BeanServerModel", "shorten", "()V"⟩ : MethodName) prog_12_method_42_code (5 : Nat) (Option.none : Option FieldType) ∈ jj_gw := jj_mem5 (List.mem_of_getElem? (i := 129) (by decide +kernel)) (by decide +kernel)
theorem wd_1090 : Cond.methodLink "BeanServerModel" (203 : Nat) (⟨"BeanServerModel", "last", "()C"⟩ : MethodName) ∈ jj_gw := jj_mem5 (List.mem_of_getElem? (i := 130) (by decide +kernel)) (by decide +kernel)
theorem wd_1092 : Cond.instanceMethod (⟨"BeanServerModel", "last", "()C"⟩ : MethodName) ∈ jj_gw := jj_mem5 (List.mem_of_getElem? (i := 132) (by decide +kernel)) (by decide +kernel)
theorem wd_1093 : Cond.code (⟨"BeanServerModel", "last", "()C"⟩ : MethodName) prog_12_method_43_code (1 : Nat) (Option.some FieldType.char) ∈ jj_gw := jj_mem5 (List.mem_of_getElem? (i := 133) (by decide +kernel)) (by decide +kernel)
theorem wd_1094 : Cond.methodLink "BeanServerModel" (207 : Nat) (⟨"BeanServerModel", "needed", "(I)Z"⟩ : MethodName) ∈ jj_gw := jj_mem5 (List.mem_of_getElem? (i := 134) (by decide +kernel)) (by decide +kernel)
theorem wd_1096 : Cond.instanceMethod (⟨"BeanServerModel", "needed", "(I)Z"⟩ : MethodName) ∈ jj_gw := jj_mem5 (List.mem_of_getElem? (i := 136) (by decide +kernel)) (by decide +kernel)
theorem wd_1097 : Cond.code (⟨"BeanServerModel", "needed", "(I)Z"⟩ : MethodName) prog_12_method_41_code (7 : Nat) (Option.some FieldType.boolean) ∈ jj_gw := jj_mem5 (List.mem_of_getElem? (i := 137) (by decide +kernel)) (by decide +kernel)
theorem wd_1098 : Cond.methodLink "BeanServerModel" (193 : Nat) (⟨"BeanServerModel", "partner", "(I)I"⟩ : MethodName) ∈ jj_gw := jj_mem5 (List.mem_of_getElem? (i := 138) (by decide +kernel)) (by decide +kernel)
theorem wd_1100 : Cond.instanceMethod (⟨"BeanServerModel", "partner", "(I)I"⟩ : MethodName) ∈ jj_gw := jj_mem5 (List.mem_of_getElem? (i := 140) (by decide +kernel)) (by decide +kernel)
theorem wd_1101 : Cond.code (⟨"BeanServerModel", "partner", "(I)I"⟩ : MethodName) prog_12_method_38_code (7 : Nat) (Option.some FieldType.int) ∈ jj_gw := jj_mem5 (List.mem_of_getElem? (i := 141) (by decide +kernel)) (by decide +kernel)
theorem wd_1102 : Cond.methodLink "BeanServerModel" (196 : Nat) (⟨"BeanServerModel", "contains", "(IIC)Z"⟩ : MethodName) ∈ jj_gw := jj_mem5 (List.mem_of_getElem? (i := 142) (by decide +kernel)) (by decide +kernel)
theorem wd_1104 : Cond.instanceMethod (⟨"BeanServerModel", "contains", "(IIC)Z"⟩ : MethodName) ∈ jj_gw := jj_mem5 (List.mem_of_getElem? (i := 144) (by decide +kernel)) (by decide +kernel)
theorem wd_1105 : Cond.code (⟨"BeanServerModel", "contains", "(IIC)Z"⟩ : MethodName) prog_12_method_39_code (8 : Nat) (Option.some FieldType.boolean) ∈ jj_gw := jj_mem5 (List.mem_of_getElem? (i := 145) (by decide +kernel)) (by decide +kernel)
theorem wd_1106 : Cond.methodLink "BeanServerModel" (200 : Nat) (⟨"BeanServerModel", "amongSeveral", "(II)Z"⟩ : MethodName) ∈ jj_gw := jj_mem5 (List.mem_of_getElem? (i := 146) (by decide +kernel)) (by decide +kernel)
theorem wd_1108 : Cond.instanceMethod (⟨"BeanServerModel", "amongSeveral", "(II)Z"⟩ : MethodName) ∈ jj_gw := jj_mem5 (List.mem_of_getElem? (i := 148) (by decide +kernel)) (by decide +kernel)
theorem wd_1109 : Cond.code (⟨"BeanServerModel", "amongSeveral", "(II)Z"⟩ : MethodName) prog_12_method_40_code (4 : Nat) (Option.some FieldType.boolean) ∈ jj_gw := jj_mem5 (List.mem_of_getElem? (i := 149) (by decide +kernel)) (by decide +kernel)
theorem wd_1110 : Cond.methodLink "BeanServerLaw" (53 : Nat) (⟨"BeanServerModel", "check", "(II)I"⟩ : MethodName) ∈ jj_gw := jj_mem5 (List.mem_of_getElem? (i := 150) (by decide +kernel)) (by decide +kernel)
theorem wd_1111 : Cond.instanceMethod (⟨"BeanServerModel", "check", "(II)I"⟩ : MethodName) ∈ jj_gw := jj_mem5 (List.mem_of_getElem? (i := 151) (by decide +kernel)) (by decide +kernel)
theorem wd_1112 : Cond.selects "BeanServerModel" (⟨"BeanServerModel", "check", "(II)I"⟩ : MethodName) (⟨"BeanServerModel", "check", "(II)I"⟩ : MethodName) ∈ jj_gw := jj_mem5 (List.mem_of_getElem? (i := 152) (by decide +kernel)) (by decide +kernel)
theorem wd_1113 : Cond.code (⟨"BeanServerModel", "check", "(II)I"⟩ : MethodName) prog_12_method_53_code (3 : Nat) (Option.some FieldType.int) ∈ jj_gw := jj_mem5 (List.mem_of_getElem? (i := 153) (by decide +kernel)) (by decide +kernel)
theorem wd_1114 : Cond.methodLink "BeanServerModel" (244 : Nat) (⟨"BeanServerModel", "isAsked", "(I)Z"⟩ : MethodName) ∈ jj_gw := jj_mem5 (List.mem_of_getElem? (i := 154) (by decide +kernel)) (by decide +kernel)
theorem wd_1116 : Cond.instanceMethod (⟨"BeanServerModel", "isAsked", "(I)Z"⟩ : MethodName) ∈ jj_gw := jj_mem5 (List.mem_of_getElem? (i := 156) (by decide +kernel)) (by decide +kernel)
theorem wd_1117 : Cond.code (⟨"BeanServerModel", "isAsked", "(I)Z"⟩ : MethodName) prog_12_method_52_code (2 : Nat) (Option.some FieldType.boolean) ∈ jj_gw := jj_mem5 (List.mem_of_getElem? (i := 157) (by decide +kernel)) (by decide +kernel)
theorem wd_1118 : Cond.methodLink "BeanServerModel" (247 : Nat) (⟨"BeanServerModel", "truth", "(II)I"⟩ : MethodName) ∈ jj_gw := jj_mem5 (List.mem_of_getElem? (i := 158) (by decide +kernel)) (by decide +kernel)
theorem wd_1120 : Cond.instanceMethod (⟨"BeanServerModel", "truth", "(II)I"⟩ : MethodName) ∈ jj_gw := jj_mem5 (List.mem_of_getElem? (i := 160) (by decide +kernel)) (by decide +kernel)
theorem wd_1121 : Cond.code (⟨"BeanServerModel", "truth", "(II)I"⟩ : MethodName) prog_12_method_51_code (8 : Nat) (Option.some FieldType.int) ∈ jj_gw := jj_mem5 (List.mem_of_getElem? (i := 161) (by decide +kernel)) (by decide +kernel)
theorem wd_1122 : Cond.methodLink "BeanServerModel" (231 : Nat) (⟨"BeanServerModel", "enter", "(IZ)V"⟩ : MethodName) ∈ jj_gw := jj_mem5 (List.mem_of_getElem? (i := 162) (by decide +kernel)) (by decide +kernel)
theorem wd_1124 : Cond.instanceMethod (⟨"BeanServerModel", "enter", "(IZ)V"⟩ : MethodName) ∈ jj_gw := jj_mem5 (List.mem_of_getElem? (i := 164) (by decide +kernel)) (by decide +kernel)
theorem wd_1125 : Cond.code (⟨"BeanServerModel", "enter", "(IZ)V"⟩ : MethodName) prog_12_method_48_code (3 : Nat) (Option.none : Option FieldType) ∈ jj_gw := jj_mem5 (List.mem_of_getElem? (i := 165) (by decide +kernel)) (by decide +kernel)
theorem wd_1126 : Cond.methodLink "BeanServerModel" (235 : Nat) (⟨"BeanServerModel", "looked", "(I)Z"⟩ : MethodName) ∈ jj_gw := jj_mem5 (List.mem_of_getElem? (i := 166) (by decide +kernel)) (by decide +kernel)
theorem wd_1128 : Cond.instanceMethod (⟨"BeanServerModel", "looked", "(I)Z"⟩ : MethodName) ∈ jj_gw := jj_mem5 (List.mem_of_getElem? (i := 168) (by decide +kernel)) (by decide +kernel)
theorem wd_1129 : Cond.code (⟨"BeanServerModel", "looked", "(I)Z"⟩ : MethodName) prog_12_method_50_code (2 : Nat) (Option.some FieldType.boolean) ∈ jj_gw := jj_mem5 (List.mem_of_getElem? (i := 169) (by decide +kernel)) (by decide +kernel)
theorem wd_1130 : Cond.methodLink "BeanServerModel" (238 : Nat) (⟨"BeanServerModel", "settle", "(IZ)V"⟩ : MethodName) ∈ jj_gw := jj_mem5 (List.mem_of_getElem? (i := 170) (by decide +kernel)) (by decide +kernel)
theorem wd_1132 : Cond.instanceMethod (⟨"BeanServerModel", "settle", "(IZ)V"⟩ : MethodName) ∈ jj_gw := jj_mem5 (List.mem_of_getElem? (i := 172) (by decide +kernel)) (by decide +kernel)
theorem wd_1133 : Cond.code (⟨"BeanServerModel", "settle", "(IZ)V"⟩ : MethodName) prog_12_method_49_code (3 : Nat) (Option.none : Option FieldType) ∈ jj_gw := jj_mem5 (List.mem_of_getElem? (i := 173) (by decide +kernel)) (by decide +kernel)
theorem wd_1134 : Cond.methodLink "BeanServerModel" (241 : Nat) (⟨"BeanServerModel", "comparison", "(II)Z"⟩ : MethodName) ∈ jj_gw := jj_mem5 (List.mem_of_getElem? (i := 174) (by decide +kernel)) (by decide +kernel)
theorem wd_1136 : Cond.instanceMethod (⟨"BeanServerModel", "comparison", "(II)Z"⟩ : MethodName) ∈ jj_gw := jj_mem5 (List.mem_of_getElem? (i := 176) (by decide +kernel)) (by decide +kernel)
theorem wd_1137 : Cond.code (⟨"BeanServerModel", "comparison", "(II)Z"⟩ : MethodName) prog_12_method_47_code (6 : Nat) (Option.some FieldType.boolean) ∈ jj_gw := jj_mem5 (List.mem_of_getElem? (i := 177) (by decide +kernel)) (by decide +kernel)
theorem wd_1138 : Cond.methodLink "BeanServerModel" (228 : Nat) (⟨"BeanServerModel", "value", "(II)I"⟩ : MethodName) ∈ jj_gw := jj_mem5 (List.mem_of_getElem? (i := 178) (by decide +kernel)) (by decide +kernel)
theorem wd_1140 : Cond.instanceMethod (⟨"BeanServerModel", "value", "(II)I"⟩ : MethodName) ∈ jj_gw := jj_mem5 (List.mem_of_getElem? (i := 180) (by decide +kernel)) (by decide +kernel)
theorem wd_1141 : Cond.code (⟨"BeanServerModel", "value", "(II)I"⟩ : MethodName) prog_12_method_46_code (8 : Nat) (Option.some FieldType.int) ∈ jj_gw := jj_mem5 (List.mem_of_getElem? (i := 181) (by decide +kernel)) (by decide +kernel)
theorem wd_1142 : Cond.methodLink "BeanServerModel" (225 : Nat) (⟨"BeanServerModel", "unitValue", "(II)I"⟩ : MethodName) ∈ jj_gw := jj_mem5 (List.mem_of_getElem? (i := 182) (by decide +kernel)) (by decide +kernel)
theorem wd_1144 : Cond.instanceMethod (⟨"BeanServerModel", "unitValue", "(II)I"⟩ : MethodName) ∈ jj_gw := jj_mem5 (List.mem_of_getElem? (i := 184) (by decide +kernel)) (by decide +kernel)
theorem wd_1145 : Cond.code (⟨"BeanServerModel", "unitValue", "(II)I"⟩ : MethodName) prog_12_method_45_code (5 : Nat) (Option.some FieldType.int) ∈ jj_gw := jj_mem5 (List.mem_of_getElem? (i := 185) (by decide +kernel)) (by decide +kernel)
theorem wd_1146 : Cond.methodLink "BeanServerModel" (222 : Nat) (⟨"BeanServerModel", "get", "(II)I"⟩ : MethodName) ∈ jj_gw := jj_mem5 (List.mem_of_getElem? (i := 186) (by decide +kernel)) (by decide +kernel)
theorem wd_1147 : Cond.methodLink "BeanServerLaw" (58 : Nat) (⟨"BeanServerModel", "select", "(I)I"⟩ : MethodName) ∈ jj_gw := jj_mem5 (List.mem_of_getElem? (i := 187) (by decide +kernel)) (by decide +kernel)
theorem wd_1148 : Cond.instanceMethod (⟨"BeanServerModel", "select", "(I)I"⟩ : MethodName) ∈ jj_gw := jj_mem5 (List.mem_of_getElem? (i := 188) (by decide +kernel)) (by decide +kernel)
theorem wd_1149 : Cond.selects "BeanServerModel" (⟨"BeanServerModel", "select", "(I)I"⟩ : MethodName) (⟨"BeanServerModel", "select", "(I)I"⟩ : MethodName) ∈ jj_gw := jj_mem5 (List.mem_of_getElem? (i := 189) (by decide +kernel)) (by decide +kernel)
theorem wd_1150 : Cond.code (⟨"BeanServerModel", "select", "(I)I"⟩ : MethodName) prog_12_method_54_code (3 : Nat) (Option.some FieldType.int) ∈ jj_gw := jj_mem5 (List.mem_of_getElem? (i := 190) (by decide +kernel)) (by decide +kernel)
theorem wd_1151 : Cond.methodLink "BeanServerModel" (253 : Nat) (⟨"BeanServerModel", "fits", "(I)Z"⟩ : MethodName) ∈ jj_gw := jj_mem5 (List.mem_of_getElem? (i := 191) (by decide +kernel)) (by decide +kernel)
theorem wd_1153 : Cond.instanceMethod (⟨"BeanServerModel", "fits", "(I)Z"⟩ : MethodName) ∈ jj_gw := jj_mem5 (List.mem_of_getElem? (i := 193) (by decide +kernel)) (by decide +kernel)
theorem wd_1154 : Cond.code (⟨"BeanServerModel", "fits", "(I)Z"⟩ : MethodName) prog_12_method_22_code (5 : Nat) (Option.some FieldType.boolean) ∈ jj_gw := jj_mem5 (List.mem_of_getElem? (i := 194) (by decide +kernel)) (by decide +kernel)
theorem wd_1155 : Cond.methodLink "BeanServerModel" (143 : Nat) (⟨"BeanServerModel", "matches", "(IIII)Z"⟩ : MethodName) ∈ jj_gw := jj_mem5 (List.mem_of_getElem? (i := 195) (by decide +kernel)) (by decide +kernel)
theorem wd_1157 : Cond.instanceMethod (⟨"BeanServerModel", "matches", "(IIII)Z"⟩ : MethodName) ∈ jj_gw := jj_mem5 (List.mem_of_getElem? (i := 197) (by decide +kernel)) (by decide +kernel)
theorem wd_1158 : Cond.code (⟨"BeanServerModel", "matches", "(IIII)Z"⟩ : MethodName) prog_12_method_18_code (11 : Nat) (Option.some FieldType.boolean) ∈ jj_gw := jj_mem5 (List.mem_of_getElem? (i := 198) (by decide +kernel)) (by decide +kernel)
theorem wd_1159 : Cond.methodLink "BeanServerModel" (136 : Nat) (⟨"BeanServerModel", "isPart", "(C)Z"⟩ : MethodName) ∈ jj_gw := jj_mem5 (List.mem_of_getElem? (i := 199) (by decide +kernel)) (by decide +kernel)
theorem wd_1160 : Cond.static (⟨"BeanServerModel", "isPart", "(C)Z"⟩ : MethodName) ∈ jj_gw := jj_mem5 (List.mem_of_getElem? (i := 200) (by decide +kernel)) (by decide +kernel)
theorem wd_1161 : Cond.code (⟨"BeanServerModel", "isPart", "(C)Z"⟩ : MethodName) prog_12_method_19_code (1 : Nat) (Option.some FieldType.boolean) ∈ jj_gw := jj_mem5 (List.mem_of_getElem? (i := 201) (by decide +kernel)) (by decide +kernel)
theorem wd_1162 : Cond.methodLink "BeanServerModel" (139 : Nat) (⟨"BeanServerModel", "spread", "(IIII)I"⟩ : MethodName) ∈ jj_gw := jj_mem5 (List.mem_of_getElem? (i := 202) (by decide +kernel)) (by decide +kernel)
theorem wd_1164 : Cond.instanceMethod (⟨"BeanServerModel", "spread", "(IIII)I"⟩ : MethodName) ∈ jj_gw := jj_mem5 (List.mem_of_getElem? (i := 204) (by decide +kernel)) (by decide +kernel)
theorem wd_1165 : Cond.code (⟨"BeanServerModel", "spread", "(IIII)I"⟩ : MethodName) prog_12_method_20_code (7 : Nat) (Option.some FieldType.int) ∈ jj_gw := jj_mem5 (List.mem_of_getElem? (i := 205) (by decide +kernel)) (by decide +kernel)
theorem wd_1166 : Cond.methodLink "BeanServerModel" (147 : Nat) (⟨"BeanServerModel", "property", "(II)I"⟩ : MethodName) ∈ jj_gw := jj_mem5 (List.mem_of_getElem? (i := 206) (by decide +kernel)) (by decide +kernel)
theorem wd_1168 : Cond.instanceMethod (⟨"BeanServerModel", "property", "(II)I"⟩ : MethodName) ∈ jj_gw := jj_mem5 (List.mem_of_getElem? (i := 208) (by decide +kernel)) (by decide +kernel)
theorem wd_1169 : Cond.code (⟨"BeanServerModel", "property", "(II)I"⟩ : MethodName) prog_12_method_21_code (6 : Nat) (Option.some FieldType.int) ∈ jj_gw := jj_mem5 (List.mem_of_getElem? (i := 209) (by decide +kernel)) (by decide +kernel)
theorem wd_1170 : Cond.methodLink "BeanServerLaw" (62 : Nat) (⟨"BeanServerModel", "selected", "(I)I"⟩ : MethodName) ∈ jj_gw := jj_mem5 (List.mem_of_getElem? (i := 210) (by decide +kernel)) (by decide +kernel)
theorem wd_1171 : Cond.instanceMethod (⟨"BeanServerModel", "selected", "(I)I"⟩ : MethodName) ∈ jj_gw := jj_mem5 (List.mem_of_getElem? (i := 211) (by decide +kernel)) (by decide +kernel)
theorem wd_1172 : Cond.selects "BeanServerModel" (⟨"BeanServerModel", "selected", "(I)I"⟩ : MethodName) (⟨"BeanServerModel", "selected", "(I)I"⟩ : MethodName) ∈ jj_gw := jj_mem5 (List.mem_of_getElem? (i := 212) (by decide +kernel)) (by decide +kernel)
theorem wd_1173 : Cond.code (⟨"BeanServerModel", "selected", "(I)I"⟩ : MethodName) prog_12_method_55_code (2 : Nat) (Option.some FieldType.int) ∈ jj_gw := jj_mem5 (List.mem_of_getElem? (i := 213) (by decide +kernel)) (by decide +kernel)
theorem wd_1174 : Cond.methodLink "BeanServerLaw" (67 : Nat) (⟨"BeanServerModel", "form", "(III)I"⟩ : MethodName) ∈ jj_gw := jj_mem5 (List.mem_of_getElem? (i := 214) (by decide +kernel)) (by decide +kernel)
theorem wd_1175 : Cond.instanceMethod (⟨"BeanServerModel", "form", "(III)I"⟩ : MethodName) ∈ jj_gw := jj_mem5 (List.mem_of_getElem? (i := 215) (by decide +kernel)) (by decide +kernel)
theorem wd_1176 : Cond.selects "BeanServerModel" (⟨"BeanServerModel", "form", "(III)I"⟩ : MethodName) (⟨"BeanServerModel", "form", "(III)I"⟩ : MethodName) ∈ jj_gw := jj_mem5 (List.mem_of_getElem? (i := 216) (by decide +kernel)) (by decide +kernel)
theorem wd_1177 : Cond.code (⟨"BeanServerModel", "form", "(III)I"⟩ : MethodName) prog_12_method_56_code (5 : Nat) (Option.some FieldType.int) ∈ jj_gw := jj_mem5 (List.mem_of_getElem? (i := 217) (by decide +kernel)) (by decide +kernel)
theorem wd_1178 : Cond.methodLink "BeanServerLaw" (72 : Nat) (⟨"BeanServerModel", "counter", "(IIII)I"⟩ : MethodName) ∈ jj_gw := jj_mem5 (List.mem_of_getElem? (i := 218) (by decide +kernel)) (by decide +kernel)
theorem wd_1179 : Cond.instanceMethod (⟨"BeanServerModel", "counter", "(IIII)I"⟩ : MethodName) ∈ jj_gw := jj_mem5 (List.mem_of_getElem? (i := 219) (by decide +kernel)) (by decide +kernel)
theorem wd_1180 : Cond.selects "BeanServerModel" (⟨"BeanServerModel", "counter", "(IIII)I"⟩ : MethodName) (⟨"BeanServerModel", "counter", "(IIII)I"⟩ : MethodName) ∈ jj_gw := jj_mem5 (List.mem_of_getElem? (i := 220) (by decide +kernel)) (by decide +kernel)
theorem wd_1181 : Cond.code (⟨"BeanServerModel", "counter", "(IIII)I"⟩ : MethodName) prog_12_method_58_code (5 : Nat) (Option.some FieldType.int) ∈ jj_gw := jj_mem5 (List.mem_of_getElem? (i := 221) (by decide +kernel)) (by decide +kernel)
theorem wd_1182 : Cond.methodLink "BeanServerModel" (256 : Nat) (⟨"BeanServerModel", "watch", "(IIIII)I"⟩ : MethodName) ∈ jj_gw := jj_mem5 (List.mem_of_getElem? (i := 222) (by decide +kernel)) (by decide +kernel)
theorem wd_1184 : Cond.instanceMethod (⟨"BeanServerModel", "watch", "(IIIII)I"⟩ : MethodName) ∈ jj_gw := jj_mem5 (List.mem_of_getElem? (i := 224) (by decide +kernel)) (by decide +kernel)
theorem wd_1185 : Cond.code (⟨"BeanServerModel", "watch", "(IIIII)I"⟩ : MethodName) prog_12_method_57_code (7 : Nat) (Option.some FieldType.int) ∈ jj_gw := jj_mem5 (List.mem_of_getElem? (i := 225) (by decide +kernel)) (by decide +kernel)
theorem wd_1186 : Cond.methodLink "BeanServerLaw" (76 : Nat) (⟨"BeanServerModel", "gauge", "(IIII)I"⟩ : MethodName) ∈ jj_gw := jj_mem5 (List.mem_of_getElem? (i := 226) (by decide +kernel)) (by decide +kernel)
theorem wd_1187 : Cond.instanceMethod (⟨"BeanServerModel", "gauge", "(IIII)I"⟩ : MethodName) ∈ jj_gw := jj_mem5 (List.mem_of_getElem? (i := 227) (by decide +kernel)) (by decide +kernel)
theorem wd_1188 : Cond.selects "BeanServerModel" (⟨"BeanServerModel", "gauge", "(IIII)I"⟩ : MethodName) (⟨"BeanServerModel", "gauge", "(IIII)I"⟩ : MethodName) ∈ jj_gw := jj_mem5 (List.mem_of_getElem? (i := 228) (by decide +kernel)) (by decide +kernel)
theorem wd_1189 : Cond.code (⟨"BeanServerModel", "gauge", "(IIII)I"⟩ : MethodName) prog_12_method_59_code (5 : Nat) (Option.some FieldType.int) ∈ jj_gw := jj_mem5 (List.mem_of_getElem? (i := 229) (by decide +kernel)) (by decide +kernel)
theorem wd_1190 : Cond.methodLink "BeanServerLaw" (81 : Nat) (⟨"BeanServerModel", "cancel", "(I)Z"⟩ : MethodName) ∈ jj_gw := jj_mem5 (List.mem_of_getElem? (i := 230) (by decide +kernel)) (by decide +kernel)
theorem wd_1191 : Cond.instanceMethod (⟨"BeanServerModel", "cancel", "(I)Z"⟩ : MethodName) ∈ jj_gw := jj_mem5 (List.mem_of_getElem? (i := 231) (by decide +kernel)) (by decide +kernel)
theorem wd_1192 : Cond.selects "BeanServerModel" (⟨"BeanServerModel", "cancel", "(I)Z"⟩ : MethodName) (⟨"BeanServerModel", "cancel", "(I)Z"⟩ : MethodName) ∈ jj_gw := jj_mem5 (List.mem_of_getElem? (i := 232) (by decide +kernel)) (by decide +kernel)
theorem wd_1193 : Cond.code (⟨"BeanServerModel", "cancel", "(I)Z"⟩ : MethodName) prog_12_method_61_code (2 : Nat) (Option.some FieldType.boolean) ∈ jj_gw := jj_mem5 (List.mem_of_getElem? (i := 233) (by decide +kernel)) (by decide +kernel)
theorem wd_1194 : Cond.methodLink "BeanServerModel" (260 : Nat) (⟨"BeanServerModel", "isMonitor", "(I)Z"⟩ : MethodName) ∈ jj_gw := jj_mem5 (List.mem_of_getElem? (i := 234) (by decide +kernel)) (by decide +kernel)
theorem wd_1196 : Cond.instanceMethod (⟨"BeanServerModel", "isMonitor", "(I)Z"⟩ : MethodName) ∈ jj_gw := jj_mem5 (List.mem_of_getElem? (i := 236) (by decide +kernel)) (by decide +kernel)
theorem wd_1197 : Cond.code (⟨"BeanServerModel", "isMonitor", "(I)Z"⟩ : MethodName) prog_12_method_60_code (2 : Nat) (Option.some FieldType.boolean) ∈ jj_gw := jj_mem5 (List.mem_of_getElem? (i := 237) (by decide +kernel)) (by decide +kernel)
theorem wd_1198 : Cond.methodLink "BeanServerLaw" (85 : Nat) (⟨"BeanServerModel", "observe", "()I"⟩ : MethodName) ∈ jj_gw := jj_mem5 (List.mem_of_getElem? (i := 238) (by decide +kernel)) (by decide +kernel)
theorem wd_1199 : Cond.instanceMethod (⟨"BeanServerModel", "observe", "()I"⟩ : MethodName) ∈ jj_gw := jj_mem5 (List.mem_of_getElem? (i := 239) (by decide +kernel)) (by decide +kernel)
theorem wd_1200 : Cond.selects "BeanServerModel" (⟨"BeanServerModel", "observe", "()I"⟩ : MethodName) (⟨"BeanServerModel", "observe", "()I"⟩ : MethodName) ∈ jj_gw := jj_mem6 (List.mem_of_getElem? (i := 0) (by decide +kernel)) (by decide +kernel)
theorem wd_1201 : Cond.code (⟨"BeanServerModel", "observe", "()I"⟩ : MethodName) prog_12_method_65_code (3 : Nat) (Option.some FieldType.int) ∈ jj_gw := jj_mem6 (List.mem_of_getElem? (i := 1) (by decide +kernel)) (by decide +kernel)
theorem wd_1202 : Cond.methodLink "BeanServerModel" (271 : Nat) (⟨"BeanServerModel", "observe1", "(I)V"⟩ : MethodName) ∈ jj_gw := jj_mem6 (List.mem_of_getElem? (i := 2) (by decide +kernel)) (by decide +kernel)
theorem wd_1204 : Cond.instanceMethod (⟨"BeanServerModel", "observe1", "(I)V"⟩ : MethodName) ∈ jj_gw := jj_mem6 (List.mem_of_getElem? (i := 4) (by decide +kernel)) (by decide +kernel)
theorem wd_1205 : Cond.code (⟨"BeanServerModel", "observe1", "(I)V"⟩ : MethodName) prog_12_method_64_code (5 : Nat) (Option.none : Option FieldType) ∈ jj_gw := jj_mem6 (List.mem_of_getElem? (i := 5) (by decide +kernel)) (by decide +kernel)
theorem wd_1206 : Cond.methodLink "BeanServerModel" (265 : Nat) (⟨"BeanServerModel", "count", "(II)V"⟩ : MethodName) ∈ jj_gw := jj_mem6 (List.mem_of_getElem? (i := 6) (by decide +kernel)) (by decide +kernel)
theorem wd_1208 : Cond.instanceMethod (⟨"BeanServerModel", "count", "(II)V"⟩ : MethodName) ∈ jj_gw := jj_mem6 (List.mem_of_getElem? (i := 8) (by decide +kernel)) (by decide +kernel)
theorem wd_1209 : Cond.code (⟨"BeanServerModel", "count", "(II)V"⟩ : MethodName) prog_12_method_62_code (5 : Nat) (Option.none : Option FieldType) ∈ jj_gw := jj_mem6 (List.mem_of_getElem? (i := 9) (by decide +kernel)) (by decide +kernel)
theorem wd_1210 : Cond.methodLink "BeanServerModel" (268 : Nat) (⟨"BeanServerModel", "gaugeOf", "(II)V"⟩ : MethodName) ∈ jj_gw := jj_mem6 (List.mem_of_getElem? (i := 10) (by decide +kernel)) (by decide +kernel)
theorem wd_1212 : Cond.instanceMethod (⟨"BeanServerModel", "gaugeOf", "(II)V"⟩ : MethodName) ∈ jj_gw := jj_mem6 (List.mem_of_getElem? (i := 12) (by decide +kernel)) (by decide +kernel)
theorem wd_1213 : Cond.code (⟨"BeanServerModel", "gaugeOf", "(II)V"⟩ : MethodName) prog_12_method_63_code (3 : Nat) (Option.none : Option FieldType) ∈ jj_gw := jj_mem6 (List.mem_of_getElem? (i := 13) (by decide +kernel)) (by decide +kernel)
theorem wd_1214 : Cond.constantLong "BeanServerModel" (263 : Nat) (-1 : Int64) ∈ jj_gw := jj_mem6 (List.mem_of_getElem? (i := 14) (by decide +kernel)) (by decide +kernel)
theorem wd_1215 : Cond.methodLink "BeanServerLaw" (90 : Nat) (⟨"BeanServerModel", "mark", "(I)J"⟩ : MethodName) ∈ jj_gw := jj_mem6 (List.mem_of_getElem? (i := 15) (by decide +kernel)) (by decide +kernel)
theorem wd_1216 : Cond.instanceMethod (⟨"BeanServerModel", "mark", "(I)J"⟩ : MethodName) ∈ jj_gw := jj_mem6 (List.mem_of_getElem? (i := 16) (by decide +kernel)) (by decide +kernel)
theorem wd_1217 : Cond.selects "BeanServerModel" (⟨"BeanServerModel", "mark", "(I)J"⟩ : MethodName) (⟨"BeanServerModel", "mark", "(I)J"⟩ : MethodName) ∈ jj_gw := jj_mem6 (List.mem_of_getElem? (i := 17) (by decide +kernel)) (by decide +kernel)
theorem wd_1218 : Cond.code (⟨"BeanServerModel", "mark", "(I)J"⟩ : MethodName) prog_12_method_66_code (2 : Nat) (Option.some FieldType.long) ∈ jj_gw := jj_mem6 (List.mem_of_getElem? (i := 18) (by decide +kernel)) (by decide +kernel)
theorem wd_1219 : Cond.methodLink "BeanServerLaw" (94 : Nat) (⟨"BeanServerModel", "listen", "(I)I"⟩ : MethodName) ∈ jj_gw := jj_mem6 (List.mem_of_getElem? (i := 19) (by decide +kernel)) (by decide +kernel)
theorem wd_1220 : Cond.instanceMethod (⟨"BeanServerModel", "listen", "(I)I"⟩ : MethodName) ∈ jj_gw := jj_mem6 (List.mem_of_getElem? (i := 20) (by decide +kernel)) (by decide +kernel)
theorem wd_1221 : Cond.selects "BeanServerModel" (⟨"BeanServerModel", "listen", "(I)I"⟩ : MethodName) (⟨"BeanServerModel", "listen", "(I)I"⟩ : MethodName) ∈ jj_gw := jj_mem6 (List.mem_of_getElem? (i := 21) (by decide +kernel)) (by decide +kernel)
theorem wd_1222 : Cond.code (⟨"BeanServerModel", "listen", "(I)I"⟩ : MethodName) prog_12_method_67_code (2 : Nat) (Option.some FieldType.int) ∈ jj_gw := jj_mem6 (List.mem_of_getElem? (i := 22) (by decide +kernel)) (by decide +kernel)
theorem wd_1223 : Cond.methodLink "BeanServerLaw" (98 : Nat) (⟨"BeanServerModel", "notice", "(II)I"⟩ : MethodName) ∈ jj_gw := jj_mem6 (List.mem_of_getElem? (i := 23) (by decide +kernel)) (by decide +kernel)
theorem wd_1224 : Cond.instanceMethod (⟨"BeanServerModel", "notice", "(II)I"⟩ : MethodName) ∈ jj_gw := jj_mem6 (List.mem_of_getElem? (i := 24) (by decide +kernel)) (by decide +kernel)
theorem wd_1225 : Cond.selects "BeanServerModel" (⟨"BeanServerModel", "notice", "(II)I"⟩ : MethodName) (⟨"BeanServerModel", "notice", "(II)I"⟩ : MethodName) ∈ jj_gw := jj_mem6 (List.mem_of_getElem? (i := 25) (by decide +kernel)) (by decide +kernel)
theorem wd_1226 : Cond.code (⟨"BeanServerModel", "notice", "(II)I"⟩ : MethodName) prog_12_method_68_code (3 : Nat) (Option.some FieldType.int) ∈ jj_gw := jj_mem6 (List.mem_of_getElem? (i := 26) (by decide +kernel)) (by decide +kernel)
theorem wd_1227 : Cond.sameMethod "java/lang/AbstractStringBuilder" "java/lang/AbstractStringBuilder" "length" "()I" ∈ jj_gw := jj_mem6 (List.mem_of_getElem? (i := 27) (by decide +kernel)) (by decide +kernel)
theorem wd_1228 : Cond.sameMethod "java/lang/AbstractStringBuilder" "java/lang/AbstractStringBuilder" "append" "(C)Ljava/lang/AbstractStringBuilder;" ∈ jj_gw := jj_mem6 (List.mem_of_getElem? (i := 28) (by decide +kernel)) (by decide +kernel)
theorem wd_1229 : Cond.sameMethod "java/lang/AbstractStringBuilder" "java/lang/AbstractStringBuilder" "ensureCapacityInternal" "(I)V" ∈ jj_gw := jj_mem6 (List.mem_of_getElem? (i := 29) (by decide +kernel)) (by decide +kernel)
theorem wd_1230 : Cond.sameMethod "java/lang/AbstractStringBuilder" "java/lang/AbstractStringBuilder" "newCapacity" "(I)I" ∈ jj_gw := jj_mem6 (List.mem_of_getElem? (i := 30) (by decide +kernel)) (by decide +kernel)
theorem wd_1231 : Cond.sameMethod "java/lang/AbstractStringBuilder" "java/lang/AbstractStringBuilder" "inflate" "()V" ∈ jj_gw := jj_mem6 (List.mem_of_getElem? (i := 31) (by decide +kernel)) (by decide +kernel)
theorem wd_1232 : Cond.selects "java/lang/StringBuilder" (⟨"java/lang/AbstractStringBuilder", "length", "()I"⟩ : MethodName) (⟨"java/lang/StringBuilder", "length", "()I"⟩ : MethodName) ∈ jj_gw := jj_mem6 (List.mem_of_getElem? (i := 32) (by decide +kernel)) (by decide +kernel)
theorem wd_1233 : Cond.sameMethod "java/lang/AbstractStringBuilder" "java/lang/AbstractStringBuilder" "setLength" "(I)V" ∈ jj_gw := jj_mem6 (List.mem_of_getElem? (i := 33) (by decide +kernel)) (by decide +kernel)
theorem wd_1234 : Cond.sameMethod "java/lang/AbstractStringBuilder" "java/lang/AbstractStringBuilder" "charAt" "(I)C" ∈ jj_gw := jj_mem6 (List.mem_of_getElem? (i := 34) (by decide +kernel)) (by decide +kernel)
theorem wd_1235 : Cond.sameMethod "java/lang/AbstractStringBuilder" "java/lang/AbstractStringBuilder" "deleteCharAt" "(I)Ljava/lang/AbstractStringBuilder;" ∈ jj_gw := jj_mem6 (List.mem_of_getElem? (i := 35) (by decide +kernel)) (by decide +kernel)
theorem wd_1236 : Cond.sameMethod "java/lang/AbstractStringBuilder" "java/lang/AbstractStringBuilder" "shift" "(II)V" ∈ jj_gw := jj_mem6 (List.mem_of_getElem? (i := 36) (by decide +kernel)) (by decide +kernel)
theorem wp_0 : Cond.selects "BeanServer" (⟨"BeanServer", "takenName", "()LBeanServer$Pattern;"⟩ : MethodName) (⟨"BeanServer", "takenName", "()LBeanServer$Pattern;"⟩ : MethodName) ∈ jj_gw := jj_memP (List.mem_of_getElem? (i := 0) (by decide +kernel)) (by decide +kernel)
theorem wp_1 : Cond.selects "BeanServer" (⟨"BeanServer", "taken", "()Ljava/lang/String;"⟩ : MethodName) (⟨"BeanServer", "taken", "()Ljava/lang/String;"⟩ : MethodName) ∈ jj_gw := jj_memP (List.mem_of_getElem? (i := 1) (by decide +kernel)) (by decide +kernel)
theorem wp_2 : Cond.selects "BeanServer$Pattern" (⟨"BeanServer$Pattern", "rowEnd", "(I)I"⟩ : MethodName) (⟨"BeanServer$Pattern", "rowEnd", "(I)I"⟩ : MethodName) ∈ jj_gw := jj_memP (List.mem_of_getElem? (i := 2) (by decide +kernel)) (by decide +kernel)
theorem wp_3 : Cond.selects "BeanServer$Pattern" (⟨"BeanServer$Pattern", "parseList", "(I)Z"⟩ : MethodName) (⟨"BeanServer$Pattern", "parseList", "(I)Z"⟩ : MethodName) ∈ jj_gw := jj_memP (List.mem_of_getElem? (i := 3) (by decide +kernel)) (by decide +kernel)
theorem wp_4 : Cond.selects "BeanServer$Pattern" (⟨"BeanServer$Pattern", "parseProperty", "(I)I"⟩ : MethodName) (⟨"BeanServer$Pattern", "parseProperty", "(I)I"⟩ : MethodName) ∈ jj_gw := jj_memP (List.mem_of_getElem? (i := 4) (by decide +kernel)) (by decide +kernel)
theorem wp_5 : Cond.selects "BeanServer$Pattern" (⟨"BeanServer$Pattern", "ordered", "()Ljava/lang/String;"⟩ : MethodName) (⟨"BeanServer$Pattern", "ordered", "()Ljava/lang/String;"⟩ : MethodName) ∈ jj_gw := jj_memP (List.mem_of_getElem? (i := 5) (by decide +kernel)) (by decide +kernel)
theorem wp_6 : Cond.selects "BeanServer$Pattern" (⟨"BeanServer$Pattern", "copy", "(IILjava/lang/StringBuilder;)V"⟩ : MethodName) (⟨"BeanServer$Pattern", "copy", "(IILjava/lang/StringBuilder;)V"⟩ : MethodName) ∈ jj_gw := jj_memP (List.mem_of_getElem? (i := 6) (by decide +kernel)) (by decide +kernel)
theorem wp_7 : Cond.selects "BeanServer" (⟨"BeanServer", "beanNamed", "(Ljava/lang/String;)I"⟩ : MethodName) (⟨"BeanServer", "beanNamed", "(Ljava/lang/String;)I"⟩ : MethodName) ∈ jj_gw := jj_memP (List.mem_of_getElem? (i := 7) (by decide +kernel)) (by decide +kernel)
theorem wp_8 : Cond.selects "BeanServer" (⟨"BeanServer", "freeBean", "()I"⟩ : MethodName) (⟨"BeanServer", "freeBean", "()I"⟩ : MethodName) ∈ jj_gw := jj_memP (List.mem_of_getElem? (i := 8) (by decide +kernel)) (by decide +kernel)
theorem wp_9 : Cond.selects "BeanServer" (⟨"BeanServer", "beanAt", "(I)LBeanServer$Bean;"⟩ : MethodName) (⟨"BeanServer", "beanAt", "(I)LBeanServer$Bean;"⟩ : MethodName) ∈ jj_gw := jj_memP (List.mem_of_getElem? (i := 9) (by decide +kernel)) (by decide +kernel)
theorem wp_10 : Cond.selects "BeanServer$QueryReader" (⟨"BeanServer$QueryReader", "all", "()I"⟩ : MethodName) (⟨"BeanServer$QueryReader", "all", "()I"⟩ : MethodName) ∈ jj_gw := jj_memP (List.mem_of_getElem? (i := 10) (by decide +kernel)) (by decide +kernel)
theorem wp_11 : Cond.selects "BeanServer$QueryReader" (⟨"BeanServer$QueryReader", "one", "()I"⟩ : MethodName) (⟨"BeanServer$QueryReader", "one", "()I"⟩ : MethodName) ∈ jj_gw := jj_memP (List.mem_of_getElem? (i := 11) (by decide +kernel)) (by decide +kernel)
theorem wp_12 : Cond.selects "BeanServer$QueryReader" (⟨"BeanServer$QueryReader", "step", "()V"⟩ : MethodName) (⟨"BeanServer$QueryReader", "step", "()V"⟩ : MethodName) ∈ jj_gw := jj_memP (List.mem_of_getElem? (i := 12) (by decide +kernel)) (by decide +kernel)
theorem wp_13 : Cond.selects "BeanServer$QueryReader" (⟨"BeanServer$QueryReader", "sum", "()I"⟩ : MethodName) (⟨"BeanServer$QueryReader", "sum", "()I"⟩ : MethodName) ∈ jj_gw := jj_memP (List.mem_of_getElem? (i := 13) (by decide +kernel)) (by decide +kernel)
theorem wp_14 : Cond.selects "BeanServer$QueryReader" (⟨"BeanServer$QueryReader", "product", "()I"⟩ : MethodName) (⟨"BeanServer$QueryReader", "product", "()I"⟩ : MethodName) ∈ jj_gw := jj_memP (List.mem_of_getElem? (i := 14) (by decide +kernel)) (by decide +kernel)
theorem wp_15 : Cond.selects "BeanServer$QueryReader" (⟨"BeanServer$QueryReader", "unit", "()I"⟩ : MethodName) (⟨"BeanServer$QueryReader", "unit", "()I"⟩ : MethodName) ∈ jj_gw := jj_memP (List.mem_of_getElem? (i := 15) (by decide +kernel)) (by decide +kernel)
theorem wp_16 : Cond.selects "BeanServer$QueryForm" (⟨"BeanServer$QueryForm", "openParenthesis", "()V"⟩ : MethodName) (⟨"BeanServer$QueryForm", "openParenthesis", "()V"⟩ : MethodName) ∈ jj_gw := jj_memP (List.mem_of_getElem? (i := 16) (by decide +kernel)) (by decide +kernel)
theorem wp_17 : Cond.selects "BeanServer$QueryForm" (⟨"BeanServer$QueryForm", "closeParenthesis", "(C)V"⟩ : MethodName) (⟨"BeanServer$QueryForm", "closeParenthesis", "(C)V"⟩ : MethodName) ∈ jj_gw := jj_memP (List.mem_of_getElem? (i := 17) (by decide +kernel)) (by decide +kernel)
theorem wp_18 : Cond.selects "BeanServer$QueryForm" (⟨"BeanServer$QueryForm", "lastBefore", "(I)C"⟩ : MethodName) (⟨"BeanServer$QueryForm", "lastBefore", "(I)C"⟩ : MethodName) ∈ jj_gw := jj_memP (List.mem_of_getElem? (i := 18) (by decide +kernel)) (by decide +kernel)
theorem wp_19 : Cond.selects "BeanServer$QueryForm" (⟨"BeanServer$QueryForm", "jointFrom", "(I)C"⟩ : MethodName) (⟨"BeanServer$QueryForm", "jointFrom", "(I)C"⟩ : MethodName) ∈ jj_gw := jj_memP (List.mem_of_getElem? (i := 19) (by decide +kernel)) (by decide +kernel)
theorem wp_20 : Cond.selects "BeanServer" (⟨"BeanServer", "queryAt", "(I)LBeanServer$Query;"⟩ : MethodName) (⟨"BeanServer", "queryAt", "(I)LBeanServer$Query;"⟩ : MethodName) ∈ jj_gw := jj_memP (List.mem_of_getElem? (i := 20) (by decide +kernel)) (by decide +kernel)
theorem wp_21 : Cond.selects "BeanServer$Pattern" (⟨"BeanServer$Pattern", "standsFor", "(IILjava/lang/String;II)Z"⟩ : MethodName) (⟨"BeanServer$Pattern", "standsFor", "(IILjava/lang/String;II)Z"⟩ : MethodName) ∈ jj_gw := jj_memP (List.mem_of_getElem? (i := 21) (by decide +kernel)) (by decide +kernel)
theorem wp_22 : Cond.selects "BeanServer" (⟨"BeanServer", "shownForm", "(II)Ljava/lang/String;"⟩ : MethodName) (⟨"BeanServer", "shownForm", "(II)Ljava/lang/String;"⟩ : MethodName) ∈ jj_gw := jj_memP (List.mem_of_getElem? (i := 22) (by decide +kernel)) (by decide +kernel)
theorem wp_23 : Cond.selects "BeanServer" (⟨"BeanServer", "numberForMonitorOf", "(I)I"⟩ : MethodName) (⟨"BeanServer", "numberForMonitorOf", "(I)I"⟩ : MethodName) ∈ jj_gw := jj_memP (List.mem_of_getElem? (i := 23) (by decide +kernel)) (by decide +kernel)
theorem wp_24 : Cond.selects "BeanServer" (⟨"BeanServer", "monitorAt", "(I)LBeanServer$Monitor;"⟩ : MethodName) (⟨"BeanServer", "monitorAt", "(I)LBeanServer$Monitor;"⟩ : MethodName) ∈ jj_gw := jj_memP (List.mem_of_getElem? (i := 24) (by decide +kernel)) (by decide +kernel)
theorem wp_25 : Cond.selects "BeanServer" (⟨"BeanServer", "letLook", "(LBeanServer$Monitor;I)V"⟩ : MethodName) (⟨"BeanServer", "letLook", "(LBeanServer$Monitor;I)V"⟩ : MethodName) ∈ jj_gw := jj_memP (List.mem_of_getElem? (i := 25) (by decide +kernel)) (by decide +kernel)
theorem wp_26 : Cond.selects "BeanServer$Counter" (⟨"BeanServer$Counter", "firstMarkAbove", "(I)J"⟩ : MethodName) (⟨"BeanServer$Counter", "firstMarkAbove", "(I)J"⟩ : MethodName) ∈ jj_gw := jj_memP (List.mem_of_getElem? (i := 26) (by decide +kernel)) (by decide +kernel)
theorem wp_27 : Cond.selects "BeanServerModel" (⟨"BeanServerModel", "put", "(IC)V"⟩ : MethodName) (⟨"BeanServerModel", "put", "(IC)V"⟩ : MethodName) ∈ jj_gw := jj_memP (List.mem_of_getElem? (i := 27) (by decide +kernel)) (by decide +kernel)
theorem wp_28 : Cond.selects "BeanServerModel" (⟨"BeanServerModel", "takeName", "()Z"⟩ : MethodName) (⟨"BeanServerModel", "takeName", "()Z"⟩ : MethodName) ∈ jj_gw := jj_memP (List.mem_of_getElem? (i := 28) (by decide +kernel)) (by decide +kernel)
theorem wp_29 : Cond.selects "BeanServerModel" (⟨"BeanServerModel", "take", "()V"⟩ : MethodName) (⟨"BeanServerModel", "take", "()V"⟩ : MethodName) ∈ jj_gw := jj_memP (List.mem_of_getElem? (i := 29) (by decide +kernel)) (by decide +kernel)
theorem wp_30 : Cond.selects "BeanServerModel" (⟨"BeanServerModel", "copy", "(II)V"⟩ : MethodName) (⟨"BeanServerModel", "copy", "(II)V"⟩ : MethodName) ∈ jj_gw := jj_memP (List.mem_of_getElem? (i := 30) (by decide +kernel)) (by decide +kernel)
theorem wp_31 : Cond.selects "BeanServerModel" (⟨"BeanServerModel", "get1", "(II)C"⟩ : MethodName) (⟨"BeanServerModel", "get1", "(II)C"⟩ : MethodName) ∈ jj_gw := jj_memP (List.mem_of_getElem? (i := 31) (by decide +kernel)) (by decide +kernel)
theorem wp_32 : Cond.selects "BeanServerModel" (⟨"BeanServerModel", "reads", "(IZ)Z"⟩ : MethodName) (⟨"BeanServerModel", "reads", "(IZ)Z"⟩ : MethodName) ∈ jj_gw := jj_memP (List.mem_of_getElem? (i := 32) (by decide +kernel)) (by decide +kernel)
theorem wp_33 : Cond.selects "BeanServerModel" (⟨"BeanServerModel", "colon", "(I)I"⟩ : MethodName) (⟨"BeanServerModel", "colon", "(I)I"⟩ : MethodName) ∈ jj_gw := jj_memP (List.mem_of_getElem? (i := 33) (by decide +kernel)) (by decide +kernel)
theorem wp_34 : Cond.selects "BeanServerModel" (⟨"BeanServerModel", "list", "(IIZ)Z"⟩ : MethodName) (⟨"BeanServerModel", "list", "(IIZ)Z"⟩ : MethodName) ∈ jj_gw := jj_memP (List.mem_of_getElem? (i := 34) (by decide +kernel)) (by decide +kernel)
theorem wp_35 : Cond.selects "BeanServerModel" (⟨"BeanServerModel", "order", "()V"⟩ : MethodName) (⟨"BeanServerModel", "order", "()V"⟩ : MethodName) ∈ jj_gw := jj_memP (List.mem_of_getElem? (i := 35) (by decide +kernel)) (by decide +kernel)
theorem wp_36 : Cond.selects "BeanServerModel" (⟨"BeanServerModel", "copyProperty", "(III)V"⟩ : MethodName) (⟨"BeanServerModel", "copyProperty", "(III)V"⟩ : MethodName) ∈ jj_gw := jj_memP (List.mem_of_getElem? (i := 36) (by decide +kernel)) (by decide +kernel)
theorem wp_37 : Cond.selects "BeanServerModel" (⟨"BeanServerModel", "beanWith", "(I)I"⟩ : MethodName) (⟨"BeanServerModel", "beanWith", "(I)I"⟩ : MethodName) ∈ jj_gw := jj_memP (List.mem_of_getElem? (i := 37) (by decide +kernel)) (by decide +kernel)
theorem wp_38 : Cond.selects "BeanServerModel" (⟨"BeanServerModel", "same", "(II)Z"⟩ : MethodName) (⟨"BeanServerModel", "same", "(II)Z"⟩ : MethodName) ∈ jj_gw := jj_memP (List.mem_of_getElem? (i := 38) (by decide +kernel)) (by decide +kernel)
theorem wp_39 : Cond.selects "BeanServerModel" (⟨"BeanServerModel", "give", "(III)V"⟩ : MethodName) (⟨"BeanServerModel", "give", "(III)V"⟩ : MethodName) ∈ jj_gw := jj_memP (List.mem_of_getElem? (i := 39) (by decide +kernel)) (by decide +kernel)
theorem wp_40 : Cond.selects "BeanServerModel" (⟨"BeanServerModel", "isSlot", "(II)Z"⟩ : MethodName) (⟨"BeanServerModel", "isSlot", "(II)Z"⟩ : MethodName) ∈ jj_gw := jj_memP (List.mem_of_getElem? (i := 40) (by decide +kernel)) (by decide +kernel)
theorem wp_41 : Cond.selects "BeanServerModel" (⟨"BeanServerModel", "isBean", "(I)Z"⟩ : MethodName) (⟨"BeanServerModel", "isBean", "(I)Z"⟩ : MethodName) ∈ jj_gw := jj_memP (List.mem_of_getElem? (i := 41) (by decide +kernel)) (by decide +kernel)
theorem wp_42 : Cond.selects "BeanServerModel" (⟨"BeanServerModel", "isQuery", "()Z"⟩ : MethodName) (⟨"BeanServerModel", "isQuery", "()Z"⟩ : MethodName) ∈ jj_gw := jj_memP (List.mem_of_getElem? (i := 42) (by decide +kernel)) (by decide +kernel)
theorem wp_43 : Cond.selects "BeanServerModel" (⟨"BeanServerModel", "comparisonEnd", "(I)I"⟩ : MethodName) (⟨"BeanServerModel", "comparisonEnd", "(I)I"⟩ : MethodName) ∈ jj_gw := jj_memP (List.mem_of_getElem? (i := 43) (by decide +kernel)) (by decide +kernel)
theorem wp_44 : Cond.selects "BeanServerModel" (⟨"BeanServerModel", "valueEnd", "(I)I"⟩ : MethodName) (⟨"BeanServerModel", "valueEnd", "(I)I"⟩ : MethodName) ∈ jj_gw := jj_memP (List.mem_of_getElem? (i := 44) (by decide +kernel)) (by decide +kernel)
theorem wp_45 : Cond.selects "BeanServerModel" (⟨"BeanServerModel", "unit", "(I)I"⟩ : MethodName) (⟨"BeanServerModel", "unit", "(I)I"⟩ : MethodName) ∈ jj_gw := jj_memP (List.mem_of_getElem? (i := 45) (by decide +kernel)) (by decide +kernel)
theorem wp_46 : Cond.selects "BeanServerModel" (⟨"BeanServerModel", "shorten", "()V"⟩ : MethodName) (⟨"BeanServerModel", "shorten", "()V"⟩ : MethodName) ∈ jj_gw := jj_memP (List.mem_of_getElem? (i := 46) (by decide +kernel)) (by decide +kernel)
theorem wp_47 : Cond.selects "BeanServerModel" (⟨"BeanServerModel", "last", "()C"⟩ : MethodName) (⟨"BeanServerModel", "last", "()C"⟩ : MethodName) ∈ jj_gw := jj_memP (List.mem_of_getElem? (i := 47) (by decide +kernel)) (by decide +kernel)
theorem wp_48 : Cond.selects "BeanServerModel" (⟨"BeanServerModel", "needed", "(I)Z"⟩ : MethodName) (⟨"BeanServerModel", "needed", "(I)Z"⟩ : MethodName) ∈ jj_gw := jj_memP (List.mem_of_getElem? (i := 48) (by decide +kernel)) (by decide +kernel)
theorem wp_49 : Cond.selects "BeanServerModel" (⟨"BeanServerModel", "partner", "(I)I"⟩ : MethodName) (⟨"BeanServerModel", "partner", "(I)I"⟩ : MethodName) ∈ jj_gw := jj_memP (List.mem_of_getElem? (i := 49) (by decide +kernel)) (by decide +kernel)
theorem wp_50 : Cond.selects "BeanServerModel" (⟨"BeanServerModel", "contains", "(IIC)Z"⟩ : MethodName) (⟨"BeanServerModel", "contains", "(IIC)Z"⟩ : MethodName) ∈ jj_gw := jj_memP (List.mem_of_getElem? (i := 50) (by decide +kernel)) (by decide +kernel)
theorem wp_51 : Cond.selects "BeanServerModel" (⟨"BeanServerModel", "amongSeveral", "(II)Z"⟩ : MethodName) (⟨"BeanServerModel", "amongSeveral", "(II)Z"⟩ : MethodName) ∈ jj_gw := jj_memP (List.mem_of_getElem? (i := 51) (by decide +kernel)) (by decide +kernel)
theorem wp_52 : Cond.selects "BeanServerModel" (⟨"BeanServerModel", "isAsked", "(I)Z"⟩ : MethodName) (⟨"BeanServerModel", "isAsked", "(I)Z"⟩ : MethodName) ∈ jj_gw := jj_memP (List.mem_of_getElem? (i := 52) (by decide +kernel)) (by decide +kernel)
theorem wp_53 : Cond.selects "BeanServerModel" (⟨"BeanServerModel", "truth", "(II)I"⟩ : MethodName) (⟨"BeanServerModel", "truth", "(II)I"⟩ : MethodName) ∈ jj_gw := jj_memP (List.mem_of_getElem? (i := 53) (by decide +kernel)) (by decide +kernel)
theorem wp_54 : Cond.selects "BeanServerModel" (⟨"BeanServerModel", "enter", "(IZ)V"⟩ : MethodName) (⟨"BeanServerModel", "enter", "(IZ)V"⟩ : MethodName) ∈ jj_gw := jj_memP (List.mem_of_getElem? (i := 54) (by decide +kernel)) (by decide +kernel)
theorem wp_55 : Cond.selects "BeanServerModel" (⟨"BeanServerModel", "looked", "(I)Z"⟩ : MethodName) (⟨"BeanServerModel", "looked", "(I)Z"⟩ : MethodName) ∈ jj_gw := jj_memP (List.mem_of_getElem? (i := 55) (by decide +kernel)) (by decide +kernel)
theorem wp_56 : Cond.selects "BeanServerModel" (⟨"BeanServerModel", "settle", "(IZ)V"⟩ : MethodName) (⟨"BeanServerModel", "settle", "(IZ)V"⟩ : MethodName) ∈ jj_gw := jj_memP (List.mem_of_getElem? (i := 56) (by decide +kernel)) (by decide +kernel)
theorem wp_57 : Cond.selects "BeanServerModel" (⟨"BeanServerModel", "comparison", "(II)Z"⟩ : MethodName) (⟨"BeanServerModel", "comparison", "(II)Z"⟩ : MethodName) ∈ jj_gw := jj_memP (List.mem_of_getElem? (i := 57) (by decide +kernel)) (by decide +kernel)
theorem wp_58 : Cond.selects "BeanServerModel" (⟨"BeanServerModel", "value", "(II)I"⟩ : MethodName) (⟨"BeanServerModel", "value", "(II)I"⟩ : MethodName) ∈ jj_gw := jj_memP (List.mem_of_getElem? (i := 58) (by decide +kernel)) (by decide +kernel)
theorem wp_59 : Cond.selects "BeanServerModel" (⟨"BeanServerModel", "unitValue", "(II)I"⟩ : MethodName) (⟨"BeanServerModel", "unitValue", "(II)I"⟩ : MethodName) ∈ jj_gw := jj_memP (List.mem_of_getElem? (i := 59) (by decide +kernel)) (by decide +kernel)
theorem wp_60 : Cond.selects "BeanServerModel" (⟨"BeanServerModel", "fits", "(I)Z"⟩ : MethodName) (⟨"BeanServerModel", "fits", "(I)Z"⟩ : MethodName) ∈ jj_gw := jj_memP (List.mem_of_getElem? (i := 60) (by decide +kernel)) (by decide +kernel)
theorem wp_61 : Cond.selects "BeanServerModel" (⟨"BeanServerModel", "matches", "(IIII)Z"⟩ : MethodName) (⟨"BeanServerModel", "matches", "(IIII)Z"⟩ : MethodName) ∈ jj_gw := jj_memP (List.mem_of_getElem? (i := 61) (by decide +kernel)) (by decide +kernel)
theorem wp_62 : Cond.selects "BeanServerModel" (⟨"BeanServerModel", "spread", "(IIII)I"⟩ : MethodName) (⟨"BeanServerModel", "spread", "(IIII)I"⟩ : MethodName) ∈ jj_gw := jj_memP (List.mem_of_getElem? (i := 62) (by decide +kernel)) (by decide +kernel)
theorem wp_63 : Cond.selects "BeanServerModel" (⟨"BeanServerModel", "property", "(II)I"⟩ : MethodName) (⟨"BeanServerModel", "property", "(II)I"⟩ : MethodName) ∈ jj_gw := jj_memP (List.mem_of_getElem? (i := 63) (by decide +kernel)) (by decide +kernel)
theorem wp_64 : Cond.selects "BeanServerModel" (⟨"BeanServerModel", "watch", "(IIIII)I"⟩ : MethodName) (⟨"BeanServerModel", "watch", "(IIIII)I"⟩ : MethodName) ∈ jj_gw := jj_memP (List.mem_of_getElem? (i := 64) (by decide +kernel)) (by decide +kernel)
theorem wp_65 : Cond.selects "BeanServerModel" (⟨"BeanServerModel", "isMonitor", "(I)Z"⟩ : MethodName) (⟨"BeanServerModel", "isMonitor", "(I)Z"⟩ : MethodName) ∈ jj_gw := jj_memP (List.mem_of_getElem? (i := 65) (by decide +kernel)) (by decide +kernel)
theorem wp_66 : Cond.selects "BeanServerModel" (⟨"BeanServerModel", "observe1", "(I)V"⟩ : MethodName) (⟨"BeanServerModel", "observe1", "(I)V"⟩ : MethodName) ∈ jj_gw := jj_memP (List.mem_of_getElem? (i := 66) (by decide +kernel)) (by decide +kernel)
theorem wp_67 : Cond.selects "BeanServerModel" (⟨"BeanServerModel", "count", "(II)V"⟩ : MethodName) (⟨"BeanServerModel", "count", "(II)V"⟩ : MethodName) ∈ jj_gw := jj_memP (List.mem_of_getElem? (i := 67) (by decide +kernel)) (by decide +kernel)
theorem wp_68 : Cond.selects "BeanServerModel" (⟨"BeanServerModel", "gaugeOf", "(II)V"⟩ : MethodName) (⟨"BeanServerModel", "gaugeOf", "(II)V"⟩ : MethodName) ∈ jj_gw := jj_memP (List.mem_of_getElem? (i := 68) (by decide +kernel)) (by decide +kernel)
theorem wx_0 : Cond.selects "java/lang/StringBuilder" (⟨"java/lang/AbstractStringBuilder", "ensureCapacityInternal", "(I)V"⟩ : MethodName) (⟨"java/lang/AbstractStringBuilder", "ensureCapacityInternal", "(I)V"⟩ : MethodName) ∈ jj_gw := jj_memX (List.mem_of_getElem? (i := 0) (by decide +kernel)) (by decide +kernel)
theorem wx_1 : Cond.selects "java/lang/StringBuilder" (⟨"java/lang/AbstractStringBuilder", "newCapacity", "(I)I"⟩ : MethodName) (⟨"java/lang/AbstractStringBuilder", "newCapacity", "(I)I"⟩ : MethodName) ∈ jj_gw := jj_memX (List.mem_of_getElem? (i := 1) (by decide +kernel)) (by decide +kernel)
theorem wx_2 : Cond.selects "java/lang/StringBuilder" (⟨"java/lang/AbstractStringBuilder", "inflate", "()V"⟩ : MethodName) (⟨"java/lang/AbstractStringBuilder", "inflate", "()V"⟩ : MethodName) ∈ jj_gw := jj_memX (List.mem_of_getElem? (i := 2) (by decide +kernel)) (by decide +kernel)
theorem wx_3 : Cond.selects "java/lang/StringBuilder" (⟨"java/lang/AbstractStringBuilder", "shift", "(II)V"⟩ : MethodName) (⟨"java/lang/AbstractStringBuilder", "shift", "(II)V"⟩ : MethodName) ∈ jj_gw := jj_memX (List.mem_of_getElem? (i := 3) (by decide +kernel)) (by decide +kernel)
