/-! WORDS: method names, their facts, field links, method links, constants. By program (wip/whole/gen/words.py). -/
abbrev bc_JInt_bitCount : ByteArray := prog_16_method_49_code
def y_JInt_bitCount : MethodName := ⟨"java/lang/Integer", "bitCount", "(I)I"⟩
abbrev bc_Dy_look : ByteArray := prog_2_method_8_code
def y_Dy_look : MethodName := ⟨"SecretWells$Days", "look", "(LSecretWells$State;I)V"⟩
abbrev bc_Lw_joined : ByteArray := prog_3_method_12_code
def y_Lw_joined : MethodName := ⟨"SecretWells$Law", "joined", "(III)I"⟩
abbrev bc_Lw_value : ByteArray := prog_3_method_11_code
def y_Lw_value : MethodName := ⟨"SecretWells$Law", "value", "([II)I"⟩
abbrev bc_Dy_fillsNow : ByteArray := prog_2_method_5_code
def y_Dy_fillsNow : MethodName := ⟨"SecretWells$Days", "fillsNow", "(LSecretWells$Text;LSecretWells$State;I)I"⟩
abbrev bc_St_isAlive : ByteArray := prog_10_method_7_code
def y_St_isAlive : MethodName := ⟨"SecretWells$State", "isAlive", "(I)Z"⟩
abbrev bc_Lw_isTold : ByteArray := prog_3_method_4_code
def y_Lw_isTold : MethodName := ⟨"SecretWells$Law", "isTold", "()Z"⟩
abbrev bc_Dy_drinksNow : ByteArray := prog_2_method_6_code
def y_Dy_drinksNow : MethodName := ⟨"SecretWells$Days", "drinksNow", "(LSecretWells$Text;LSecretWells$State;I)I"⟩
abbrev bc_St_knowers : ByteArray := prog_10_method_10_code
def y_St_knowers : MethodName := ⟨"SecretWells$State", "knowers", "(LSecretWells$Text;I)I"⟩
abbrev bc_Tx_isLie : ByteArray := prog_12_method_4_code
def y_Tx_isLie : MethodName := ⟨"SecretWells$Text", "isLie", "(I)Z"⟩
abbrev bc_St_share : ByteArray := prog_10_method_5_code
def y_St_share : MethodName := ⟨"SecretWells$State", "share", "(III)I"⟩
abbrev bc_St_measure : ByteArray := prog_10_method_4_code
def y_St_measure : MethodName := ⟨"SecretWells$State", "measure", "(LSecretWells$Text;)V"⟩
abbrev bc_Dy_drink : ByteArray := prog_2_method_3_code
def y_Dy_drink : MethodName := ⟨"SecretWells$Days", "drink", "(LSecretWells$Text;LSecretWells$State;I)V"⟩
abbrev bc_St_isCut : ByteArray := prog_10_method_8_code
def y_St_isCut : MethodName := ⟨"SecretWells$State", "isCut", "(I)Z"⟩
abbrev bc_Dy_tellsNow : ByteArray := prog_2_method_7_code
def y_Dy_tellsNow : MethodName := ⟨"SecretWells$Days", "tellsNow", "(LSecretWells$Text;LSecretWells$State;II)I"⟩
abbrev bc_Dy_stirred : ByteArray := prog_2_method_10_code
def y_Dy_stirred : MethodName := ⟨"SecretWells$Days", "stirred", "(II)I"⟩
abbrev bc_Dy_lot : ByteArray := prog_2_method_9_code
def y_Dy_lot : MethodName := ⟨"SecretWells$Days", "lot", "(III)I"⟩
abbrev bc_Dy_talk : ByteArray := prog_2_method_4_code
def y_Dy_talk : MethodName := ⟨"SecretWells$Days", "talk", "(LSecretWells$Text;LSecretWells$State;II)V"⟩
abbrev bc_St_settle : ByteArray := prog_10_method_6_code
def y_St_settle : MethodName := ⟨"SecretWells$State", "settle", "(LSecretWells$Text;)V"⟩
abbrev bc_Dy_pass : ByteArray := prog_2_method_2_code
def y_Dy_pass : MethodName := ⟨"SecretWells$Days", "pass", "(LSecretWells$Text;LSecretWells$State;I)V"⟩
abbrev bc_Lw_begin : ByteArray := prog_3_method_2_code
def y_Lw_begin : MethodName := ⟨"SecretWells$Law", "begin", "()V"⟩
abbrev bc_Lw_put : ByteArray := prog_3_method_7_code
def y_Lw_put : MethodName := ⟨"SecretWells$Law", "put", "(II)V"⟩
abbrev bc_Lw_be : ByteArray := prog_3_method_3_code
def y_Lw_be : MethodName := ⟨"SecretWells$Law", "be", "(I)V"⟩
abbrev bc_Lw_await : ByteArray := prog_3_method_8_code
def y_Lw_await : MethodName := ⟨"SecretWells$Law", "await", "(I)V"⟩
abbrev bc_Lw_rank : ByteArray := prog_3_method_10_code
def y_Lw_rank : MethodName := ⟨"SecretWells$Law", "rank", "(I)I"⟩
abbrev bc_Lw_putWaiting : ByteArray := prog_3_method_9_code
def y_Lw_putWaiting : MethodName := ⟨"SecretWells$Law", "putWaiting", "(I)V"⟩
abbrev bc_Lw_finish : ByteArray := prog_3_method_6_code
def y_Lw_finish : MethodName := ⟨"SecretWells$Law", "finish", "()V"⟩
abbrev bc_Lw_add : ByteArray := prog_3_method_5_code
def y_Lw_add : MethodName := ⟨"SecretWells$Law", "add", "(II)V"⟩
abbrev bc_JArr_fill : ByteArray := prog_22_method_103_code
def y_JArr_fill : MethodName := ⟨"java/util/Arrays", "fill", "([II)V"⟩
abbrev bc_Tx_clear : ByteArray := prog_12_method_2_code
def y_Tx_clear : MethodName := ⟨"SecretWells$Text", "clear", "()V"⟩
abbrev bc_Tp_kindAt : ByteArray := prog_11_method_3_code
def y_Tp_kindAt : MethodName := ⟨"SecretWells$Tape", "kindAt", "(I)I"⟩
abbrev bc_Tp_valueAt : ByteArray := prog_11_method_5_code
def y_Tp_valueAt : MethodName := ⟨"SecretWells$Tape", "valueAt", "(I)J"⟩
abbrev bc_Mn_find : ByteArray := prog_4_method_14_code
def y_Mn_find : MethodName := ⟨"SecretWells$Meaning", "find", "([JIJ)I"⟩
abbrev bc_Mn_isTold : ByteArray := prog_4_method_12_code
def y_Mn_isTold : MethodName := ⟨"SecretWells$Meaning", "isTold", "(LSecretWells$Text;J)Z"⟩
abbrev bc_Tp_placeAt : ByteArray := prog_11_method_4_code
def y_Tp_placeAt : MethodName := ⟨"SecretWells$Tape", "placeAt", "(I)I"⟩
abbrev bc_Mn_failed : ByteArray := prog_4_method_15_code
def y_Mn_failed : MethodName := ⟨"SecretWells$Meaning", "failed", "(II)V"⟩
abbrev bc_Mn_newName : ByteArray := prog_4_method_11_code
def y_Mn_newName : MethodName := ⟨"SecretWells$Meaning", "newName", "(LSecretWells$Text;)J"⟩
abbrev bc_Mn_number : ByteArray := prog_4_method_10_code
def y_Mn_number : MethodName := ⟨"SecretWells$Meaning", "number", "(II)I"⟩
abbrev bc_Mn_putWell : ByteArray := prog_4_method_4_code
def y_Mn_putWell : MethodName := ⟨"SecretWells$Meaning", "putWell", "(LSecretWells$Text;)V"⟩
abbrev bc_Mn_oldName : ByteArray := prog_4_method_13_code
def y_Mn_oldName : MethodName := ⟨"SecretWells$Meaning", "oldName", "([JI)I"⟩
abbrev bc_Mn_putMan : ByteArray := prog_4_method_5_code
def y_Mn_putMan : MethodName := ⟨"SecretWells$Meaning", "putMan", "(LSecretWells$Text;)V"⟩
abbrev bc_Mn_putKnower : ByteArray := prog_4_method_7_code
def y_Mn_putKnower : MethodName := ⟨"SecretWells$Meaning", "putKnower", "(LSecretWells$Text;I)V"⟩
abbrev bc_Mn_putSecret : ByteArray := prog_4_method_6_code
def y_Mn_putSecret : MethodName := ⟨"SecretWells$Meaning", "putSecret", "(LSecretWells$Text;)V"⟩
abbrev bc_Mn_putTie : ByteArray := prog_4_method_8_code
def y_Mn_putTie : MethodName := ⟨"SecretWells$Meaning", "putTie", "(LSecretWells$Text;)V"⟩
abbrev bc_Mn_putLaw : ByteArray := prog_4_method_9_code
def y_Mn_putLaw : MethodName := ⟨"SecretWells$Meaning", "putLaw", "(LSecretWells$Law;)V"⟩
abbrev bc_Mn_putTell : ByteArray := prog_4_method_3_code
def y_Mn_putTell : MethodName := ⟨"SecretWells$Meaning", "putTell", "(LSecretWells$Text;)V"⟩
abbrev bc_Tx_measure : ByteArray := prog_12_method_3_code
def y_Tx_measure : MethodName := ⟨"SecretWells$Text", "measure", "()V"⟩
abbrev bc_Mn_seek : ByteArray := prog_4_method_2_code
def y_Mn_seek : MethodName := ⟨"SecretWells$Meaning", "seek", "(LSecretWells$Text;)I"⟩
abbrev bc_Nt_add : ByteArray := prog_5_method_2_code
def y_Nt_add : MethodName := ⟨"SecretWells$Notes", "add", "(III)I"⟩
abbrev bc_Nt_fits : ByteArray := prog_5_method_3_code
def y_Nt_fits : MethodName := ⟨"SecretWells$Notes", "fits", "(LSecretWells$Text;II)Z"⟩
abbrev bc_Nt_trueOnes : ByteArray := prog_5_method_4_code
def y_Nt_trueOnes : MethodName := ⟨"SecretWells$Notes", "trueOnes", "(LSecretWells$Text;II)I"⟩
abbrev bc_Nt_alwaysSo : ByteArray := prog_5_method_5_code
def y_Nt_alwaysSo : MethodName := ⟨"SecretWells$Notes", "alwaysSo", "(LSecretWells$Text;IZ)I"⟩
abbrev bc_Nt_countDeeper : ByteArray := prog_5_method_7_code
def y_Nt_countDeeper : MethodName := ⟨"SecretWells$Notes", "countDeeper", "(LSecretWells$Text;I)I"⟩
abbrev bc_Nt_tellsMost : ByteArray := prog_5_method_6_code
def y_Nt_tellsMost : MethodName := ⟨"SecretWells$Notes", "tellsMost", "(LSecretWells$Text;II)I"⟩
abbrev bc_Pe_openTies : ByteArray := prog_6_method_2_code
def y_Pe_openTies : MethodName := ⟨"SecretWells$People", "openTies", "(LSecretWells$Text;LSecretWells$State;)I"⟩
abbrev bc_Pe_spread : ByteArray := prog_6_method_3_code
def y_Pe_spread : MethodName := ⟨"SecretWells$People", "spread", "(LSecretWells$Text;II)I"⟩
abbrev bc_Pe_fewestCuts : ByteArray := prog_6_method_4_code
def y_Pe_fewestCuts : MethodName := ⟨"SecretWells$People", "fewestCuts", "(LSecretWells$Text;LSecretWells$State;II)I"⟩
abbrev bc_Pe_sharedByTwo : ByteArray := prog_6_method_5_code
def y_Pe_sharedByTwo : MethodName := ⟨"SecretWells$People", "sharedByTwo", "(LSecretWells$Text;LSecretWells$State;II)I"⟩
abbrev bc_St_isKnownTo : ByteArray := prog_10_method_9_code
def y_St_isKnownTo : MethodName := ⟨"SecretWells$State", "isKnownTo", "(II)Z"⟩
abbrev bc_Pe_heaviest : ByteArray := prog_6_method_8_code
def y_Pe_heaviest : MethodName := ⟨"SecretWells$People", "heaviest", "(LSecretWells$Text;LSecretWells$State;I)I"⟩
abbrev bc_Pe_gatherPlayers : ByteArray := prog_6_method_7_code
def y_Pe_gatherPlayers : MethodName := ⟨"SecretWells$People", "gatherPlayers", "(LSecretWells$Text;LSecretWells$State;)V"⟩
abbrev bc_Pe_deepBy : ByteArray := prog_6_method_11_code
def y_Pe_deepBy : MethodName := ⟨"SecretWells$People", "deepBy", "(LSecretWells$Text;LSecretWells$State;II)I"⟩
abbrev bc_Pe_gain : ByteArray := prog_6_method_10_code
def y_Pe_gain : MethodName := ⟨"SecretWells$People", "gain", "(LSecretWells$Text;LSecretWells$State;III)I"⟩
abbrev bc_Pe_isRest : ByteArray := prog_6_method_9_code
def y_Pe_isRest : MethodName := ⟨"SecretWells$People", "isRest", "(LSecretWells$Text;LSecretWells$State;II)Z"⟩
abbrev bc_Pe_rests : ByteArray := prog_6_method_6_code
def y_Pe_rests : MethodName := ⟨"SecretWells$People", "rests", "(LSecretWells$Text;LSecretWells$State;II)I"⟩
abbrev bc_Rn_choose : ByteArray := prog_7_method_3_code
def y_Rn_choose : MethodName := ⟨"SecretWells$Rain", "choose", "(LSecretWells$Text;I)V"⟩
abbrev bc_Rn_isOfUse : ByteArray := prog_7_method_5_code
def y_Rn_isOfUse : MethodName := ⟨"SecretWells$Rain", "isOfUse", "(LSecretWells$Text;LSecretWells$State;II)Z"⟩
abbrev bc_Rn_isLaid : ByteArray := prog_7_method_4_code
def y_Rn_isLaid : MethodName := ⟨"SecretWells$Rain", "isLaid", "(LSecretWells$Text;LSecretWells$State;I)Z"⟩
abbrev bc_Rn_whispers : ByteArray := prog_7_method_7_code
def y_Rn_whispers : MethodName := ⟨"SecretWells$Rain", "whispers", "()I"⟩
abbrev bc_Rn_mayBeBetter : ByteArray := prog_7_method_6_code
def y_Rn_mayBeBetter : MethodName := ⟨"SecretWells$Rain", "mayBeBetter", "()Z"⟩
abbrev bc_St_copyOf : ByteArray := prog_10_method_3_code
def y_St_copyOf : MethodName := ⟨"SecretWells$State", "copyOf", "(LSecretWells$State;)V"⟩
abbrev bc_St_allThirst : ByteArray := prog_10_method_13_code
def y_St_allThirst : MethodName := ⟨"SecretWells$State", "allThirst", "(LSecretWells$Text;)I"⟩
abbrev bc_Rn_isBetter : ByteArray := prog_7_method_9_code
def y_Rn_isBetter : MethodName := ⟨"SecretWells$Rain", "isBetter", "(III)Z"⟩
abbrev bc_Rn_attempt : ByteArray := prog_7_method_8_code
def y_Rn_attempt : MethodName := ⟨"SecretWells$Rain", "attempt", "(LSecretWells$Text;LSecretWells$State;LSecretWells$State;LSecretWells$Days;I)V"⟩
abbrev bc_Rn_seek : ByteArray := prog_7_method_2_code
def y_Rn_seek : MethodName := ⟨"SecretWells$Rain", "seek", "(LSecretWells$Text;LSecretWells$State;LSecretWells$State;LSecretWells$Days;II)V"⟩
abbrev bc_Rw_save : ByteArray := prog_8_method_2_code
def y_Rw_save : MethodName := ⟨"SecretWells$Rows", "save", "(ILSecretWells$State;)V"⟩
abbrev bc_Rw_load : ByteArray := prog_8_method_3_code
def y_Rw_load : MethodName := ⟨"SecretWells$Rows", "load", "(ILSecretWells$State;)V"⟩
abbrev bc_Sh_failed : ByteArray := prog_9_method_3_code
def y_Sh_failed : MethodName := ⟨"SecretWells$Shape", "failed", "(I)Z"⟩
abbrev bc_Sh_mostOf : ByteArray := prog_9_method_8_code
def y_Sh_mostOf : MethodName := ⟨"SecretWells$Shape", "mostOf", "(I)I"⟩
abbrev bc_Sh_hasRoom : ByteArray := prog_9_method_7_code
def y_Sh_hasRoom : MethodName := ⟨"SecretWells$Shape", "hasRoom", "(I)Z"⟩
abbrev bc_Sh_isTaken : ByteArray := prog_9_method_4_code
def y_Sh_isTaken : MethodName := ⟨"SecretWells$Shape", "isTaken", "(I)Z"⟩
abbrev bc_JStr_coder : ByteArray := prog_18_method_152_code
def y_JStr_coder : MethodName := ⟨"java/lang/String", "coder", "()B"⟩
abbrev bc_JStr_length : ByteArray := prog_18_method_54_code
def y_JStr_length : MethodName := ⟨"java/lang/String", "length", "()I"⟩
abbrev bc_JStr_isLatin1 : ByteArray := prog_18_method_154_code
def y_JStr_isLatin1 : MethodName := ⟨"java/lang/String", "isLatin1", "()Z"⟩
abbrev bc_JPre_checkIndex : ByteArray := prog_23_method_11_code
def y_JPre_checkIndex : MethodName := ⟨"jdk/internal/util/Preconditions", "checkIndex", "(IILjava/util/function/BiFunction;)I"⟩
abbrev bc_JStr_checkIndex : ByteArray := prog_18_method_155_code
def y_JStr_checkIndex : MethodName := ⟨"java/lang/String", "checkIndex", "(II)V"⟩
abbrev bc_JLat_charAt : ByteArray := prog_19_method_2_code
def y_JLat_charAt : MethodName := ⟨"java/lang/StringLatin1", "charAt", "([BI)C"⟩
abbrev bc_JStr_charAt : ByteArray := prog_18_method_56_code
def y_JStr_charAt : MethodName := ⟨"java/lang/String", "charAt", "(I)C"⟩
abbrev bc_Sh_areTaken : ByteArray := prog_9_method_5_code
def y_Sh_areTaken : MethodName := ⟨"SecretWells$Shape", "areTaken", "(Ljava/lang/String;)Z"⟩
abbrev bc_Sh_isRestOfSecret : ByteArray := prog_9_method_9_code
def y_Sh_isRestOfSecret : MethodName := ⟨"SecretWells$Shape", "isRestOfSecret", "()Z"⟩
abbrev bc_Sh_isValue : ByteArray := prog_9_method_13_code
def y_Sh_isValue : MethodName := ⟨"SecretWells$Shape", "isValue", "(I)Z"⟩
abbrev bc_Sh_isSign : ByteArray := prog_9_method_14_code
def y_Sh_isSign : MethodName := ⟨"SecretWells$Shape", "isSign", "(I)Z"⟩
abbrev bc_Sh_isSum : ByteArray := prog_9_method_12_code
def y_Sh_isSum : MethodName := ⟨"SecretWells$Shape", "isSum", "()Z"⟩
abbrev bc_Sh_isCase : ByteArray := prog_9_method_11_code
def y_Sh_isCase : MethodName := ⟨"SecretWells$Shape", "isCase", "()Z"⟩
abbrev bc_Sh_isLaw : ByteArray := prog_9_method_10_code
def y_Sh_isLaw : MethodName := ⟨"SecretWells$Shape", "isLaw", "()Z"⟩
abbrev bc_Sh_isTell : ByteArray := prog_9_method_6_code
def y_Sh_isTell : MethodName := ⟨"SecretWells$Shape", "isTell", "()Z"⟩
abbrev bc_Sh_seek : ByteArray := prog_9_method_2_code
def y_Sh_seek : MethodName := ⟨"SecretWells$Shape", "seek", "()I"⟩
abbrev bc_St_begin : ByteArray := prog_10_method_2_code
def y_St_begin : MethodName := ⟨"SecretWells$State", "begin", "(LSecretWells$Text;)V"⟩
abbrev bc_St_whisperedInto : ByteArray := prog_10_method_11_code
def y_St_whisperedInto : MethodName := ⟨"SecretWells$State", "whisperedInto", "(LSecretWells$Text;I)I"⟩
abbrev bc_St_allWater : ByteArray := prog_10_method_12_code
def y_St_allWater : MethodName := ⟨"SecretWells$State", "allWater", "(LSecretWells$Text;)I"⟩
abbrev bc_Tp_append : ByteArray := prog_11_method_2_code
def y_Tp_append : MethodName := ⟨"SecretWells$Tape", "append", "(I)V"⟩
abbrev bc_Tp_isBlank : ByteArray := prog_11_method_13_code
def y_Tp_isBlank : MethodName := ⟨"SecretWells$Tape", "isBlank", "(I)Z"⟩
abbrev bc_Tp_behindBlanks : ByteArray := prog_11_method_7_code
def y_Tp_behindBlanks : MethodName := ⟨"SecretWells$Tape", "behindBlanks", "(I)I"⟩
abbrev bc_Tp_isLetter : ByteArray := prog_11_method_14_code
def y_Tp_isLetter : MethodName := ⟨"SecretWells$Tape", "isLetter", "(I)Z"⟩
abbrev bc_Tp_withLetter : ByteArray := prog_11_method_12_code
def y_Tp_withLetter : MethodName := ⟨"SecretWells$Tape", "withLetter", "(JI)J"⟩
abbrev bc_Tp_kindOf : ByteArray := prog_11_method_11_code
def y_Tp_kindOf : MethodName := ⟨"SecretWells$Tape", "kindOf", "(J)I"⟩
abbrev bc_Tp_scanLetters : ByteArray := prog_11_method_9_code
def y_Tp_scanLetters : MethodName := ⟨"SecretWells$Tape", "scanLetters", "(II)I"⟩
abbrev bc_Tp_isDigit : ByteArray := prog_11_method_15_code
def y_Tp_isDigit : MethodName := ⟨"SecretWells$Tape", "isDigit", "(I)Z"⟩
abbrev bc_Tp_scanDigits : ByteArray := prog_11_method_10_code
def y_Tp_scanDigits : MethodName := ⟨"SecretWells$Tape", "scanDigits", "(II)I"⟩
abbrev bc_JLat_canEncode : ByteArray := prog_19_method_4_code
def y_JLat_canEncode : MethodName := ⟨"java/lang/StringLatin1", "canEncode", "(I)Z"⟩
abbrev bc_JLat_indexOfChar : ByteArray := prog_19_method_23_code
def y_JLat_indexOfChar : MethodName := ⟨"java/lang/StringLatin1", "indexOfChar", "([BIII)I"⟩
abbrev bc_JLat_indexOf : ByteArray := prog_19_method_22_code
def y_JLat_indexOf : MethodName := ⟨"java/lang/StringLatin1", "indexOf", "([BIII)I"⟩
abbrev bc_JStr_indexOf2 : ByteArray := prog_18_method_80_code
def y_JStr_indexOf2 : MethodName := ⟨"java/lang/String", "indexOf", "(II)I"⟩
abbrev bc_JStr_indexOf : ByteArray := prog_18_method_79_code
def y_JStr_indexOf : MethodName := ⟨"java/lang/String", "indexOf", "(I)I"⟩
abbrev bc_Tp_scanOne : ByteArray := prog_11_method_8_code
def y_Tp_scanOne : MethodName := ⟨"SecretWells$Tape", "scanOne", "(II)I"⟩
abbrev bc_Tp_scan : ByteArray := prog_11_method_6_code
def y_Tp_scan : MethodName := ⟨"SecretWells$Tape", "scan", "()V"⟩
abbrev bc_Co_feed : ByteArray := prog_1_method_2_code
def y_Co_feed : MethodName := ⟨"SecretWells", "feed", "(IIIII)I"⟩
abbrev bc_Co_back : ByteArray := prog_1_method_3_code
def y_Co_back : MethodName := ⟨"SecretWells", "back", "(I)I"⟩
abbrev bc_Co_forgetDone : ByteArray := prog_1_method_23_code
def y_Co_forgetDone : MethodName := ⟨"SecretWells", "forgetDone", "()V"⟩
abbrev bc_Co_changed : ByteArray := prog_1_method_24_code
def y_Co_changed : MethodName := ⟨"SecretWells", "changed", "()V"⟩
abbrev bc_Co_beginAnew : ByteArray := prog_1_method_5_code
def y_Co_beginAnew : MethodName := ⟨"SecretWells", "beginAnew", "()V"⟩
abbrev bc_Co_read : ByteArray := prog_1_method_4_code
def y_Co_read : MethodName := ⟨"SecretWells", "read", "()I"⟩
abbrev bc_Co_place : ByteArray := prog_1_method_6_code
def y_Co_place : MethodName := ⟨"SecretWells", "place", "()I"⟩
abbrev bc_Co_isWell : ByteArray := prog_1_method_47_code
def y_Co_isWell : MethodName := ⟨"SecretWells", "isWell", "(I)Z"⟩
abbrev bc_Co_well : ByteArray := prog_1_method_7_code
def y_Co_well : MethodName := ⟨"SecretWells", "well", "(II)I"⟩
abbrev bc_Co_isMan : ByteArray := prog_1_method_48_code
def y_Co_isMan : MethodName := ⟨"SecretWells", "isMan", "(I)Z"⟩
abbrev bc_Co_man : ByteArray := prog_1_method_8_code
def y_Co_man : MethodName := ⟨"SecretWells", "man", "(II)I"⟩
abbrev bc_Co_isSecret : ByteArray := prog_1_method_49_code
def y_Co_isSecret : MethodName := ⟨"SecretWells", "isSecret", "(I)Z"⟩
abbrev bc_Co_secret : ByteArray := prog_1_method_9_code
def y_Co_secret : MethodName := ⟨"SecretWells", "secret", "(II)I"⟩
abbrev bc_Co_isTie : ByteArray := prog_1_method_50_code
def y_Co_isTie : MethodName := ⟨"SecretWells", "isTie", "(I)Z"⟩
abbrev bc_Co_tells : ByteArray := prog_1_method_10_code
def y_Co_tells : MethodName := ⟨"SecretWells", "tells", "(II)I"⟩
abbrev bc_Co_count : ByteArray := prog_1_method_11_code
def y_Co_count : MethodName := ⟨"SecretWells", "count", "(I)I"⟩
abbrev bc_Co_keepForUndo : ByteArray := prog_1_method_22_code
def y_Co_keepForUndo : MethodName := ⟨"SecretWells", "keepForUndo", "()V"⟩
abbrev bc_Co_days : ByteArray := prog_1_method_12_code
def y_Co_days : MethodName := ⟨"SecretWells", "days", "(I)I"⟩
abbrev bc_Co_whisperInto : ByteArray := prog_1_method_15_code
def y_Co_whisperInto : MethodName := ⟨"SecretWells", "whisperInto", "(IIII)I"⟩
abbrev bc_Co_whisper : ByteArray := prog_1_method_13_code
def y_Co_whisper : MethodName := ⟨"SecretWells", "whisper", "(III)I"⟩
abbrev bc_Co_drill : ByteArray := prog_1_method_14_code
def y_Co_drill : MethodName := ⟨"SecretWells", "drill", "(III)I"⟩
abbrev bc_Co_tell : ByteArray := prog_1_method_16_code
def y_Co_tell : MethodName := ⟨"SecretWells", "tell", "(III)Z"⟩
abbrev bc_Co_go : ByteArray := prog_1_method_17_code
def y_Co_go : MethodName := ⟨"SecretWells", "go", "(II)Z"⟩
abbrev bc_Co_cut : ByteArray := prog_1_method_18_code
def y_Co_cut : MethodName := ⟨"SecretWells", "cut", "(IZ)Z"⟩
abbrev bc_Co_undo : ByteArray := prog_1_method_19_code
def y_Co_undo : MethodName := ⟨"SecretWells", "undo", "()Z"⟩
abbrev bc_Co_hold : ByteArray := prog_1_method_20_code
def y_Co_hold : MethodName := ⟨"SecretWells", "hold", "(I)Z"⟩
abbrev bc_Co_restore : ByteArray := prog_1_method_21_code
def y_Co_restore : MethodName := ⟨"SecretWells", "restore", "(I)Z"⟩
abbrev bc_Co_lookAhead : ByteArray := prog_1_method_27_code
def y_Co_lookAhead : MethodName := ⟨"SecretWells", "lookAhead", "(II)V"⟩
abbrev bc_Co_wellIn : ByteArray := prog_1_method_25_code
def y_Co_wellIn : MethodName := ⟨"SecretWells", "wellIn", "(III)I"⟩
abbrev bc_Co_manIn : ByteArray := prog_1_method_26_code
def y_Co_manIn : MethodName := ⟨"SecretWells", "manIn", "(III)I"⟩
abbrev bc_Co_dryBy : ByteArray := prog_1_method_28_code
def y_Co_dryBy : MethodName := ⟨"SecretWells", "dryBy", "(I)I"⟩
abbrev bc_JInt_numberOfTrailingZeros : ByteArray := prog_16_method_48_code
def y_JInt_numberOfTrailingZeros : MethodName := ⟨"java/lang/Integer", "numberOfTrailingZeros", "(I)I"⟩
abbrev bc_Co_first : ByteArray := prog_1_method_29_code
def y_Co_first : MethodName := ⟨"SecretWells", "first", "(I)I"⟩
abbrev bc_Co_isSet : ByteArray := prog_1_method_51_code
def y_Co_isSet : MethodName := ⟨"SecretWells", "isSet", "(I)Z"⟩
abbrev bc_Co_isRain : ByteArray := prog_1_method_32_code
def y_Co_isRain : MethodName := ⟨"SecretWells", "isRain", "(II)Z"⟩
abbrev bc_Co_rain : ByteArray := prog_1_method_30_code
def y_Co_rain : MethodName := ⟨"SecretWells", "rain", "(III)I"⟩
abbrev bc_Co_rainAt : ByteArray := prog_1_method_31_code
def y_Co_rainAt : MethodName := ⟨"SecretWells", "rainAt", "(III)I"⟩
abbrev bc_Co_isSeeds : ByteArray := prog_1_method_35_code
def y_Co_isSeeds : MethodName := ⟨"SecretWells", "isSeeds", "(II)Z"⟩
abbrev bc_Co_odds : ByteArray := prog_1_method_33_code
def y_Co_odds : MethodName := ⟨"SecretWells", "odds", "(IIII)I"⟩
abbrev bc_Co_deaths : ByteArray := prog_1_method_34_code
def y_Co_deaths : MethodName := ⟨"SecretWells", "deaths", "(II)I"⟩
abbrev bc_Co_worth : ByteArray := prog_1_method_36_code
def y_Co_worth : MethodName := ⟨"SecretWells", "worth", "(I)I"⟩
abbrev bc_Co_silence : ByteArray := prog_1_method_37_code
def y_Co_silence : MethodName := ⟨"SecretWells", "silence", "(III)I"⟩
abbrev bc_Co_reach : ByteArray := prog_1_method_38_code
def y_Co_reach : MethodName := ⟨"SecretWells", "reach", "(I)I"⟩
abbrev bc_Co_holds : ByteArray := prog_1_method_39_code
def y_Co_holds : MethodName := ⟨"SecretWells", "holds", "(II)I"⟩
abbrev bc_Co_rings : ByteArray := prog_1_method_40_code
def y_Co_rings : MethodName := ⟨"SecretWells", "rings", "()I"⟩
abbrev bc_Co_quiet : ByteArray := prog_1_method_41_code
def y_Co_quiet : MethodName := ⟨"SecretWells", "quiet", "(II)I"⟩
abbrev bc_Co_note : ByteArray := prog_1_method_42_code
def y_Co_note : MethodName := ⟨"SecretWells", "note", "(III)I"⟩
abbrev bc_Co_forget : ByteArray := prog_1_method_43_code
def y_Co_forget : MethodName := ⟨"SecretWells", "forget", "()I"⟩
abbrev bc_Co_isKnownBy : ByteArray := prog_1_method_52_code
def y_Co_isKnownBy : MethodName := ⟨"SecretWells", "isKnownBy", "(I)Z"⟩
abbrev bc_Co_truth : ByteArray := prog_1_method_44_code
def y_Co_truth : MethodName := ⟨"SecretWells", "truth", "(II)I"⟩
abbrev bc_Co_sure : ByteArray := prog_1_method_45_code
def y_Co_sure : MethodName := ⟨"SecretWells", "sure", "(IZ)I"⟩
abbrev bc_Co_next : ByteArray := prog_1_method_46_code
def y_Co_next : MethodName := ⟨"SecretWells", "next", "(II)I"⟩
abbrev bc_Mo_put : ByteArray := prog_14_method_4_code
def y_Mo_put : MethodName := ⟨"SecretWellsModel", "put", "(I)V"⟩
abbrev bc_Mo_feed : ByteArray := prog_14_method_3_code
def y_Mo_feed : MethodName := ⟨"SecretWellsModel", "feed", "(IIIII)I"⟩
abbrev bc_Mo_back : ByteArray := prog_14_method_5_code
def y_Mo_back : MethodName := ⟨"SecretWellsModel", "back", "(I)I"⟩
abbrev bc_Mo_byteAt : ByteArray := prog_14_method_6_code
def y_Mo_byteAt : MethodName := ⟨"SecretWellsModel", "byteAt", "(I)I"⟩
abbrev bc_Mo_isDigit : ByteArray := prog_14_method_7_code
def y_Mo_isDigit : MethodName := ⟨"SecretWellsModel", "isDigit", "(I)Z"⟩
abbrev bc_Mo_isLetter : ByteArray := prog_14_method_8_code
def y_Mo_isLetter : MethodName := ⟨"SecretWellsModel", "isLetter", "(I)Z"⟩
abbrev bc_Mo_appends : ByteArray := prog_14_method_9_code
def y_Mo_appends : MethodName := ⟨"SecretWellsModel", "appends", "(JI)J"⟩
abbrev bc_Mo_word : ByteArray := prog_14_method_10_code
def y_Mo_word : MethodName := ⟨"SecretWellsModel", "word", "(IIIIIII)J"⟩
abbrev bc_Mo_token : ByteArray := prog_14_method_11_code
def y_Mo_token : MethodName := ⟨"SecretWellsModel", "token", "(IIIJ)V"⟩
abbrev bc_Mo_sign : ByteArray := prog_14_method_13_code
def y_Mo_sign : MethodName := ⟨"SecretWellsModel", "sign", "(III)I"⟩
abbrev bc_Mo_cut0 : ByteArray := prog_14_method_12_code
def y_Mo_cut0 : MethodName := ⟨"SecretWellsModel", "cut0", "()V"⟩
abbrev bc_Mo_is : ByteArray := prog_14_method_14_code
def y_Mo_is : MethodName := ⟨"SecretWellsModel", "is", "(I)Z"⟩
abbrev bc_Mo_fail : ByteArray := prog_14_method_15_code
def y_Mo_fail : MethodName := ⟨"SecretWellsModel", "fail", "(I)V"⟩
abbrev bc_Mo_wrong : ByteArray := prog_14_method_16_code
def y_Mo_wrong : MethodName := ⟨"SecretWellsModel", "wrong", "(II)V"⟩
abbrev bc_Mo_goesOn : ByteArray := prog_14_method_17_code
def y_Mo_goesOn : MethodName := ⟨"SecretWellsModel", "goesOn", "()V"⟩
abbrev bc_Mo_must : ByteArray := prog_14_method_18_code
def y_Mo_must : MethodName := ⟨"SecretWellsModel", "must", "(I)V"⟩
abbrev bc_Mo_plain : ByteArray := prog_14_method_19_code
def y_Mo_plain : MethodName := ⟨"SecretWellsModel", "plain", "(I)V"⟩
abbrev bc_Mo_roomFor : ByteArray := prog_14_method_22_code
def y_Mo_roomFor : MethodName := ⟨"SecretWellsModel", "roomFor", "(II)V"⟩
abbrev bc_Mo_named : ByteArray := prog_14_method_24_code
def y_Mo_named : MethodName := ⟨"SecretWellsModel", "named", "()I"⟩
abbrev bc_Mo_bounded : ByteArray := prog_14_method_27_code
def y_Mo_bounded : MethodName := ⟨"SecretWellsModel", "bounded", "(II)I"⟩
abbrev bc_Mo_notes : ByteArray := prog_14_method_25_code
def y_Mo_notes : MethodName := ⟨"SecretWellsModel", "notes", "(III)V"⟩
abbrev bc_Mo_tellWell : ByteArray := prog_14_method_28_code
def y_Mo_tellWell : MethodName := ⟨"SecretWellsModel", "tellWell", "()V"⟩
abbrev bc_Mo_known : ByteArray := prog_14_method_26_code
def y_Mo_known : MethodName := ⟨"SecretWellsModel", "known", "(I)I"⟩
abbrev bc_Mo_tellMan : ByteArray := prog_14_method_29_code
def y_Mo_tellMan : MethodName := ⟨"SecretWellsModel", "tellMan", "()V"⟩
abbrev bc_Mo_tellSecret : ByteArray := prog_14_method_30_code
def y_Mo_tellSecret : MethodName := ⟨"SecretWellsModel", "tellSecret", "()V"⟩
abbrev bc_Mo_tellTie : ByteArray := prog_14_method_31_code
def y_Mo_tellTie : MethodName := ⟨"SecretWellsModel", "tellTie", "()V"⟩
abbrev bc_Mo_emit : ByteArray := prog_14_method_34_code
def y_Mo_emit : MethodName := ⟨"SecretWellsModel", "emit", "(II)V"⟩
abbrev bc_Mo_unit : ByteArray := prog_14_method_37_code
def y_Mo_unit : MethodName := ⟨"SecretWellsModel", "unit", "()V"⟩
abbrev bc_Mo_comesOut : ByteArray := prog_14_method_35_code
def y_Mo_comesOut : MethodName := ⟨"SecretWellsModel", "comesOut", "(Z)V"⟩
abbrev bc_Mo_expression : ByteArray := prog_14_method_36_code
def y_Mo_expression : MethodName := ⟨"SecretWellsModel", "expression", "()V"⟩
abbrev bc_Mo_term : ByteArray := prog_14_method_33_code
def y_Mo_term : MethodName := ⟨"SecretWellsModel", "term", "()V"⟩
abbrev bc_Mo_tellLaw : ByteArray := prog_14_method_32_code
def y_Mo_tellLaw : MethodName := ⟨"SecretWellsModel", "tellLaw", "(I)V"⟩
abbrev bc_Mo_tellOne : ByteArray := prog_14_method_23_code
def y_Mo_tellOne : MethodName := ⟨"SecretWellsModel", "tellOne", "()V"⟩
abbrev bc_Mo_knows : ByteArray := prog_14_method_48_code
def y_Mo_knows : MethodName := ⟨"SecretWellsModel", "knows", "(II)Z"⟩
abbrev bc_Mo_knowersOf : ByteArray := prog_14_method_49_code
def y_Mo_knowersOf : MethodName := ⟨"SecretWellsModel", "knowersOf", "(I)I"⟩
abbrev bc_Mo_bits : ByteArray := prog_14_method_40_code
def y_Mo_bits : MethodName := ⟨"SecretWellsModel", "bits", "(I)I"⟩
abbrev bc_Mo_knownBy : ByteArray := prog_14_method_50_code
def y_Mo_knownBy : MethodName := ⟨"SecretWellsModel", "knownBy", "(I)I"⟩
abbrev bc_Mo_deeperBy : ByteArray := prog_14_method_51_code
def y_Mo_deeperBy : MethodName := ⟨"SecretWellsModel", "deeperBy", "(III)I"⟩
abbrev bc_Mo_weightNow : ByteArray := prog_14_method_52_code
def y_Mo_weightNow : MethodName := ⟨"SecretWellsModel", "weightNow", "(I)I"⟩
abbrev bc_Mo_deepOf : ByteArray := prog_14_method_55_code
def y_Mo_deepOf : MethodName := ⟨"SecretWellsModel", "deepOf", "(I)I"⟩
abbrev bc_Mo_cutsWater : ByteArray := prog_14_method_56_code
def y_Mo_cutsWater : MethodName := ⟨"SecretWellsModel", "cutsWater", "()V"⟩
abbrev bc_Mo_begins : ByteArray := prog_14_method_44_code
def y_Mo_begins : MethodName := ⟨"SecretWellsModel", "begins", "()V"⟩
abbrev bc_Mo_keepsRow : ByteArray := prog_14_method_45_code
def y_Mo_keepsRow : MethodName := ⟨"SecretWellsModel", "keepsRow", "()V"⟩
abbrev bc_Mo_read : ByteArray := prog_14_method_20_code
def y_Mo_read : MethodName := ⟨"SecretWellsModel", "read", "()I"⟩
abbrev bc_Mo_place : ByteArray := prog_14_method_21_code
def y_Mo_place : MethodName := ⟨"SecretWellsModel", "place", "()I"⟩
abbrev bc_Mo_termOf : ByteArray := prog_14_method_38_code
def y_Mo_termOf : MethodName := ⟨"SecretWellsModel", "termOf", "(II)I"⟩
abbrev bc_Mo_in : ByteArray := prog_14_method_39_code
def y_Mo_in : MethodName := ⟨"SecretWellsModel", "in", "(III)Z"⟩
abbrev bc_Mo_isWell : ByteArray := prog_14_method_41_code
def y_Mo_isWell : MethodName := ⟨"SecretWellsModel", "isWell", "(I)Z"⟩
abbrev bc_Mo_isMan : ByteArray := prog_14_method_42_code
def y_Mo_isMan : MethodName := ⟨"SecretWellsModel", "isMan", "(I)Z"⟩
abbrev bc_Mo_isSecret : ByteArray := prog_14_method_43_code
def y_Mo_isSecret : MethodName := ⟨"SecretWellsModel", "isSecret", "(I)Z"⟩
abbrev bc_Mo_copies : ByteArray := prog_14_method_46_code
def y_Mo_copies : MethodName := ⟨"SecretWellsModel", "copies", "()V"⟩
abbrev bc_Mo_isAlive : ByteArray := prog_14_method_47_code
def y_Mo_isAlive : MethodName := ⟨"SecretWellsModel", "isAlive", "(I)Z"⟩
abbrev bc_Mo_isHolding : ByteArray := prog_14_method_54_code
def y_Mo_isHolding : MethodName := ⟨"SecretWellsModel", "isHolding", "(I)Z"⟩
abbrev bc_Mo_holding : ByteArray := prog_14_method_53_code
def y_Mo_holding : MethodName := ⟨"SecretWellsModel", "holding", "(I)I"⟩
abbrev bc_Mo_drinkersOf : ByteArray := prog_14_method_57_code
def y_Mo_drinkersOf : MethodName := ⟨"SecretWellsModel", "drinkersOf", "(I)I"⟩
abbrev bc_Mo_mixed : ByteArray := prog_14_method_58_code
def y_Mo_mixed : MethodName := ⟨"SecretWellsModel", "mixed", "(II)I"⟩
abbrev bc_Mo_lotOf : ByteArray := prog_14_method_59_code
def y_Mo_lotOf : MethodName := ⟨"SecretWellsModel", "lotOf", "(II)I"⟩
abbrev bc_Mo_held : ByteArray := prog_14_method_60_code
def y_Mo_held : MethodName := ⟨"SecretWellsModel", "held", "(II)I"⟩
abbrev bc_Mo_asks : ByteArray := prog_14_method_61_code
def y_Mo_asks : MethodName := ⟨"SecretWellsModel", "asks", "(III)I"⟩
abbrev bc_Mo_setsWell : ByteArray := prog_14_method_62_code
def y_Mo_setsWell : MethodName := ⟨"SecretWellsModel", "setsWell", "(I)V"⟩
abbrev bc_Mo_fillsOf : ByteArray := prog_14_method_63_code
def y_Mo_fillsOf : MethodName := ⟨"SecretWellsModel", "fillsOf", "(I)I"⟩
abbrev bc_Mo_setsMan : ByteArray := prog_14_method_64_code
def y_Mo_setsMan : MethodName := ⟨"SecretWellsModel", "setsMan", "(I)V"⟩
abbrev bc_Mo_drinksOf : ByteArray := prog_14_method_65_code
def y_Mo_drinksOf : MethodName := ⟨"SecretWellsModel", "drinksOf", "(I)I"⟩
abbrev bc_Mo_tellsOf : ByteArray := prog_14_method_66_code
def y_Mo_tellsOf : MethodName := ⟨"SecretWellsModel", "tellsOf", "(II)I"⟩
abbrev bc_Mo_drinks : ByteArray := prog_14_method_67_code
def y_Mo_drinks : MethodName := ⟨"SecretWellsModel", "drinks", "(I)V"⟩
abbrev bc_Mo_isOpen : ByteArray := prog_14_method_68_code
def y_Mo_isOpen : MethodName := ⟨"SecretWellsModel", "isOpen", "(I)Z"⟩
abbrev bc_Mo_tellsAll : ByteArray := prog_14_method_69_code
def y_Mo_tellsAll : MethodName := ⟨"SecretWellsModel", "tellsAll", "(I)V"⟩
abbrev bc_Mo_dayGoes : ByteArray := prog_14_method_70_code
def y_Mo_dayGoes : MethodName := ⟨"SecretWellsModel", "dayGoes", "()V"⟩
abbrev bc_Mo_goes : ByteArray := prog_14_method_71_code
def y_Mo_goes : MethodName := ⟨"SecretWellsModel", "goes", "(I)V"⟩
abbrev bc_Mo_well : ByteArray := prog_14_method_72_code
def y_Mo_well : MethodName := ⟨"SecretWellsModel", "well", "(II)I"⟩
abbrev bc_Mo_man : ByteArray := prog_14_method_73_code
def y_Mo_man : MethodName := ⟨"SecretWellsModel", "man", "(II)I"⟩
abbrev bc_Mo_secret : ByteArray := prog_14_method_74_code
def y_Mo_secret : MethodName := ⟨"SecretWellsModel", "secret", "(II)I"⟩
abbrev bc_Mo_tells : ByteArray := prog_14_method_75_code
def y_Mo_tells : MethodName := ⟨"SecretWellsModel", "tells", "(II)I"⟩
abbrev bc_Mo_keeps : ByteArray := prog_14_method_76_code
def y_Mo_keeps : MethodName := ⟨"SecretWellsModel", "keeps", "()V"⟩
abbrev bc_Mo_days : ByteArray := prog_14_method_77_code
def y_Mo_days : MethodName := ⟨"SecretWellsModel", "days", "(I)I"⟩
abbrev bc_Mo_whispers : ByteArray := prog_14_method_78_code
def y_Mo_whispers : MethodName := ⟨"SecretWellsModel", "whispers", "(IIII)I"⟩
abbrev bc_Mo_whisper : ByteArray := prog_14_method_79_code
def y_Mo_whisper : MethodName := ⟨"SecretWellsModel", "whisper", "(III)I"⟩
abbrev bc_Mo_drill : ByteArray := prog_14_method_80_code
def y_Mo_drill : MethodName := ⟨"SecretWellsModel", "drill", "(III)I"⟩
abbrev bc_Mo_tell : ByteArray := prog_14_method_81_code
def y_Mo_tell : MethodName := ⟨"SecretWellsModel", "tell", "(III)Z"⟩
abbrev bc_Mo_go : ByteArray := prog_14_method_82_code
def y_Mo_go : MethodName := ⟨"SecretWellsModel", "go", "(II)Z"⟩
abbrev bc_Mo_cut : ByteArray := prog_14_method_83_code
def y_Mo_cut : MethodName := ⟨"SecretWellsModel", "cut", "(IZ)Z"⟩
abbrev bc_Mo_undo : ByteArray := prog_14_method_84_code
def y_Mo_undo : MethodName := ⟨"SecretWellsModel", "undo", "()Z"⟩
abbrev bc_Mo_isLong : ByteArray := prog_14_method_85_code
def y_Mo_isLong : MethodName := ⟨"SecretWellsModel", "isLong", "(I)Z"⟩
abbrev bc_Mo_wellIn : ByteArray := prog_14_method_86_code
def y_Mo_wellIn : MethodName := ⟨"SecretWellsModel", "wellIn", "(III)I"⟩
abbrev bc_Mo_manIn : ByteArray := prog_14_method_87_code
def y_Mo_manIn : MethodName := ⟨"SecretWellsModel", "manIn", "(III)I"⟩
abbrev bc_Mo_dryBy : ByteArray := prog_14_method_88_code
def y_Mo_dryBy : MethodName := ⟨"SecretWellsModel", "dryBy", "(I)I"⟩
abbrev bc_Mo_first : ByteArray := prog_14_method_89_code
def y_Mo_first : MethodName := ⟨"SecretWellsModel", "first", "(I)I"⟩
abbrev bc_Mo_rainsBy : ByteArray := prog_14_method_90_code
def y_Mo_rainsBy : MethodName := ⟨"SecretWellsModel", "rainsBy", "(III)I"⟩
abbrev bc_Mo_thirstAll : ByteArray := prog_14_method_91_code
def y_Mo_thirstAll : MethodName := ⟨"SecretWellsModel", "thirstAll", "()I"⟩
abbrev bc_Mo_rains : ByteArray := prog_14_method_92_code
def y_Mo_rains : MethodName := ⟨"SecretWellsModel", "rains", "(II)V"⟩
abbrev bc_Mo_isRain : ByteArray := prog_14_method_93_code
def y_Mo_isRain : MethodName := ⟨"SecretWellsModel", "isRain", "(II)Z"⟩
abbrev bc_Mo_rain : ByteArray := prog_14_method_94_code
def y_Mo_rain : MethodName := ⟨"SecretWellsModel", "rain", "(III)I"⟩
abbrev bc_Mo_rainAt : ByteArray := prog_14_method_95_code
def y_Mo_rainAt : MethodName := ⟨"SecretWellsModel", "rainAt", "(III)I"⟩
abbrev bc_Mo_reachOf : ByteArray := prog_14_method_96_code
def y_Mo_reachOf : MethodName := ⟨"SecretWellsModel", "reachOf", "(II)I"⟩
abbrev bc_Mo_reach : ByteArray := prog_14_method_97_code
def y_Mo_reach : MethodName := ⟨"SecretWellsModel", "reach", "(I)I"⟩
abbrev bc_Mo_silence : ByteArray := prog_14_method_98_code
def y_Mo_silence : MethodName := ⟨"SecretWellsModel", "silence", "(III)I"⟩
abbrev bc_Mo_shared : ByteArray := prog_14_method_99_code
def y_Mo_shared : MethodName := ⟨"SecretWellsModel", "shared", "(II)I"⟩
abbrev bc_Mo_holds : ByteArray := prog_14_method_100_code
def y_Mo_holds : MethodName := ⟨"SecretWellsModel", "holds", "(II)I"⟩
abbrev bc_Mo_rings : ByteArray := prog_14_method_101_code
def y_Mo_rings : MethodName := ⟨"SecretWellsModel", "rings", "()I"⟩
abbrev bc_Mo_fillsMay : ByteArray := prog_14_method_102_code
def y_Mo_fillsMay : MethodName := ⟨"SecretWellsModel", "fillsMay", "()V"⟩
abbrev bc_Mo_hasOf : ByteArray := prog_14_method_103_code
def y_Mo_hasOf : MethodName := ⟨"SecretWellsModel", "hasOf", "(III)I"⟩
abbrev bc_Mo_isResting : ByteArray := prog_14_method_104_code
def y_Mo_isResting : MethodName := ⟨"SecretWellsModel", "isResting", "(II)Z"⟩
abbrev bc_Mo_quiet : ByteArray := prog_14_method_105_code
def y_Mo_quiet : MethodName := ⟨"SecretWellsModel", "quiet", "(II)I"⟩
abbrev bc_Mo_areMany : ByteArray := prog_14_method_106_code
def y_Mo_areMany : MethodName := ⟨"SecretWellsModel", "areMany", "(II)Z"⟩
abbrev bc_Mo_goesBy : ByteArray := prog_14_method_107_code
def y_Mo_goesBy : MethodName := ⟨"SecretWellsModel", "goesBy", "(II)V"⟩
abbrev bc_Mo_odds : ByteArray := prog_14_method_108_code
def y_Mo_odds : MethodName := ⟨"SecretWellsModel", "odds", "(IIII)I"⟩
abbrev bc_Mo_deaths : ByteArray := prog_14_method_109_code
def y_Mo_deaths : MethodName := ⟨"SecretWellsModel", "deaths", "(II)I"⟩
abbrev bc_Mo_worth : ByteArray := prog_14_method_110_code
def y_Mo_worth : MethodName := ⟨"SecretWellsModel", "worth", "(I)I"⟩
abbrev bc_Mo_note : ByteArray := prog_14_method_111_code
def y_Mo_note : MethodName := ⟨"SecretWellsModel", "note", "(III)I"⟩
abbrev bc_Mo_forget : ByteArray := prog_14_method_112_code
def y_Mo_forget : MethodName := ⟨"SecretWellsModel", "forget", "()I"⟩
abbrev bc_Mo_deeperTold : ByteArray := prog_14_method_113_code
def y_Mo_deeperTold : MethodName := ⟨"SecretWellsModel", "deeperTold", "(I)I"⟩
abbrev bc_Mo_isSo : ByteArray := prog_14_method_114_code
def y_Mo_isSo : MethodName := ⟨"SecretWellsModel", "isSo", "(II)Z"⟩
abbrev bc_Mo_truth : ByteArray := prog_14_method_115_code
def y_Mo_truth : MethodName := ⟨"SecretWellsModel", "truth", "(II)I"⟩
abbrev bc_Mo_sure : ByteArray := prog_14_method_116_code
def y_Mo_sure : MethodName := ⟨"SecretWellsModel", "sure", "(IZ)I"⟩
abbrev bc_Mo_next : ByteArray := prog_14_method_117_code
def y_Mo_next : MethodName := ⟨"SecretWellsModel", "next", "(II)I"⟩
abbrev bc_Mo_hold : ByteArray := prog_14_method_118_code
def y_Mo_hold : MethodName := ⟨"SecretWellsModel", "hold", "(I)Z"⟩
abbrev bc_Mo_restore : ByteArray := prog_14_method_119_code
def y_Mo_restore : MethodName := ⟨"SecretWellsModel", "restore", "(I)Z"⟩
abbrev bc_Mo_count : ByteArray := prog_14_method_120_code
def y_Mo_count : MethodName := ⟨"SecretWellsModel", "count", "(I)I"⟩
theorem mt_JInt_bitCount : MS y_JInt_bitCount bc_JInt_bitCount 1 (some .int) 1 := ⟨gt_3 59 (by decide +kernel) (by decide +kernel), gt_1 20 (by decide +kernel) (by decide +kernel), gt_3 60 rfl rfl, by decide +kernel⟩
theorem mt_Dy_look : MV y_Dy_look bc_Dy_look 3 none 2 := ⟨gt_4 195 (by decide +kernel) (by decide +kernel), gt_sel (List.mem_of_getElem? (i := 33) (by decide +kernel)) (by decide +kernel), gt_1 10 (by decide +kernel) (by decide +kernel), gt_4 196 rfl rfl, by decide +kernel⟩
theorem mt_Lw_joined : MS y_Lw_joined bc_Lw_joined 3 (some .int) 3 := ⟨gt_4 203 (by decide +kernel) (by decide +kernel), gt_1 17 (by decide +kernel) (by decide +kernel), gt_4 204 rfl rfl, by decide +kernel⟩
theorem mt_Lw_value : MV y_Lw_value bc_Lw_value 9 (some .int) 2 := ⟨gt_4 198 (by decide +kernel) (by decide +kernel), gt_4 199 (by decide +kernel) (by decide +kernel), gt_1 17 (by decide +kernel) (by decide +kernel), gt_4 200 rfl rfl, by decide +kernel⟩
theorem mt_Dy_fillsNow : MV y_Dy_fillsNow bc_Dy_fillsNow 4 (some .int) 3 := ⟨gt_4 189 (by decide +kernel) (by decide +kernel), gt_4 190 (by decide +kernel) (by decide +kernel), gt_1 10 (by decide +kernel) (by decide +kernel), gt_4 191 rfl rfl, by decide +kernel⟩
theorem mt_St_isAlive : MV y_St_isAlive bc_St_isAlive 2 (some .boolean) 1 := ⟨gt_3 65 (by decide +kernel) (by decide +kernel), gt_3 66 (by decide +kernel) (by decide +kernel), gt_1 9 (by decide +kernel) (by decide +kernel), gt_3 67 rfl rfl, by decide +kernel⟩
theorem mt_Lw_isTold : MV y_Lw_isTold bc_Lw_isTold 1 (some .boolean) 0 := ⟨gt_4 219 (by decide +kernel) (by decide +kernel), gt_4 220 (by decide +kernel) (by decide +kernel), gt_1 17 (by decide +kernel) (by decide +kernel), gt_4 221 rfl rfl, by decide +kernel⟩
theorem mt_Dy_drinksNow : MV y_Dy_drinksNow bc_Dy_drinksNow 4 (some .int) 3 := ⟨gt_4 215 (by decide +kernel) (by decide +kernel), gt_4 216 (by decide +kernel) (by decide +kernel), gt_1 10 (by decide +kernel) (by decide +kernel), gt_4 217 rfl rfl, by decide +kernel⟩
theorem mt_St_knowers : MV y_St_knowers bc_St_knowers 5 (some .int) 2 := ⟨gt_3 69 (by decide +kernel) (by decide +kernel), gt_3 70 (by decide +kernel) (by decide +kernel), gt_1 9 (by decide +kernel) (by decide +kernel), gt_3 71 rfl rfl, by decide +kernel⟩
theorem mt_Tx_isLie : MV y_Tx_isLie bc_Tx_isLie 2 (some .boolean) 1 := ⟨gt_3 73 (by decide +kernel) (by decide +kernel), gt_3 74 (by decide +kernel) (by decide +kernel), gt_1 16 (by decide +kernel) (by decide +kernel), gt_3 75 rfl rfl, by decide +kernel⟩
theorem mt_St_share : MS y_St_share bc_St_share 3 (some .int) 3 := ⟨gt_3 77 (by decide +kernel) (by decide +kernel), gt_1 9 (by decide +kernel) (by decide +kernel), gt_3 78 rfl rfl, by decide +kernel⟩
theorem mt_St_measure : MV y_St_measure bc_St_measure 6 none 1 := ⟨gt_3 55 (by decide +kernel) (by decide +kernel), gt_3 56 (by decide +kernel) (by decide +kernel), gt_1 9 (by decide +kernel) (by decide +kernel), gt_3 57 rfl rfl, by decide +kernel⟩
theorem mt_Dy_drink : MV y_Dy_drink bc_Dy_drink 6 none 3 := ⟨gt_5 34 (by decide +kernel) (by decide +kernel), gt_sel (List.mem_of_getElem? (i := 38) (by decide +kernel)) (by decide +kernel), gt_1 10 (by decide +kernel) (by decide +kernel), gt_5 35 rfl rfl, by decide +kernel⟩
theorem mt_St_isCut : MV y_St_isCut bc_St_isCut 2 (some .boolean) 1 := ⟨gt_5 44 (by decide +kernel) (by decide +kernel), gt_5 45 (by decide +kernel) (by decide +kernel), gt_1 9 (by decide +kernel) (by decide +kernel), gt_5 46 rfl rfl, by decide +kernel⟩
theorem mt_Dy_tellsNow : MV y_Dy_tellsNow bc_Dy_tellsNow 6 (some .int) 4 := ⟨gt_5 1 (by decide +kernel) (by decide +kernel), gt_5 2 (by decide +kernel) (by decide +kernel), gt_1 10 (by decide +kernel) (by decide +kernel), gt_5 3 rfl rfl, by decide +kernel⟩
theorem mt_Dy_stirred : MS y_Dy_stirred bc_Dy_stirred 3 (some .int) 2 := ⟨gt_5 52 (by decide +kernel) (by decide +kernel), gt_1 10 (by decide +kernel) (by decide +kernel), gt_5 53 rfl rfl, by decide +kernel⟩
theorem mt_Dy_lot : MS y_Dy_lot bc_Dy_lot 4 (some .int) 3 := ⟨gt_5 49 (by decide +kernel) (by decide +kernel), gt_1 10 (by decide +kernel) (by decide +kernel), gt_5 50 rfl rfl, by decide +kernel⟩
theorem mt_Dy_talk : MV y_Dy_talk bc_Dy_talk 10 none 4 := ⟨gt_5 41 (by decide +kernel) (by decide +kernel), gt_sel (List.mem_of_getElem? (i := 39) (by decide +kernel)) (by decide +kernel), gt_1 10 (by decide +kernel) (by decide +kernel), gt_5 42 rfl rfl, by decide +kernel⟩
theorem mt_St_settle : MV y_St_settle bc_St_settle 3 none 1 := ⟨gt_3 80 (by decide +kernel) (by decide +kernel), gt_3 81 (by decide +kernel) (by decide +kernel), gt_1 9 (by decide +kernel) (by decide +kernel), gt_3 82 rfl rfl, by decide +kernel⟩
theorem mt_Dy_pass : MV y_Dy_pass bc_Dy_pass 6 none 3 := ⟨gt_5 26 (by decide +kernel) (by decide +kernel), gt_5 27 (by decide +kernel) (by decide +kernel), gt_1 10 (by decide +kernel) (by decide +kernel), gt_5 28 rfl rfl, by decide +kernel⟩
theorem mt_Lw_begin : MV y_Lw_begin bc_Lw_begin 1 none 0 := ⟨gt_3 38 (by decide +kernel) (by decide +kernel), gt_3 39 (by decide +kernel) (by decide +kernel), gt_1 17 (by decide +kernel) (by decide +kernel), gt_3 40 rfl rfl, by decide +kernel⟩
theorem mt_Lw_put : MV y_Lw_put bc_Lw_put 3 none 2 := ⟨gt_3 43 (by decide +kernel) (by decide +kernel), gt_sel (List.mem_of_getElem? (i := 0) (by decide +kernel)) (by decide +kernel), gt_1 17 (by decide +kernel) (by decide +kernel), gt_3 44 rfl rfl, by decide +kernel⟩
theorem mt_Lw_be : MV y_Lw_be bc_Lw_be 2 none 1 := ⟨gt_3 34 (by decide +kernel) (by decide +kernel), gt_3 35 (by decide +kernel) (by decide +kernel), gt_1 17 (by decide +kernel) (by decide +kernel), gt_3 36 rfl rfl, by decide +kernel⟩
theorem mt_Lw_await : MV y_Lw_await bc_Lw_await 2 none 1 := ⟨gt_4 138 (by decide +kernel) (by decide +kernel), gt_sel (List.mem_of_getElem? (i := 27) (by decide +kernel)) (by decide +kernel), gt_1 17 (by decide +kernel) (by decide +kernel), gt_4 139 rfl rfl, by decide +kernel⟩
theorem mt_Lw_rank : MS y_Lw_rank bc_Lw_rank 1 (some .int) 1 := ⟨gt_4 145 (by decide +kernel) (by decide +kernel), gt_1 17 (by decide +kernel) (by decide +kernel), gt_4 146 rfl rfl, by decide +kernel⟩
theorem mt_Lw_putWaiting : MV y_Lw_putWaiting bc_Lw_putWaiting 2 none 1 := ⟨gt_4 142 (by decide +kernel) (by decide +kernel), gt_sel (List.mem_of_getElem? (i := 28) (by decide +kernel)) (by decide +kernel), gt_1 17 (by decide +kernel) (by decide +kernel), gt_4 143 rfl rfl, by decide +kernel⟩
theorem mt_Lw_finish : MV y_Lw_finish bc_Lw_finish 1 none 0 := ⟨gt_4 149 (by decide +kernel) (by decide +kernel), gt_4 150 (by decide +kernel) (by decide +kernel), gt_1 17 (by decide +kernel) (by decide +kernel), gt_4 151 rfl rfl, by decide +kernel⟩
theorem mt_Lw_add : MV y_Lw_add bc_Lw_add 3 none 2 := ⟨gt_4 133 (by decide +kernel) (by decide +kernel), gt_4 134 (by decide +kernel) (by decide +kernel), gt_1 17 (by decide +kernel) (by decide +kernel), gt_4 135 rfl rfl, by decide +kernel⟩
theorem mt_JArr_fill : MS y_JArr_fill bc_JArr_fill 4 none 2 := ⟨gt_3 31 (by decide +kernel) (by decide +kernel), gt_1 18 (by decide +kernel) (by decide +kernel), gt_3 32 rfl rfl, by decide +kernel⟩
theorem mt_Tx_clear : MV y_Tx_clear bc_Tx_clear 1 none 0 := ⟨gt_3 27 (by decide +kernel) (by decide +kernel), gt_3 28 (by decide +kernel) (by decide +kernel), gt_1 16 (by decide +kernel) (by decide +kernel), gt_3 29 rfl rfl, by decide +kernel⟩
theorem mt_Tp_kindAt : MV y_Tp_kindAt bc_Tp_kindAt 2 (some .int) 1 := ⟨gt_4 9 (by decide +kernel) (by decide +kernel), gt_4 10 (by decide +kernel) (by decide +kernel), gt_1 2 (by decide +kernel) (by decide +kernel), gt_4 11 rfl rfl, by decide +kernel⟩
theorem mt_Tp_valueAt : MV y_Tp_valueAt bc_Tp_valueAt 2 (some .long) 1 := ⟨gt_4 87 (by decide +kernel) (by decide +kernel), gt_4 88 (by decide +kernel) (by decide +kernel), gt_1 2 (by decide +kernel) (by decide +kernel), gt_4 89 rfl rfl, by decide +kernel⟩
theorem mt_Mn_find : MS y_Mn_find bc_Mn_find 5 (some .int) 3 := ⟨gt_4 95 (by decide +kernel) (by decide +kernel), gt_1 8 (by decide +kernel) (by decide +kernel), gt_4 96 rfl rfl, by decide +kernel⟩
theorem mt_Mn_isTold : MV y_Mn_isTold bc_Mn_isTold 4 (some .boolean) 2 := ⟨gt_4 92 (by decide +kernel) (by decide +kernel), gt_sel (List.mem_of_getElem? (i := 18) (by decide +kernel)) (by decide +kernel), gt_1 8 (by decide +kernel) (by decide +kernel), gt_4 93 rfl rfl, by decide +kernel⟩
theorem mt_Tp_placeAt : MV y_Tp_placeAt bc_Tp_placeAt 2 (some .int) 1 := ⟨gt_4 65 (by decide +kernel) (by decide +kernel), gt_4 66 (by decide +kernel) (by decide +kernel), gt_1 2 (by decide +kernel) (by decide +kernel), gt_4 67 rfl rfl, by decide +kernel⟩
theorem mt_Mn_failed : MV y_Mn_failed bc_Mn_failed 3 none 2 := ⟨gt_4 99 (by decide +kernel) (by decide +kernel), gt_sel (List.mem_of_getElem? (i := 19) (by decide +kernel)) (by decide +kernel), gt_1 8 (by decide +kernel) (by decide +kernel), gt_4 100 rfl rfl, by decide +kernel⟩
theorem mt_Mn_newName : MV y_Mn_newName bc_Mn_newName 4 (some .long) 1 := ⟨gt_4 84 (by decide +kernel) (by decide +kernel), gt_sel (List.mem_of_getElem? (i := 17) (by decide +kernel)) (by decide +kernel), gt_1 8 (by decide +kernel) (by decide +kernel), gt_4 85 rfl rfl, by decide +kernel⟩
theorem mt_Mn_number : MV y_Mn_number bc_Mn_number 4 (some .int) 2 := ⟨gt_4 104 (by decide +kernel) (by decide +kernel), gt_sel (List.mem_of_getElem? (i := 20) (by decide +kernel)) (by decide +kernel), gt_1 8 (by decide +kernel) (by decide +kernel), gt_4 105 rfl rfl, by decide +kernel⟩
theorem mt_Mn_putWell : MV y_Mn_putWell bc_Mn_putWell 3 none 1 := ⟨gt_4 80 (by decide +kernel) (by decide +kernel), gt_sel (List.mem_of_getElem? (i := 16) (by decide +kernel)) (by decide +kernel), gt_1 8 (by decide +kernel) (by decide +kernel), gt_4 81 rfl rfl, by decide +kernel⟩
theorem mt_Mn_oldName : MV y_Mn_oldName bc_Mn_oldName 4 (some .int) 2 := ⟨gt_4 112 (by decide +kernel) (by decide +kernel), gt_sel (List.mem_of_getElem? (i := 22) (by decide +kernel)) (by decide +kernel), gt_1 8 (by decide +kernel) (by decide +kernel), gt_4 113 rfl rfl, by decide +kernel⟩
theorem mt_Mn_putMan : MV y_Mn_putMan bc_Mn_putMan 3 none 1 := ⟨gt_4 108 (by decide +kernel) (by decide +kernel), gt_sel (List.mem_of_getElem? (i := 21) (by decide +kernel)) (by decide +kernel), gt_1 8 (by decide +kernel) (by decide +kernel), gt_4 109 rfl rfl, by decide +kernel⟩
theorem mt_Mn_putKnower : MV y_Mn_putKnower bc_Mn_putKnower 4 none 2 := ⟨gt_4 121 (by decide +kernel) (by decide +kernel), gt_sel (List.mem_of_getElem? (i := 24) (by decide +kernel)) (by decide +kernel), gt_1 8 (by decide +kernel) (by decide +kernel), gt_4 122 rfl rfl, by decide +kernel⟩
theorem mt_Mn_putSecret : MV y_Mn_putSecret bc_Mn_putSecret 4 none 1 := ⟨gt_4 117 (by decide +kernel) (by decide +kernel), gt_sel (List.mem_of_getElem? (i := 23) (by decide +kernel)) (by decide +kernel), gt_1 8 (by decide +kernel) (by decide +kernel), gt_4 118 rfl rfl, by decide +kernel⟩
theorem mt_Mn_putTie : MV y_Mn_putTie bc_Mn_putTie 5 none 1 := ⟨gt_4 125 (by decide +kernel) (by decide +kernel), gt_sel (List.mem_of_getElem? (i := 25) (by decide +kernel)) (by decide +kernel), gt_1 8 (by decide +kernel) (by decide +kernel), gt_4 126 rfl rfl, by decide +kernel⟩
theorem mt_Mn_putLaw : MV y_Mn_putLaw bc_Mn_putLaw 3 none 1 := ⟨gt_4 129 (by decide +kernel) (by decide +kernel), gt_sel (List.mem_of_getElem? (i := 26) (by decide +kernel)) (by decide +kernel), gt_1 8 (by decide +kernel) (by decide +kernel), gt_4 130 rfl rfl, by decide +kernel⟩
theorem mt_Mn_putTell : MV y_Mn_putTell bc_Mn_putTell 3 none 1 := ⟨gt_4 76 (by decide +kernel) (by decide +kernel), gt_sel (List.mem_of_getElem? (i := 15) (by decide +kernel)) (by decide +kernel), gt_1 8 (by decide +kernel) (by decide +kernel), gt_4 77 rfl rfl, by decide +kernel⟩
theorem mt_Tx_measure : MV y_Tx_measure bc_Tx_measure 4 none 0 := ⟨gt_4 154 (by decide +kernel) (by decide +kernel), gt_4 155 (by decide +kernel) (by decide +kernel), gt_1 16 (by decide +kernel) (by decide +kernel), gt_4 156 rfl rfl, by decide +kernel⟩
theorem mt_Mn_seek : MV y_Mn_seek bc_Mn_seek 3 (some .int) 1 := ⟨gt_4 69 (by decide +kernel) (by decide +kernel), gt_4 70 (by decide +kernel) (by decide +kernel), gt_1 8 (by decide +kernel) (by decide +kernel), gt_4 71 rfl rfl, by decide +kernel⟩
theorem mt_Nt_add : MV y_Nt_add bc_Nt_add 4 (some .int) 3 := ⟨gt_6 37 (by decide +kernel) (by decide +kernel), gt_6 38 (by decide +kernel) (by decide +kernel), gt_1 13 (by decide +kernel) (by decide +kernel), gt_6 39 rfl rfl, by decide +kernel⟩
theorem mt_Nt_fits : MV y_Nt_fits bc_Nt_fits 8 (some .boolean) 3 := ⟨gt_6 58 (by decide +kernel) (by decide +kernel), gt_sel (List.mem_of_getElem? (i := 55) (by decide +kernel)) (by decide +kernel), gt_1 13 (by decide +kernel) (by decide +kernel), gt_6 59 rfl rfl, by decide +kernel⟩
theorem mt_Nt_trueOnes : MV y_Nt_trueOnes bc_Nt_trueOnes 6 (some .int) 3 := ⟨gt_6 53 (by decide +kernel) (by decide +kernel), gt_6 54 (by decide +kernel) (by decide +kernel), gt_1 13 (by decide +kernel) (by decide +kernel), gt_6 55 rfl rfl, by decide +kernel⟩
theorem mt_Nt_alwaysSo : MV y_Nt_alwaysSo bc_Nt_alwaysSo 8 (some .int) 3 := ⟨gt_6 65 (by decide +kernel) (by decide +kernel), gt_6 66 (by decide +kernel) (by decide +kernel), gt_1 13 (by decide +kernel) (by decide +kernel), gt_6 67 rfl rfl, by decide +kernel⟩
theorem mt_Nt_countDeeper : MV y_Nt_countDeeper bc_Nt_countDeeper 6 (some .int) 2 := ⟨gt_6 78 (by decide +kernel) (by decide +kernel), gt_sel (List.mem_of_getElem? (i := 56) (by decide +kernel)) (by decide +kernel), gt_1 13 (by decide +kernel) (by decide +kernel), gt_6 79 rfl rfl, by decide +kernel⟩
theorem mt_Nt_tellsMost : MV y_Nt_tellsMost bc_Nt_tellsMost 9 (some .int) 3 := ⟨gt_6 73 (by decide +kernel) (by decide +kernel), gt_6 74 (by decide +kernel) (by decide +kernel), gt_1 13 (by decide +kernel) (by decide +kernel), gt_6 75 rfl rfl, by decide +kernel⟩
theorem mt_Pe_openTies : MV y_Pe_openTies bc_Pe_openTies 6 (some .int) 2 := ⟨gt_5 216 (by decide +kernel) (by decide +kernel), gt_5 217 (by decide +kernel) (by decide +kernel), gt_1 12 (by decide +kernel) (by decide +kernel), gt_5 218 rfl rfl, by decide +kernel⟩
theorem mt_Pe_spread : MV y_Pe_spread bc_Pe_spread 8 (some .int) 3 := ⟨gt_5 223 (by decide +kernel) (by decide +kernel), gt_5 224 (by decide +kernel) (by decide +kernel), gt_1 12 (by decide +kernel) (by decide +kernel), gt_5 225 rfl rfl, by decide +kernel⟩
theorem mt_Pe_fewestCuts : MV y_Pe_fewestCuts bc_Pe_fewestCuts 10 (some .int) 4 := ⟨gt_5 211 (by decide +kernel) (by decide +kernel), gt_5 212 (by decide +kernel) (by decide +kernel), gt_1 12 (by decide +kernel) (by decide +kernel), gt_5 213 rfl rfl, by decide +kernel⟩
theorem mt_Pe_sharedByTwo : MV y_Pe_sharedByTwo bc_Pe_sharedByTwo 7 (some .int) 4 := ⟨gt_5 237 (by decide +kernel) (by decide +kernel), gt_5 238 (by decide +kernel) (by decide +kernel), gt_1 12 (by decide +kernel) (by decide +kernel), gt_5 239 rfl rfl, by decide +kernel⟩
theorem mt_St_isKnownTo : MV y_St_isKnownTo bc_St_isKnownTo 3 (some .boolean) 2 := ⟨gt_5 65 (by decide +kernel) (by decide +kernel), gt_5 66 (by decide +kernel) (by decide +kernel), gt_1 9 (by decide +kernel) (by decide +kernel), gt_5 67 rfl rfl, by decide +kernel⟩
theorem mt_Pe_heaviest : MS y_Pe_heaviest bc_Pe_heaviest 6 (some .int) 3 := ⟨gt_6 17 (by decide +kernel) (by decide +kernel), gt_1 12 (by decide +kernel) (by decide +kernel), gt_6 18 rfl rfl, by decide +kernel⟩
theorem mt_Pe_gatherPlayers : MV y_Pe_gatherPlayers bc_Pe_gatherPlayers 4 none 2 := ⟨gt_6 14 (by decide +kernel) (by decide +kernel), gt_sel (List.mem_of_getElem? (i := 50) (by decide +kernel)) (by decide +kernel), gt_1 12 (by decide +kernel) (by decide +kernel), gt_6 15 rfl rfl, by decide +kernel⟩
theorem mt_Pe_deepBy : MV y_Pe_deepBy bc_Pe_deepBy 9 (some .int) 4 := ⟨gt_6 30 (by decide +kernel) (by decide +kernel), gt_sel (List.mem_of_getElem? (i := 53) (by decide +kernel)) (by decide +kernel), gt_1 12 (by decide +kernel) (by decide +kernel), gt_6 31 rfl rfl, by decide +kernel⟩
theorem mt_Pe_gain : MV y_Pe_gain bc_Pe_gain 8 (some .int) 5 := ⟨gt_6 26 (by decide +kernel) (by decide +kernel), gt_sel (List.mem_of_getElem? (i := 52) (by decide +kernel)) (by decide +kernel), gt_1 12 (by decide +kernel) (by decide +kernel), gt_6 27 rfl rfl, by decide +kernel⟩
theorem mt_Pe_isRest : MV y_Pe_isRest bc_Pe_isRest 7 (some .boolean) 4 := ⟨gt_6 22 (by decide +kernel) (by decide +kernel), gt_sel (List.mem_of_getElem? (i := 51) (by decide +kernel)) (by decide +kernel), gt_1 12 (by decide +kernel) (by decide +kernel), gt_6 23 rfl rfl, by decide +kernel⟩
theorem mt_Pe_rests : MV y_Pe_rests bc_Pe_rests 7 (some .int) 4 := ⟨gt_6 9 (by decide +kernel) (by decide +kernel), gt_6 10 (by decide +kernel) (by decide +kernel), gt_1 12 (by decide +kernel) (by decide +kernel), gt_6 11 rfl rfl, by decide +kernel⟩
theorem mt_Rn_choose : MV y_Rn_choose bc_Rn_choose 4 none 2 := ⟨gt_5 148 (by decide +kernel) (by decide +kernel), gt_sel (List.mem_of_getElem? (i := 44) (by decide +kernel)) (by decide +kernel), gt_1 11 (by decide +kernel) (by decide +kernel), gt_5 149 rfl rfl, by decide +kernel⟩
theorem mt_Rn_isOfUse : MS y_Rn_isOfUse bc_Rn_isOfUse 5 (some .boolean) 4 := ⟨gt_5 155 (by decide +kernel) (by decide +kernel), gt_1 11 (by decide +kernel) (by decide +kernel), gt_5 156 rfl rfl, by decide +kernel⟩
theorem mt_Rn_isLaid : MV y_Rn_isLaid bc_Rn_isLaid 8 (some .boolean) 3 := ⟨gt_5 152 (by decide +kernel) (by decide +kernel), gt_sel (List.mem_of_getElem? (i := 45) (by decide +kernel)) (by decide +kernel), gt_1 11 (by decide +kernel) (by decide +kernel), gt_5 153 rfl rfl, by decide +kernel⟩
theorem mt_Rn_whispers : MV y_Rn_whispers bc_Rn_whispers 3 (some .int) 0 := ⟨gt_5 165 (by decide +kernel) (by decide +kernel), gt_sel (List.mem_of_getElem? (i := 47) (by decide +kernel)) (by decide +kernel), gt_1 11 (by decide +kernel) (by decide +kernel), gt_5 166 rfl rfl, by decide +kernel⟩
theorem mt_Rn_mayBeBetter : MV y_Rn_mayBeBetter bc_Rn_mayBeBetter 1 (some .boolean) 0 := ⟨gt_5 161 (by decide +kernel) (by decide +kernel), gt_sel (List.mem_of_getElem? (i := 46) (by decide +kernel)) (by decide +kernel), gt_1 11 (by decide +kernel) (by decide +kernel), gt_5 162 rfl rfl, by decide +kernel⟩
theorem mt_St_copyOf : MV y_St_copyOf bc_St_copyOf 2 none 1 := ⟨gt_5 111 (by decide +kernel) (by decide +kernel), gt_5 112 (by decide +kernel) (by decide +kernel), gt_1 9 (by decide +kernel) (by decide +kernel), gt_5 113 rfl rfl, by decide +kernel⟩
theorem mt_St_allThirst : MV y_St_allThirst bc_St_allThirst 4 (some .int) 1 := ⟨gt_5 177 (by decide +kernel) (by decide +kernel), gt_5 178 (by decide +kernel) (by decide +kernel), gt_1 9 (by decide +kernel) (by decide +kernel), gt_5 179 rfl rfl, by decide +kernel⟩
theorem mt_Rn_isBetter : MV y_Rn_isBetter bc_Rn_isBetter 4 (some .boolean) 3 := ⟨gt_5 182 (by decide +kernel) (by decide +kernel), gt_sel (List.mem_of_getElem? (i := 49) (by decide +kernel)) (by decide +kernel), gt_1 11 (by decide +kernel) (by decide +kernel), gt_5 183 rfl rfl, by decide +kernel⟩
theorem mt_Rn_attempt : MV y_Rn_attempt bc_Rn_attempt 10 none 5 := ⟨gt_5 169 (by decide +kernel) (by decide +kernel), gt_sel (List.mem_of_getElem? (i := 48) (by decide +kernel)) (by decide +kernel), gt_1 11 (by decide +kernel) (by decide +kernel), gt_5 170 rfl rfl, by decide +kernel⟩
theorem mt_Rn_seek : MV y_Rn_seek bc_Rn_seek 9 none 6 := ⟨gt_5 143 (by decide +kernel) (by decide +kernel), gt_5 144 (by decide +kernel) (by decide +kernel), gt_1 11 (by decide +kernel) (by decide +kernel), gt_5 145 rfl rfl, by decide +kernel⟩
theorem mt_Rw_save : MV y_Rw_save bc_Rw_save 4 none 2 := ⟨gt_5 21 (by decide +kernel) (by decide +kernel), gt_5 22 (by decide +kernel) (by decide +kernel), gt_1 14 (by decide +kernel) (by decide +kernel), gt_5 23 rfl rfl, by decide +kernel⟩
theorem mt_Rw_load : MV y_Rw_load bc_Rw_load 4 none 2 := ⟨gt_5 91 (by decide +kernel) (by decide +kernel), gt_5 92 (by decide +kernel) (by decide +kernel), gt_1 14 (by decide +kernel) (by decide +kernel), gt_5 93 rfl rfl, by decide +kernel⟩
theorem mt_Sh_failed : MV y_Sh_failed bc_Sh_failed 2 (some .boolean) 1 := ⟨gt_4 18 (by decide +kernel) (by decide +kernel), gt_sel (List.mem_of_getElem? (i := 7) (by decide +kernel)) (by decide +kernel), gt_1 7 (by decide +kernel) (by decide +kernel), gt_4 19 rfl rfl, by decide +kernel⟩
theorem mt_Sh_mostOf : MS y_Sh_mostOf bc_Sh_mostOf 1 (some .int) 1 := ⟨gt_4 25 (by decide +kernel) (by decide +kernel), gt_1 7 (by decide +kernel) (by decide +kernel), gt_4 26 rfl rfl, by decide +kernel⟩
theorem mt_Sh_hasRoom : MV y_Sh_hasRoom bc_Sh_hasRoom 3 (some .boolean) 1 := ⟨gt_4 22 (by decide +kernel) (by decide +kernel), gt_sel (List.mem_of_getElem? (i := 8) (by decide +kernel)) (by decide +kernel), gt_1 7 (by decide +kernel) (by decide +kernel), gt_4 23 rfl rfl, by decide +kernel⟩
theorem mt_Sh_isTaken : MV y_Sh_isTaken bc_Sh_isTaken 2 (some .boolean) 1 := ⟨gt_4 29 (by decide +kernel) (by decide +kernel), gt_sel (List.mem_of_getElem? (i := 9) (by decide +kernel)) (by decide +kernel), gt_1 7 (by decide +kernel) (by decide +kernel), gt_4 30 rfl rfl, by decide +kernel⟩
theorem mt_JStr_coder : MV y_JStr_coder bc_JStr_coder 1 (some .byte) 0 := ⟨gt_1 43 (by decide +kernel) (by decide +kernel), gt_1 44 (by decide +kernel) (by decide +kernel), gt_1 3 (by decide +kernel) (by decide +kernel), gt_1 45 rfl rfl, by decide +kernel⟩
theorem mt_JStr_length : MV y_JStr_length bc_JStr_length 1 (some .int) 0 := ⟨gt_1 39 (by decide +kernel) (by decide +kernel), gt_1 40 (by decide +kernel) (by decide +kernel), gt_1 3 (by decide +kernel) (by decide +kernel), gt_1 41 rfl rfl, by decide +kernel⟩
theorem mt_JStr_isLatin1 : MV y_JStr_isLatin1 bc_JStr_isLatin1 1 (some .boolean) 0 := ⟨gt_1 53 (by decide +kernel) (by decide +kernel), gt_1 54 (by decide +kernel) (by decide +kernel), gt_1 3 (by decide +kernel) (by decide +kernel), gt_1 55 rfl rfl, by decide +kernel⟩
theorem mt_JPre_checkIndex : MS y_JPre_checkIndex bc_JPre_checkIndex 3 (some .int) 3 := ⟨gt_1 65 (by decide +kernel) (by decide +kernel), gt_1 5 (by decide +kernel) (by decide +kernel), gt_1 66 rfl rfl, by decide +kernel⟩
theorem mt_JStr_checkIndex : MS y_JStr_checkIndex bc_JStr_checkIndex 2 none 2 := ⟨gt_1 60 (by decide +kernel) (by decide +kernel), gt_1 3 (by decide +kernel) (by decide +kernel), gt_1 61 rfl rfl, by decide +kernel⟩
theorem mt_JLat_charAt : MS y_JLat_charAt bc_JLat_charAt 2 (some .char) 2 := ⟨gt_1 57 (by decide +kernel) (by decide +kernel), gt_1 4 (by decide +kernel) (by decide +kernel), gt_1 58 rfl rfl, by decide +kernel⟩
theorem mt_JStr_charAt : MV y_JStr_charAt bc_JStr_charAt 2 (some .char) 1 := ⟨gt_1 49 (by decide +kernel) (by decide +kernel), gt_1 50 (by decide +kernel) (by decide +kernel), gt_1 3 (by decide +kernel) (by decide +kernel), gt_1 51 rfl rfl, by decide +kernel⟩
theorem mt_Sh_areTaken : MV y_Sh_areTaken bc_Sh_areTaken 3 (some .boolean) 1 := ⟨gt_4 34 (by decide +kernel) (by decide +kernel), gt_sel (List.mem_of_getElem? (i := 10) (by decide +kernel)) (by decide +kernel), gt_1 7 (by decide +kernel) (by decide +kernel), gt_4 35 rfl rfl, by decide +kernel⟩
theorem mt_Sh_isRestOfSecret : MV y_Sh_isRestOfSecret bc_Sh_isRestOfSecret 2 (some .boolean) 0 := ⟨gt_4 41 (by decide +kernel) (by decide +kernel), gt_sel (List.mem_of_getElem? (i := 11) (by decide +kernel)) (by decide +kernel), gt_1 7 (by decide +kernel) (by decide +kernel), gt_4 42 rfl rfl, by decide +kernel⟩
theorem mt_Sh_isValue : MS y_Sh_isValue bc_Sh_isValue 1 (some .boolean) 1 := ⟨gt_4 58 (by decide +kernel) (by decide +kernel), gt_1 7 (by decide +kernel) (by decide +kernel), gt_4 59 rfl rfl, by decide +kernel⟩
theorem mt_Sh_isSign : MS y_Sh_isSign bc_Sh_isSign 1 (some .boolean) 1 := ⟨gt_4 61 (by decide +kernel) (by decide +kernel), gt_1 7 (by decide +kernel) (by decide +kernel), gt_4 62 rfl rfl, by decide +kernel⟩
theorem mt_Sh_isSum : MV y_Sh_isSum bc_Sh_isSum 5 (some .boolean) 0 := ⟨gt_4 55 (by decide +kernel) (by decide +kernel), gt_sel (List.mem_of_getElem? (i := 14) (by decide +kernel)) (by decide +kernel), gt_1 7 (by decide +kernel) (by decide +kernel), gt_4 56 rfl rfl, by decide +kernel⟩
theorem mt_Sh_isCase : MV y_Sh_isCase bc_Sh_isCase 1 (some .boolean) 0 := ⟨gt_4 51 (by decide +kernel) (by decide +kernel), gt_sel (List.mem_of_getElem? (i := 13) (by decide +kernel)) (by decide +kernel), gt_1 7 (by decide +kernel) (by decide +kernel), gt_4 52 rfl rfl, by decide +kernel⟩
theorem mt_Sh_isLaw : MV y_Sh_isLaw bc_Sh_isLaw 2 (some .boolean) 0 := ⟨gt_4 47 (by decide +kernel) (by decide +kernel), gt_sel (List.mem_of_getElem? (i := 12) (by decide +kernel)) (by decide +kernel), gt_1 7 (by decide +kernel) (by decide +kernel), gt_4 48 rfl rfl, by decide +kernel⟩
theorem mt_Sh_isTell : MV y_Sh_isTell bc_Sh_isTell 2 (some .boolean) 0 := ⟨gt_4 14 (by decide +kernel) (by decide +kernel), gt_sel (List.mem_of_getElem? (i := 6) (by decide +kernel)) (by decide +kernel), gt_1 7 (by decide +kernel) (by decide +kernel), gt_4 15 rfl rfl, by decide +kernel⟩
theorem mt_Sh_seek : MV y_Sh_seek bc_Sh_seek 3 (some .int) 0 := ⟨gt_4 4 (by decide +kernel) (by decide +kernel), gt_4 5 (by decide +kernel) (by decide +kernel), gt_1 7 (by decide +kernel) (by decide +kernel), gt_4 6 rfl rfl, by decide +kernel⟩
theorem mt_St_begin : MV y_St_begin bc_St_begin 2 none 1 := ⟨gt_3 47 (by decide +kernel) (by decide +kernel), gt_3 48 (by decide +kernel) (by decide +kernel), gt_1 9 (by decide +kernel) (by decide +kernel), gt_3 49 rfl rfl, by decide +kernel⟩
theorem mt_St_whisperedInto : MV y_St_whisperedInto bc_St_whisperedInto 5 (some .int) 2 := ⟨gt_4 185 (by decide +kernel) (by decide +kernel), gt_4 186 (by decide +kernel) (by decide +kernel), gt_1 9 (by decide +kernel) (by decide +kernel), gt_4 187 rfl rfl, by decide +kernel⟩
theorem mt_St_allWater : MV y_St_allWater bc_St_allWater 4 (some .int) 1 := ⟨gt_5 9 (by decide +kernel) (by decide +kernel), gt_5 10 (by decide +kernel) (by decide +kernel), gt_1 9 (by decide +kernel) (by decide +kernel), gt_5 11 rfl rfl, by decide +kernel⟩
theorem mt_Tp_append : MV y_Tp_append bc_Tp_append 3 none 1 := ⟨gt_3 143 (by decide +kernel) (by decide +kernel), gt_3 144 (by decide +kernel) (by decide +kernel), gt_1 2 (by decide +kernel) (by decide +kernel), gt_3 145 rfl rfl, by decide +kernel⟩
theorem mt_Tp_isBlank : MS y_Tp_isBlank bc_Tp_isBlank 1 (some .boolean) 1 := ⟨gt_3 163 (by decide +kernel) (by decide +kernel), gt_1 2 (by decide +kernel) (by decide +kernel), gt_3 164 rfl rfl, by decide +kernel⟩
theorem mt_Tp_behindBlanks : MV y_Tp_behindBlanks bc_Tp_behindBlanks 3 (some .int) 1 := ⟨gt_3 160 (by decide +kernel) (by decide +kernel), gt_sel (List.mem_of_getElem? (i := 1) (by decide +kernel)) (by decide +kernel), gt_1 2 (by decide +kernel) (by decide +kernel), gt_3 161 rfl rfl, by decide +kernel⟩
theorem mt_Tp_isLetter : MS y_Tp_isLetter bc_Tp_isLetter 1 (some .boolean) 1 := ⟨gt_3 170 (by decide +kernel) (by decide +kernel), gt_1 2 (by decide +kernel) (by decide +kernel), gt_3 171 rfl rfl, by decide +kernel⟩
theorem mt_Tp_withLetter : MS y_Tp_withLetter bc_Tp_withLetter 3 (some .long) 2 := ⟨gt_1 87 (by decide +kernel) (by decide +kernel), gt_1 2 (by decide +kernel) (by decide +kernel), gt_1 88 rfl rfl, by decide +kernel⟩
theorem mt_Tp_kindOf : MV y_Tp_kindOf bc_Tp_kindOf 4 (some .int) 1 := ⟨gt_3 178 (by decide +kernel) (by decide +kernel), gt_sel (List.mem_of_getElem? (i := 4) (by decide +kernel)) (by decide +kernel), gt_1 2 (by decide +kernel) (by decide +kernel), gt_3 179 rfl rfl, by decide +kernel⟩
theorem mt_Tp_scanLetters : MV y_Tp_scanLetters bc_Tp_scanLetters 6 (some .int) 2 := ⟨gt_3 174 (by decide +kernel) (by decide +kernel), gt_sel (List.mem_of_getElem? (i := 3) (by decide +kernel)) (by decide +kernel), gt_1 2 (by decide +kernel) (by decide +kernel), gt_3 175 rfl rfl, by decide +kernel⟩
theorem mt_Tp_isDigit : MS y_Tp_isDigit bc_Tp_isDigit 1 (some .boolean) 1 := ⟨gt_3 181 (by decide +kernel) (by decide +kernel), gt_1 2 (by decide +kernel) (by decide +kernel), gt_3 182 rfl rfl, by decide +kernel⟩
theorem mt_Tp_scanDigits : MV y_Tp_scanDigits bc_Tp_scanDigits 5 (some .int) 2 := ⟨gt_3 185 (by decide +kernel) (by decide +kernel), gt_sel (List.mem_of_getElem? (i := 5) (by decide +kernel)) (by decide +kernel), gt_1 2 (by decide +kernel) (by decide +kernel), gt_3 186 rfl rfl, by decide +kernel⟩
theorem mt_JLat_canEncode : MS y_JLat_canEncode bc_JLat_canEncode 1 (some .boolean) 1 := ⟨gt_3 201 (by decide +kernel) (by decide +kernel), gt_1 4 (by decide +kernel) (by decide +kernel), gt_3 202 rfl rfl, by decide +kernel⟩
theorem mt_JLat_indexOfChar : MS y_JLat_indexOfChar bc_JLat_indexOfChar 6 (some .int) 4 := ⟨gt_3 206 (by decide +kernel) (by decide +kernel), gt_1 4 (by decide +kernel) (by decide +kernel), gt_3 207 rfl rfl, by decide +kernel⟩
theorem mt_JLat_indexOf : MS y_JLat_indexOf bc_JLat_indexOf 4 (some .int) 4 := ⟨gt_3 198 (by decide +kernel) (by decide +kernel), gt_1 4 (by decide +kernel) (by decide +kernel), gt_3 199 rfl rfl, by decide +kernel⟩
theorem mt_JStr_indexOf2 : MV y_JStr_indexOf2 bc_JStr_indexOf2 3 (some .int) 2 := ⟨gt_3 193 (by decide +kernel) (by decide +kernel), gt_3 194 (by decide +kernel) (by decide +kernel), gt_1 3 (by decide +kernel) (by decide +kernel), gt_3 195 rfl rfl, by decide +kernel⟩
theorem mt_JStr_indexOf : MV y_JStr_indexOf bc_JStr_indexOf 2 (some .int) 1 := ⟨gt_3 189 (by decide +kernel) (by decide +kernel), gt_3 190 (by decide +kernel) (by decide +kernel), gt_1 3 (by decide +kernel) (by decide +kernel), gt_3 191 rfl rfl, by decide +kernel⟩
theorem mt_Tp_scanOne : MV y_Tp_scanOne bc_Tp_scanOne 4 (some .int) 2 := ⟨gt_3 167 (by decide +kernel) (by decide +kernel), gt_sel (List.mem_of_getElem? (i := 2) (by decide +kernel)) (by decide +kernel), gt_1 2 (by decide +kernel) (by decide +kernel), gt_3 168 rfl rfl, by decide +kernel⟩
theorem mt_Tp_scan : MV y_Tp_scan bc_Tp_scan 3 none 0 := ⟨gt_3 155 (by decide +kernel) (by decide +kernel), gt_3 156 (by decide +kernel) (by decide +kernel), gt_1 2 (by decide +kernel) (by decide +kernel), gt_3 157 rfl rfl, by decide +kernel⟩
theorem mt_Co_feed : MV y_Co_feed bc_Co_feed 6 (some .int) 5 := ⟨gt_3 139 (by decide +kernel) (by decide +kernel), gt_3 140 (by decide +kernel) (by decide +kernel), gt_1 1 (by decide +kernel) (by decide +kernel), gt_3 141 rfl rfl, by decide +kernel⟩
theorem mt_Co_back : MV y_Co_back bc_Co_back 2 (some .int) 1 := ⟨gt_3 147 (by decide +kernel) (by decide +kernel), gt_3 148 (by decide +kernel) (by decide +kernel), gt_1 1 (by decide +kernel) (by decide +kernel), gt_3 149 rfl rfl, by decide +kernel⟩
theorem mt_Co_forgetDone : MV y_Co_forgetDone bc_Co_forgetDone 1 none 0 := ⟨gt_4 164 (by decide +kernel) (by decide +kernel), gt_sel (List.mem_of_getElem? (i := 30) (by decide +kernel)) (by decide +kernel), gt_1 1 (by decide +kernel) (by decide +kernel), gt_4 165 rfl rfl, by decide +kernel⟩
theorem mt_Co_changed : MV y_Co_changed bc_Co_changed 1 none 0 := ⟨gt_4 168 (by decide +kernel) (by decide +kernel), gt_sel (List.mem_of_getElem? (i := 31) (by decide +kernel)) (by decide +kernel), gt_1 1 (by decide +kernel) (by decide +kernel), gt_4 169 rfl rfl, by decide +kernel⟩
theorem mt_Co_beginAnew : MV y_Co_beginAnew bc_Co_beginAnew 2 none 0 := ⟨gt_4 160 (by decide +kernel) (by decide +kernel), gt_sel (List.mem_of_getElem? (i := 29) (by decide +kernel)) (by decide +kernel), gt_1 1 (by decide +kernel) (by decide +kernel), gt_4 161 rfl rfl, by decide +kernel⟩
theorem mt_Co_read : MV y_Co_read bc_Co_read 2 (some .int) 0 := ⟨gt_3 151 (by decide +kernel) (by decide +kernel), gt_3 152 (by decide +kernel) (by decide +kernel), gt_1 1 (by decide +kernel) (by decide +kernel), gt_3 153 rfl rfl, by decide +kernel⟩
theorem mt_Co_place : MV y_Co_place bc_Co_place 1 (some .int) 0 := ⟨gt_4 173 (by decide +kernel) (by decide +kernel), gt_4 174 (by decide +kernel) (by decide +kernel), gt_1 1 (by decide +kernel) (by decide +kernel), gt_4 175 rfl rfl, by decide +kernel⟩
theorem mt_Co_isWell : MV y_Co_isWell bc_Co_isWell 2 (some .boolean) 1 := ⟨gt_4 182 (by decide +kernel) (by decide +kernel), gt_sel (List.mem_of_getElem? (i := 32) (by decide +kernel)) (by decide +kernel), gt_1 1 (by decide +kernel) (by decide +kernel), gt_4 183 rfl rfl, by decide +kernel⟩
theorem mt_Co_well : MV y_Co_well bc_Co_well 3 (some .int) 2 := ⟨gt_4 177 (by decide +kernel) (by decide +kernel), gt_4 178 (by decide +kernel) (by decide +kernel), gt_1 1 (by decide +kernel) (by decide +kernel), gt_4 179 rfl rfl, by decide +kernel⟩
theorem mt_Co_isMan : MV y_Co_isMan bc_Co_isMan 2 (some .boolean) 1 := ⟨gt_4 211 (by decide +kernel) (by decide +kernel), gt_sel (List.mem_of_getElem? (i := 34) (by decide +kernel)) (by decide +kernel), gt_1 1 (by decide +kernel) (by decide +kernel), gt_4 212 rfl rfl, by decide +kernel⟩
theorem mt_Co_man : MV y_Co_man bc_Co_man 3 (some .int) 2 := ⟨gt_4 206 (by decide +kernel) (by decide +kernel), gt_4 207 (by decide +kernel) (by decide +kernel), gt_1 1 (by decide +kernel) (by decide +kernel), gt_4 208 rfl rfl, by decide +kernel⟩
theorem mt_Co_isSecret : MV y_Co_isSecret bc_Co_isSecret 2 (some .boolean) 1 := ⟨gt_4 228 (by decide +kernel) (by decide +kernel), gt_sel (List.mem_of_getElem? (i := 35) (by decide +kernel)) (by decide +kernel), gt_1 1 (by decide +kernel) (by decide +kernel), gt_4 229 rfl rfl, by decide +kernel⟩
theorem mt_Co_secret : MV y_Co_secret bc_Co_secret 4 (some .int) 2 := ⟨gt_4 223 (by decide +kernel) (by decide +kernel), gt_4 224 (by decide +kernel) (by decide +kernel), gt_1 1 (by decide +kernel) (by decide +kernel), gt_4 225 rfl rfl, by decide +kernel⟩
theorem mt_Co_isTie : MV y_Co_isTie bc_Co_isTie 2 (some .boolean) 1 := ⟨gt_4 238 (by decide +kernel) (by decide +kernel), gt_sel (List.mem_of_getElem? (i := 36) (by decide +kernel)) (by decide +kernel), gt_1 1 (by decide +kernel) (by decide +kernel), gt_4 239 rfl rfl, by decide +kernel⟩
theorem mt_Co_tells : MV y_Co_tells bc_Co_tells 3 (some .int) 2 := ⟨gt_4 233 (by decide +kernel) (by decide +kernel), gt_4 234 (by decide +kernel) (by decide +kernel), gt_1 1 (by decide +kernel) (by decide +kernel), gt_4 235 rfl rfl, by decide +kernel⟩
theorem mt_Co_count : MV y_Co_count bc_Co_count 2 (some .int) 1 := ⟨gt_5 5 (by decide +kernel) (by decide +kernel), gt_5 6 (by decide +kernel) (by decide +kernel), gt_1 1 (by decide +kernel) (by decide +kernel), gt_5 7 rfl rfl, by decide +kernel⟩
theorem mt_Co_keepForUndo : MV y_Co_keepForUndo bc_Co_keepForUndo 1 none 0 := ⟨gt_5 18 (by decide +kernel) (by decide +kernel), gt_sel (List.mem_of_getElem? (i := 37) (by decide +kernel)) (by decide +kernel), gt_1 1 (by decide +kernel) (by decide +kernel), gt_5 19 rfl rfl, by decide +kernel⟩
theorem mt_Co_days : MV y_Co_days bc_Co_days 3 (some .int) 1 := ⟨gt_5 13 (by decide +kernel) (by decide +kernel), gt_5 14 (by decide +kernel) (by decide +kernel), gt_1 1 (by decide +kernel) (by decide +kernel), gt_5 15 rfl rfl, by decide +kernel⟩
theorem mt_Co_whisperInto : MV y_Co_whisperInto bc_Co_whisperInto 5 (some .int) 4 := ⟨gt_5 62 (by decide +kernel) (by decide +kernel), gt_sel (List.mem_of_getElem? (i := 40) (by decide +kernel)) (by decide +kernel), gt_1 1 (by decide +kernel) (by decide +kernel), gt_5 63 rfl rfl, by decide +kernel⟩
theorem mt_Co_whisper : MV y_Co_whisper bc_Co_whisper 4 (some .int) 3 := ⟨gt_5 57 (by decide +kernel) (by decide +kernel), gt_5 58 (by decide +kernel) (by decide +kernel), gt_1 1 (by decide +kernel) (by decide +kernel), gt_5 59 rfl rfl, by decide +kernel⟩
theorem mt_Co_drill : MV y_Co_drill bc_Co_drill 4 (some .int) 3 := ⟨gt_5 70 (by decide +kernel) (by decide +kernel), gt_5 71 (by decide +kernel) (by decide +kernel), gt_1 1 (by decide +kernel) (by decide +kernel), gt_5 72 rfl rfl, by decide +kernel⟩
theorem mt_Co_tell : MV y_Co_tell bc_Co_tell 4 (some .boolean) 3 := ⟨gt_5 74 (by decide +kernel) (by decide +kernel), gt_5 75 (by decide +kernel) (by decide +kernel), gt_1 1 (by decide +kernel) (by decide +kernel), gt_5 76 rfl rfl, by decide +kernel⟩
theorem mt_Co_go : MV y_Co_go bc_Co_go 3 (some .boolean) 2 := ⟨gt_5 78 (by decide +kernel) (by decide +kernel), gt_5 79 (by decide +kernel) (by decide +kernel), gt_1 1 (by decide +kernel) (by decide +kernel), gt_5 80 rfl rfl, by decide +kernel⟩
theorem mt_Co_cut : MV y_Co_cut bc_Co_cut 3 (some .boolean) 2 := ⟨gt_5 82 (by decide +kernel) (by decide +kernel), gt_5 83 (by decide +kernel) (by decide +kernel), gt_1 1 (by decide +kernel) (by decide +kernel), gt_5 84 rfl rfl, by decide +kernel⟩
theorem mt_Co_undo : MV y_Co_undo bc_Co_undo 1 (some .boolean) 0 := ⟨gt_5 87 (by decide +kernel) (by decide +kernel), gt_5 88 (by decide +kernel) (by decide +kernel), gt_1 1 (by decide +kernel) (by decide +kernel), gt_5 89 rfl rfl, by decide +kernel⟩
theorem mt_Co_hold : MV y_Co_hold bc_Co_hold 2 (some .boolean) 1 := ⟨gt_5 95 (by decide +kernel) (by decide +kernel), gt_5 96 (by decide +kernel) (by decide +kernel), gt_1 1 (by decide +kernel) (by decide +kernel), gt_5 97 rfl rfl, by decide +kernel⟩
theorem mt_Co_restore : MV y_Co_restore bc_Co_restore 2 (some .boolean) 1 := ⟨gt_5 99 (by decide +kernel) (by decide +kernel), gt_5 100 (by decide +kernel) (by decide +kernel), gt_1 1 (by decide +kernel) (by decide +kernel), gt_5 101 rfl rfl, by decide +kernel⟩
theorem mt_Co_lookAhead : MV y_Co_lookAhead bc_Co_lookAhead 4 none 2 := ⟨gt_5 108 (by decide +kernel) (by decide +kernel), gt_sel (List.mem_of_getElem? (i := 41) (by decide +kernel)) (by decide +kernel), gt_1 1 (by decide +kernel) (by decide +kernel), gt_5 109 rfl rfl, by decide +kernel⟩
theorem mt_Co_wellIn : MV y_Co_wellIn bc_Co_wellIn 4 (some .int) 3 := ⟨gt_5 103 (by decide +kernel) (by decide +kernel), gt_5 104 (by decide +kernel) (by decide +kernel), gt_1 1 (by decide +kernel) (by decide +kernel), gt_5 105 rfl rfl, by decide +kernel⟩
theorem mt_Co_manIn : MV y_Co_manIn bc_Co_manIn 4 (some .int) 3 := ⟨gt_5 115 (by decide +kernel) (by decide +kernel), gt_5 116 (by decide +kernel) (by decide +kernel), gt_1 1 (by decide +kernel) (by decide +kernel), gt_5 117 rfl rfl, by decide +kernel⟩
theorem mt_Co_dryBy : MV y_Co_dryBy bc_Co_dryBy 3 (some .int) 1 := ⟨gt_5 119 (by decide +kernel) (by decide +kernel), gt_5 120 (by decide +kernel) (by decide +kernel), gt_1 1 (by decide +kernel) (by decide +kernel), gt_5 121 rfl rfl, by decide +kernel⟩
theorem mt_JInt_numberOfTrailingZeros : MS y_JInt_numberOfTrailingZeros bc_JInt_numberOfTrailingZeros 2 (some .int) 1 := ⟨gt_5 127 (by decide +kernel) (by decide +kernel), gt_1 20 (by decide +kernel) (by decide +kernel), gt_5 128 rfl rfl, by decide +kernel⟩
theorem mt_Co_first : MV y_Co_first bc_Co_first 4 (some .int) 1 := ⟨gt_5 123 (by decide +kernel) (by decide +kernel), gt_5 124 (by decide +kernel) (by decide +kernel), gt_1 1 (by decide +kernel) (by decide +kernel), gt_5 125 rfl rfl, by decide +kernel⟩
theorem mt_Co_isSet : MV y_Co_isSet bc_Co_isSet 2 (some .boolean) 1 := ⟨gt_5 140 (by decide +kernel) (by decide +kernel), gt_sel (List.mem_of_getElem? (i := 43) (by decide +kernel)) (by decide +kernel), gt_1 1 (by decide +kernel) (by decide +kernel), gt_5 141 rfl rfl, by decide +kernel⟩
theorem mt_Co_isRain : MV y_Co_isRain bc_Co_isRain 3 (some .boolean) 2 := ⟨gt_5 136 (by decide +kernel) (by decide +kernel), gt_sel (List.mem_of_getElem? (i := 42) (by decide +kernel)) (by decide +kernel), gt_1 1 (by decide +kernel) (by decide +kernel), gt_5 137 rfl rfl, by decide +kernel⟩
theorem mt_Co_rain : MV y_Co_rain bc_Co_rain 4 (some .int) 3 := ⟨gt_5 131 (by decide +kernel) (by decide +kernel), gt_5 132 (by decide +kernel) (by decide +kernel), gt_1 1 (by decide +kernel) (by decide +kernel), gt_5 133 rfl rfl, by decide +kernel⟩
theorem mt_Co_rainAt : MV y_Co_rainAt bc_Co_rainAt 4 (some .int) 3 := ⟨gt_5 186 (by decide +kernel) (by decide +kernel), gt_5 187 (by decide +kernel) (by decide +kernel), gt_1 1 (by decide +kernel) (by decide +kernel), gt_5 188 rfl rfl, by decide +kernel⟩
theorem mt_Co_isSeeds : MS y_Co_isSeeds bc_Co_isSeeds 2 (some .boolean) 2 := ⟨gt_5 194 (by decide +kernel) (by decide +kernel), gt_1 1 (by decide +kernel) (by decide +kernel), gt_5 195 rfl rfl, by decide +kernel⟩
theorem mt_Co_odds : MV y_Co_odds bc_Co_odds 7 (some .int) 4 := ⟨gt_5 190 (by decide +kernel) (by decide +kernel), gt_5 191 (by decide +kernel) (by decide +kernel), gt_1 1 (by decide +kernel) (by decide +kernel), gt_5 192 rfl rfl, by decide +kernel⟩
theorem mt_Co_deaths : MV y_Co_deaths bc_Co_deaths 5 (some .int) 2 := ⟨gt_5 197 (by decide +kernel) (by decide +kernel), gt_5 198 (by decide +kernel) (by decide +kernel), gt_1 1 (by decide +kernel) (by decide +kernel), gt_5 199 rfl rfl, by decide +kernel⟩
theorem mt_Co_worth : MV y_Co_worth bc_Co_worth 4 (some .int) 1 := ⟨gt_5 201 (by decide +kernel) (by decide +kernel), gt_5 202 (by decide +kernel) (by decide +kernel), gt_1 1 (by decide +kernel) (by decide +kernel), gt_5 203 rfl rfl, by decide +kernel⟩
theorem mt_Co_silence : MV y_Co_silence bc_Co_silence 5 (some .int) 3 := ⟨gt_5 207 (by decide +kernel) (by decide +kernel), gt_5 208 (by decide +kernel) (by decide +kernel), gt_1 1 (by decide +kernel) (by decide +kernel), gt_5 209 rfl rfl, by decide +kernel⟩
theorem mt_Co_reach : MV y_Co_reach bc_Co_reach 3 (some .int) 1 := ⟨gt_5 227 (by decide +kernel) (by decide +kernel), gt_5 228 (by decide +kernel) (by decide +kernel), gt_1 1 (by decide +kernel) (by decide +kernel), gt_5 229 rfl rfl, by decide +kernel⟩
theorem mt_Co_holds : MV y_Co_holds bc_Co_holds 3 (some .int) 2 := ⟨gt_5 233 (by decide +kernel) (by decide +kernel), gt_5 234 (by decide +kernel) (by decide +kernel), gt_1 1 (by decide +kernel) (by decide +kernel), gt_5 235 rfl rfl, by decide +kernel⟩
theorem mt_Co_rings : MV y_Co_rings bc_Co_rings 4 (some .int) 0 := ⟨gt_6 1 (by decide +kernel) (by decide +kernel), gt_6 2 (by decide +kernel) (by decide +kernel), gt_1 1 (by decide +kernel) (by decide +kernel), gt_6 3 rfl rfl, by decide +kernel⟩
theorem mt_Co_quiet : MV y_Co_quiet bc_Co_quiet 3 (some .int) 2 := ⟨gt_6 5 (by decide +kernel) (by decide +kernel), gt_6 6 (by decide +kernel) (by decide +kernel), gt_1 1 (by decide +kernel) (by decide +kernel), gt_6 7 rfl rfl, by decide +kernel⟩
theorem mt_Co_note : MV y_Co_note bc_Co_note 4 (some .int) 3 := ⟨gt_6 33 (by decide +kernel) (by decide +kernel), gt_6 34 (by decide +kernel) (by decide +kernel), gt_1 1 (by decide +kernel) (by decide +kernel), gt_6 35 rfl rfl, by decide +kernel⟩
theorem mt_Co_forget : MV y_Co_forget bc_Co_forget 2 (some .int) 0 := ⟨gt_6 41 (by decide +kernel) (by decide +kernel), gt_6 42 (by decide +kernel) (by decide +kernel), gt_1 1 (by decide +kernel) (by decide +kernel), gt_6 43 rfl rfl, by decide +kernel⟩
theorem mt_Co_isKnownBy : MV y_Co_isKnownBy bc_Co_isKnownBy 2 (some .boolean) 1 := ⟨gt_6 50 (by decide +kernel) (by decide +kernel), gt_sel (List.mem_of_getElem? (i := 54) (by decide +kernel)) (by decide +kernel), gt_1 1 (by decide +kernel) (by decide +kernel), gt_6 51 rfl rfl, by decide +kernel⟩
theorem mt_Co_truth : MV y_Co_truth bc_Co_truth 3 (some .int) 2 := ⟨gt_6 45 (by decide +kernel) (by decide +kernel), gt_6 46 (by decide +kernel) (by decide +kernel), gt_1 1 (by decide +kernel) (by decide +kernel), gt_6 47 rfl rfl, by decide +kernel⟩
theorem mt_Co_sure : MV y_Co_sure bc_Co_sure 3 (some .int) 2 := ⟨gt_6 61 (by decide +kernel) (by decide +kernel), gt_6 62 (by decide +kernel) (by decide +kernel), gt_1 1 (by decide +kernel) (by decide +kernel), gt_6 63 rfl rfl, by decide +kernel⟩
theorem mt_Co_next : MV y_Co_next bc_Co_next 3 (some .int) 2 := ⟨gt_6 69 (by decide +kernel) (by decide +kernel), gt_6 70 (by decide +kernel) (by decide +kernel), gt_1 1 (by decide +kernel) (by decide +kernel), gt_6 71 rfl rfl, by decide +kernel⟩
theorem mt_Mo_put : MV y_Mo_put bc_Mo_put 3 none 1 := ⟨gt_7 127 (by decide +kernel) (by decide +kernel), gt_sel (List.mem_of_getElem? (i := 67) (by decide +kernel)) (by decide +kernel), gt_1 21 (by decide +kernel) (by decide +kernel), gt_7 128 rfl rfl, by decide +kernel⟩
theorem mt_Mo_feed : MV y_Mo_feed bc_Mo_feed 6 (some .int) 5 := ⟨gt_7 122 (by decide +kernel) (by decide +kernel), gt_7 123 (by decide +kernel) (by decide +kernel), gt_1 21 (by decide +kernel) (by decide +kernel), gt_7 124 rfl rfl, by decide +kernel⟩
theorem mt_Mo_back : MV y_Mo_back bc_Mo_back 2 (some .int) 1 := ⟨gt_7 130 (by decide +kernel) (by decide +kernel), gt_7 131 (by decide +kernel) (by decide +kernel), gt_1 21 (by decide +kernel) (by decide +kernel), gt_7 132 rfl rfl, by decide +kernel⟩
theorem mt_Mo_byteAt : MV y_Mo_byteAt bc_Mo_byteAt 2 (some .int) 1 := ⟨gt_7 143 (by decide +kernel) (by decide +kernel), gt_sel (List.mem_of_getElem? (i := 69) (by decide +kernel)) (by decide +kernel), gt_1 21 (by decide +kernel) (by decide +kernel), gt_7 144 rfl rfl, by decide +kernel⟩
theorem mt_Mo_isDigit : MS y_Mo_isDigit bc_Mo_isDigit 1 (some .boolean) 1 := ⟨gt_7 153 (by decide +kernel) (by decide +kernel), gt_1 21 (by decide +kernel) (by decide +kernel), gt_7 154 rfl rfl, by decide +kernel⟩
theorem mt_Mo_isLetter : MS y_Mo_isLetter bc_Mo_isLetter 1 (some .boolean) 1 := ⟨gt_7 150 (by decide +kernel) (by decide +kernel), gt_1 21 (by decide +kernel) (by decide +kernel), gt_7 151 rfl rfl, by decide +kernel⟩
theorem mt_Mo_appends : MS y_Mo_appends bc_Mo_appends 3 (some .long) 2 := ⟨gt_6 96 (by decide +kernel) (by decide +kernel), gt_1 21 (by decide +kernel) (by decide +kernel), gt_6 97 rfl rfl, by decide +kernel⟩
theorem mt_Mo_word : MS y_Mo_word bc_Mo_word 7 (some .long) 7 := ⟨gt_6 93 (by decide +kernel) (by decide +kernel), gt_1 21 (by decide +kernel) (by decide +kernel), gt_6 94 rfl rfl, by decide +kernel⟩
theorem mt_Mo_token : MV y_Mo_token bc_Mo_token 6 none 4 := ⟨gt_7 147 (by decide +kernel) (by decide +kernel), gt_sel (List.mem_of_getElem? (i := 70) (by decide +kernel)) (by decide +kernel), gt_1 21 (by decide +kernel) (by decide +kernel), gt_7 148 rfl rfl, by decide +kernel⟩
theorem mt_Mo_sign : MV y_Mo_sign bc_Mo_sign 5 (some .int) 3 := ⟨gt_7 157 (by decide +kernel) (by decide +kernel), gt_sel (List.mem_of_getElem? (i := 71) (by decide +kernel)) (by decide +kernel), gt_1 21 (by decide +kernel) (by decide +kernel), gt_7 158 rfl rfl, by decide +kernel⟩
theorem mt_Mo_cut0 : MV y_Mo_cut0 bc_Mo_cut0 8 none 0 := ⟨gt_7 139 (by decide +kernel) (by decide +kernel), gt_sel (List.mem_of_getElem? (i := 68) (by decide +kernel)) (by decide +kernel), gt_1 21 (by decide +kernel) (by decide +kernel), gt_7 140 rfl rfl, by decide +kernel⟩
theorem mt_Mo_is : MV y_Mo_is bc_Mo_is 2 (some .boolean) 1 := ⟨gt_7 161 (by decide +kernel) (by decide +kernel), gt_sel (List.mem_of_getElem? (i := 72) (by decide +kernel)) (by decide +kernel), gt_1 21 (by decide +kernel) (by decide +kernel), gt_7 162 rfl rfl, by decide +kernel⟩
theorem mt_Mo_fail : MV y_Mo_fail bc_Mo_fail 2 none 1 := ⟨gt_7 173 (by decide +kernel) (by decide +kernel), gt_sel (List.mem_of_getElem? (i := 75) (by decide +kernel)) (by decide +kernel), gt_1 21 (by decide +kernel) (by decide +kernel), gt_7 174 rfl rfl, by decide +kernel⟩
theorem mt_Mo_wrong : MV y_Mo_wrong bc_Mo_wrong 4 none 2 := ⟨gt_7 193 (by decide +kernel) (by decide +kernel), gt_sel (List.mem_of_getElem? (i := 80) (by decide +kernel)) (by decide +kernel), gt_1 21 (by decide +kernel) (by decide +kernel), gt_7 194 rfl rfl, by decide +kernel⟩
theorem mt_Mo_goesOn : MV y_Mo_goesOn bc_Mo_goesOn 1 none 0 := ⟨gt_7 177 (by decide +kernel) (by decide +kernel), gt_sel (List.mem_of_getElem? (i := 76) (by decide +kernel)) (by decide +kernel), gt_1 21 (by decide +kernel) (by decide +kernel), gt_7 178 rfl rfl, by decide +kernel⟩
theorem mt_Mo_must : MV y_Mo_must bc_Mo_must 2 none 1 := ⟨gt_7 189 (by decide +kernel) (by decide +kernel), gt_sel (List.mem_of_getElem? (i := 79) (by decide +kernel)) (by decide +kernel), gt_1 21 (by decide +kernel) (by decide +kernel), gt_7 190 rfl rfl, by decide +kernel⟩
theorem mt_Mo_plain : MV y_Mo_plain bc_Mo_plain 3 none 1 := ⟨gt_6 90 (by decide +kernel) (by decide +kernel), gt_sel (List.mem_of_getElem? (i := 57) (by decide +kernel)) (by decide +kernel), gt_1 21 (by decide +kernel) (by decide +kernel), gt_6 91 rfl rfl, by decide +kernel⟩
theorem mt_Mo_roomFor : MV y_Mo_roomFor bc_Mo_roomFor 3 none 2 := ⟨gt_7 169 (by decide +kernel) (by decide +kernel), gt_sel (List.mem_of_getElem? (i := 74) (by decide +kernel)) (by decide +kernel), gt_1 21 (by decide +kernel) (by decide +kernel), gt_7 170 rfl rfl, by decide +kernel⟩
theorem mt_Mo_named : MV y_Mo_named bc_Mo_named 3 (some .int) 0 := ⟨gt_7 185 (by decide +kernel) (by decide +kernel), gt_sel (List.mem_of_getElem? (i := 78) (by decide +kernel)) (by decide +kernel), gt_1 21 (by decide +kernel) (by decide +kernel), gt_7 186 rfl rfl, by decide +kernel⟩
theorem mt_Mo_bounded : MV y_Mo_bounded bc_Mo_bounded 4 (some .int) 2 := ⟨gt_7 197 (by decide +kernel) (by decide +kernel), gt_sel (List.mem_of_getElem? (i := 81) (by decide +kernel)) (by decide +kernel), gt_1 21 (by decide +kernel) (by decide +kernel), gt_7 198 rfl rfl, by decide +kernel⟩
theorem mt_Mo_notes : MV y_Mo_notes bc_Mo_notes 4 none 3 := ⟨gt_7 201 (by decide +kernel) (by decide +kernel), gt_sel (List.mem_of_getElem? (i := 82) (by decide +kernel)) (by decide +kernel), gt_1 21 (by decide +kernel) (by decide +kernel), gt_7 202 rfl rfl, by decide +kernel⟩
theorem mt_Mo_tellWell : MV y_Mo_tellWell bc_Mo_tellWell 3 none 0 := ⟨gt_7 181 (by decide +kernel) (by decide +kernel), gt_sel (List.mem_of_getElem? (i := 77) (by decide +kernel)) (by decide +kernel), gt_1 21 (by decide +kernel) (by decide +kernel), gt_7 182 rfl rfl, by decide +kernel⟩
theorem mt_Mo_known : MV y_Mo_known bc_Mo_known 4 (some .int) 1 := ⟨gt_7 209 (by decide +kernel) (by decide +kernel), gt_sel (List.mem_of_getElem? (i := 84) (by decide +kernel)) (by decide +kernel), gt_1 21 (by decide +kernel) (by decide +kernel), gt_7 210 rfl rfl, by decide +kernel⟩
theorem mt_Mo_tellMan : MV y_Mo_tellMan bc_Mo_tellMan 3 none 0 := ⟨gt_7 205 (by decide +kernel) (by decide +kernel), gt_sel (List.mem_of_getElem? (i := 83) (by decide +kernel)) (by decide +kernel), gt_1 21 (by decide +kernel) (by decide +kernel), gt_7 206 rfl rfl, by decide +kernel⟩
theorem mt_Mo_tellSecret : MV y_Mo_tellSecret bc_Mo_tellSecret 6 none 0 := ⟨gt_7 213 (by decide +kernel) (by decide +kernel), gt_sel (List.mem_of_getElem? (i := 85) (by decide +kernel)) (by decide +kernel), gt_1 21 (by decide +kernel) (by decide +kernel), gt_7 214 rfl rfl, by decide +kernel⟩
theorem mt_Mo_tellTie : MV y_Mo_tellTie bc_Mo_tellTie 3 none 0 := ⟨gt_7 217 (by decide +kernel) (by decide +kernel), gt_sel (List.mem_of_getElem? (i := 86) (by decide +kernel)) (by decide +kernel), gt_1 21 (by decide +kernel) (by decide +kernel), gt_7 218 rfl rfl, by decide +kernel⟩
theorem mt_Mo_emit : MV y_Mo_emit bc_Mo_emit 3 none 2 := ⟨gt_7 233 (by decide +kernel) (by decide +kernel), gt_sel (List.mem_of_getElem? (i := 90) (by decide +kernel)) (by decide +kernel), gt_1 21 (by decide +kernel) (by decide +kernel), gt_7 234 rfl rfl, by decide +kernel⟩
theorem mt_Mo_unit : MV y_Mo_unit bc_Mo_unit 1 none 0 := ⟨gt_7 229 (by decide +kernel) (by decide +kernel), gt_sel (List.mem_of_getElem? (i := 89) (by decide +kernel)) (by decide +kernel), gt_1 21 (by decide +kernel) (by decide +kernel), gt_7 230 rfl rfl, by decide +kernel⟩
theorem mt_Mo_comesOut : MV y_Mo_comesOut bc_Mo_comesOut 3 none 1 := ⟨gt_7 237 (by decide +kernel) (by decide +kernel), gt_sel (List.mem_of_getElem? (i := 91) (by decide +kernel)) (by decide +kernel), gt_1 21 (by decide +kernel) (by decide +kernel), gt_7 238 rfl rfl, by decide +kernel⟩
theorem mt_Mo_expression : MV y_Mo_expression bc_Mo_expression 3 none 0 := ⟨gt_7 225 (by decide +kernel) (by decide +kernel), gt_sel (List.mem_of_getElem? (i := 88) (by decide +kernel)) (by decide +kernel), gt_1 21 (by decide +kernel) (by decide +kernel), gt_7 226 rfl rfl, by decide +kernel⟩
theorem mt_Mo_term : MV y_Mo_term bc_Mo_term 1 none 0 := ⟨gt_8 1 (by decide +kernel) (by decide +kernel), gt_sel (List.mem_of_getElem? (i := 92) (by decide +kernel)) (by decide +kernel), gt_1 21 (by decide +kernel) (by decide +kernel), gt_8 2 rfl rfl, by decide +kernel⟩
theorem mt_Mo_tellLaw : MV y_Mo_tellLaw bc_Mo_tellLaw 4 none 1 := ⟨gt_7 221 (by decide +kernel) (by decide +kernel), gt_sel (List.mem_of_getElem? (i := 87) (by decide +kernel)) (by decide +kernel), gt_1 21 (by decide +kernel) (by decide +kernel), gt_7 222 rfl rfl, by decide +kernel⟩
theorem mt_Mo_tellOne : MV y_Mo_tellOne bc_Mo_tellOne 2 none 0 := ⟨gt_7 165 (by decide +kernel) (by decide +kernel), gt_sel (List.mem_of_getElem? (i := 73) (by decide +kernel)) (by decide +kernel), gt_1 21 (by decide +kernel) (by decide +kernel), gt_7 166 rfl rfl, by decide +kernel⟩
theorem mt_Mo_knows : MV y_Mo_knows bc_Mo_knows 3 (some .boolean) 2 := ⟨gt_6 125 (by decide +kernel) (by decide +kernel), gt_sel (List.mem_of_getElem? (i := 64) (by decide +kernel)) (by decide +kernel), gt_1 21 (by decide +kernel) (by decide +kernel), gt_6 126 rfl rfl, by decide +kernel⟩
theorem mt_Mo_knowersOf : MV y_Mo_knowersOf bc_Mo_knowersOf 4 (some .int) 1 := ⟨gt_6 121 (by decide +kernel) (by decide +kernel), gt_sel (List.mem_of_getElem? (i := 63) (by decide +kernel)) (by decide +kernel), gt_1 21 (by decide +kernel) (by decide +kernel), gt_6 122 rfl rfl, by decide +kernel⟩
theorem mt_Mo_bits : MS y_Mo_bits bc_Mo_bits 3 (some .int) 1 := ⟨gt_6 128 (by decide +kernel) (by decide +kernel), gt_1 21 (by decide +kernel) (by decide +kernel), gt_6 129 rfl rfl, by decide +kernel⟩
theorem mt_Mo_knownBy : MV y_Mo_knownBy bc_Mo_knownBy 2 (some .int) 1 := ⟨gt_6 117 (by decide +kernel) (by decide +kernel), gt_sel (List.mem_of_getElem? (i := 62) (by decide +kernel)) (by decide +kernel), gt_1 21 (by decide +kernel) (by decide +kernel), gt_6 118 rfl rfl, by decide +kernel⟩
theorem mt_Mo_deeperBy : MV y_Mo_deeperBy bc_Mo_deeperBy 4 (some .int) 3 := ⟨gt_6 132 (by decide +kernel) (by decide +kernel), gt_sel (List.mem_of_getElem? (i := 65) (by decide +kernel)) (by decide +kernel), gt_1 21 (by decide +kernel) (by decide +kernel), gt_6 133 rfl rfl, by decide +kernel⟩
theorem mt_Mo_weightNow : MV y_Mo_weightNow bc_Mo_weightNow 2 (some .int) 1 := ⟨gt_6 113 (by decide +kernel) (by decide +kernel), gt_sel (List.mem_of_getElem? (i := 61) (by decide +kernel)) (by decide +kernel), gt_1 21 (by decide +kernel) (by decide +kernel), gt_6 114 rfl rfl, by decide +kernel⟩
theorem mt_Mo_deepOf : MV y_Mo_deepOf bc_Mo_deepOf 4 (some .int) 1 := ⟨gt_6 109 (by decide +kernel) (by decide +kernel), gt_sel (List.mem_of_getElem? (i := 60) (by decide +kernel)) (by decide +kernel), gt_1 21 (by decide +kernel) (by decide +kernel), gt_6 110 rfl rfl, by decide +kernel⟩
theorem mt_Mo_cutsWater : MV y_Mo_cutsWater bc_Mo_cutsWater 3 none 0 := ⟨gt_6 105 (by decide +kernel) (by decide +kernel), gt_sel (List.mem_of_getElem? (i := 59) (by decide +kernel)) (by decide +kernel), gt_1 21 (by decide +kernel) (by decide +kernel), gt_6 106 rfl rfl, by decide +kernel⟩
theorem mt_Mo_begins : MV y_Mo_begins bc_Mo_begins 3 none 0 := ⟨gt_6 101 (by decide +kernel) (by decide +kernel), gt_sel (List.mem_of_getElem? (i := 58) (by decide +kernel)) (by decide +kernel), gt_1 21 (by decide +kernel) (by decide +kernel), gt_6 102 rfl rfl, by decide +kernel⟩
theorem mt_Mo_keepsRow : MV y_Mo_keepsRow bc_Mo_keepsRow 2 none 0 := ⟨gt_6 136 (by decide +kernel) (by decide +kernel), gt_sel (List.mem_of_getElem? (i := 66) (by decide +kernel)) (by decide +kernel), gt_1 21 (by decide +kernel) (by decide +kernel), gt_6 137 rfl rfl, by decide +kernel⟩
theorem mt_Mo_read : MV y_Mo_read bc_Mo_read 2 (some .int) 0 := ⟨gt_7 134 (by decide +kernel) (by decide +kernel), gt_7 135 (by decide +kernel) (by decide +kernel), gt_1 21 (by decide +kernel) (by decide +kernel), gt_7 136 rfl rfl, by decide +kernel⟩
theorem mt_Mo_place : MV y_Mo_place bc_Mo_place 1 (some .int) 0 := ⟨gt_8 4 (by decide +kernel) (by decide +kernel), gt_8 5 (by decide +kernel) (by decide +kernel), gt_1 21 (by decide +kernel) (by decide +kernel), gt_8 6 rfl rfl, by decide +kernel⟩
theorem mt_Mo_termOf : MV y_Mo_termOf bc_Mo_termOf 8 (some .int) 2 := ⟨gt_8 55 (by decide +kernel) (by decide +kernel), gt_sel (List.mem_of_getElem? (i := 102) (by decide +kernel)) (by decide +kernel), gt_1 21 (by decide +kernel) (by decide +kernel), gt_8 56 rfl rfl, by decide +kernel⟩
theorem mt_Mo_in : MS y_Mo_in bc_Mo_in 3 (some .boolean) 3 := ⟨gt_8 16 (by decide +kernel) (by decide +kernel), gt_1 21 (by decide +kernel) (by decide +kernel), gt_8 17 rfl rfl, by decide +kernel⟩
theorem mt_Mo_isWell : MV y_Mo_isWell bc_Mo_isWell 2 (some .boolean) 1 := ⟨gt_8 13 (by decide +kernel) (by decide +kernel), gt_sel (List.mem_of_getElem? (i := 93) (by decide +kernel)) (by decide +kernel), gt_1 21 (by decide +kernel) (by decide +kernel), gt_8 14 rfl rfl, by decide +kernel⟩
theorem mt_Mo_isMan : MV y_Mo_isMan bc_Mo_isMan 2 (some .boolean) 1 := ⟨gt_8 63 (by decide +kernel) (by decide +kernel), gt_sel (List.mem_of_getElem? (i := 103) (by decide +kernel)) (by decide +kernel), gt_1 21 (by decide +kernel) (by decide +kernel), gt_8 64 rfl rfl, by decide +kernel⟩
theorem mt_Mo_isSecret : MV y_Mo_isSecret bc_Mo_isSecret 2 (some .boolean) 1 := ⟨gt_8 79 (by decide +kernel) (by decide +kernel), gt_sel (List.mem_of_getElem? (i := 106) (by decide +kernel)) (by decide +kernel), gt_1 21 (by decide +kernel) (by decide +kernel), gt_8 80 rfl rfl, by decide +kernel⟩
theorem mt_Mo_copies : MV y_Mo_copies bc_Mo_copies 2 none 0 := ⟨gt_8 20 (by decide +kernel) (by decide +kernel), gt_sel (List.mem_of_getElem? (i := 94) (by decide +kernel)) (by decide +kernel), gt_1 21 (by decide +kernel) (by decide +kernel), gt_8 21 rfl rfl, by decide +kernel⟩
theorem mt_Mo_isAlive : MV y_Mo_isAlive bc_Mo_isAlive 2 (some .boolean) 1 := ⟨gt_8 36 (by decide +kernel) (by decide +kernel), gt_sel (List.mem_of_getElem? (i := 98) (by decide +kernel)) (by decide +kernel), gt_1 21 (by decide +kernel) (by decide +kernel), gt_8 37 rfl rfl, by decide +kernel⟩
theorem mt_Mo_isHolding : MV y_Mo_isHolding bc_Mo_isHolding 4 (some .boolean) 1 := ⟨gt_8 28 (by decide +kernel) (by decide +kernel), gt_sel (List.mem_of_getElem? (i := 96) (by decide +kernel)) (by decide +kernel), gt_1 21 (by decide +kernel) (by decide +kernel), gt_8 29 rfl rfl, by decide +kernel⟩
theorem mt_Mo_holding : MV y_Mo_holding bc_Mo_holding 4 (some .int) 1 := ⟨gt_8 24 (by decide +kernel) (by decide +kernel), gt_sel (List.mem_of_getElem? (i := 95) (by decide +kernel)) (by decide +kernel), gt_1 21 (by decide +kernel) (by decide +kernel), gt_8 25 rfl rfl, by decide +kernel⟩
theorem mt_Mo_drinkersOf : MV y_Mo_drinkersOf bc_Mo_drinkersOf 4 (some .int) 1 := ⟨gt_8 32 (by decide +kernel) (by decide +kernel), gt_sel (List.mem_of_getElem? (i := 97) (by decide +kernel)) (by decide +kernel), gt_1 21 (by decide +kernel) (by decide +kernel), gt_8 33 rfl rfl, by decide +kernel⟩
theorem mt_Mo_mixed : MS y_Mo_mixed bc_Mo_mixed 3 (some .int) 2 := ⟨gt_8 118 (by decide +kernel) (by decide +kernel), gt_1 21 (by decide +kernel) (by decide +kernel), gt_8 119 rfl rfl, by decide +kernel⟩
theorem mt_Mo_lotOf : MV y_Mo_lotOf bc_Mo_lotOf 3 (some .int) 2 := ⟨gt_8 115 (by decide +kernel) (by decide +kernel), gt_sel (List.mem_of_getElem? (i := 113) (by decide +kernel)) (by decide +kernel), gt_1 21 (by decide +kernel) (by decide +kernel), gt_8 116 rfl rfl, by decide +kernel⟩
theorem mt_Mo_held : MS y_Mo_held bc_Mo_held 2 (some .int) 2 := ⟨gt_8 51 (by decide +kernel) (by decide +kernel), gt_1 21 (by decide +kernel) (by decide +kernel), gt_8 52 rfl rfl, by decide +kernel⟩
theorem mt_Mo_asks : MV y_Mo_asks bc_Mo_asks 8 (some .int) 3 := ⟨gt_8 48 (by decide +kernel) (by decide +kernel), gt_sel (List.mem_of_getElem? (i := 101) (by decide +kernel)) (by decide +kernel), gt_1 21 (by decide +kernel) (by decide +kernel), gt_8 49 rfl rfl, by decide +kernel⟩
theorem mt_Mo_setsWell : MV y_Mo_setsWell bc_Mo_setsWell 2 none 1 := ⟨gt_8 44 (by decide +kernel) (by decide +kernel), gt_sel (List.mem_of_getElem? (i := 100) (by decide +kernel)) (by decide +kernel), gt_1 21 (by decide +kernel) (by decide +kernel), gt_8 45 rfl rfl, by decide +kernel⟩
theorem mt_Mo_fillsOf : MV y_Mo_fillsOf bc_Mo_fillsOf 2 (some .int) 1 := ⟨gt_8 40 (by decide +kernel) (by decide +kernel), gt_sel (List.mem_of_getElem? (i := 99) (by decide +kernel)) (by decide +kernel), gt_1 21 (by decide +kernel) (by decide +kernel), gt_8 41 rfl rfl, by decide +kernel⟩
theorem mt_Mo_setsMan : MV y_Mo_setsMan bc_Mo_setsMan 2 none 1 := ⟨gt_8 71 (by decide +kernel) (by decide +kernel), gt_sel (List.mem_of_getElem? (i := 105) (by decide +kernel)) (by decide +kernel), gt_1 21 (by decide +kernel) (by decide +kernel), gt_8 72 rfl rfl, by decide +kernel⟩
theorem mt_Mo_drinksOf : MV y_Mo_drinksOf bc_Mo_drinksOf 2 (some .int) 1 := ⟨gt_8 67 (by decide +kernel) (by decide +kernel), gt_sel (List.mem_of_getElem? (i := 104) (by decide +kernel)) (by decide +kernel), gt_1 21 (by decide +kernel) (by decide +kernel), gt_8 68 rfl rfl, by decide +kernel⟩
theorem mt_Mo_tellsOf : MV y_Mo_tellsOf bc_Mo_tellsOf 3 (some .int) 2 := ⟨gt_8 87 (by decide +kernel) (by decide +kernel), gt_sel (List.mem_of_getElem? (i := 107) (by decide +kernel)) (by decide +kernel), gt_1 21 (by decide +kernel) (by decide +kernel), gt_8 88 rfl rfl, by decide +kernel⟩
theorem mt_Mo_drinks : MV y_Mo_drinks bc_Mo_drinks 4 none 1 := ⟨gt_8 103 (by decide +kernel) (by decide +kernel), gt_sel (List.mem_of_getElem? (i := 110) (by decide +kernel)) (by decide +kernel), gt_1 21 (by decide +kernel) (by decide +kernel), gt_8 104 rfl rfl, by decide +kernel⟩
theorem mt_Mo_isOpen : MV y_Mo_isOpen bc_Mo_isOpen 2 (some .boolean) 1 := ⟨gt_8 107 (by decide +kernel) (by decide +kernel), gt_sel (List.mem_of_getElem? (i := 111) (by decide +kernel)) (by decide +kernel), gt_1 21 (by decide +kernel) (by decide +kernel), gt_8 108 rfl rfl, by decide +kernel⟩
theorem mt_Mo_tellsAll : MV y_Mo_tellsAll bc_Mo_tellsAll 5 none 1 := ⟨gt_8 111 (by decide +kernel) (by decide +kernel), gt_sel (List.mem_of_getElem? (i := 112) (by decide +kernel)) (by decide +kernel), gt_1 21 (by decide +kernel) (by decide +kernel), gt_8 112 rfl rfl, by decide +kernel⟩
theorem mt_Mo_dayGoes : MV y_Mo_dayGoes bc_Mo_dayGoes 4 none 0 := ⟨gt_8 99 (by decide +kernel) (by decide +kernel), gt_sel (List.mem_of_getElem? (i := 109) (by decide +kernel)) (by decide +kernel), gt_1 21 (by decide +kernel) (by decide +kernel), gt_8 100 rfl rfl, by decide +kernel⟩
theorem mt_Mo_goes : MV y_Mo_goes bc_Mo_goes 3 none 1 := ⟨gt_8 95 (by decide +kernel) (by decide +kernel), gt_sel (List.mem_of_getElem? (i := 108) (by decide +kernel)) (by decide +kernel), gt_1 21 (by decide +kernel) (by decide +kernel), gt_8 96 rfl rfl, by decide +kernel⟩
theorem mt_Mo_well : MV y_Mo_well bc_Mo_well 5 (some .int) 2 := ⟨gt_8 8 (by decide +kernel) (by decide +kernel), gt_8 9 (by decide +kernel) (by decide +kernel), gt_1 21 (by decide +kernel) (by decide +kernel), gt_8 10 rfl rfl, by decide +kernel⟩
theorem mt_Mo_man : MV y_Mo_man bc_Mo_man 3 (some .int) 2 := ⟨gt_8 58 (by decide +kernel) (by decide +kernel), gt_8 59 (by decide +kernel) (by decide +kernel), gt_1 21 (by decide +kernel) (by decide +kernel), gt_8 60 rfl rfl, by decide +kernel⟩
theorem mt_Mo_secret : MV y_Mo_secret bc_Mo_secret 3 (some .int) 2 := ⟨gt_8 74 (by decide +kernel) (by decide +kernel), gt_8 75 (by decide +kernel) (by decide +kernel), gt_1 21 (by decide +kernel) (by decide +kernel), gt_8 76 rfl rfl, by decide +kernel⟩
theorem mt_Mo_tells : MV y_Mo_tells bc_Mo_tells 3 (some .int) 2 := ⟨gt_8 82 (by decide +kernel) (by decide +kernel), gt_8 83 (by decide +kernel) (by decide +kernel), gt_1 21 (by decide +kernel) (by decide +kernel), gt_8 84 rfl rfl, by decide +kernel⟩
theorem mt_Mo_keeps : MV y_Mo_keeps bc_Mo_keeps 2 none 0 := ⟨gt_8 123 (by decide +kernel) (by decide +kernel), gt_sel (List.mem_of_getElem? (i := 114) (by decide +kernel)) (by decide +kernel), gt_1 21 (by decide +kernel) (by decide +kernel), gt_8 124 rfl rfl, by decide +kernel⟩
theorem mt_Mo_days : MV y_Mo_days bc_Mo_days 2 (some .int) 1 := ⟨gt_8 90 (by decide +kernel) (by decide +kernel), gt_8 91 (by decide +kernel) (by decide +kernel), gt_1 21 (by decide +kernel) (by decide +kernel), gt_8 92 rfl rfl, by decide +kernel⟩
theorem mt_Mo_whispers : MV y_Mo_whispers bc_Mo_whispers 5 (some .int) 4 := ⟨gt_8 131 (by decide +kernel) (by decide +kernel), gt_sel (List.mem_of_getElem? (i := 115) (by decide +kernel)) (by decide +kernel), gt_1 21 (by decide +kernel) (by decide +kernel), gt_8 132 rfl rfl, by decide +kernel⟩
theorem mt_Mo_whisper : MV y_Mo_whisper bc_Mo_whisper 4 (some .int) 3 := ⟨gt_8 126 (by decide +kernel) (by decide +kernel), gt_8 127 (by decide +kernel) (by decide +kernel), gt_1 21 (by decide +kernel) (by decide +kernel), gt_8 128 rfl rfl, by decide +kernel⟩
theorem mt_Mo_drill : MV y_Mo_drill bc_Mo_drill 4 (some .int) 3 := ⟨gt_8 134 (by decide +kernel) (by decide +kernel), gt_8 135 (by decide +kernel) (by decide +kernel), gt_1 21 (by decide +kernel) (by decide +kernel), gt_8 136 rfl rfl, by decide +kernel⟩
theorem mt_Mo_tell : MV y_Mo_tell bc_Mo_tell 4 (some .boolean) 3 := ⟨gt_8 138 (by decide +kernel) (by decide +kernel), gt_8 139 (by decide +kernel) (by decide +kernel), gt_1 21 (by decide +kernel) (by decide +kernel), gt_8 140 rfl rfl, by decide +kernel⟩
theorem mt_Mo_go : MV y_Mo_go bc_Mo_go 3 (some .boolean) 2 := ⟨gt_8 142 (by decide +kernel) (by decide +kernel), gt_8 143 (by decide +kernel) (by decide +kernel), gt_1 21 (by decide +kernel) (by decide +kernel), gt_8 144 rfl rfl, by decide +kernel⟩
theorem mt_Mo_cut : MV y_Mo_cut bc_Mo_cut 3 (some .boolean) 2 := ⟨gt_8 146 (by decide +kernel) (by decide +kernel), gt_8 147 (by decide +kernel) (by decide +kernel), gt_1 21 (by decide +kernel) (by decide +kernel), gt_8 148 rfl rfl, by decide +kernel⟩
theorem mt_Mo_undo : MV y_Mo_undo bc_Mo_undo 2 (some .boolean) 0 := ⟨gt_8 150 (by decide +kernel) (by decide +kernel), gt_8 151 (by decide +kernel) (by decide +kernel), gt_1 21 (by decide +kernel) (by decide +kernel), gt_8 152 rfl rfl, by decide +kernel⟩
theorem mt_Mo_isLong : MS y_Mo_isLong bc_Mo_isLong 1 (some .boolean) 1 := ⟨gt_8 158 (by decide +kernel) (by decide +kernel), gt_1 21 (by decide +kernel) (by decide +kernel), gt_8 159 rfl rfl, by decide +kernel⟩
theorem mt_Mo_wellIn : MV y_Mo_wellIn bc_Mo_wellIn 4 (some .int) 3 := ⟨gt_8 154 (by decide +kernel) (by decide +kernel), gt_8 155 (by decide +kernel) (by decide +kernel), gt_1 21 (by decide +kernel) (by decide +kernel), gt_8 156 rfl rfl, by decide +kernel⟩
theorem mt_Mo_manIn : MV y_Mo_manIn bc_Mo_manIn 4 (some .int) 3 := ⟨gt_8 161 (by decide +kernel) (by decide +kernel), gt_8 162 (by decide +kernel) (by decide +kernel), gt_1 21 (by decide +kernel) (by decide +kernel), gt_8 163 rfl rfl, by decide +kernel⟩
theorem mt_Mo_dryBy : MV y_Mo_dryBy bc_Mo_dryBy 3 (some .int) 1 := ⟨gt_8 165 (by decide +kernel) (by decide +kernel), gt_8 166 (by decide +kernel) (by decide +kernel), gt_1 21 (by decide +kernel) (by decide +kernel), gt_8 167 rfl rfl, by decide +kernel⟩
theorem mt_Mo_first : MV y_Mo_first bc_Mo_first 5 (some .int) 1 := ⟨gt_8 169 (by decide +kernel) (by decide +kernel), gt_8 170 (by decide +kernel) (by decide +kernel), gt_1 21 (by decide +kernel) (by decide +kernel), gt_8 171 rfl rfl, by decide +kernel⟩
theorem mt_Mo_rainsBy : MV y_Mo_rainsBy bc_Mo_rainsBy 8 (some .int) 3 := ⟨gt_8 186 (by decide +kernel) (by decide +kernel), gt_sel (List.mem_of_getElem? (i := 118) (by decide +kernel)) (by decide +kernel), gt_1 21 (by decide +kernel) (by decide +kernel), gt_8 187 rfl rfl, by decide +kernel⟩
theorem mt_Mo_thirstAll : MV y_Mo_thirstAll bc_Mo_thirstAll 3 (some .int) 0 := ⟨gt_8 190 (by decide +kernel) (by decide +kernel), gt_sel (List.mem_of_getElem? (i := 119) (by decide +kernel)) (by decide +kernel), gt_1 21 (by decide +kernel) (by decide +kernel), gt_8 191 rfl rfl, by decide +kernel⟩
theorem mt_Mo_rains : MV y_Mo_rains bc_Mo_rains 9 none 2 := ⟨gt_8 182 (by decide +kernel) (by decide +kernel), gt_sel (List.mem_of_getElem? (i := 117) (by decide +kernel)) (by decide +kernel), gt_1 21 (by decide +kernel) (by decide +kernel), gt_8 183 rfl rfl, by decide +kernel⟩
theorem mt_Mo_isRain : MV y_Mo_isRain bc_Mo_isRain 3 (some .boolean) 2 := ⟨gt_8 178 (by decide +kernel) (by decide +kernel), gt_sel (List.mem_of_getElem? (i := 116) (by decide +kernel)) (by decide +kernel), gt_1 21 (by decide +kernel) (by decide +kernel), gt_8 179 rfl rfl, by decide +kernel⟩
theorem mt_Mo_rain : MV y_Mo_rain bc_Mo_rain 4 (some .int) 3 := ⟨gt_8 173 (by decide +kernel) (by decide +kernel), gt_8 174 (by decide +kernel) (by decide +kernel), gt_1 21 (by decide +kernel) (by decide +kernel), gt_8 175 rfl rfl, by decide +kernel⟩
theorem mt_Mo_rainAt : MV y_Mo_rainAt bc_Mo_rainAt 6 (some .int) 3 := ⟨gt_8 193 (by decide +kernel) (by decide +kernel), gt_8 194 (by decide +kernel) (by decide +kernel), gt_1 21 (by decide +kernel) (by decide +kernel), gt_8 195 rfl rfl, by decide +kernel⟩
theorem mt_Mo_reachOf : MV y_Mo_reachOf bc_Mo_reachOf 7 (some .int) 2 := ⟨gt_8 202 (by decide +kernel) (by decide +kernel), gt_sel (List.mem_of_getElem? (i := 120) (by decide +kernel)) (by decide +kernel), gt_1 21 (by decide +kernel) (by decide +kernel), gt_8 203 rfl rfl, by decide +kernel⟩
theorem mt_Mo_reach : MV y_Mo_reach bc_Mo_reach 2 (some .int) 1 := ⟨gt_8 197 (by decide +kernel) (by decide +kernel), gt_8 198 (by decide +kernel) (by decide +kernel), gt_1 21 (by decide +kernel) (by decide +kernel), gt_8 199 rfl rfl, by decide +kernel⟩
theorem mt_Mo_silence : MV y_Mo_silence bc_Mo_silence 6 (some .int) 3 := ⟨gt_8 205 (by decide +kernel) (by decide +kernel), gt_8 206 (by decide +kernel) (by decide +kernel), gt_1 21 (by decide +kernel) (by decide +kernel), gt_8 207 rfl rfl, by decide +kernel⟩
theorem mt_Mo_shared : MV y_Mo_shared bc_Mo_shared 5 (some .int) 2 := ⟨gt_8 214 (by decide +kernel) (by decide +kernel), gt_sel (List.mem_of_getElem? (i := 121) (by decide +kernel)) (by decide +kernel), gt_1 21 (by decide +kernel) (by decide +kernel), gt_8 215 rfl rfl, by decide +kernel⟩
theorem mt_Mo_holds : MV y_Mo_holds bc_Mo_holds 3 (some .int) 2 := ⟨gt_8 209 (by decide +kernel) (by decide +kernel), gt_8 210 (by decide +kernel) (by decide +kernel), gt_1 21 (by decide +kernel) (by decide +kernel), gt_8 211 rfl rfl, by decide +kernel⟩
theorem mt_Mo_rings : MV y_Mo_rings bc_Mo_rings 4 (some .int) 0 := ⟨gt_8 217 (by decide +kernel) (by decide +kernel), gt_8 218 (by decide +kernel) (by decide +kernel), gt_1 21 (by decide +kernel) (by decide +kernel), gt_8 219 rfl rfl, by decide +kernel⟩
theorem mt_Mo_fillsMay : MV y_Mo_fillsMay bc_Mo_fillsMay 3 none 0 := ⟨gt_8 226 (by decide +kernel) (by decide +kernel), gt_sel (List.mem_of_getElem? (i := 122) (by decide +kernel)) (by decide +kernel), gt_1 21 (by decide +kernel) (by decide +kernel), gt_8 227 rfl rfl, by decide +kernel⟩
theorem mt_Mo_hasOf : MV y_Mo_hasOf bc_Mo_hasOf 8 (some .int) 3 := ⟨gt_8 234 (by decide +kernel) (by decide +kernel), gt_sel (List.mem_of_getElem? (i := 124) (by decide +kernel)) (by decide +kernel), gt_1 21 (by decide +kernel) (by decide +kernel), gt_8 235 rfl rfl, by decide +kernel⟩
theorem mt_Mo_isResting : MV y_Mo_isResting bc_Mo_isResting 4 (some .boolean) 2 := ⟨gt_8 230 (by decide +kernel) (by decide +kernel), gt_sel (List.mem_of_getElem? (i := 123) (by decide +kernel)) (by decide +kernel), gt_1 21 (by decide +kernel) (by decide +kernel), gt_8 231 rfl rfl, by decide +kernel⟩
theorem mt_Mo_quiet : MV y_Mo_quiet bc_Mo_quiet 5 (some .int) 2 := ⟨gt_8 221 (by decide +kernel) (by decide +kernel), gt_8 222 (by decide +kernel) (by decide +kernel), gt_1 21 (by decide +kernel) (by decide +kernel), gt_8 223 rfl rfl, by decide +kernel⟩
theorem mt_Mo_areMany : MS y_Mo_areMany bc_Mo_areMany 2 (some .boolean) 2 := ⟨gt_9 1 (by decide +kernel) (by decide +kernel), gt_1 21 (by decide +kernel) (by decide +kernel), gt_9 2 rfl rfl, by decide +kernel⟩
theorem mt_Mo_goesBy : MV y_Mo_goesBy bc_Mo_goesBy 3 none 2 := ⟨gt_9 5 (by decide +kernel) (by decide +kernel), gt_sel (List.mem_of_getElem? (i := 125) (by decide +kernel)) (by decide +kernel), gt_1 21 (by decide +kernel) (by decide +kernel), gt_9 6 rfl rfl, by decide +kernel⟩
theorem mt_Mo_odds : MV y_Mo_odds bc_Mo_odds 7 (some .int) 4 := ⟨gt_8 237 (by decide +kernel) (by decide +kernel), gt_8 238 (by decide +kernel) (by decide +kernel), gt_1 21 (by decide +kernel) (by decide +kernel), gt_8 239 rfl rfl, by decide +kernel⟩
theorem mt_Mo_deaths : MV y_Mo_deaths bc_Mo_deaths 5 (some .int) 2 := ⟨gt_9 8 (by decide +kernel) (by decide +kernel), gt_9 9 (by decide +kernel) (by decide +kernel), gt_1 21 (by decide +kernel) (by decide +kernel), gt_9 10 rfl rfl, by decide +kernel⟩
theorem mt_Mo_worth : MV y_Mo_worth bc_Mo_worth 2 (some .int) 1 := ⟨gt_9 12 (by decide +kernel) (by decide +kernel), gt_9 13 (by decide +kernel) (by decide +kernel), gt_1 21 (by decide +kernel) (by decide +kernel), gt_9 14 rfl rfl, by decide +kernel⟩
theorem mt_Mo_note : MV y_Mo_note bc_Mo_note 4 (some .int) 3 := ⟨gt_9 16 (by decide +kernel) (by decide +kernel), gt_9 17 (by decide +kernel) (by decide +kernel), gt_1 21 (by decide +kernel) (by decide +kernel), gt_9 18 rfl rfl, by decide +kernel⟩
theorem mt_Mo_forget : MV y_Mo_forget bc_Mo_forget 2 (some .int) 0 := ⟨gt_9 20 (by decide +kernel) (by decide +kernel), gt_9 21 (by decide +kernel) (by decide +kernel), gt_1 21 (by decide +kernel) (by decide +kernel), gt_9 22 rfl rfl, by decide +kernel⟩
theorem mt_Mo_deeperTold : MV y_Mo_deeperTold bc_Mo_deeperTold 2 (some .int) 1 := ⟨gt_9 33 (by decide +kernel) (by decide +kernel), gt_sel (List.mem_of_getElem? (i := 127) (by decide +kernel)) (by decide +kernel), gt_1 21 (by decide +kernel) (by decide +kernel), gt_9 34 rfl rfl, by decide +kernel⟩
theorem mt_Mo_isSo : MV y_Mo_isSo bc_Mo_isSo 6 (some .boolean) 2 := ⟨gt_9 29 (by decide +kernel) (by decide +kernel), gt_sel (List.mem_of_getElem? (i := 126) (by decide +kernel)) (by decide +kernel), gt_1 21 (by decide +kernel) (by decide +kernel), gt_9 30 rfl rfl, by decide +kernel⟩
theorem mt_Mo_truth : MV y_Mo_truth bc_Mo_truth 5 (some .int) 2 := ⟨gt_9 24 (by decide +kernel) (by decide +kernel), gt_9 25 (by decide +kernel) (by decide +kernel), gt_1 21 (by decide +kernel) (by decide +kernel), gt_9 26 rfl rfl, by decide +kernel⟩
theorem mt_Mo_sure : MV y_Mo_sure bc_Mo_sure 7 (some .int) 2 := ⟨gt_9 36 (by decide +kernel) (by decide +kernel), gt_9 37 (by decide +kernel) (by decide +kernel), gt_1 21 (by decide +kernel) (by decide +kernel), gt_9 38 rfl rfl, by decide +kernel⟩
theorem mt_Mo_next : MV y_Mo_next bc_Mo_next 9 (some .int) 2 := ⟨gt_9 40 (by decide +kernel) (by decide +kernel), gt_9 41 (by decide +kernel) (by decide +kernel), gt_1 21 (by decide +kernel) (by decide +kernel), gt_9 42 rfl rfl, by decide +kernel⟩
theorem mt_Mo_hold : MV y_Mo_hold bc_Mo_hold 3 (some .boolean) 1 := ⟨gt_9 44 (by decide +kernel) (by decide +kernel), gt_9 45 (by decide +kernel) (by decide +kernel), gt_1 21 (by decide +kernel) (by decide +kernel), gt_9 46 rfl rfl, by decide +kernel⟩
theorem mt_Mo_restore : MV y_Mo_restore bc_Mo_restore 3 (some .boolean) 1 := ⟨gt_9 48 (by decide +kernel) (by decide +kernel), gt_9 49 (by decide +kernel) (by decide +kernel), gt_1 21 (by decide +kernel) (by decide +kernel), gt_9 50 rfl rfl, by decide +kernel⟩
theorem mt_Mo_count : MV y_Mo_count bc_Mo_count 4 (some .int) 1 := ⟨gt_9 52 (by decide +kernel) (by decide +kernel), gt_9 53 (by decide +kernel) (by decide +kernel), gt_1 21 (by decide +kernel) (by decide +kernel), gt_9 54 rfl rfl, by decide +kernel⟩
theorem gw_oi_i : Cond.instanceMethod objectInit ∈ gTbl := gt_1 29 (by decide +kernel) (by decide +kernel)
theorem gw_oi_c : Cond.code objectInit ⟨#[0xb1]⟩ 1 none ∈ gTbl := gt_1 30 rfl rfl
theorem gw_arr_int : Cond.arrayClass (newarray.typeOf .int) ∈ gTbl := gt_1 113 (by decide +kernel) (by decide +kernel)
theorem gw_arr_byte : Cond.arrayClass (newarray.typeOf .byte) ∈ gTbl := gt_1 111 (by decide +kernel) (by decide +kernel)
theorem gw_arr_long : Cond.arrayClass (newarray.typeOf .long) ∈ gTbl := gt_1 112 (by decide +kernel) (by decide +kernel)
theorem gw_arr_boolean : Cond.arrayClass (newarray.typeOf .boolean) ∈ gTbl := gt_7 120 (by decide +kernel) (by decide +kernel)
abbrev bc_Dy_init : ByteArray := prog_2_method_1_code
def y_Dy_init : MethodName := ⟨"SecretWells$Days", "<init>", "()V"⟩
theorem im_Dy_init : Cond.instanceMethod y_Dy_init ∈ gTbl := gt_2 15 (by decide +kernel) (by decide +kernel)
theorem cm_Dy_init : Cond.code y_Dy_init bc_Dy_init 1 none ∈ gTbl := gt_2 16 rfl rfl
theorem de_Dy_init : y_Dy_init.cls ≠ "java/lang/invoke/MethodHandle" ∧ y_Dy_init.cls ≠ "java/lang/invoke/VarHandle" ∧ (parseMethodDescriptor y_Dy_init.desc).map (fun d => d.parameters.length) = some 0 := by decide +kernel
theorem ini_Dy : Cond.initialized "SecretWells$Days" ∈ gTbl := gt_1 10 (by decide +kernel) (by decide +kernel)
theorem in_Dy : Cond.instantiable "SecretWells$Days" 2 ∈ gTbl := gt_2 13 (by decide +kernel) (by decide +kernel)
theorem df_Dy : ∀ j, j < 2 → defaultValue (tyX0 j) = vp_V [.null, .null] j := by decide +kernel
abbrev bc_Lw_init : ByteArray := prog_3_method_1_code
def y_Lw_init : MethodName := ⟨"SecretWells$Law", "<init>", "()V"⟩
theorem im_Lw_init : Cond.instanceMethod y_Lw_init ∈ gTbl := gt_2 125 (by decide +kernel) (by decide +kernel)
theorem cm_Lw_init : Cond.code y_Lw_init bc_Lw_init 1 none ∈ gTbl := gt_2 126 rfl rfl
theorem de_Lw_init : y_Lw_init.cls ≠ "java/lang/invoke/MethodHandle" ∧ y_Lw_init.cls ≠ "java/lang/invoke/VarHandle" ∧ (parseMethodDescriptor y_Lw_init.desc).map (fun d => d.parameters.length) = some 0 := by decide +kernel
theorem ini_Lw : Cond.initialized "SecretWells$Law" ∈ gTbl := gt_1 17 (by decide +kernel) (by decide +kernel)
theorem in_Lw : Cond.instantiable "SecretWells$Law" 5 ∈ gTbl := gt_2 123 (by decide +kernel) (by decide +kernel)
theorem df_Lw : ∀ j, j < 5 → defaultValue (tyX1 j) = vp_V [.null, .null, .int 0, .int 0, .int 0] j := by decide +kernel
abbrev bc_Mn_init : ByteArray := prog_4_method_1_code
def y_Mn_init : MethodName := ⟨"SecretWells$Meaning", "<init>", "(LSecretWells$Tape;)V"⟩
theorem im_Mn_init : Cond.instanceMethod y_Mn_init ∈ gTbl := gt_1 140 (by decide +kernel) (by decide +kernel)
theorem cm_Mn_init : Cond.code y_Mn_init bc_Mn_init 2 none ∈ gTbl := gt_1 141 rfl rfl
theorem de_Mn_init : y_Mn_init.cls ≠ "java/lang/invoke/MethodHandle" ∧ y_Mn_init.cls ≠ "java/lang/invoke/VarHandle" ∧ (parseMethodDescriptor y_Mn_init.desc).map (fun d => d.parameters.length) = some 1 := by decide +kernel
theorem ini_Mn : Cond.initialized "SecretWells$Meaning" ∈ gTbl := gt_1 8 (by decide +kernel) (by decide +kernel)
theorem in_Mn : Cond.instantiable "SecretWells$Meaning" 7 ∈ gTbl := gt_1 138 (by decide +kernel) (by decide +kernel)
theorem df_Mn : ∀ j, j < 7 → defaultValue (tyX2 j) = vp_V [.int 0, .null, .int 0, .int 0, .null, .null, .null] j := by decide +kernel
abbrev bc_Nt_init : ByteArray := prog_5_method_1_code
def y_Nt_init : MethodName := ⟨"SecretWells$Notes", "<init>", "()V"⟩
theorem im_Nt_init : Cond.instanceMethod y_Nt_init ∈ gTbl := gt_2 83 (by decide +kernel) (by decide +kernel)
theorem cm_Nt_init : Cond.code y_Nt_init bc_Nt_init 1 none ∈ gTbl := gt_2 84 rfl rfl
theorem de_Nt_init : y_Nt_init.cls ≠ "java/lang/invoke/MethodHandle" ∧ y_Nt_init.cls ≠ "java/lang/invoke/VarHandle" ∧ (parseMethodDescriptor y_Nt_init.desc).map (fun d => d.parameters.length) = some 0 := by decide +kernel
theorem ini_Nt : Cond.initialized "SecretWells$Notes" ∈ gTbl := gt_1 13 (by decide +kernel) (by decide +kernel)
theorem in_Nt : Cond.instantiable "SecretWells$Notes" 5 ∈ gTbl := gt_2 81 (by decide +kernel) (by decide +kernel)
theorem df_Nt : ∀ j, j < 5 → defaultValue (tyX3 j) = vp_V [.int 0, .null, .null, .null, .null] j := by decide +kernel
abbrev bc_Pe_init : ByteArray := prog_6_method_1_code
def y_Pe_init : MethodName := ⟨"SecretWells$People", "<init>", "()V"⟩
theorem im_Pe_init : Cond.instanceMethod y_Pe_init ∈ gTbl := gt_2 70 (by decide +kernel) (by decide +kernel)
theorem cm_Pe_init : Cond.code y_Pe_init bc_Pe_init 1 none ∈ gTbl := gt_2 71 rfl rfl
theorem de_Pe_init : y_Pe_init.cls ≠ "java/lang/invoke/MethodHandle" ∧ y_Pe_init.cls ≠ "java/lang/invoke/VarHandle" ∧ (parseMethodDescriptor y_Pe_init.desc).map (fun d => d.parameters.length) = some 0 := by decide +kernel
theorem ini_Pe : Cond.initialized "SecretWells$People" ∈ gTbl := gt_1 12 (by decide +kernel) (by decide +kernel)
theorem in_Pe : Cond.instantiable "SecretWells$People" 2 ∈ gTbl := gt_2 68 (by decide +kernel) (by decide +kernel)
theorem df_Pe : ∀ j, j < 2 → defaultValue (tyX4 j) = vp_V [.null, .int 0] j := by decide +kernel
abbrev bc_Rn_init : ByteArray := prog_7_method_1_code
def y_Rn_init : MethodName := ⟨"SecretWells$Rain", "<init>", "()V"⟩
theorem im_Rn_init : Cond.instanceMethod y_Rn_init ∈ gTbl := gt_2 28 (by decide +kernel) (by decide +kernel)
theorem cm_Rn_init : Cond.code y_Rn_init bc_Rn_init 1 none ∈ gTbl := gt_2 29 rfl rfl
theorem de_Rn_init : y_Rn_init.cls ≠ "java/lang/invoke/MethodHandle" ∧ y_Rn_init.cls ≠ "java/lang/invoke/VarHandle" ∧ (parseMethodDescriptor y_Rn_init.desc).map (fun d => d.parameters.length) = some 0 := by decide +kernel
theorem ini_Rn : Cond.initialized "SecretWells$Rain" ∈ gTbl := gt_1 11 (by decide +kernel) (by decide +kernel)
theorem in_Rn : Cond.instantiable "SecretWells$Rain" 10 ∈ gTbl := gt_2 26 (by decide +kernel) (by decide +kernel)
theorem df_Rn : ∀ j, j < 10 → defaultValue (tyX5 j) = vp_V [.int 0, .int 0, .int 0, .int 0, .null, .null, .null, .int 0, .int 0, .int 0] j := by decide +kernel
abbrev bc_Sh_init : ByteArray := prog_9_method_1_code
def y_Sh_init : MethodName := ⟨"SecretWells$Shape", "<init>", "(LSecretWells$Tape;)V"⟩
theorem im_Sh_init : Cond.instanceMethod y_Sh_init ∈ gTbl := gt_1 117 (by decide +kernel) (by decide +kernel)
theorem cm_Sh_init : Cond.code y_Sh_init bc_Sh_init 2 none ∈ gTbl := gt_1 118 rfl rfl
theorem de_Sh_init : y_Sh_init.cls ≠ "java/lang/invoke/MethodHandle" ∧ y_Sh_init.cls ≠ "java/lang/invoke/VarHandle" ∧ (parseMethodDescriptor y_Sh_init.desc).map (fun d => d.parameters.length) = some 1 := by decide +kernel
theorem ini_Sh : Cond.initialized "SecretWells$Shape" ∈ gTbl := gt_1 7 (by decide +kernel) (by decide +kernel)
theorem in_Sh : Cond.instantiable "SecretWells$Shape" 5 ∈ gTbl := gt_1 115 (by decide +kernel) (by decide +kernel)
theorem df_Sh : ∀ j, j < 5 → defaultValue (tyX7 j) = vp_V [.int 0, .null, .int 0, .int 0, .null] j := by decide +kernel
abbrev bc_St_init : ByteArray := prog_10_method_1_code
def y_St_init : MethodName := ⟨"SecretWells$State", "<init>", "()V"⟩
theorem im_St_init : Cond.instanceMethod y_St_init ∈ gTbl := gt_1 169 (by decide +kernel) (by decide +kernel)
theorem cm_St_init : Cond.code y_St_init bc_St_init 1 none ∈ gTbl := gt_1 170 rfl rfl
theorem de_St_init : y_St_init.cls ≠ "java/lang/invoke/MethodHandle" ∧ y_St_init.cls ≠ "java/lang/invoke/VarHandle" ∧ (parseMethodDescriptor y_St_init.desc).map (fun d => d.parameters.length) = some 0 := by decide +kernel
theorem ini_St : Cond.initialized "SecretWells$State" ∈ gTbl := gt_1 9 (by decide +kernel) (by decide +kernel)
theorem in_St : Cond.instantiable "SecretWells$State" 13 ∈ gTbl := gt_1 167 (by decide +kernel) (by decide +kernel)
theorem df_St : ∀ j, j < 13 → defaultValue (tyX8 j) = vp_V [.int 0, .int 0, .int 0, .int 0, .null, .null, .null, .null, .null, .null, .null, .null, .null] j := by decide +kernel
abbrev bc_Rw_init : ByteArray := prog_8_method_1_code
def y_Rw_init : MethodName := ⟨"SecretWells$Rows", "<init>", "(I)V"⟩
theorem im_Rw_init : Cond.instanceMethod y_Rw_init ∈ gTbl := gt_2 106 (by decide +kernel) (by decide +kernel)
theorem cm_Rw_init : Cond.code y_Rw_init bc_Rw_init 2 none ∈ gTbl := gt_2 107 rfl rfl
theorem de_Rw_init : y_Rw_init.cls ≠ "java/lang/invoke/MethodHandle" ∧ y_Rw_init.cls ≠ "java/lang/invoke/VarHandle" ∧ (parseMethodDescriptor y_Rw_init.desc).map (fun d => d.parameters.length) = some 1 := by decide +kernel
theorem ini_Rw : Cond.initialized "SecretWells$Rows" ∈ gTbl := gt_1 14 (by decide +kernel) (by decide +kernel)
theorem in_Rw : Cond.instantiable "SecretWells$Rows" 1 ∈ gTbl := gt_2 104 (by decide +kernel) (by decide +kernel)
theorem df_Rw : ∀ j, j < 1 → defaultValue (tyX6 j) = vp_V [.null] j := by decide +kernel
abbrev bc_Tx_init : ByteArray := prog_12_method_1_code
def y_Tx_init : MethodName := ⟨"SecretWells$Text", "<init>", "()V"⟩
theorem im_Tx_init : Cond.instanceMethod y_Tx_init ∈ gTbl := gt_2 119 (by decide +kernel) (by decide +kernel)
theorem cm_Tx_init : Cond.code y_Tx_init bc_Tx_init 1 none ∈ gTbl := gt_2 120 rfl rfl
theorem de_Tx_init : y_Tx_init.cls ≠ "java/lang/invoke/MethodHandle" ∧ y_Tx_init.cls ≠ "java/lang/invoke/VarHandle" ∧ (parseMethodDescriptor y_Tx_init.desc).map (fun d => d.parameters.length) = some 0 := by decide +kernel
theorem ini_Tx : Cond.initialized "SecretWells$Text" ∈ gTbl := gt_1 16 (by decide +kernel) (by decide +kernel)
theorem in_Tx : Cond.instantiable "SecretWells$Text" 20 ∈ gTbl := gt_2 117 (by decide +kernel) (by decide +kernel)
theorem df_Tx : ∀ j, j < 20 → defaultValue (tyX10 j) = vp_V [.int 0, .int 0, .int 0, .int 0, .int 0, .int 0, .int 0, .int 0, .null, .null, .null, .null, .null, .null, .null, .null, .null, .null, .null, .null] j := by decide +kernel
abbrev bc_Tp_init : ByteArray := prog_11_method_1_code
def y_Tp_init : MethodName := ⟨"SecretWells$Tape", "<init>", "()V"⟩
theorem im_Tp_init : Cond.instanceMethod y_Tp_init ∈ gTbl := gt_1 34 (by decide +kernel) (by decide +kernel)
theorem cm_Tp_init : Cond.code y_Tp_init bc_Tp_init 3 none ∈ gTbl := gt_1 35 rfl rfl
theorem de_Tp_init : y_Tp_init.cls ≠ "java/lang/invoke/MethodHandle" ∧ y_Tp_init.cls ≠ "java/lang/invoke/VarHandle" ∧ (parseMethodDescriptor y_Tp_init.desc).map (fun d => d.parameters.length) = some 0 := by decide +kernel
theorem ini_Tp : Cond.initialized "SecretWells$Tape" ∈ gTbl := gt_1 2 (by decide +kernel) (by decide +kernel)
theorem in_Tp : Cond.instantiable "SecretWells$Tape" 6 ∈ gTbl := gt_1 32 (by decide +kernel) (by decide +kernel)
theorem df_Tp : ∀ j, j < 6 → defaultValue (tyX9 j) = vp_V [.int 0, .null, .null, .null, .null, .null] j := by decide +kernel
abbrev bc_Co_init : ByteArray := prog_1_method_1_code
def y_Co_init : MethodName := ⟨"SecretWells", "<init>", "()V"⟩
theorem im_Co_init : Cond.instanceMethod y_Co_init ∈ gTbl := gt_1 26 (by decide +kernel) (by decide +kernel)
theorem cm_Co_init : Cond.code y_Co_init bc_Co_init 1 none ∈ gTbl := gt_1 27 rfl rfl
theorem de_Co_init : y_Co_init.cls ≠ "java/lang/invoke/MethodHandle" ∧ y_Co_init.cls ≠ "java/lang/invoke/VarHandle" ∧ (parseMethodDescriptor y_Co_init.desc).map (fun d => d.parameters.length) = some 0 := by decide +kernel
theorem ini_Co : Cond.initialized "SecretWells" ∈ gTbl := gt_1 1 (by decide +kernel) (by decide +kernel)
theorem in_Co : Cond.instantiable "SecretWells" 17 ∈ gTbl := gt_1 24 (by decide +kernel) (by decide +kernel)
theorem df_Co : ∀ j, j < 17 → defaultValue (tyX11 j) = vp_V [.null, .null, .null, .null, .null, .null, .null, .null, .null, .null, .null, .null, .null, .int 0, .int 0, .int 0, .int 0] j := by decide +kernel
abbrev bc_Mo_init : ByteArray := prog_14_method_2_code
def y_Mo_init : MethodName := ⟨"SecretWellsModel", "<init>", "()V"⟩
theorem im_Mo_init : Cond.instanceMethod y_Mo_init ∈ gTbl := gt_6 85 (by decide +kernel) (by decide +kernel)
theorem cm_Mo_init : Cond.code y_Mo_init bc_Mo_init 1 none ∈ gTbl := gt_6 86 rfl rfl
theorem de_Mo_init : y_Mo_init.cls ≠ "java/lang/invoke/MethodHandle" ∧ y_Mo_init.cls ≠ "java/lang/invoke/VarHandle" ∧ (parseMethodDescriptor y_Mo_init.desc).map (fun d => d.parameters.length) = some 0 := by decide +kernel
theorem ini_Mo : Cond.initialized "SecretWellsModel" ∈ gTbl := gt_1 21 (by decide +kernel) (by decide +kernel)
theorem in_Mo : Cond.instantiable "SecretWellsModel" 74 ∈ gTbl := gt_6 83 (by decide +kernel) (by decide +kernel)
theorem df_Mo : ∀ j, j < 74 → defaultValue (tyX12 j) = vp_V [.int 0, .null, .int 0, .null, .int 0, .null, .null, .null, .null, .null, .int 0, .int 0, .int 0, .int 0, .int 0, .int 0, .int 0, .int 0, .int 0, .int 0, .int 0, .null, .null, .null, .null, .null, .null, .null, .null, .null, .null, .null, .null, .null, .null, .null, .null, .null, .null, .null, .null, .null, .int 0, .null, .null, .null, .null, .null, .int 0, .null, .null, .null, .int 0, .null, .null, .int 0, .null, .null, .int 0, .null, .int 0, .null, .int 0, .int 0, .int 0, .int 0, .null, .int 0, .int 0, .null, .null, .null, .null, .null] j := by decide +kernel
theorem fl_Dy_9 : Cond.fieldLink "SecretWells$Days" 9 (TX0 0).1 (TX0 0).2.1 (TX0 0).2.2.1 ∈ gTbl := gt_2 18 (by decide +kernel) (by decide +kernel)
theorem fl_Dy_15 : Cond.fieldLink "SecretWells$Days" 15 (TX0 1).1 (TX0 1).2.1 (TX0 1).2.2.1 ∈ gTbl := gt_2 19 (by decide +kernel) (by decide +kernel)
theorem fl_Lw_9 : Cond.fieldLink "SecretWells$Law" 9 (TX1 0).1 (TX1 0).2.1 (TX1 0).2.2.1 ∈ gTbl := gt_2 128 (by decide +kernel) (by decide +kernel)
theorem fl_Lw_15 : Cond.fieldLink "SecretWells$Law" 15 (TX1 1).1 (TX1 1).2.1 (TX1 1).2.2.1 ∈ gTbl := gt_2 129 (by decide +kernel) (by decide +kernel)
theorem fl_Lw_18 : Cond.fieldLink "SecretWells$Law" 18 (TX1 2).1 (TX1 2).2.1 (TX1 2).2.2.1 ∈ gTbl := gt_2 130 (by decide +kernel) (by decide +kernel)
theorem fl_Lw_22 : Cond.fieldLink "SecretWells$Law" 22 (TX1 3).1 (TX1 3).2.1 (TX1 3).2.2.1 ∈ gTbl := gt_2 131 (by decide +kernel) (by decide +kernel)
theorem fl_Lw_25 : Cond.fieldLink "SecretWells$Law" 25 (TX1 4).1 (TX1 4).2.1 (TX1 4).2.2.1 ∈ gTbl := gt_2 132 (by decide +kernel) (by decide +kernel)
theorem fl_Mn_9 : Cond.fieldLink "SecretWells$Meaning" 9 (TX2 0).1 (TX2 0).2.1 (TX2 0).2.2.1 ∈ gTbl := gt_1 143 (by decide +kernel) (by decide +kernel)
theorem fl_Mn_15 : Cond.fieldLink "SecretWells$Meaning" 15 (TX2 2).1 (TX2 2).2.1 (TX2 2).2.2.1 ∈ gTbl := gt_1 146 (by decide +kernel) (by decide +kernel)
theorem fl_Mn_18 : Cond.fieldLink "SecretWells$Meaning" 18 (TX2 3).1 (TX2 3).2.1 (TX2 3).2.2.1 ∈ gTbl := gt_1 147 (by decide +kernel) (by decide +kernel)
theorem fl_Mn_21 : Cond.fieldLink "SecretWells$Meaning" 21 (TX2 4).1 (TX2 4).2.1 (TX2 4).2.2.1 ∈ gTbl := gt_1 148 (by decide +kernel) (by decide +kernel)
theorem fl_Mn_25 : Cond.fieldLink "SecretWells$Meaning" 25 (TX2 5).1 (TX2 5).2.1 (TX2 5).2.2.1 ∈ gTbl := gt_1 149 (by decide +kernel) (by decide +kernel)
theorem fl_Mn_28 : Cond.fieldLink "SecretWells$Meaning" 28 (TX2 6).1 (TX2 6).2.1 (TX2 6).2.2.1 ∈ gTbl := gt_1 150 (by decide +kernel) (by decide +kernel)
theorem fl_Mn_31 : Cond.fieldLink "SecretWells$Meaning" 31 (TX2 1).1 (TX2 1).2.1 (TX2 1).2.2.1 ∈ gTbl := gt_1 145 (by decide +kernel) (by decide +kernel)
theorem fl_Nt_9 : Cond.fieldLink "SecretWells$Notes" 9 (TX3 0).1 (TX3 0).2.1 (TX3 0).2.2.1 ∈ gTbl := gt_2 86 (by decide +kernel) (by decide +kernel)
theorem fl_Nt_15 : Cond.fieldLink "SecretWells$Notes" 15 (TX3 1).1 (TX3 1).2.1 (TX3 1).2.2.1 ∈ gTbl := gt_2 88 (by decide +kernel) (by decide +kernel)
theorem fl_Nt_19 : Cond.fieldLink "SecretWells$Notes" 19 (TX3 2).1 (TX3 2).2.1 (TX3 2).2.2.1 ∈ gTbl := gt_2 89 (by decide +kernel) (by decide +kernel)
theorem fl_Nt_22 : Cond.fieldLink "SecretWells$Notes" 22 (TX3 3).1 (TX3 3).2.1 (TX3 3).2.2.1 ∈ gTbl := gt_2 90 (by decide +kernel) (by decide +kernel)
theorem fl_Nt_25 : Cond.fieldLink "SecretWells$Notes" 25 (TX3 4).1 (TX3 4).2.1 (TX3 4).2.2.1 ∈ gTbl := gt_2 91 (by decide +kernel) (by decide +kernel)
theorem fl_Pe_9 : Cond.fieldLink "SecretWells$People" 9 (TX4 0).1 (TX4 0).2.1 (TX4 0).2.2.1 ∈ gTbl := gt_2 73 (by decide +kernel) (by decide +kernel)
theorem fl_Pe_15 : Cond.fieldLink "SecretWells$People" 15 (TX4 1).1 (TX4 1).2.1 (TX4 1).2.2.1 ∈ gTbl := gt_2 74 (by decide +kernel) (by decide +kernel)
theorem fl_Rn_9 : Cond.fieldLink "SecretWells$Rain" 9 (TX5 0).1 (TX5 0).2.1 (TX5 0).2.2.1 ∈ gTbl := gt_2 31 (by decide +kernel) (by decide +kernel)
theorem fl_Rn_15 : Cond.fieldLink "SecretWells$Rain" 15 (TX5 1).1 (TX5 1).2.1 (TX5 1).2.2.1 ∈ gTbl := gt_2 33 (by decide +kernel) (by decide +kernel)
theorem fl_Rn_19 : Cond.fieldLink "SecretWells$Rain" 19 (TX5 2).1 (TX5 2).2.1 (TX5 2).2.2.1 ∈ gTbl := gt_2 35 (by decide +kernel) (by decide +kernel)
theorem fl_Rn_22 : Cond.fieldLink "SecretWells$Rain" 22 (TX5 3).1 (TX5 3).2.1 (TX5 3).2.2.1 ∈ gTbl := gt_2 37 (by decide +kernel) (by decide +kernel)
theorem fl_Rn_25 : Cond.fieldLink "SecretWells$Rain" 25 (TX5 4).1 (TX5 4).2.1 (TX5 4).2.2.1 ∈ gTbl := gt_2 39 (by decide +kernel) (by decide +kernel)
theorem fl_Rn_29 : Cond.fieldLink "SecretWells$Rain" 29 (TX5 5).1 (TX5 5).2.1 (TX5 5).2.2.1 ∈ gTbl := gt_2 41 (by decide +kernel) (by decide +kernel)
theorem fl_Rn_32 : Cond.fieldLink "SecretWells$Rain" 32 (TX5 6).1 (TX5 6).2.1 (TX5 6).2.2.1 ∈ gTbl := gt_2 42 (by decide +kernel) (by decide +kernel)
theorem fl_Rn_35 : Cond.fieldLink "SecretWells$Rain" 35 (TX5 7).1 (TX5 7).2.1 (TX5 7).2.2.1 ∈ gTbl := gt_2 43 (by decide +kernel) (by decide +kernel)
theorem fl_Rn_38 : Cond.fieldLink "SecretWells$Rain" 38 (TX5 8).1 (TX5 8).2.1 (TX5 8).2.2.1 ∈ gTbl := gt_2 44 (by decide +kernel) (by decide +kernel)
theorem fl_Rn_41 : Cond.fieldLink "SecretWells$Rain" 41 (TX5 9).1 (TX5 9).2.1 (TX5 9).2.2.1 ∈ gTbl := gt_2 45 (by decide +kernel) (by decide +kernel)
theorem fl_Sh_9 : Cond.fieldLink "SecretWells$Shape" 9 (TX7 0).1 (TX7 0).2.1 (TX7 0).2.2.1 ∈ gTbl := gt_1 120 (by decide +kernel) (by decide +kernel)
theorem fl_Sh_15 : Cond.fieldLink "SecretWells$Shape" 15 (TX7 2).1 (TX7 2).2.1 (TX7 2).2.2.1 ∈ gTbl := gt_1 123 (by decide +kernel) (by decide +kernel)
theorem fl_Sh_18 : Cond.fieldLink "SecretWells$Shape" 18 (TX7 3).1 (TX7 3).2.1 (TX7 3).2.2.1 ∈ gTbl := gt_1 124 (by decide +kernel) (by decide +kernel)
theorem fl_Sh_21 : Cond.fieldLink "SecretWells$Shape" 21 (TX7 4).1 (TX7 4).2.1 (TX7 4).2.2.1 ∈ gTbl := gt_1 125 (by decide +kernel) (by decide +kernel)
theorem fl_Sh_25 : Cond.fieldLink "SecretWells$Shape" 25 (TX7 1).1 (TX7 1).2.1 (TX7 1).2.2.1 ∈ gTbl := gt_1 122 (by decide +kernel) (by decide +kernel)
theorem fl_St_9 : Cond.fieldLink "SecretWells$State" 9 (TX8 0).1 (TX8 0).2.1 (TX8 0).2.2.1 ∈ gTbl := gt_1 172 (by decide +kernel) (by decide +kernel)
theorem fl_St_15 : Cond.fieldLink "SecretWells$State" 15 (TX8 1).1 (TX8 1).2.1 (TX8 1).2.2.1 ∈ gTbl := gt_1 176 (by decide +kernel) (by decide +kernel)
theorem fl_St_18 : Cond.fieldLink "SecretWells$State" 18 (TX8 2).1 (TX8 2).2.1 (TX8 2).2.2.1 ∈ gTbl := gt_1 182 (by decide +kernel) (by decide +kernel)
theorem fl_St_21 : Cond.fieldLink "SecretWells$State" 21 (TX8 3).1 (TX8 3).2.1 (TX8 3).2.2.1 ∈ gTbl := gt_1 185 (by decide +kernel) (by decide +kernel)
theorem fl_St_24 : Cond.fieldLink "SecretWells$State" 24 (TX8 4).1 (TX8 4).2.1 (TX8 4).2.2.1 ∈ gTbl := gt_1 188 (by decide +kernel) (by decide +kernel)
theorem fl_St_28 : Cond.fieldLink "SecretWells$State" 28 (TX8 5).1 (TX8 5).2.1 (TX8 5).2.2.1 ∈ gTbl := gt_1 192 (by decide +kernel) (by decide +kernel)
theorem fl_St_31 : Cond.fieldLink "SecretWells$State" 31 (TX8 6).1 (TX8 6).2.1 (TX8 6).2.2.1 ∈ gTbl := gt_1 197 (by decide +kernel) (by decide +kernel)
theorem fl_St_34 : Cond.fieldLink "SecretWells$State" 34 (TX8 7).1 (TX8 7).2.1 (TX8 7).2.2.1 ∈ gTbl := gt_1 201 (by decide +kernel) (by decide +kernel)
theorem fl_St_37 : Cond.fieldLink "SecretWells$State" 37 (TX8 8).1 (TX8 8).2.1 (TX8 8).2.2.1 ∈ gTbl := gt_1 206 (by decide +kernel) (by decide +kernel)
theorem fl_St_40 : Cond.fieldLink "SecretWells$State" 40 (TX8 9).1 (TX8 9).2.1 (TX8 9).2.2.1 ∈ gTbl := gt_1 211 (by decide +kernel) (by decide +kernel)
theorem fl_St_43 : Cond.fieldLink "SecretWells$State" 43 (TX8 10).1 (TX8 10).2.1 (TX8 10).2.2.1 ∈ gTbl := gt_1 215 (by decide +kernel) (by decide +kernel)
theorem fl_St_46 : Cond.fieldLink "SecretWells$State" 46 (TX8 11).1 (TX8 11).2.1 (TX8 11).2.2.1 ∈ gTbl := gt_1 218 (by decide +kernel) (by decide +kernel)
theorem fl_St_49 : Cond.fieldLink "SecretWells$State" 49 (TX8 12).1 (TX8 12).2.1 (TX8 12).2.2.1 ∈ gTbl := gt_1 222 (by decide +kernel) (by decide +kernel)
theorem fl_Rw_17 : Cond.fieldLink "SecretWells$Rows" 17 (TX6 0).1 (TX6 0).2.1 (TX6 0).2.2.1 ∈ gTbl := gt_2 112 (by decide +kernel) (by decide +kernel)
theorem fl_Tx_9 : Cond.fieldLink "SecretWells$Text" 9 (TX10 0).1 (TX10 0).2.1 (TX10 0).2.2.1 ∈ gTbl := gt_2 144 (by decide +kernel) (by decide +kernel)
theorem fl_Tx_15 : Cond.fieldLink "SecretWells$Text" 15 (TX10 1).1 (TX10 1).2.1 (TX10 1).2.2.1 ∈ gTbl := gt_2 150 (by decide +kernel) (by decide +kernel)
theorem fl_Tx_18 : Cond.fieldLink "SecretWells$Text" 18 (TX10 2).1 (TX10 2).2.1 (TX10 2).2.2.1 ∈ gTbl := gt_2 156 (by decide +kernel) (by decide +kernel)
theorem fl_Tx_21 : Cond.fieldLink "SecretWells$Text" 21 (TX10 3).1 (TX10 3).2.1 (TX10 3).2.2.1 ∈ gTbl := gt_2 164 (by decide +kernel) (by decide +kernel)
theorem fl_Tx_24 : Cond.fieldLink "SecretWells$Text" 24 (TX10 4).1 (TX10 4).2.1 (TX10 4).2.2.1 ∈ gTbl := gt_2 169 (by decide +kernel) (by decide +kernel)
theorem fl_Tx_27 : Cond.fieldLink "SecretWells$Text" 27 (TX10 5).1 (TX10 5).2.1 (TX10 5).2.2.1 ∈ gTbl := gt_2 172 (by decide +kernel) (by decide +kernel)
theorem fl_Tx_30 : Cond.fieldLink "SecretWells$Text" 30 (TX10 6).1 (TX10 6).2.1 (TX10 6).2.2.1 ∈ gTbl := gt_2 175 (by decide +kernel) (by decide +kernel)
theorem fl_Tx_33 : Cond.fieldLink "SecretWells$Text" 33 (TX10 7).1 (TX10 7).2.1 (TX10 7).2.2.1 ∈ gTbl := gt_2 178 (by decide +kernel) (by decide +kernel)
theorem fl_Tx_36 : Cond.fieldLink "SecretWells$Text" 36 (TX10 8).1 (TX10 8).2.1 (TX10 8).2.2.1 ∈ gTbl := gt_2 182 (by decide +kernel) (by decide +kernel)
theorem fl_Tx_40 : Cond.fieldLink "SecretWells$Text" 40 (TX10 9).1 (TX10 9).2.1 (TX10 9).2.2.1 ∈ gTbl := gt_2 186 (by decide +kernel) (by decide +kernel)
theorem fl_Tx_43 : Cond.fieldLink "SecretWells$Text" 43 (TX10 10).1 (TX10 10).2.1 (TX10 10).2.2.1 ∈ gTbl := gt_2 189 (by decide +kernel) (by decide +kernel)
theorem fl_Tx_46 : Cond.fieldLink "SecretWells$Text" 46 (TX10 11).1 (TX10 11).2.1 (TX10 11).2.2.1 ∈ gTbl := gt_2 192 (by decide +kernel) (by decide +kernel)
theorem fl_Tx_49 : Cond.fieldLink "SecretWells$Text" 49 (TX10 12).1 (TX10 12).2.1 (TX10 12).2.2.1 ∈ gTbl := gt_2 195 (by decide +kernel) (by decide +kernel)
theorem fl_Tx_52 : Cond.fieldLink "SecretWells$Text" 52 (TX10 13).1 (TX10 13).2.1 (TX10 13).2.2.1 ∈ gTbl := gt_2 198 (by decide +kernel) (by decide +kernel)
theorem fl_Tx_55 : Cond.fieldLink "SecretWells$Text" 55 (TX10 14).1 (TX10 14).2.1 (TX10 14).2.2.1 ∈ gTbl := gt_2 204 (by decide +kernel) (by decide +kernel)
theorem fl_Tx_58 : Cond.fieldLink "SecretWells$Text" 58 (TX10 15).1 (TX10 15).2.1 (TX10 15).2.2.1 ∈ gTbl := gt_2 206 (by decide +kernel) (by decide +kernel)
theorem fl_Tx_61 : Cond.fieldLink "SecretWells$Text" 61 (TX10 16).1 (TX10 16).2.1 (TX10 16).2.2.1 ∈ gTbl := gt_2 211 (by decide +kernel) (by decide +kernel)
theorem fl_Tx_67 : Cond.fieldLink "SecretWells$Text" 67 (TX10 17).1 (TX10 17).2.1 (TX10 17).2.2.1 ∈ gTbl := gt_2 216 (by decide +kernel) (by decide +kernel)
theorem fl_Tx_71 : Cond.fieldLink "SecretWells$Text" 71 (TX10 18).1 (TX10 18).2.1 (TX10 18).2.2.1 ∈ gTbl := gt_2 219 (by decide +kernel) (by decide +kernel)
theorem fl_Tx_74 : Cond.fieldLink "SecretWells$Text" 74 (TX10 19).1 (TX10 19).2.1 (TX10 19).2.2.1 ∈ gTbl := gt_2 222 (by decide +kernel) (by decide +kernel)
theorem fl_Tp_9 : Cond.fieldLink "SecretWells$Tape" 9 (TX9 0).1 (TX9 0).2.1 (TX9 0).2.2.1 ∈ gTbl := gt_1 91 (by decide +kernel) (by decide +kernel)
theorem fl_Tp_15 : Cond.fieldLink "SecretWells$Tape" 15 (TX9 1).1 (TX9 1).2.1 (TX9 1).2.2.1 ∈ gTbl := gt_1 93 (by decide +kernel) (by decide +kernel)
theorem fl_Tp_19 : Cond.fieldLink "SecretWells$Tape" 19 (TX9 2).1 (TX9 2).2.1 (TX9 2).2.2.1 ∈ gTbl := gt_1 94 (by decide +kernel) (by decide +kernel)
theorem fl_Tp_23 : Cond.fieldLink "SecretWells$Tape" 23 (TX9 3).1 (TX9 3).2.1 (TX9 3).2.2.1 ∈ gTbl := gt_1 95 (by decide +kernel) (by decide +kernel)
theorem fl_Tp_27 : Cond.fieldLink "SecretWells$Tape" 27 (TX9 4).1 (TX9 4).2.1 (TX9 4).2.2.1 ∈ gTbl := gt_1 96 (by decide +kernel) (by decide +kernel)
theorem fl_Tp_30 : Cond.fieldLink "SecretWells$Tape" 30 (TX9 5).1 (TX9 5).2.1 (TX9 5).2.2.1 ∈ gTbl := gt_1 97 (by decide +kernel) (by decide +kernel)
theorem fl_Co_10 : Cond.fieldLink "SecretWells" 10 (TX11 0).1 (TX11 0).2.1 (TX11 0).2.2.1 ∈ gTbl := gt_3 86 (by decide +kernel) (by decide +kernel)
theorem fl_Co_21 : Cond.fieldLink "SecretWells" 21 (TX11 1).1 (TX11 1).2.1 (TX11 1).2.2.1 ∈ gTbl := gt_3 87 (by decide +kernel) (by decide +kernel)
theorem fl_Co_28 : Cond.fieldLink "SecretWells" 28 (TX11 2).1 (TX11 2).2.1 (TX11 2).2.2.1 ∈ gTbl := gt_3 88 (by decide +kernel) (by decide +kernel)
theorem fl_Co_35 : Cond.fieldLink "SecretWells" 35 (TX11 3).1 (TX11 3).2.1 (TX11 3).2.2.1 ∈ gTbl := gt_3 89 (by decide +kernel) (by decide +kernel)
theorem fl_Co_39 : Cond.fieldLink "SecretWells" 39 (TX11 4).1 (TX11 4).2.1 (TX11 4).2.2.1 ∈ gTbl := gt_3 90 (by decide +kernel) (by decide +kernel)
theorem fl_Co_45 : Cond.fieldLink "SecretWells" 45 (TX11 5).1 (TX11 5).2.1 (TX11 5).2.2.1 ∈ gTbl := gt_3 91 (by decide +kernel) (by decide +kernel)
theorem fl_Co_52 : Cond.fieldLink "SecretWells" 52 (TX11 6).1 (TX11 6).2.1 (TX11 6).2.2.1 ∈ gTbl := gt_3 92 (by decide +kernel) (by decide +kernel)
theorem fl_Co_59 : Cond.fieldLink "SecretWells" 59 (TX11 7).1 (TX11 7).2.1 (TX11 7).2.2.1 ∈ gTbl := gt_3 93 (by decide +kernel) (by decide +kernel)
theorem fl_Co_66 : Cond.fieldLink "SecretWells" 66 (TX11 8).1 (TX11 8).2.1 (TX11 8).2.2.1 ∈ gTbl := gt_3 94 (by decide +kernel) (by decide +kernel)
theorem fl_Co_75 : Cond.fieldLink "SecretWells" 75 (TX11 9).1 (TX11 9).2.1 (TX11 9).2.2.1 ∈ gTbl := gt_3 95 (by decide +kernel) (by decide +kernel)
theorem fl_Co_79 : Cond.fieldLink "SecretWells" 79 (TX11 10).1 (TX11 10).2.1 (TX11 10).2.2.1 ∈ gTbl := gt_3 96 (by decide +kernel) (by decide +kernel)
theorem fl_Co_85 : Cond.fieldLink "SecretWells" 85 (TX11 11).1 (TX11 11).2.1 (TX11 11).2.2.1 ∈ gTbl := gt_3 97 (by decide +kernel) (by decide +kernel)
theorem fl_Co_89 : Cond.fieldLink "SecretWells" 89 (TX11 12).1 (TX11 12).2.1 (TX11 12).2.2.1 ∈ gTbl := gt_3 98 (by decide +kernel) (by decide +kernel)
theorem fl_Co_92 : Cond.fieldLink "SecretWells" 92 (TX11 13).1 (TX11 13).2.1 (TX11 13).2.2.1 ∈ gTbl := gt_3 99 (by decide +kernel) (by decide +kernel)
theorem fl_Co_96 : Cond.fieldLink "SecretWells" 96 (TX11 14).1 (TX11 14).2.1 (TX11 14).2.2.1 ∈ gTbl := gt_3 100 (by decide +kernel) (by decide +kernel)
theorem fl_Co_99 : Cond.fieldLink "SecretWells" 99 (TX11 15).1 (TX11 15).2.1 (TX11 15).2.2.1 ∈ gTbl := gt_3 101 (by decide +kernel) (by decide +kernel)
theorem fl_Co_102 : Cond.fieldLink "SecretWells" 102 (TX11 16).1 (TX11 16).2.1 (TX11 16).2.2.1 ∈ gTbl := gt_3 102 (by decide +kernel) (by decide +kernel)
theorem fl_Mo_13 : Cond.fieldLink "SecretWellsModel" 13 (TX12 1).1 (TX12 1).2.1 (TX12 1).2.2.1 ∈ gTbl := gt_6 138 (by decide +kernel) (by decide +kernel)
theorem fl_Mo_17 : Cond.fieldLink "SecretWellsModel" 17 (TX12 3).1 (TX12 3).2.1 (TX12 3).2.2.1 ∈ gTbl := gt_6 140 (by decide +kernel) (by decide +kernel)
theorem fl_Mo_20 : Cond.fieldLink "SecretWellsModel" 20 (TX12 5).1 (TX12 5).2.1 (TX12 5).2.2.1 ∈ gTbl := gt_6 142 (by decide +kernel) (by decide +kernel)
theorem fl_Mo_24 : Cond.fieldLink "SecretWellsModel" 24 (TX12 6).1 (TX12 6).2.1 (TX12 6).2.2.1 ∈ gTbl := gt_6 143 (by decide +kernel) (by decide +kernel)
theorem fl_Mo_27 : Cond.fieldLink "SecretWellsModel" 27 (TX12 7).1 (TX12 7).2.1 (TX12 7).2.2.1 ∈ gTbl := gt_6 144 (by decide +kernel) (by decide +kernel)
theorem fl_Mo_30 : Cond.fieldLink "SecretWellsModel" 30 (TX12 8).1 (TX12 8).2.1 (TX12 8).2.2.1 ∈ gTbl := gt_6 145 (by decide +kernel) (by decide +kernel)
theorem fl_Mo_34 : Cond.fieldLink "SecretWellsModel" 34 (TX12 9).1 (TX12 9).2.1 (TX12 9).2.2.1 ∈ gTbl := gt_6 146 (by decide +kernel) (by decide +kernel)
theorem fl_Mo_37 : Cond.fieldLink "SecretWellsModel" 37 (TX12 17).1 (TX12 17).2.1 (TX12 17).2.2.1 ∈ gTbl := gt_6 154 (by decide +kernel) (by decide +kernel)
theorem fl_Mo_40 : Cond.fieldLink "SecretWellsModel" 40 (TX12 21).1 (TX12 21).2.1 (TX12 21).2.2.1 ∈ gTbl := gt_6 158 (by decide +kernel) (by decide +kernel)
theorem fl_Mo_43 : Cond.fieldLink "SecretWellsModel" 43 (TX12 22).1 (TX12 22).2.1 (TX12 22).2.2.1 ∈ gTbl := gt_6 159 (by decide +kernel) (by decide +kernel)
theorem fl_Mo_46 : Cond.fieldLink "SecretWellsModel" 46 (TX12 23).1 (TX12 23).2.1 (TX12 23).2.2.1 ∈ gTbl := gt_6 160 (by decide +kernel) (by decide +kernel)
theorem fl_Mo_49 : Cond.fieldLink "SecretWellsModel" 49 (TX12 24).1 (TX12 24).2.1 (TX12 24).2.2.1 ∈ gTbl := gt_6 161 (by decide +kernel) (by decide +kernel)
theorem fl_Mo_52 : Cond.fieldLink "SecretWellsModel" 52 (TX12 25).1 (TX12 25).2.1 (TX12 25).2.2.1 ∈ gTbl := gt_6 162 (by decide +kernel) (by decide +kernel)
theorem fl_Mo_55 : Cond.fieldLink "SecretWellsModel" 55 (TX12 26).1 (TX12 26).2.1 (TX12 26).2.2.1 ∈ gTbl := gt_6 163 (by decide +kernel) (by decide +kernel)
theorem fl_Mo_58 : Cond.fieldLink "SecretWellsModel" 58 (TX12 27).1 (TX12 27).2.1 (TX12 27).2.2.1 ∈ gTbl := gt_6 164 (by decide +kernel) (by decide +kernel)
theorem fl_Mo_61 : Cond.fieldLink "SecretWellsModel" 61 (TX12 28).1 (TX12 28).2.1 (TX12 28).2.2.1 ∈ gTbl := gt_6 165 (by decide +kernel) (by decide +kernel)
theorem fl_Mo_64 : Cond.fieldLink "SecretWellsModel" 64 (TX12 29).1 (TX12 29).2.1 (TX12 29).2.2.1 ∈ gTbl := gt_6 166 (by decide +kernel) (by decide +kernel)
theorem fl_Mo_67 : Cond.fieldLink "SecretWellsModel" 67 (TX12 30).1 (TX12 30).2.1 (TX12 30).2.2.1 ∈ gTbl := gt_6 167 (by decide +kernel) (by decide +kernel)
theorem fl_Mo_70 : Cond.fieldLink "SecretWellsModel" 70 (TX12 31).1 (TX12 31).2.1 (TX12 31).2.2.1 ∈ gTbl := gt_6 168 (by decide +kernel) (by decide +kernel)
theorem fl_Mo_73 : Cond.fieldLink "SecretWellsModel" 73 (TX12 32).1 (TX12 32).2.1 (TX12 32).2.2.1 ∈ gTbl := gt_6 169 (by decide +kernel) (by decide +kernel)
theorem fl_Mo_77 : Cond.fieldLink "SecretWellsModel" 77 (TX12 33).1 (TX12 33).2.1 (TX12 33).2.2.1 ∈ gTbl := gt_6 170 (by decide +kernel) (by decide +kernel)
theorem fl_Mo_80 : Cond.fieldLink "SecretWellsModel" 80 (TX12 34).1 (TX12 34).2.1 (TX12 34).2.2.1 ∈ gTbl := gt_6 171 (by decide +kernel) (by decide +kernel)
theorem fl_Mo_83 : Cond.fieldLink "SecretWellsModel" 83 (TX12 35).1 (TX12 35).2.1 (TX12 35).2.2.1 ∈ gTbl := gt_6 172 (by decide +kernel) (by decide +kernel)
theorem fl_Mo_86 : Cond.fieldLink "SecretWellsModel" 86 (TX12 36).1 (TX12 36).2.1 (TX12 36).2.2.1 ∈ gTbl := gt_6 173 (by decide +kernel) (by decide +kernel)
theorem fl_Mo_89 : Cond.fieldLink "SecretWellsModel" 89 (TX12 37).1 (TX12 37).2.1 (TX12 37).2.2.1 ∈ gTbl := gt_6 174 (by decide +kernel) (by decide +kernel)
theorem fl_Mo_92 : Cond.fieldLink "SecretWellsModel" 92 (TX12 38).1 (TX12 38).2.1 (TX12 38).2.2.1 ∈ gTbl := gt_6 175 (by decide +kernel) (by decide +kernel)
theorem fl_Mo_95 : Cond.fieldLink "SecretWellsModel" 95 (TX12 39).1 (TX12 39).2.1 (TX12 39).2.2.1 ∈ gTbl := gt_6 176 (by decide +kernel) (by decide +kernel)
theorem fl_Mo_98 : Cond.fieldLink "SecretWellsModel" 98 (TX12 40).1 (TX12 40).2.1 (TX12 40).2.2.1 ∈ gTbl := gt_6 177 (by decide +kernel) (by decide +kernel)
theorem fl_Mo_101 : Cond.fieldLink "SecretWellsModel" 101 (TX12 41).1 (TX12 41).2.1 (TX12 41).2.2.1 ∈ gTbl := gt_6 178 (by decide +kernel) (by decide +kernel)
theorem fl_Mo_104 : Cond.fieldLink "SecretWellsModel" 104 (TX12 43).1 (TX12 43).2.1 (TX12 43).2.2.1 ∈ gTbl := gt_6 180 (by decide +kernel) (by decide +kernel)
theorem fl_Mo_107 : Cond.fieldLink "SecretWellsModel" 107 (TX12 44).1 (TX12 44).2.1 (TX12 44).2.2.1 ∈ gTbl := gt_6 181 (by decide +kernel) (by decide +kernel)
theorem fl_Mo_110 : Cond.fieldLink "SecretWellsModel" 110 (TX12 45).1 (TX12 45).2.1 (TX12 45).2.2.1 ∈ gTbl := gt_6 182 (by decide +kernel) (by decide +kernel)
theorem fl_Mo_113 : Cond.fieldLink "SecretWellsModel" 113 (TX12 46).1 (TX12 46).2.1 (TX12 46).2.2.1 ∈ gTbl := gt_6 183 (by decide +kernel) (by decide +kernel)
theorem fl_Mo_116 : Cond.fieldLink "SecretWellsModel" 116 (TX12 47).1 (TX12 47).2.1 (TX12 47).2.2.1 ∈ gTbl := gt_6 184 (by decide +kernel) (by decide +kernel)
theorem fl_Mo_119 : Cond.fieldLink "SecretWellsModel" 119 (TX12 49).1 (TX12 49).2.1 (TX12 49).2.2.1 ∈ gTbl := gt_6 186 (by decide +kernel) (by decide +kernel)
theorem fl_Mo_122 : Cond.fieldLink "SecretWellsModel" 122 (TX12 50).1 (TX12 50).2.1 (TX12 50).2.2.1 ∈ gTbl := gt_6 187 (by decide +kernel) (by decide +kernel)
theorem fl_Mo_125 : Cond.fieldLink "SecretWellsModel" 125 (TX12 51).1 (TX12 51).2.1 (TX12 51).2.2.1 ∈ gTbl := gt_6 188 (by decide +kernel) (by decide +kernel)
theorem fl_Mo_128 : Cond.fieldLink "SecretWellsModel" 128 (TX12 53).1 (TX12 53).2.1 (TX12 53).2.2.1 ∈ gTbl := gt_6 190 (by decide +kernel) (by decide +kernel)
theorem fl_Mo_131 : Cond.fieldLink "SecretWellsModel" 131 (TX12 54).1 (TX12 54).2.1 (TX12 54).2.2.1 ∈ gTbl := gt_6 191 (by decide +kernel) (by decide +kernel)
theorem fl_Mo_134 : Cond.fieldLink "SecretWellsModel" 134 (TX12 56).1 (TX12 56).2.1 (TX12 56).2.2.1 ∈ gTbl := gt_6 193 (by decide +kernel) (by decide +kernel)
theorem fl_Mo_137 : Cond.fieldLink "SecretWellsModel" 137 (TX12 57).1 (TX12 57).2.1 (TX12 57).2.2.1 ∈ gTbl := gt_6 194 (by decide +kernel) (by decide +kernel)
theorem fl_Mo_140 : Cond.fieldLink "SecretWellsModel" 140 (TX12 59).1 (TX12 59).2.1 (TX12 59).2.2.1 ∈ gTbl := gt_6 196 (by decide +kernel) (by decide +kernel)
theorem fl_Mo_143 : Cond.fieldLink "SecretWellsModel" 143 (TX12 61).1 (TX12 61).2.1 (TX12 61).2.2.1 ∈ gTbl := gt_6 198 (by decide +kernel) (by decide +kernel)
theorem fl_Mo_146 : Cond.fieldLink "SecretWellsModel" 146 (TX12 66).1 (TX12 66).2.1 (TX12 66).2.2.1 ∈ gTbl := gt_6 203 (by decide +kernel) (by decide +kernel)
theorem fl_Mo_149 : Cond.fieldLink "SecretWellsModel" 149 (TX12 69).1 (TX12 69).2.1 (TX12 69).2.2.1 ∈ gTbl := gt_6 206 (by decide +kernel) (by decide +kernel)
theorem fl_Mo_152 : Cond.fieldLink "SecretWellsModel" 152 (TX12 70).1 (TX12 70).2.1 (TX12 70).2.2.1 ∈ gTbl := gt_6 207 (by decide +kernel) (by decide +kernel)
theorem fl_Mo_155 : Cond.fieldLink "SecretWellsModel" 155 (TX12 71).1 (TX12 71).2.1 (TX12 71).2.2.1 ∈ gTbl := gt_6 208 (by decide +kernel) (by decide +kernel)
theorem fl_Mo_158 : Cond.fieldLink "SecretWellsModel" 158 (TX12 72).1 (TX12 72).2.1 (TX12 72).2.2.1 ∈ gTbl := gt_6 209 (by decide +kernel) (by decide +kernel)
theorem fl_Mo_161 : Cond.fieldLink "SecretWellsModel" 161 (TX12 73).1 (TX12 73).2.1 (TX12 73).2.2.1 ∈ gTbl := gt_6 210 (by decide +kernel) (by decide +kernel)
theorem cl_Tx_64 : Cond.classLink "SecretWells$Text" 64 "SecretWells$Law" ∈ gTbl := gt_2 122 (by decide +kernel) (by decide +kernel)
theorem cl_Co_7 : Cond.classLink "SecretWells" 7 "SecretWells$Tape" ∈ gTbl := gt_1 31 (by decide +kernel) (by decide +kernel)
theorem cl_Co_16 : Cond.classLink "SecretWells" 16 "SecretWells$Shape" ∈ gTbl := gt_1 114 (by decide +kernel) (by decide +kernel)
theorem cl_Co_25 : Cond.classLink "SecretWells" 25 "SecretWells$Meaning" ∈ gTbl := gt_1 137 (by decide +kernel) (by decide +kernel)
theorem cl_Co_32 : Cond.classLink "SecretWells" 32 "SecretWells$State" ∈ gTbl := gt_1 166 (by decide +kernel) (by decide +kernel)
theorem cl_Co_42 : Cond.classLink "SecretWells" 42 "SecretWells$Days" ∈ gTbl := gt_2 12 (by decide +kernel) (by decide +kernel)
theorem cl_Co_49 : Cond.classLink "SecretWells" 49 "SecretWells$Rain" ∈ gTbl := gt_2 25 (by decide +kernel) (by decide +kernel)
theorem cl_Co_56 : Cond.classLink "SecretWells" 56 "SecretWells$People" ∈ gTbl := gt_2 67 (by decide +kernel) (by decide +kernel)
theorem cl_Co_63 : Cond.classLink "SecretWells" 63 "SecretWells$Notes" ∈ gTbl := gt_2 80 (by decide +kernel) (by decide +kernel)
theorem cl_Co_70 : Cond.classLink "SecretWells" 70 "SecretWells$Rows" ∈ gTbl := gt_2 103 (by decide +kernel) (by decide +kernel)
theorem cl_Co_82 : Cond.classLink "SecretWells" 82 "SecretWells$Text" ∈ gTbl := gt_2 116 (by decide +kernel) (by decide +kernel)
theorem fo_Dy_102 : FOk "SecretWells$Days" 102 10 2 := ⟨RX10, TX10, 20, rfl, by decide, inX10, gt_2 159 (by decide +kernel) (by decide +kernel)⟩
theorem fo_Dy_113 : FOk "SecretWells$Days" 113 8 10 := ⟨RX8, TX8, 13, rfl, by decide, inX8, gt_1 216 (by decide +kernel) (by decide +kernel)⟩
theorem fo_Dy_126 : FOk "SecretWells$Days" 126 10 17 := ⟨RX10, TX10, 20, rfl, by decide, inX10, gt_2 218 (by decide +kernel) (by decide +kernel)⟩
theorem fo_Dy_136 : FOk "SecretWells$Days" 136 10 19 := ⟨RX10, TX10, 20, rfl, by decide, inX10, gt_2 224 (by decide +kernel) (by decide +kernel)⟩
theorem fo_Dy_143 : FOk "SecretWells$Days" 143 10 11 := ⟨RX10, TX10, 20, rfl, by decide, inX10, gt_2 194 (by decide +kernel) (by decide +kernel)⟩
theorem fo_Dy_146 : FOk "SecretWells$Days" 146 10 13 := ⟨RX10, TX10, 20, rfl, by decide, inX10, gt_2 201 (by decide +kernel) (by decide +kernel)⟩
theorem fo_Dy_149 : FOk "SecretWells$Days" 149 10 18 := ⟨RX10, TX10, 20, rfl, by decide, inX10, gt_2 221 (by decide +kernel) (by decide +kernel)⟩
theorem fo_Dy_15 : FOk "SecretWells$Days" 15 0 1 := ⟨RX0, TX0, 2, rfl, by decide, inX0, gt_2 19 (by decide +kernel) (by decide +kernel)⟩
theorem fo_Dy_152 : FOk "SecretWells$Days" 152 8 11 := ⟨RX8, TX8, 13, rfl, by decide, inX8, gt_1 220 (by decide +kernel) (by decide +kernel)⟩
theorem fo_Dy_18 : FOk "SecretWells$Days" 18 10 0 := ⟨RX10, TX10, 20, rfl, by decide, inX10, gt_2 145 (by decide +kernel) (by decide +kernel)⟩
theorem fo_Dy_28 : FOk "SecretWells$Days" 28 8 4 := ⟨RX8, TX8, 13, rfl, by decide, inX8, gt_1 189 (by decide +kernel) (by decide +kernel)⟩
theorem fo_Dy_33 : FOk "SecretWells$Days" 33 8 9 := ⟨RX8, TX8, 13, rfl, by decide, inX8, gt_1 212 (by decide +kernel) (by decide +kernel)⟩
theorem fo_Dy_42 : FOk "SecretWells$Days" 42 10 1 := ⟨RX10, TX10, 20, rfl, by decide, inX10, gt_2 152 (by decide +kernel) (by decide +kernel)⟩
theorem fo_Dy_53 : FOk "SecretWells$Days" 53 8 7 := ⟨RX8, TX8, 13, rfl, by decide, inX8, gt_1 202 (by decide +kernel) (by decide +kernel)⟩
theorem fo_Dy_62 : FOk "SecretWells$Days" 62 10 3 := ⟨RX10, TX10, 20, rfl, by decide, inX10, gt_2 166 (by decide +kernel) (by decide +kernel)⟩
theorem fo_Dy_73 : FOk "SecretWells$Days" 73 8 0 := ⟨RX8, TX8, 13, rfl, by decide, inX8, gt_1 174 (by decide +kernel) (by decide +kernel)⟩
theorem fo_Dy_76 : FOk "SecretWells$Days" 76 8 5 := ⟨RX8, TX8, 13, rfl, by decide, inX8, gt_1 194 (by decide +kernel) (by decide +kernel)⟩
theorem fo_Dy_82 : FOk "SecretWells$Days" 82 8 6 := ⟨RX8, TX8, 13, rfl, by decide, inX8, gt_1 199 (by decide +kernel) (by decide +kernel)⟩
theorem fo_Dy_85 : FOk "SecretWells$Days" 85 10 5 := ⟨RX10, TX10, 20, rfl, by decide, inX10, gt_2 173 (by decide +kernel) (by decide +kernel)⟩
theorem fo_Dy_87 : FOk "SecretWells$Days" 87 8 1 := ⟨RX8, TX8, 13, rfl, by decide, inX8, gt_1 178 (by decide +kernel) (by decide +kernel)⟩
theorem fo_Dy_9 : FOk "SecretWells$Days" 9 0 0 := ⟨RX0, TX0, 2, rfl, by decide, inX0, gt_2 18 (by decide +kernel) (by decide +kernel)⟩
theorem fo_Dy_93 : FOk "SecretWells$Days" 93 10 15 := ⟨RX10, TX10, 20, rfl, by decide, inX10, gt_2 208 (by decide +kernel) (by decide +kernel)⟩
theorem fo_Dy_96 : FOk "SecretWells$Days" 96 10 16 := ⟨RX10, TX10, 20, rfl, by decide, inX10, gt_2 213 (by decide +kernel) (by decide +kernel)⟩
theorem fo_Lw_15 : FOk "SecretWells$Law" 15 1 1 := ⟨RX1, TX1, 5, rfl, by decide, inX1, gt_2 129 (by decide +kernel) (by decide +kernel)⟩
theorem fo_Lw_18 : FOk "SecretWells$Law" 18 1 2 := ⟨RX1, TX1, 5, rfl, by decide, inX1, gt_2 130 (by decide +kernel) (by decide +kernel)⟩
theorem fo_Lw_22 : FOk "SecretWells$Law" 22 1 3 := ⟨RX1, TX1, 5, rfl, by decide, inX1, gt_2 131 (by decide +kernel) (by decide +kernel)⟩
theorem fo_Lw_25 : FOk "SecretWells$Law" 25 1 4 := ⟨RX1, TX1, 5, rfl, by decide, inX1, gt_2 132 (by decide +kernel) (by decide +kernel)⟩
theorem fo_Lw_9 : FOk "SecretWells$Law" 9 1 0 := ⟨RX1, TX1, 5, rfl, by decide, inX1, gt_2 128 (by decide +kernel) (by decide +kernel)⟩
theorem fo_Mn_103 : FOk "SecretWells$Meaning" 103 10 9 := ⟨RX10, TX10, 20, rfl, by decide, inX10, gt_2 188 (by decide +kernel) (by decide +kernel)⟩
theorem fo_Mn_106 : FOk "SecretWells$Meaning" 106 10 1 := ⟨RX10, TX10, 20, rfl, by decide, inX10, gt_2 153 (by decide +kernel) (by decide +kernel)⟩
theorem fo_Mn_109 : FOk "SecretWells$Meaning" 109 10 10 := ⟨RX10, TX10, 20, rfl, by decide, inX10, gt_2 191 (by decide +kernel) (by decide +kernel)⟩
theorem fo_Mn_121 : FOk "SecretWells$Meaning" 121 10 11 := ⟨RX10, TX10, 20, rfl, by decide, inX10, gt_2 193 (by decide +kernel) (by decide +kernel)⟩
theorem fo_Mn_124 : FOk "SecretWells$Meaning" 124 10 2 := ⟨RX10, TX10, 20, rfl, by decide, inX10, gt_2 161 (by decide +kernel) (by decide +kernel)⟩
theorem fo_Mn_127 : FOk "SecretWells$Meaning" 127 10 13 := ⟨RX10, TX10, 20, rfl, by decide, inX10, gt_2 200 (by decide +kernel) (by decide +kernel)⟩
theorem fo_Mn_130 : FOk "SecretWells$Meaning" 130 10 4 := ⟨RX10, TX10, 20, rfl, by decide, inX10, gt_2 170 (by decide +kernel) (by decide +kernel)⟩
theorem fo_Mn_137 : FOk "SecretWells$Meaning" 137 10 12 := ⟨RX10, TX10, 20, rfl, by decide, inX10, gt_2 197 (by decide +kernel) (by decide +kernel)⟩
theorem fo_Mn_144 : FOk "SecretWells$Meaning" 144 10 3 := ⟨RX10, TX10, 20, rfl, by decide, inX10, gt_2 167 (by decide +kernel) (by decide +kernel)⟩
theorem fo_Mn_147 : FOk "SecretWells$Meaning" 147 10 15 := ⟨RX10, TX10, 20, rfl, by decide, inX10, gt_2 209 (by decide +kernel) (by decide +kernel)⟩
theorem fo_Mn_15 : FOk "SecretWells$Meaning" 15 2 2 := ⟨RX2, TX2, 7, rfl, by decide, inX2, gt_1 146 (by decide +kernel) (by decide +kernel)⟩
theorem fo_Mn_150 : FOk "SecretWells$Meaning" 150 10 16 := ⟨RX10, TX10, 20, rfl, by decide, inX10, gt_2 214 (by decide +kernel) (by decide +kernel)⟩
theorem fo_Mn_18 : FOk "SecretWells$Meaning" 18 2 3 := ⟨RX2, TX2, 7, rfl, by decide, inX2, gt_1 147 (by decide +kernel) (by decide +kernel)⟩
theorem fo_Mn_21 : FOk "SecretWells$Meaning" 21 2 4 := ⟨RX2, TX2, 7, rfl, by decide, inX2, gt_1 148 (by decide +kernel) (by decide +kernel)⟩
theorem fo_Mn_25 : FOk "SecretWells$Meaning" 25 2 5 := ⟨RX2, TX2, 7, rfl, by decide, inX2, gt_1 149 (by decide +kernel) (by decide +kernel)⟩
theorem fo_Mn_28 : FOk "SecretWells$Meaning" 28 2 6 := ⟨RX2, TX2, 7, rfl, by decide, inX2, gt_1 150 (by decide +kernel) (by decide +kernel)⟩
theorem fo_Mn_31 : FOk "SecretWells$Meaning" 31 2 1 := ⟨RX2, TX2, 7, rfl, by decide, inX2, gt_1 145 (by decide +kernel) (by decide +kernel)⟩
theorem fo_Mn_65 : FOk "SecretWells$Meaning" 65 10 17 := ⟨RX10, TX10, 20, rfl, by decide, inX10, gt_2 217 (by decide +kernel) (by decide +kernel)⟩
theorem fo_Mn_73 : FOk "SecretWells$Meaning" 73 10 18 := ⟨RX10, TX10, 20, rfl, by decide, inX10, gt_2 220 (by decide +kernel) (by decide +kernel)⟩
theorem fo_Mn_76 : FOk "SecretWells$Meaning" 76 10 19 := ⟨RX10, TX10, 20, rfl, by decide, inX10, gt_2 223 (by decide +kernel) (by decide +kernel)⟩
theorem fo_Mn_92 : FOk "SecretWells$Meaning" 92 10 0 := ⟨RX10, TX10, 20, rfl, by decide, inX10, gt_2 147 (by decide +kernel) (by decide +kernel)⟩
theorem fo_Mn_99 : FOk "SecretWells$Meaning" 99 10 8 := ⟨RX10, TX10, 20, rfl, by decide, inX10, gt_2 185 (by decide +kernel) (by decide +kernel)⟩
theorem fo_Nt_15 : FOk "SecretWells$Notes" 15 3 1 := ⟨RX3, TX3, 5, rfl, by decide, inX3, gt_2 88 (by decide +kernel) (by decide +kernel)⟩
theorem fo_Nt_19 : FOk "SecretWells$Notes" 19 3 2 := ⟨RX3, TX3, 5, rfl, by decide, inX3, gt_2 89 (by decide +kernel) (by decide +kernel)⟩
theorem fo_Nt_22 : FOk "SecretWells$Notes" 22 3 3 := ⟨RX3, TX3, 5, rfl, by decide, inX3, gt_2 90 (by decide +kernel) (by decide +kernel)⟩
theorem fo_Nt_25 : FOk "SecretWells$Notes" 25 3 4 := ⟨RX3, TX3, 5, rfl, by decide, inX3, gt_2 91 (by decide +kernel) (by decide +kernel)⟩
theorem fo_Nt_28 : FOk "SecretWells$Notes" 28 10 8 := ⟨RX10, TX10, 20, rfl, by decide, inX10, gt_2 183 (by decide +kernel) (by decide +kernel)⟩
theorem fo_Nt_33 : FOk "SecretWells$Notes" 33 10 2 := ⟨RX10, TX10, 20, rfl, by decide, inX10, gt_2 158 (by decide +kernel) (by decide +kernel)⟩
theorem fo_Nt_36 : FOk "SecretWells$Notes" 36 10 14 := ⟨RX10, TX10, 20, rfl, by decide, inX10, gt_2 205 (by decide +kernel) (by decide +kernel)⟩
theorem fo_Nt_9 : FOk "SecretWells$Notes" 9 3 0 := ⟨RX3, TX3, 5, rfl, by decide, inX3, gt_2 86 (by decide +kernel) (by decide +kernel)⟩
theorem fo_Pe_101 : FOk "SecretWells$People" 101 8 5 := ⟨RX8, TX8, 13, rfl, by decide, inX8, gt_1 196 (by decide +kernel) (by decide +kernel)⟩
theorem fo_Pe_108 : FOk "SecretWells$People" 108 8 9 := ⟨RX8, TX8, 13, rfl, by decide, inX8, gt_1 214 (by decide +kernel) (by decide +kernel)⟩
theorem fo_Pe_15 : FOk "SecretWells$People" 15 4 1 := ⟨RX4, TX4, 2, rfl, by decide, inX4, gt_2 74 (by decide +kernel) (by decide +kernel)⟩
theorem fo_Pe_19 : FOk "SecretWells$People" 19 10 3 := ⟨RX10, TX10, 20, rfl, by decide, inX10, gt_2 165 (by decide +kernel) (by decide +kernel)⟩
theorem fo_Pe_24 : FOk "SecretWells$People" 24 10 15 := ⟨RX10, TX10, 20, rfl, by decide, inX10, gt_2 207 (by decide +kernel) (by decide +kernel)⟩
theorem fo_Pe_33 : FOk "SecretWells$People" 33 10 16 := ⟨RX10, TX10, 20, rfl, by decide, inX10, gt_2 212 (by decide +kernel) (by decide +kernel)⟩
theorem fo_Pe_43 : FOk "SecretWells$People" 43 8 1 := ⟨RX8, TX8, 13, rfl, by decide, inX8, gt_1 179 (by decide +kernel) (by decide +kernel)⟩
theorem fo_Pe_60 : FOk "SecretWells$People" 60 8 7 := ⟨RX8, TX8, 13, rfl, by decide, inX8, gt_1 204 (by decide +kernel) (by decide +kernel)⟩
theorem fo_Pe_63 : FOk "SecretWells$People" 63 10 1 := ⟨RX10, TX10, 20, rfl, by decide, inX10, gt_2 154 (by decide +kernel) (by decide +kernel)⟩
theorem fo_Pe_78 : FOk "SecretWells$People" 78 10 2 := ⟨RX10, TX10, 20, rfl, by decide, inX10, gt_2 162 (by decide +kernel) (by decide +kernel)⟩
theorem fo_Pe_85 : FOk "SecretWells$People" 85 8 8 := ⟨RX8, TX8, 13, rfl, by decide, inX8, gt_1 209 (by decide +kernel) (by decide +kernel)⟩
theorem fo_Pe_88 : FOk "SecretWells$People" 88 8 12 := ⟨RX8, TX8, 13, rfl, by decide, inX8, gt_1 223 (by decide +kernel) (by decide +kernel)⟩
theorem fo_Pe_9 : FOk "SecretWells$People" 9 4 0 := ⟨RX4, TX4, 2, rfl, by decide, inX4, gt_2 73 (by decide +kernel) (by decide +kernel)⟩
theorem fo_Pe_91 : FOk "SecretWells$People" 91 10 13 := ⟨RX10, TX10, 20, rfl, by decide, inX10, gt_2 202 (by decide +kernel) (by decide +kernel)⟩
theorem fo_Pe_98 : FOk "SecretWells$People" 98 8 11 := ⟨RX8, TX8, 13, rfl, by decide, inX8, gt_1 221 (by decide +kernel) (by decide +kernel)⟩
theorem fo_Rn_109 : FOk "SecretWells$Rain" 109 10 7 := ⟨RX10, TX10, 20, rfl, by decide, inX10, gt_2 180 (by decide +kernel) (by decide +kernel)⟩
theorem fo_Rn_15 : FOk "SecretWells$Rain" 15 5 1 := ⟨RX5, TX5, 10, rfl, by decide, inX5, gt_2 33 (by decide +kernel) (by decide +kernel)⟩
theorem fo_Rn_19 : FOk "SecretWells$Rain" 19 5 2 := ⟨RX5, TX5, 10, rfl, by decide, inX5, gt_2 35 (by decide +kernel) (by decide +kernel)⟩
theorem fo_Rn_22 : FOk "SecretWells$Rain" 22 5 3 := ⟨RX5, TX5, 10, rfl, by decide, inX5, gt_2 37 (by decide +kernel) (by decide +kernel)⟩
theorem fo_Rn_25 : FOk "SecretWells$Rain" 25 5 4 := ⟨RX5, TX5, 10, rfl, by decide, inX5, gt_2 39 (by decide +kernel) (by decide +kernel)⟩
theorem fo_Rn_29 : FOk "SecretWells$Rain" 29 5 5 := ⟨RX5, TX5, 10, rfl, by decide, inX5, gt_2 41 (by decide +kernel) (by decide +kernel)⟩
theorem fo_Rn_32 : FOk "SecretWells$Rain" 32 5 6 := ⟨RX5, TX5, 10, rfl, by decide, inX5, gt_2 42 (by decide +kernel) (by decide +kernel)⟩
theorem fo_Rn_35 : FOk "SecretWells$Rain" 35 5 7 := ⟨RX5, TX5, 10, rfl, by decide, inX5, gt_2 43 (by decide +kernel) (by decide +kernel)⟩
theorem fo_Rn_38 : FOk "SecretWells$Rain" 38 5 8 := ⟨RX5, TX5, 10, rfl, by decide, inX5, gt_2 44 (by decide +kernel) (by decide +kernel)⟩
theorem fo_Rn_41 : FOk "SecretWells$Rain" 41 5 9 := ⟨RX5, TX5, 10, rfl, by decide, inX5, gt_2 45 (by decide +kernel) (by decide +kernel)⟩
theorem fo_Rn_48 : FOk "SecretWells$Rain" 48 10 0 := ⟨RX10, TX10, 20, rfl, by decide, inX10, gt_2 146 (by decide +kernel) (by decide +kernel)⟩
theorem fo_Rn_65 : FOk "SecretWells$Rain" 65 10 2 := ⟨RX10, TX10, 20, rfl, by decide, inX10, gt_2 157 (by decide +kernel) (by decide +kernel)⟩
theorem fo_Rn_78 : FOk "SecretWells$Rain" 78 8 1 := ⟨RX8, TX8, 13, rfl, by decide, inX8, gt_1 180 (by decide +kernel) (by decide +kernel)⟩
theorem fo_Rn_85 : FOk "SecretWells$Rain" 85 8 8 := ⟨RX8, TX8, 13, rfl, by decide, inX8, gt_1 208 (by decide +kernel) (by decide +kernel)⟩
theorem fo_Rn_9 : FOk "SecretWells$Rain" 9 5 0 := ⟨RX5, TX5, 10, rfl, by decide, inX5, gt_2 31 (by decide +kernel) (by decide +kernel)⟩
theorem fo_Rw_17 : FOk "SecretWells$Rows" 17 6 0 := ⟨RX6, TX6, 1, rfl, by decide, inX6, gt_2 112 (by decide +kernel) (by decide +kernel)⟩
theorem fo_Rw_23 : FOk "SecretWells$Rows" 23 8 0 := ⟨RX8, TX8, 13, rfl, by decide, inX8, gt_1 173 (by decide +kernel) (by decide +kernel)⟩
theorem fo_Rw_27 : FOk "SecretWells$Rows" 27 8 1 := ⟨RX8, TX8, 13, rfl, by decide, inX8, gt_1 177 (by decide +kernel) (by decide +kernel)⟩
theorem fo_Rw_30 : FOk "SecretWells$Rows" 30 8 2 := ⟨RX8, TX8, 13, rfl, by decide, inX8, gt_1 183 (by decide +kernel) (by decide +kernel)⟩
theorem fo_Rw_33 : FOk "SecretWells$Rows" 33 8 3 := ⟨RX8, TX8, 13, rfl, by decide, inX8, gt_1 186 (by decide +kernel) (by decide +kernel)⟩
theorem fo_Rw_36 : FOk "SecretWells$Rows" 36 8 4 := ⟨RX8, TX8, 13, rfl, by decide, inX8, gt_1 190 (by decide +kernel) (by decide +kernel)⟩
theorem fo_Rw_45 : FOk "SecretWells$Rows" 45 8 5 := ⟨RX8, TX8, 13, rfl, by decide, inX8, gt_1 193 (by decide +kernel) (by decide +kernel)⟩
theorem fo_Rw_48 : FOk "SecretWells$Rows" 48 8 6 := ⟨RX8, TX8, 13, rfl, by decide, inX8, gt_1 198 (by decide +kernel) (by decide +kernel)⟩
theorem fo_Rw_51 : FOk "SecretWells$Rows" 51 8 7 := ⟨RX8, TX8, 13, rfl, by decide, inX8, gt_1 203 (by decide +kernel) (by decide +kernel)⟩
theorem fo_Rw_54 : FOk "SecretWells$Rows" 54 8 8 := ⟨RX8, TX8, 13, rfl, by decide, inX8, gt_1 207 (by decide +kernel) (by decide +kernel)⟩
theorem fo_Sh_15 : FOk "SecretWells$Shape" 15 7 2 := ⟨RX7, TX7, 5, rfl, by decide, inX7, gt_1 123 (by decide +kernel) (by decide +kernel)⟩
theorem fo_Sh_18 : FOk "SecretWells$Shape" 18 7 3 := ⟨RX7, TX7, 5, rfl, by decide, inX7, gt_1 124 (by decide +kernel) (by decide +kernel)⟩
theorem fo_Sh_21 : FOk "SecretWells$Shape" 21 7 4 := ⟨RX7, TX7, 5, rfl, by decide, inX7, gt_1 125 (by decide +kernel) (by decide +kernel)⟩
theorem fo_Sh_25 : FOk "SecretWells$Shape" 25 7 1 := ⟨RX7, TX7, 5, rfl, by decide, inX7, gt_1 122 (by decide +kernel) (by decide +kernel)⟩
theorem fo_St_105 : FOk "SecretWells$State" 105 10 13 := ⟨RX10, TX10, 20, rfl, by decide, inX10, gt_2 199 (by decide +kernel) (by decide +kernel)⟩
theorem fo_St_15 : FOk "SecretWells$State" 15 8 1 := ⟨RX8, TX8, 13, rfl, by decide, inX8, gt_1 176 (by decide +kernel) (by decide +kernel)⟩
theorem fo_St_18 : FOk "SecretWells$State" 18 8 2 := ⟨RX8, TX8, 13, rfl, by decide, inX8, gt_1 182 (by decide +kernel) (by decide +kernel)⟩
theorem fo_St_21 : FOk "SecretWells$State" 21 8 3 := ⟨RX8, TX8, 13, rfl, by decide, inX8, gt_1 185 (by decide +kernel) (by decide +kernel)⟩
theorem fo_St_24 : FOk "SecretWells$State" 24 8 4 := ⟨RX8, TX8, 13, rfl, by decide, inX8, gt_1 188 (by decide +kernel) (by decide +kernel)⟩
theorem fo_St_28 : FOk "SecretWells$State" 28 8 5 := ⟨RX8, TX8, 13, rfl, by decide, inX8, gt_1 192 (by decide +kernel) (by decide +kernel)⟩
theorem fo_St_31 : FOk "SecretWells$State" 31 8 6 := ⟨RX8, TX8, 13, rfl, by decide, inX8, gt_1 197 (by decide +kernel) (by decide +kernel)⟩
theorem fo_St_34 : FOk "SecretWells$State" 34 8 7 := ⟨RX8, TX8, 13, rfl, by decide, inX8, gt_1 201 (by decide +kernel) (by decide +kernel)⟩
theorem fo_St_37 : FOk "SecretWells$State" 37 8 8 := ⟨RX8, TX8, 13, rfl, by decide, inX8, gt_1 206 (by decide +kernel) (by decide +kernel)⟩
theorem fo_St_40 : FOk "SecretWells$State" 40 8 9 := ⟨RX8, TX8, 13, rfl, by decide, inX8, gt_1 211 (by decide +kernel) (by decide +kernel)⟩
theorem fo_St_43 : FOk "SecretWells$State" 43 8 10 := ⟨RX8, TX8, 13, rfl, by decide, inX8, gt_1 215 (by decide +kernel) (by decide +kernel)⟩
theorem fo_St_46 : FOk "SecretWells$State" 46 8 11 := ⟨RX8, TX8, 13, rfl, by decide, inX8, gt_1 218 (by decide +kernel) (by decide +kernel)⟩
theorem fo_St_49 : FOk "SecretWells$State" 49 8 12 := ⟨RX8, TX8, 13, rfl, by decide, inX8, gt_1 222 (by decide +kernel) (by decide +kernel)⟩
theorem fo_St_52 : FOk "SecretWells$State" 52 10 1 := ⟨RX10, TX10, 20, rfl, by decide, inX10, gt_2 151 (by decide +kernel) (by decide +kernel)⟩
theorem fo_St_57 : FOk "SecretWells$State" 57 10 9 := ⟨RX10, TX10, 20, rfl, by decide, inX10, gt_2 187 (by decide +kernel) (by decide +kernel)⟩
theorem fo_St_64 : FOk "SecretWells$State" 64 10 10 := ⟨RX10, TX10, 20, rfl, by decide, inX10, gt_2 190 (by decide +kernel) (by decide +kernel)⟩
theorem fo_St_65 : FOk "SecretWells$State" 65 10 12 := ⟨RX10, TX10, 20, rfl, by decide, inX10, gt_2 196 (by decide +kernel) (by decide +kernel)⟩
theorem fo_St_85 : FOk "SecretWells$State" 85 10 0 := ⟨RX10, TX10, 20, rfl, by decide, inX10, gt_2 148 (by decide +kernel) (by decide +kernel)⟩
theorem fo_St_88 : FOk "SecretWells$State" 88 10 8 := ⟨RX10, TX10, 20, rfl, by decide, inX10, gt_2 184 (by decide +kernel) (by decide +kernel)⟩
theorem fo_St_9 : FOk "SecretWells$State" 9 8 0 := ⟨RX8, TX8, 13, rfl, by decide, inX8, gt_1 172 (by decide +kernel) (by decide +kernel)⟩
theorem fo_St_95 : FOk "SecretWells$State" 95 10 2 := ⟨RX10, TX10, 20, rfl, by decide, inX10, gt_2 160 (by decide +kernel) (by decide +kernel)⟩
theorem fo_Tp_15 : FOk "SecretWells$Tape" 15 9 1 := ⟨RX9, TX9, 6, rfl, by decide, inX9, gt_1 93 (by decide +kernel) (by decide +kernel)⟩
theorem fo_Tp_19 : FOk "SecretWells$Tape" 19 9 2 := ⟨RX9, TX9, 6, rfl, by decide, inX9, gt_1 94 (by decide +kernel) (by decide +kernel)⟩
theorem fo_Tp_23 : FOk "SecretWells$Tape" 23 9 3 := ⟨RX9, TX9, 6, rfl, by decide, inX9, gt_1 95 (by decide +kernel) (by decide +kernel)⟩
theorem fo_Tp_27 : FOk "SecretWells$Tape" 27 9 4 := ⟨RX9, TX9, 6, rfl, by decide, inX9, gt_1 96 (by decide +kernel) (by decide +kernel)⟩
theorem fo_Tp_30 : FOk "SecretWells$Tape" 30 9 5 := ⟨RX9, TX9, 6, rfl, by decide, inX9, gt_1 97 (by decide +kernel) (by decide +kernel)⟩
theorem fo_Tp_9 : FOk "SecretWells$Tape" 9 9 0 := ⟨RX9, TX9, 6, rfl, by decide, inX9, gt_1 91 (by decide +kernel) (by decide +kernel)⟩
theorem fo_Tx_15 : FOk "SecretWells$Text" 15 10 1 := ⟨RX10, TX10, 20, rfl, by decide, inX10, gt_2 150 (by decide +kernel) (by decide +kernel)⟩
theorem fo_Tx_18 : FOk "SecretWells$Text" 18 10 2 := ⟨RX10, TX10, 20, rfl, by decide, inX10, gt_2 156 (by decide +kernel) (by decide +kernel)⟩
theorem fo_Tx_24 : FOk "SecretWells$Text" 24 10 4 := ⟨RX10, TX10, 20, rfl, by decide, inX10, gt_2 169 (by decide +kernel) (by decide +kernel)⟩
theorem fo_Tx_49 : FOk "SecretWells$Text" 49 10 12 := ⟨RX10, TX10, 20, rfl, by decide, inX10, gt_2 195 (by decide +kernel) (by decide +kernel)⟩
theorem fo_Tx_52 : FOk "SecretWells$Text" 52 10 13 := ⟨RX10, TX10, 20, rfl, by decide, inX10, gt_2 198 (by decide +kernel) (by decide +kernel)⟩
theorem fo_Tx_55 : FOk "SecretWells$Text" 55 10 14 := ⟨RX10, TX10, 20, rfl, by decide, inX10, gt_2 204 (by decide +kernel) (by decide +kernel)⟩
theorem fo_Tx_67 : FOk "SecretWells$Text" 67 10 17 := ⟨RX10, TX10, 20, rfl, by decide, inX10, gt_2 216 (by decide +kernel) (by decide +kernel)⟩
theorem fo_Tx_71 : FOk "SecretWells$Text" 71 10 18 := ⟨RX10, TX10, 20, rfl, by decide, inX10, gt_2 219 (by decide +kernel) (by decide +kernel)⟩
theorem fo_Tx_74 : FOk "SecretWells$Text" 74 10 19 := ⟨RX10, TX10, 20, rfl, by decide, inX10, gt_2 222 (by decide +kernel) (by decide +kernel)⟩
theorem fo_Co_10 : FOk "SecretWells" 10 11 0 := ⟨RX11, TX11, 17, rfl, by decide, inX11, gt_3 86 (by decide +kernel) (by decide +kernel)⟩
theorem fo_Co_102 : FOk "SecretWells" 102 11 16 := ⟨RX11, TX11, 17, rfl, by decide, inX11, gt_3 102 (by decide +kernel) (by decide +kernel)⟩
theorem fo_Co_112 : FOk "SecretWells" 112 9 0 := ⟨RX9, TX9, 6, rfl, by decide, inX9, gt_1 92 (by decide +kernel) (by decide +kernel)⟩
theorem fo_Co_125 : FOk "SecretWells" 125 7 0 := ⟨RX7, TX7, 5, rfl, by decide, inX7, gt_1 121 (by decide +kernel) (by decide +kernel)⟩
theorem fo_Co_131 : FOk "SecretWells" 131 2 0 := ⟨RX2, TX2, 7, rfl, by decide, inX2, gt_1 144 (by decide +kernel) (by decide +kernel)⟩
theorem fo_Co_135 : FOk "SecretWells" 135 3 0 := ⟨RX3, TX3, 5, rfl, by decide, inX3, gt_2 87 (by decide +kernel) (by decide +kernel)⟩
theorem fo_Co_148 : FOk "SecretWells" 148 8 9 := ⟨RX8, TX8, 13, rfl, by decide, inX8, gt_1 213 (by decide +kernel) (by decide +kernel)⟩
theorem fo_Co_152 : FOk "SecretWells" 152 8 4 := ⟨RX8, TX8, 13, rfl, by decide, inX8, gt_1 191 (by decide +kernel) (by decide +kernel)⟩
theorem fo_Co_159 : FOk "SecretWells" 159 8 10 := ⟨RX8, TX8, 13, rfl, by decide, inX8, gt_1 217 (by decide +kernel) (by decide +kernel)⟩
theorem fo_Co_162 : FOk "SecretWells" 162 8 11 := ⟨RX8, TX8, 13, rfl, by decide, inX8, gt_1 219 (by decide +kernel) (by decide +kernel)⟩
theorem fo_Co_175 : FOk "SecretWells" 175 8 5 := ⟨RX8, TX8, 13, rfl, by decide, inX8, gt_1 195 (by decide +kernel) (by decide +kernel)⟩
theorem fo_Co_178 : FOk "SecretWells" 178 8 6 := ⟨RX8, TX8, 13, rfl, by decide, inX8, gt_1 200 (by decide +kernel) (by decide +kernel)⟩
theorem fo_Co_181 : FOk "SecretWells" 181 8 7 := ⟨RX8, TX8, 13, rfl, by decide, inX8, gt_1 205 (by decide +kernel) (by decide +kernel)⟩
theorem fo_Co_193 : FOk "SecretWells" 193 8 1 := ⟨RX8, TX8, 13, rfl, by decide, inX8, gt_1 181 (by decide +kernel) (by decide +kernel)⟩
theorem fo_Co_202 : FOk "SecretWells" 202 8 8 := ⟨RX8, TX8, 13, rfl, by decide, inX8, gt_1 210 (by decide +kernel) (by decide +kernel)⟩
theorem fo_Co_205 : FOk "SecretWells" 205 8 12 := ⟨RX8, TX8, 13, rfl, by decide, inX8, gt_1 224 (by decide +kernel) (by decide +kernel)⟩
theorem fo_Co_21 : FOk "SecretWells" 21 11 1 := ⟨RX11, TX11, 17, rfl, by decide, inX11, gt_3 87 (by decide +kernel) (by decide +kernel)⟩
theorem fo_Co_211 : FOk "SecretWells" 211 10 15 := ⟨RX10, TX10, 20, rfl, by decide, inX10, gt_2 210 (by decide +kernel) (by decide +kernel)⟩
theorem fo_Co_214 : FOk "SecretWells" 214 10 16 := ⟨RX10, TX10, 20, rfl, by decide, inX10, gt_2 215 (by decide +kernel) (by decide +kernel)⟩
theorem fo_Co_221 : FOk "SecretWells" 221 10 0 := ⟨RX10, TX10, 20, rfl, by decide, inX10, gt_2 149 (by decide +kernel) (by decide +kernel)⟩
theorem fo_Co_224 : FOk "SecretWells" 224 10 1 := ⟨RX10, TX10, 20, rfl, by decide, inX10, gt_2 155 (by decide +kernel) (by decide +kernel)⟩
theorem fo_Co_227 : FOk "SecretWells" 227 10 2 := ⟨RX10, TX10, 20, rfl, by decide, inX10, gt_2 163 (by decide +kernel) (by decide +kernel)⟩
theorem fo_Co_230 : FOk "SecretWells" 230 10 3 := ⟨RX10, TX10, 20, rfl, by decide, inX10, gt_2 168 (by decide +kernel) (by decide +kernel)⟩
theorem fo_Co_233 : FOk "SecretWells" 233 8 0 := ⟨RX8, TX8, 13, rfl, by decide, inX8, gt_1 175 (by decide +kernel) (by decide +kernel)⟩
theorem fo_Co_236 : FOk "SecretWells" 236 8 2 := ⟨RX8, TX8, 13, rfl, by decide, inX8, gt_1 184 (by decide +kernel) (by decide +kernel)⟩
theorem fo_Co_239 : FOk "SecretWells" 239 8 3 := ⟨RX8, TX8, 13, rfl, by decide, inX8, gt_1 187 (by decide +kernel) (by decide +kernel)⟩
theorem fo_Co_245 : FOk "SecretWells" 245 10 4 := ⟨RX10, TX10, 20, rfl, by decide, inX10, gt_2 171 (by decide +kernel) (by decide +kernel)⟩
theorem fo_Co_251 : FOk "SecretWells" 251 10 7 := ⟨RX10, TX10, 20, rfl, by decide, inX10, gt_2 181 (by decide +kernel) (by decide +kernel)⟩
theorem fo_Co_262 : FOk "SecretWells" 262 10 6 := ⟨RX10, TX10, 20, rfl, by decide, inX10, gt_2 177 (by decide +kernel) (by decide +kernel)⟩
theorem fo_Co_28 : FOk "SecretWells" 28 11 2 := ⟨RX11, TX11, 17, rfl, by decide, inX11, gt_3 88 (by decide +kernel) (by decide +kernel)⟩
theorem fo_Co_312 : FOk "SecretWells" 312 5 1 := ⟨RX5, TX5, 10, rfl, by decide, inX5, gt_2 34 (by decide +kernel) (by decide +kernel)⟩
theorem fo_Co_315 : FOk "SecretWells" 315 5 2 := ⟨RX5, TX5, 10, rfl, by decide, inX5, gt_2 36 (by decide +kernel) (by decide +kernel)⟩
theorem fo_Co_318 : FOk "SecretWells" 318 5 3 := ⟨RX5, TX5, 10, rfl, by decide, inX5, gt_2 38 (by decide +kernel) (by decide +kernel)⟩
theorem fo_Co_321 : FOk "SecretWells" 321 5 4 := ⟨RX5, TX5, 10, rfl, by decide, inX5, gt_2 40 (by decide +kernel) (by decide +kernel)⟩
theorem fo_Co_333 : FOk "SecretWells" 333 10 13 := ⟨RX10, TX10, 20, rfl, by decide, inX10, gt_2 203 (by decide +kernel) (by decide +kernel)⟩
theorem fo_Co_35 : FOk "SecretWells" 35 11 3 := ⟨RX11, TX11, 17, rfl, by decide, inX11, gt_3 89 (by decide +kernel) (by decide +kernel)⟩
theorem fo_Co_39 : FOk "SecretWells" 39 11 4 := ⟨RX11, TX11, 17, rfl, by decide, inX11, gt_3 90 (by decide +kernel) (by decide +kernel)⟩
theorem fo_Co_45 : FOk "SecretWells" 45 11 5 := ⟨RX11, TX11, 17, rfl, by decide, inX11, gt_3 91 (by decide +kernel) (by decide +kernel)⟩
theorem fo_Co_52 : FOk "SecretWells" 52 11 6 := ⟨RX11, TX11, 17, rfl, by decide, inX11, gt_3 92 (by decide +kernel) (by decide +kernel)⟩
theorem fo_Co_59 : FOk "SecretWells" 59 11 7 := ⟨RX11, TX11, 17, rfl, by decide, inX11, gt_3 93 (by decide +kernel) (by decide +kernel)⟩
theorem fo_Co_66 : FOk "SecretWells" 66 11 8 := ⟨RX11, TX11, 17, rfl, by decide, inX11, gt_3 94 (by decide +kernel) (by decide +kernel)⟩
theorem fo_Co_75 : FOk "SecretWells" 75 11 9 := ⟨RX11, TX11, 17, rfl, by decide, inX11, gt_3 95 (by decide +kernel) (by decide +kernel)⟩
theorem fo_Co_79 : FOk "SecretWells" 79 11 10 := ⟨RX11, TX11, 17, rfl, by decide, inX11, gt_3 96 (by decide +kernel) (by decide +kernel)⟩
theorem fo_Co_85 : FOk "SecretWells" 85 11 11 := ⟨RX11, TX11, 17, rfl, by decide, inX11, gt_3 97 (by decide +kernel) (by decide +kernel)⟩
theorem fo_Co_89 : FOk "SecretWells" 89 11 12 := ⟨RX11, TX11, 17, rfl, by decide, inX11, gt_3 98 (by decide +kernel) (by decide +kernel)⟩
theorem fo_Co_92 : FOk "SecretWells" 92 11 13 := ⟨RX11, TX11, 17, rfl, by decide, inX11, gt_3 99 (by decide +kernel) (by decide +kernel)⟩
theorem fo_Co_96 : FOk "SecretWells" 96 11 14 := ⟨RX11, TX11, 17, rfl, by decide, inX11, gt_3 100 (by decide +kernel) (by decide +kernel)⟩
theorem fo_Co_99 : FOk "SecretWells" 99 11 15 := ⟨RX11, TX11, 17, rfl, by decide, inX11, gt_3 101 (by decide +kernel) (by decide +kernel)⟩
theorem fo_Mo_101 : FOk "SecretWellsModel" 101 12 41 := ⟨RX12, TX12, 74, rfl, by decide, inX12, gt_6 178 (by decide +kernel) (by decide +kernel)⟩
theorem fo_Mo_104 : FOk "SecretWellsModel" 104 12 43 := ⟨RX12, TX12, 74, rfl, by decide, inX12, gt_6 180 (by decide +kernel) (by decide +kernel)⟩
theorem fo_Mo_107 : FOk "SecretWellsModel" 107 12 44 := ⟨RX12, TX12, 74, rfl, by decide, inX12, gt_6 181 (by decide +kernel) (by decide +kernel)⟩
theorem fo_Mo_110 : FOk "SecretWellsModel" 110 12 45 := ⟨RX12, TX12, 74, rfl, by decide, inX12, gt_6 182 (by decide +kernel) (by decide +kernel)⟩
theorem fo_Mo_113 : FOk "SecretWellsModel" 113 12 46 := ⟨RX12, TX12, 74, rfl, by decide, inX12, gt_6 183 (by decide +kernel) (by decide +kernel)⟩
theorem fo_Mo_116 : FOk "SecretWellsModel" 116 12 47 := ⟨RX12, TX12, 74, rfl, by decide, inX12, gt_6 184 (by decide +kernel) (by decide +kernel)⟩
theorem fo_Mo_119 : FOk "SecretWellsModel" 119 12 49 := ⟨RX12, TX12, 74, rfl, by decide, inX12, gt_6 186 (by decide +kernel) (by decide +kernel)⟩
theorem fo_Mo_122 : FOk "SecretWellsModel" 122 12 50 := ⟨RX12, TX12, 74, rfl, by decide, inX12, gt_6 187 (by decide +kernel) (by decide +kernel)⟩
theorem fo_Mo_125 : FOk "SecretWellsModel" 125 12 51 := ⟨RX12, TX12, 74, rfl, by decide, inX12, gt_6 188 (by decide +kernel) (by decide +kernel)⟩
theorem fo_Mo_128 : FOk "SecretWellsModel" 128 12 53 := ⟨RX12, TX12, 74, rfl, by decide, inX12, gt_6 190 (by decide +kernel) (by decide +kernel)⟩
theorem fo_Mo_13 : FOk "SecretWellsModel" 13 12 1 := ⟨RX12, TX12, 74, rfl, by decide, inX12, gt_6 138 (by decide +kernel) (by decide +kernel)⟩
theorem fo_Mo_131 : FOk "SecretWellsModel" 131 12 54 := ⟨RX12, TX12, 74, rfl, by decide, inX12, gt_6 191 (by decide +kernel) (by decide +kernel)⟩
theorem fo_Mo_134 : FOk "SecretWellsModel" 134 12 56 := ⟨RX12, TX12, 74, rfl, by decide, inX12, gt_6 193 (by decide +kernel) (by decide +kernel)⟩
theorem fo_Mo_137 : FOk "SecretWellsModel" 137 12 57 := ⟨RX12, TX12, 74, rfl, by decide, inX12, gt_6 194 (by decide +kernel) (by decide +kernel)⟩
theorem fo_Mo_140 : FOk "SecretWellsModel" 140 12 59 := ⟨RX12, TX12, 74, rfl, by decide, inX12, gt_6 196 (by decide +kernel) (by decide +kernel)⟩
theorem fo_Mo_143 : FOk "SecretWellsModel" 143 12 61 := ⟨RX12, TX12, 74, rfl, by decide, inX12, gt_6 198 (by decide +kernel) (by decide +kernel)⟩
theorem fo_Mo_146 : FOk "SecretWellsModel" 146 12 66 := ⟨RX12, TX12, 74, rfl, by decide, inX12, gt_6 203 (by decide +kernel) (by decide +kernel)⟩
theorem fo_Mo_149 : FOk "SecretWellsModel" 149 12 69 := ⟨RX12, TX12, 74, rfl, by decide, inX12, gt_6 206 (by decide +kernel) (by decide +kernel)⟩
theorem fo_Mo_152 : FOk "SecretWellsModel" 152 12 70 := ⟨RX12, TX12, 74, rfl, by decide, inX12, gt_6 207 (by decide +kernel) (by decide +kernel)⟩
theorem fo_Mo_155 : FOk "SecretWellsModel" 155 12 71 := ⟨RX12, TX12, 74, rfl, by decide, inX12, gt_6 208 (by decide +kernel) (by decide +kernel)⟩
theorem fo_Mo_158 : FOk "SecretWellsModel" 158 12 72 := ⟨RX12, TX12, 74, rfl, by decide, inX12, gt_6 209 (by decide +kernel) (by decide +kernel)⟩
theorem fo_Mo_161 : FOk "SecretWellsModel" 161 12 73 := ⟨RX12, TX12, 74, rfl, by decide, inX12, gt_6 210 (by decide +kernel) (by decide +kernel)⟩
theorem fo_Mo_17 : FOk "SecretWellsModel" 17 12 3 := ⟨RX12, TX12, 74, rfl, by decide, inX12, gt_6 140 (by decide +kernel) (by decide +kernel)⟩
theorem fo_Mo_178 : FOk "SecretWellsModel" 178 12 2 := ⟨RX12, TX12, 74, rfl, by decide, inX12, gt_6 139 (by decide +kernel) (by decide +kernel)⟩
theorem fo_Mo_184 : FOk "SecretWellsModel" 184 12 4 := ⟨RX12, TX12, 74, rfl, by decide, inX12, gt_6 141 (by decide +kernel) (by decide +kernel)⟩
theorem fo_Mo_193 : FOk "SecretWellsModel" 193 12 10 := ⟨RX12, TX12, 74, rfl, by decide, inX12, gt_6 147 (by decide +kernel) (by decide +kernel)⟩
theorem fo_Mo_20 : FOk "SecretWellsModel" 20 12 5 := ⟨RX12, TX12, 74, rfl, by decide, inX12, gt_6 142 (by decide +kernel) (by decide +kernel)⟩
theorem fo_Mo_215 : FOk "SecretWellsModel" 215 12 13 := ⟨RX12, TX12, 74, rfl, by decide, inX12, gt_6 150 (by decide +kernel) (by decide +kernel)⟩
theorem fo_Mo_218 : FOk "SecretWellsModel" 218 12 11 := ⟨RX12, TX12, 74, rfl, by decide, inX12, gt_6 148 (by decide +kernel) (by decide +kernel)⟩
theorem fo_Mo_221 : FOk "SecretWellsModel" 221 12 14 := ⟨RX12, TX12, 74, rfl, by decide, inX12, gt_6 151 (by decide +kernel) (by decide +kernel)⟩
theorem fo_Mo_224 : FOk "SecretWellsModel" 224 12 15 := ⟨RX12, TX12, 74, rfl, by decide, inX12, gt_6 152 (by decide +kernel) (by decide +kernel)⟩
theorem fo_Mo_227 : FOk "SecretWellsModel" 227 12 16 := ⟨RX12, TX12, 74, rfl, by decide, inX12, gt_6 153 (by decide +kernel) (by decide +kernel)⟩
theorem fo_Mo_24 : FOk "SecretWellsModel" 24 12 6 := ⟨RX12, TX12, 74, rfl, by decide, inX12, gt_6 143 (by decide +kernel) (by decide +kernel)⟩
theorem fo_Mo_242 : FOk "SecretWellsModel" 242 12 12 := ⟨RX12, TX12, 74, rfl, by decide, inX12, gt_6 149 (by decide +kernel) (by decide +kernel)⟩
theorem fo_Mo_245 : FOk "SecretWellsModel" 245 12 18 := ⟨RX12, TX12, 74, rfl, by decide, inX12, gt_6 155 (by decide +kernel) (by decide +kernel)⟩
theorem fo_Mo_248 : FOk "SecretWellsModel" 248 12 19 := ⟨RX12, TX12, 74, rfl, by decide, inX12, gt_6 156 (by decide +kernel) (by decide +kernel)⟩
theorem fo_Mo_251 : FOk "SecretWellsModel" 251 12 20 := ⟨RX12, TX12, 74, rfl, by decide, inX12, gt_6 157 (by decide +kernel) (by decide +kernel)⟩
theorem fo_Mo_254 : FOk "SecretWellsModel" 254 12 42 := ⟨RX12, TX12, 74, rfl, by decide, inX12, gt_6 179 (by decide +kernel) (by decide +kernel)⟩
theorem fo_Mo_257 : FOk "SecretWellsModel" 257 12 48 := ⟨RX12, TX12, 74, rfl, by decide, inX12, gt_6 185 (by decide +kernel) (by decide +kernel)⟩
theorem fo_Mo_263 : FOk "SecretWellsModel" 263 12 60 := ⟨RX12, TX12, 74, rfl, by decide, inX12, gt_6 197 (by decide +kernel) (by decide +kernel)⟩
theorem fo_Mo_266 : FOk "SecretWellsModel" 266 12 68 := ⟨RX12, TX12, 74, rfl, by decide, inX12, gt_6 205 (by decide +kernel) (by decide +kernel)⟩
theorem fo_Mo_27 : FOk "SecretWellsModel" 27 12 7 := ⟨RX12, TX12, 74, rfl, by decide, inX12, gt_6 144 (by decide +kernel) (by decide +kernel)⟩
theorem fo_Mo_30 : FOk "SecretWellsModel" 30 12 8 := ⟨RX12, TX12, 74, rfl, by decide, inX12, gt_6 145 (by decide +kernel) (by decide +kernel)⟩
theorem fo_Mo_315 : FOk "SecretWellsModel" 315 12 52 := ⟨RX12, TX12, 74, rfl, by decide, inX12, gt_6 189 (by decide +kernel) (by decide +kernel)⟩
theorem fo_Mo_328 : FOk "SecretWellsModel" 328 12 55 := ⟨RX12, TX12, 74, rfl, by decide, inX12, gt_6 192 (by decide +kernel) (by decide +kernel)⟩
theorem fo_Mo_336 : FOk "SecretWellsModel" 336 12 58 := ⟨RX12, TX12, 74, rfl, by decide, inX12, gt_6 195 (by decide +kernel) (by decide +kernel)⟩
theorem fo_Mo_34 : FOk "SecretWellsModel" 34 12 9 := ⟨RX12, TX12, 74, rfl, by decide, inX12, gt_6 146 (by decide +kernel) (by decide +kernel)⟩
theorem fo_Mo_37 : FOk "SecretWellsModel" 37 12 17 := ⟨RX12, TX12, 74, rfl, by decide, inX12, gt_6 154 (by decide +kernel) (by decide +kernel)⟩
theorem fo_Mo_40 : FOk "SecretWellsModel" 40 12 21 := ⟨RX12, TX12, 74, rfl, by decide, inX12, gt_6 158 (by decide +kernel) (by decide +kernel)⟩
theorem fo_Mo_43 : FOk "SecretWellsModel" 43 12 22 := ⟨RX12, TX12, 74, rfl, by decide, inX12, gt_6 159 (by decide +kernel) (by decide +kernel)⟩
theorem fo_Mo_444 : FOk "SecretWellsModel" 444 12 62 := ⟨RX12, TX12, 74, rfl, by decide, inX12, gt_6 199 (by decide +kernel) (by decide +kernel)⟩
theorem fo_Mo_453 : FOk "SecretWellsModel" 453 12 63 := ⟨RX12, TX12, 74, rfl, by decide, inX12, gt_6 200 (by decide +kernel) (by decide +kernel)⟩
theorem fo_Mo_456 : FOk "SecretWellsModel" 456 12 64 := ⟨RX12, TX12, 74, rfl, by decide, inX12, gt_6 201 (by decide +kernel) (by decide +kernel)⟩
theorem fo_Mo_459 : FOk "SecretWellsModel" 459 12 65 := ⟨RX12, TX12, 74, rfl, by decide, inX12, gt_6 202 (by decide +kernel) (by decide +kernel)⟩
theorem fo_Mo_46 : FOk "SecretWellsModel" 46 12 23 := ⟨RX12, TX12, 74, rfl, by decide, inX12, gt_6 160 (by decide +kernel) (by decide +kernel)⟩
theorem fo_Mo_474 : FOk "SecretWellsModel" 474 12 67 := ⟨RX12, TX12, 74, rfl, by decide, inX12, gt_6 204 (by decide +kernel) (by decide +kernel)⟩
theorem fo_Mo_49 : FOk "SecretWellsModel" 49 12 24 := ⟨RX12, TX12, 74, rfl, by decide, inX12, gt_6 161 (by decide +kernel) (by decide +kernel)⟩
theorem fo_Mo_52 : FOk "SecretWellsModel" 52 12 25 := ⟨RX12, TX12, 74, rfl, by decide, inX12, gt_6 162 (by decide +kernel) (by decide +kernel)⟩
theorem fo_Mo_55 : FOk "SecretWellsModel" 55 12 26 := ⟨RX12, TX12, 74, rfl, by decide, inX12, gt_6 163 (by decide +kernel) (by decide +kernel)⟩
theorem fo_Mo_58 : FOk "SecretWellsModel" 58 12 27 := ⟨RX12, TX12, 74, rfl, by decide, inX12, gt_6 164 (by decide +kernel) (by decide +kernel)⟩
theorem fo_Mo_61 : FOk "SecretWellsModel" 61 12 28 := ⟨RX12, TX12, 74, rfl, by decide, inX12, gt_6 165 (by decide +kernel) (by decide +kernel)⟩
theorem fo_Mo_64 : FOk "SecretWellsModel" 64 12 29 := ⟨RX12, TX12, 74, rfl, by decide, inX12, gt_6 166 (by decide +kernel) (by decide +kernel)⟩
theorem fo_Mo_67 : FOk "SecretWellsModel" 67 12 30 := ⟨RX12, TX12, 74, rfl, by decide, inX12, gt_6 167 (by decide +kernel) (by decide +kernel)⟩
theorem fo_Mo_70 : FOk "SecretWellsModel" 70 12 31 := ⟨RX12, TX12, 74, rfl, by decide, inX12, gt_6 168 (by decide +kernel) (by decide +kernel)⟩
theorem fo_Mo_73 : FOk "SecretWellsModel" 73 12 32 := ⟨RX12, TX12, 74, rfl, by decide, inX12, gt_6 169 (by decide +kernel) (by decide +kernel)⟩
theorem fo_Mo_77 : FOk "SecretWellsModel" 77 12 33 := ⟨RX12, TX12, 74, rfl, by decide, inX12, gt_6 170 (by decide +kernel) (by decide +kernel)⟩
theorem fo_Mo_80 : FOk "SecretWellsModel" 80 12 34 := ⟨RX12, TX12, 74, rfl, by decide, inX12, gt_6 171 (by decide +kernel) (by decide +kernel)⟩
theorem fo_Mo_83 : FOk "SecretWellsModel" 83 12 35 := ⟨RX12, TX12, 74, rfl, by decide, inX12, gt_6 172 (by decide +kernel) (by decide +kernel)⟩
theorem fo_Mo_86 : FOk "SecretWellsModel" 86 12 36 := ⟨RX12, TX12, 74, rfl, by decide, inX12, gt_6 173 (by decide +kernel) (by decide +kernel)⟩
theorem fo_Mo_89 : FOk "SecretWellsModel" 89 12 37 := ⟨RX12, TX12, 74, rfl, by decide, inX12, gt_6 174 (by decide +kernel) (by decide +kernel)⟩
theorem fo_Mo_92 : FOk "SecretWellsModel" 92 12 38 := ⟨RX12, TX12, 74, rfl, by decide, inX12, gt_6 175 (by decide +kernel) (by decide +kernel)⟩
theorem fo_Mo_95 : FOk "SecretWellsModel" 95 12 39 := ⟨RX12, TX12, 74, rfl, by decide, inX12, gt_6 176 (by decide +kernel) (by decide +kernel)⟩
theorem fo_Mo_98 : FOk "SecretWellsModel" 98 12 40 := ⟨RX12, TX12, 74, rfl, by decide, inX12, gt_6 177 (by decide +kernel) (by decide +kernel)⟩
theorem fs_JStr_1053 : Cond.fieldLink "java/lang/String" 1053 "jdk/internal/util/Preconditions" "SIOOBE_FORMATTER" "Ljava/util/function/BiFunction;" ∈ gTbl := gt_1 62 (by decide +kernel) (by decide +kernel)
theorem fs_JStr_15 : Cond.fieldLink "java/lang/String" 15 "java/lang/String" "coder" "B" ∈ gTbl := gt_9 56 (by decide +kernel) (by decide +kernel)
theorem fs_JStr_38 : Cond.fieldLink "java/lang/String" 38 "java/lang/String" "COMPACT_STRINGS" "Z" ∈ gTbl := gt_1 46 (by decide +kernel) (by decide +kernel)
theorem fs_JStr_9 : Cond.fieldLink "java/lang/String" 9 "java/lang/String" "value" "[B" ∈ gTbl := gt_9 55 (by decide +kernel) (by decide +kernel)
theorem lk_Dy_105 : Cond.methodLink "SecretWells$Days" 105 y_Dy_tellsNow ∈ gTbl := gt_5 47 (by decide +kernel) (by decide +kernel)
theorem lk_Dy_109 : Cond.methodLink "SecretWells$Days" 109 y_Dy_lot ∈ gTbl := gt_5 48 (by decide +kernel) (by decide +kernel)
theorem lk_Dy_116 : Cond.methodLink "SecretWells$Days" 116 y_JInt_bitCount ∈ gTbl := gt_4 192 (by decide +kernel) (by decide +kernel)
theorem lk_Dy_122 : Cond.methodLink "SecretWells$Days" 122 y_Dy_look ∈ gTbl := gt_4 193 (by decide +kernel) (by decide +kernel)
theorem lk_Dy_130 : Cond.methodLink "SecretWells$Days" 130 y_Lw_value ∈ gTbl := gt_4 197 (by decide +kernel) (by decide +kernel)
theorem lk_Dy_139 : Cond.methodLink "SecretWells$Days" 139 y_Lw_isTold ∈ gTbl := gt_4 218 (by decide +kernel) (by decide +kernel)
theorem lk_Dy_155 : Cond.methodLink "SecretWells$Days" 155 y_Dy_stirred ∈ gTbl := gt_5 51 (by decide +kernel) (by decide +kernel)
theorem lk_Dy_24 : Cond.methodLink "SecretWells$Days" 24 y_Dy_fillsNow ∈ gTbl := gt_5 29 (by decide +kernel) (by decide +kernel)
theorem lk_Dy_36 : Cond.methodLink "SecretWells$Days" 36 Lib.Math.min.name ∈ gTbl := gt_5 30 (by decide +kernel) (by decide +kernel)
theorem lk_Dy_45 : Cond.methodLink "SecretWells$Days" 45 y_St_isAlive ∈ gTbl := gt_5 31 (by decide +kernel) (by decide +kernel)
theorem lk_Dy_49 : Cond.methodLink "SecretWells$Days" 49 y_Dy_drink ∈ gTbl := gt_5 32 (by decide +kernel) (by decide +kernel)
theorem lk_Dy_56 : Cond.methodLink "SecretWells$Days" 56 arraycopyName ∈ gTbl := gt_5 38 (by decide +kernel) (by decide +kernel)
theorem lk_Dy_65 : Cond.methodLink "SecretWells$Days" 65 y_Dy_talk ∈ gTbl := gt_5 39 (by decide +kernel) (by decide +kernel)
theorem lk_Dy_69 : Cond.methodLink "SecretWells$Days" 69 y_St_settle ∈ gTbl := gt_5 55 (by decide +kernel) (by decide +kernel)
theorem lk_Dy_79 : Cond.methodLink "SecretWells$Days" 79 y_Dy_drinksNow ∈ gTbl := gt_5 36 (by decide +kernel) (by decide +kernel)
theorem lk_Dy_90 : Cond.methodLink "SecretWells$Days" 90 y_St_measure ∈ gTbl := gt_5 37 (by decide +kernel) (by decide +kernel)
theorem lk_Dy_99 : Cond.methodLink "SecretWells$Days" 99 y_St_isCut ∈ gTbl := gt_5 43 (by decide +kernel) (by decide +kernel)
theorem lk_Lw_28 : Cond.methodLink "SecretWells$Law" 28 y_Lw_begin ∈ gTbl := gt_3 37 (by decide +kernel) (by decide +kernel)
theorem lk_Lw_31 : Cond.methodLink "SecretWells$Law" 31 y_Lw_put ∈ gTbl := gt_3 41 (by decide +kernel) (by decide +kernel)
theorem lk_Lw_35 : Cond.methodLink "SecretWells$Law" 35 y_Lw_await ∈ gTbl := gt_4 136 (by decide +kernel) (by decide +kernel)
theorem lk_Lw_39 : Cond.methodLink "SecretWells$Law" 39 y_Lw_putWaiting ∈ gTbl := gt_4 140 (by decide +kernel) (by decide +kernel)
theorem lk_Lw_42 : Cond.methodLink "SecretWells$Law" 42 Lib.Math.max.name ∈ gTbl := gt_4 147 (by decide +kernel) (by decide +kernel)
theorem lk_Lw_48 : Cond.methodLink "SecretWells$Law" 48 y_Lw_finish ∈ gTbl := gt_4 148 (by decide +kernel) (by decide +kernel)
theorem lk_Lw_53 : Cond.methodLink "SecretWells$Law" 53 y_Lw_rank ∈ gTbl := gt_4 144 (by decide +kernel) (by decide +kernel)
theorem lk_Lw_57 : Cond.methodLink "SecretWells$Law" 57 Lib.Math.min.name ∈ gTbl := gt_4 201 (by decide +kernel) (by decide +kernel)
theorem lk_Lw_60 : Cond.methodLink "SecretWells$Law" 60 y_Lw_joined ∈ gTbl := gt_4 202 (by decide +kernel) (by decide +kernel)
theorem lk_Mn_112 : Cond.methodLink "SecretWells$Meaning" 112 y_Mn_oldName ∈ gTbl := gt_4 110 (by decide +kernel) (by decide +kernel)
theorem lk_Mn_116 : Cond.methodLink "SecretWells$Meaning" 116 Lib.Math.max.name ∈ gTbl := gt_4 114 (by decide +kernel) (by decide +kernel)
theorem lk_Mn_133 : Cond.methodLink "SecretWells$Meaning" 133 y_Mn_putKnower ∈ gTbl := gt_4 119 (by decide +kernel) (by decide +kernel)
theorem lk_Mn_140 : Cond.methodLink "SecretWells$Meaning" 140 y_Mn_failed ∈ gTbl := gt_4 97 (by decide +kernel) (by decide +kernel)
theorem lk_Mn_153 : Cond.methodLink "SecretWells$Meaning" 153 y_Lw_begin ∈ gTbl := gt_4 131 (by decide +kernel) (by decide +kernel)
theorem lk_Mn_158 : Cond.methodLink "SecretWells$Meaning" 158 y_Tp_valueAt ∈ gTbl := gt_4 86 (by decide +kernel) (by decide +kernel)
theorem lk_Mn_162 : Cond.methodLink "SecretWells$Meaning" 162 y_Lw_add ∈ gTbl := gt_4 132 (by decide +kernel) (by decide +kernel)
theorem lk_Mn_165 : Cond.methodLink "SecretWells$Meaning" 165 y_Lw_finish ∈ gTbl := gt_4 152 (by decide +kernel) (by decide +kernel)
theorem lk_Mn_168 : Cond.methodLink "SecretWells$Meaning" 168 y_Mn_isTold ∈ gTbl := gt_4 90 (by decide +kernel) (by decide +kernel)
theorem lk_Mn_172 : Cond.methodLink "SecretWells$Meaning" 172 y_Mn_find ∈ gTbl := gt_4 94 (by decide +kernel) (by decide +kernel)
theorem lk_Mn_176 : Cond.methodLink "SecretWells$Meaning" 176 y_Tp_placeAt ∈ gTbl := gt_4 101 (by decide +kernel) (by decide +kernel)
theorem lk_Mn_35 : Cond.methodLink "SecretWells$Meaning" 35 y_Tx_clear ∈ gTbl := gt_4 72 (by decide +kernel) (by decide +kernel)
theorem lk_Mn_40 : Cond.methodLink "SecretWells$Meaning" 40 y_Tp_kindAt ∈ gTbl := gt_4 73 (by decide +kernel) (by decide +kernel)
theorem lk_Mn_46 : Cond.methodLink "SecretWells$Meaning" 46 y_Mn_putTell ∈ gTbl := gt_4 74 (by decide +kernel) (by decide +kernel)
theorem lk_Mn_50 : Cond.methodLink "SecretWells$Meaning" 50 y_Tx_measure ∈ gTbl := gt_4 153 (by decide +kernel) (by decide +kernel)
theorem lk_Mn_53 : Cond.methodLink "SecretWells$Meaning" 53 y_Mn_putWell ∈ gTbl := gt_4 78 (by decide +kernel) (by decide +kernel)
theorem lk_Mn_56 : Cond.methodLink "SecretWells$Meaning" 56 y_Mn_putMan ∈ gTbl := gt_4 106 (by decide +kernel) (by decide +kernel)
theorem lk_Mn_59 : Cond.methodLink "SecretWells$Meaning" 59 y_Mn_putSecret ∈ gTbl := gt_4 115 (by decide +kernel) (by decide +kernel)
theorem lk_Mn_62 : Cond.methodLink "SecretWells$Meaning" 62 y_Mn_putTie ∈ gTbl := gt_4 123 (by decide +kernel) (by decide +kernel)
theorem lk_Mn_69 : Cond.methodLink "SecretWells$Meaning" 69 y_Mn_putLaw ∈ gTbl := gt_4 127 (by decide +kernel) (by decide +kernel)
theorem lk_Mn_79 : Cond.methodLink "SecretWells$Meaning" 79 y_Mn_number ∈ gTbl := gt_4 102 (by decide +kernel) (by decide +kernel)
theorem lk_Mn_95 : Cond.methodLink "SecretWells$Meaning" 95 y_Mn_newName ∈ gTbl := gt_4 82 (by decide +kernel) (by decide +kernel)
theorem lk_Nt_39 : Cond.methodLink "SecretWells$Notes" 39 y_Nt_fits ∈ gTbl := gt_6 56 (by decide +kernel) (by decide +kernel)
theorem lk_Nt_43 : Cond.methodLink "SecretWells$Notes" 43 y_Nt_countDeeper ∈ gTbl := gt_6 76 (by decide +kernel) (by decide +kernel)
theorem lk_Nt_47 : Cond.methodLink "SecretWells$Notes" 47 Lib.Math.max.name ∈ gTbl := gt_6 81 (by decide +kernel) (by decide +kernel)
theorem lk_Nt_53 : Cond.methodLink "SecretWells$Notes" 53 y_JArr_fill ∈ gTbl := gt_6 80 (by decide +kernel) (by decide +kernel)
theorem lk_Pe_104 : Cond.methodLink "SecretWells$People" 104 y_Pe_deepBy ∈ gTbl := gt_6 28 (by decide +kernel) (by decide +kernel)
theorem lk_Pe_27 : Cond.methodLink "SecretWells$People" 27 y_St_isAlive ∈ gTbl := gt_5 219 (by decide +kernel) (by decide +kernel)
theorem lk_Pe_36 : Cond.methodLink "SecretWells$People" 36 y_St_isCut ∈ gTbl := gt_5 220 (by decide +kernel) (by decide +kernel)
theorem lk_Pe_39 : Cond.methodLink "SecretWells$People" 39 y_St_knowers ∈ gTbl := gt_5 214 (by decide +kernel) (by decide +kernel)
theorem lk_Pe_46 : Cond.methodLink "SecretWells$People" 46 y_Pe_openTies ∈ gTbl := gt_5 215 (by decide +kernel) (by decide +kernel)
theorem lk_Pe_50 : Cond.methodLink "SecretWells$People" 50 y_JInt_bitCount ∈ gTbl := gt_5 221 (by decide +kernel) (by decide +kernel)
theorem lk_Pe_56 : Cond.methodLink "SecretWells$People" 56 y_Pe_spread ∈ gTbl := gt_5 222 (by decide +kernel) (by decide +kernel)
theorem lk_Pe_66 : Cond.methodLink "SecretWells$People" 66 y_Pe_gatherPlayers ∈ gTbl := gt_6 12 (by decide +kernel) (by decide +kernel)
theorem lk_Pe_70 : Cond.methodLink "SecretWells$People" 70 y_Pe_isRest ∈ gTbl := gt_6 20 (by decide +kernel) (by decide +kernel)
theorem lk_Pe_74 : Cond.methodLink "SecretWells$People" 74 y_Pe_heaviest ∈ gTbl := gt_6 16 (by decide +kernel) (by decide +kernel)
theorem lk_Pe_81 : Cond.methodLink "SecretWells$People" 81 y_St_isKnownTo ∈ gTbl := gt_6 19 (by decide +kernel) (by decide +kernel)
theorem lk_Pe_94 : Cond.methodLink "SecretWells$People" 94 y_Pe_gain ∈ gTbl := gt_6 24 (by decide +kernel) (by decide +kernel)
theorem lk_Rn_100 : Cond.methodLink "SecretWells$Rain" 100 y_St_settle ∈ gTbl := gt_5 173 (by decide +kernel) (by decide +kernel)
theorem lk_Rn_103 : Cond.methodLink "SecretWells$Rain" 103 y_JInt_bitCount ∈ gTbl := gt_5 174 (by decide +kernel) (by decide +kernel)
theorem lk_Rn_112 : Cond.methodLink "SecretWells$Rain" 112 y_Dy_pass ∈ gTbl := gt_5 175 (by decide +kernel) (by decide +kernel)
theorem lk_Rn_118 : Cond.methodLink "SecretWells$Rain" 118 y_St_allThirst ∈ gTbl := gt_5 176 (by decide +kernel) (by decide +kernel)
theorem lk_Rn_122 : Cond.methodLink "SecretWells$Rain" 122 y_Rn_isBetter ∈ gTbl := gt_5 180 (by decide +kernel) (by decide +kernel)
theorem lk_Rn_126 : Cond.methodLink "SecretWells$Rain" 126 arraycopyName ∈ gTbl := gt_5 184 (by decide +kernel) (by decide +kernel)
theorem lk_Rn_44 : Cond.methodLink "SecretWells$Rain" 44 y_Rn_choose ∈ gTbl := gt_5 146 (by decide +kernel) (by decide +kernel)
theorem lk_Rn_53 : Cond.methodLink "SecretWells$Rain" 53 y_Rn_isLaid ∈ gTbl := gt_5 150 (by decide +kernel) (by decide +kernel)
theorem lk_Rn_57 : Cond.methodLink "SecretWells$Rain" 57 y_Rn_mayBeBetter ∈ gTbl := gt_5 159 (by decide +kernel) (by decide +kernel)
theorem lk_Rn_61 : Cond.methodLink "SecretWells$Rain" 61 y_Rn_attempt ∈ gTbl := gt_5 167 (by decide +kernel) (by decide +kernel)
theorem lk_Rn_68 : Cond.methodLink "SecretWells$Rain" 68 y_Rn_isOfUse ∈ gTbl := gt_5 154 (by decide +kernel) (by decide +kernel)
theorem lk_Rn_72 : Cond.methodLink "SecretWells$Rain" 72 y_St_knowers ∈ gTbl := gt_5 157 (by decide +kernel) (by decide +kernel)
theorem lk_Rn_81 : Cond.methodLink "SecretWells$Rain" 81 y_Tx_isLie ∈ gTbl := gt_5 158 (by decide +kernel) (by decide +kernel)
theorem lk_Rn_88 : Cond.methodLink "SecretWells$Rain" 88 y_Rn_whispers ∈ gTbl := gt_5 163 (by decide +kernel) (by decide +kernel)
theorem lk_Rn_92 : Cond.methodLink "SecretWells$Rain" 92 y_St_copyOf ∈ gTbl := gt_5 171 (by decide +kernel) (by decide +kernel)
theorem lk_Rn_96 : Cond.methodLink "SecretWells$Rain" 96 y_St_measure ∈ gTbl := gt_5 172 (by decide +kernel) (by decide +kernel)
theorem lk_Rw_39 : Cond.methodLink "SecretWells$Rows" 39 arraycopyName ∈ gTbl := gt_5 24 (by decide +kernel) (by decide +kernel)
theorem lk_Rw_9 : Cond.methodLink "SecretWells$Rows" 9 Lib.Math.max.name ∈ gTbl := gt_2 109 (by decide +kernel) (by decide +kernel)
theorem lk_Sh_100 : Cond.methodLink "SecretWells$Shape" 100 y_Sh_isSign ∈ gTbl := gt_4 60 (by decide +kernel) (by decide +kernel)
theorem lk_Sh_29 : Cond.methodLink "SecretWells$Shape" 29 y_JArr_fill ∈ gTbl := gt_4 7 (by decide +kernel) (by decide +kernel)
theorem lk_Sh_35 : Cond.methodLink "SecretWells$Shape" 35 y_Tp_kindAt ∈ gTbl := gt_4 8 (by decide +kernel) (by decide +kernel)
theorem lk_Sh_41 : Cond.methodLink "SecretWells$Shape" 41 y_Sh_isTell ∈ gTbl := gt_4 12 (by decide +kernel) (by decide +kernel)
theorem lk_Sh_45 : Cond.methodLink "SecretWells$Shape" 45 y_Tp_placeAt ∈ gTbl := gt_4 64 (by decide +kernel) (by decide +kernel)
theorem lk_Sh_48 : Cond.methodLink "SecretWells$Shape" 48 y_Sh_failed ∈ gTbl := gt_4 16 (by decide +kernel) (by decide +kernel)
theorem lk_Sh_52 : Cond.methodLink "SecretWells$Shape" 52 y_JStr_length ∈ gTbl := gt_4 36 (by decide +kernel) (by decide +kernel)
theorem lk_Sh_58 : Cond.methodLink "SecretWells$Shape" 58 y_JStr_charAt ∈ gTbl := gt_4 37 (by decide +kernel) (by decide +kernel)
theorem lk_Sh_62 : Cond.methodLink "SecretWells$Shape" 62 y_Sh_isTaken ∈ gTbl := gt_4 27 (by decide +kernel) (by decide +kernel)
theorem lk_Sh_65 : Cond.methodLink "SecretWells$Shape" 65 y_Sh_hasRoom ∈ gTbl := gt_4 20 (by decide +kernel) (by decide +kernel)
theorem lk_Sh_70 : Cond.methodLink "SecretWells$Shape" 70 y_Sh_areTaken ∈ gTbl := gt_4 32 (by decide +kernel) (by decide +kernel)
theorem lk_Sh_76 : Cond.methodLink "SecretWells$Shape" 76 y_Sh_isRestOfSecret ∈ gTbl := gt_4 39 (by decide +kernel) (by decide +kernel)
theorem lk_Sh_81 : Cond.methodLink "SecretWells$Shape" 81 y_Sh_isLaw ∈ gTbl := gt_4 45 (by decide +kernel) (by decide +kernel)
theorem lk_Sh_86 : Cond.methodLink "SecretWells$Shape" 86 y_Sh_mostOf ∈ gTbl := gt_4 24 (by decide +kernel) (by decide +kernel)
theorem lk_Sh_91 : Cond.methodLink "SecretWells$Shape" 91 y_Sh_isCase ∈ gTbl := gt_4 49 (by decide +kernel) (by decide +kernel)
theorem lk_Sh_94 : Cond.methodLink "SecretWells$Shape" 94 y_Sh_isSum ∈ gTbl := gt_4 53 (by decide +kernel) (by decide +kernel)
theorem lk_Sh_97 : Cond.methodLink "SecretWells$Shape" 97 y_Sh_isValue ∈ gTbl := gt_4 57 (by decide +kernel) (by decide +kernel)
theorem lk_St_102 : Cond.methodLink "SecretWells$State" 102 y_Tx_isLie ∈ gTbl := gt_3 72 (by decide +kernel) (by decide +kernel)
theorem lk_St_108 : Cond.methodLink "SecretWells$State" 108 y_St_share ∈ gTbl := gt_3 76 (by decide +kernel) (by decide +kernel)
theorem lk_St_112 : Cond.methodLink "SecretWells$State" 112 Lib.Math.min.name ∈ gTbl := gt_3 83 (by decide +kernel) (by decide +kernel)
theorem lk_St_58 : Cond.methodLink "SecretWells$State" 58 arraycopyName ∈ gTbl := gt_3 50 (by decide +kernel) (by decide +kernel)
theorem lk_St_66 : Cond.methodLink "SecretWells$State" 66 y_JArr_fill ∈ gTbl := gt_3 53 (by decide +kernel) (by decide +kernel)
theorem lk_St_72 : Cond.methodLink "SecretWells$State" 72 y_St_measure ∈ gTbl := gt_3 54 (by decide +kernel) (by decide +kernel)
theorem lk_St_76 : Cond.methodLink "SecretWells$State" 76 y_St_settle ∈ gTbl := gt_3 79 (by decide +kernel) (by decide +kernel)
theorem lk_St_79 : Cond.methodLink "SecretWells$State" 79 y_JInt_bitCount ∈ gTbl := gt_3 58 (by decide +kernel) (by decide +kernel)
theorem lk_St_91 : Cond.methodLink "SecretWells$State" 91 y_St_isAlive ∈ gTbl := gt_3 64 (by decide +kernel) (by decide +kernel)
theorem lk_St_98 : Cond.methodLink "SecretWells$State" 98 y_St_knowers ∈ gTbl := gt_3 68 (by decide +kernel) (by decide +kernel)
theorem lk_Tp_35 : Cond.methodLink "SecretWells$Tape" 35 y_JStr_length ∈ gTbl := gt_1 38 (by decide +kernel) (by decide +kernel)
theorem lk_Tp_40 : Cond.methodLink "SecretWells$Tape" 40 y_JStr_charAt ∈ gTbl := gt_1 48 (by decide +kernel) (by decide +kernel)
theorem lk_Tp_44 : Cond.methodLink "SecretWells$Tape" 44 y_Tp_withLetter ∈ gTbl := gt_1 86 (by decide +kernel) (by decide +kernel)
theorem lk_Tp_48 : Cond.methodLink "SecretWells$Tape" 48 y_Tp_behindBlanks ∈ gTbl := gt_3 158 (by decide +kernel) (by decide +kernel)
theorem lk_Tp_52 : Cond.methodLink "SecretWells$Tape" 52 y_Tp_scanOne ∈ gTbl := gt_3 165 (by decide +kernel) (by decide +kernel)
theorem lk_Tp_56 : Cond.methodLink "SecretWells$Tape" 56 y_Tp_isBlank ∈ gTbl := gt_3 162 (by decide +kernel) (by decide +kernel)
theorem lk_Tp_60 : Cond.methodLink "SecretWells$Tape" 60 y_Tp_isLetter ∈ gTbl := gt_3 169 (by decide +kernel) (by decide +kernel)
theorem lk_Tp_63 : Cond.methodLink "SecretWells$Tape" 63 y_Tp_scanLetters ∈ gTbl := gt_3 172 (by decide +kernel) (by decide +kernel)
theorem lk_Tp_66 : Cond.methodLink "SecretWells$Tape" 66 y_Tp_isDigit ∈ gTbl := gt_3 180 (by decide +kernel) (by decide +kernel)
theorem lk_Tp_69 : Cond.methodLink "SecretWells$Tape" 69 y_Tp_scanDigits ∈ gTbl := gt_3 183 (by decide +kernel) (by decide +kernel)
theorem lk_Tp_74 : Cond.methodLink "SecretWells$Tape" 74 y_JStr_indexOf ∈ gTbl := gt_3 188 (by decide +kernel) (by decide +kernel)
theorem lk_Tp_77 : Cond.methodLink "SecretWells$Tape" 77 y_Tp_kindOf ∈ gTbl := gt_3 176 (by decide +kernel) (by decide +kernel)
theorem lk_Tx_77 : Cond.methodLink "SecretWells$Text" 77 y_JArr_fill ∈ gTbl := gt_3 30 (by decide +kernel) (by decide +kernel)
theorem lk_Tx_83 : Cond.methodLink "SecretWells$Text" 83 y_Lw_be ∈ gTbl := gt_3 33 (by decide +kernel) (by decide +kernel)
theorem lk_Tx_87 : Cond.methodLink "SecretWells$Text" 87 y_Lw_begin ∈ gTbl := gt_3 45 (by decide +kernel) (by decide +kernel)
theorem lk_Tx_90 : Cond.methodLink "SecretWells$Text" 90 y_St_share ∈ gTbl := gt_4 157 (by decide +kernel) (by decide +kernel)
theorem lk_Co_105 : Cond.methodLink "SecretWells" 105 y_Tx_clear ∈ gTbl := gt_3 26 (by decide +kernel) (by decide +kernel)
theorem lk_Co_108 : Cond.methodLink "SecretWells" 108 y_St_begin ∈ gTbl := gt_3 46 (by decide +kernel) (by decide +kernel)
theorem lk_Co_115 : Cond.methodLink "SecretWells" 115 y_Tp_append ∈ gTbl := gt_3 142 (by decide +kernel) (by decide +kernel)
theorem lk_Co_118 : Cond.methodLink "SecretWells" 118 y_Tp_scan ∈ gTbl := gt_3 154 (by decide +kernel) (by decide +kernel)
theorem lk_Co_121 : Cond.methodLink "SecretWells" 121 y_Sh_seek ∈ gTbl := gt_4 3 (by decide +kernel) (by decide +kernel)
theorem lk_Co_128 : Cond.methodLink "SecretWells" 128 y_Mn_seek ∈ gTbl := gt_4 68 (by decide +kernel) (by decide +kernel)
theorem lk_Co_132 : Cond.methodLink "SecretWells" 132 y_Co_beginAnew ∈ gTbl := gt_4 158 (by decide +kernel) (by decide +kernel)
theorem lk_Co_138 : Cond.methodLink "SecretWells" 138 y_Co_forgetDone ∈ gTbl := gt_4 162 (by decide +kernel) (by decide +kernel)
theorem lk_Co_141 : Cond.methodLink "SecretWells" 141 y_Co_changed ∈ gTbl := gt_4 166 (by decide +kernel) (by decide +kernel)
theorem lk_Co_144 : Cond.methodLink "SecretWells" 144 y_Co_isWell ∈ gTbl := gt_4 180 (by decide +kernel) (by decide +kernel)
theorem lk_Co_155 : Cond.methodLink "SecretWells" 155 y_St_whisperedInto ∈ gTbl := gt_4 184 (by decide +kernel) (by decide +kernel)
theorem lk_Co_165 : Cond.methodLink "SecretWells" 165 y_Dy_fillsNow ∈ gTbl := gt_4 188 (by decide +kernel) (by decide +kernel)
theorem lk_Co_169 : Cond.methodLink "SecretWells" 169 y_Co_isMan ∈ gTbl := gt_4 209 (by decide +kernel) (by decide +kernel)
theorem lk_Co_172 : Cond.methodLink "SecretWells" 172 y_St_isAlive ∈ gTbl := gt_4 213 (by decide +kernel) (by decide +kernel)
theorem lk_Co_184 : Cond.methodLink "SecretWells" 184 y_Dy_drinksNow ∈ gTbl := gt_4 214 (by decide +kernel) (by decide +kernel)
theorem lk_Co_187 : Cond.methodLink "SecretWells" 187 y_Co_isSecret ∈ gTbl := gt_4 226 (by decide +kernel) (by decide +kernel)
theorem lk_Co_190 : Cond.methodLink "SecretWells" 190 y_St_knowers ∈ gTbl := gt_4 230 (by decide +kernel) (by decide +kernel)
theorem lk_Co_196 : Cond.methodLink "SecretWells" 196 y_JInt_bitCount ∈ gTbl := gt_4 231 (by decide +kernel) (by decide +kernel)
theorem lk_Co_208 : Cond.methodLink "SecretWells" 208 y_Co_isTie ∈ gTbl := gt_4 236 (by decide +kernel) (by decide +kernel)
theorem lk_Co_217 : Cond.methodLink "SecretWells" 217 y_Dy_tellsNow ∈ gTbl := gt_5 0 (by decide +kernel) (by decide +kernel)
theorem lk_Co_242 : Cond.methodLink "SecretWells" 242 y_St_allWater ∈ gTbl := gt_5 8 (by decide +kernel) (by decide +kernel)
theorem lk_Co_248 : Cond.methodLink "SecretWells" 248 y_Co_keepForUndo ∈ gTbl := gt_5 16 (by decide +kernel) (by decide +kernel)
theorem lk_Co_254 : Cond.methodLink "SecretWells" 254 y_Dy_pass ∈ gTbl := gt_5 25 (by decide +kernel) (by decide +kernel)
theorem lk_Co_258 : Cond.methodLink "SecretWells" 258 y_Co_whisperInto ∈ gTbl := gt_5 60 (by decide +kernel) (by decide +kernel)
theorem lk_Co_265 : Cond.methodLink "SecretWells" 265 y_St_isKnownTo ∈ gTbl := gt_5 64 (by decide +kernel) (by decide +kernel)
theorem lk_Co_269 : Cond.methodLink "SecretWells" 269 Lib.Math.max.name ∈ gTbl := gt_5 68 (by decide +kernel) (by decide +kernel)
theorem lk_Co_275 : Cond.methodLink "SecretWells" 275 y_St_isCut ∈ gTbl := gt_5 85 (by decide +kernel) (by decide +kernel)
theorem lk_Co_278 : Cond.methodLink "SecretWells" 278 y_Rw_load ∈ gTbl := gt_5 90 (by decide +kernel) (by decide +kernel)
theorem lk_Co_282 : Cond.methodLink "SecretWells" 282 y_Rw_save ∈ gTbl := gt_5 20 (by decide +kernel) (by decide +kernel)
theorem lk_Co_285 : Cond.methodLink "SecretWells" 285 y_St_measure ∈ gTbl := gt_4 170 (by decide +kernel) (by decide +kernel)
theorem lk_Co_288 : Cond.methodLink "SecretWells" 288 y_St_settle ∈ gTbl := gt_4 171 (by decide +kernel) (by decide +kernel)
theorem lk_Co_295 : Cond.methodLink "SecretWells" 295 y_Co_lookAhead ∈ gTbl := gt_5 106 (by decide +kernel) (by decide +kernel)
theorem lk_Co_299 : Cond.methodLink "SecretWells" 299 y_St_copyOf ∈ gTbl := gt_5 110 (by decide +kernel) (by decide +kernel)
theorem lk_Co_303 : Cond.methodLink "SecretWells" 303 y_JInt_numberOfTrailingZeros ∈ gTbl := gt_5 126 (by decide +kernel) (by decide +kernel)
theorem lk_Co_306 : Cond.methodLink "SecretWells" 306 y_Co_isRain ∈ gTbl := gt_5 134 (by decide +kernel) (by decide +kernel)
theorem lk_Co_309 : Cond.methodLink "SecretWells" 309 y_Rn_seek ∈ gTbl := gt_5 142 (by decide +kernel) (by decide +kernel)
theorem lk_Co_324 : Cond.methodLink "SecretWells" 324 y_Co_isSet ∈ gTbl := gt_5 138 (by decide +kernel) (by decide +kernel)
theorem lk_Co_327 : Cond.methodLink "SecretWells" 327 y_Co_isSeeds ∈ gTbl := gt_5 193 (by decide +kernel) (by decide +kernel)
theorem lk_Co_330 : Cond.methodLink "SecretWells" 330 y_Tx_isLie ∈ gTbl := gt_5 204 (by decide +kernel) (by decide +kernel)
theorem lk_Co_336 : Cond.methodLink "SecretWells" 336 y_St_share ∈ gTbl := gt_5 205 (by decide +kernel) (by decide +kernel)
theorem lk_Co_340 : Cond.methodLink "SecretWells" 340 y_Pe_fewestCuts ∈ gTbl := gt_5 210 (by decide +kernel) (by decide +kernel)
theorem lk_Co_343 : Cond.methodLink "SecretWells" 343 y_Pe_openTies ∈ gTbl := gt_5 230 (by decide +kernel) (by decide +kernel)
theorem lk_Co_347 : Cond.methodLink "SecretWells" 347 y_Pe_spread ∈ gTbl := gt_5 231 (by decide +kernel) (by decide +kernel)
theorem lk_Co_351 : Cond.methodLink "SecretWells" 351 y_Pe_sharedByTwo ∈ gTbl := gt_5 236 (by decide +kernel) (by decide +kernel)
theorem lk_Co_354 : Cond.methodLink "SecretWells" 354 y_Pe_rests ∈ gTbl := gt_6 8 (by decide +kernel) (by decide +kernel)
theorem lk_Co_357 : Cond.methodLink "SecretWells" 357 y_Nt_add ∈ gTbl := gt_6 36 (by decide +kernel) (by decide +kernel)
theorem lk_Co_360 : Cond.methodLink "SecretWells" 360 y_Co_isKnownBy ∈ gTbl := gt_6 48 (by decide +kernel) (by decide +kernel)
theorem lk_Co_363 : Cond.methodLink "SecretWells" 363 y_Nt_trueOnes ∈ gTbl := gt_6 52 (by decide +kernel) (by decide +kernel)
theorem lk_Co_366 : Cond.methodLink "SecretWells" 366 y_Nt_alwaysSo ∈ gTbl := gt_6 64 (by decide +kernel) (by decide +kernel)
theorem lk_Co_370 : Cond.methodLink "SecretWells" 370 y_Nt_tellsMost ∈ gTbl := gt_6 72 (by decide +kernel) (by decide +kernel)
theorem lk_Mo_164 : Cond.methodLink "SecretWellsModel" 164 y_Mo_plain ∈ gTbl := gt_6 88 (by decide +kernel) (by decide +kernel)
theorem lk_Mo_168 : Cond.methodLink "SecretWellsModel" 168 y_Mo_word ∈ gTbl := gt_6 92 (by decide +kernel) (by decide +kernel)
theorem lk_Mo_172 : Cond.methodLink "SecretWellsModel" 172 y_Mo_begins ∈ gTbl := gt_6 99 (by decide +kernel) (by decide +kernel)
theorem lk_Mo_175 : Cond.methodLink "SecretWellsModel" 175 y_Mo_keepsRow ∈ gTbl := gt_6 134 (by decide +kernel) (by decide +kernel)
theorem lk_Mo_181 : Cond.methodLink "SecretWellsModel" 181 y_Mo_put ∈ gTbl := gt_7 125 (by decide +kernel) (by decide +kernel)
theorem lk_Mo_189 : Cond.methodLink "SecretWellsModel" 189 y_Mo_appends ∈ gTbl := gt_6 95 (by decide +kernel) (by decide +kernel)
theorem lk_Mo_196 : Cond.methodLink "SecretWellsModel" 196 y_Mo_byteAt ∈ gTbl := gt_7 141 (by decide +kernel) (by decide +kernel)
theorem lk_Mo_200 : Cond.methodLink "SecretWellsModel" 200 y_Mo_token ∈ gTbl := gt_7 145 (by decide +kernel) (by decide +kernel)
theorem lk_Mo_204 : Cond.methodLink "SecretWellsModel" 204 y_Mo_isLetter ∈ gTbl := gt_7 149 (by decide +kernel) (by decide +kernel)
theorem lk_Mo_208 : Cond.methodLink "SecretWellsModel" 208 y_Mo_isDigit ∈ gTbl := gt_7 152 (by decide +kernel) (by decide +kernel)
theorem lk_Mo_211 : Cond.methodLink "SecretWellsModel" 211 y_Mo_sign ∈ gTbl := gt_7 155 (by decide +kernel) (by decide +kernel)
theorem lk_Mo_230 : Cond.methodLink "SecretWellsModel" 230 y_Mo_fail ∈ gTbl := gt_7 171 (by decide +kernel) (by decide +kernel)
theorem lk_Mo_233 : Cond.methodLink "SecretWellsModel" 233 y_Mo_is ∈ gTbl := gt_7 159 (by decide +kernel) (by decide +kernel)
theorem lk_Mo_236 : Cond.methodLink "SecretWellsModel" 236 y_Mo_goesOn ∈ gTbl := gt_7 175 (by decide +kernel) (by decide +kernel)
theorem lk_Mo_239 : Cond.methodLink "SecretWellsModel" 239 y_Mo_cut0 ∈ gTbl := gt_7 137 (by decide +kernel) (by decide +kernel)
theorem lk_Mo_260 : Cond.methodLink "SecretWellsModel" 260 y_Mo_tellOne ∈ gTbl := gt_7 163 (by decide +kernel) (by decide +kernel)
theorem lk_Mo_269 : Cond.methodLink "SecretWellsModel" 269 y_Mo_roomFor ∈ gTbl := gt_7 167 (by decide +kernel) (by decide +kernel)
theorem lk_Mo_273 : Cond.methodLink "SecretWellsModel" 273 y_Mo_tellWell ∈ gTbl := gt_7 179 (by decide +kernel) (by decide +kernel)
theorem lk_Mo_276 : Cond.methodLink "SecretWellsModel" 276 y_Mo_tellMan ∈ gTbl := gt_7 203 (by decide +kernel) (by decide +kernel)
theorem lk_Mo_279 : Cond.methodLink "SecretWellsModel" 279 y_Mo_tellSecret ∈ gTbl := gt_7 211 (by decide +kernel) (by decide +kernel)
theorem lk_Mo_282 : Cond.methodLink "SecretWellsModel" 282 y_Mo_tellTie ∈ gTbl := gt_7 215 (by decide +kernel) (by decide +kernel)
theorem lk_Mo_285 : Cond.methodLink "SecretWellsModel" 285 y_Mo_bounded ∈ gTbl := gt_7 195 (by decide +kernel) (by decide +kernel)
theorem lk_Mo_289 : Cond.methodLink "SecretWellsModel" 289 y_Mo_must ∈ gTbl := gt_7 187 (by decide +kernel) (by decide +kernel)
theorem lk_Mo_292 : Cond.methodLink "SecretWellsModel" 292 y_Mo_tellLaw ∈ gTbl := gt_7 219 (by decide +kernel) (by decide +kernel)
theorem lk_Mo_295 : Cond.methodLink "SecretWellsModel" 295 y_Mo_wrong ∈ gTbl := gt_7 191 (by decide +kernel) (by decide +kernel)
theorem lk_Mo_298 : Cond.methodLink "SecretWellsModel" 298 y_Mo_named ∈ gTbl := gt_7 183 (by decide +kernel) (by decide +kernel)
theorem lk_Mo_302 : Cond.methodLink "SecretWellsModel" 302 y_Mo_notes ∈ gTbl := gt_7 199 (by decide +kernel) (by decide +kernel)
theorem lk_Mo_306 : Cond.methodLink "SecretWellsModel" 306 y_Mo_known ∈ gTbl := gt_7 207 (by decide +kernel) (by decide +kernel)
theorem lk_Mo_309 : Cond.methodLink "SecretWellsModel" 309 y_Mo_expression ∈ gTbl := gt_7 223 (by decide +kernel) (by decide +kernel)
theorem lk_Mo_312 : Cond.methodLink "SecretWellsModel" 312 y_Mo_term ∈ gTbl := gt_7 239 (by decide +kernel) (by decide +kernel)
theorem lk_Mo_318 : Cond.methodLink "SecretWellsModel" 318 y_Mo_emit ∈ gTbl := gt_7 231 (by decide +kernel) (by decide +kernel)
theorem lk_Mo_321 : Cond.methodLink "SecretWellsModel" 321 y_Mo_unit ∈ gTbl := gt_7 227 (by decide +kernel) (by decide +kernel)
theorem lk_Mo_324 : Cond.methodLink "SecretWellsModel" 324 y_Mo_comesOut ∈ gTbl := gt_7 235 (by decide +kernel) (by decide +kernel)
theorem lk_Mo_332 : Cond.methodLink "SecretWellsModel" 332 y_Mo_in ∈ gTbl := gt_8 15 (by decide +kernel) (by decide +kernel)
theorem lk_Mo_339 : Cond.methodLink "SecretWellsModel" 339 y_Mo_cutsWater ∈ gTbl := gt_6 103 (by decide +kernel) (by decide +kernel)
theorem lk_Mo_342 : Cond.methodLink "SecretWellsModel" 342 y_Mo_knows ∈ gTbl := gt_6 123 (by decide +kernel) (by decide +kernel)
theorem lk_Mo_346 : Cond.methodLink "SecretWellsModel" 346 y_Mo_knowersOf ∈ gTbl := gt_6 119 (by decide +kernel) (by decide +kernel)
theorem lk_Mo_349 : Cond.methodLink "SecretWellsModel" 349 y_Mo_bits ∈ gTbl := gt_6 127 (by decide +kernel) (by decide +kernel)
theorem lk_Mo_352 : Cond.methodLink "SecretWellsModel" 352 y_Mo_knownBy ∈ gTbl := gt_6 115 (by decide +kernel) (by decide +kernel)
theorem lk_Mo_355 : Cond.methodLink "SecretWellsModel" 355 y_Mo_deeperBy ∈ gTbl := gt_6 130 (by decide +kernel) (by decide +kernel)
theorem lk_Mo_358 : Cond.methodLink "SecretWellsModel" 358 y_Mo_isHolding ∈ gTbl := gt_8 26 (by decide +kernel) (by decide +kernel)
theorem lk_Mo_361 : Cond.methodLink "SecretWellsModel" 361 y_Mo_weightNow ∈ gTbl := gt_6 111 (by decide +kernel) (by decide +kernel)
theorem lk_Mo_364 : Cond.methodLink "SecretWellsModel" 364 y_Mo_deepOf ∈ gTbl := gt_6 107 (by decide +kernel) (by decide +kernel)
theorem lk_Mo_367 : Cond.methodLink "SecretWellsModel" 367 y_Mo_isAlive ∈ gTbl := gt_8 34 (by decide +kernel) (by decide +kernel)
theorem lk_Mo_371 : Cond.methodLink "SecretWellsModel" 371 y_Mo_mixed ∈ gTbl := gt_8 117 (by decide +kernel) (by decide +kernel)
theorem lk_Mo_374 : Cond.methodLink "SecretWellsModel" 374 y_Mo_held ∈ gTbl := gt_8 50 (by decide +kernel) (by decide +kernel)
theorem lk_Mo_377 : Cond.methodLink "SecretWellsModel" 377 y_Mo_termOf ∈ gTbl := gt_8 53 (by decide +kernel) (by decide +kernel)
theorem lk_Mo_380 : Cond.methodLink "SecretWellsModel" 380 y_Mo_drinkersOf ∈ gTbl := gt_8 30 (by decide +kernel) (by decide +kernel)
theorem lk_Mo_383 : Cond.methodLink "SecretWellsModel" 383 y_Mo_setsWell ∈ gTbl := gt_8 42 (by decide +kernel) (by decide +kernel)
theorem lk_Mo_386 : Cond.methodLink "SecretWellsModel" 386 y_Mo_holding ∈ gTbl := gt_8 22 (by decide +kernel) (by decide +kernel)
theorem lk_Mo_389 : Cond.methodLink "SecretWellsModel" 389 y_Mo_asks ∈ gTbl := gt_8 46 (by decide +kernel) (by decide +kernel)
theorem lk_Mo_392 : Cond.methodLink "SecretWellsModel" 392 y_Mo_setsMan ∈ gTbl := gt_8 69 (by decide +kernel) (by decide +kernel)
theorem lk_Mo_395 : Cond.methodLink "SecretWellsModel" 395 y_Mo_drinksOf ∈ gTbl := gt_8 65 (by decide +kernel) (by decide +kernel)
theorem lk_Mo_398 : Cond.methodLink "SecretWellsModel" 398 y_Mo_lotOf ∈ gTbl := gt_8 113 (by decide +kernel) (by decide +kernel)
theorem lk_Mo_401 : Cond.methodLink "SecretWellsModel" 401 y_Mo_tellsOf ∈ gTbl := gt_8 85 (by decide +kernel) (by decide +kernel)
theorem lk_Mo_404 : Cond.methodLink "SecretWellsModel" 404 y_Mo_fillsOf ∈ gTbl := gt_8 38 (by decide +kernel) (by decide +kernel)
theorem lk_Mo_407 : Cond.methodLink "SecretWellsModel" 407 y_Mo_drinks ∈ gTbl := gt_8 101 (by decide +kernel) (by decide +kernel)
theorem lk_Mo_410 : Cond.methodLink "SecretWellsModel" 410 y_Mo_isOpen ∈ gTbl := gt_8 105 (by decide +kernel) (by decide +kernel)
theorem lk_Mo_413 : Cond.methodLink "SecretWellsModel" 413 y_Mo_tellsAll ∈ gTbl := gt_8 109 (by decide +kernel) (by decide +kernel)
theorem lk_Mo_416 : Cond.methodLink "SecretWellsModel" 416 y_Mo_dayGoes ∈ gTbl := gt_8 97 (by decide +kernel) (by decide +kernel)
theorem lk_Mo_419 : Cond.methodLink "SecretWellsModel" 419 y_Mo_isWell ∈ gTbl := gt_8 11 (by decide +kernel) (by decide +kernel)
theorem lk_Mo_422 : Cond.methodLink "SecretWellsModel" 422 y_Mo_copies ∈ gTbl := gt_8 18 (by decide +kernel) (by decide +kernel)
theorem lk_Mo_425 : Cond.methodLink "SecretWellsModel" 425 y_Mo_isMan ∈ gTbl := gt_8 61 (by decide +kernel) (by decide +kernel)
theorem lk_Mo_428 : Cond.methodLink "SecretWellsModel" 428 y_Mo_isSecret ∈ gTbl := gt_8 77 (by decide +kernel) (by decide +kernel)
theorem lk_Mo_431 : Cond.methodLink "SecretWellsModel" 431 y_Mo_goes ∈ gTbl := gt_8 93 (by decide +kernel) (by decide +kernel)
theorem lk_Mo_434 : Cond.methodLink "SecretWellsModel" 434 y_Mo_keeps ∈ gTbl := gt_8 121 (by decide +kernel) (by decide +kernel)
theorem lk_Mo_437 : Cond.methodLink "SecretWellsModel" 437 y_Mo_whispers ∈ gTbl := gt_8 129 (by decide +kernel) (by decide +kernel)
theorem lk_Mo_441 : Cond.methodLink "SecretWellsModel" 441 y_Mo_isLong ∈ gTbl := gt_8 157 (by decide +kernel) (by decide +kernel)
theorem lk_Mo_447 : Cond.methodLink "SecretWellsModel" 447 y_Mo_rainsBy ∈ gTbl := gt_8 184 (by decide +kernel) (by decide +kernel)
theorem lk_Mo_450 : Cond.methodLink "SecretWellsModel" 450 y_Mo_thirstAll ∈ gTbl := gt_8 188 (by decide +kernel) (by decide +kernel)
theorem lk_Mo_462 : Cond.methodLink "SecretWellsModel" 462 y_Mo_isRain ∈ gTbl := gt_8 176 (by decide +kernel) (by decide +kernel)
theorem lk_Mo_465 : Cond.methodLink "SecretWellsModel" 465 y_Mo_rains ∈ gTbl := gt_8 180 (by decide +kernel) (by decide +kernel)
theorem lk_Mo_468 : Cond.methodLink "SecretWellsModel" 468 y_Mo_reachOf ∈ gTbl := gt_8 200 (by decide +kernel) (by decide +kernel)
theorem lk_Mo_471 : Cond.methodLink "SecretWellsModel" 471 y_Mo_shared ∈ gTbl := gt_8 212 (by decide +kernel) (by decide +kernel)
theorem lk_Mo_477 : Cond.methodLink "SecretWellsModel" 477 y_Mo_hasOf ∈ gTbl := gt_8 232 (by decide +kernel) (by decide +kernel)
theorem lk_Mo_480 : Cond.methodLink "SecretWellsModel" 480 y_Mo_fillsMay ∈ gTbl := gt_8 224 (by decide +kernel) (by decide +kernel)
theorem lk_Mo_483 : Cond.methodLink "SecretWellsModel" 483 y_Mo_isResting ∈ gTbl := gt_8 228 (by decide +kernel) (by decide +kernel)
theorem lk_Mo_486 : Cond.methodLink "SecretWellsModel" 486 y_Mo_areMany ∈ gTbl := gt_9 0 (by decide +kernel) (by decide +kernel)
theorem lk_Mo_489 : Cond.methodLink "SecretWellsModel" 489 y_Mo_goesBy ∈ gTbl := gt_9 3 (by decide +kernel) (by decide +kernel)
theorem lk_Mo_492 : Cond.methodLink "SecretWellsModel" 492 y_Mo_deeperTold ∈ gTbl := gt_9 31 (by decide +kernel) (by decide +kernel)
theorem lk_Mo_495 : Cond.methodLink "SecretWellsModel" 495 y_Mo_isSo ∈ gTbl := gt_9 27 (by decide +kernel) (by decide +kernel)
theorem lk_JStr_1059 : Cond.methodLink "java/lang/String" 1059 y_JPre_checkIndex ∈ gTbl := gt_1 64 (by decide +kernel) (by decide +kernel)
theorem lk_JStr_335 : Cond.methodLink "java/lang/String" 335 y_JStr_coder ∈ gTbl := gt_1 42 (by decide +kernel) (by decide +kernel)
theorem lk_JStr_492 : Cond.methodLink "java/lang/String" 492 y_JStr_isLatin1 ∈ gTbl := gt_1 52 (by decide +kernel) (by decide +kernel)
theorem lk_JStr_495 : Cond.methodLink "java/lang/String" 495 y_JLat_charAt ∈ gTbl := gt_1 56 (by decide +kernel) (by decide +kernel)
theorem lk_JStr_505 : Cond.methodLink "java/lang/String" 505 y_JStr_length ∈ gTbl := gt_3 196 (by decide +kernel) (by decide +kernel)
theorem lk_JStr_633 : Cond.methodLink "java/lang/String" 633 y_JStr_indexOf2 ∈ gTbl := gt_3 192 (by decide +kernel) (by decide +kernel)
theorem lk_JStr_637 : Cond.methodLink "java/lang/String" 637 y_JLat_indexOf ∈ gTbl := gt_3 197 (by decide +kernel) (by decide +kernel)
theorem lk_JLat_38 : Cond.methodLink "java/lang/StringLatin1" 38 Lib.Math.min.name ∈ gTbl := gt_3 204 (by decide +kernel) (by decide +kernel)
theorem lk_JLat_88 : Cond.methodLink "java/lang/StringLatin1" 88 y_JLat_canEncode ∈ gTbl := gt_3 200 (by decide +kernel) (by decide +kernel)
theorem lk_JLat_9 : Cond.methodLink "java/lang/StringLatin1" 9 y_JStr_checkIndex ∈ gTbl := gt_1 59 (by decide +kernel) (by decide +kernel)
theorem lk_JLat_92 : Cond.methodLink "java/lang/StringLatin1" 92 Lib.Math.max.name ∈ gTbl := gt_3 203 (by decide +kernel) (by decide +kernel)
theorem lk_JLat_95 : Cond.methodLink "java/lang/StringLatin1" 95 y_JLat_indexOfChar ∈ gTbl := gt_3 205 (by decide +kernel) (by decide +kernel)
theorem lk_Co_18 : Cond.methodLink "SecretWells" 18 y_Sh_init ∈ gTbl := gt_1 116 (by decide +kernel) (by decide +kernel)
theorem lk_Co_27 : Cond.methodLink "SecretWells" 27 y_Mn_init ∈ gTbl := gt_1 139 (by decide +kernel) (by decide +kernel)
theorem lk_Co_72 : Cond.methodLink "SecretWells" 72 y_Rw_init ∈ gTbl := gt_2 105 (by decide +kernel) (by decide +kernel)
theorem lk_Co_9 : Cond.methodLink "SecretWells" 9 y_Tp_init ∈ gTbl := gt_1 33 (by decide +kernel) (by decide +kernel)
theorem lk_Dy_3 : Cond.methodLink "SecretWells$Days" 3 objectInit ∈ gTbl := gt_2 17 (by decide +kernel) (by decide +kernel)
theorem lk_Lw_3 : Cond.methodLink "SecretWells$Law" 3 objectInit ∈ gTbl := gt_2 127 (by decide +kernel) (by decide +kernel)
theorem lk_Mn_3 : Cond.methodLink "SecretWells$Meaning" 3 objectInit ∈ gTbl := gt_1 142 (by decide +kernel) (by decide +kernel)
theorem lk_Nt_3 : Cond.methodLink "SecretWells$Notes" 3 objectInit ∈ gTbl := gt_2 85 (by decide +kernel) (by decide +kernel)
theorem lk_Pe_3 : Cond.methodLink "SecretWells$People" 3 objectInit ∈ gTbl := gt_2 72 (by decide +kernel) (by decide +kernel)
theorem lk_Rn_3 : Cond.methodLink "SecretWells$Rain" 3 objectInit ∈ gTbl := gt_2 30 (by decide +kernel) (by decide +kernel)
theorem lk_Rw_3 : Cond.methodLink "SecretWells$Rows" 3 objectInit ∈ gTbl := gt_2 108 (by decide +kernel) (by decide +kernel)
theorem lk_Sh_3 : Cond.methodLink "SecretWells$Shape" 3 objectInit ∈ gTbl := gt_1 119 (by decide +kernel) (by decide +kernel)
theorem lk_St_3 : Cond.methodLink "SecretWells$State" 3 objectInit ∈ gTbl := gt_1 171 (by decide +kernel) (by decide +kernel)
theorem lk_Tp_3 : Cond.methodLink "SecretWells$Tape" 3 objectInit ∈ gTbl := gt_1 36 (by decide +kernel) (by decide +kernel)
theorem lk_Tx_3 : Cond.methodLink "SecretWells$Text" 3 objectInit ∈ gTbl := gt_2 121 (by decide +kernel) (by decide +kernel)
theorem lk_Co_1 : Cond.methodLink "SecretWells" 1 objectInit ∈ gTbl := gt_1 28 (by decide +kernel) (by decide +kernel)
theorem lk_Mo_7 : Cond.methodLink "SecretWellsModel" 7 objectInit ∈ gTbl := gt_6 87 (by decide +kernel) (by decide +kernel)
theorem po_Dy_73 : POk "SecretWells$Days" 73 8 0 .int := ⟨RX8, TX8, 13, tyX8, rfl, by decide, inX8, gt_1 174 (by decide +kernel) (by decide +kernel), tyX8_ok, nmX8, rfl, tyX8_ok 0 (by decide)⟩
theorem po_Dy_87 : POk "SecretWells$Days" 87 8 1 .int := ⟨RX8, TX8, 13, tyX8, rfl, by decide, inX8, gt_1 178 (by decide +kernel) (by decide +kernel), tyX8_ok, nmX8, rfl, tyX8_ok 1 (by decide)⟩
theorem po_Lw_18 : POk "SecretWells$Law" 18 1 2 .int := ⟨RX1, TX1, 5, tyX1, rfl, by decide, inX1, gt_2 130 (by decide +kernel) (by decide +kernel), tyX1_ok, nmX1, rfl, tyX1_ok 2 (by decide)⟩
theorem po_Lw_22 : POk "SecretWells$Law" 22 1 3 .int := ⟨RX1, TX1, 5, tyX1, rfl, by decide, inX1, gt_2 131 (by decide +kernel) (by decide +kernel), tyX1_ok, nmX1, rfl, tyX1_ok 3 (by decide)⟩
theorem po_Lw_25 : POk "SecretWells$Law" 25 1 4 .int := ⟨RX1, TX1, 5, tyX1, rfl, by decide, inX1, gt_2 132 (by decide +kernel) (by decide +kernel), tyX1_ok, nmX1, rfl, tyX1_ok 4 (by decide)⟩
theorem po_Mn_106 : POk "SecretWells$Meaning" 106 10 1 .int := ⟨RX10, TX10, 20, tyX10, rfl, by decide, inX10, gt_2 153 (by decide +kernel) (by decide +kernel), tyX10_ok, nmX10, rfl, tyX10_ok 1 (by decide)⟩
theorem po_Mn_124 : POk "SecretWells$Meaning" 124 10 2 .int := ⟨RX10, TX10, 20, tyX10, rfl, by decide, inX10, gt_2 161 (by decide +kernel) (by decide +kernel), tyX10_ok, nmX10, rfl, tyX10_ok 2 (by decide)⟩
theorem po_Mn_130 : POk "SecretWells$Meaning" 130 10 4 .int := ⟨RX10, TX10, 20, tyX10, rfl, by decide, inX10, gt_2 170 (by decide +kernel) (by decide +kernel), tyX10_ok, nmX10, rfl, tyX10_ok 4 (by decide)⟩
theorem po_Mn_144 : POk "SecretWells$Meaning" 144 10 3 .int := ⟨RX10, TX10, 20, tyX10, rfl, by decide, inX10, gt_2 167 (by decide +kernel) (by decide +kernel), tyX10_ok, nmX10, rfl, tyX10_ok 3 (by decide)⟩
theorem po_Mn_15 : POk "SecretWells$Meaning" 15 2 2 .int := ⟨RX2, TX2, 7, tyX2, rfl, by decide, inX2, gt_1 146 (by decide +kernel) (by decide +kernel), tyX2_ok, nmX2, rfl, tyX2_ok 2 (by decide)⟩
theorem po_Mn_18 : POk "SecretWells$Meaning" 18 2 3 .int := ⟨RX2, TX2, 7, tyX2, rfl, by decide, inX2, gt_1 147 (by decide +kernel) (by decide +kernel), tyX2_ok, nmX2, rfl, tyX2_ok 3 (by decide)⟩
theorem po_Mn_83 : POk "SecretWells$Meaning" 83 10 5 .int := ⟨RX10, TX10, 20, tyX10, rfl, by decide, inX10, gt_2 174 (by decide +kernel) (by decide +kernel), tyX10_ok, nmX10, rfl, tyX10_ok 5 (by decide)⟩
theorem po_Mn_86 : POk "SecretWells$Meaning" 86 10 6 .int := ⟨RX10, TX10, 20, tyX10, rfl, by decide, inX10, gt_2 176 (by decide +kernel) (by decide +kernel), tyX10_ok, nmX10, rfl, tyX10_ok 6 (by decide)⟩
theorem po_Mn_89 : POk "SecretWells$Meaning" 89 10 7 .int := ⟨RX10, TX10, 20, tyX10, rfl, by decide, inX10, gt_2 179 (by decide +kernel) (by decide +kernel), tyX10_ok, nmX10, rfl, tyX10_ok 7 (by decide)⟩
theorem po_Mn_9 : POk "SecretWells$Meaning" 9 2 0 .int := ⟨RX2, TX2, 7, tyX2, rfl, by decide, inX2, gt_1 143 (by decide +kernel) (by decide +kernel), tyX2_ok, nmX2, rfl, tyX2_ok 0 (by decide)⟩
theorem po_Mn_92 : POk "SecretWells$Meaning" 92 10 0 .int := ⟨RX10, TX10, 20, tyX10, rfl, by decide, inX10, gt_2 147 (by decide +kernel) (by decide +kernel), tyX10_ok, nmX10, rfl, tyX10_ok 0 (by decide)⟩
theorem po_Nt_9 : POk "SecretWells$Notes" 9 3 0 .int := ⟨RX3, TX3, 5, tyX3, rfl, by decide, inX3, gt_2 86 (by decide +kernel) (by decide +kernel), tyX3_ok, nmX3, rfl, tyX3_ok 0 (by decide)⟩
theorem po_Pe_15 : POk "SecretWells$People" 15 4 1 .int := ⟨RX4, TX4, 2, tyX4, rfl, by decide, inX4, gt_2 74 (by decide +kernel) (by decide +kernel), tyX4_ok, nmX4, rfl, tyX4_ok 1 (by decide)⟩
theorem po_Rn_15 : POk "SecretWells$Rain" 15 5 1 .int := ⟨RX5, TX5, 10, tyX5, rfl, by decide, inX5, gt_2 33 (by decide +kernel) (by decide +kernel), tyX5_ok, nmX5, rfl, tyX5_ok 1 (by decide)⟩
theorem po_Rn_19 : POk "SecretWells$Rain" 19 5 2 .int := ⟨RX5, TX5, 10, tyX5, rfl, by decide, inX5, gt_2 35 (by decide +kernel) (by decide +kernel), tyX5_ok, nmX5, rfl, tyX5_ok 2 (by decide)⟩
theorem po_Rn_22 : POk "SecretWells$Rain" 22 5 3 .int := ⟨RX5, TX5, 10, tyX5, rfl, by decide, inX5, gt_2 37 (by decide +kernel) (by decide +kernel), tyX5_ok, nmX5, rfl, tyX5_ok 3 (by decide)⟩
theorem po_Rn_35 : POk "SecretWells$Rain" 35 5 7 .int := ⟨RX5, TX5, 10, tyX5, rfl, by decide, inX5, gt_2 43 (by decide +kernel) (by decide +kernel), tyX5_ok, nmX5, rfl, tyX5_ok 7 (by decide)⟩
theorem po_Rn_38 : POk "SecretWells$Rain" 38 5 8 .int := ⟨RX5, TX5, 10, tyX5, rfl, by decide, inX5, gt_2 44 (by decide +kernel) (by decide +kernel), tyX5_ok, nmX5, rfl, tyX5_ok 8 (by decide)⟩
theorem po_Rn_41 : POk "SecretWells$Rain" 41 5 9 .int := ⟨RX5, TX5, 10, tyX5, rfl, by decide, inX5, gt_2 45 (by decide +kernel) (by decide +kernel), tyX5_ok, nmX5, rfl, tyX5_ok 9 (by decide)⟩
theorem po_Rn_9 : POk "SecretWells$Rain" 9 5 0 .boolean := ⟨RX5, TX5, 10, tyX5, rfl, by decide, inX5, gt_2 31 (by decide +kernel) (by decide +kernel), tyX5_ok, nmX5, rfl, tyX5_ok 0 (by decide)⟩
theorem po_Rw_23 : POk "SecretWells$Rows" 23 8 0 .int := ⟨RX8, TX8, 13, tyX8, rfl, by decide, inX8, gt_1 173 (by decide +kernel) (by decide +kernel), tyX8_ok, nmX8, rfl, tyX8_ok 0 (by decide)⟩
theorem po_Rw_27 : POk "SecretWells$Rows" 27 8 1 .int := ⟨RX8, TX8, 13, tyX8, rfl, by decide, inX8, gt_1 177 (by decide +kernel) (by decide +kernel), tyX8_ok, nmX8, rfl, tyX8_ok 1 (by decide)⟩
theorem po_Rw_30 : POk "SecretWells$Rows" 30 8 2 .int := ⟨RX8, TX8, 13, tyX8, rfl, by decide, inX8, gt_1 183 (by decide +kernel) (by decide +kernel), tyX8_ok, nmX8, rfl, tyX8_ok 2 (by decide)⟩
theorem po_Rw_33 : POk "SecretWells$Rows" 33 8 3 .int := ⟨RX8, TX8, 13, tyX8, rfl, by decide, inX8, gt_1 186 (by decide +kernel) (by decide +kernel), tyX8_ok, nmX8, rfl, tyX8_ok 3 (by decide)⟩
theorem po_Sh_15 : POk "SecretWells$Shape" 15 7 2 .int := ⟨RX7, TX7, 5, tyX7, rfl, by decide, inX7, gt_1 123 (by decide +kernel) (by decide +kernel), tyX7_ok, nmX7, rfl, tyX7_ok 2 (by decide)⟩
theorem po_Sh_18 : POk "SecretWells$Shape" 18 7 3 .int := ⟨RX7, TX7, 5, tyX7, rfl, by decide, inX7, gt_1 124 (by decide +kernel) (by decide +kernel), tyX7_ok, nmX7, rfl, tyX7_ok 3 (by decide)⟩
theorem po_Sh_9 : POk "SecretWells$Shape" 9 7 0 .int := ⟨RX7, TX7, 5, tyX7, rfl, by decide, inX7, gt_1 120 (by decide +kernel) (by decide +kernel), tyX7_ok, nmX7, rfl, tyX7_ok 0 (by decide)⟩
theorem po_St_15 : POk "SecretWells$State" 15 8 1 .int := ⟨RX8, TX8, 13, tyX8, rfl, by decide, inX8, gt_1 176 (by decide +kernel) (by decide +kernel), tyX8_ok, nmX8, rfl, tyX8_ok 1 (by decide)⟩
theorem po_St_18 : POk "SecretWells$State" 18 8 2 .int := ⟨RX8, TX8, 13, tyX8, rfl, by decide, inX8, gt_1 182 (by decide +kernel) (by decide +kernel), tyX8_ok, nmX8, rfl, tyX8_ok 2 (by decide)⟩
theorem po_St_21 : POk "SecretWells$State" 21 8 3 .int := ⟨RX8, TX8, 13, tyX8, rfl, by decide, inX8, gt_1 185 (by decide +kernel) (by decide +kernel), tyX8_ok, nmX8, rfl, tyX8_ok 3 (by decide)⟩
theorem po_St_9 : POk "SecretWells$State" 9 8 0 .int := ⟨RX8, TX8, 13, tyX8, rfl, by decide, inX8, gt_1 172 (by decide +kernel) (by decide +kernel), tyX8_ok, nmX8, rfl, tyX8_ok 0 (by decide)⟩
theorem po_Tp_9 : POk "SecretWells$Tape" 9 9 0 .int := ⟨RX9, TX9, 6, tyX9, rfl, by decide, inX9, gt_1 91 (by decide +kernel) (by decide +kernel), tyX9_ok, nmX9, rfl, tyX9_ok 0 (by decide)⟩
theorem po_Tx_15 : POk "SecretWells$Text" 15 10 1 .int := ⟨RX10, TX10, 20, tyX10, rfl, by decide, inX10, gt_2 150 (by decide +kernel) (by decide +kernel), tyX10_ok, nmX10, rfl, tyX10_ok 1 (by decide)⟩
theorem po_Tx_18 : POk "SecretWells$Text" 18 10 2 .int := ⟨RX10, TX10, 20, tyX10, rfl, by decide, inX10, gt_2 156 (by decide +kernel) (by decide +kernel), tyX10_ok, nmX10, rfl, tyX10_ok 2 (by decide)⟩
theorem po_Tx_21 : POk "SecretWells$Text" 21 10 3 .int := ⟨RX10, TX10, 20, tyX10, rfl, by decide, inX10, gt_2 164 (by decide +kernel) (by decide +kernel), tyX10_ok, nmX10, rfl, tyX10_ok 3 (by decide)⟩
theorem po_Tx_24 : POk "SecretWells$Text" 24 10 4 .int := ⟨RX10, TX10, 20, tyX10, rfl, by decide, inX10, gt_2 169 (by decide +kernel) (by decide +kernel), tyX10_ok, nmX10, rfl, tyX10_ok 4 (by decide)⟩
theorem po_Tx_27 : POk "SecretWells$Text" 27 10 5 .int := ⟨RX10, TX10, 20, tyX10, rfl, by decide, inX10, gt_2 172 (by decide +kernel) (by decide +kernel), tyX10_ok, nmX10, rfl, tyX10_ok 5 (by decide)⟩
theorem po_Tx_30 : POk "SecretWells$Text" 30 10 6 .int := ⟨RX10, TX10, 20, tyX10, rfl, by decide, inX10, gt_2 175 (by decide +kernel) (by decide +kernel), tyX10_ok, nmX10, rfl, tyX10_ok 6 (by decide)⟩
theorem po_Tx_33 : POk "SecretWells$Text" 33 10 7 .int := ⟨RX10, TX10, 20, tyX10, rfl, by decide, inX10, gt_2 178 (by decide +kernel) (by decide +kernel), tyX10_ok, nmX10, rfl, tyX10_ok 7 (by decide)⟩
theorem po_Tx_9 : POk "SecretWells$Text" 9 10 0 .int := ⟨RX10, TX10, 20, tyX10, rfl, by decide, inX10, gt_2 144 (by decide +kernel) (by decide +kernel), tyX10_ok, nmX10, rfl, tyX10_ok 0 (by decide)⟩
theorem po_Co_102 : POk "SecretWells" 102 11 16 .int := ⟨RX11, TX11, 17, tyX11, rfl, by decide, inX11, gt_3 102 (by decide +kernel) (by decide +kernel), tyX11_ok, nmX11, rfl, tyX11_ok 16 (by decide)⟩
theorem po_Co_112 : POk "SecretWells" 112 9 0 .int := ⟨RX9, TX9, 6, tyX9, rfl, by decide, inX9, gt_1 92 (by decide +kernel) (by decide +kernel), tyX9_ok, nmX9, rfl, tyX9_ok 0 (by decide)⟩
theorem po_Co_135 : POk "SecretWells" 135 3 0 .int := ⟨RX3, TX3, 5, tyX3, rfl, by decide, inX3, gt_2 87 (by decide +kernel) (by decide +kernel), tyX3_ok, nmX3, rfl, tyX3_ok 0 (by decide)⟩
theorem po_Co_236 : POk "SecretWells" 236 8 2 .int := ⟨RX8, TX8, 13, tyX8, rfl, by decide, inX8, gt_1 184 (by decide +kernel) (by decide +kernel), tyX8_ok, nmX8, rfl, tyX8_ok 2 (by decide)⟩
theorem po_Co_239 : POk "SecretWells" 239 8 3 .int := ⟨RX8, TX8, 13, tyX8, rfl, by decide, inX8, gt_1 187 (by decide +kernel) (by decide +kernel), tyX8_ok, nmX8, rfl, tyX8_ok 3 (by decide)⟩
theorem po_Co_291 : POk "SecretWells" 291 5 0 .boolean := ⟨RX5, TX5, 10, tyX5, rfl, by decide, inX5, gt_2 32 (by decide +kernel) (by decide +kernel), tyX5_ok, nmX5, rfl, tyX5_ok 0 (by decide)⟩
theorem po_Co_85 : POk "SecretWells" 85 11 11 (.object "SecretWells$Text") := ⟨RX11, TX11, 17, tyX11, rfl, by decide, inX11, gt_3 97 (by decide +kernel) (by decide +kernel), tyX11_ok, nmX11, rfl, tyX11_ok 11 (by decide)⟩
theorem po_Co_89 : POk "SecretWells" 89 11 12 (.object "SecretWells$Text") := ⟨RX11, TX11, 17, tyX11, rfl, by decide, inX11, gt_3 98 (by decide +kernel) (by decide +kernel), tyX11_ok, nmX11, rfl, tyX11_ok 12 (by decide)⟩
theorem po_Co_92 : POk "SecretWells" 92 11 13 .int := ⟨RX11, TX11, 17, tyX11, rfl, by decide, inX11, gt_3 99 (by decide +kernel) (by decide +kernel), tyX11_ok, nmX11, rfl, tyX11_ok 13 (by decide)⟩
theorem po_Co_96 : POk "SecretWells" 96 11 14 .int := ⟨RX11, TX11, 17, tyX11, rfl, by decide, inX11, gt_3 100 (by decide +kernel) (by decide +kernel), tyX11_ok, nmX11, rfl, tyX11_ok 14 (by decide)⟩
theorem po_Co_99 : POk "SecretWells" 99 11 15 .int := ⟨RX11, TX11, 17, tyX11, rfl, by decide, inX11, gt_3 101 (by decide +kernel) (by decide +kernel), tyX11_ok, nmX11, rfl, tyX11_ok 15 (by decide)⟩
theorem po_Mo_178 : POk "SecretWellsModel" 178 12 2 .int := ⟨RX12, TX12, 74, tyX12, rfl, by decide, inX12, gt_6 139 (by decide +kernel) (by decide +kernel), tyX12_ok, nmX12, rfl, tyX12_ok 2 (by decide)⟩
theorem po_Mo_184 : POk "SecretWellsModel" 184 12 4 .int := ⟨RX12, TX12, 74, tyX12, rfl, by decide, inX12, gt_6 141 (by decide +kernel) (by decide +kernel), tyX12_ok, nmX12, rfl, tyX12_ok 4 (by decide)⟩
theorem po_Mo_193 : POk "SecretWellsModel" 193 12 10 .int := ⟨RX12, TX12, 74, tyX12, rfl, by decide, inX12, gt_6 147 (by decide +kernel) (by decide +kernel), tyX12_ok, nmX12, rfl, tyX12_ok 10 (by decide)⟩
theorem po_Mo_215 : POk "SecretWellsModel" 215 12 13 .int := ⟨RX12, TX12, 74, tyX12, rfl, by decide, inX12, gt_6 150 (by decide +kernel) (by decide +kernel), tyX12_ok, nmX12, rfl, tyX12_ok 13 (by decide)⟩
theorem po_Mo_218 : POk "SecretWellsModel" 218 12 11 .int := ⟨RX12, TX12, 74, tyX12, rfl, by decide, inX12, gt_6 148 (by decide +kernel) (by decide +kernel), tyX12_ok, nmX12, rfl, tyX12_ok 11 (by decide)⟩
theorem po_Mo_221 : POk "SecretWellsModel" 221 12 14 .int := ⟨RX12, TX12, 74, tyX12, rfl, by decide, inX12, gt_6 151 (by decide +kernel) (by decide +kernel), tyX12_ok, nmX12, rfl, tyX12_ok 14 (by decide)⟩
theorem po_Mo_224 : POk "SecretWellsModel" 224 12 15 .int := ⟨RX12, TX12, 74, tyX12, rfl, by decide, inX12, gt_6 152 (by decide +kernel) (by decide +kernel), tyX12_ok, nmX12, rfl, tyX12_ok 15 (by decide)⟩
theorem po_Mo_227 : POk "SecretWellsModel" 227 12 16 .int := ⟨RX12, TX12, 74, tyX12, rfl, by decide, inX12, gt_6 153 (by decide +kernel) (by decide +kernel), tyX12_ok, nmX12, rfl, tyX12_ok 16 (by decide)⟩
theorem po_Mo_242 : POk "SecretWellsModel" 242 12 12 .int := ⟨RX12, TX12, 74, tyX12, rfl, by decide, inX12, gt_6 149 (by decide +kernel) (by decide +kernel), tyX12_ok, nmX12, rfl, tyX12_ok 12 (by decide)⟩
theorem po_Mo_245 : POk "SecretWellsModel" 245 12 18 .int := ⟨RX12, TX12, 74, tyX12, rfl, by decide, inX12, gt_6 155 (by decide +kernel) (by decide +kernel), tyX12_ok, nmX12, rfl, tyX12_ok 18 (by decide)⟩
theorem po_Mo_248 : POk "SecretWellsModel" 248 12 19 .int := ⟨RX12, TX12, 74, tyX12, rfl, by decide, inX12, gt_6 156 (by decide +kernel) (by decide +kernel), tyX12_ok, nmX12, rfl, tyX12_ok 19 (by decide)⟩
theorem po_Mo_251 : POk "SecretWellsModel" 251 12 20 .int := ⟨RX12, TX12, 74, tyX12, rfl, by decide, inX12, gt_6 157 (by decide +kernel) (by decide +kernel), tyX12_ok, nmX12, rfl, tyX12_ok 20 (by decide)⟩
theorem po_Mo_254 : POk "SecretWellsModel" 254 12 42 .int := ⟨RX12, TX12, 74, tyX12, rfl, by decide, inX12, gt_6 179 (by decide +kernel) (by decide +kernel), tyX12_ok, nmX12, rfl, tyX12_ok 42 (by decide)⟩
theorem po_Mo_257 : POk "SecretWellsModel" 257 12 48 .int := ⟨RX12, TX12, 74, tyX12, rfl, by decide, inX12, gt_6 185 (by decide +kernel) (by decide +kernel), tyX12_ok, nmX12, rfl, tyX12_ok 48 (by decide)⟩
theorem po_Mo_263 : POk "SecretWellsModel" 263 12 60 .int := ⟨RX12, TX12, 74, tyX12, rfl, by decide, inX12, gt_6 197 (by decide +kernel) (by decide +kernel), tyX12_ok, nmX12, rfl, tyX12_ok 60 (by decide)⟩
theorem po_Mo_266 : POk "SecretWellsModel" 266 12 68 .int := ⟨RX12, TX12, 74, tyX12, rfl, by decide, inX12, gt_6 205 (by decide +kernel) (by decide +kernel), tyX12_ok, nmX12, rfl, tyX12_ok 68 (by decide)⟩
theorem po_Mo_315 : POk "SecretWellsModel" 315 12 52 .int := ⟨RX12, TX12, 74, tyX12, rfl, by decide, inX12, gt_6 189 (by decide +kernel) (by decide +kernel), tyX12_ok, nmX12, rfl, tyX12_ok 52 (by decide)⟩
theorem po_Mo_328 : POk "SecretWellsModel" 328 12 55 .boolean := ⟨RX12, TX12, 74, tyX12, rfl, by decide, inX12, gt_6 192 (by decide +kernel) (by decide +kernel), tyX12_ok, nmX12, rfl, tyX12_ok 55 (by decide)⟩
theorem po_Mo_336 : POk "SecretWellsModel" 336 12 58 .int := ⟨RX12, TX12, 74, tyX12, rfl, by decide, inX12, gt_6 195 (by decide +kernel) (by decide +kernel), tyX12_ok, nmX12, rfl, tyX12_ok 58 (by decide)⟩
theorem po_Mo_37 : POk "SecretWellsModel" 37 12 17 .int := ⟨RX12, TX12, 74, tyX12, rfl, by decide, inX12, gt_6 154 (by decide +kernel) (by decide +kernel), tyX12_ok, nmX12, rfl, tyX12_ok 17 (by decide)⟩
theorem po_Mo_444 : POk "SecretWellsModel" 444 12 62 .int := ⟨RX12, TX12, 74, tyX12, rfl, by decide, inX12, gt_6 199 (by decide +kernel) (by decide +kernel), tyX12_ok, nmX12, rfl, tyX12_ok 62 (by decide)⟩
theorem po_Mo_453 : POk "SecretWellsModel" 453 12 63 .int := ⟨RX12, TX12, 74, tyX12, rfl, by decide, inX12, gt_6 200 (by decide +kernel) (by decide +kernel), tyX12_ok, nmX12, rfl, tyX12_ok 63 (by decide)⟩
theorem po_Mo_456 : POk "SecretWellsModel" 456 12 64 .int := ⟨RX12, TX12, 74, tyX12, rfl, by decide, inX12, gt_6 201 (by decide +kernel) (by decide +kernel), tyX12_ok, nmX12, rfl, tyX12_ok 64 (by decide)⟩
theorem po_Mo_459 : POk "SecretWellsModel" 459 12 65 .int := ⟨RX12, TX12, 74, tyX12, rfl, by decide, inX12, gt_6 202 (by decide +kernel) (by decide +kernel), tyX12_ok, nmX12, rfl, tyX12_ok 65 (by decide)⟩
theorem po_Mo_474 : POk "SecretWellsModel" 474 12 67 .int := ⟨RX12, TX12, 74, tyX12, rfl, by decide, inX12, gt_6 204 (by decide +kernel) (by decide +kernel), tyX12_ok, nmX12, rfl, tyX12_ok 67 (by decide)⟩
theorem q_Dy_k158 : Cond.constant "SecretWells$Days" 158 (1103515245 : Int32) ∈ gTbl := gt_5 54 (by decide +kernel) (by decide +kernel)
theorem q_Mo_k370 : Cond.constant "SecretWellsModel" 370 (1103515245 : Int32) ∈ gTbl := gt_8 120 (by decide +kernel) (by decide +kernel)
theorem q_JInt_k264 : Cond.constant "java/lang/Integer" 264 (65536 : Int32) ∈ gTbl := gt_5 129 (by decide +kernel) (by decide +kernel)
theorem q_JInt_k265 : Cond.constant "java/lang/Integer" 265 (1431655765 : Int32) ∈ gTbl := gt_3 61 (by decide +kernel) (by decide +kernel)
theorem q_JInt_k266 : Cond.constant "java/lang/Integer" 266 (858993459 : Int32) ∈ gTbl := gt_3 62 (by decide +kernel) (by decide +kernel)
theorem q_JInt_k267 : Cond.constant "java/lang/Integer" 267 (252645135 : Int32) ∈ gTbl := gt_3 63 (by decide +kernel) (by decide +kernel)
theorem q_Tp_k81 : Cond.constantLong "SecretWells$Tape" 81 (27 : Int64) ∈ gTbl := gt_1 89 (by decide +kernel) (by decide +kernel)
theorem q_Tp_k83 : Cond.constantLong "SecretWells$Tape" 83 (97 : Int64) ∈ gTbl := gt_1 90 (by decide +kernel) (by decide +kernel)
theorem q_Mo_k187 : Cond.constantLong "SecretWellsModel" 187 (27 : Int64) ∈ gTbl := gt_6 98 (by decide +kernel) (by decide +kernel)
theorem kb_m3 : (Int8.ofInt (-3)).toInt32 = (-3) := by decide
theorem kb_m2 : (Int8.ofInt (-2)).toInt32 = (-2) := by decide
theorem kb_6 : (Int8.ofInt 6).toInt32 = 6 := by decide
theorem kb_7 : (Int8.ofInt 7).toInt32 = 7 := by decide
theorem kb_8 : (Int8.ofInt 8).toInt32 = 8 := by decide
theorem kb_9 : (Int8.ofInt 9).toInt32 = 9 := by decide
theorem kb_10 : (Int8.ofInt 10).toInt32 = 10 := by decide
theorem kb_11 : (Int8.ofInt 11).toInt32 = 11 := by decide
theorem kb_12 : (Int8.ofInt 12).toInt32 = 12 := by decide
theorem kb_13 : (Int8.ofInt 13).toInt32 = 13 := by decide
theorem kb_14 : (Int8.ofInt 14).toInt32 = 14 := by decide
theorem kb_15 : (Int8.ofInt 15).toInt32 = 15 := by decide
theorem kb_16 : (Int8.ofInt 16).toInt32 = 16 := by decide
theorem kb_17 : (Int8.ofInt 17).toInt32 = 17 := by decide
theorem kb_18 : (Int8.ofInt 18).toInt32 = 18 := by decide
theorem kb_19 : (Int8.ofInt 19).toInt32 = 19 := by decide
theorem kb_20 : (Int8.ofInt 20).toInt32 = 20 := by decide
theorem kb_21 : (Int8.ofInt 21).toInt32 = 21 := by decide
theorem kb_22 : (Int8.ofInt 22).toInt32 = 22 := by decide
theorem kb_23 : (Int8.ofInt 23).toInt32 = 23 := by decide
theorem kb_24 : (Int8.ofInt 24).toInt32 = 24 := by decide
theorem kb_25 : (Int8.ofInt 25).toInt32 = 25 := by decide
theorem kb_26 : (Int8.ofInt 26).toInt32 = 26 := by decide
theorem kb_27 : (Int8.ofInt 27).toInt32 = 27 := by decide
theorem kb_31 : (Int8.ofInt 31).toInt32 = 31 := by decide
theorem kb_32 : (Int8.ofInt 32).toInt32 = 32 := by decide
theorem kb_33 : (Int8.ofInt 33).toInt32 = 33 := by decide
theorem kb_34 : (Int8.ofInt 34).toInt32 = 34 := by decide
theorem kb_35 : (Int8.ofInt 35).toInt32 = 35 := by decide
theorem kb_36 : (Int8.ofInt 36).toInt32 = 36 := by decide
theorem kb_37 : (Int8.ofInt 37).toInt32 = 37 := by decide
theorem kb_40 : (Int8.ofInt 40).toInt32 = 40 := by decide
theorem kb_41 : (Int8.ofInt 41).toInt32 = 41 := by decide
theorem kb_42 : (Int8.ofInt 42).toInt32 = 42 := by decide
theorem kb_43 : (Int8.ofInt 43).toInt32 = 43 := by decide
theorem kb_45 : (Int8.ofInt 45).toInt32 = 45 := by decide
theorem kb_47 : (Int8.ofInt 47).toInt32 = 47 := by decide
theorem kb_48 : (Int8.ofInt 48).toInt32 = 48 := by decide
theorem kb_49 : (Int8.ofInt 49).toInt32 = 49 := by decide
theorem kb_57 : (Int8.ofInt 57).toInt32 = 57 := by decide
theorem kb_59 : (Int8.ofInt 59).toInt32 = 59 := by decide
theorem kb_60 : (Int8.ofInt 60).toInt32 = 60 := by decide
theorem kb_61 : (Int8.ofInt 61).toInt32 = 61 := by decide
theorem kb_63 : (Int8.ofInt 63).toInt32 = 63 := by decide
theorem kb_64 : (Int8.ofInt 64).toInt32 = 64 := by decide
theorem kb_97 : (Int8.ofInt 97).toInt32 = 97 := by decide
theorem kb_99 : (Int8.ofInt 99).toInt32 = 99 := by decide
theorem kb_100 : (Int8.ofInt 100).toInt32 = 100 := by decide
theorem kb_101 : (Int8.ofInt 101).toInt32 = 101 := by decide
theorem kb_102 : (Int8.ofInt 102).toInt32 = 102 := by decide
theorem kb_104 : (Int8.ofInt 104).toInt32 = 104 := by decide
theorem kb_105 : (Int8.ofInt 105).toInt32 = 105 := by decide
theorem kb_107 : (Int8.ofInt 107).toInt32 = 107 := by decide
theorem kb_108 : (Int8.ofInt 108).toInt32 = 108 := by decide
theorem kb_109 : (Int8.ofInt 109).toInt32 = 109 := by decide
theorem kb_110 : (Int8.ofInt 110).toInt32 = 110 := by decide
theorem kb_111 : (Int8.ofInt 111).toInt32 = 111 := by decide
theorem kb_112 : (Int8.ofInt 112).toInt32 = 112 := by decide
theorem kb_114 : (Int8.ofInt 114).toInt32 = 114 := by decide
theorem kb_115 : (Int8.ofInt 115).toInt32 = 115 := by decide
theorem kb_116 : (Int8.ofInt 116).toInt32 = 116 := by decide
theorem kb_118 : (Int8.ofInt 118).toInt32 = 118 := by decide
theorem kb_119 : (Int8.ofInt 119).toInt32 = 119 := by decide
theorem kb_120 : (Int8.ofInt 120).toInt32 = 120 := by decide
theorem kb_121 : (Int8.ofInt 121).toInt32 = 121 := by decide
theorem kb_122 : (Int8.ofInt 122).toInt32 = 122 := by decide
theorem kc_m8 : Int32.ofInt (-8) = (-8) := by decide
theorem kc_m2 : Int32.ofInt (-2) = (-2) := by decide
theorem kc_m1 : Int32.ofInt (-1) = (-1) := by decide
theorem kc_0 : Int32.ofInt 0 = 0 := by decide
theorem kc_1 : Int32.ofInt 1 = 1 := by decide
theorem kc_2 : Int32.ofInt 2 = 2 := by decide
theorem kc_3 : Int32.ofInt 3 = 3 := by decide
theorem kc_4 : Int32.ofInt 4 = 4 := by decide
theorem kc_5 : Int32.ofInt 5 = 5 := by decide
theorem kc_7 : Int32.ofInt 7 = 7 := by decide
theorem kc_8 : Int32.ofInt 8 = 8 := by decide
theorem kc_16 : Int32.ofInt 16 = 16 := by decide
theorem ks_128 : (Int16.ofInt 128).toInt32 = 128 := by decide
theorem ks_130 : (Int16.ofInt 130).toInt32 = 130 := by decide
theorem ks_137 : (Int16.ofInt 137).toInt32 = 137 := by decide
theorem ks_138 : (Int16.ofInt 138).toInt32 = 138 := by decide
theorem ks_139 : (Int16.ofInt 139).toInt32 = 139 := by decide
theorem ks_140 : (Int16.ofInt 140).toInt32 = 140 := by decide
theorem ks_141 : (Int16.ofInt 141).toInt32 = 141 := by decide
theorem ks_142 : (Int16.ofInt 142).toInt32 = 142 := by decide
theorem ks_149 : (Int16.ofInt 149).toInt32 = 149 := by decide
theorem ks_200 : (Int16.ofInt 200).toInt32 = 200 := by decide
theorem ks_255 : (Int16.ofInt 255).toInt32 = 255 := by decide
theorem ks_256 : (Int16.ofInt 256).toInt32 = 256 := by decide
theorem ks_260 : (Int16.ofInt 260).toInt32 = 260 := by decide
theorem ks_400 : (Int16.ofInt 400).toInt32 = 400 := by decide
theorem ks_401 : (Int16.ofInt 401).toInt32 = 401 := by decide
theorem ks_403 : (Int16.ofInt 403).toInt32 = 403 := by decide
theorem ks_420 : (Int16.ofInt 420).toInt32 = 420 := by decide
theorem ks_840 : (Int16.ofInt 840).toInt32 = 840 := by decide
theorem ks_999 : (Int16.ofInt 999).toInt32 = 999 := by decide
theorem ks_1560 : (Int16.ofInt 1560).toInt32 = 1560 := by decide
theorem ks_1600 : (Int16.ofInt 1600).toInt32 = 1600 := by decide
theorem ks_2000 : (Int16.ofInt 2000).toInt32 = 2000 := by decide
theorem ks_9999 : (Int16.ofInt 9999).toInt32 = 9999 := by decide
theorem ks_12345 : (Int16.ofInt 12345).toInt32 = 12345 := by decide
