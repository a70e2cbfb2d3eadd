def R_Bi : String := "WordSmith$BuiltIn"
abbrev b_N_init : ByteArray := prog_10_method_1_code
def y_N_init : MethodName := ⟨"WordSmith$NumberStack", "<init>", "()V"⟩
abbrev b_N_isFull : ByteArray := prog_10_method_2_code
def y_N_isFull : MethodName := ⟨"WordSmith$NumberStack", "isFull", "()Z"⟩
abbrev b_N_push : ByteArray := prog_10_method_3_code
def y_N_push : MethodName := ⟨"WordSmith$NumberStack", "push", "(I)V"⟩
abbrev b_N_pop : ByteArray := prog_10_method_4_code
def y_N_pop : MethodName := ⟨"WordSmith$NumberStack", "pop", "()I"⟩
abbrev b_N_drop : ByteArray := prog_10_method_5_code
def y_N_drop : MethodName := ⟨"WordSmith$NumberStack", "drop", "(I)V"⟩
abbrev b_N_fromTop : ByteArray := prog_10_method_6_code
def y_N_fromTop : MethodName := ⟨"WordSmith$NumberStack", "fromTop", "(I)I"⟩
abbrev b_N_clear : ByteArray := prog_10_method_7_code
def y_N_clear : MethodName := ⟨"WordSmith$NumberStack", "clear", "()V"⟩
abbrev b_Me_init : ByteArray := prog_9_method_1_code
def y_Me_init : MethodName := ⟨"WordSmith$Memory", "<init>", "()V"⟩
abbrev b_Me_has : ByteArray := prog_9_method_2_code
def y_Me_has : MethodName := ⟨"WordSmith$Memory", "has", "(I)Z"⟩
abbrev b_Me_fetch : ByteArray := prog_9_method_3_code
def y_Me_fetch : MethodName := ⟨"WordSmith$Memory", "fetch", "(I)I"⟩
abbrev b_Me_store : ByteArray := prog_9_method_4_code
def y_Me_store : MethodName := ⟨"WordSmith$Memory", "store", "(II)V"⟩
abbrev b_Me_canGrow : ByteArray := prog_9_method_5_code
def y_Me_canGrow : MethodName := ⟨"WordSmith$Memory", "canGrow", "(I)Z"⟩
abbrev b_Me_grow : ByteArray := prog_9_method_6_code
def y_Me_grow : MethodName := ⟨"WordSmith$Memory", "grow", "(I)V"⟩
abbrev b_Me_append : ByteArray := prog_9_method_7_code
def y_Me_append : MethodName := ⟨"WordSmith$Memory", "append", "(I)V"⟩
abbrev b_Me_hasBlock : ByteArray := prog_9_method_8_code
def y_Me_hasBlock : MethodName := ⟨"WordSmith$Memory", "hasBlock", "(I)Z"⟩
abbrev b_Me_onDisk : ByteArray := prog_9_method_9_code
def y_Me_onDisk : MethodName := ⟨"WordSmith$Memory", "onDisk", "(II)I"⟩
abbrev b_Me_bufferState : ByteArray := prog_9_method_10_code
def y_Me_bufferState : MethodName := ⟨"WordSmith$Memory", "bufferState", "(I)I"⟩
abbrev b_Me_tellBlock : ByteArray := prog_9_method_11_code
def y_Me_tellBlock : MethodName := ⟨"WordSmith$Memory", "tellBlock", "(I)I"⟩
abbrev b_Me_bufferWith : ByteArray := prog_9_method_12_code
def y_Me_bufferWith : MethodName := ⟨"WordSmith$Memory", "bufferWith", "(I)I"⟩
abbrev b_Me_readInto : ByteArray := prog_9_method_13_code
def y_Me_readInto : MethodName := ⟨"WordSmith$Memory", "readInto", "(II)V"⟩
abbrev b_Me_writeIfUpdated : ByteArray := prog_9_method_14_code
def y_Me_writeIfUpdated : MethodName := ⟨"WordSmith$Memory", "writeIfUpdated", "(I)V"⟩
abbrev b_Me_update : ByteArray := prog_9_method_15_code
def y_Me_update : MethodName := ⟨"WordSmith$Memory", "update", "()V"⟩
abbrev b_Me_flush : ByteArray := prog_9_method_16_code
def y_Me_flush : MethodName := ⟨"WordSmith$Memory", "flush", "()V"⟩
abbrev b_Di_init : ByteArray := prog_6_method_1_code
def y_Di_init : MethodName := ⟨"WordSmith$Dictionary", "<init>", "()V"⟩
abbrev b_Di_isFull : ByteArray := prog_6_method_2_code
def y_Di_isFull : MethodName := ⟨"WordSmith$Dictionary", "isFull", "()Z"⟩
abbrev b_Di_add : ByteArray := prog_6_method_3_code
def y_Di_add : MethodName := ⟨"WordSmith$Dictionary", "add", "(LWordSmith$MadeWord;)V"⟩
abbrev b_Di_word : ByteArray := prog_6_method_4_code
def y_Di_word : MethodName := ⟨"WordSmith$Dictionary", "word", "(I)LWordSmith$MadeWord;"⟩
abbrev b_Di_find : ByteArray := prog_6_method_5_code
def y_Di_find : MethodName := ⟨"WordSmith$Dictionary", "find", "(Ljava/lang/String;)I"⟩
abbrev b_Di_isImmediate : ByteArray := prog_6_method_6_code
def y_Di_isImmediate : MethodName := ⟨"WordSmith$Dictionary", "isImmediate", "(I)Z"⟩
abbrev b_Di_nextNumber : ByteArray := prog_6_method_7_code
def y_Di_nextNumber : MethodName := ⟨"WordSmith$Dictionary", "nextNumber", "()I"⟩
abbrev b_Ca_init : ByteArray := prog_4_method_1_code
def y_Ca_init : MethodName := ⟨"WordSmith$Call", "<init>", "()V"⟩
abbrev b_Ca_start : ByteArray := prog_4_method_2_code
def y_Ca_start : MethodName := ⟨"WordSmith$Call", "start", "(LWordSmith$MadeWord;)V"⟩
abbrev b_Ca_beginLoop : ByteArray := prog_4_method_3_code
def y_Ca_beginLoop : MethodName := ⟨"WordSmith$Call", "beginLoop", "(II)V"⟩
abbrev b_Ca_countOn : ByteArray := prog_4_method_4_code
def y_Ca_countOn : MethodName := ⟨"WordSmith$Call", "countOn", "()Z"⟩
abbrev b_Ca_loopCount : ByteArray := prog_4_method_5_code
def y_Ca_loopCount : MethodName := ⟨"WordSmith$Call", "loopCount", "(I)I"⟩
abbrev b_Mw_init : ByteArray := prog_8_method_1_code
def y_Mw_init : MethodName := ⟨"WordSmith$MadeWord", "<init>", "(Ljava/lang/String;)V"⟩
abbrev b_Mw_isFull : ByteArray := prog_8_method_2_code
def y_Mw_isFull : MethodName := ⟨"WordSmith$MadeWord", "isFull", "()Z"⟩
abbrev b_Mw_add : ByteArray := prog_8_method_3_code
def y_Mw_add : MethodName := ⟨"WordSmith$MadeWord", "add", "(II)V"⟩
abbrev b_Mw_aim : ByteArray := prog_8_method_4_code
def y_Mw_aim : MethodName := ⟨"WordSmith$MadeWord", "aim", "(I)V"⟩
abbrev b_Bi_numbered : ByteArray := prog_3_method_5_code
def y_Bi_numbered : MethodName := ⟨"WordSmith$BuiltIn", "numbered", "(I)LWordSmith$BuiltIn;"⟩
abbrev b_Bi_find : ByteArray := prog_3_method_6_code
def y_Bi_find : MethodName := ⟨"WordSmith$BuiltIn", "find", "(Ljava/lang/String;)I"⟩
abbrev b_Bi_isCalculating : ByteArray := prog_3_method_7_code
def y_Bi_isCalculating : MethodName := ⟨"WordSmith$BuiltIn", "isCalculating", "()Z"⟩
abbrev b_Bi_isDefining : ByteArray := prog_3_method_8_code
def y_Bi_isDefining : MethodName := ⟨"WordSmith$BuiltIn", "isDefining", "()Z"⟩
abbrev b_Bi_isCompiling : ByteArray := prog_3_method_9_code
def y_Bi_isCompiling : MethodName := ⟨"WordSmith$BuiltIn", "isCompiling", "()Z"⟩
abbrev b_Co_init : ByteArray := prog_5_method_1_code
def y_Co_init : MethodName := ⟨"WordSmith$Compiler", "<init>", "()V"⟩
abbrev b_Co_isCompiling : ByteArray := prog_5_method_2_code
def y_Co_isCompiling : MethodName := ⟨"WordSmith$Compiler", "isCompiling", "()Z"⟩
abbrev b_Co_begin : ByteArray := prog_5_method_3_code
def y_Co_begin : MethodName := ⟨"WordSmith$Compiler", "begin", "(Ljava/lang/String;)V"⟩
abbrev b_Co_end : ByteArray := prog_5_method_4_code
def y_Co_end : MethodName := ⟨"WordSmith$Compiler", "end", "()LWordSmith$MadeWord;"⟩
abbrev b_Co_addItem : ByteArray := prog_5_method_5_code
def y_Co_addItem : MethodName := ⟨"WordSmith$Compiler", "addItem", "(II)I"⟩
abbrev b_Co_lack : ByteArray := prog_5_method_6_code
def y_Co_lack : MethodName := ⟨"WordSmith$Compiler", "lack", "(LWordSmith$BuiltIn;)I"⟩
abbrev b_Co_fits : ByteArray := prog_5_method_7_code
def y_Co_fits : MethodName := ⟨"WordSmith$Compiler", "fits", "(LWordSmith$BuiltIn;)Z"⟩
abbrev b_Co_opensOne : ByteArray := prog_5_method_8_code
def y_Co_opensOne : MethodName := ⟨"WordSmith$Compiler", "opensOne", "(LWordSmith$BuiltIn;)Z"⟩
abbrev b_Co_isItem : ByteArray := prog_5_method_9_code
def y_Co_isItem : MethodName := ⟨"WordSmith$Compiler", "isItem", "(LWordSmith$BuiltIn;)Z"⟩
abbrev b_Co_compile : ByteArray := prog_5_method_10_code
def y_Co_compile : MethodName := ⟨"WordSmith$Compiler", "compile", "(LWordSmith$BuiltIn;)V"⟩
abbrev b_Co_closeWhile : ByteArray := prog_5_method_11_code
def y_Co_closeWhile : MethodName := ⟨"WordSmith$Compiler", "closeWhile", "()V"⟩
abbrev b_Co_push : ByteArray := prog_5_method_12_code
def y_Co_push : MethodName := ⟨"WordSmith$Compiler", "push", "(LWordSmith$BuiltIn;I)V"⟩
abbrev b_Co_pop : ByteArray := prog_5_method_13_code
def y_Co_pop : MethodName := ⟨"WordSmith$Compiler", "pop", "()I"⟩
abbrev b_Ma_init : ByteArray := prog_7_method_1_code
def y_Ma_init : MethodName := ⟨"WordSmith$Machine", "<init>", "()V"⟩
abbrev b_Ma_refuel : ByteArray := prog_7_method_2_code
def y_Ma_refuel : MethodName := ⟨"WordSmith$Machine", "refuel", "()V"⟩
abbrev b_Ma_burn : ByteArray := prog_7_method_3_code
def y_Ma_burn : MethodName := ⟨"WordSmith$Machine", "burn", "()Z"⟩
abbrev b_Ma_clear : ByteArray := prog_7_method_4_code
def y_Ma_clear : MethodName := ⟨"WordSmith$Machine", "clear", "()V"⟩
abbrev b_Ma_putNumber : ByteArray := prog_7_method_5_code
def y_Ma_putNumber : MethodName := ⟨"WordSmith$Machine", "putNumber", "(I)I"⟩
abbrev b_Ma_finishCalls : ByteArray := prog_7_method_6_code
def y_Ma_finishCalls : MethodName := ⟨"WordSmith$Machine", "finishCalls", "()I"⟩
abbrev b_Ma_jump : ByteArray := prog_7_method_7_code
def y_Ma_jump : MethodName := ⟨"WordSmith$Machine", "jump", "(LWordSmith$Call;II)I"⟩
abbrev b_Ma_beginLoop : ByteArray := prog_7_method_8_code
def y_Ma_beginLoop : MethodName := ⟨"WordSmith$Machine", "beginLoop", "(LWordSmith$Call;)I"⟩
abbrev b_Ma_start : ByteArray := prog_7_method_9_code
def y_Ma_start : MethodName := ⟨"WordSmith$Machine", "start", "(I)I"⟩
abbrev b_Ma_isExecutable : ByteArray := prog_7_method_10_code
def y_Ma_isExecutable : MethodName := ⟨"WordSmith$Machine", "isExecutable", "(I)Z"⟩
abbrev b_Ma_beginCall : ByteArray := prog_7_method_11_code
def y_Ma_beginCall : MethodName := ⟨"WordSmith$Machine", "beginCall", "(LWordSmith$MadeWord;)I"⟩
abbrev b_Ma_lack : ByteArray := prog_7_method_12_code
def y_Ma_lack : MethodName := ⟨"WordSmith$Machine", "lack", "(LWordSmith$BuiltIn;)I"⟩
abbrev b_Ma_openLoops : ByteArray := prog_7_method_13_code
def y_Ma_openLoops : MethodName := ⟨"WordSmith$Machine", "openLoops", "()I"⟩
abbrev b_Ma_hasRoom : ByteArray := prog_7_method_14_code
def y_Ma_hasRoom : MethodName := ⟨"WordSmith$Machine", "hasRoom", "(LWordSmith$BuiltIn;I)Z"⟩
abbrev b_Ma_perform : ByteArray := prog_7_method_15_code
def y_Ma_perform : MethodName := ⟨"WordSmith$Machine", "perform", "(LWordSmith$BuiltIn;)V"⟩
abbrev b_Ma_arrange : ByteArray := prog_7_method_16_code
def y_Ma_arrange : MethodName := ⟨"WordSmith$Machine", "arrange", "(LWordSmith$BuiltIn;III)V"⟩
abbrev b_Ma_performOnMemory : ByteArray := prog_7_method_17_code
def y_Ma_performOnMemory : MethodName := ⟨"WordSmith$Machine", "performOnMemory", "(LWordSmith$BuiltIn;II)V"⟩
abbrev b_Ma_loopCount : ByteArray := prog_7_method_18_code
def y_Ma_loopCount : MethodName := ⟨"WordSmith$Machine", "loopCount", "(I)I"⟩
abbrev b_Ma_keep : ByteArray := prog_7_method_19_code
def y_Ma_keep : MethodName := ⟨"WordSmith$Machine", "keep", "(I)V"⟩
abbrev b_Ma_calculate : ByteArray := prog_7_method_20_code
def y_Ma_calculate : MethodName := ⟨"WordSmith$Machine", "calculate", "(LWordSmith$BuiltIn;II)I"⟩
abbrev b_Ma_flag : ByteArray := prog_7_method_21_code
def y_Ma_flag : MethodName := ⟨"WordSmith$Machine", "flag", "(Z)I"⟩
abbrev b_Rd_init : ByteArray := prog_11_method_1_code
def y_Rd_init : MethodName := ⟨"WordSmith$Reader", "<init>", "()V"⟩
abbrev b_Rd_take : ByteArray := prog_11_method_2_code
def y_Rd_take : MethodName := ⟨"WordSmith$Reader", "take", "(Ljava/lang/String;)V"⟩
abbrev b_Rd_advance : ByteArray := prog_11_method_3_code
def y_Rd_advance : MethodName := ⟨"WordSmith$Reader", "advance", "()Z"⟩
abbrev b_Rd_skipSpaces : ByteArray := prog_11_method_4_code
def y_Rd_skipSpaces : MethodName := ⟨"WordSmith$Reader", "skipSpaces", "()V"⟩
abbrev b_Rd_cutToken : ByteArray := prog_11_method_5_code
def y_Rd_cutToken : MethodName := ⟨"WordSmith$Reader", "cutToken", "()Ljava/lang/String;"⟩
abbrev b_Rd_clear : ByteArray := prog_11_method_6_code
def y_Rd_clear : MethodName := ⟨"WordSmith$Reader", "clear", "()V"⟩
abbrev b_Rd_readToken : ByteArray := prog_11_method_7_code
def y_Rd_readToken : MethodName := ⟨"WordSmith$Reader", "readToken", "()I"⟩
abbrev b_Rd_isNumber : ByteArray := prog_11_method_8_code
def y_Rd_isNumber : MethodName := ⟨"WordSmith$Reader", "isNumber", "(Ljava/lang/String;)Z"⟩
abbrev b_Rd_numberOf : ByteArray := prog_11_method_9_code
def y_Rd_numberOf : MethodName := ⟨"WordSmith$Reader", "numberOf", "(Ljava/lang/String;)I"⟩
abbrev b_Rd_isName : ByteArray := prog_11_method_10_code
def y_Rd_isName : MethodName := ⟨"WordSmith$Reader", "isName", "(Ljava/lang/String;)Z"⟩
abbrev b_Rd_readNumber : ByteArray := prog_11_method_11_code
def y_Rd_readNumber : MethodName := ⟨"WordSmith$Reader", "readNumber", "(I)I"⟩
abbrev b_Rd_compile : ByteArray := prog_11_method_12_code
def y_Rd_compile : MethodName := ⟨"WordSmith$Reader", "compile", "(LWordSmith$BuiltIn;)I"⟩
abbrev b_Rd_define : ByteArray := prog_11_method_13_code
def y_Rd_define : MethodName := ⟨"WordSmith$Reader", "define", "(LWordSmith$BuiltIn;)I"⟩
abbrev b_Rd_makeImmediate : ByteArray := prog_11_method_14_code
def y_Rd_makeImmediate : MethodName := ⟨"WordSmith$Reader", "makeImmediate", "()I"⟩
abbrev b_Rd_putNumberOfWord : ByteArray := prog_11_method_15_code
def y_Rd_putNumberOfWord : MethodName := ⟨"WordSmith$Reader", "putNumberOfWord", "(Ljava/lang/String;)I"⟩
abbrev b_Rd_makeWord : ByteArray := prog_11_method_16_code
def y_Rd_makeWord : MethodName := ⟨"WordSmith$Reader", "makeWord", "(LWordSmith$BuiltIn;Ljava/lang/String;)I"⟩
abbrev b_Rd_makeNumberWord : ByteArray := prog_11_method_17_code
def y_Rd_makeNumberWord : MethodName := ⟨"WordSmith$Reader", "makeNumberWord", "(Ljava/lang/String;I)V"⟩
abbrev b_W_init : ByteArray := prog_1_method_1_code
def y_W_init : MethodName := ⟨"WordSmith", "<init>", "()V"⟩
abbrev b_W_type : ByteArray := prog_1_method_2_code
def y_W_type : MethodName := ⟨"WordSmith", "type", "(II)Z"⟩
abbrev b_W_byteOf : ByteArray := prog_1_method_3_code
def y_W_byteOf : MethodName := ⟨"WordSmith", "byteOf", "(II)I"⟩
abbrev b_W_run : ByteArray := prog_1_method_4_code
def y_W_run : MethodName := ⟨"WordSmith", "run", "()I"⟩
abbrev b_W_count : ByteArray := prog_1_method_5_code
def y_W_count : MethodName := ⟨"WordSmith", "count", "(I)I"⟩
abbrev b_W_stack : ByteArray := prog_1_method_6_code
def y_W_stack : MethodName := ⟨"WordSmith", "stack", "(I)I"⟩
abbrev b_W_out : ByteArray := prog_1_method_7_code
def y_W_out : MethodName := ⟨"WordSmith", "out", "(I)I"⟩
abbrev b_W_cell : ByteArray := prog_1_method_8_code
def y_W_cell : MethodName := ⟨"WordSmith", "cell", "(I)I"⟩
abbrev b_W_disk : ByteArray := prog_1_method_9_code
def y_W_disk : MethodName := ⟨"WordSmith", "disk", "(II)I"⟩
abbrev b_W_items : ByteArray := prog_1_method_10_code
def y_W_items : MethodName := ⟨"WordSmith", "items", "(I)I"⟩
abbrev b_W_buffer : ByteArray := prog_1_method_11_code
def y_W_buffer : MethodName := ⟨"WordSmith", "buffer", "(I)I"⟩
abbrev b_En_ordinal : ByteArray := prog_16_method_2_code
def y_En_ordinal : MethodName := ⟨"java/lang/Enum", "ordinal", "()I"⟩
abbrev b_AB_append : ByteArray := prog_14_method_31_code
def y_AB_append : MethodName := ⟨"java/lang/AbstractStringBuilder", "append", "(C)Ljava/lang/AbstractStringBuilder;"⟩
abbrev b_AB_ensureCapacityInternal : ByteArray := prog_14_method_9_code
def y_AB_ensureCapacityInternal : MethodName := ⟨"java/lang/AbstractStringBuilder", "ensureCapacityInternal", "(I)V"⟩
abbrev b_AB_newCapacity : ByteArray := prog_14_method_10_code
def y_AB_newCapacity : MethodName := ⟨"java/lang/AbstractStringBuilder", "newCapacity", "(I)I"⟩
abbrev b_AB_isLatin1 : ByteArray := prog_14_method_68_code
def y_AB_isLatin1 : MethodName := ⟨"java/lang/AbstractStringBuilder", "isLatin1", "()Z"⟩
abbrev b_AB_length : ByteArray := prog_14_method_6_code
def y_AB_length : MethodName := ⟨"java/lang/AbstractStringBuilder", "length", "()I"⟩
abbrev b_AB_setLength : ByteArray := prog_14_method_13_code
def y_AB_setLength : MethodName := ⟨"java/lang/AbstractStringBuilder", "setLength", "(I)V"⟩
abbrev b_AB_getValue : ByteArray := prog_14_method_64_code
def y_AB_getValue : MethodName := ⟨"java/lang/AbstractStringBuilder", "getValue", "()[B"⟩
abbrev b_AB_init : ByteArray := prog_14_method_2_code
def y_AB_init : MethodName := ⟨"java/lang/AbstractStringBuilder", "<init>", "(I)V"⟩
abbrev b_SB_init : ByteArray := prog_19_method_1_code
def y_SB_init : MethodName := ⟨"java/lang/StringBuilder", "<init>", "()V"⟩
abbrev b_SB_length : ByteArray := prog_19_method_93_code
def y_SB_length : MethodName := ⟨"java/lang/StringBuilder", "length", "()I"⟩
abbrev b_SB_append : ByteArray := prog_19_method_14_code
def y_SB_append : MethodName := ⟨"java/lang/StringBuilder", "append", "(C)Ljava/lang/StringBuilder;"⟩
abbrev b_SB_setLength : ByteArray := prog_19_method_89_code
def y_SB_setLength : MethodName := ⟨"java/lang/StringBuilder", "setLength", "(I)V"⟩
abbrev b_SB_toString : ByteArray := prog_19_method_42_code
def y_SB_toString : MethodName := ⟨"java/lang/StringBuilder", "toString", "()Ljava/lang/String;"⟩
abbrev b_St_length : ByteArray := prog_18_method_54_code
def y_St_length : MethodName := ⟨"java/lang/String", "length", "()I"⟩
abbrev b_St_coder : ByteArray := prog_18_method_152_code
def y_St_coder : MethodName := ⟨"java/lang/String", "coder", "()B"⟩
abbrev b_St_isLatin1 : ByteArray := prog_18_method_154_code
def y_St_isLatin1 : MethodName := ⟨"java/lang/String", "isLatin1", "()Z"⟩
abbrev b_St_charAt : ByteArray := prog_18_method_56_code
def y_St_charAt : MethodName := ⟨"java/lang/String", "charAt", "(I)C"⟩
abbrev b_St_isEmpty : ByteArray := prog_18_method_55_code
def y_St_isEmpty : MethodName := ⟨"java/lang/String", "isEmpty", "()Z"⟩
abbrev b_St_substring : ByteArray := prog_18_method_92_code
def y_St_substring : MethodName := ⟨"java/lang/String", "substring", "(II)Ljava/lang/String;"⟩
abbrev b_St_checkBoundsBeginEnd : ByteArray := prog_18_method_158_code
def y_St_checkBoundsBeginEnd : MethodName := ⟨"java/lang/String", "checkBoundsBeginEnd", "(III)V"⟩
abbrev b_St_checkIndex : ByteArray := prog_18_method_155_code
def y_St_checkIndex : MethodName := ⟨"java/lang/String", "checkIndex", "(II)V"⟩
abbrev b_St_equals : ByteArray := prog_18_method_66_code
def y_St_equals : MethodName := ⟨"java/lang/String", "equals", "(Ljava/lang/Object;)Z"⟩
abbrev b_St_init : ByteArray := prog_18_method_151_code
def y_St_init : MethodName := ⟨"java/lang/String", "<init>", "([BB)V"⟩
abbrev b_St_initS : ByteArray := prog_18_method_53_code
def y_St_initS : MethodName := ⟨"java/lang/String", "<init>", "(Ljava/lang/StringBuilder;)V"⟩
abbrev b_St_initA : ByteArray := prog_18_method_150_code
def y_St_initA : MethodName := ⟨"java/lang/String", "<init>", "(Ljava/lang/AbstractStringBuilder;Ljava/lang/Void;)V"⟩
abbrev b_La_canEncode : ByteArray := prog_20_method_3_code
def y_La_canEncode : MethodName := ⟨"java/lang/StringLatin1", "canEncode", "(C)Z"⟩
abbrev b_La_charAt : ByteArray := prog_20_method_2_code
def y_La_charAt : MethodName := ⟨"java/lang/StringLatin1", "charAt", "([BI)C"⟩
abbrev b_La_newString : ByteArray := prog_20_method_47_code
def y_La_newString : MethodName := ⟨"java/lang/StringLatin1", "newString", "([BII)Ljava/lang/String;"⟩
abbrev b_La_equals : ByteArray := prog_20_method_13_code
def y_La_equals : MethodName := ⟨"java/lang/StringLatin1", "equals", "([B[B)Z"⟩
abbrev b_Ar_copyOf : ByteArray := prog_23_method_121_code
def y_Ar_copyOf : MethodName := ⟨"java/util/Arrays", "copyOf", "([BI)[B"⟩
abbrev b_Ar_copyOfRange : ByteArray := prog_23_method_132_code
def y_Ar_copyOfRange : MethodName := ⟨"java/util/Arrays", "copyOfRange", "([BII)[B"⟩
abbrev b_Ar_copyOfRangeByte : ByteArray := prog_23_method_133_code
def y_Ar_copyOfRangeByte : MethodName := ⟨"java/util/Arrays", "copyOfRangeByte", "([BII)[B"⟩
abbrev b_Ar_checkLength : ByteArray := prog_23_method_131_code
def y_Ar_checkLength : MethodName := ⟨"java/util/Arrays", "checkLength", "(II)V"⟩
abbrev b_As_newLength : ByteArray := prog_24_method_27_code
def y_As_newLength : MethodName := ⟨"jdk/internal/util/ArraysSupport", "newLength", "(III)I"⟩
abbrev b_Pr_checkIndex : ByteArray := prog_25_method_11_code
def y_Pr_checkIndex : MethodName := ⟨"jdk/internal/util/Preconditions", "checkIndex", "(IILjava/util/function/BiFunction;)I"⟩
abbrev b_Pr_checkFromToIndex : ByteArray := prog_25_method_12_code
def y_Pr_checkFromToIndex : MethodName := ⟨"jdk/internal/util/Preconditions", "checkFromToIndex", "(IIILjava/util/function/BiFunction;)I"⟩
def w_C0_0 : List Cond := [.initialized "WordSmith", .initialized "java/lang/AbstractStringBuilder", .initialized "java/lang/StringBuilder", .initialized "java/lang/String", .initialized "java/lang/StringUTF16", .initialized "WordSmith$Reader", .initialized "WordSmith$Machine", .initialized "WordSmith$NumberStack", .initialized "WordSmith$Memory", .initialized "WordSmith$Dictionary", .initialized "WordSmith$Call", .initialized "WordSmith$Compiler", .initialized "jdk/internal/util/ArraysSupport", .initialized "java/lang/Math", .initialized "java/util/Arrays", .initialized "java/lang/System", .initialized "java/lang/StringLatin1", .initialized "jdk/internal/util/Preconditions", .initialized "java/lang/Enum", .initialized "WordSmith$BuiltIn", .initialized "WordSmith$1", .initialized "WordSmith$MadeWord", .instantiable "WordSmith" 2, .instanceMethod y_W_init, .code y_W_init b_W_init 1 none, .methodLink "WordSmith" 1 objectInit, .instanceMethod objectInit, .code objectInit ⟨#[0xb1]⟩ 1 none, .classLink "WordSmith" 7 "java/lang/StringBuilder", .instantiable "java/lang/StringBuilder" 4, .methodLink "WordSmith" 9 y_SB_init, .instanceMethod y_SB_init, .code y_SB_init b_SB_init 1 none, .methodLink "java/lang/StringBuilder" 1 y_AB_init, .instanceMethod y_AB_init, .code y_AB_init b_AB_init 2 none, .methodLink "java/lang/AbstractStringBuilder" 3 objectInit, .fieldLink "java/lang/AbstractStringBuilder" 18 "java/lang/String" "COMPACT_STRINGS" "Z", .methodLink "java/lang/AbstractStringBuilder" 26 ⟨"java/lang/StringUTF16", "newBytesFor", "(I)[B"⟩, .static ⟨"java/lang/StringUTF16", "newBytesFor", "(I)[B"⟩, .code ⟨"java/lang/StringUTF16", "newBytesFor", "(I)[B"⟩ prog_21_method_2_code 1 (some (.array .byte)), .methodLink "java/lang/StringUTF16" 11 ⟨"java/lang/StringUTF16", "newBytesLength", "(I)I"⟩, .static ⟨"java/lang/StringUTF16", "newBytesLength", "(I)I"⟩, .code ⟨"java/lang/StringUTF16", "newBytesLength", "(I)I"⟩ prog_21_method_3_code 1 (some .int), .constant "java/lang/StringUTF16" 20 1073741823, .fieldLink "java/lang/AbstractStringBuilder" 15 "java/lang/AbstractStringBuilder" "value" "[B", .fieldLink "java/lang/AbstractStringBuilder" 22 "java/lang/AbstractStringBuilder" "coder" "B", .fieldLink "java/lang/AbstractStringBuilder" 73 "java/lang/AbstractStringBuilder" "maybeLatin1" "Z", .fieldLink "java/lang/String" 1048 "java/lang/AbstractStringBuilder" "maybeLatin1" "Z", .fieldLink "java/lang/AbstractStringBuilder" 79 "java/lang/AbstractStringBuilder" "count" "I", .superclass "java/lang/StringBuilder" "java/lang/AbstractStringBuilder", .arrayClass .byte, .classLink "WordSmith" 16 "WordSmith$Reader", .instantiable "WordSmith$Reader" 6, .instanceMethod y_Rd_init, .code y_Rd_init b_Rd_init 1 none, .methodLink "WordSmith$Reader" 3 objectInit, .classLink "WordSmith$Reader" 9 "WordSmith$Machine", .instantiable "WordSmith$Machine" 9, .methodLink "WordSmith$Reader" 11 y_Ma_init, .instanceMethod y_Ma_init, .code y_Ma_init b_Ma_init 2 none, .methodLink "WordSmith$Machine" 3 objectInit, .classLink "WordSmith$Machine" 9 "WordSmith$NumberStack", .instantiable "WordSmith$NumberStack" 2, .instanceMethod y_N_init, .code y_N_init b_N_init 1 none, .methodLink "WordSmith$NumberStack" 3 objectInit, .fieldLink "WordSmith$NumberStack" 9 "WordSmith$NumberStack" "numbers" "[I", .fieldLink "WordSmith$NumberStack" 15 "WordSmith$NumberStack" "size" "I", .superclass "WordSmith$NumberStack" "java/lang/Object", .arrayClass .int, .classLink "WordSmith$Machine" 21 "WordSmith$Memory", .instantiable "WordSmith$Memory" 6, .instanceMethod y_Me_init, .code y_Me_init b_Me_init 1 none, .methodLink "WordSmith$Memory" 3 objectInit, .classLink "WordSmith$Memory" 15 "[[I", .fieldLink "WordSmith$Memory" 9 "WordSmith$Memory" "cells" "[I", .fieldLink "WordSmith$Memory" 35 "WordSmith$Memory" "here" "I", .fieldLink "WordSmith$Memory" 17 "WordSmith$Memory" "blocks" "[[I", .fieldLink "WordSmith$Memory" 20 "WordSmith$Memory" "blockIn" "[I", .fieldLink "WordSmith$Memory" 23 "WordSmith$Memory" "updated" "[Z", .fieldLink "WordSmith$Memory" 27 "WordSmith$Memory" "told" "I", .superclass "WordSmith$Memory" "java/lang/Object", .arrayClass .boolean, .classLink "WordSmith$Machine" 28 "WordSmith$Dictionary", .instantiable "WordSmith$Dictionary" 2, .instanceMethod y_Di_init, .code y_Di_init b_Di_init 1 none, .methodLink "WordSmith$Dictionary" 3 objectInit, .classLink "WordSmith$Dictionary" 9 "WordSmith$MadeWord", .fieldLink "WordSmith$Dictionary" 11 "WordSmith$Dictionary" "words" "[LWordSmith$MadeWord;", .fieldLink "WordSmith$Dictionary" 17 "WordSmith$Dictionary" "made" "I", .superclass "WordSmith$Dictionary" "java/lang/Object", .classLink "WordSmith$Machine" 35 "WordSmith$Call", .instantiable "WordSmith$Call" 5, .instanceMethod y_Ca_init, .code y_Ca_init b_Ca_init 1 none, .methodLink "WordSmith$Call" 3 objectInit]
def w_C0_1 : List Cond := [.fieldLink "WordSmith$Call" 18 "WordSmith$Call" "word" "LWordSmith$MadeWord;", .fieldLink "WordSmith$Call" 22 "WordSmith$Call" "next" "I", .fieldLink "WordSmith$Call" 9 "WordSmith$Call" "limits" "[I", .fieldLink "WordSmith$Call" 15 "WordSmith$Call" "counts" "[I", .fieldLink "WordSmith$Call" 26 "WordSmith$Call" "loops" "I", .superclass "WordSmith$Call" "java/lang/Object", .fieldLink "WordSmith$Machine" 12 "WordSmith$Machine" "data" "LWordSmith$NumberStack;", .fieldLink "WordSmith$Machine" 18 "WordSmith$Machine" "returns" "LWordSmith$NumberStack;", .fieldLink "WordSmith$Machine" 24 "WordSmith$Machine" "memory" "LWordSmith$Memory;", .fieldLink "WordSmith$Machine" 31 "WordSmith$Machine" "dictionary" "LWordSmith$Dictionary;", .fieldLink "WordSmith$Machine" 37 "WordSmith$Machine" "calls" "[LWordSmith$Call;", .fieldLink "WordSmith$Machine" 53 "WordSmith$Machine" "depth" "I", .fieldLink "WordSmith$Machine" 41 "WordSmith$Machine" "output" "[I", .fieldLink "WordSmith$Machine" 240 "WordSmith$Machine" "putOut" "I", .fieldLink "WordSmith$Machine" 46 "WordSmith$Machine" "fuel" "I", .superclass "WordSmith$Machine" "java/lang/Object", .classLink "WordSmith$Reader" 18 "WordSmith$Compiler", .instantiable "WordSmith$Compiler" 4, .instanceMethod y_Co_init, .code y_Co_init b_Co_init 1 none, .methodLink "WordSmith$Compiler" 3 objectInit, .classLink "WordSmith$Compiler" 9 "WordSmith$BuiltIn", .fieldLink "WordSmith$Compiler" 21 "WordSmith$Compiler" "draft" "LWordSmith$MadeWord;", .fieldLink "WordSmith$Compiler" 11 "WordSmith$Compiler" "openers" "[LWordSmith$BuiltIn;", .fieldLink "WordSmith$Compiler" 17 "WordSmith$Compiler" "places" "[I", .fieldLink "WordSmith$Compiler" 30 "WordSmith$Compiler" "open" "I", .superclass "WordSmith$Compiler" "java/lang/Object", .fieldLink "WordSmith$Reader" 12 "WordSmith$Reader" "machine" "LWordSmith$Machine;", .fieldLink "WordSmith$Reader" 21 "WordSmith$Reader" "compiler" "LWordSmith$Compiler;", .fieldLink "WordSmith$Reader" 27 "WordSmith$Reader" "text" "Ljava/lang/String;", .fieldLink "WordSmith$Reader" 34 "WordSmith$Reader" "at" "I", .fieldLink "WordSmith$Reader" 44 "WordSmith$Reader" "place" "I", .fieldLink "WordSmith$Reader" 31 "WordSmith$Reader" "token" "Ljava/lang/String;", .superclass "WordSmith$Reader" "java/lang/Object", .fieldLink "WordSmith" 10 "WordSmith" "typed" "Ljava/lang/StringBuilder;", .fieldLink "WordSmith" 19 "WordSmith" "reader" "LWordSmith$Reader;", .superclass "WordSmith" "java/lang/Object", .instanceMethod y_W_type, .selects "WordSmith" y_W_type y_W_type, .code y_W_type b_W_type 5 (some .boolean), .methodLink "WordSmith" 23 y_SB_length, .instanceMethod y_SB_length, .selects "java/lang/StringBuilder" y_SB_length y_SB_length, .code y_SB_length b_SB_length 1 (some .int), .methodLink "java/lang/StringBuilder" 343 y_AB_length, .instanceMethod y_AB_length, .code y_AB_length b_AB_length 1 (some .int), .methodLink "WordSmith" 27 y_W_byteOf, .static y_W_byteOf, .code y_W_byteOf b_W_byteOf 2 (some .int), .methodLink "WordSmith" 31 y_SB_append, .instanceMethod y_SB_append, .selects "java/lang/StringBuilder" y_SB_append y_SB_append, .code y_SB_append b_SB_append 2 (some (.object "java/lang/StringBuilder")), .methodLink "java/lang/StringBuilder" 50 y_AB_append, .instanceMethod y_AB_append, .code y_AB_append b_AB_append 2 (some (.object "java/lang/AbstractStringBuilder")), .methodLink "java/lang/AbstractStringBuilder" 100 y_AB_ensureCapacityInternal, .instanceMethod y_AB_ensureCapacityInternal, .code y_AB_ensureCapacityInternal b_AB_ensureCapacityInternal 3 none, .methodLink "java/lang/AbstractStringBuilder" 104 y_AB_newCapacity, .instanceMethod y_AB_newCapacity, .code y_AB_newCapacity b_AB_newCapacity 6 (some .int), .methodLink "java/lang/AbstractStringBuilder" 114 y_As_newLength, .static y_As_newLength, .code y_As_newLength b_As_newLength 4 (some .int), .methodLink "jdk/internal/util/ArraysSupport" 194 Lib.Math.max.name, .static Lib.Math.max.name, .code Lib.Math.max.name Lib.Math.max.code 2 (some .int), .constant "jdk/internal/util/ArraysSupport" 200 2147483639, .methodLink "jdk/internal/util/ArraysSupport" 201 ⟨"jdk/internal/util/ArraysSupport", "hugeLength", "(II)I"⟩, .static ⟨"jdk/internal/util/ArraysSupport", "hugeLength", "(II)I"⟩, .code ⟨"jdk/internal/util/ArraysSupport", "hugeLength", "(II)I"⟩ prog_24_method_28_code 3 (some .int), .constant "java/lang/AbstractStringBuilder" 39 2147483647, .methodLink "java/lang/AbstractStringBuilder" 108 y_Ar_copyOf, .static y_Ar_copyOf, .code y_Ar_copyOf b_Ar_copyOf 3 (some (.array .byte)), .methodLink "java/util/Arrays" 310 ⟨"[B", "clone", "()Ljava/lang/Object;"⟩, .sameMethod "[B" "java/lang/Object" "clone" "()Ljava/lang/Object;", .native ⟨"java/lang/Object", "clone", "()Ljava/lang/Object;"⟩, .instanceMethod ⟨"java/lang/Object", "clone", "()Ljava/lang/Object;"⟩, .selects "[B" ⟨"[B", "clone", "()Ljava/lang/Object;"⟩ ⟨"java/lang/Object", "clone", "()Ljava/lang/Object;"⟩, .classLink "java/util/Arrays" 311 "[B", .methodLink "java/util/Arrays" 304 Lib.Math.min.name, .static Lib.Math.min.name, .code Lib.Math.min.name Lib.Math.min.code 2 (some .int), .methodLink "java/util/Arrays" 150 arraycopyName, .static arraycopyName, .native arraycopyName, .methodLink "java/lang/AbstractStringBuilder" 83 y_AB_isLatin1, .instanceMethod y_AB_isLatin1, .sameMethod "java/lang/AbstractStringBuilder" "java/lang/AbstractStringBuilder" "isLatin1" "()Z", .selects "java/lang/StringBuilder" y_AB_isLatin1 y_AB_isLatin1, .code y_AB_isLatin1 b_AB_isLatin1 1 (some .boolean), .methodLink "java/lang/AbstractStringBuilder" 191 y_La_canEncode, .static y_La_canEncode, .code y_La_canEncode b_La_canEncode 1 (some .boolean), .methodLink "java/lang/AbstractStringBuilder" 195 ⟨"java/lang/AbstractStringBuilder", "inflate", "()V"⟩, .instanceMethod ⟨"java/lang/AbstractStringBuilder", "inflate", "()V"⟩, .code ⟨"java/lang/AbstractStringBuilder", "inflate", "()V"⟩ prog_14_method_11_code 2 none]
def w_C0_2 : List Cond := [.methodLink "java/lang/AbstractStringBuilder" 125 ⟨"java/lang/StringLatin1", "inflate", "([BI[BII)V"⟩, .static ⟨"java/lang/StringLatin1", "inflate", "([BI[BII)V"⟩, .code ⟨"java/lang/StringLatin1", "inflate", "([BI[BII)V"⟩ prog_20_method_50_code 5 none, .methodLink "java/lang/StringLatin1" 240 ⟨"java/lang/StringUTF16", "inflate", "([BI[BII)V"⟩, .static ⟨"java/lang/StringUTF16", "inflate", "([BI[BII)V"⟩, .code ⟨"java/lang/StringUTF16", "inflate", "([BI[BII)V"⟩ prog_21_method_86_code 6 none, .methodLink "java/lang/StringUTF16" 173 ⟨"java/lang/StringUTF16", "checkBoundsOffCount", "(II[B)V"⟩, .static ⟨"java/lang/StringUTF16", "checkBoundsOffCount", "(II[B)V"⟩, .code ⟨"java/lang/StringUTF16", "checkBoundsOffCount", "(II[B)V"⟩ prog_21_method_94_code 3 none, .methodLink "java/lang/StringUTF16" 48 ⟨"java/lang/StringUTF16", "length", "([B)I"⟩, .static ⟨"java/lang/StringUTF16", "length", "([B)I"⟩, .code ⟨"java/lang/StringUTF16", "length", "([B)I"⟩ prog_21_method_6_code 1 (some .int), .methodLink "java/lang/StringUTF16" 419 ⟨"java/lang/String", "checkBoundsOffCount", "(III)I"⟩, .static ⟨"java/lang/String", "checkBoundsOffCount", "(III)I"⟩, .code ⟨"java/lang/String", "checkBoundsOffCount", "(III)I"⟩ prog_18_method_157_code 3 (some .int), .fieldLink "java/lang/String" 1053 "jdk/internal/util/Preconditions" "SIOOBE_FORMATTER" "Ljava/util/function/BiFunction;", .methodLink "java/lang/String" 1065 ⟨"jdk/internal/util/Preconditions", "checkFromIndexSize", "(IIILjava/util/function/BiFunction;)I"⟩, .static ⟨"jdk/internal/util/Preconditions", "checkFromIndexSize", "(IIILjava/util/function/BiFunction;)I"⟩, .code ⟨"jdk/internal/util/Preconditions", "checkFromIndexSize", "(IIILjava/util/function/BiFunction;)I"⟩ prog_25_method_13_code 4 (some .int), .methodLink "java/lang/StringUTF16" 111 ⟨"java/lang/StringUTF16", "putChar", "([BII)V"⟩, .static ⟨"java/lang/StringUTF16", "putChar", "([BII)V"⟩, .code ⟨"java/lang/StringUTF16", "putChar", "([BII)V"⟩ prog_21_method_4_code 3 none, .fieldLink "java/lang/StringUTF16" 44 "java/lang/StringUTF16" "$assertionsDisabled" "Z", .fieldLink "java/lang/StringUTF16" 59 "java/lang/StringUTF16" "HI_BYTE_SHIFT" "I", .fieldLink "java/lang/StringUTF16" 63 "java/lang/StringUTF16" "LO_BYTE_SHIFT" "I", .methodLink "java/lang/AbstractStringBuilder" 197 ⟨"java/lang/StringUTF16", "putCharSB", "([BII)V"⟩, .static ⟨"java/lang/StringUTF16", "putCharSB", "([BII)V"⟩, .code ⟨"java/lang/StringUTF16", "putCharSB", "([BII)V"⟩ prog_21_method_71_code 3 none, .methodLink "java/lang/StringUTF16" 67 ⟨"java/lang/StringUTF16", "checkIndex", "(I[B)V"⟩, .static ⟨"java/lang/StringUTF16", "checkIndex", "(I[B)V"⟩, .code ⟨"java/lang/StringUTF16", "checkIndex", "(I[B)V"⟩ prog_21_method_91_code 2 none, .methodLink "java/lang/StringUTF16" 414 y_St_checkIndex, .static y_St_checkIndex, .code y_St_checkIndex b_St_checkIndex 2 none, .methodLink "java/lang/String" 1059 y_Pr_checkIndex, .static y_Pr_checkIndex, .code y_Pr_checkIndex b_Pr_checkIndex 3 (some .int), .instanceMethod y_W_run, .selects "WordSmith" y_W_run y_W_run, .code y_W_run b_W_run 3 (some .int), .methodLink "WordSmith" 35 y_SB_toString, .instanceMethod y_SB_toString, .selects "java/lang/StringBuilder" y_SB_toString y_SB_toString, .code y_SB_toString b_SB_toString 1 (some (.object "java/lang/String")), .classLink "java/lang/StringBuilder" 18 "java/lang/String", .instantiable "java/lang/String" 4, .methodLink "java/lang/StringBuilder" 137 y_St_initS, .instanceMethod y_St_initS, .code y_St_initS b_St_initS 2 none, .methodLink "java/lang/String" 489 y_St_initA, .instanceMethod y_St_initA, .code y_St_initA b_St_initA 5 none, .methodLink "java/lang/String" 1 objectInit, .methodLink "java/lang/String" 552 y_AB_getValue, .instanceMethod y_AB_getValue, .sameMethod "java/lang/AbstractStringBuilder" "java/lang/AbstractStringBuilder" "getValue" "()[B", .selects "java/lang/StringBuilder" y_AB_getValue y_AB_getValue, .code y_AB_getValue b_AB_getValue 1 (some (.array .byte)), .methodLink "java/lang/String" 549 y_AB_length, .methodLink "java/lang/String" 1047 y_AB_isLatin1, .methodLink "java/lang/String" 54 y_Ar_copyOfRange, .static y_Ar_copyOfRange, .code y_Ar_copyOfRange b_Ar_copyOfRange 3 (some (.array .byte)), .methodLink "java/util/Arrays" 339 y_Ar_copyOfRangeByte, .static y_Ar_copyOfRangeByte, .code y_Ar_copyOfRangeByte b_Ar_copyOfRangeByte 5 (some (.array .byte)), .methodLink "java/util/Arrays" 343 y_Ar_checkLength, .static y_Ar_checkLength, .code y_Ar_checkLength b_Ar_checkLength 2 none, .fieldLink "java/lang/String" 38 "java/lang/String" "COMPACT_STRINGS" "Z", .methodLink "java/lang/String" 1051 ⟨"java/lang/StringUTF16", "compress", "([BII)[B"⟩, .static ⟨"java/lang/StringUTF16", "compress", "([BII)[B"⟩, .code ⟨"java/lang/StringUTF16", "compress", "([BII)[B"⟩ prog_21_method_17_code 6 (some (.array .byte)), .methodLink "java/lang/StringUTF16" 123 ⟨"java/lang/StringUTF16", "compress", "([BI[BII)I"⟩, .static ⟨"java/lang/StringUTF16", "compress", "([BI[BII)I"⟩, .code ⟨"java/lang/StringUTF16", "compress", "([BI[BII)I"⟩ prog_21_method_22_code 7 (some .int), .methodLink "java/lang/StringUTF16" 71 ⟨"java/lang/StringUTF16", "getChar", "([BI)C"⟩, .static ⟨"java/lang/StringUTF16", "getChar", "([BI)C"⟩, .code ⟨"java/lang/StringUTF16", "getChar", "([BI)C"⟩ prog_21_method_5_code 2 (some .char), .methodLink "java/lang/StringUTF16" 126 y_Ar_copyOfRange, .methodLink "java/lang/String" 47 ⟨"java/lang/StringUTF16", "coderFromArrayLen", "([BI)B"⟩, .static ⟨"java/lang/StringUTF16", "coderFromArrayLen", "([BI)B"⟩, .code ⟨"java/lang/StringUTF16", "coderFromArrayLen", "([BI)B"⟩ prog_21_method_15_code 2 (some .byte), .fieldLink "java/lang/String" 9 "java/lang/String" "value" "[B", .fieldLink "java/lang/String" 15 "java/lang/String" "coder" "B", .superclass "java/lang/String" "java/lang/Object", .methodLink "WordSmith" 39 y_Rd_take, .instanceMethod y_Rd_take, .selects "WordSmith$Reader" y_Rd_take y_Rd_take, .code y_Rd_take b_Rd_take 2 none, .methodLink "WordSmith$Reader" 38 y_Ma_refuel, .instanceMethod y_Ma_refuel, .selects "WordSmith$Machine" y_Ma_refuel y_Ma_refuel, .code y_Ma_refuel b_Ma_refuel 1 none, .methodLink "WordSmith" 43 y_SB_setLength, .instanceMethod y_SB_setLength, .selects "java/lang/StringBuilder" y_SB_setLength y_SB_setLength, .code y_SB_setLength b_SB_setLength 2 none, .methodLink "java/lang/StringBuilder" 333 y_AB_setLength, .instanceMethod y_AB_setLength]
def w_C0_3 : List Cond := [.code y_AB_setLength b_AB_setLength 2 none, .methodLink "java/lang/AbstractStringBuilder" 133 ⟨"java/lang/StringLatin1", "fillNull", "([BII)V"⟩, .static ⟨"java/lang/StringLatin1", "fillNull", "([BII)V"⟩, .code ⟨"java/lang/StringLatin1", "fillNull", "([BII)V"⟩ prog_20_method_48_code 3 none, .methodLink "java/lang/StringLatin1" 236 ⟨"java/util/Arrays", "fill", "([BIIB)V"⟩, .static ⟨"java/util/Arrays", "fill", "([BIIB)V"⟩, .code ⟨"java/util/Arrays", "fill", "([BIIB)V"⟩ prog_23_method_110_code 5 none, .methodLink "java/util/Arrays" 13 ⟨"java/util/Arrays", "rangeCheck", "(III)V"⟩, .static ⟨"java/util/Arrays", "rangeCheck", "(III)V"⟩, .code ⟨"java/util/Arrays", "rangeCheck", "(III)V"⟩ prog_23_method_30_code 3 none, .methodLink "java/lang/AbstractStringBuilder" 137 ⟨"java/lang/StringUTF16", "fillNull", "([BII)V"⟩, .static ⟨"java/lang/StringUTF16", "fillNull", "([BII)V"⟩, .code ⟨"java/lang/StringUTF16", "fillNull", "([BII)V"⟩ prog_21_method_70_code 3 none, .methodLink "java/lang/StringUTF16" 380 ⟨"java/util/Arrays", "fill", "([BIIB)V"⟩, .methodLink "WordSmith" 47 y_Rd_advance, .instanceMethod y_Rd_advance, .selects "WordSmith$Reader" y_Rd_advance y_Rd_advance, .code y_Rd_advance b_Rd_advance 1 (some .boolean), .methodLink "WordSmith$Reader" 41 y_Rd_skipSpaces, .instanceMethod y_Rd_skipSpaces, .code y_Rd_skipSpaces b_Rd_skipSpaces 1 none, .methodLink "WordSmith$Reader" 57 y_St_length, .instanceMethod y_St_length, .selects "java/lang/String" y_St_length y_St_length, .code y_St_length b_St_length 1 (some .int), .methodLink "java/lang/String" 335 y_St_coder, .instanceMethod y_St_coder, .selects "java/lang/String" y_St_coder y_St_coder, .code y_St_coder b_St_coder 1 (some .byte), .methodLink "WordSmith$Reader" 61 y_St_charAt, .instanceMethod y_St_charAt, .selects "java/lang/String" y_St_charAt y_St_charAt, .code y_St_charAt b_St_charAt 2 (some .char), .methodLink "java/lang/String" 492 y_St_isLatin1, .instanceMethod y_St_isLatin1, .selects "java/lang/String" y_St_isLatin1 y_St_isLatin1, .code y_St_isLatin1 b_St_isLatin1 1 (some .boolean), .methodLink "java/lang/String" 495 y_La_charAt, .static y_La_charAt, .code y_La_charAt b_La_charAt 2 (some .char), .methodLink "java/lang/StringLatin1" 9 y_St_checkIndex, .methodLink "java/lang/String" 498 ⟨"java/lang/StringUTF16", "charAt", "([BI)C"⟩, .static ⟨"java/lang/StringUTF16", "charAt", "([BI)C"⟩, .code ⟨"java/lang/StringUTF16", "charAt", "([BI)C"⟩ prog_21_method_83_code 2 (some .char), .methodLink "WordSmith$Reader" 47 y_Rd_cutToken, .instanceMethod y_Rd_cutToken, .code y_Rd_cutToken b_Rd_cutToken 2 (some (.object "java/lang/String")), .methodLink "WordSmith$Reader" 65 y_St_substring, .instanceMethod y_St_substring, .selects "java/lang/String" y_St_substring y_St_substring, .code y_St_substring b_St_substring 5 (some (.object "java/lang/String")), .methodLink "java/lang/String" 505 y_St_length, .methodLink "java/lang/String" 521 y_St_checkBoundsBeginEnd, .static y_St_checkBoundsBeginEnd, .code y_St_checkBoundsBeginEnd b_St_checkBoundsBeginEnd 3 none, .methodLink "java/lang/String" 1062 y_Pr_checkFromToIndex, .static y_Pr_checkFromToIndex, .code y_Pr_checkFromToIndex b_Pr_checkFromToIndex 4 (some .int), .methodLink "java/lang/String" 685 y_La_newString, .static y_La_newString, .code y_La_newString b_La_newString 3 (some (.object "java/lang/String")), .classLink "java/lang/StringLatin1" 1 "java/lang/String", .methodLink "java/lang/StringLatin1" 232 y_Ar_copyOfRange, .methodLink "java/lang/StringLatin1" 112 y_St_init, .instanceMethod y_St_init, .code y_St_init b_St_init 3 none, .methodLink "java/lang/String" 689 ⟨"java/lang/StringUTF16", "newString", "([BII)Ljava/lang/String;"⟩, .static ⟨"java/lang/StringUTF16", "newString", "([BII)Ljava/lang/String;"⟩, .code ⟨"java/lang/StringUTF16", "newString", "([BII)Ljava/lang/String;"⟩ prog_21_method_69_code 5 (some (.object "java/lang/String")), .fieldLink "java/lang/StringUTF16" 251 "java/lang/String" "COMPACT_STRINGS" "Z", .methodLink "java/lang/StringUTF16" 257 ⟨"java/lang/StringUTF16", "compress", "([BII)[B"⟩, .methodLink "java/lang/StringUTF16" 259 ⟨"java/lang/StringUTF16", "coderFromArrayLen", "([BI)B"⟩, .classLink "java/lang/StringUTF16" 3 "java/lang/String", .methodLink "java/lang/StringUTF16" 263 y_St_init, .methodLink "WordSmith$Reader" 51 y_St_isEmpty, .instanceMethod y_St_isEmpty, .selects "java/lang/String" y_St_isEmpty y_St_isEmpty, .code y_St_isEmpty b_St_isEmpty 1 (some .boolean), .methodLink "WordSmith" 51 y_Rd_readToken, .instanceMethod y_Rd_readToken, .selects "WordSmith$Reader" y_Rd_readToken y_Rd_readToken, .code y_Rd_readToken b_Rd_readToken 3 (some .int), .methodLink "WordSmith$Reader" 76 y_Ma_burn, .instanceMethod y_Ma_burn, .selects "WordSmith$Machine" y_Ma_burn y_Ma_burn, .code y_Ma_burn b_Ma_burn 1 (some .boolean), .methodLink "WordSmith$Reader" 79 y_Rd_isNumber, .static y_Rd_isNumber, .code y_Rd_isNumber b_Rd_isNumber 4 (some .boolean), .methodLink "WordSmith$Reader" 83 y_Rd_numberOf, .static y_Rd_numberOf, .code y_Rd_numberOf b_Rd_numberOf 4 (some .int), .methodLink "WordSmith$Reader" 87 y_Rd_readNumber, .instanceMethod y_Rd_readNumber, .code y_Rd_readNumber b_Rd_readNumber 2 (some .int), .methodLink "WordSmith$Reader" 122 y_Co_isCompiling, .instanceMethod y_Co_isCompiling, .selects "WordSmith$Compiler" y_Co_isCompiling y_Co_isCompiling, .code y_Co_isCompiling b_Co_isCompiling 1 (some .boolean), .methodLink "WordSmith$Reader" 127 y_Co_addItem]
def w_C0_4 : List Cond := [.instanceMethod y_Co_addItem, .selects "WordSmith$Compiler" y_Co_addItem y_Co_addItem, .code y_Co_addItem b_Co_addItem 3 (some .int), .methodLink "WordSmith$Compiler" 34 y_Mw_isFull, .instanceMethod y_Mw_isFull, .selects "WordSmith$MadeWord" y_Mw_isFull y_Mw_isFull, .code y_Mw_isFull b_Mw_isFull 1 (some .boolean), .methodLink "WordSmith$Compiler" 38 y_Mw_add, .instanceMethod y_Mw_add, .selects "WordSmith$MadeWord" y_Mw_add y_Mw_add, .code y_Mw_add b_Mw_add 3 none, .methodLink "WordSmith$Reader" 134 y_Ma_putNumber, .instanceMethod y_Ma_putNumber, .selects "WordSmith$Machine" y_Ma_putNumber y_Ma_putNumber, .code y_Ma_putNumber b_Ma_putNumber 2 (some .int), .methodLink "WordSmith$Machine" 56 y_N_isFull, .instanceMethod y_N_isFull, .selects "WordSmith$NumberStack" y_N_isFull y_N_isFull, .code y_N_isFull b_N_isFull 1 (some .boolean), .methodLink "WordSmith$Machine" 60 y_N_push, .instanceMethod y_N_push, .selects "WordSmith$NumberStack" y_N_push y_N_push, .code y_N_push b_N_push 2 none, .methodLink "WordSmith$Reader" 91 y_Rd_isName, .static y_Rd_isName, .code y_Rd_isName b_Rd_isName 1 (some .boolean), .methodLink "WordSmith$Reader" 98 y_Di_find, .instanceMethod y_Di_find, .selects "WordSmith$Dictionary" y_Di_find y_Di_find, .code y_Di_find b_Di_find 4 (some .int), .methodLink "WordSmith$Dictionary" 25 y_St_equals, .instanceMethod y_St_equals, .selects "java/lang/String" y_St_equals y_St_equals, .code y_St_equals b_St_equals 3 (some .boolean), .classLink "java/lang/String" 10 "java/lang/String", .methodLink "java/lang/String" 541 y_La_equals, .static y_La_equals, .code y_La_equals b_La_equals 3 (some .boolean), .methodLink "WordSmith$Dictionary" 31 y_Bi_find, .static y_Bi_find, .code y_Bi_find b_Bi_find 2 (some .int), .fieldLink "WordSmith$BuiltIn" 198 "WordSmith$BuiltIn" "ALL" "[LWordSmith$BuiltIn;", .methodLink "WordSmith$BuiltIn" 201 y_St_equals, .methodLink "WordSmith$Reader" 103 y_Bi_numbered, .static y_Bi_numbered, .code y_Bi_numbered b_Bi_numbered 1 (some (.object "WordSmith$BuiltIn")), .methodLink "WordSmith$Reader" 109 y_Bi_isDefining, .instanceMethod y_Bi_isDefining, .selects "WordSmith$BuiltIn" y_Bi_isDefining y_Bi_isDefining, .code y_Bi_isDefining b_Bi_isDefining 1 (some .boolean), .fieldLink "WordSmith$BuiltIn" 102 "WordSmith$BuiltIn" "TICK" "LWordSmith$BuiltIn;", .fieldLink "WordSmith$BuiltIn" 114 "WordSmith$BuiltIn" "IMMEDIATE" "LWordSmith$BuiltIn;", .methodLink "WordSmith$Reader" 112 y_Rd_define, .instanceMethod y_Rd_define, .code y_Rd_define b_Rd_define 3 (some .int), .fieldLink "WordSmith$Reader" 157 "WordSmith$BuiltIn" "IMMEDIATE" "LWordSmith$BuiltIn;", .methodLink "WordSmith$Reader" 160 y_Rd_makeImmediate, .instanceMethod y_Rd_makeImmediate, .code y_Rd_makeImmediate b_Rd_makeImmediate 2 (some .int), .methodLink "WordSmith$Reader" 151 y_Di_nextNumber, .instanceMethod y_Di_nextNumber, .selects "WordSmith$Dictionary" y_Di_nextNumber y_Di_nextNumber, .code y_Di_nextNumber b_Di_nextNumber 1 (some .int), .methodLink "WordSmith$Reader" 173 y_Di_word, .instanceMethod y_Di_word, .selects "WordSmith$Dictionary" y_Di_word y_Di_word, .code y_Di_word b_Di_word 3 (some (.object "WordSmith$MadeWord")), .fieldLink "WordSmith$Reader" 163 "WordSmith$BuiltIn" "TICK" "LWordSmith$BuiltIn;", .methodLink "WordSmith$Reader" 166 y_Rd_putNumberOfWord, .instanceMethod y_Rd_putNumberOfWord, .code y_Rd_putNumberOfWord b_Rd_putNumberOfWord 3 (some .int), .methodLink "WordSmith$Reader" 169 y_Rd_makeWord, .instanceMethod y_Rd_makeWord, .code y_Rd_makeWord b_Rd_makeWord 4 (some .int), .methodLink "WordSmith$Reader" 199 y_Di_isFull, .instanceMethod y_Di_isFull, .selects "WordSmith$Dictionary" y_Di_isFull y_Di_isFull, .code y_Di_isFull b_Di_isFull 1 (some .boolean), .fieldLink "WordSmith$Reader" 202 "WordSmith$1" "$SwitchMap$WordSmith$BuiltIn" "[I", .methodLink "WordSmith$Reader" 208 ⟨"WordSmith$BuiltIn", "ordinal", "()I"⟩, .sameMethod "WordSmith$BuiltIn" "java/lang/Enum" "ordinal" "()I", .selects "WordSmith$BuiltIn" ⟨"WordSmith$BuiltIn", "ordinal", "()I"⟩ y_En_ordinal, .instanceMethod y_En_ordinal, .code y_En_ordinal b_En_ordinal 1 (some .int), .methodLink "WordSmith$Reader" 211 y_Me_canGrow, .instanceMethod y_Me_canGrow, .selects "WordSmith$Memory" y_Me_canGrow y_Me_canGrow, .code y_Me_canGrow b_Me_canGrow 4 (some .boolean), .constantLong "WordSmith$Memory" 38 64, .methodLink "WordSmith$Reader" 219 y_Rd_makeNumberWord, .instanceMethod y_Rd_makeNumberWord, .code y_Rd_makeNumberWord b_Rd_makeNumberWord 4 none, .classLink "WordSmith$Reader" 178 "WordSmith$MadeWord", .instantiable "WordSmith$MadeWord" 5, .methodLink "WordSmith$Reader" 234 y_Mw_init, .instanceMethod y_Mw_init, .code y_Mw_init b_Mw_init 2 none, .methodLink "WordSmith$MadeWord" 3 objectInit, .fieldLink "WordSmith$MadeWord" 18 "WordSmith$MadeWord" "name" "Ljava/lang/String;", .fieldLink "WordSmith$MadeWord" 9 "WordSmith$MadeWord" "kinds" "[I"]
def w_C0_5 : List Cond := [.fieldLink "WordSmith$MadeWord" 15 "WordSmith$MadeWord" "values" "[I", .fieldLink "WordSmith$MadeWord" 22 "WordSmith$MadeWord" "size" "I", .superclass "WordSmith$MadeWord" "java/lang/Object", .methodLink "WordSmith$Reader" 236 y_Mw_add, .methodLink "WordSmith$Reader" 144 y_Di_add, .instanceMethod y_Di_add, .selects "WordSmith$Dictionary" y_Di_add y_Di_add, .code y_Di_add b_Di_add 2 none, .methodLink "WordSmith$Reader" 223 y_Me_append, .instanceMethod y_Me_append, .selects "WordSmith$Memory" y_Me_append y_Me_append, .code y_Me_append b_Me_append 2 none, .methodLink "WordSmith$Memory" 40 y_Me_canGrow, .methodLink "WordSmith$Reader" 227 y_N_pop, .instanceMethod y_N_pop, .selects "WordSmith$NumberStack" y_N_pop y_N_pop, .code y_N_pop b_N_pop 1 (some .int), .methodLink "WordSmith$Reader" 230 y_Co_begin, .instanceMethod y_Co_begin, .selects "WordSmith$Compiler" y_Co_begin y_Co_begin, .code y_Co_begin b_Co_begin 2 none, .classLink "WordSmith$Compiler" 25 "WordSmith$MadeWord", .methodLink "WordSmith$Compiler" 27 y_Mw_init, .methodLink "WordSmith$Reader" 116 y_Bi_isCompiling, .instanceMethod y_Bi_isCompiling, .selects "WordSmith$BuiltIn" y_Bi_isCompiling y_Bi_isCompiling, .code y_Bi_isCompiling b_Bi_isCompiling 1 (some .boolean), .fieldLink "WordSmith$BuiltIn" 126 "WordSmith$BuiltIn" "SEMICOLON" "LWordSmith$BuiltIn;", .methodLink "WordSmith$Reader" 119 y_Rd_compile, .instanceMethod y_Rd_compile, .code y_Rd_compile b_Rd_compile 3 (some .int), .methodLink "WordSmith$Reader" 137 y_Co_lack, .instanceMethod y_Co_lack, .selects "WordSmith$Compiler" y_Co_lack y_Co_lack, .code y_Co_lack b_Co_lack 2 (some .int), .methodLink "WordSmith$Compiler" 42 y_Co_fits, .instanceMethod y_Co_fits, .code y_Co_fits b_Co_fits 3 (some .boolean), .fieldLink "WordSmith$Compiler" 52 "WordSmith$1" "$SwitchMap$WordSmith$BuiltIn" "[I", .methodLink "WordSmith$Compiler" 57 ⟨"WordSmith$BuiltIn", "ordinal", "()I"⟩, .fieldLink "WordSmith$Compiler" 61 "WordSmith$BuiltIn" "IF" "LWordSmith$BuiltIn;", .fieldLink "WordSmith$Compiler" 65 "WordSmith$BuiltIn" "ELSE" "LWordSmith$BuiltIn;", .fieldLink "WordSmith$Compiler" 68 "WordSmith$BuiltIn" "BEGIN" "LWordSmith$BuiltIn;", .fieldLink "WordSmith$Compiler" 71 "WordSmith$BuiltIn" "WHILE" "LWordSmith$BuiltIn;", .fieldLink "WordSmith$Compiler" 74 "WordSmith$BuiltIn" "DO" "LWordSmith$BuiltIn;", .methodLink "WordSmith$Compiler" 46 y_Co_opensOne, .static y_Co_opensOne, .code y_Co_opensOne b_Co_opensOne 1 (some .boolean), .methodLink "WordSmith$Compiler" 49 y_Co_isItem, .static y_Co_isItem, .code y_Co_isItem b_Co_isItem 1 (some .boolean), .fieldLink "WordSmith$Compiler" 77 "WordSmith$BuiltIn" "THEN" "LWordSmith$BuiltIn;", .fieldLink "WordSmith$Compiler" 80 "WordSmith$BuiltIn" "SEMICOLON" "LWordSmith$BuiltIn;", .fieldLink "WordSmith$Reader" 140 "WordSmith$BuiltIn" "SEMICOLON" "LWordSmith$BuiltIn;", .methodLink "WordSmith$Reader" 72 y_Co_end, .instanceMethod y_Co_end, .selects "WordSmith$Compiler" y_Co_end y_Co_end, .code y_Co_end b_Co_end 2 (some (.object "WordSmith$MadeWord")), .fieldLink "WordSmith$Reader" 148 "WordSmith$BuiltIn" "RECURSE" "LWordSmith$BuiltIn;", .methodLink "WordSmith$Reader" 154 y_Co_compile, .instanceMethod y_Co_compile, .selects "WordSmith$Compiler" y_Co_compile y_Co_compile, .code y_Co_compile b_Co_compile 3 none, .methodLink "WordSmith$Compiler" 86 y_Co_push, .instanceMethod y_Co_push, .code y_Co_push b_Co_push 3 none, .methodLink "WordSmith$Compiler" 90 y_Co_pop, .instanceMethod y_Co_pop, .code y_Co_pop b_Co_pop 1 (some .int), .methodLink "WordSmith$Compiler" 93 y_Mw_aim, .instanceMethod y_Mw_aim, .selects "WordSmith$MadeWord" y_Mw_aim y_Mw_aim, .code y_Mw_aim b_Mw_aim 2 none, .methodLink "WordSmith$Compiler" 97 y_Co_closeWhile, .instanceMethod y_Co_closeWhile, .code y_Co_closeWhile b_Co_closeWhile 2 none, .methodLink "WordSmith$Reader" 123 y_Di_isImmediate, .instanceMethod y_Di_isImmediate, .selects "WordSmith$Dictionary" y_Di_isImmediate y_Di_isImmediate, .code y_Di_isImmediate b_Di_isImmediate 3 (some .boolean), .methodLink "WordSmith$Dictionary" 37 y_Di_word, .methodLink "WordSmith$Reader" 131 y_Ma_start, .instanceMethod y_Ma_start, .selects "WordSmith$Machine" y_Ma_start y_Ma_start, .code y_Ma_start b_Ma_start 5 (some .int), .fieldLink "WordSmith$Machine" 120 "WordSmith$BuiltIn" "EXECUTE" "LWordSmith$BuiltIn;", .methodLink "WordSmith$Machine" 97 y_N_pop, .methodLink "WordSmith$Machine" 129 y_Ma_isExecutable, .instanceMethod y_Ma_isExecutable, .code y_Ma_isExecutable b_Ma_isExecutable 3 (some .boolean), .methodLink "WordSmith$Machine" 133 y_Bi_numbered, .methodLink "WordSmith$Machine" 137 y_Di_word, .methodLink "WordSmith$Machine" 152 y_Bi_isDefining, .methodLink "WordSmith$Machine" 155 y_Bi_isCompiling, .methodLink "WordSmith$Machine" 140 y_Ma_beginCall, .instanceMethod y_Ma_beginCall, .code y_Ma_beginCall b_Ma_beginCall 2 (some .int), .methodLink "WordSmith$Machine" 158 y_Ca_start, .instanceMethod y_Ca_start, .selects "WordSmith$Call" y_Ca_start y_Ca_start]
def w_C0_6 : List Cond := [.code y_Ca_start b_Ca_start 2 none, .methodLink "WordSmith$Machine" 144 y_Ma_lack, .instanceMethod y_Ma_lack, .code y_Ma_lack b_Ma_lack 4 (some .int), .fieldLink "WordSmith$Machine" 161 "WordSmith$BuiltIn" "EXIT" "LWordSmith$BuiltIn;", .methodLink "WordSmith$Machine" 111 y_N_fromTop, .instanceMethod y_N_fromTop, .selects "WordSmith$NumberStack" y_N_fromTop y_N_fromTop, .code y_N_fromTop b_N_fromTop 2 (some .int), .fieldLink "WordSmith$Machine" 167 "WordSmith$1" "$SwitchMap$WordSmith$BuiltIn" "[I", .methodLink "WordSmith$Machine" 172 ⟨"WordSmith$BuiltIn", "ordinal", "()I"⟩, .methodLink "WordSmith$Machine" 175 y_Me_has, .instanceMethod y_Me_has, .selects "WordSmith$Memory" y_Me_has y_Me_has, .code y_Me_has b_Me_has 2 (some .boolean), .methodLink "WordSmith$Machine" 178 y_Me_hasBlock, .instanceMethod y_Me_hasBlock, .selects "WordSmith$Memory" y_Me_hasBlock y_Me_hasBlock, .code y_Me_hasBlock b_Me_hasBlock 2 (some .boolean), .methodLink "WordSmith$Machine" 181 y_Ma_openLoops, .instanceMethod y_Ma_openLoops, .code y_Ma_openLoops b_Ma_openLoops 1 (some .int), .methodLink "WordSmith$Machine" 184 y_Ma_hasRoom, .instanceMethod y_Ma_hasRoom, .code y_Ma_hasRoom b_Ma_hasRoom 3 (some .boolean), .methodLink "WordSmith$Machine" 188 y_Me_canGrow, .methodLink "WordSmith$Machine" 148 y_Ma_perform, .instanceMethod y_Ma_perform, .code y_Ma_perform b_Ma_perform 6 none, .methodLink "WordSmith$Machine" 117 y_N_drop, .instanceMethod y_N_drop, .selects "WordSmith$NumberStack" y_N_drop y_N_drop, .code y_N_drop b_N_drop 2 none, .methodLink "WordSmith$NumberStack" 19 Lib.Math.max.name, .methodLink "WordSmith$Machine" 194 y_Bi_isCalculating, .instanceMethod y_Bi_isCalculating, .selects "WordSmith$BuiltIn" y_Bi_isCalculating y_Bi_isCalculating, .code y_Bi_isCalculating b_Bi_isCalculating 1 (some .boolean), .fieldLink "WordSmith$BuiltIn" 39 "WordSmith$BuiltIn" "NEGATE" "LWordSmith$BuiltIn;", .methodLink "WordSmith$Machine" 197 y_Ma_calculate, .static y_Ma_calculate, .code y_Ma_calculate b_Ma_calculate 3 (some .int), .methodLink "WordSmith$Machine" 243 y_Ma_flag, .static y_Ma_flag, .code y_Ma_flag b_Ma_flag 1 (some .int), .methodLink "WordSmith$Machine" 201 y_Ma_arrange, .instanceMethod y_Ma_arrange, .code y_Ma_arrange b_Ma_arrange 5 none, .methodLink "WordSmith$Machine" 205 y_Ma_keep, .instanceMethod y_Ma_keep, .code y_Ma_keep b_Ma_keep 2 none, .methodLink "WordSmith$Machine" 208 y_Ma_loopCount, .instanceMethod y_Ma_loopCount, .code y_Ma_loopCount b_Ma_loopCount 2 (some .int), .methodLink "WordSmith$Machine" 239 y_Ca_loopCount, .instanceMethod y_Ca_loopCount, .selects "WordSmith$Call" y_Ca_loopCount y_Ca_loopCount, .code y_Ca_loopCount b_Ca_loopCount 2 (some .int), .methodLink "WordSmith$Machine" 211 y_Ma_performOnMemory, .instanceMethod y_Ma_performOnMemory, .code y_Ma_performOnMemory b_Ma_performOnMemory 4 none, .methodLink "WordSmith$Machine" 215 y_Me_fetch, .instanceMethod y_Me_fetch, .selects "WordSmith$Memory" y_Me_fetch y_Me_fetch, .code y_Me_fetch b_Me_fetch 2 (some .int), .methodLink "WordSmith$Memory" 31 y_Me_has, .methodLink "WordSmith$Machine" 218 y_Me_store, .instanceMethod y_Me_store, .selects "WordSmith$Memory" y_Me_store y_Me_store, .code y_Me_store b_Me_store 3 none, .methodLink "WordSmith$Machine" 224 y_Me_append, .methodLink "WordSmith$Machine" 227 y_Me_grow, .instanceMethod y_Me_grow, .selects "WordSmith$Memory" y_Me_grow y_Me_grow, .code y_Me_grow b_Me_grow 2 none, .methodLink "WordSmith$Machine" 230 y_Me_tellBlock, .instanceMethod y_Me_tellBlock, .selects "WordSmith$Memory" y_Me_tellBlock y_Me_tellBlock, .code y_Me_tellBlock b_Me_tellBlock 3 (some .int), .methodLink "WordSmith$Memory" 46 y_Me_bufferWith, .instanceMethod y_Me_bufferWith, .code y_Me_bufferWith b_Me_bufferWith 3 (some .int), .methodLink "WordSmith$Memory" 50 y_Me_writeIfUpdated, .instanceMethod y_Me_writeIfUpdated, .code y_Me_writeIfUpdated b_Me_writeIfUpdated 3 none, .methodLink "WordSmith$Memory" 61 arraycopyName, .methodLink "WordSmith$Memory" 54 y_Me_readInto, .instanceMethod y_Me_readInto, .code y_Me_readInto b_Me_readInto 3 none, .methodLink "WordSmith$Machine" 233 y_Me_update, .instanceMethod y_Me_update, .selects "WordSmith$Memory" y_Me_update y_Me_update, .code y_Me_update b_Me_update 1 none, .methodLink "WordSmith$Machine" 236 y_Me_flush, .instanceMethod y_Me_flush, .selects "WordSmith$Memory" y_Me_flush y_Me_flush, .code y_Me_flush b_Me_flush 2 none, .methodLink "WordSmith" 58 y_Ma_finishCalls, .instanceMethod y_Ma_finishCalls, .selects "WordSmith$Machine" y_Ma_finishCalls y_Ma_finishCalls]
def w_C0_7 : List Cond := [.code y_Ma_finishCalls b_Ma_finishCalls 6 (some .int), .methodLink "WordSmith$Machine" 76 y_Ma_burn, .methodLink "WordSmith$Machine" 85 y_Ma_putNumber, .methodLink "WordSmith$Machine" 89 y_Ma_start, .methodLink "WordSmith$Machine" 92 y_Ma_jump, .instanceMethod y_Ma_jump, .code y_Ma_jump b_Ma_jump 4 (some .int), .methodLink "WordSmith$Machine" 101 y_Ma_beginLoop, .instanceMethod y_Ma_beginLoop, .code y_Ma_beginLoop b_Ma_beginLoop 2 (some .int), .methodLink "WordSmith$Machine" 114 y_Ca_beginLoop, .instanceMethod y_Ca_beginLoop, .selects "WordSmith$Call" y_Ca_beginLoop y_Ca_beginLoop, .code y_Ca_beginLoop b_Ca_beginLoop 3 none, .methodLink "WordSmith$Machine" 105 y_Ca_countOn, .instanceMethod y_Ca_countOn, .selects "WordSmith$Call" y_Ca_countOn y_Ca_countOn, .code y_Ca_countOn b_Ca_countOn 1 (some .boolean), .methodLink "WordSmith" 63 y_Rd_clear, .instanceMethod y_Rd_clear, .selects "WordSmith$Reader" y_Rd_clear y_Rd_clear, .code y_Rd_clear b_Rd_clear 1 none, .methodLink "WordSmith$Reader" 69 y_Ma_clear, .instanceMethod y_Ma_clear, .selects "WordSmith$Machine" y_Ma_clear y_Ma_clear, .code y_Ma_clear b_Ma_clear 1 none, .methodLink "WordSmith$Machine" 50 y_N_clear, .instanceMethod y_N_clear, .selects "WordSmith$NumberStack" y_N_clear y_N_clear, .code y_N_clear b_N_clear 1 none, .instanceMethod y_W_count, .selects "WordSmith" y_W_count y_W_count, .code y_W_count b_W_count 3 (some .int), .methodLink "WordSmith" 107 y_Co_isCompiling, .instanceMethod y_W_stack, .selects "WordSmith" y_W_stack y_W_stack, .code y_W_stack b_W_stack 2 (some .int), .methodLink "WordSmith" 115 y_N_fromTop, .instanceMethod y_W_out, .selects "WordSmith" y_W_out y_W_out, .code y_W_out b_W_out 4 (some .int), .instanceMethod y_W_cell, .selects "WordSmith" y_W_cell y_W_cell, .code y_W_cell b_W_cell 2 (some .int), .methodLink "WordSmith" 123 y_Me_fetch, .instanceMethod y_W_disk, .selects "WordSmith" y_W_disk y_W_disk, .code y_W_disk b_W_disk 3 (some .int), .methodLink "WordSmith" 126 y_Me_onDisk, .instanceMethod y_Me_onDisk, .selects "WordSmith$Memory" y_Me_onDisk y_Me_onDisk, .code y_Me_onDisk b_Me_onDisk 3 (some .int), .methodLink "WordSmith$Memory" 43 y_Me_hasBlock, .instanceMethod y_W_items, .selects "WordSmith" y_W_items y_W_items, .code y_W_items b_W_items 3 (some .int), .methodLink "WordSmith" 129 y_Di_word, .instanceMethod y_W_buffer, .selects "WordSmith" y_W_buffer y_W_buffer, .code y_W_buffer b_W_buffer 2 (some .int), .methodLink "WordSmith" 136 y_Me_bufferState, .instanceMethod y_Me_bufferState, .selects "WordSmith$Memory" y_Me_bufferState y_Me_bufferState, .code y_Me_bufferState b_Me_bufferState 2 (some .int), .arrayClass .long, .sameMethod "java/lang/AbstractStringBuilder" "java/lang/AbstractStringBuilder" "length" "()I", .sameMethod "java/lang/AbstractStringBuilder" "java/lang/AbstractStringBuilder" "append" "(C)Ljava/lang/AbstractStringBuilder;", .sameMethod "java/lang/AbstractStringBuilder" "java/lang/AbstractStringBuilder" "ensureCapacityInternal" "(I)V", .sameMethod "java/lang/AbstractStringBuilder" "java/lang/AbstractStringBuilder" "newCapacity" "(I)I", .sameMethod "java/lang/AbstractStringBuilder" "java/lang/AbstractStringBuilder" "inflate" "()V", .selects "java/lang/StringBuilder" y_AB_length y_SB_length, .sameMethod "java/lang/AbstractStringBuilder" "java/lang/AbstractStringBuilder" "setLength" "(I)V", .fieldLink "WordSmith$BuiltIn" 188 "WordSmith$BuiltIn" "spelling" "Ljava/lang/String;", .fieldLink "WordSmith$BuiltIn" 184 "WordSmith$BuiltIn" "number" "I", .fieldLink "WordSmith$Reader" 196 "WordSmith$BuiltIn" "takes" "I", .fieldLink "java/lang/Enum" 7 "java/lang/Enum" "ordinal" "I", .fieldLink "WordSmith$Machine" 126 "WordSmith$BuiltIn" "number" "I", .fieldLink "WordSmith$Machine" 164 "WordSmith$BuiltIn" "takes" "I", .fieldLink "WordSmith$Machine" 191 "WordSmith$BuiltIn" "puts" "I", .selects "java/lang/StringBuilder" y_AB_ensureCapacityInternal y_AB_ensureCapacityInternal, .selects "java/lang/StringBuilder" y_AB_newCapacity y_AB_newCapacity, .selects "WordSmith$Reader" y_Rd_skipSpaces y_Rd_skipSpaces, .selects "WordSmith$Reader" y_Rd_cutToken y_Rd_cutToken, .selects "WordSmith$Reader" y_Rd_readNumber y_Rd_readNumber, .selects "WordSmith$Reader" y_Rd_define y_Rd_define, .selects "WordSmith$Reader" y_Rd_makeImmediate y_Rd_makeImmediate, .selects "WordSmith$Reader" y_Rd_putNumberOfWord y_Rd_putNumberOfWord, .selects "WordSmith$Reader" y_Rd_makeWord y_Rd_makeWord, .selects "WordSmith$Reader" y_Rd_makeNumberWord y_Rd_makeNumberWord, .selects "WordSmith$Reader" y_Rd_compile y_Rd_compile, .selects "WordSmith$Compiler" y_Co_fits y_Co_fits, .selects "WordSmith$Compiler" y_Co_push y_Co_push, .selects "WordSmith$Compiler" y_Co_pop y_Co_pop, .selects "WordSmith$Compiler" y_Co_closeWhile y_Co_closeWhile, .selects "WordSmith$Machine" y_Ma_isExecutable y_Ma_isExecutable, .selects "WordSmith$Machine" y_Ma_beginCall y_Ma_beginCall, .selects "WordSmith$Machine" y_Ma_lack y_Ma_lack, .selects "WordSmith$Machine" y_Ma_openLoops y_Ma_openLoops, .selects "WordSmith$Machine" y_Ma_hasRoom y_Ma_hasRoom, .selects "WordSmith$Machine" y_Ma_perform y_Ma_perform]
def w_C0_8 : List Cond := [.selects "WordSmith$Machine" y_Ma_arrange y_Ma_arrange, .selects "WordSmith$Machine" y_Ma_keep y_Ma_keep, .selects "WordSmith$Machine" y_Ma_loopCount y_Ma_loopCount, .selects "WordSmith$Machine" y_Ma_performOnMemory y_Ma_performOnMemory, .selects "WordSmith$Memory" y_Me_bufferWith y_Me_bufferWith, .selects "WordSmith$Memory" y_Me_writeIfUpdated y_Me_writeIfUpdated, .selects "WordSmith$Memory" y_Me_readInto y_Me_readInto, .selects "WordSmith$Machine" y_Ma_jump y_Ma_jump, .selects "WordSmith$Machine" y_Ma_beginLoop y_Ma_beginLoop]
def w_C : List Cond := w_C0_0 ++ (w_C0_1 ++ (w_C0_2 ++ (w_C0_3 ++ (w_C0_4 ++ (w_C0_5 ++ (w_C0_6 ++ (w_C0_7 ++ (w_C0_8 ++ (u_ws R_W F_W 2 ++ (u_ws R_SB F_SB 4 ++ (u_ws R_St F_St 4 ++ (u_ws R_Rd F_Rd 6 ++ (u_ws R_Ma F_Ma 9 ++ (u_ws R_N F_N 2 ++ (u_ws R_Me F_Me 6 ++ (u_ws R_Di F_Di 2 ++ (u_ws R_Ca F_Ca 5 ++ (u_ws R_Co F_Co 4 ++ (u_ws R_Mw F_Mw 5)))))))))))))))))))
theorem cC0_0 {w : Cond} (h : w ∈ w_C0_0) : w ∈ w_C := List.mem_append_left _ h
theorem cC0_1 {w : Cond} (h : w ∈ w_C0_1) : w ∈ w_C := List.mem_append_right _ (List.mem_append_left _ h)
theorem cC0_2 {w : Cond} (h : w ∈ w_C0_2) : w ∈ w_C := List.mem_append_right _ (List.mem_append_right _ (List.mem_append_left _ h))
theorem cC0_3 {w : Cond} (h : w ∈ w_C0_3) : w ∈ w_C := List.mem_append_right _ (List.mem_append_right _ (List.mem_append_right _ (List.mem_append_left _ h)))
theorem cC0_4 {w : Cond} (h : w ∈ w_C0_4) : w ∈ w_C := List.mem_append_right _ (List.mem_append_right _ (List.mem_append_right _ (List.mem_append_right _ (List.mem_append_left _ h))))
theorem cC0_5 {w : Cond} (h : w ∈ w_C0_5) : w ∈ w_C := List.mem_append_right _ (List.mem_append_right _ (List.mem_append_right _ (List.mem_append_right _ (List.mem_append_right _ (List.mem_append_left _ h)))))
theorem cC0_6 {w : Cond} (h : w ∈ w_C0_6) : w ∈ w_C := List.mem_append_right _ (List.mem_append_right _ (List.mem_append_right _ (List.mem_append_right _ (List.mem_append_right _ (List.mem_append_right _ (List.mem_append_left _ h))))))
theorem cC0_7 {w : Cond} (h : w ∈ w_C0_7) : w ∈ w_C := List.mem_append_right _ (List.mem_append_right _ (List.mem_append_right _ (List.mem_append_right _ (List.mem_append_right _ (List.mem_append_right _ (List.mem_append_right _ (List.mem_append_left _ h)))))))
theorem cC0_8 {w : Cond} (h : w ∈ w_C0_8) : w ∈ w_C := List.mem_append_right _ (List.mem_append_right _ (List.mem_append_right _ (List.mem_append_right _ (List.mem_append_right _ (List.mem_append_right _ (List.mem_append_right _ (List.mem_append_right _ (List.mem_append_left _ h))))))))
theorem k_C_0 : Cond.initialized "WordSmith" ∈ w_C := cC0_0 (List.mem_of_getElem? (i := 0) rfl)
theorem k_C_1 : Cond.initialized "java/lang/AbstractStringBuilder" ∈ w_C := cC0_0 (List.mem_of_getElem? (i := 1) rfl)
theorem k_C_2 : Cond.initialized "java/lang/StringBuilder" ∈ w_C := cC0_0 (List.mem_of_getElem? (i := 2) rfl)
theorem k_C_3 : Cond.initialized "java/lang/String" ∈ w_C := cC0_0 (List.mem_of_getElem? (i := 3) rfl)
theorem k_C_4 : Cond.initialized "java/lang/StringUTF16" ∈ w_C := cC0_0 (List.mem_of_getElem? (i := 4) rfl)
theorem k_C_5 : Cond.initialized "WordSmith$Reader" ∈ w_C := cC0_0 (List.mem_of_getElem? (i := 5) rfl)
theorem k_C_6 : Cond.initialized "WordSmith$Machine" ∈ w_C := cC0_0 (List.mem_of_getElem? (i := 6) rfl)
theorem k_C_7 : Cond.initialized "WordSmith$NumberStack" ∈ w_C := cC0_0 (List.mem_of_getElem? (i := 7) rfl)
theorem k_C_8 : Cond.initialized "WordSmith$Memory" ∈ w_C := cC0_0 (List.mem_of_getElem? (i := 8) rfl)
theorem k_C_9 : Cond.initialized "WordSmith$Dictionary" ∈ w_C := cC0_0 (List.mem_of_getElem? (i := 9) rfl)
theorem k_C_10 : Cond.initialized "WordSmith$Call" ∈ w_C := cC0_0 (List.mem_of_getElem? (i := 10) rfl)
theorem k_C_11 : Cond.initialized "WordSmith$Compiler" ∈ w_C := cC0_0 (List.mem_of_getElem? (i := 11) rfl)
theorem k_C_12 : Cond.initialized "jdk/internal/util/ArraysSupport" ∈ w_C := cC0_0 (List.mem_of_getElem? (i := 12) rfl)
theorem k_C_13 : Cond.initialized "java/lang/Math" ∈ w_C := cC0_0 (List.mem_of_getElem? (i := 13) rfl)
theorem k_C_14 : Cond.initialized "java/util/Arrays" ∈ w_C := cC0_0 (List.mem_of_getElem? (i := 14) rfl)
theorem k_C_15 : Cond.initialized "java/lang/System" ∈ w_C := cC0_0 (List.mem_of_getElem? (i := 15) rfl)
theorem k_C_16 : Cond.initialized "java/lang/StringLatin1" ∈ w_C := cC0_0 (List.mem_of_getElem? (i := 16) rfl)
theorem k_C_17 : Cond.initialized "jdk/internal/util/Preconditions" ∈ w_C := cC0_0 (List.mem_of_getElem? (i := 17) rfl)
theorem k_C_18 : Cond.initialized "java/lang/Enum" ∈ w_C := cC0_0 (List.mem_of_getElem? (i := 18) rfl)
theorem k_C_19 : Cond.initialized "WordSmith$BuiltIn" ∈ w_C := cC0_0 (List.mem_of_getElem? (i := 19) rfl)
theorem k_C_20 : Cond.initialized "WordSmith$1" ∈ w_C := cC0_0 (List.mem_of_getElem? (i := 20) rfl)
theorem k_C_21 : Cond.initialized "WordSmith$MadeWord" ∈ w_C := cC0_0 (List.mem_of_getElem? (i := 21) rfl)
theorem k_C_22 : Cond.instantiable "WordSmith" 2 ∈ w_C := cC0_0 (List.mem_of_getElem? (i := 22) rfl)
theorem k_C_23 : Cond.instanceMethod y_W_init ∈ w_C := cC0_0 (List.mem_of_getElem? (i := 23) rfl)
theorem k_C_24 : Cond.code y_W_init b_W_init 1 none ∈ w_C := cC0_0 (List.mem_of_getElem? (i := 24) rfl)
theorem k_C_25 : Cond.methodLink "WordSmith" 1 objectInit ∈ w_C := cC0_0 (List.mem_of_getElem? (i := 25) rfl)
theorem k_C_26 : Cond.instanceMethod objectInit ∈ w_C := cC0_0 (List.mem_of_getElem? (i := 26) rfl)
theorem k_C_27 : Cond.code objectInit ⟨#[0xb1]⟩ 1 none ∈ w_C := cC0_0 (List.mem_of_getElem? (i := 27) rfl)
theorem k_C_28 : Cond.classLink "WordSmith" 7 "java/lang/StringBuilder" ∈ w_C := cC0_0 (List.mem_of_getElem? (i := 28) rfl)
theorem k_C_29 : Cond.instantiable "java/lang/StringBuilder" 4 ∈ w_C := cC0_0 (List.mem_of_getElem? (i := 29) rfl)
theorem k_C_30 : Cond.methodLink "WordSmith" 9 y_SB_init ∈ w_C := cC0_0 (List.mem_of_getElem? (i := 30) rfl)
theorem k_C_31 : Cond.instanceMethod y_SB_init ∈ w_C := cC0_0 (List.mem_of_getElem? (i := 31) rfl)
theorem k_C_32 : Cond.code y_SB_init b_SB_init 1 none ∈ w_C := cC0_0 (List.mem_of_getElem? (i := 32) rfl)
theorem k_C_33 : Cond.methodLink "java/lang/StringBuilder" 1 y_AB_init ∈ w_C := cC0_0 (List.mem_of_getElem? (i := 33) rfl)
theorem k_C_34 : Cond.instanceMethod y_AB_init ∈ w_C := cC0_0 (List.mem_of_getElem? (i := 34) rfl)
theorem k_C_35 : Cond.code y_AB_init b_AB_init 2 none ∈ w_C := cC0_0 (List.mem_of_getElem? (i := 35) rfl)
theorem k_C_36 : Cond.methodLink "java/lang/AbstractStringBuilder" 3 objectInit ∈ w_C := cC0_0 (List.mem_of_getElem? (i := 36) rfl)
theorem k_C_37 : Cond.fieldLink "java/lang/AbstractStringBuilder" 18 "java/lang/String" "COMPACT_STRINGS" "Z" ∈ w_C := cC0_0 (List.mem_of_getElem? (i := 37) rfl)
theorem k_C_38 : Cond.methodLink "java/lang/AbstractStringBuilder" 26 ⟨"java/lang/StringUTF16", "newBytesFor", "(I)[B"⟩ ∈ w_C := cC0_0 (List.mem_of_getElem? (i := 38) rfl)
theorem k_C_39 : Cond.static ⟨"java/lang/StringUTF16", "newBytesFor", "(I)[B"⟩ ∈ w_C := cC0_0 (List.mem_of_getElem? (i := 39) rfl)
theorem k_C_40 : Cond.code ⟨"java/lang/StringUTF16", "newBytesFor", "(I)[B"⟩ prog_21_method_2_code 1 (some (.array .byte)) ∈ w_C := cC0_0 (List.mem_of_getElem? (i := 40) rfl)
theorem k_C_41 : Cond.methodLink "java/lang/StringUTF16" 11 ⟨"java/lang/StringUTF16", "newBytesLength", "(I)I"⟩ ∈ w_C := cC0_0 (List.mem_of_getElem? (i := 41) rfl)
theorem k_C_42 : Cond.static ⟨"java/lang/StringUTF16", "newBytesLength", "(I)I"⟩ ∈ w_C := cC0_0 (List.mem_of_getElem? (i := 42) rfl)
theorem k_C_43 : Cond.code ⟨"java/lang/StringUTF16", "newBytesLength", "(I)I"⟩ prog_21_method_3_code 1 (some .int) ∈ w_C := cC0_0 (List.mem_of_getElem? (i := 43) rfl)
theorem k_C_44 : Cond.constant "java/lang/StringUTF16" 20 1073741823 ∈ w_C := cC0_0 (List.mem_of_getElem? (i := 44) rfl)
theorem k_C_45 : Cond.fieldLink "java/lang/AbstractStringBuilder" 15 "java/lang/AbstractStringBuilder" "value" "[B" ∈ w_C := cC0_0 (List.mem_of_getElem? (i := 45) rfl)
theorem k_C_46 : Cond.fieldLink "java/lang/AbstractStringBuilder" 22 "java/lang/AbstractStringBuilder" "coder" "B" ∈ w_C := cC0_0 (List.mem_of_getElem? (i := 46) rfl)
theorem k_C_47 : Cond.fieldLink "java/lang/AbstractStringBuilder" 73 "java/lang/AbstractStringBuilder" "maybeLatin1" "Z" ∈ w_C := cC0_0 (List.mem_of_getElem? (i := 47) rfl)
theorem k_C_48 : Cond.fieldLink "java/lang/String" 1048 "java/lang/AbstractStringBuilder" "maybeLatin1" "Z" ∈ w_C := cC0_0 (List.mem_of_getElem? (i := 48) rfl)
theorem k_C_49 : Cond.fieldLink "java/lang/AbstractStringBuilder" 79 "java/lang/AbstractStringBuilder" "count" "I" ∈ w_C := cC0_0 (List.mem_of_getElem? (i := 49) rfl)
theorem k_C_50 : Cond.superclass "java/lang/StringBuilder" "java/lang/AbstractStringBuilder" ∈ w_C := cC0_0 (List.mem_of_getElem? (i := 50) rfl)
theorem k_C_51 : Cond.arrayClass .byte ∈ w_C := cC0_0 (List.mem_of_getElem? (i := 51) rfl)
theorem k_C_52 : Cond.classLink "WordSmith" 16 "WordSmith$Reader" ∈ w_C := cC0_0 (List.mem_of_getElem? (i := 52) rfl)
theorem k_C_53 : Cond.instantiable "WordSmith$Reader" 6 ∈ w_C := cC0_0 (List.mem_of_getElem? (i := 53) rfl)
theorem k_C_54 : Cond.instanceMethod y_Rd_init ∈ w_C := cC0_0 (List.mem_of_getElem? (i := 54) rfl)
theorem k_C_55 : Cond.code y_Rd_init b_Rd_init 1 none ∈ w_C := cC0_0 (List.mem_of_getElem? (i := 55) rfl)
theorem k_C_56 : Cond.methodLink "WordSmith$Reader" 3 objectInit ∈ w_C := cC0_0 (List.mem_of_getElem? (i := 56) rfl)
theorem k_C_57 : Cond.classLink "WordSmith$Reader" 9 "WordSmith$Machine" ∈ w_C := cC0_0 (List.mem_of_getElem? (i := 57) rfl)
theorem k_C_58 : Cond.instantiable "WordSmith$Machine" 9 ∈ w_C := cC0_0 (List.mem_of_getElem? (i := 58) rfl)
theorem k_C_59 : Cond.methodLink "WordSmith$Reader" 11 y_Ma_init ∈ w_C := cC0_0 (List.mem_of_getElem? (i := 59) rfl)
theorem k_C_60 : Cond.instanceMethod y_Ma_init ∈ w_C := cC0_0 (List.mem_of_getElem? (i := 60) rfl)
theorem k_C_61 : Cond.code y_Ma_init b_Ma_init 2 none ∈ w_C := cC0_0 (List.mem_of_getElem? (i := 61) rfl)
theorem k_C_62 : Cond.methodLink "WordSmith$Machine" 3 objectInit ∈ w_C := cC0_0 (List.mem_of_getElem? (i := 62) rfl)
theorem k_C_63 : Cond.classLink "WordSmith$Machine" 9 "WordSmith$NumberStack" ∈ w_C := cC0_0 (List.mem_of_getElem? (i := 63) rfl)
theorem k_C_64 : Cond.instantiable "WordSmith$NumberStack" 2 ∈ w_C := cC0_0 (List.mem_of_getElem? (i := 64) rfl)
theorem k_C_65 : Cond.instanceMethod y_N_init ∈ w_C := cC0_0 (List.mem_of_getElem? (i := 65) rfl)
theorem k_C_66 : Cond.code y_N_init b_N_init 1 none ∈ w_C := cC0_0 (List.mem_of_getElem? (i := 66) rfl)
theorem k_C_67 : Cond.methodLink "WordSmith$NumberStack" 3 objectInit ∈ w_C := cC0_0 (List.mem_of_getElem? (i := 67) rfl)
theorem k_C_68 : Cond.fieldLink "WordSmith$NumberStack" 9 "WordSmith$NumberStack" "numbers" "[I" ∈ w_C := cC0_0 (List.mem_of_getElem? (i := 68) rfl)
theorem k_C_69 : Cond.fieldLink "WordSmith$NumberStack" 15 "WordSmith$NumberStack" "size" "I" ∈ w_C := cC0_0 (List.mem_of_getElem? (i := 69) rfl)
theorem k_C_70 : Cond.superclass "WordSmith$NumberStack" "java/lang/Object" ∈ w_C := cC0_0 (List.mem_of_getElem? (i := 70) rfl)
theorem k_C_71 : Cond.arrayClass .int ∈ w_C := cC0_0 (List.mem_of_getElem? (i := 71) rfl)
theorem k_C_72 : Cond.classLink "WordSmith$Machine" 21 "WordSmith$Memory" ∈ w_C := cC0_0 (List.mem_of_getElem? (i := 72) rfl)
theorem k_C_73 : Cond.instantiable "WordSmith$Memory" 6 ∈ w_C := cC0_0 (List.mem_of_getElem? (i := 73) rfl)
theorem k_C_74 : Cond.instanceMethod y_Me_init ∈ w_C := cC0_0 (List.mem_of_getElem? (i := 74) rfl)
theorem k_C_75 : Cond.code y_Me_init b_Me_init 1 none ∈ w_C := cC0_0 (List.mem_of_getElem? (i := 75) rfl)
theorem k_C_76 : Cond.methodLink "WordSmith$Memory" 3 objectInit ∈ w_C := cC0_0 (List.mem_of_getElem? (i := 76) rfl)
theorem k_C_77 : Cond.classLink "WordSmith$Memory" 15 "[[I" ∈ w_C := cC0_0 (List.mem_of_getElem? (i := 77) rfl)
theorem k_C_78 : Cond.fieldLink "WordSmith$Memory" 9 "WordSmith$Memory" "cells" "[I" ∈ w_C := cC0_0 (List.mem_of_getElem? (i := 78) rfl)
theorem k_C_79 : Cond.fieldLink "WordSmith$Memory" 35 "WordSmith$Memory" "here" "I" ∈ w_C := cC0_0 (List.mem_of_getElem? (i := 79) rfl)
theorem k_C_80 : Cond.fieldLink "WordSmith$Memory" 17 "WordSmith$Memory" "blocks" "[[I" ∈ w_C := cC0_0 (List.mem_of_getElem? (i := 80) rfl)
theorem k_C_81 : Cond.fieldLink "WordSmith$Memory" 20 "WordSmith$Memory" "blockIn" "[I" ∈ w_C := cC0_0 (List.mem_of_getElem? (i := 81) rfl)
theorem k_C_82 : Cond.fieldLink "WordSmith$Memory" 23 "WordSmith$Memory" "updated" "[Z" ∈ w_C := cC0_0 (List.mem_of_getElem? (i := 82) rfl)
theorem k_C_83 : Cond.fieldLink "WordSmith$Memory" 27 "WordSmith$Memory" "told" "I" ∈ w_C := cC0_0 (List.mem_of_getElem? (i := 83) rfl)
theorem k_C_84 : Cond.superclass "WordSmith$Memory" "java/lang/Object" ∈ w_C := cC0_0 (List.mem_of_getElem? (i := 84) rfl)
theorem k_C_85 : Cond.arrayClass .boolean ∈ w_C := cC0_0 (List.mem_of_getElem? (i := 85) rfl)
theorem k_C_86 : Cond.classLink "WordSmith$Machine" 28 "WordSmith$Dictionary" ∈ w_C := cC0_0 (List.mem_of_getElem? (i := 86) rfl)
theorem k_C_87 : Cond.instantiable "WordSmith$Dictionary" 2 ∈ w_C := cC0_0 (List.mem_of_getElem? (i := 87) rfl)
theorem k_C_88 : Cond.instanceMethod y_Di_init ∈ w_C := cC0_0 (List.mem_of_getElem? (i := 88) rfl)
theorem k_C_89 : Cond.code y_Di_init b_Di_init 1 none ∈ w_C := cC0_0 (List.mem_of_getElem? (i := 89) rfl)
theorem k_C_90 : Cond.methodLink "WordSmith$Dictionary" 3 objectInit ∈ w_C := cC0_0 (List.mem_of_getElem? (i := 90) rfl)
theorem k_C_91 : Cond.classLink "WordSmith$Dictionary" 9 "WordSmith$MadeWord" ∈ w_C := cC0_0 (List.mem_of_getElem? (i := 91) rfl)
theorem k_C_92 : Cond.fieldLink "WordSmith$Dictionary" 11 "WordSmith$Dictionary" "words" "[LWordSmith$MadeWord;" ∈ w_C := cC0_0 (List.mem_of_getElem? (i := 92) rfl)
theorem k_C_93 : Cond.fieldLink "WordSmith$Dictionary" 17 "WordSmith$Dictionary" "made" "I" ∈ w_C := cC0_0 (List.mem_of_getElem? (i := 93) rfl)
theorem k_C_94 : Cond.superclass "WordSmith$Dictionary" "java/lang/Object" ∈ w_C := cC0_0 (List.mem_of_getElem? (i := 94) rfl)
theorem k_C_95 : Cond.classLink "WordSmith$Machine" 35 "WordSmith$Call" ∈ w_C := cC0_0 (List.mem_of_getElem? (i := 95) rfl)
theorem k_C_96 : Cond.instantiable "WordSmith$Call" 5 ∈ w_C := cC0_0 (List.mem_of_getElem? (i := 96) rfl)
theorem k_C_97 : Cond.instanceMethod y_Ca_init ∈ w_C := cC0_0 (List.mem_of_getElem? (i := 97) rfl)
theorem k_C_98 : Cond.code y_Ca_init b_Ca_init 1 none ∈ w_C := cC0_0 (List.mem_of_getElem? (i := 98) rfl)
theorem k_C_99 : Cond.methodLink "WordSmith$Call" 3 objectInit ∈ w_C := cC0_0 (List.mem_of_getElem? (i := 99) rfl)
theorem k_C_100 : Cond.fieldLink "WordSmith$Call" 18 "WordSmith$Call" "word" "LWordSmith$MadeWord;" ∈ w_C := cC0_1 (List.mem_of_getElem? (i := 0) rfl)
theorem k_C_101 : Cond.fieldLink "WordSmith$Call" 22 "WordSmith$Call" "next" "I" ∈ w_C := cC0_1 (List.mem_of_getElem? (i := 1) rfl)
theorem k_C_102 : Cond.fieldLink "WordSmith$Call" 9 "WordSmith$Call" "limits" "[I" ∈ w_C := cC0_1 (List.mem_of_getElem? (i := 2) rfl)
theorem k_C_103 : Cond.fieldLink "WordSmith$Call" 15 "WordSmith$Call" "counts" "[I" ∈ w_C := cC0_1 (List.mem_of_getElem? (i := 3) rfl)
theorem k_C_104 : Cond.fieldLink "WordSmith$Call" 26 "WordSmith$Call" "loops" "I" ∈ w_C := cC0_1 (List.mem_of_getElem? (i := 4) rfl)
theorem k_C_105 : Cond.superclass "WordSmith$Call" "java/lang/Object" ∈ w_C := cC0_1 (List.mem_of_getElem? (i := 5) rfl)
theorem k_C_106 : Cond.fieldLink "WordSmith$Machine" 12 "WordSmith$Machine" "data" "LWordSmith$NumberStack;" ∈ w_C := cC0_1 (List.mem_of_getElem? (i := 6) rfl)
theorem k_C_107 : Cond.fieldLink "WordSmith$Machine" 18 "WordSmith$Machine" "returns" "LWordSmith$NumberStack;" ∈ w_C := cC0_1 (List.mem_of_getElem? (i := 7) rfl)
theorem k_C_108 : Cond.fieldLink "WordSmith$Machine" 24 "WordSmith$Machine" "memory" "LWordSmith$Memory;" ∈ w_C := cC0_1 (List.mem_of_getElem? (i := 8) rfl)
theorem k_C_109 : Cond.fieldLink "WordSmith$Machine" 31 "WordSmith$Machine" "dictionary" "LWordSmith$Dictionary;" ∈ w_C := cC0_1 (List.mem_of_getElem? (i := 9) rfl)
theorem k_C_110 : Cond.fieldLink "WordSmith$Machine" 37 "WordSmith$Machine" "calls" "[LWordSmith$Call;" ∈ w_C := cC0_1 (List.mem_of_getElem? (i := 10) rfl)
theorem k_C_111 : Cond.fieldLink "WordSmith$Machine" 53 "WordSmith$Machine" "depth" "I" ∈ w_C := cC0_1 (List.mem_of_getElem? (i := 11) rfl)
theorem k_C_112 : Cond.fieldLink "WordSmith$Machine" 41 "WordSmith$Machine" "output" "[I" ∈ w_C := cC0_1 (List.mem_of_getElem? (i := 12) rfl)
theorem k_C_113 : Cond.fieldLink "WordSmith$Machine" 240 "WordSmith$Machine" "putOut" "I" ∈ w_C := cC0_1 (List.mem_of_getElem? (i := 13) rfl)
theorem k_C_114 : Cond.fieldLink "WordSmith$Machine" 46 "WordSmith$Machine" "fuel" "I" ∈ w_C := cC0_1 (List.mem_of_getElem? (i := 14) rfl)
theorem k_C_115 : Cond.superclass "WordSmith$Machine" "java/lang/Object" ∈ w_C := cC0_1 (List.mem_of_getElem? (i := 15) rfl)
theorem k_C_116 : Cond.classLink "WordSmith$Reader" 18 "WordSmith$Compiler" ∈ w_C := cC0_1 (List.mem_of_getElem? (i := 16) rfl)
theorem k_C_117 : Cond.instantiable "WordSmith$Compiler" 4 ∈ w_C := cC0_1 (List.mem_of_getElem? (i := 17) rfl)
theorem k_C_118 : Cond.instanceMethod y_Co_init ∈ w_C := cC0_1 (List.mem_of_getElem? (i := 18) rfl)
theorem k_C_119 : Cond.code y_Co_init b_Co_init 1 none ∈ w_C := cC0_1 (List.mem_of_getElem? (i := 19) rfl)
theorem k_C_120 : Cond.methodLink "WordSmith$Compiler" 3 objectInit ∈ w_C := cC0_1 (List.mem_of_getElem? (i := 20) rfl)
theorem k_C_121 : Cond.classLink "WordSmith$Compiler" 9 "WordSmith$BuiltIn" ∈ w_C := cC0_1 (List.mem_of_getElem? (i := 21) rfl)
theorem k_C_122 : Cond.fieldLink "WordSmith$Compiler" 21 "WordSmith$Compiler" "draft" "LWordSmith$MadeWord;" ∈ w_C := cC0_1 (List.mem_of_getElem? (i := 22) rfl)
theorem k_C_123 : Cond.fieldLink "WordSmith$Compiler" 11 "WordSmith$Compiler" "openers" "[LWordSmith$BuiltIn;" ∈ w_C := cC0_1 (List.mem_of_getElem? (i := 23) rfl)
theorem k_C_124 : Cond.fieldLink "WordSmith$Compiler" 17 "WordSmith$Compiler" "places" "[I" ∈ w_C := cC0_1 (List.mem_of_getElem? (i := 24) rfl)
theorem k_C_125 : Cond.fieldLink "WordSmith$Compiler" 30 "WordSmith$Compiler" "open" "I" ∈ w_C := cC0_1 (List.mem_of_getElem? (i := 25) rfl)
theorem k_C_126 : Cond.superclass "WordSmith$Compiler" "java/lang/Object" ∈ w_C := cC0_1 (List.mem_of_getElem? (i := 26) rfl)
theorem k_C_127 : Cond.fieldLink "WordSmith$Reader" 12 "WordSmith$Reader" "machine" "LWordSmith$Machine;" ∈ w_C := cC0_1 (List.mem_of_getElem? (i := 27) rfl)
theorem k_C_128 : Cond.fieldLink "WordSmith$Reader" 21 "WordSmith$Reader" "compiler" "LWordSmith$Compiler;" ∈ w_C := cC0_1 (List.mem_of_getElem? (i := 28) rfl)
theorem k_C_129 : Cond.fieldLink "WordSmith$Reader" 27 "WordSmith$Reader" "text" "Ljava/lang/String;" ∈ w_C := cC0_1 (List.mem_of_getElem? (i := 29) rfl)
theorem k_C_130 : Cond.fieldLink "WordSmith$Reader" 34 "WordSmith$Reader" "at" "I" ∈ w_C := cC0_1 (List.mem_of_getElem? (i := 30) rfl)
theorem k_C_131 : Cond.fieldLink "WordSmith$Reader" 44 "WordSmith$Reader" "place" "I" ∈ w_C := cC0_1 (List.mem_of_getElem? (i := 31) rfl)
theorem k_C_132 : Cond.fieldLink "WordSmith$Reader" 31 "WordSmith$Reader" "token" "Ljava/lang/String;" ∈ w_C := cC0_1 (List.mem_of_getElem? (i := 32) rfl)
theorem k_C_133 : Cond.superclass "WordSmith$Reader" "java/lang/Object" ∈ w_C := cC0_1 (List.mem_of_getElem? (i := 33) rfl)
theorem k_C_134 : Cond.fieldLink "WordSmith" 10 "WordSmith" "typed" "Ljava/lang/StringBuilder;" ∈ w_C := cC0_1 (List.mem_of_getElem? (i := 34) rfl)
theorem k_C_135 : Cond.fieldLink "WordSmith" 19 "WordSmith" "reader" "LWordSmith$Reader;" ∈ w_C := cC0_1 (List.mem_of_getElem? (i := 35) rfl)
theorem k_C_136 : Cond.superclass "WordSmith" "java/lang/Object" ∈ w_C := cC0_1 (List.mem_of_getElem? (i := 36) rfl)
theorem k_C_137 : Cond.instanceMethod y_W_type ∈ w_C := cC0_1 (List.mem_of_getElem? (i := 37) rfl)
theorem k_C_138 : Cond.selects "WordSmith" y_W_type y_W_type ∈ w_C := cC0_1 (List.mem_of_getElem? (i := 38) rfl)
theorem k_C_139 : Cond.code y_W_type b_W_type 5 (some .boolean) ∈ w_C := cC0_1 (List.mem_of_getElem? (i := 39) rfl)
theorem k_C_140 : Cond.methodLink "WordSmith" 23 y_SB_length ∈ w_C := cC0_1 (List.mem_of_getElem? (i := 40) rfl)
theorem k_C_141 : Cond.instanceMethod y_SB_length ∈ w_C := cC0_1 (List.mem_of_getElem? (i := 41) rfl)
theorem k_C_142 : Cond.selects "java/lang/StringBuilder" y_SB_length y_SB_length ∈ w_C := cC0_1 (List.mem_of_getElem? (i := 42) rfl)
theorem k_C_143 : Cond.code y_SB_length b_SB_length 1 (some .int) ∈ w_C := cC0_1 (List.mem_of_getElem? (i := 43) rfl)
theorem k_C_144 : Cond.methodLink "java/lang/StringBuilder" 343 y_AB_length ∈ w_C := cC0_1 (List.mem_of_getElem? (i := 44) rfl)
theorem k_C_145 : Cond.instanceMethod y_AB_length ∈ w_C := cC0_1 (List.mem_of_getElem? (i := 45) rfl)
theorem k_C_146 : Cond.code y_AB_length b_AB_length 1 (some .int) ∈ w_C := cC0_1 (List.mem_of_getElem? (i := 46) rfl)
theorem k_C_147 : Cond.methodLink "WordSmith" 27 y_W_byteOf ∈ w_C := cC0_1 (List.mem_of_getElem? (i := 47) rfl)
theorem k_C_148 : Cond.static y_W_byteOf ∈ w_C := cC0_1 (List.mem_of_getElem? (i := 48) rfl)
theorem k_C_149 : Cond.code y_W_byteOf b_W_byteOf 2 (some .int) ∈ w_C := cC0_1 (List.mem_of_getElem? (i := 49) rfl)
theorem k_C_150 : Cond.methodLink "WordSmith" 31 y_SB_append ∈ w_C := cC0_1 (List.mem_of_getElem? (i := 50) rfl)
theorem k_C_151 : Cond.instanceMethod y_SB_append ∈ w_C := cC0_1 (List.mem_of_getElem? (i := 51) rfl)
theorem k_C_152 : Cond.selects "java/lang/StringBuilder" y_SB_append y_SB_append ∈ w_C := cC0_1 (List.mem_of_getElem? (i := 52) rfl)
theorem k_C_153 : Cond.code y_SB_append b_SB_append 2 (some (.object "java/lang/StringBuilder")) ∈ w_C := cC0_1 (List.mem_of_getElem? (i := 53) rfl)
theorem k_C_154 : Cond.methodLink "java/lang/StringBuilder" 50 y_AB_append ∈ w_C := cC0_1 (List.mem_of_getElem? (i := 54) rfl)
theorem k_C_155 : Cond.instanceMethod y_AB_append ∈ w_C := cC0_1 (List.mem_of_getElem? (i := 55) rfl)
theorem k_C_156 : Cond.code y_AB_append b_AB_append 2 (some (.object "java/lang/AbstractStringBuilder")) ∈ w_C := cC0_1 (List.mem_of_getElem? (i := 56) rfl)
theorem k_C_157 : Cond.methodLink "java/lang/AbstractStringBuilder" 100 y_AB_ensureCapacityInternal ∈ w_C := cC0_1 (List.mem_of_getElem? (i := 57) rfl)
theorem k_C_158 : Cond.instanceMethod y_AB_ensureCapacityInternal ∈ w_C := cC0_1 (List.mem_of_getElem? (i := 58) rfl)
theorem k_C_159 : Cond.code y_AB_ensureCapacityInternal b_AB_ensureCapacityInternal 3 none ∈ w_C := cC0_1 (List.mem_of_getElem? (i := 59) rfl)
theorem k_C_160 : Cond.methodLink "java/lang/AbstractStringBuilder" 104 y_AB_newCapacity ∈ w_C := cC0_1 (List.mem_of_getElem? (i := 60) rfl)
theorem k_C_161 : Cond.instanceMethod y_AB_newCapacity ∈ w_C := cC0_1 (List.mem_of_getElem? (i := 61) rfl)
theorem k_C_162 : Cond.code y_AB_newCapacity b_AB_newCapacity 6 (some .int) ∈ w_C := cC0_1 (List.mem_of_getElem? (i := 62) rfl)
theorem k_C_163 : Cond.methodLink "java/lang/AbstractStringBuilder" 114 y_As_newLength ∈ w_C := cC0_1 (List.mem_of_getElem? (i := 63) rfl)
theorem k_C_164 : Cond.static y_As_newLength ∈ w_C := cC0_1 (List.mem_of_getElem? (i := 64) rfl)
theorem k_C_165 : Cond.code y_As_newLength b_As_newLength 4 (some .int) ∈ w_C := cC0_1 (List.mem_of_getElem? (i := 65) rfl)
theorem k_C_166 : Cond.methodLink "jdk/internal/util/ArraysSupport" 194 Lib.Math.max.name ∈ w_C := cC0_1 (List.mem_of_getElem? (i := 66) rfl)
theorem k_C_167 : Cond.static Lib.Math.max.name ∈ w_C := cC0_1 (List.mem_of_getElem? (i := 67) rfl)
theorem k_C_168 : Cond.code Lib.Math.max.name Lib.Math.max.code 2 (some .int) ∈ w_C := cC0_1 (List.mem_of_getElem? (i := 68) rfl)
theorem k_C_169 : Cond.constant "jdk/internal/util/ArraysSupport" 200 2147483639 ∈ w_C := cC0_1 (List.mem_of_getElem? (i := 69) rfl)
theorem k_C_170 : Cond.methodLink "jdk/internal/util/ArraysSupport" 201 ⟨"jdk/internal/util/ArraysSupport", "hugeLength", "(II)I"⟩ ∈ w_C := cC0_1 (List.mem_of_getElem? (i := 70) rfl)
theorem k_C_171 : Cond.static ⟨"jdk/internal/util/ArraysSupport", "hugeLength", "(II)I"⟩ ∈ w_C := cC0_1 (List.mem_of_getElem? (i := 71) rfl)
theorem k_C_172 : Cond.code ⟨"jdk/internal/util/ArraysSupport", "hugeLength", "(II)I"⟩ prog_24_method_28_code 3 (some .int) ∈ w_C := cC0_1 (List.mem_of_getElem? (i := 72) rfl)
theorem k_C_173 : Cond.constant "java/lang/AbstractStringBuilder" 39 2147483647 ∈ w_C := cC0_1 (List.mem_of_getElem? (i := 73) rfl)
theorem k_C_174 : Cond.methodLink "java/lang/AbstractStringBuilder" 108 y_Ar_copyOf ∈ w_C := cC0_1 (List.mem_of_getElem? (i := 74) rfl)
theorem k_C_175 : Cond.static y_Ar_copyOf ∈ w_C := cC0_1 (List.mem_of_getElem? (i := 75) rfl)
theorem k_C_176 : Cond.code y_Ar_copyOf b_Ar_copyOf 3 (some (.array .byte)) ∈ w_C := cC0_1 (List.mem_of_getElem? (i := 76) rfl)
theorem k_C_177 : Cond.methodLink "java/util/Arrays" 310 ⟨"[B", "clone", "()Ljava/lang/Object;"⟩ ∈ w_C := cC0_1 (List.mem_of_getElem? (i := 77) rfl)
theorem k_C_178 : Cond.sameMethod "[B" "java/lang/Object" "clone" "()Ljava/lang/Object;" ∈ w_C := cC0_1 (List.mem_of_getElem? (i := 78) rfl)
theorem k_C_179 : Cond.native ⟨"java/lang/Object", "clone", "()Ljava/lang/Object;"⟩ ∈ w_C := cC0_1 (List.mem_of_getElem? (i := 79) rfl)
theorem k_C_180 : Cond.instanceMethod ⟨"java/lang/Object", "clone", "()Ljava/lang/Object;"⟩ ∈ w_C := cC0_1 (List.mem_of_getElem? (i := 80) rfl)
theorem k_C_181 : Cond.selects "[B" ⟨"[B", "clone", "()Ljava/lang/Object;"⟩ ⟨"java/lang/Object", "clone", "()Ljava/lang/Object;"⟩ ∈ w_C := cC0_1 (List.mem_of_getElem? (i := 81) rfl)
theorem k_C_182 : Cond.classLink "java/util/Arrays" 311 "[B" ∈ w_C := cC0_1 (List.mem_of_getElem? (i := 82) rfl)
theorem k_C_183 : Cond.methodLink "java/util/Arrays" 304 Lib.Math.min.name ∈ w_C := cC0_1 (List.mem_of_getElem? (i := 83) rfl)
theorem k_C_184 : Cond.static Lib.Math.min.name ∈ w_C := cC0_1 (List.mem_of_getElem? (i := 84) rfl)
theorem k_C_185 : Cond.code Lib.Math.min.name Lib.Math.min.code 2 (some .int) ∈ w_C := cC0_1 (List.mem_of_getElem? (i := 85) rfl)
theorem k_C_186 : Cond.methodLink "java/util/Arrays" 150 arraycopyName ∈ w_C := cC0_1 (List.mem_of_getElem? (i := 86) rfl)
theorem k_C_187 : Cond.static arraycopyName ∈ w_C := cC0_1 (List.mem_of_getElem? (i := 87) rfl)
theorem k_C_188 : Cond.native arraycopyName ∈ w_C := cC0_1 (List.mem_of_getElem? (i := 88) rfl)
theorem k_C_189 : Cond.methodLink "java/lang/AbstractStringBuilder" 83 y_AB_isLatin1 ∈ w_C := cC0_1 (List.mem_of_getElem? (i := 89) rfl)
theorem k_C_190 : Cond.instanceMethod y_AB_isLatin1 ∈ w_C := cC0_1 (List.mem_of_getElem? (i := 90) rfl)
theorem k_C_191 : Cond.sameMethod "java/lang/AbstractStringBuilder" "java/lang/AbstractStringBuilder" "isLatin1" "()Z" ∈ w_C := cC0_1 (List.mem_of_getElem? (i := 91) rfl)
theorem k_C_192 : Cond.selects "java/lang/StringBuilder" y_AB_isLatin1 y_AB_isLatin1 ∈ w_C := cC0_1 (List.mem_of_getElem? (i := 92) rfl)
theorem k_C_193 : Cond.code y_AB_isLatin1 b_AB_isLatin1 1 (some .boolean) ∈ w_C := cC0_1 (List.mem_of_getElem? (i := 93) rfl)
theorem k_C_194 : Cond.methodLink "java/lang/AbstractStringBuilder" 191 y_La_canEncode ∈ w_C := cC0_1 (List.mem_of_getElem? (i := 94) rfl)
theorem k_C_195 : Cond.static y_La_canEncode ∈ w_C := cC0_1 (List.mem_of_getElem? (i := 95) rfl)
theorem k_C_196 : Cond.code y_La_canEncode b_La_canEncode 1 (some .boolean) ∈ w_C := cC0_1 (List.mem_of_getElem? (i := 96) rfl)
theorem k_C_197 : Cond.methodLink "java/lang/AbstractStringBuilder" 195 ⟨"java/lang/AbstractStringBuilder", "inflate", "()V"⟩ ∈ w_C := cC0_1 (List.mem_of_getElem? (i := 97) rfl)
theorem k_C_198 : Cond.instanceMethod ⟨"java/lang/AbstractStringBuilder", "inflate", "()V"⟩ ∈ w_C := cC0_1 (List.mem_of_getElem? (i := 98) rfl)
theorem k_C_199 : Cond.code ⟨"java/lang/AbstractStringBuilder", "inflate", "()V"⟩ prog_14_method_11_code 2 none ∈ w_C := cC0_1 (List.mem_of_getElem? (i := 99) rfl)
theorem k_C_200 : Cond.methodLink "java/lang/AbstractStringBuilder" 125 ⟨"java/lang/StringLatin1", "inflate", "([BI[BII)V"⟩ ∈ w_C := cC0_2 (List.mem_of_getElem? (i := 0) rfl)
theorem k_C_201 : Cond.static ⟨"java/lang/StringLatin1", "inflate", "([BI[BII)V"⟩ ∈ w_C := cC0_2 (List.mem_of_getElem? (i := 1) rfl)
theorem k_C_202 : Cond.code ⟨"java/lang/StringLatin1", "inflate", "([BI[BII)V"⟩ prog_20_method_50_code 5 none ∈ w_C := cC0_2 (List.mem_of_getElem? (i := 2) rfl)
theorem k_C_203 : Cond.methodLink "java/lang/StringLatin1" 240 ⟨"java/lang/StringUTF16", "inflate", "([BI[BII)V"⟩ ∈ w_C := cC0_2 (List.mem_of_getElem? (i := 3) rfl)
theorem k_C_204 : Cond.static ⟨"java/lang/StringUTF16", "inflate", "([BI[BII)V"⟩ ∈ w_C := cC0_2 (List.mem_of_getElem? (i := 4) rfl)
theorem k_C_205 : Cond.code ⟨"java/lang/StringUTF16", "inflate", "([BI[BII)V"⟩ prog_21_method_86_code 6 none ∈ w_C := cC0_2 (List.mem_of_getElem? (i := 5) rfl)
theorem k_C_206 : Cond.methodLink "java/lang/StringUTF16" 173 ⟨"java/lang/StringUTF16", "checkBoundsOffCount", "(II[B)V"⟩ ∈ w_C := cC0_2 (List.mem_of_getElem? (i := 6) rfl)
theorem k_C_207 : Cond.static ⟨"java/lang/StringUTF16", "checkBoundsOffCount", "(II[B)V"⟩ ∈ w_C := cC0_2 (List.mem_of_getElem? (i := 7) rfl)
theorem k_C_208 : Cond.code ⟨"java/lang/StringUTF16", "checkBoundsOffCount", "(II[B)V"⟩ prog_21_method_94_code 3 none ∈ w_C := cC0_2 (List.mem_of_getElem? (i := 8) rfl)
theorem k_C_209 : Cond.methodLink "java/lang/StringUTF16" 48 ⟨"java/lang/StringUTF16", "length", "([B)I"⟩ ∈ w_C := cC0_2 (List.mem_of_getElem? (i := 9) rfl)
theorem k_C_210 : Cond.static ⟨"java/lang/StringUTF16", "length", "([B)I"⟩ ∈ w_C := cC0_2 (List.mem_of_getElem? (i := 10) rfl)
theorem k_C_211 : Cond.code ⟨"java/lang/StringUTF16", "length", "([B)I"⟩ prog_21_method_6_code 1 (some .int) ∈ w_C := cC0_2 (List.mem_of_getElem? (i := 11) rfl)
theorem k_C_212 : Cond.methodLink "java/lang/StringUTF16" 419 ⟨"java/lang/String", "checkBoundsOffCount", "(III)I"⟩ ∈ w_C := cC0_2 (List.mem_of_getElem? (i := 12) rfl)
theorem k_C_213 : Cond.static ⟨"java/lang/String", "checkBoundsOffCount", "(III)I"⟩ ∈ w_C := cC0_2 (List.mem_of_getElem? (i := 13) rfl)
theorem k_C_214 : Cond.code ⟨"java/lang/String", "checkBoundsOffCount", "(III)I"⟩ prog_18_method_157_code 3 (some .int) ∈ w_C := cC0_2 (List.mem_of_getElem? (i := 14) rfl)
theorem k_C_215 : Cond.fieldLink "java/lang/String" 1053 "jdk/internal/util/Preconditions" "SIOOBE_FORMATTER" "Ljava/util/function/BiFunction;" ∈ w_C := cC0_2 (List.mem_of_getElem? (i := 15) rfl)
theorem k_C_216 : Cond.methodLink "java/lang/String" 1065 ⟨"jdk/internal/util/Preconditions", "checkFromIndexSize", "(IIILjava/util/function/BiFunction;)I"⟩ ∈ w_C := cC0_2 (List.mem_of_getElem? (i := 16) rfl)
theorem k_C_217 : Cond.static ⟨"jdk/internal/util/Preconditions", "checkFromIndexSize", "(IIILjava/util/function/BiFunction;)I"⟩ ∈ w_C := cC0_2 (List.mem_of_getElem? (i := 17) rfl)
theorem k_C_218 : Cond.code ⟨"jdk/internal/util/Preconditions", "checkFromIndexSize", "(IIILjava/util/function/BiFunction;)I"⟩ prog_25_method_13_code 4 (some .int) ∈ w_C := cC0_2 (List.mem_of_getElem? (i := 18) rfl)
theorem k_C_219 : Cond.methodLink "java/lang/StringUTF16" 111 ⟨"java/lang/StringUTF16", "putChar", "([BII)V"⟩ ∈ w_C := cC0_2 (List.mem_of_getElem? (i := 19) rfl)
theorem k_C_220 : Cond.static ⟨"java/lang/StringUTF16", "putChar", "([BII)V"⟩ ∈ w_C := cC0_2 (List.mem_of_getElem? (i := 20) rfl)
theorem k_C_221 : Cond.code ⟨"java/lang/StringUTF16", "putChar", "([BII)V"⟩ prog_21_method_4_code 3 none ∈ w_C := cC0_2 (List.mem_of_getElem? (i := 21) rfl)
theorem k_C_222 : Cond.fieldLink "java/lang/StringUTF16" 44 "java/lang/StringUTF16" "$assertionsDisabled" "Z" ∈ w_C := cC0_2 (List.mem_of_getElem? (i := 22) rfl)
theorem k_C_223 : Cond.fieldLink "java/lang/StringUTF16" 59 "java/lang/StringUTF16" "HI_BYTE_SHIFT" "I" ∈ w_C := cC0_2 (List.mem_of_getElem? (i := 23) rfl)
theorem k_C_224 : Cond.fieldLink "java/lang/StringUTF16" 63 "java/lang/StringUTF16" "LO_BYTE_SHIFT" "I" ∈ w_C := cC0_2 (List.mem_of_getElem? (i := 24) rfl)
theorem k_C_225 : Cond.methodLink "java/lang/AbstractStringBuilder" 197 ⟨"java/lang/StringUTF16", "putCharSB", "([BII)V"⟩ ∈ w_C := cC0_2 (List.mem_of_getElem? (i := 25) rfl)
theorem k_C_226 : Cond.static ⟨"java/lang/StringUTF16", "putCharSB", "([BII)V"⟩ ∈ w_C := cC0_2 (List.mem_of_getElem? (i := 26) rfl)
theorem k_C_227 : Cond.code ⟨"java/lang/StringUTF16", "putCharSB", "([BII)V"⟩ prog_21_method_71_code 3 none ∈ w_C := cC0_2 (List.mem_of_getElem? (i := 27) rfl)
theorem k_C_228 : Cond.methodLink "java/lang/StringUTF16" 67 ⟨"java/lang/StringUTF16", "checkIndex", "(I[B)V"⟩ ∈ w_C := cC0_2 (List.mem_of_getElem? (i := 28) rfl)
theorem k_C_229 : Cond.static ⟨"java/lang/StringUTF16", "checkIndex", "(I[B)V"⟩ ∈ w_C := cC0_2 (List.mem_of_getElem? (i := 29) rfl)
theorem k_C_230 : Cond.code ⟨"java/lang/StringUTF16", "checkIndex", "(I[B)V"⟩ prog_21_method_91_code 2 none ∈ w_C := cC0_2 (List.mem_of_getElem? (i := 30) rfl)
theorem k_C_231 : Cond.methodLink "java/lang/StringUTF16" 414 y_St_checkIndex ∈ w_C := cC0_2 (List.mem_of_getElem? (i := 31) rfl)
theorem k_C_232 : Cond.static y_St_checkIndex ∈ w_C := cC0_2 (List.mem_of_getElem? (i := 32) rfl)
theorem k_C_233 : Cond.code y_St_checkIndex b_St_checkIndex 2 none ∈ w_C := cC0_2 (List.mem_of_getElem? (i := 33) rfl)
theorem k_C_234 : Cond.methodLink "java/lang/String" 1059 y_Pr_checkIndex ∈ w_C := cC0_2 (List.mem_of_getElem? (i := 34) rfl)
theorem k_C_235 : Cond.static y_Pr_checkIndex ∈ w_C := cC0_2 (List.mem_of_getElem? (i := 35) rfl)
theorem k_C_236 : Cond.code y_Pr_checkIndex b_Pr_checkIndex 3 (some .int) ∈ w_C := cC0_2 (List.mem_of_getElem? (i := 36) rfl)
theorem k_C_237 : Cond.instanceMethod y_W_run ∈ w_C := cC0_2 (List.mem_of_getElem? (i := 37) rfl)
theorem k_C_238 : Cond.selects "WordSmith" y_W_run y_W_run ∈ w_C := cC0_2 (List.mem_of_getElem? (i := 38) rfl)
theorem k_C_239 : Cond.code y_W_run b_W_run 3 (some .int) ∈ w_C := cC0_2 (List.mem_of_getElem? (i := 39) rfl)
theorem k_C_240 : Cond.methodLink "WordSmith" 35 y_SB_toString ∈ w_C := cC0_2 (List.mem_of_getElem? (i := 40) rfl)
theorem k_C_241 : Cond.instanceMethod y_SB_toString ∈ w_C := cC0_2 (List.mem_of_getElem? (i := 41) rfl)
theorem k_C_242 : Cond.selects "java/lang/StringBuilder" y_SB_toString y_SB_toString ∈ w_C := cC0_2 (List.mem_of_getElem? (i := 42) rfl)
theorem k_C_243 : Cond.code y_SB_toString b_SB_toString 1 (some (.object "java/lang/String")) ∈ w_C := cC0_2 (List.mem_of_getElem? (i := 43) rfl)
theorem k_C_244 : Cond.classLink "java/lang/StringBuilder" 18 "java/lang/String" ∈ w_C := cC0_2 (List.mem_of_getElem? (i := 44) rfl)
theorem k_C_245 : Cond.instantiable "java/lang/String" 4 ∈ w_C := cC0_2 (List.mem_of_getElem? (i := 45) rfl)
theorem k_C_246 : Cond.methodLink "java/lang/StringBuilder" 137 y_St_initS ∈ w_C := cC0_2 (List.mem_of_getElem? (i := 46) rfl)
theorem k_C_247 : Cond.instanceMethod y_St_initS ∈ w_C := cC0_2 (List.mem_of_getElem? (i := 47) rfl)
theorem k_C_248 : Cond.code y_St_initS b_St_initS 2 none ∈ w_C := cC0_2 (List.mem_of_getElem? (i := 48) rfl)
theorem k_C_249 : Cond.methodLink "java/lang/String" 489 y_St_initA ∈ w_C := cC0_2 (List.mem_of_getElem? (i := 49) rfl)
theorem k_C_250 : Cond.instanceMethod y_St_initA ∈ w_C := cC0_2 (List.mem_of_getElem? (i := 50) rfl)
theorem k_C_251 : Cond.code y_St_initA b_St_initA 5 none ∈ w_C := cC0_2 (List.mem_of_getElem? (i := 51) rfl)
theorem k_C_252 : Cond.methodLink "java/lang/String" 1 objectInit ∈ w_C := cC0_2 (List.mem_of_getElem? (i := 52) rfl)
theorem k_C_253 : Cond.methodLink "java/lang/String" 552 y_AB_getValue ∈ w_C := cC0_2 (List.mem_of_getElem? (i := 53) rfl)
theorem k_C_254 : Cond.instanceMethod y_AB_getValue ∈ w_C := cC0_2 (List.mem_of_getElem? (i := 54) rfl)
theorem k_C_255 : Cond.sameMethod "java/lang/AbstractStringBuilder" "java/lang/AbstractStringBuilder" "getValue" "()[B" ∈ w_C := cC0_2 (List.mem_of_getElem? (i := 55) rfl)
theorem k_C_256 : Cond.selects "java/lang/StringBuilder" y_AB_getValue y_AB_getValue ∈ w_C := cC0_2 (List.mem_of_getElem? (i := 56) rfl)
theorem k_C_257 : Cond.code y_AB_getValue b_AB_getValue 1 (some (.array .byte)) ∈ w_C := cC0_2 (List.mem_of_getElem? (i := 57) rfl)
theorem k_C_258 : Cond.methodLink "java/lang/String" 549 y_AB_length ∈ w_C := cC0_2 (List.mem_of_getElem? (i := 58) rfl)
theorem k_C_259 : Cond.methodLink "java/lang/String" 1047 y_AB_isLatin1 ∈ w_C := cC0_2 (List.mem_of_getElem? (i := 59) rfl)
theorem k_C_260 : Cond.methodLink "java/lang/String" 54 y_Ar_copyOfRange ∈ w_C := cC0_2 (List.mem_of_getElem? (i := 60) rfl)
theorem k_C_261 : Cond.static y_Ar_copyOfRange ∈ w_C := cC0_2 (List.mem_of_getElem? (i := 61) rfl)
theorem k_C_262 : Cond.code y_Ar_copyOfRange b_Ar_copyOfRange 3 (some (.array .byte)) ∈ w_C := cC0_2 (List.mem_of_getElem? (i := 62) rfl)
theorem k_C_263 : Cond.methodLink "java/util/Arrays" 339 y_Ar_copyOfRangeByte ∈ w_C := cC0_2 (List.mem_of_getElem? (i := 63) rfl)
theorem k_C_264 : Cond.static y_Ar_copyOfRangeByte ∈ w_C := cC0_2 (List.mem_of_getElem? (i := 64) rfl)
theorem k_C_265 : Cond.code y_Ar_copyOfRangeByte b_Ar_copyOfRangeByte 5 (some (.array .byte)) ∈ w_C := cC0_2 (List.mem_of_getElem? (i := 65) rfl)
theorem k_C_266 : Cond.methodLink "java/util/Arrays" 343 y_Ar_checkLength ∈ w_C := cC0_2 (List.mem_of_getElem? (i := 66) rfl)
theorem k_C_267 : Cond.static y_Ar_checkLength ∈ w_C := cC0_2 (List.mem_of_getElem? (i := 67) rfl)
theorem k_C_268 : Cond.code y_Ar_checkLength b_Ar_checkLength 2 none ∈ w_C := cC0_2 (List.mem_of_getElem? (i := 68) rfl)
theorem k_C_269 : Cond.fieldLink "java/lang/String" 38 "java/lang/String" "COMPACT_STRINGS" "Z" ∈ w_C := cC0_2 (List.mem_of_getElem? (i := 69) rfl)
theorem k_C_270 : Cond.methodLink "java/lang/String" 1051 ⟨"java/lang/StringUTF16", "compress", "([BII)[B"⟩ ∈ w_C := cC0_2 (List.mem_of_getElem? (i := 70) rfl)
theorem k_C_271 : Cond.static ⟨"java/lang/StringUTF16", "compress", "([BII)[B"⟩ ∈ w_C := cC0_2 (List.mem_of_getElem? (i := 71) rfl)
theorem k_C_272 : Cond.code ⟨"java/lang/StringUTF16", "compress", "([BII)[B"⟩ prog_21_method_17_code 6 (some (.array .byte)) ∈ w_C := cC0_2 (List.mem_of_getElem? (i := 72) rfl)
theorem k_C_273 : Cond.methodLink "java/lang/StringUTF16" 123 ⟨"java/lang/StringUTF16", "compress", "([BI[BII)I"⟩ ∈ w_C := cC0_2 (List.mem_of_getElem? (i := 73) rfl)
theorem k_C_274 : Cond.static ⟨"java/lang/StringUTF16", "compress", "([BI[BII)I"⟩ ∈ w_C := cC0_2 (List.mem_of_getElem? (i := 74) rfl)
theorem k_C_275 : Cond.code ⟨"java/lang/StringUTF16", "compress", "([BI[BII)I"⟩ prog_21_method_22_code 7 (some .int) ∈ w_C := cC0_2 (List.mem_of_getElem? (i := 75) rfl)
theorem k_C_276 : Cond.methodLink "java/lang/StringUTF16" 71 ⟨"java/lang/StringUTF16", "getChar", "([BI)C"⟩ ∈ w_C := cC0_2 (List.mem_of_getElem? (i := 76) rfl)
theorem k_C_277 : Cond.static ⟨"java/lang/StringUTF16", "getChar", "([BI)C"⟩ ∈ w_C := cC0_2 (List.mem_of_getElem? (i := 77) rfl)
theorem k_C_278 : Cond.code ⟨"java/lang/StringUTF16", "getChar", "([BI)C"⟩ prog_21_method_5_code 2 (some .char) ∈ w_C := cC0_2 (List.mem_of_getElem? (i := 78) rfl)
theorem k_C_279 : Cond.methodLink "java/lang/StringUTF16" 126 y_Ar_copyOfRange ∈ w_C := cC0_2 (List.mem_of_getElem? (i := 79) rfl)
theorem k_C_280 : Cond.methodLink "java/lang/String" 47 ⟨"java/lang/StringUTF16", "coderFromArrayLen", "([BI)B"⟩ ∈ w_C := cC0_2 (List.mem_of_getElem? (i := 80) rfl)
theorem k_C_281 : Cond.static ⟨"java/lang/StringUTF16", "coderFromArrayLen", "([BI)B"⟩ ∈ w_C := cC0_2 (List.mem_of_getElem? (i := 81) rfl)
theorem k_C_282 : Cond.code ⟨"java/lang/StringUTF16", "coderFromArrayLen", "([BI)B"⟩ prog_21_method_15_code 2 (some .byte) ∈ w_C := cC0_2 (List.mem_of_getElem? (i := 82) rfl)
theorem k_C_283 : Cond.fieldLink "java/lang/String" 9 "java/lang/String" "value" "[B" ∈ w_C := cC0_2 (List.mem_of_getElem? (i := 83) rfl)
theorem k_C_284 : Cond.fieldLink "java/lang/String" 15 "java/lang/String" "coder" "B" ∈ w_C := cC0_2 (List.mem_of_getElem? (i := 84) rfl)
theorem k_C_285 : Cond.superclass "java/lang/String" "java/lang/Object" ∈ w_C := cC0_2 (List.mem_of_getElem? (i := 85) rfl)
theorem k_C_286 : Cond.methodLink "WordSmith" 39 y_Rd_take ∈ w_C := cC0_2 (List.mem_of_getElem? (i := 86) rfl)
theorem k_C_287 : Cond.instanceMethod y_Rd_take ∈ w_C := cC0_2 (List.mem_of_getElem? (i := 87) rfl)
theorem k_C_288 : Cond.selects "WordSmith$Reader" y_Rd_take y_Rd_take ∈ w_C := cC0_2 (List.mem_of_getElem? (i := 88) rfl)
theorem k_C_289 : Cond.code y_Rd_take b_Rd_take 2 none ∈ w_C := cC0_2 (List.mem_of_getElem? (i := 89) rfl)
theorem k_C_290 : Cond.methodLink "WordSmith$Reader" 38 y_Ma_refuel ∈ w_C := cC0_2 (List.mem_of_getElem? (i := 90) rfl)
theorem k_C_291 : Cond.instanceMethod y_Ma_refuel ∈ w_C := cC0_2 (List.mem_of_getElem? (i := 91) rfl)
theorem k_C_292 : Cond.selects "WordSmith$Machine" y_Ma_refuel y_Ma_refuel ∈ w_C := cC0_2 (List.mem_of_getElem? (i := 92) rfl)
theorem k_C_293 : Cond.code y_Ma_refuel b_Ma_refuel 1 none ∈ w_C := cC0_2 (List.mem_of_getElem? (i := 93) rfl)
theorem k_C_294 : Cond.methodLink "WordSmith" 43 y_SB_setLength ∈ w_C := cC0_2 (List.mem_of_getElem? (i := 94) rfl)
theorem k_C_295 : Cond.instanceMethod y_SB_setLength ∈ w_C := cC0_2 (List.mem_of_getElem? (i := 95) rfl)
theorem k_C_296 : Cond.selects "java/lang/StringBuilder" y_SB_setLength y_SB_setLength ∈ w_C := cC0_2 (List.mem_of_getElem? (i := 96) rfl)
theorem k_C_297 : Cond.code y_SB_setLength b_SB_setLength 2 none ∈ w_C := cC0_2 (List.mem_of_getElem? (i := 97) rfl)
theorem k_C_298 : Cond.methodLink "java/lang/StringBuilder" 333 y_AB_setLength ∈ w_C := cC0_2 (List.mem_of_getElem? (i := 98) rfl)
theorem k_C_299 : Cond.instanceMethod y_AB_setLength ∈ w_C := cC0_2 (List.mem_of_getElem? (i := 99) rfl)
theorem k_C_300 : Cond.code y_AB_setLength b_AB_setLength 2 none ∈ w_C := cC0_3 (List.mem_of_getElem? (i := 0) rfl)
theorem k_C_301 : Cond.methodLink "java/lang/AbstractStringBuilder" 133 ⟨"java/lang/StringLatin1", "fillNull", "([BII)V"⟩ ∈ w_C := cC0_3 (List.mem_of_getElem? (i := 1) rfl)
theorem k_C_302 : Cond.static ⟨"java/lang/StringLatin1", "fillNull", "([BII)V"⟩ ∈ w_C := cC0_3 (List.mem_of_getElem? (i := 2) rfl)
theorem k_C_303 : Cond.code ⟨"java/lang/StringLatin1", "fillNull", "([BII)V"⟩ prog_20_method_48_code 3 none ∈ w_C := cC0_3 (List.mem_of_getElem? (i := 3) rfl)
theorem k_C_304 : Cond.methodLink "java/lang/StringLatin1" 236 ⟨"java/util/Arrays", "fill", "([BIIB)V"⟩ ∈ w_C := cC0_3 (List.mem_of_getElem? (i := 4) rfl)
theorem k_C_305 : Cond.static ⟨"java/util/Arrays", "fill", "([BIIB)V"⟩ ∈ w_C := cC0_3 (List.mem_of_getElem? (i := 5) rfl)
theorem k_C_306 : Cond.code ⟨"java/util/Arrays", "fill", "([BIIB)V"⟩ prog_23_method_110_code 5 none ∈ w_C := cC0_3 (List.mem_of_getElem? (i := 6) rfl)
theorem k_C_307 : Cond.methodLink "java/util/Arrays" 13 ⟨"java/util/Arrays", "rangeCheck", "(III)V"⟩ ∈ w_C := cC0_3 (List.mem_of_getElem? (i := 7) rfl)
theorem k_C_308 : Cond.static ⟨"java/util/Arrays", "rangeCheck", "(III)V"⟩ ∈ w_C := cC0_3 (List.mem_of_getElem? (i := 8) rfl)
theorem k_C_309 : Cond.code ⟨"java/util/Arrays", "rangeCheck", "(III)V"⟩ prog_23_method_30_code 3 none ∈ w_C := cC0_3 (List.mem_of_getElem? (i := 9) rfl)
theorem k_C_310 : Cond.methodLink "java/lang/AbstractStringBuilder" 137 ⟨"java/lang/StringUTF16", "fillNull", "([BII)V"⟩ ∈ w_C := cC0_3 (List.mem_of_getElem? (i := 10) rfl)
theorem k_C_311 : Cond.static ⟨"java/lang/StringUTF16", "fillNull", "([BII)V"⟩ ∈ w_C := cC0_3 (List.mem_of_getElem? (i := 11) rfl)
theorem k_C_312 : Cond.code ⟨"java/lang/StringUTF16", "fillNull", "([BII)V"⟩ prog_21_method_70_code 3 none ∈ w_C := cC0_3 (List.mem_of_getElem? (i := 12) rfl)
theorem k_C_313 : Cond.methodLink "java/lang/StringUTF16" 380 ⟨"java/util/Arrays", "fill", "([BIIB)V"⟩ ∈ w_C := cC0_3 (List.mem_of_getElem? (i := 13) rfl)
theorem k_C_314 : Cond.methodLink "WordSmith" 47 y_Rd_advance ∈ w_C := cC0_3 (List.mem_of_getElem? (i := 14) rfl)
theorem k_C_315 : Cond.instanceMethod y_Rd_advance ∈ w_C := cC0_3 (List.mem_of_getElem? (i := 15) rfl)
theorem k_C_316 : Cond.selects "WordSmith$Reader" y_Rd_advance y_Rd_advance ∈ w_C := cC0_3 (List.mem_of_getElem? (i := 16) rfl)
theorem k_C_317 : Cond.code y_Rd_advance b_Rd_advance 1 (some .boolean) ∈ w_C := cC0_3 (List.mem_of_getElem? (i := 17) rfl)
theorem k_C_318 : Cond.methodLink "WordSmith$Reader" 41 y_Rd_skipSpaces ∈ w_C := cC0_3 (List.mem_of_getElem? (i := 18) rfl)
theorem k_C_319 : Cond.instanceMethod y_Rd_skipSpaces ∈ w_C := cC0_3 (List.mem_of_getElem? (i := 19) rfl)
theorem k_C_320 : Cond.code y_Rd_skipSpaces b_Rd_skipSpaces 1 none ∈ w_C := cC0_3 (List.mem_of_getElem? (i := 20) rfl)
theorem k_C_321 : Cond.methodLink "WordSmith$Reader" 57 y_St_length ∈ w_C := cC0_3 (List.mem_of_getElem? (i := 21) rfl)
theorem k_C_322 : Cond.instanceMethod y_St_length ∈ w_C := cC0_3 (List.mem_of_getElem? (i := 22) rfl)
theorem k_C_323 : Cond.selects "java/lang/String" y_St_length y_St_length ∈ w_C := cC0_3 (List.mem_of_getElem? (i := 23) rfl)
theorem k_C_324 : Cond.code y_St_length b_St_length 1 (some .int) ∈ w_C := cC0_3 (List.mem_of_getElem? (i := 24) rfl)
theorem k_C_325 : Cond.methodLink "java/lang/String" 335 y_St_coder ∈ w_C := cC0_3 (List.mem_of_getElem? (i := 25) rfl)
theorem k_C_326 : Cond.instanceMethod y_St_coder ∈ w_C := cC0_3 (List.mem_of_getElem? (i := 26) rfl)
theorem k_C_327 : Cond.selects "java/lang/String" y_St_coder y_St_coder ∈ w_C := cC0_3 (List.mem_of_getElem? (i := 27) rfl)
theorem k_C_328 : Cond.code y_St_coder b_St_coder 1 (some .byte) ∈ w_C := cC0_3 (List.mem_of_getElem? (i := 28) rfl)
theorem k_C_329 : Cond.methodLink "WordSmith$Reader" 61 y_St_charAt ∈ w_C := cC0_3 (List.mem_of_getElem? (i := 29) rfl)
theorem k_C_330 : Cond.instanceMethod y_St_charAt ∈ w_C := cC0_3 (List.mem_of_getElem? (i := 30) rfl)
theorem k_C_331 : Cond.selects "java/lang/String" y_St_charAt y_St_charAt ∈ w_C := cC0_3 (List.mem_of_getElem? (i := 31) rfl)
theorem k_C_332 : Cond.code y_St_charAt b_St_charAt 2 (some .char) ∈ w_C := cC0_3 (List.mem_of_getElem? (i := 32) rfl)
theorem k_C_333 : Cond.methodLink "java/lang/String" 492 y_St_isLatin1 ∈ w_C := cC0_3 (List.mem_of_getElem? (i := 33) rfl)
theorem k_C_334 : Cond.instanceMethod y_St_isLatin1 ∈ w_C := cC0_3 (List.mem_of_getElem? (i := 34) rfl)
theorem k_C_335 : Cond.selects "java/lang/String" y_St_isLatin1 y_St_isLatin1 ∈ w_C := cC0_3 (List.mem_of_getElem? (i := 35) rfl)
theorem k_C_336 : Cond.code y_St_isLatin1 b_St_isLatin1 1 (some .boolean) ∈ w_C := cC0_3 (List.mem_of_getElem? (i := 36) rfl)
theorem k_C_337 : Cond.methodLink "java/lang/String" 495 y_La_charAt ∈ w_C := cC0_3 (List.mem_of_getElem? (i := 37) rfl)
theorem k_C_338 : Cond.static y_La_charAt ∈ w_C := cC0_3 (List.mem_of_getElem? (i := 38) rfl)
theorem k_C_339 : Cond.code y_La_charAt b_La_charAt 2 (some .char) ∈ w_C := cC0_3 (List.mem_of_getElem? (i := 39) rfl)
theorem k_C_340 : Cond.methodLink "java/lang/StringLatin1" 9 y_St_checkIndex ∈ w_C := cC0_3 (List.mem_of_getElem? (i := 40) rfl)
theorem k_C_341 : Cond.methodLink "java/lang/String" 498 ⟨"java/lang/StringUTF16", "charAt", "([BI)C"⟩ ∈ w_C := cC0_3 (List.mem_of_getElem? (i := 41) rfl)
theorem k_C_342 : Cond.static ⟨"java/lang/StringUTF16", "charAt", "([BI)C"⟩ ∈ w_C := cC0_3 (List.mem_of_getElem? (i := 42) rfl)
theorem k_C_343 : Cond.code ⟨"java/lang/StringUTF16", "charAt", "([BI)C"⟩ prog_21_method_83_code 2 (some .char) ∈ w_C := cC0_3 (List.mem_of_getElem? (i := 43) rfl)
theorem k_C_344 : Cond.methodLink "WordSmith$Reader" 47 y_Rd_cutToken ∈ w_C := cC0_3 (List.mem_of_getElem? (i := 44) rfl)
theorem k_C_345 : Cond.instanceMethod y_Rd_cutToken ∈ w_C := cC0_3 (List.mem_of_getElem? (i := 45) rfl)
theorem k_C_346 : Cond.code y_Rd_cutToken b_Rd_cutToken 2 (some (.object "java/lang/String")) ∈ w_C := cC0_3 (List.mem_of_getElem? (i := 46) rfl)
theorem k_C_347 : Cond.methodLink "WordSmith$Reader" 65 y_St_substring ∈ w_C := cC0_3 (List.mem_of_getElem? (i := 47) rfl)
theorem k_C_348 : Cond.instanceMethod y_St_substring ∈ w_C := cC0_3 (List.mem_of_getElem? (i := 48) rfl)
theorem k_C_349 : Cond.selects "java/lang/String" y_St_substring y_St_substring ∈ w_C := cC0_3 (List.mem_of_getElem? (i := 49) rfl)
theorem k_C_350 : Cond.code y_St_substring b_St_substring 5 (some (.object "java/lang/String")) ∈ w_C := cC0_3 (List.mem_of_getElem? (i := 50) rfl)
theorem k_C_351 : Cond.methodLink "java/lang/String" 505 y_St_length ∈ w_C := cC0_3 (List.mem_of_getElem? (i := 51) rfl)
theorem k_C_352 : Cond.methodLink "java/lang/String" 521 y_St_checkBoundsBeginEnd ∈ w_C := cC0_3 (List.mem_of_getElem? (i := 52) rfl)
theorem k_C_353 : Cond.static y_St_checkBoundsBeginEnd ∈ w_C := cC0_3 (List.mem_of_getElem? (i := 53) rfl)
theorem k_C_354 : Cond.code y_St_checkBoundsBeginEnd b_St_checkBoundsBeginEnd 3 none ∈ w_C := cC0_3 (List.mem_of_getElem? (i := 54) rfl)
theorem k_C_355 : Cond.methodLink "java/lang/String" 1062 y_Pr_checkFromToIndex ∈ w_C := cC0_3 (List.mem_of_getElem? (i := 55) rfl)
theorem k_C_356 : Cond.static y_Pr_checkFromToIndex ∈ w_C := cC0_3 (List.mem_of_getElem? (i := 56) rfl)
theorem k_C_357 : Cond.code y_Pr_checkFromToIndex b_Pr_checkFromToIndex 4 (some .int) ∈ w_C := cC0_3 (List.mem_of_getElem? (i := 57) rfl)
theorem k_C_358 : Cond.methodLink "java/lang/String" 685 y_La_newString ∈ w_C := cC0_3 (List.mem_of_getElem? (i := 58) rfl)
theorem k_C_359 : Cond.static y_La_newString ∈ w_C := cC0_3 (List.mem_of_getElem? (i := 59) rfl)
theorem k_C_360 : Cond.code y_La_newString b_La_newString 3 (some (.object "java/lang/String")) ∈ w_C := cC0_3 (List.mem_of_getElem? (i := 60) rfl)
theorem k_C_361 : Cond.classLink "java/lang/StringLatin1" 1 "java/lang/String" ∈ w_C := cC0_3 (List.mem_of_getElem? (i := 61) rfl)
theorem k_C_362 : Cond.methodLink "java/lang/StringLatin1" 232 y_Ar_copyOfRange ∈ w_C := cC0_3 (List.mem_of_getElem? (i := 62) rfl)
theorem k_C_363 : Cond.methodLink "java/lang/StringLatin1" 112 y_St_init ∈ w_C := cC0_3 (List.mem_of_getElem? (i := 63) rfl)
theorem k_C_364 : Cond.instanceMethod y_St_init ∈ w_C := cC0_3 (List.mem_of_getElem? (i := 64) rfl)
theorem k_C_365 : Cond.code y_St_init b_St_init 3 none ∈ w_C := cC0_3 (List.mem_of_getElem? (i := 65) rfl)
theorem k_C_366 : Cond.methodLink "java/lang/String" 689 ⟨"java/lang/StringUTF16", "newString", "([BII)Ljava/lang/String;"⟩ ∈ w_C := cC0_3 (List.mem_of_getElem? (i := 66) rfl)
theorem k_C_367 : Cond.static ⟨"java/lang/StringUTF16", "newString", "([BII)Ljava/lang/String;"⟩ ∈ w_C := cC0_3 (List.mem_of_getElem? (i := 67) rfl)
theorem k_C_368 : Cond.code ⟨"java/lang/StringUTF16", "newString", "([BII)Ljava/lang/String;"⟩ prog_21_method_69_code 5 (some (.object "java/lang/String")) ∈ w_C := cC0_3 (List.mem_of_getElem? (i := 68) rfl)
theorem k_C_369 : Cond.fieldLink "java/lang/StringUTF16" 251 "java/lang/String" "COMPACT_STRINGS" "Z" ∈ w_C := cC0_3 (List.mem_of_getElem? (i := 69) rfl)
theorem k_C_370 : Cond.methodLink "java/lang/StringUTF16" 257 ⟨"java/lang/StringUTF16", "compress", "([BII)[B"⟩ ∈ w_C := cC0_3 (List.mem_of_getElem? (i := 70) rfl)
theorem k_C_371 : Cond.methodLink "java/lang/StringUTF16" 259 ⟨"java/lang/StringUTF16", "coderFromArrayLen", "([BI)B"⟩ ∈ w_C := cC0_3 (List.mem_of_getElem? (i := 71) rfl)
theorem k_C_372 : Cond.classLink "java/lang/StringUTF16" 3 "java/lang/String" ∈ w_C := cC0_3 (List.mem_of_getElem? (i := 72) rfl)
theorem k_C_373 : Cond.methodLink "java/lang/StringUTF16" 263 y_St_init ∈ w_C := cC0_3 (List.mem_of_getElem? (i := 73) rfl)
theorem k_C_374 : Cond.methodLink "WordSmith$Reader" 51 y_St_isEmpty ∈ w_C := cC0_3 (List.mem_of_getElem? (i := 74) rfl)
theorem k_C_375 : Cond.instanceMethod y_St_isEmpty ∈ w_C := cC0_3 (List.mem_of_getElem? (i := 75) rfl)
theorem k_C_376 : Cond.selects "java/lang/String" y_St_isEmpty y_St_isEmpty ∈ w_C := cC0_3 (List.mem_of_getElem? (i := 76) rfl)
theorem k_C_377 : Cond.code y_St_isEmpty b_St_isEmpty 1 (some .boolean) ∈ w_C := cC0_3 (List.mem_of_getElem? (i := 77) rfl)
theorem k_C_378 : Cond.methodLink "WordSmith" 51 y_Rd_readToken ∈ w_C := cC0_3 (List.mem_of_getElem? (i := 78) rfl)
theorem k_C_379 : Cond.instanceMethod y_Rd_readToken ∈ w_C := cC0_3 (List.mem_of_getElem? (i := 79) rfl)
theorem k_C_380 : Cond.selects "WordSmith$Reader" y_Rd_readToken y_Rd_readToken ∈ w_C := cC0_3 (List.mem_of_getElem? (i := 80) rfl)
theorem k_C_381 : Cond.code y_Rd_readToken b_Rd_readToken 3 (some .int) ∈ w_C := cC0_3 (List.mem_of_getElem? (i := 81) rfl)
theorem k_C_382 : Cond.methodLink "WordSmith$Reader" 76 y_Ma_burn ∈ w_C := cC0_3 (List.mem_of_getElem? (i := 82) rfl)
theorem k_C_383 : Cond.instanceMethod y_Ma_burn ∈ w_C := cC0_3 (List.mem_of_getElem? (i := 83) rfl)
theorem k_C_384 : Cond.selects "WordSmith$Machine" y_Ma_burn y_Ma_burn ∈ w_C := cC0_3 (List.mem_of_getElem? (i := 84) rfl)
theorem k_C_385 : Cond.code y_Ma_burn b_Ma_burn 1 (some .boolean) ∈ w_C := cC0_3 (List.mem_of_getElem? (i := 85) rfl)
theorem k_C_386 : Cond.methodLink "WordSmith$Reader" 79 y_Rd_isNumber ∈ w_C := cC0_3 (List.mem_of_getElem? (i := 86) rfl)
theorem k_C_387 : Cond.static y_Rd_isNumber ∈ w_C := cC0_3 (List.mem_of_getElem? (i := 87) rfl)
theorem k_C_388 : Cond.code y_Rd_isNumber b_Rd_isNumber 4 (some .boolean) ∈ w_C := cC0_3 (List.mem_of_getElem? (i := 88) rfl)
theorem k_C_389 : Cond.methodLink "WordSmith$Reader" 83 y_Rd_numberOf ∈ w_C := cC0_3 (List.mem_of_getElem? (i := 89) rfl)
theorem k_C_390 : Cond.static y_Rd_numberOf ∈ w_C := cC0_3 (List.mem_of_getElem? (i := 90) rfl)
theorem k_C_391 : Cond.code y_Rd_numberOf b_Rd_numberOf 4 (some .int) ∈ w_C := cC0_3 (List.mem_of_getElem? (i := 91) rfl)
theorem k_C_392 : Cond.methodLink "WordSmith$Reader" 87 y_Rd_readNumber ∈ w_C := cC0_3 (List.mem_of_getElem? (i := 92) rfl)
theorem k_C_393 : Cond.instanceMethod y_Rd_readNumber ∈ w_C := cC0_3 (List.mem_of_getElem? (i := 93) rfl)
theorem k_C_394 : Cond.code y_Rd_readNumber b_Rd_readNumber 2 (some .int) ∈ w_C := cC0_3 (List.mem_of_getElem? (i := 94) rfl)
theorem k_C_395 : Cond.methodLink "WordSmith$Reader" 122 y_Co_isCompiling ∈ w_C := cC0_3 (List.mem_of_getElem? (i := 95) rfl)
theorem k_C_396 : Cond.instanceMethod y_Co_isCompiling ∈ w_C := cC0_3 (List.mem_of_getElem? (i := 96) rfl)
theorem k_C_397 : Cond.selects "WordSmith$Compiler" y_Co_isCompiling y_Co_isCompiling ∈ w_C := cC0_3 (List.mem_of_getElem? (i := 97) rfl)
theorem k_C_398 : Cond.code y_Co_isCompiling b_Co_isCompiling 1 (some .boolean) ∈ w_C := cC0_3 (List.mem_of_getElem? (i := 98) rfl)
theorem k_C_399 : Cond.methodLink "WordSmith$Reader" 127 y_Co_addItem ∈ w_C := cC0_3 (List.mem_of_getElem? (i := 99) rfl)
theorem k_C_400 : Cond.instanceMethod y_Co_addItem ∈ w_C := cC0_4 (List.mem_of_getElem? (i := 0) rfl)
theorem k_C_401 : Cond.selects "WordSmith$Compiler" y_Co_addItem y_Co_addItem ∈ w_C := cC0_4 (List.mem_of_getElem? (i := 1) rfl)
theorem k_C_402 : Cond.code y_Co_addItem b_Co_addItem 3 (some .int) ∈ w_C := cC0_4 (List.mem_of_getElem? (i := 2) rfl)
theorem k_C_403 : Cond.methodLink "WordSmith$Compiler" 34 y_Mw_isFull ∈ w_C := cC0_4 (List.mem_of_getElem? (i := 3) rfl)
theorem k_C_404 : Cond.instanceMethod y_Mw_isFull ∈ w_C := cC0_4 (List.mem_of_getElem? (i := 4) rfl)
theorem k_C_405 : Cond.selects "WordSmith$MadeWord" y_Mw_isFull y_Mw_isFull ∈ w_C := cC0_4 (List.mem_of_getElem? (i := 5) rfl)
theorem k_C_406 : Cond.code y_Mw_isFull b_Mw_isFull 1 (some .boolean) ∈ w_C := cC0_4 (List.mem_of_getElem? (i := 6) rfl)
theorem k_C_407 : Cond.methodLink "WordSmith$Compiler" 38 y_Mw_add ∈ w_C := cC0_4 (List.mem_of_getElem? (i := 7) rfl)
theorem k_C_408 : Cond.instanceMethod y_Mw_add ∈ w_C := cC0_4 (List.mem_of_getElem? (i := 8) rfl)
theorem k_C_409 : Cond.selects "WordSmith$MadeWord" y_Mw_add y_Mw_add ∈ w_C := cC0_4 (List.mem_of_getElem? (i := 9) rfl)
theorem k_C_410 : Cond.code y_Mw_add b_Mw_add 3 none ∈ w_C := cC0_4 (List.mem_of_getElem? (i := 10) rfl)
theorem k_C_411 : Cond.methodLink "WordSmith$Reader" 134 y_Ma_putNumber ∈ w_C := cC0_4 (List.mem_of_getElem? (i := 11) rfl)
theorem k_C_412 : Cond.instanceMethod y_Ma_putNumber ∈ w_C := cC0_4 (List.mem_of_getElem? (i := 12) rfl)
theorem k_C_413 : Cond.selects "WordSmith$Machine" y_Ma_putNumber y_Ma_putNumber ∈ w_C := cC0_4 (List.mem_of_getElem? (i := 13) rfl)
theorem k_C_414 : Cond.code y_Ma_putNumber b_Ma_putNumber 2 (some .int) ∈ w_C := cC0_4 (List.mem_of_getElem? (i := 14) rfl)
theorem k_C_415 : Cond.methodLink "WordSmith$Machine" 56 y_N_isFull ∈ w_C := cC0_4 (List.mem_of_getElem? (i := 15) rfl)
theorem k_C_416 : Cond.instanceMethod y_N_isFull ∈ w_C := cC0_4 (List.mem_of_getElem? (i := 16) rfl)
theorem k_C_417 : Cond.selects "WordSmith$NumberStack" y_N_isFull y_N_isFull ∈ w_C := cC0_4 (List.mem_of_getElem? (i := 17) rfl)
theorem k_C_418 : Cond.code y_N_isFull b_N_isFull 1 (some .boolean) ∈ w_C := cC0_4 (List.mem_of_getElem? (i := 18) rfl)
theorem k_C_419 : Cond.methodLink "WordSmith$Machine" 60 y_N_push ∈ w_C := cC0_4 (List.mem_of_getElem? (i := 19) rfl)
theorem k_C_420 : Cond.instanceMethod y_N_push ∈ w_C := cC0_4 (List.mem_of_getElem? (i := 20) rfl)
theorem k_C_421 : Cond.selects "WordSmith$NumberStack" y_N_push y_N_push ∈ w_C := cC0_4 (List.mem_of_getElem? (i := 21) rfl)
theorem k_C_422 : Cond.code y_N_push b_N_push 2 none ∈ w_C := cC0_4 (List.mem_of_getElem? (i := 22) rfl)
theorem k_C_423 : Cond.methodLink "WordSmith$Reader" 91 y_Rd_isName ∈ w_C := cC0_4 (List.mem_of_getElem? (i := 23) rfl)
theorem k_C_424 : Cond.static y_Rd_isName ∈ w_C := cC0_4 (List.mem_of_getElem? (i := 24) rfl)
theorem k_C_425 : Cond.code y_Rd_isName b_Rd_isName 1 (some .boolean) ∈ w_C := cC0_4 (List.mem_of_getElem? (i := 25) rfl)
theorem k_C_426 : Cond.methodLink "WordSmith$Reader" 98 y_Di_find ∈ w_C := cC0_4 (List.mem_of_getElem? (i := 26) rfl)
theorem k_C_427 : Cond.instanceMethod y_Di_find ∈ w_C := cC0_4 (List.mem_of_getElem? (i := 27) rfl)
theorem k_C_428 : Cond.selects "WordSmith$Dictionary" y_Di_find y_Di_find ∈ w_C := cC0_4 (List.mem_of_getElem? (i := 28) rfl)
theorem k_C_429 : Cond.code y_Di_find b_Di_find 4 (some .int) ∈ w_C := cC0_4 (List.mem_of_getElem? (i := 29) rfl)
theorem k_C_430 : Cond.methodLink "WordSmith$Dictionary" 25 y_St_equals ∈ w_C := cC0_4 (List.mem_of_getElem? (i := 30) rfl)
theorem k_C_431 : Cond.instanceMethod y_St_equals ∈ w_C := cC0_4 (List.mem_of_getElem? (i := 31) rfl)
theorem k_C_432 : Cond.selects "java/lang/String" y_St_equals y_St_equals ∈ w_C := cC0_4 (List.mem_of_getElem? (i := 32) rfl)
theorem k_C_433 : Cond.code y_St_equals b_St_equals 3 (some .boolean) ∈ w_C := cC0_4 (List.mem_of_getElem? (i := 33) rfl)
theorem k_C_434 : Cond.classLink "java/lang/String" 10 "java/lang/String" ∈ w_C := cC0_4 (List.mem_of_getElem? (i := 34) rfl)
theorem k_C_435 : Cond.methodLink "java/lang/String" 541 y_La_equals ∈ w_C := cC0_4 (List.mem_of_getElem? (i := 35) rfl)
theorem k_C_436 : Cond.static y_La_equals ∈ w_C := cC0_4 (List.mem_of_getElem? (i := 36) rfl)
theorem k_C_437 : Cond.code y_La_equals b_La_equals 3 (some .boolean) ∈ w_C := cC0_4 (List.mem_of_getElem? (i := 37) rfl)
theorem k_C_438 : Cond.methodLink "WordSmith$Dictionary" 31 y_Bi_find ∈ w_C := cC0_4 (List.mem_of_getElem? (i := 38) rfl)
theorem k_C_439 : Cond.static y_Bi_find ∈ w_C := cC0_4 (List.mem_of_getElem? (i := 39) rfl)
theorem k_C_440 : Cond.code y_Bi_find b_Bi_find 2 (some .int) ∈ w_C := cC0_4 (List.mem_of_getElem? (i := 40) rfl)
theorem k_C_441 : Cond.fieldLink "WordSmith$BuiltIn" 198 "WordSmith$BuiltIn" "ALL" "[LWordSmith$BuiltIn;" ∈ w_C := cC0_4 (List.mem_of_getElem? (i := 41) rfl)
theorem k_C_442 : Cond.methodLink "WordSmith$BuiltIn" 201 y_St_equals ∈ w_C := cC0_4 (List.mem_of_getElem? (i := 42) rfl)
theorem k_C_443 : Cond.methodLink "WordSmith$Reader" 103 y_Bi_numbered ∈ w_C := cC0_4 (List.mem_of_getElem? (i := 43) rfl)
theorem k_C_444 : Cond.static y_Bi_numbered ∈ w_C := cC0_4 (List.mem_of_getElem? (i := 44) rfl)
theorem k_C_445 : Cond.code y_Bi_numbered b_Bi_numbered 1 (some (.object "WordSmith$BuiltIn")) ∈ w_C := cC0_4 (List.mem_of_getElem? (i := 45) rfl)
theorem k_C_446 : Cond.methodLink "WordSmith$Reader" 109 y_Bi_isDefining ∈ w_C := cC0_4 (List.mem_of_getElem? (i := 46) rfl)
theorem k_C_447 : Cond.instanceMethod y_Bi_isDefining ∈ w_C := cC0_4 (List.mem_of_getElem? (i := 47) rfl)
theorem k_C_448 : Cond.selects "WordSmith$BuiltIn" y_Bi_isDefining y_Bi_isDefining ∈ w_C := cC0_4 (List.mem_of_getElem? (i := 48) rfl)
theorem k_C_449 : Cond.code y_Bi_isDefining b_Bi_isDefining 1 (some .boolean) ∈ w_C := cC0_4 (List.mem_of_getElem? (i := 49) rfl)
theorem k_C_450 : Cond.fieldLink "WordSmith$BuiltIn" 102 "WordSmith$BuiltIn" "TICK" "LWordSmith$BuiltIn;" ∈ w_C := cC0_4 (List.mem_of_getElem? (i := 50) rfl)
theorem k_C_451 : Cond.fieldLink "WordSmith$BuiltIn" 114 "WordSmith$BuiltIn" "IMMEDIATE" "LWordSmith$BuiltIn;" ∈ w_C := cC0_4 (List.mem_of_getElem? (i := 51) rfl)
theorem k_C_452 : Cond.methodLink "WordSmith$Reader" 112 y_Rd_define ∈ w_C := cC0_4 (List.mem_of_getElem? (i := 52) rfl)
theorem k_C_453 : Cond.instanceMethod y_Rd_define ∈ w_C := cC0_4 (List.mem_of_getElem? (i := 53) rfl)
theorem k_C_454 : Cond.code y_Rd_define b_Rd_define 3 (some .int) ∈ w_C := cC0_4 (List.mem_of_getElem? (i := 54) rfl)
theorem k_C_455 : Cond.fieldLink "WordSmith$Reader" 157 "WordSmith$BuiltIn" "IMMEDIATE" "LWordSmith$BuiltIn;" ∈ w_C := cC0_4 (List.mem_of_getElem? (i := 55) rfl)
theorem k_C_456 : Cond.methodLink "WordSmith$Reader" 160 y_Rd_makeImmediate ∈ w_C := cC0_4 (List.mem_of_getElem? (i := 56) rfl)
theorem k_C_457 : Cond.instanceMethod y_Rd_makeImmediate ∈ w_C := cC0_4 (List.mem_of_getElem? (i := 57) rfl)
theorem k_C_458 : Cond.code y_Rd_makeImmediate b_Rd_makeImmediate 2 (some .int) ∈ w_C := cC0_4 (List.mem_of_getElem? (i := 58) rfl)
theorem k_C_459 : Cond.methodLink "WordSmith$Reader" 151 y_Di_nextNumber ∈ w_C := cC0_4 (List.mem_of_getElem? (i := 59) rfl)
theorem k_C_460 : Cond.instanceMethod y_Di_nextNumber ∈ w_C := cC0_4 (List.mem_of_getElem? (i := 60) rfl)
theorem k_C_461 : Cond.selects "WordSmith$Dictionary" y_Di_nextNumber y_Di_nextNumber ∈ w_C := cC0_4 (List.mem_of_getElem? (i := 61) rfl)
theorem k_C_462 : Cond.code y_Di_nextNumber b_Di_nextNumber 1 (some .int) ∈ w_C := cC0_4 (List.mem_of_getElem? (i := 62) rfl)
theorem k_C_463 : Cond.methodLink "WordSmith$Reader" 173 y_Di_word ∈ w_C := cC0_4 (List.mem_of_getElem? (i := 63) rfl)
theorem k_C_464 : Cond.instanceMethod y_Di_word ∈ w_C := cC0_4 (List.mem_of_getElem? (i := 64) rfl)
theorem k_C_465 : Cond.selects "WordSmith$Dictionary" y_Di_word y_Di_word ∈ w_C := cC0_4 (List.mem_of_getElem? (i := 65) rfl)
theorem k_C_466 : Cond.code y_Di_word b_Di_word 3 (some (.object "WordSmith$MadeWord")) ∈ w_C := cC0_4 (List.mem_of_getElem? (i := 66) rfl)
theorem k_C_467 : Cond.fieldLink "WordSmith$Reader" 163 "WordSmith$BuiltIn" "TICK" "LWordSmith$BuiltIn;" ∈ w_C := cC0_4 (List.mem_of_getElem? (i := 67) rfl)
theorem k_C_468 : Cond.methodLink "WordSmith$Reader" 166 y_Rd_putNumberOfWord ∈ w_C := cC0_4 (List.mem_of_getElem? (i := 68) rfl)
theorem k_C_469 : Cond.instanceMethod y_Rd_putNumberOfWord ∈ w_C := cC0_4 (List.mem_of_getElem? (i := 69) rfl)
theorem k_C_470 : Cond.code y_Rd_putNumberOfWord b_Rd_putNumberOfWord 3 (some .int) ∈ w_C := cC0_4 (List.mem_of_getElem? (i := 70) rfl)
theorem k_C_471 : Cond.methodLink "WordSmith$Reader" 169 y_Rd_makeWord ∈ w_C := cC0_4 (List.mem_of_getElem? (i := 71) rfl)
theorem k_C_472 : Cond.instanceMethod y_Rd_makeWord ∈ w_C := cC0_4 (List.mem_of_getElem? (i := 72) rfl)
theorem k_C_473 : Cond.code y_Rd_makeWord b_Rd_makeWord 4 (some .int) ∈ w_C := cC0_4 (List.mem_of_getElem? (i := 73) rfl)
theorem k_C_474 : Cond.methodLink "WordSmith$Reader" 199 y_Di_isFull ∈ w_C := cC0_4 (List.mem_of_getElem? (i := 74) rfl)
theorem k_C_475 : Cond.instanceMethod y_Di_isFull ∈ w_C := cC0_4 (List.mem_of_getElem? (i := 75) rfl)
theorem k_C_476 : Cond.selects "WordSmith$Dictionary" y_Di_isFull y_Di_isFull ∈ w_C := cC0_4 (List.mem_of_getElem? (i := 76) rfl)
theorem k_C_477 : Cond.code y_Di_isFull b_Di_isFull 1 (some .boolean) ∈ w_C := cC0_4 (List.mem_of_getElem? (i := 77) rfl)
theorem k_C_478 : Cond.fieldLink "WordSmith$Reader" 202 "WordSmith$1" "$SwitchMap$WordSmith$BuiltIn" "[I" ∈ w_C := cC0_4 (List.mem_of_getElem? (i := 78) rfl)
theorem k_C_479 : Cond.methodLink "WordSmith$Reader" 208 ⟨"WordSmith$BuiltIn", "ordinal", "()I"⟩ ∈ w_C := cC0_4 (List.mem_of_getElem? (i := 79) rfl)
theorem k_C_480 : Cond.sameMethod "WordSmith$BuiltIn" "java/lang/Enum" "ordinal" "()I" ∈ w_C := cC0_4 (List.mem_of_getElem? (i := 80) rfl)
theorem k_C_481 : Cond.selects "WordSmith$BuiltIn" ⟨"WordSmith$BuiltIn", "ordinal", "()I"⟩ y_En_ordinal ∈ w_C := cC0_4 (List.mem_of_getElem? (i := 81) rfl)
theorem k_C_482 : Cond.instanceMethod y_En_ordinal ∈ w_C := cC0_4 (List.mem_of_getElem? (i := 82) rfl)
theorem k_C_483 : Cond.code y_En_ordinal b_En_ordinal 1 (some .int) ∈ w_C := cC0_4 (List.mem_of_getElem? (i := 83) rfl)
theorem k_C_484 : Cond.methodLink "WordSmith$Reader" 211 y_Me_canGrow ∈ w_C := cC0_4 (List.mem_of_getElem? (i := 84) rfl)
theorem k_C_485 : Cond.instanceMethod y_Me_canGrow ∈ w_C := cC0_4 (List.mem_of_getElem? (i := 85) rfl)
theorem k_C_486 : Cond.selects "WordSmith$Memory" y_Me_canGrow y_Me_canGrow ∈ w_C := cC0_4 (List.mem_of_getElem? (i := 86) rfl)
theorem k_C_487 : Cond.code y_Me_canGrow b_Me_canGrow 4 (some .boolean) ∈ w_C := cC0_4 (List.mem_of_getElem? (i := 87) rfl)
theorem k_C_488 : Cond.constantLong "WordSmith$Memory" 38 64 ∈ w_C := cC0_4 (List.mem_of_getElem? (i := 88) rfl)
theorem k_C_489 : Cond.methodLink "WordSmith$Reader" 219 y_Rd_makeNumberWord ∈ w_C := cC0_4 (List.mem_of_getElem? (i := 89) rfl)
theorem k_C_490 : Cond.instanceMethod y_Rd_makeNumberWord ∈ w_C := cC0_4 (List.mem_of_getElem? (i := 90) rfl)
theorem k_C_491 : Cond.code y_Rd_makeNumberWord b_Rd_makeNumberWord 4 none ∈ w_C := cC0_4 (List.mem_of_getElem? (i := 91) rfl)
theorem k_C_492 : Cond.classLink "WordSmith$Reader" 178 "WordSmith$MadeWord" ∈ w_C := cC0_4 (List.mem_of_getElem? (i := 92) rfl)
theorem k_C_493 : Cond.instantiable "WordSmith$MadeWord" 5 ∈ w_C := cC0_4 (List.mem_of_getElem? (i := 93) rfl)
theorem k_C_494 : Cond.methodLink "WordSmith$Reader" 234 y_Mw_init ∈ w_C := cC0_4 (List.mem_of_getElem? (i := 94) rfl)
theorem k_C_495 : Cond.instanceMethod y_Mw_init ∈ w_C := cC0_4 (List.mem_of_getElem? (i := 95) rfl)
theorem k_C_496 : Cond.code y_Mw_init b_Mw_init 2 none ∈ w_C := cC0_4 (List.mem_of_getElem? (i := 96) rfl)
theorem k_C_497 : Cond.methodLink "WordSmith$MadeWord" 3 objectInit ∈ w_C := cC0_4 (List.mem_of_getElem? (i := 97) rfl)
theorem k_C_498 : Cond.fieldLink "WordSmith$MadeWord" 18 "WordSmith$MadeWord" "name" "Ljava/lang/String;" ∈ w_C := cC0_4 (List.mem_of_getElem? (i := 98) rfl)
theorem k_C_499 : Cond.fieldLink "WordSmith$MadeWord" 9 "WordSmith$MadeWord" "kinds" "[I" ∈ w_C := cC0_4 (List.mem_of_getElem? (i := 99) rfl)
theorem k_C_500 : Cond.fieldLink "WordSmith$MadeWord" 15 "WordSmith$MadeWord" "values" "[I" ∈ w_C := cC0_5 (List.mem_of_getElem? (i := 0) rfl)
theorem k_C_501 : Cond.fieldLink "WordSmith$MadeWord" 22 "WordSmith$MadeWord" "size" "I" ∈ w_C := cC0_5 (List.mem_of_getElem? (i := 1) rfl)
theorem k_C_502 : Cond.superclass "WordSmith$MadeWord" "java/lang/Object" ∈ w_C := cC0_5 (List.mem_of_getElem? (i := 2) rfl)
theorem k_C_503 : Cond.methodLink "WordSmith$Reader" 236 y_Mw_add ∈ w_C := cC0_5 (List.mem_of_getElem? (i := 3) rfl)
theorem k_C_504 : Cond.methodLink "WordSmith$Reader" 144 y_Di_add ∈ w_C := cC0_5 (List.mem_of_getElem? (i := 4) rfl)
theorem k_C_505 : Cond.instanceMethod y_Di_add ∈ w_C := cC0_5 (List.mem_of_getElem? (i := 5) rfl)
theorem k_C_506 : Cond.selects "WordSmith$Dictionary" y_Di_add y_Di_add ∈ w_C := cC0_5 (List.mem_of_getElem? (i := 6) rfl)
theorem k_C_507 : Cond.code y_Di_add b_Di_add 2 none ∈ w_C := cC0_5 (List.mem_of_getElem? (i := 7) rfl)
theorem k_C_508 : Cond.methodLink "WordSmith$Reader" 223 y_Me_append ∈ w_C := cC0_5 (List.mem_of_getElem? (i := 8) rfl)
theorem k_C_509 : Cond.instanceMethod y_Me_append ∈ w_C := cC0_5 (List.mem_of_getElem? (i := 9) rfl)
theorem k_C_510 : Cond.selects "WordSmith$Memory" y_Me_append y_Me_append ∈ w_C := cC0_5 (List.mem_of_getElem? (i := 10) rfl)
theorem k_C_511 : Cond.code y_Me_append b_Me_append 2 none ∈ w_C := cC0_5 (List.mem_of_getElem? (i := 11) rfl)
theorem k_C_512 : Cond.methodLink "WordSmith$Memory" 40 y_Me_canGrow ∈ w_C := cC0_5 (List.mem_of_getElem? (i := 12) rfl)
theorem k_C_513 : Cond.methodLink "WordSmith$Reader" 227 y_N_pop ∈ w_C := cC0_5 (List.mem_of_getElem? (i := 13) rfl)
theorem k_C_514 : Cond.instanceMethod y_N_pop ∈ w_C := cC0_5 (List.mem_of_getElem? (i := 14) rfl)
theorem k_C_515 : Cond.selects "WordSmith$NumberStack" y_N_pop y_N_pop ∈ w_C := cC0_5 (List.mem_of_getElem? (i := 15) rfl)
theorem k_C_516 : Cond.code y_N_pop b_N_pop 1 (some .int) ∈ w_C := cC0_5 (List.mem_of_getElem? (i := 16) rfl)
theorem k_C_517 : Cond.methodLink "WordSmith$Reader" 230 y_Co_begin ∈ w_C := cC0_5 (List.mem_of_getElem? (i := 17) rfl)
theorem k_C_518 : Cond.instanceMethod y_Co_begin ∈ w_C := cC0_5 (List.mem_of_getElem? (i := 18) rfl)
theorem k_C_519 : Cond.selects "WordSmith$Compiler" y_Co_begin y_Co_begin ∈ w_C := cC0_5 (List.mem_of_getElem? (i := 19) rfl)
theorem k_C_520 : Cond.code y_Co_begin b_Co_begin 2 none ∈ w_C := cC0_5 (List.mem_of_getElem? (i := 20) rfl)
theorem k_C_521 : Cond.classLink "WordSmith$Compiler" 25 "WordSmith$MadeWord" ∈ w_C := cC0_5 (List.mem_of_getElem? (i := 21) rfl)
theorem k_C_522 : Cond.methodLink "WordSmith$Compiler" 27 y_Mw_init ∈ w_C := cC0_5 (List.mem_of_getElem? (i := 22) rfl)
theorem k_C_523 : Cond.methodLink "WordSmith$Reader" 116 y_Bi_isCompiling ∈ w_C := cC0_5 (List.mem_of_getElem? (i := 23) rfl)
theorem k_C_524 : Cond.instanceMethod y_Bi_isCompiling ∈ w_C := cC0_5 (List.mem_of_getElem? (i := 24) rfl)
theorem k_C_525 : Cond.selects "WordSmith$BuiltIn" y_Bi_isCompiling y_Bi_isCompiling ∈ w_C := cC0_5 (List.mem_of_getElem? (i := 25) rfl)
theorem k_C_526 : Cond.code y_Bi_isCompiling b_Bi_isCompiling 1 (some .boolean) ∈ w_C := cC0_5 (List.mem_of_getElem? (i := 26) rfl)
theorem k_C_527 : Cond.fieldLink "WordSmith$BuiltIn" 126 "WordSmith$BuiltIn" "SEMICOLON" "LWordSmith$BuiltIn;" ∈ w_C := cC0_5 (List.mem_of_getElem? (i := 27) rfl)
theorem k_C_528 : Cond.methodLink "WordSmith$Reader" 119 y_Rd_compile ∈ w_C := cC0_5 (List.mem_of_getElem? (i := 28) rfl)
theorem k_C_529 : Cond.instanceMethod y_Rd_compile ∈ w_C := cC0_5 (List.mem_of_getElem? (i := 29) rfl)
theorem k_C_530 : Cond.code y_Rd_compile b_Rd_compile 3 (some .int) ∈ w_C := cC0_5 (List.mem_of_getElem? (i := 30) rfl)
theorem k_C_531 : Cond.methodLink "WordSmith$Reader" 137 y_Co_lack ∈ w_C := cC0_5 (List.mem_of_getElem? (i := 31) rfl)
theorem k_C_532 : Cond.instanceMethod y_Co_lack ∈ w_C := cC0_5 (List.mem_of_getElem? (i := 32) rfl)
theorem k_C_533 : Cond.selects "WordSmith$Compiler" y_Co_lack y_Co_lack ∈ w_C := cC0_5 (List.mem_of_getElem? (i := 33) rfl)
theorem k_C_534 : Cond.code y_Co_lack b_Co_lack 2 (some .int) ∈ w_C := cC0_5 (List.mem_of_getElem? (i := 34) rfl)
theorem k_C_535 : Cond.methodLink "WordSmith$Compiler" 42 y_Co_fits ∈ w_C := cC0_5 (List.mem_of_getElem? (i := 35) rfl)
theorem k_C_536 : Cond.instanceMethod y_Co_fits ∈ w_C := cC0_5 (List.mem_of_getElem? (i := 36) rfl)
theorem k_C_537 : Cond.code y_Co_fits b_Co_fits 3 (some .boolean) ∈ w_C := cC0_5 (List.mem_of_getElem? (i := 37) rfl)
theorem k_C_538 : Cond.fieldLink "WordSmith$Compiler" 52 "WordSmith$1" "$SwitchMap$WordSmith$BuiltIn" "[I" ∈ w_C := cC0_5 (List.mem_of_getElem? (i := 38) rfl)
theorem k_C_539 : Cond.methodLink "WordSmith$Compiler" 57 ⟨"WordSmith$BuiltIn", "ordinal", "()I"⟩ ∈ w_C := cC0_5 (List.mem_of_getElem? (i := 39) rfl)
theorem k_C_540 : Cond.fieldLink "WordSmith$Compiler" 61 "WordSmith$BuiltIn" "IF" "LWordSmith$BuiltIn;" ∈ w_C := cC0_5 (List.mem_of_getElem? (i := 40) rfl)
theorem k_C_541 : Cond.fieldLink "WordSmith$Compiler" 65 "WordSmith$BuiltIn" "ELSE" "LWordSmith$BuiltIn;" ∈ w_C := cC0_5 (List.mem_of_getElem? (i := 41) rfl)
theorem k_C_542 : Cond.fieldLink "WordSmith$Compiler" 68 "WordSmith$BuiltIn" "BEGIN" "LWordSmith$BuiltIn;" ∈ w_C := cC0_5 (List.mem_of_getElem? (i := 42) rfl)
theorem k_C_543 : Cond.fieldLink "WordSmith$Compiler" 71 "WordSmith$BuiltIn" "WHILE" "LWordSmith$BuiltIn;" ∈ w_C := cC0_5 (List.mem_of_getElem? (i := 43) rfl)
theorem k_C_544 : Cond.fieldLink "WordSmith$Compiler" 74 "WordSmith$BuiltIn" "DO" "LWordSmith$BuiltIn;" ∈ w_C := cC0_5 (List.mem_of_getElem? (i := 44) rfl)
theorem k_C_545 : Cond.methodLink "WordSmith$Compiler" 46 y_Co_opensOne ∈ w_C := cC0_5 (List.mem_of_getElem? (i := 45) rfl)
theorem k_C_546 : Cond.static y_Co_opensOne ∈ w_C := cC0_5 (List.mem_of_getElem? (i := 46) rfl)
theorem k_C_547 : Cond.code y_Co_opensOne b_Co_opensOne 1 (some .boolean) ∈ w_C := cC0_5 (List.mem_of_getElem? (i := 47) rfl)
theorem k_C_548 : Cond.methodLink "WordSmith$Compiler" 49 y_Co_isItem ∈ w_C := cC0_5 (List.mem_of_getElem? (i := 48) rfl)
theorem k_C_549 : Cond.static y_Co_isItem ∈ w_C := cC0_5 (List.mem_of_getElem? (i := 49) rfl)
theorem k_C_550 : Cond.code y_Co_isItem b_Co_isItem 1 (some .boolean) ∈ w_C := cC0_5 (List.mem_of_getElem? (i := 50) rfl)
theorem k_C_551 : Cond.fieldLink "WordSmith$Compiler" 77 "WordSmith$BuiltIn" "THEN" "LWordSmith$BuiltIn;" ∈ w_C := cC0_5 (List.mem_of_getElem? (i := 51) rfl)
theorem k_C_552 : Cond.fieldLink "WordSmith$Compiler" 80 "WordSmith$BuiltIn" "SEMICOLON" "LWordSmith$BuiltIn;" ∈ w_C := cC0_5 (List.mem_of_getElem? (i := 52) rfl)
theorem k_C_553 : Cond.fieldLink "WordSmith$Reader" 140 "WordSmith$BuiltIn" "SEMICOLON" "LWordSmith$BuiltIn;" ∈ w_C := cC0_5 (List.mem_of_getElem? (i := 53) rfl)
theorem k_C_554 : Cond.methodLink "WordSmith$Reader" 72 y_Co_end ∈ w_C := cC0_5 (List.mem_of_getElem? (i := 54) rfl)
theorem k_C_555 : Cond.instanceMethod y_Co_end ∈ w_C := cC0_5 (List.mem_of_getElem? (i := 55) rfl)
theorem k_C_556 : Cond.selects "WordSmith$Compiler" y_Co_end y_Co_end ∈ w_C := cC0_5 (List.mem_of_getElem? (i := 56) rfl)
theorem k_C_557 : Cond.code y_Co_end b_Co_end 2 (some (.object "WordSmith$MadeWord")) ∈ w_C := cC0_5 (List.mem_of_getElem? (i := 57) rfl)
theorem k_C_558 : Cond.fieldLink "WordSmith$Reader" 148 "WordSmith$BuiltIn" "RECURSE" "LWordSmith$BuiltIn;" ∈ w_C := cC0_5 (List.mem_of_getElem? (i := 58) rfl)
theorem k_C_559 : Cond.methodLink "WordSmith$Reader" 154 y_Co_compile ∈ w_C := cC0_5 (List.mem_of_getElem? (i := 59) rfl)
theorem k_C_560 : Cond.instanceMethod y_Co_compile ∈ w_C := cC0_5 (List.mem_of_getElem? (i := 60) rfl)
theorem k_C_561 : Cond.selects "WordSmith$Compiler" y_Co_compile y_Co_compile ∈ w_C := cC0_5 (List.mem_of_getElem? (i := 61) rfl)
theorem k_C_562 : Cond.code y_Co_compile b_Co_compile 3 none ∈ w_C := cC0_5 (List.mem_of_getElem? (i := 62) rfl)
theorem k_C_563 : Cond.methodLink "WordSmith$Compiler" 86 y_Co_push ∈ w_C := cC0_5 (List.mem_of_getElem? (i := 63) rfl)
theorem k_C_564 : Cond.instanceMethod y_Co_push ∈ w_C := cC0_5 (List.mem_of_getElem? (i := 64) rfl)
theorem k_C_565 : Cond.code y_Co_push b_Co_push 3 none ∈ w_C := cC0_5 (List.mem_of_getElem? (i := 65) rfl)
theorem k_C_566 : Cond.methodLink "WordSmith$Compiler" 90 y_Co_pop ∈ w_C := cC0_5 (List.mem_of_getElem? (i := 66) rfl)
theorem k_C_567 : Cond.instanceMethod y_Co_pop ∈ w_C := cC0_5 (List.mem_of_getElem? (i := 67) rfl)
theorem k_C_568 : Cond.code y_Co_pop b_Co_pop 1 (some .int) ∈ w_C := cC0_5 (List.mem_of_getElem? (i := 68) rfl)
theorem k_C_569 : Cond.methodLink "WordSmith$Compiler" 93 y_Mw_aim ∈ w_C := cC0_5 (List.mem_of_getElem? (i := 69) rfl)
theorem k_C_570 : Cond.instanceMethod y_Mw_aim ∈ w_C := cC0_5 (List.mem_of_getElem? (i := 70) rfl)
theorem k_C_571 : Cond.selects "WordSmith$MadeWord" y_Mw_aim y_Mw_aim ∈ w_C := cC0_5 (List.mem_of_getElem? (i := 71) rfl)
theorem k_C_572 : Cond.code y_Mw_aim b_Mw_aim 2 none ∈ w_C := cC0_5 (List.mem_of_getElem? (i := 72) rfl)
theorem k_C_573 : Cond.methodLink "WordSmith$Compiler" 97 y_Co_closeWhile ∈ w_C := cC0_5 (List.mem_of_getElem? (i := 73) rfl)
theorem k_C_574 : Cond.instanceMethod y_Co_closeWhile ∈ w_C := cC0_5 (List.mem_of_getElem? (i := 74) rfl)
theorem k_C_575 : Cond.code y_Co_closeWhile b_Co_closeWhile 2 none ∈ w_C := cC0_5 (List.mem_of_getElem? (i := 75) rfl)
theorem k_C_576 : Cond.methodLink "WordSmith$Reader" 123 y_Di_isImmediate ∈ w_C := cC0_5 (List.mem_of_getElem? (i := 76) rfl)
theorem k_C_577 : Cond.instanceMethod y_Di_isImmediate ∈ w_C := cC0_5 (List.mem_of_getElem? (i := 77) rfl)
theorem k_C_578 : Cond.selects "WordSmith$Dictionary" y_Di_isImmediate y_Di_isImmediate ∈ w_C := cC0_5 (List.mem_of_getElem? (i := 78) rfl)
theorem k_C_579 : Cond.code y_Di_isImmediate b_Di_isImmediate 3 (some .boolean) ∈ w_C := cC0_5 (List.mem_of_getElem? (i := 79) rfl)
theorem k_C_580 : Cond.methodLink "WordSmith$Dictionary" 37 y_Di_word ∈ w_C := cC0_5 (List.mem_of_getElem? (i := 80) rfl)
theorem k_C_581 : Cond.methodLink "WordSmith$Reader" 131 y_Ma_start ∈ w_C := cC0_5 (List.mem_of_getElem? (i := 81) rfl)
theorem k_C_582 : Cond.instanceMethod y_Ma_start ∈ w_C := cC0_5 (List.mem_of_getElem? (i := 82) rfl)
theorem k_C_583 : Cond.selects "WordSmith$Machine" y_Ma_start y_Ma_start ∈ w_C := cC0_5 (List.mem_of_getElem? (i := 83) rfl)
theorem k_C_584 : Cond.code y_Ma_start b_Ma_start 5 (some .int) ∈ w_C := cC0_5 (List.mem_of_getElem? (i := 84) rfl)
theorem k_C_585 : Cond.fieldLink "WordSmith$Machine" 120 "WordSmith$BuiltIn" "EXECUTE" "LWordSmith$BuiltIn;" ∈ w_C := cC0_5 (List.mem_of_getElem? (i := 85) rfl)
theorem k_C_586 : Cond.methodLink "WordSmith$Machine" 97 y_N_pop ∈ w_C := cC0_5 (List.mem_of_getElem? (i := 86) rfl)
theorem k_C_587 : Cond.methodLink "WordSmith$Machine" 129 y_Ma_isExecutable ∈ w_C := cC0_5 (List.mem_of_getElem? (i := 87) rfl)
theorem k_C_588 : Cond.instanceMethod y_Ma_isExecutable ∈ w_C := cC0_5 (List.mem_of_getElem? (i := 88) rfl)
theorem k_C_589 : Cond.code y_Ma_isExecutable b_Ma_isExecutable 3 (some .boolean) ∈ w_C := cC0_5 (List.mem_of_getElem? (i := 89) rfl)
theorem k_C_590 : Cond.methodLink "WordSmith$Machine" 133 y_Bi_numbered ∈ w_C := cC0_5 (List.mem_of_getElem? (i := 90) rfl)
theorem k_C_591 : Cond.methodLink "WordSmith$Machine" 137 y_Di_word ∈ w_C := cC0_5 (List.mem_of_getElem? (i := 91) rfl)
theorem k_C_592 : Cond.methodLink "WordSmith$Machine" 152 y_Bi_isDefining ∈ w_C := cC0_5 (List.mem_of_getElem? (i := 92) rfl)
theorem k_C_593 : Cond.methodLink "WordSmith$Machine" 155 y_Bi_isCompiling ∈ w_C := cC0_5 (List.mem_of_getElem? (i := 93) rfl)
theorem k_C_594 : Cond.methodLink "WordSmith$Machine" 140 y_Ma_beginCall ∈ w_C := cC0_5 (List.mem_of_getElem? (i := 94) rfl)
theorem k_C_595 : Cond.instanceMethod y_Ma_beginCall ∈ w_C := cC0_5 (List.mem_of_getElem? (i := 95) rfl)
theorem k_C_596 : Cond.code y_Ma_beginCall b_Ma_beginCall 2 (some .int) ∈ w_C := cC0_5 (List.mem_of_getElem? (i := 96) rfl)
theorem k_C_597 : Cond.methodLink "WordSmith$Machine" 158 y_Ca_start ∈ w_C := cC0_5 (List.mem_of_getElem? (i := 97) rfl)
theorem k_C_598 : Cond.instanceMethod y_Ca_start ∈ w_C := cC0_5 (List.mem_of_getElem? (i := 98) rfl)
theorem k_C_599 : Cond.selects "WordSmith$Call" y_Ca_start y_Ca_start ∈ w_C := cC0_5 (List.mem_of_getElem? (i := 99) rfl)
theorem k_C_600 : Cond.code y_Ca_start b_Ca_start 2 none ∈ w_C := cC0_6 (List.mem_of_getElem? (i := 0) rfl)
theorem k_C_601 : Cond.methodLink "WordSmith$Machine" 144 y_Ma_lack ∈ w_C := cC0_6 (List.mem_of_getElem? (i := 1) rfl)
theorem k_C_602 : Cond.instanceMethod y_Ma_lack ∈ w_C := cC0_6 (List.mem_of_getElem? (i := 2) rfl)
theorem k_C_603 : Cond.code y_Ma_lack b_Ma_lack 4 (some .int) ∈ w_C := cC0_6 (List.mem_of_getElem? (i := 3) rfl)
theorem k_C_604 : Cond.fieldLink "WordSmith$Machine" 161 "WordSmith$BuiltIn" "EXIT" "LWordSmith$BuiltIn;" ∈ w_C := cC0_6 (List.mem_of_getElem? (i := 4) rfl)
theorem k_C_605 : Cond.methodLink "WordSmith$Machine" 111 y_N_fromTop ∈ w_C := cC0_6 (List.mem_of_getElem? (i := 5) rfl)
theorem k_C_606 : Cond.instanceMethod y_N_fromTop ∈ w_C := cC0_6 (List.mem_of_getElem? (i := 6) rfl)
theorem k_C_607 : Cond.selects "WordSmith$NumberStack" y_N_fromTop y_N_fromTop ∈ w_C := cC0_6 (List.mem_of_getElem? (i := 7) rfl)
theorem k_C_608 : Cond.code y_N_fromTop b_N_fromTop 2 (some .int) ∈ w_C := cC0_6 (List.mem_of_getElem? (i := 8) rfl)
theorem k_C_609 : Cond.fieldLink "WordSmith$Machine" 167 "WordSmith$1" "$SwitchMap$WordSmith$BuiltIn" "[I" ∈ w_C := cC0_6 (List.mem_of_getElem? (i := 9) rfl)
theorem k_C_610 : Cond.methodLink "WordSmith$Machine" 172 ⟨"WordSmith$BuiltIn", "ordinal", "()I"⟩ ∈ w_C := cC0_6 (List.mem_of_getElem? (i := 10) rfl)
theorem k_C_611 : Cond.methodLink "WordSmith$Machine" 175 y_Me_has ∈ w_C := cC0_6 (List.mem_of_getElem? (i := 11) rfl)
theorem k_C_612 : Cond.instanceMethod y_Me_has ∈ w_C := cC0_6 (List.mem_of_getElem? (i := 12) rfl)
theorem k_C_613 : Cond.selects "WordSmith$Memory" y_Me_has y_Me_has ∈ w_C := cC0_6 (List.mem_of_getElem? (i := 13) rfl)
theorem k_C_614 : Cond.code y_Me_has b_Me_has 2 (some .boolean) ∈ w_C := cC0_6 (List.mem_of_getElem? (i := 14) rfl)
theorem k_C_615 : Cond.methodLink "WordSmith$Machine" 178 y_Me_hasBlock ∈ w_C := cC0_6 (List.mem_of_getElem? (i := 15) rfl)
theorem k_C_616 : Cond.instanceMethod y_Me_hasBlock ∈ w_C := cC0_6 (List.mem_of_getElem? (i := 16) rfl)
theorem k_C_617 : Cond.selects "WordSmith$Memory" y_Me_hasBlock y_Me_hasBlock ∈ w_C := cC0_6 (List.mem_of_getElem? (i := 17) rfl)
theorem k_C_618 : Cond.code y_Me_hasBlock b_Me_hasBlock 2 (some .boolean) ∈ w_C := cC0_6 (List.mem_of_getElem? (i := 18) rfl)
theorem k_C_619 : Cond.methodLink "WordSmith$Machine" 181 y_Ma_openLoops ∈ w_C := cC0_6 (List.mem_of_getElem? (i := 19) rfl)
theorem k_C_620 : Cond.instanceMethod y_Ma_openLoops ∈ w_C := cC0_6 (List.mem_of_getElem? (i := 20) rfl)
theorem k_C_621 : Cond.code y_Ma_openLoops b_Ma_openLoops 1 (some .int) ∈ w_C := cC0_6 (List.mem_of_getElem? (i := 21) rfl)
theorem k_C_622 : Cond.methodLink "WordSmith$Machine" 184 y_Ma_hasRoom ∈ w_C := cC0_6 (List.mem_of_getElem? (i := 22) rfl)
theorem k_C_623 : Cond.instanceMethod y_Ma_hasRoom ∈ w_C := cC0_6 (List.mem_of_getElem? (i := 23) rfl)
theorem k_C_624 : Cond.code y_Ma_hasRoom b_Ma_hasRoom 3 (some .boolean) ∈ w_C := cC0_6 (List.mem_of_getElem? (i := 24) rfl)
theorem k_C_625 : Cond.methodLink "WordSmith$Machine" 188 y_Me_canGrow ∈ w_C := cC0_6 (List.mem_of_getElem? (i := 25) rfl)
theorem k_C_626 : Cond.methodLink "WordSmith$Machine" 148 y_Ma_perform ∈ w_C := cC0_6 (List.mem_of_getElem? (i := 26) rfl)
theorem k_C_627 : Cond.instanceMethod y_Ma_perform ∈ w_C := cC0_6 (List.mem_of_getElem? (i := 27) rfl)
theorem k_C_628 : Cond.code y_Ma_perform b_Ma_perform 6 none ∈ w_C := cC0_6 (List.mem_of_getElem? (i := 28) rfl)
theorem k_C_629 : Cond.methodLink "WordSmith$Machine" 117 y_N_drop ∈ w_C := cC0_6 (List.mem_of_getElem? (i := 29) rfl)
theorem k_C_630 : Cond.instanceMethod y_N_drop ∈ w_C := cC0_6 (List.mem_of_getElem? (i := 30) rfl)
theorem k_C_631 : Cond.selects "WordSmith$NumberStack" y_N_drop y_N_drop ∈ w_C := cC0_6 (List.mem_of_getElem? (i := 31) rfl)
theorem k_C_632 : Cond.code y_N_drop b_N_drop 2 none ∈ w_C := cC0_6 (List.mem_of_getElem? (i := 32) rfl)
theorem k_C_633 : Cond.methodLink "WordSmith$NumberStack" 19 Lib.Math.max.name ∈ w_C := cC0_6 (List.mem_of_getElem? (i := 33) rfl)
theorem k_C_634 : Cond.methodLink "WordSmith$Machine" 194 y_Bi_isCalculating ∈ w_C := cC0_6 (List.mem_of_getElem? (i := 34) rfl)
theorem k_C_635 : Cond.instanceMethod y_Bi_isCalculating ∈ w_C := cC0_6 (List.mem_of_getElem? (i := 35) rfl)
theorem k_C_636 : Cond.selects "WordSmith$BuiltIn" y_Bi_isCalculating y_Bi_isCalculating ∈ w_C := cC0_6 (List.mem_of_getElem? (i := 36) rfl)
theorem k_C_637 : Cond.code y_Bi_isCalculating b_Bi_isCalculating 1 (some .boolean) ∈ w_C := cC0_6 (List.mem_of_getElem? (i := 37) rfl)
theorem k_C_638 : Cond.fieldLink "WordSmith$BuiltIn" 39 "WordSmith$BuiltIn" "NEGATE" "LWordSmith$BuiltIn;" ∈ w_C := cC0_6 (List.mem_of_getElem? (i := 38) rfl)
theorem k_C_639 : Cond.methodLink "WordSmith$Machine" 197 y_Ma_calculate ∈ w_C := cC0_6 (List.mem_of_getElem? (i := 39) rfl)
theorem k_C_640 : Cond.static y_Ma_calculate ∈ w_C := cC0_6 (List.mem_of_getElem? (i := 40) rfl)
theorem k_C_641 : Cond.code y_Ma_calculate b_Ma_calculate 3 (some .int) ∈ w_C := cC0_6 (List.mem_of_getElem? (i := 41) rfl)
theorem k_C_642 : Cond.methodLink "WordSmith$Machine" 243 y_Ma_flag ∈ w_C := cC0_6 (List.mem_of_getElem? (i := 42) rfl)
theorem k_C_643 : Cond.static y_Ma_flag ∈ w_C := cC0_6 (List.mem_of_getElem? (i := 43) rfl)
theorem k_C_644 : Cond.code y_Ma_flag b_Ma_flag 1 (some .int) ∈ w_C := cC0_6 (List.mem_of_getElem? (i := 44) rfl)
theorem k_C_645 : Cond.methodLink "WordSmith$Machine" 201 y_Ma_arrange ∈ w_C := cC0_6 (List.mem_of_getElem? (i := 45) rfl)
theorem k_C_646 : Cond.instanceMethod y_Ma_arrange ∈ w_C := cC0_6 (List.mem_of_getElem? (i := 46) rfl)
theorem k_C_647 : Cond.code y_Ma_arrange b_Ma_arrange 5 none ∈ w_C := cC0_6 (List.mem_of_getElem? (i := 47) rfl)
theorem k_C_648 : Cond.methodLink "WordSmith$Machine" 205 y_Ma_keep ∈ w_C := cC0_6 (List.mem_of_getElem? (i := 48) rfl)
theorem k_C_649 : Cond.instanceMethod y_Ma_keep ∈ w_C := cC0_6 (List.mem_of_getElem? (i := 49) rfl)
theorem k_C_650 : Cond.code y_Ma_keep b_Ma_keep 2 none ∈ w_C := cC0_6 (List.mem_of_getElem? (i := 50) rfl)
theorem k_C_651 : Cond.methodLink "WordSmith$Machine" 208 y_Ma_loopCount ∈ w_C := cC0_6 (List.mem_of_getElem? (i := 51) rfl)
theorem k_C_652 : Cond.instanceMethod y_Ma_loopCount ∈ w_C := cC0_6 (List.mem_of_getElem? (i := 52) rfl)
theorem k_C_653 : Cond.code y_Ma_loopCount b_Ma_loopCount 2 (some .int) ∈ w_C := cC0_6 (List.mem_of_getElem? (i := 53) rfl)
theorem k_C_654 : Cond.methodLink "WordSmith$Machine" 239 y_Ca_loopCount ∈ w_C := cC0_6 (List.mem_of_getElem? (i := 54) rfl)
theorem k_C_655 : Cond.instanceMethod y_Ca_loopCount ∈ w_C := cC0_6 (List.mem_of_getElem? (i := 55) rfl)
theorem k_C_656 : Cond.selects "WordSmith$Call" y_Ca_loopCount y_Ca_loopCount ∈ w_C := cC0_6 (List.mem_of_getElem? (i := 56) rfl)
theorem k_C_657 : Cond.code y_Ca_loopCount b_Ca_loopCount 2 (some .int) ∈ w_C := cC0_6 (List.mem_of_getElem? (i := 57) rfl)
theorem k_C_658 : Cond.methodLink "WordSmith$Machine" 211 y_Ma_performOnMemory ∈ w_C := cC0_6 (List.mem_of_getElem? (i := 58) rfl)
theorem k_C_659 : Cond.instanceMethod y_Ma_performOnMemory ∈ w_C := cC0_6 (List.mem_of_getElem? (i := 59) rfl)
theorem k_C_660 : Cond.code y_Ma_performOnMemory b_Ma_performOnMemory 4 none ∈ w_C := cC0_6 (List.mem_of_getElem? (i := 60) rfl)
theorem k_C_661 : Cond.methodLink "WordSmith$Machine" 215 y_Me_fetch ∈ w_C := cC0_6 (List.mem_of_getElem? (i := 61) rfl)
theorem k_C_662 : Cond.instanceMethod y_Me_fetch ∈ w_C := cC0_6 (List.mem_of_getElem? (i := 62) rfl)
theorem k_C_663 : Cond.selects "WordSmith$Memory" y_Me_fetch y_Me_fetch ∈ w_C := cC0_6 (List.mem_of_getElem? (i := 63) rfl)
theorem k_C_664 : Cond.code y_Me_fetch b_Me_fetch 2 (some .int) ∈ w_C := cC0_6 (List.mem_of_getElem? (i := 64) rfl)
theorem k_C_665 : Cond.methodLink "WordSmith$Memory" 31 y_Me_has ∈ w_C := cC0_6 (List.mem_of_getElem? (i := 65) rfl)
theorem k_C_666 : Cond.methodLink "WordSmith$Machine" 218 y_Me_store ∈ w_C := cC0_6 (List.mem_of_getElem? (i := 66) rfl)
theorem k_C_667 : Cond.instanceMethod y_Me_store ∈ w_C := cC0_6 (List.mem_of_getElem? (i := 67) rfl)
theorem k_C_668 : Cond.selects "WordSmith$Memory" y_Me_store y_Me_store ∈ w_C := cC0_6 (List.mem_of_getElem? (i := 68) rfl)
theorem k_C_669 : Cond.code y_Me_store b_Me_store 3 none ∈ w_C := cC0_6 (List.mem_of_getElem? (i := 69) rfl)
theorem k_C_670 : Cond.methodLink "WordSmith$Machine" 224 y_Me_append ∈ w_C := cC0_6 (List.mem_of_getElem? (i := 70) rfl)
theorem k_C_671 : Cond.methodLink "WordSmith$Machine" 227 y_Me_grow ∈ w_C := cC0_6 (List.mem_of_getElem? (i := 71) rfl)
theorem k_C_672 : Cond.instanceMethod y_Me_grow ∈ w_C := cC0_6 (List.mem_of_getElem? (i := 72) rfl)
theorem k_C_673 : Cond.selects "WordSmith$Memory" y_Me_grow y_Me_grow ∈ w_C := cC0_6 (List.mem_of_getElem? (i := 73) rfl)
theorem k_C_674 : Cond.code y_Me_grow b_Me_grow 2 none ∈ w_C := cC0_6 (List.mem_of_getElem? (i := 74) rfl)
theorem k_C_675 : Cond.methodLink "WordSmith$Machine" 230 y_Me_tellBlock ∈ w_C := cC0_6 (List.mem_of_getElem? (i := 75) rfl)
theorem k_C_676 : Cond.instanceMethod y_Me_tellBlock ∈ w_C := cC0_6 (List.mem_of_getElem? (i := 76) rfl)
theorem k_C_677 : Cond.selects "WordSmith$Memory" y_Me_tellBlock y_Me_tellBlock ∈ w_C := cC0_6 (List.mem_of_getElem? (i := 77) rfl)
theorem k_C_678 : Cond.code y_Me_tellBlock b_Me_tellBlock 3 (some .int) ∈ w_C := cC0_6 (List.mem_of_getElem? (i := 78) rfl)
theorem k_C_679 : Cond.methodLink "WordSmith$Memory" 46 y_Me_bufferWith ∈ w_C := cC0_6 (List.mem_of_getElem? (i := 79) rfl)
theorem k_C_680 : Cond.instanceMethod y_Me_bufferWith ∈ w_C := cC0_6 (List.mem_of_getElem? (i := 80) rfl)
theorem k_C_681 : Cond.code y_Me_bufferWith b_Me_bufferWith 3 (some .int) ∈ w_C := cC0_6 (List.mem_of_getElem? (i := 81) rfl)
theorem k_C_682 : Cond.methodLink "WordSmith$Memory" 50 y_Me_writeIfUpdated ∈ w_C := cC0_6 (List.mem_of_getElem? (i := 82) rfl)
theorem k_C_683 : Cond.instanceMethod y_Me_writeIfUpdated ∈ w_C := cC0_6 (List.mem_of_getElem? (i := 83) rfl)
theorem k_C_684 : Cond.code y_Me_writeIfUpdated b_Me_writeIfUpdated 3 none ∈ w_C := cC0_6 (List.mem_of_getElem? (i := 84) rfl)
theorem k_C_685 : Cond.methodLink "WordSmith$Memory" 61 arraycopyName ∈ w_C := cC0_6 (List.mem_of_getElem? (i := 85) rfl)
theorem k_C_686 : Cond.methodLink "WordSmith$Memory" 54 y_Me_readInto ∈ w_C := cC0_6 (List.mem_of_getElem? (i := 86) rfl)
theorem k_C_687 : Cond.instanceMethod y_Me_readInto ∈ w_C := cC0_6 (List.mem_of_getElem? (i := 87) rfl)
theorem k_C_688 : Cond.code y_Me_readInto b_Me_readInto 3 none ∈ w_C := cC0_6 (List.mem_of_getElem? (i := 88) rfl)
theorem k_C_689 : Cond.methodLink "WordSmith$Machine" 233 y_Me_update ∈ w_C := cC0_6 (List.mem_of_getElem? (i := 89) rfl)
theorem k_C_690 : Cond.instanceMethod y_Me_update ∈ w_C := cC0_6 (List.mem_of_getElem? (i := 90) rfl)
theorem k_C_691 : Cond.selects "WordSmith$Memory" y_Me_update y_Me_update ∈ w_C := cC0_6 (List.mem_of_getElem? (i := 91) rfl)
theorem k_C_692 : Cond.code y_Me_update b_Me_update 1 none ∈ w_C := cC0_6 (List.mem_of_getElem? (i := 92) rfl)
theorem k_C_693 : Cond.methodLink "WordSmith$Machine" 236 y_Me_flush ∈ w_C := cC0_6 (List.mem_of_getElem? (i := 93) rfl)
theorem k_C_694 : Cond.instanceMethod y_Me_flush ∈ w_C := cC0_6 (List.mem_of_getElem? (i := 94) rfl)
theorem k_C_695 : Cond.selects "WordSmith$Memory" y_Me_flush y_Me_flush ∈ w_C := cC0_6 (List.mem_of_getElem? (i := 95) rfl)
theorem k_C_696 : Cond.code y_Me_flush b_Me_flush 2 none ∈ w_C := cC0_6 (List.mem_of_getElem? (i := 96) rfl)
theorem k_C_697 : Cond.methodLink "WordSmith" 58 y_Ma_finishCalls ∈ w_C := cC0_6 (List.mem_of_getElem? (i := 97) rfl)
theorem k_C_698 : Cond.instanceMethod y_Ma_finishCalls ∈ w_C := cC0_6 (List.mem_of_getElem? (i := 98) rfl)
theorem k_C_699 : Cond.selects "WordSmith$Machine" y_Ma_finishCalls y_Ma_finishCalls ∈ w_C := cC0_6 (List.mem_of_getElem? (i := 99) rfl)
theorem k_C_700 : Cond.code y_Ma_finishCalls b_Ma_finishCalls 6 (some .int) ∈ w_C := cC0_7 (List.mem_of_getElem? (i := 0) rfl)
theorem k_C_701 : Cond.methodLink "WordSmith$Machine" 76 y_Ma_burn ∈ w_C := cC0_7 (List.mem_of_getElem? (i := 1) rfl)
theorem k_C_702 : Cond.methodLink "WordSmith$Machine" 85 y_Ma_putNumber ∈ w_C := cC0_7 (List.mem_of_getElem? (i := 2) rfl)
theorem k_C_703 : Cond.methodLink "WordSmith$Machine" 89 y_Ma_start ∈ w_C := cC0_7 (List.mem_of_getElem? (i := 3) rfl)
theorem k_C_704 : Cond.methodLink "WordSmith$Machine" 92 y_Ma_jump ∈ w_C := cC0_7 (List.mem_of_getElem? (i := 4) rfl)
theorem k_C_705 : Cond.instanceMethod y_Ma_jump ∈ w_C := cC0_7 (List.mem_of_getElem? (i := 5) rfl)
theorem k_C_706 : Cond.code y_Ma_jump b_Ma_jump 4 (some .int) ∈ w_C := cC0_7 (List.mem_of_getElem? (i := 6) rfl)
theorem k_C_707 : Cond.methodLink "WordSmith$Machine" 101 y_Ma_beginLoop ∈ w_C := cC0_7 (List.mem_of_getElem? (i := 7) rfl)
theorem k_C_708 : Cond.instanceMethod y_Ma_beginLoop ∈ w_C := cC0_7 (List.mem_of_getElem? (i := 8) rfl)
theorem k_C_709 : Cond.code y_Ma_beginLoop b_Ma_beginLoop 2 (some .int) ∈ w_C := cC0_7 (List.mem_of_getElem? (i := 9) rfl)
theorem k_C_710 : Cond.methodLink "WordSmith$Machine" 114 y_Ca_beginLoop ∈ w_C := cC0_7 (List.mem_of_getElem? (i := 10) rfl)
theorem k_C_711 : Cond.instanceMethod y_Ca_beginLoop ∈ w_C := cC0_7 (List.mem_of_getElem? (i := 11) rfl)
theorem k_C_712 : Cond.selects "WordSmith$Call" y_Ca_beginLoop y_Ca_beginLoop ∈ w_C := cC0_7 (List.mem_of_getElem? (i := 12) rfl)
theorem k_C_713 : Cond.code y_Ca_beginLoop b_Ca_beginLoop 3 none ∈ w_C := cC0_7 (List.mem_of_getElem? (i := 13) rfl)
theorem k_C_714 : Cond.methodLink "WordSmith$Machine" 105 y_Ca_countOn ∈ w_C := cC0_7 (List.mem_of_getElem? (i := 14) rfl)
theorem k_C_715 : Cond.instanceMethod y_Ca_countOn ∈ w_C := cC0_7 (List.mem_of_getElem? (i := 15) rfl)
theorem k_C_716 : Cond.selects "WordSmith$Call" y_Ca_countOn y_Ca_countOn ∈ w_C := cC0_7 (List.mem_of_getElem? (i := 16) rfl)
theorem k_C_717 : Cond.code y_Ca_countOn b_Ca_countOn 1 (some .boolean) ∈ w_C := cC0_7 (List.mem_of_getElem? (i := 17) rfl)
theorem k_C_718 : Cond.methodLink "WordSmith" 63 y_Rd_clear ∈ w_C := cC0_7 (List.mem_of_getElem? (i := 18) rfl)
theorem k_C_719 : Cond.instanceMethod y_Rd_clear ∈ w_C := cC0_7 (List.mem_of_getElem? (i := 19) rfl)
theorem k_C_720 : Cond.selects "WordSmith$Reader" y_Rd_clear y_Rd_clear ∈ w_C := cC0_7 (List.mem_of_getElem? (i := 20) rfl)
theorem k_C_721 : Cond.code y_Rd_clear b_Rd_clear 1 none ∈ w_C := cC0_7 (List.mem_of_getElem? (i := 21) rfl)
theorem k_C_722 : Cond.methodLink "WordSmith$Reader" 69 y_Ma_clear ∈ w_C := cC0_7 (List.mem_of_getElem? (i := 22) rfl)
theorem k_C_723 : Cond.instanceMethod y_Ma_clear ∈ w_C := cC0_7 (List.mem_of_getElem? (i := 23) rfl)
theorem k_C_724 : Cond.selects "WordSmith$Machine" y_Ma_clear y_Ma_clear ∈ w_C := cC0_7 (List.mem_of_getElem? (i := 24) rfl)
theorem k_C_725 : Cond.code y_Ma_clear b_Ma_clear 1 none ∈ w_C := cC0_7 (List.mem_of_getElem? (i := 25) rfl)
theorem k_C_726 : Cond.methodLink "WordSmith$Machine" 50 y_N_clear ∈ w_C := cC0_7 (List.mem_of_getElem? (i := 26) rfl)
theorem k_C_727 : Cond.instanceMethod y_N_clear ∈ w_C := cC0_7 (List.mem_of_getElem? (i := 27) rfl)
theorem k_C_728 : Cond.selects "WordSmith$NumberStack" y_N_clear y_N_clear ∈ w_C := cC0_7 (List.mem_of_getElem? (i := 28) rfl)
theorem k_C_729 : Cond.code y_N_clear b_N_clear 1 none ∈ w_C := cC0_7 (List.mem_of_getElem? (i := 29) rfl)
theorem k_C_730 : Cond.instanceMethod y_W_count ∈ w_C := cC0_7 (List.mem_of_getElem? (i := 30) rfl)
theorem k_C_731 : Cond.selects "WordSmith" y_W_count y_W_count ∈ w_C := cC0_7 (List.mem_of_getElem? (i := 31) rfl)
theorem k_C_732 : Cond.code y_W_count b_W_count 3 (some .int) ∈ w_C := cC0_7 (List.mem_of_getElem? (i := 32) rfl)
theorem k_C_733 : Cond.methodLink "WordSmith" 107 y_Co_isCompiling ∈ w_C := cC0_7 (List.mem_of_getElem? (i := 33) rfl)
theorem k_C_734 : Cond.instanceMethod y_W_stack ∈ w_C := cC0_7 (List.mem_of_getElem? (i := 34) rfl)
theorem k_C_735 : Cond.selects "WordSmith" y_W_stack y_W_stack ∈ w_C := cC0_7 (List.mem_of_getElem? (i := 35) rfl)
theorem k_C_736 : Cond.code y_W_stack b_W_stack 2 (some .int) ∈ w_C := cC0_7 (List.mem_of_getElem? (i := 36) rfl)
theorem k_C_737 : Cond.methodLink "WordSmith" 115 y_N_fromTop ∈ w_C := cC0_7 (List.mem_of_getElem? (i := 37) rfl)
theorem k_C_738 : Cond.instanceMethod y_W_out ∈ w_C := cC0_7 (List.mem_of_getElem? (i := 38) rfl)
theorem k_C_739 : Cond.selects "WordSmith" y_W_out y_W_out ∈ w_C := cC0_7 (List.mem_of_getElem? (i := 39) rfl)
theorem k_C_740 : Cond.code y_W_out b_W_out 4 (some .int) ∈ w_C := cC0_7 (List.mem_of_getElem? (i := 40) rfl)
theorem k_C_741 : Cond.instanceMethod y_W_cell ∈ w_C := cC0_7 (List.mem_of_getElem? (i := 41) rfl)
theorem k_C_742 : Cond.selects "WordSmith" y_W_cell y_W_cell ∈ w_C := cC0_7 (List.mem_of_getElem? (i := 42) rfl)
theorem k_C_743 : Cond.code y_W_cell b_W_cell 2 (some .int) ∈ w_C := cC0_7 (List.mem_of_getElem? (i := 43) rfl)
theorem k_C_744 : Cond.methodLink "WordSmith" 123 y_Me_fetch ∈ w_C := cC0_7 (List.mem_of_getElem? (i := 44) rfl)
theorem k_C_745 : Cond.instanceMethod y_W_disk ∈ w_C := cC0_7 (List.mem_of_getElem? (i := 45) rfl)
theorem k_C_746 : Cond.selects "WordSmith" y_W_disk y_W_disk ∈ w_C := cC0_7 (List.mem_of_getElem? (i := 46) rfl)
theorem k_C_747 : Cond.code y_W_disk b_W_disk 3 (some .int) ∈ w_C := cC0_7 (List.mem_of_getElem? (i := 47) rfl)
theorem k_C_748 : Cond.methodLink "WordSmith" 126 y_Me_onDisk ∈ w_C := cC0_7 (List.mem_of_getElem? (i := 48) rfl)
theorem k_C_749 : Cond.instanceMethod y_Me_onDisk ∈ w_C := cC0_7 (List.mem_of_getElem? (i := 49) rfl)
theorem k_C_750 : Cond.selects "WordSmith$Memory" y_Me_onDisk y_Me_onDisk ∈ w_C := cC0_7 (List.mem_of_getElem? (i := 50) rfl)
theorem k_C_751 : Cond.code y_Me_onDisk b_Me_onDisk 3 (some .int) ∈ w_C := cC0_7 (List.mem_of_getElem? (i := 51) rfl)
theorem k_C_752 : Cond.methodLink "WordSmith$Memory" 43 y_Me_hasBlock ∈ w_C := cC0_7 (List.mem_of_getElem? (i := 52) rfl)
theorem k_C_753 : Cond.instanceMethod y_W_items ∈ w_C := cC0_7 (List.mem_of_getElem? (i := 53) rfl)
theorem k_C_754 : Cond.selects "WordSmith" y_W_items y_W_items ∈ w_C := cC0_7 (List.mem_of_getElem? (i := 54) rfl)
theorem k_C_755 : Cond.code y_W_items b_W_items 3 (some .int) ∈ w_C := cC0_7 (List.mem_of_getElem? (i := 55) rfl)
theorem k_C_756 : Cond.methodLink "WordSmith" 129 y_Di_word ∈ w_C := cC0_7 (List.mem_of_getElem? (i := 56) rfl)
theorem k_C_757 : Cond.instanceMethod y_W_buffer ∈ w_C := cC0_7 (List.mem_of_getElem? (i := 57) rfl)
theorem k_C_758 : Cond.selects "WordSmith" y_W_buffer y_W_buffer ∈ w_C := cC0_7 (List.mem_of_getElem? (i := 58) rfl)
theorem k_C_759 : Cond.code y_W_buffer b_W_buffer 2 (some .int) ∈ w_C := cC0_7 (List.mem_of_getElem? (i := 59) rfl)
theorem k_C_760 : Cond.methodLink "WordSmith" 136 y_Me_bufferState ∈ w_C := cC0_7 (List.mem_of_getElem? (i := 60) rfl)
theorem k_C_761 : Cond.instanceMethod y_Me_bufferState ∈ w_C := cC0_7 (List.mem_of_getElem? (i := 61) rfl)
theorem k_C_762 : Cond.selects "WordSmith$Memory" y_Me_bufferState y_Me_bufferState ∈ w_C := cC0_7 (List.mem_of_getElem? (i := 62) rfl)
theorem k_C_763 : Cond.code y_Me_bufferState b_Me_bufferState 2 (some .int) ∈ w_C := cC0_7 (List.mem_of_getElem? (i := 63) rfl)
theorem k_C_764 : Cond.arrayClass .long ∈ w_C := cC0_7 (List.mem_of_getElem? (i := 64) rfl)
theorem k_C_765 : Cond.sameMethod "java/lang/AbstractStringBuilder" "java/lang/AbstractStringBuilder" "length" "()I" ∈ w_C := cC0_7 (List.mem_of_getElem? (i := 65) rfl)
theorem k_C_766 : Cond.sameMethod "java/lang/AbstractStringBuilder" "java/lang/AbstractStringBuilder" "append" "(C)Ljava/lang/AbstractStringBuilder;" ∈ w_C := cC0_7 (List.mem_of_getElem? (i := 66) rfl)
theorem k_C_767 : Cond.sameMethod "java/lang/AbstractStringBuilder" "java/lang/AbstractStringBuilder" "ensureCapacityInternal" "(I)V" ∈ w_C := cC0_7 (List.mem_of_getElem? (i := 67) rfl)
theorem k_C_768 : Cond.sameMethod "java/lang/AbstractStringBuilder" "java/lang/AbstractStringBuilder" "newCapacity" "(I)I" ∈ w_C := cC0_7 (List.mem_of_getElem? (i := 68) rfl)
theorem k_C_769 : Cond.sameMethod "java/lang/AbstractStringBuilder" "java/lang/AbstractStringBuilder" "inflate" "()V" ∈ w_C := cC0_7 (List.mem_of_getElem? (i := 69) rfl)
theorem k_C_770 : Cond.selects "java/lang/StringBuilder" y_AB_length y_SB_length ∈ w_C := cC0_7 (List.mem_of_getElem? (i := 70) rfl)
theorem k_C_771 : Cond.sameMethod "java/lang/AbstractStringBuilder" "java/lang/AbstractStringBuilder" "setLength" "(I)V" ∈ w_C := cC0_7 (List.mem_of_getElem? (i := 71) rfl)
theorem k_C_772 : Cond.fieldLink "WordSmith$BuiltIn" 188 "WordSmith$BuiltIn" "spelling" "Ljava/lang/String;" ∈ w_C := cC0_7 (List.mem_of_getElem? (i := 72) rfl)
theorem k_C_773 : Cond.fieldLink "WordSmith$BuiltIn" 184 "WordSmith$BuiltIn" "number" "I" ∈ w_C := cC0_7 (List.mem_of_getElem? (i := 73) rfl)
theorem k_C_774 : Cond.fieldLink "WordSmith$Reader" 196 "WordSmith$BuiltIn" "takes" "I" ∈ w_C := cC0_7 (List.mem_of_getElem? (i := 74) rfl)
theorem k_C_775 : Cond.fieldLink "java/lang/Enum" 7 "java/lang/Enum" "ordinal" "I" ∈ w_C := cC0_7 (List.mem_of_getElem? (i := 75) rfl)
theorem k_C_776 : Cond.fieldLink "WordSmith$Machine" 126 "WordSmith$BuiltIn" "number" "I" ∈ w_C := cC0_7 (List.mem_of_getElem? (i := 76) rfl)
theorem k_C_777 : Cond.fieldLink "WordSmith$Machine" 164 "WordSmith$BuiltIn" "takes" "I" ∈ w_C := cC0_7 (List.mem_of_getElem? (i := 77) rfl)
theorem k_C_778 : Cond.fieldLink "WordSmith$Machine" 191 "WordSmith$BuiltIn" "puts" "I" ∈ w_C := cC0_7 (List.mem_of_getElem? (i := 78) rfl)
theorem k_C_779 : Cond.selects "java/lang/StringBuilder" y_AB_ensureCapacityInternal y_AB_ensureCapacityInternal ∈ w_C := cC0_7 (List.mem_of_getElem? (i := 79) rfl)
theorem k_C_780 : Cond.selects "java/lang/StringBuilder" y_AB_newCapacity y_AB_newCapacity ∈ w_C := cC0_7 (List.mem_of_getElem? (i := 80) rfl)
theorem k_C_781 : Cond.selects "WordSmith$Reader" y_Rd_skipSpaces y_Rd_skipSpaces ∈ w_C := cC0_7 (List.mem_of_getElem? (i := 81) rfl)
theorem k_C_782 : Cond.selects "WordSmith$Reader" y_Rd_cutToken y_Rd_cutToken ∈ w_C := cC0_7 (List.mem_of_getElem? (i := 82) rfl)
theorem k_C_783 : Cond.selects "WordSmith$Reader" y_Rd_readNumber y_Rd_readNumber ∈ w_C := cC0_7 (List.mem_of_getElem? (i := 83) rfl)
theorem k_C_784 : Cond.selects "WordSmith$Reader" y_Rd_define y_Rd_define ∈ w_C := cC0_7 (List.mem_of_getElem? (i := 84) rfl)
theorem k_C_785 : Cond.selects "WordSmith$Reader" y_Rd_makeImmediate y_Rd_makeImmediate ∈ w_C := cC0_7 (List.mem_of_getElem? (i := 85) rfl)
theorem k_C_786 : Cond.selects "WordSmith$Reader" y_Rd_putNumberOfWord y_Rd_putNumberOfWord ∈ w_C := cC0_7 (List.mem_of_getElem? (i := 86) rfl)
theorem k_C_787 : Cond.selects "WordSmith$Reader" y_Rd_makeWord y_Rd_makeWord ∈ w_C := cC0_7 (List.mem_of_getElem? (i := 87) rfl)
theorem k_C_788 : Cond.selects "WordSmith$Reader" y_Rd_makeNumberWord y_Rd_makeNumberWord ∈ w_C := cC0_7 (List.mem_of_getElem? (i := 88) rfl)
theorem k_C_789 : Cond.selects "WordSmith$Reader" y_Rd_compile y_Rd_compile ∈ w_C := cC0_7 (List.mem_of_getElem? (i := 89) rfl)
theorem k_C_790 : Cond.selects "WordSmith$Compiler" y_Co_fits y_Co_fits ∈ w_C := cC0_7 (List.mem_of_getElem? (i := 90) rfl)
theorem k_C_791 : Cond.selects "WordSmith$Compiler" y_Co_push y_Co_push ∈ w_C := cC0_7 (List.mem_of_getElem? (i := 91) rfl)
theorem k_C_792 : Cond.selects "WordSmith$Compiler" y_Co_pop y_Co_pop ∈ w_C := cC0_7 (List.mem_of_getElem? (i := 92) rfl)
theorem k_C_793 : Cond.selects "WordSmith$Compiler" y_Co_closeWhile y_Co_closeWhile ∈ w_C := cC0_7 (List.mem_of_getElem? (i := 93) rfl)
theorem k_C_794 : Cond.selects "WordSmith$Machine" y_Ma_isExecutable y_Ma_isExecutable ∈ w_C := cC0_7 (List.mem_of_getElem? (i := 94) rfl)
theorem k_C_795 : Cond.selects "WordSmith$Machine" y_Ma_beginCall y_Ma_beginCall ∈ w_C := cC0_7 (List.mem_of_getElem? (i := 95) rfl)
theorem k_C_796 : Cond.selects "WordSmith$Machine" y_Ma_lack y_Ma_lack ∈ w_C := cC0_7 (List.mem_of_getElem? (i := 96) rfl)
theorem k_C_797 : Cond.selects "WordSmith$Machine" y_Ma_openLoops y_Ma_openLoops ∈ w_C := cC0_7 (List.mem_of_getElem? (i := 97) rfl)
theorem k_C_798 : Cond.selects "WordSmith$Machine" y_Ma_hasRoom y_Ma_hasRoom ∈ w_C := cC0_7 (List.mem_of_getElem? (i := 98) rfl)
theorem k_C_799 : Cond.selects "WordSmith$Machine" y_Ma_perform y_Ma_perform ∈ w_C := cC0_7 (List.mem_of_getElem? (i := 99) rfl)
theorem k_C_800 : Cond.selects "WordSmith$Machine" y_Ma_arrange y_Ma_arrange ∈ w_C := cC0_8 (List.mem_of_getElem? (i := 0) rfl)
theorem k_C_801 : Cond.selects "WordSmith$Machine" y_Ma_keep y_Ma_keep ∈ w_C := cC0_8 (List.mem_of_getElem? (i := 1) rfl)
theorem k_C_802 : Cond.selects "WordSmith$Machine" y_Ma_loopCount y_Ma_loopCount ∈ w_C := cC0_8 (List.mem_of_getElem? (i := 2) rfl)
theorem k_C_803 : Cond.selects "WordSmith$Machine" y_Ma_performOnMemory y_Ma_performOnMemory ∈ w_C := cC0_8 (List.mem_of_getElem? (i := 3) rfl)
theorem k_C_804 : Cond.selects "WordSmith$Memory" y_Me_bufferWith y_Me_bufferWith ∈ w_C := cC0_8 (List.mem_of_getElem? (i := 4) rfl)
theorem k_C_805 : Cond.selects "WordSmith$Memory" y_Me_writeIfUpdated y_Me_writeIfUpdated ∈ w_C := cC0_8 (List.mem_of_getElem? (i := 5) rfl)
theorem k_C_806 : Cond.selects "WordSmith$Memory" y_Me_readInto y_Me_readInto ∈ w_C := cC0_8 (List.mem_of_getElem? (i := 6) rfl)
theorem k_C_807 : Cond.selects "WordSmith$Machine" y_Ma_jump y_Ma_jump ∈ w_C := cC0_8 (List.mem_of_getElem? (i := 7) rfl)
theorem k_C_808 : Cond.selects "WordSmith$Machine" y_Ma_beginLoop y_Ma_beginLoop ∈ w_C := cC0_8 (List.mem_of_getElem? (i := 8) rfl)
theorem hin_W : ∀ w ∈ u_ws R_W F_W 2, w ∈ w_C := fun _ h => List.mem_append_right _ (List.mem_append_right _ (List.mem_append_right _ (List.mem_append_right _ (List.mem_append_right _ (List.mem_append_right _ (List.mem_append_right _ (List.mem_append_right _ (List.mem_append_right _ (List.mem_append_left _ h)))))))))
theorem hin_SB : ∀ w ∈ u_ws R_SB F_SB 4, w ∈ w_C := fun _ h => List.mem_append_right _ (List.mem_append_right _ (List.mem_append_right _ (List.mem_append_right _ (List.mem_append_right _ (List.mem_append_right _ (List.mem_append_right _ (List.mem_append_right _ (List.mem_append_right _ (List.mem_append_right _ (List.mem_append_left _ h))))))))))
theorem hin_St : ∀ w ∈ u_ws R_St F_St 4, w ∈ w_C := fun _ h => List.mem_append_right _ (List.mem_append_right _ (List.mem_append_right _ (List.mem_append_right _ (List.mem_append_right _ (List.mem_append_right _ (List.mem_append_right _ (List.mem_append_right _ (List.mem_append_right _ (List.mem_append_right _ (List.mem_append_right _ (List.mem_append_left _ h)))))))))))
theorem hin_Rd : ∀ w ∈ u_ws R_Rd F_Rd 6, w ∈ w_C := fun _ h => List.mem_append_right _ (List.mem_append_right _ (List.mem_append_right _ (List.mem_append_right _ (List.mem_append_right _ (List.mem_append_right _ (List.mem_append_right _ (List.mem_append_right _ (List.mem_append_right _ (List.mem_append_right _ (List.mem_append_right _ (List.mem_append_right _ (List.mem_append_left _ h))))))))))))
theorem hin_Ma : ∀ w ∈ u_ws R_Ma F_Ma 9, w ∈ w_C := fun _ h => List.mem_append_right _ (List.mem_append_right _ (List.mem_append_right _ (List.mem_append_right _ (List.mem_append_right _ (List.mem_append_right _ (List.mem_append_right _ (List.mem_append_right _ (List.mem_append_right _ (List.mem_append_right _ (List.mem_append_right _ (List.mem_append_right _ (List.mem_append_right _ (List.mem_append_left _ h)))))))))))))
theorem hin_N : ∀ w ∈ u_ws R_N F_N 2, w ∈ w_C := fun _ h => List.mem_append_right _ (List.mem_append_right _ (List.mem_append_right _ (List.mem_append_right _ (List.mem_append_right _ (List.mem_append_right _ (List.mem_append_right _ (List.mem_append_right _ (List.mem_append_right _ (List.mem_append_right _ (List.mem_append_right _ (List.mem_append_right _ (List.mem_append_right _ (List.mem_append_right _ (List.mem_append_left _ h))))))))))))))
theorem hin_Me : ∀ w ∈ u_ws R_Me F_Me 6, w ∈ w_C := fun _ h => List.mem_append_right _ (List.mem_append_right _ (List.mem_append_right _ (List.mem_append_right _ (List.mem_append_right _ (List.mem_append_right _ (List.mem_append_right _ (List.mem_append_right _ (List.mem_append_right _ (List.mem_append_right _ (List.mem_append_right _ (List.mem_append_right _ (List.mem_append_right _ (List.mem_append_right _ (List.mem_append_right _ (List.mem_append_left _ h)))))))))))))))
theorem hin_Di : ∀ w ∈ u_ws R_Di F_Di 2, w ∈ w_C := fun _ h => List.mem_append_right _ (List.mem_append_right _ (List.mem_append_right _ (List.mem_append_right _ (List.mem_append_right _ (List.mem_append_right _ (List.mem_append_right _ (List.mem_append_right _ (List.mem_append_right _ (List.mem_append_right _ (List.mem_append_right _ (List.mem_append_right _ (List.mem_append_right _ (List.mem_append_right _ (List.mem_append_right _ (List.mem_append_right _ (List.mem_append_left _ h))))))))))))))))
theorem hin_Ca : ∀ w ∈ u_ws R_Ca F_Ca 5, w ∈ w_C := fun _ h => List.mem_append_right _ (List.mem_append_right _ (List.mem_append_right _ (List.mem_append_right _ (List.mem_append_right _ (List.mem_append_right _ (List.mem_append_right _ (List.mem_append_right _ (List.mem_append_right _ (List.mem_append_right _ (List.mem_append_right _ (List.mem_append_right _ (List.mem_append_right _ (List.mem_append_right _ (List.mem_append_right _ (List.mem_append_right _ (List.mem_append_right _ (List.mem_append_left _ h)))))))))))))))))
theorem hin_Co : ∀ w ∈ u_ws R_Co F_Co 4, w ∈ w_C := fun _ h => List.mem_append_right _ (List.mem_append_right _ (List.mem_append_right _ (List.mem_append_right _ (List.mem_append_right _ (List.mem_append_right _ (List.mem_append_right _ (List.mem_append_right _ (List.mem_append_right _ (List.mem_append_right _ (List.mem_append_right _ (List.mem_append_right _ (List.mem_append_right _ (List.mem_append_right _ (List.mem_append_right _ (List.mem_append_right _ (List.mem_append_right _ (List.mem_append_right _ (List.mem_append_left _ h))))))))))))))))))
theorem hin_Mw : ∀ w ∈ u_ws R_Mw F_Mw 5, w ∈ w_C := fun _ h => List.mem_append_right _ (List.mem_append_right _ (List.mem_append_right _ (List.mem_append_right _ (List.mem_append_right _ (List.mem_append_right _ (List.mem_append_right _ (List.mem_append_right _ (List.mem_append_right _ (List.mem_append_right _ (List.mem_append_right _ (List.mem_append_right _ (List.mem_append_right _ (List.mem_append_right _ (List.mem_append_right _ (List.mem_append_right _ (List.mem_append_right _ (List.mem_append_right _ (List.mem_append_right _ (h)))))))))))))))))))
def nw_C : List Cond := [.methodLinkNest "WordSmith" 18 y_Rd_init "WordSmith", .methodLinkNest "WordSmith$Machine" 11 y_N_init "WordSmith", .fieldLinkNest "WordSmith" 74 "WordSmith$NumberStack" "size" "I" "WordSmith", .fieldLinkNest "WordSmith$Machine" 96 "WordSmith$NumberStack" "size" "I" "WordSmith", .fieldLinkNest "WordSmith$Reader" 191 "WordSmith$NumberStack" "size" "I" "WordSmith", .methodLinkNest "WordSmith$Machine" 23 y_Me_init "WordSmith", .fieldLinkNest "WordSmith" 98 "WordSmith$Memory" "here" "I" "WordSmith", .fieldLinkNest "WordSmith$Reader" 216 "WordSmith$Memory" "here" "I" "WordSmith", .fieldLinkNest "WordSmith$Machine" 221 "WordSmith$Memory" "here" "I" "WordSmith", .methodLinkNest "WordSmith$Machine" 30 y_Di_init "WordSmith", .fieldLinkNest "WordSmith" 89 "WordSmith$Dictionary" "made" "I" "WordSmith", .methodLinkNest "WordSmith$Machine" 45 y_Ca_init "WordSmith", .fieldLinkNest "WordSmith$Machine" 64 "WordSmith$Call" "word" "LWordSmith$MadeWord;" "WordSmith", .fieldLinkNest "WordSmith$Machine" 68 "WordSmith$Call" "next" "I" "WordSmith", .fieldLinkNest "WordSmith$Machine" 108 "WordSmith$Call" "loops" "I" "WordSmith", .fieldLinkNest "WordSmith" 70 "WordSmith$Machine" "data" "LWordSmith$NumberStack;" "WordSmith", .fieldLinkNest "WordSmith$Reader" 187 "WordSmith$Machine" "data" "LWordSmith$NumberStack;" "WordSmith", .fieldLinkNest "WordSmith" 79 "WordSmith$Machine" "returns" "LWordSmith$NumberStack;" "WordSmith", .fieldLinkNest "WordSmith" 94 "WordSmith$Machine" "memory" "LWordSmith$Memory;" "WordSmith", .fieldLinkNest "WordSmith$Reader" 183 "WordSmith$Machine" "memory" "LWordSmith$Memory;" "WordSmith", .fieldLinkNest "WordSmith" 85 "WordSmith$Machine" "dictionary" "LWordSmith$Dictionary;" "WordSmith", .fieldLinkNest "WordSmith$Reader" 94 "WordSmith$Machine" "dictionary" "LWordSmith$Dictionary;" "WordSmith", .fieldLinkNest "WordSmith" 119 "WordSmith$Machine" "output" "[I" "WordSmith", .fieldLinkNest "WordSmith" 82 "WordSmith$Machine" "putOut" "I" "WordSmith", .fieldLinkNest "WordSmith" 112 "WordSmith$Machine" "fuel" "I" "WordSmith", .methodLinkNest "WordSmith$Reader" 20 y_Co_init "WordSmith", .fieldLinkNest "WordSmith" 54 "WordSmith$Reader" "machine" "LWordSmith$Machine;" "WordSmith", .fieldLinkNest "WordSmith" 103 "WordSmith$Reader" "compiler" "LWordSmith$Compiler;" "WordSmith", .fieldLinkNest "WordSmith" 66 "WordSmith$Reader" "place" "I" "WordSmith", .fieldLinkNest "WordSmith$Dictionary" 21 "WordSmith$MadeWord" "name" "Ljava/lang/String;" "WordSmith", .fieldLinkNest "WordSmith$Machine" 79 "WordSmith$MadeWord" "kinds" "[I" "WordSmith", .fieldLinkNest "WordSmith$Machine" 82 "WordSmith$MadeWord" "values" "[I" "WordSmith", .fieldLinkNest "WordSmith$Machine" 71 "WordSmith$MadeWord" "size" "I" "WordSmith", .fieldLinkNest "WordSmith$Compiler" 83 "WordSmith$MadeWord" "size" "I" "WordSmith", .fieldLinkNest "WordSmith" 133 "WordSmith$MadeWord" "size" "I" "WordSmith", .fieldLinkNest "WordSmith$Dictionary" 41 "WordSmith$MadeWord" "immediate" "Z" "WordSmith", .fieldLinkNest "WordSmith$Reader" 177 "WordSmith$MadeWord" "immediate" "Z" "WordSmith", .fieldLinkNest "WordSmith$Memory" 58 "WordSmith" "BUFFER_ADDRESSES" "[I" "WordSmith"]
theorem kn_C_0 : Cond.methodLinkNest "WordSmith" 18 y_Rd_init "WordSmith" ∈ nw_C := List.mem_of_getElem? (i := 0) rfl
theorem kn_C_1 : Cond.methodLinkNest "WordSmith$Machine" 11 y_N_init "WordSmith" ∈ nw_C := List.mem_of_getElem? (i := 1) rfl
theorem kn_C_2 : Cond.fieldLinkNest "WordSmith" 74 "WordSmith$NumberStack" "size" "I" "WordSmith" ∈ nw_C := List.mem_of_getElem? (i := 2) rfl
theorem kn_C_3 : Cond.fieldLinkNest "WordSmith$Machine" 96 "WordSmith$NumberStack" "size" "I" "WordSmith" ∈ nw_C := List.mem_of_getElem? (i := 3) rfl
theorem kn_C_4 : Cond.fieldLinkNest "WordSmith$Reader" 191 "WordSmith$NumberStack" "size" "I" "WordSmith" ∈ nw_C := List.mem_of_getElem? (i := 4) rfl
theorem kn_C_5 : Cond.methodLinkNest "WordSmith$Machine" 23 y_Me_init "WordSmith" ∈ nw_C := List.mem_of_getElem? (i := 5) rfl
theorem kn_C_6 : Cond.fieldLinkNest "WordSmith" 98 "WordSmith$Memory" "here" "I" "WordSmith" ∈ nw_C := List.mem_of_getElem? (i := 6) rfl
theorem kn_C_7 : Cond.fieldLinkNest "WordSmith$Reader" 216 "WordSmith$Memory" "here" "I" "WordSmith" ∈ nw_C := List.mem_of_getElem? (i := 7) rfl
theorem kn_C_8 : Cond.fieldLinkNest "WordSmith$Machine" 221 "WordSmith$Memory" "here" "I" "WordSmith" ∈ nw_C := List.mem_of_getElem? (i := 8) rfl
theorem kn_C_9 : Cond.methodLinkNest "WordSmith$Machine" 30 y_Di_init "WordSmith" ∈ nw_C := List.mem_of_getElem? (i := 9) rfl
theorem kn_C_10 : Cond.fieldLinkNest "WordSmith" 89 "WordSmith$Dictionary" "made" "I" "WordSmith" ∈ nw_C := List.mem_of_getElem? (i := 10) rfl
theorem kn_C_11 : Cond.methodLinkNest "WordSmith$Machine" 45 y_Ca_init "WordSmith" ∈ nw_C := List.mem_of_getElem? (i := 11) rfl
theorem kn_C_12 : Cond.fieldLinkNest "WordSmith$Machine" 64 "WordSmith$Call" "word" "LWordSmith$MadeWord;" "WordSmith" ∈ nw_C := List.mem_of_getElem? (i := 12) rfl
theorem kn_C_13 : Cond.fieldLinkNest "WordSmith$Machine" 68 "WordSmith$Call" "next" "I" "WordSmith" ∈ nw_C := List.mem_of_getElem? (i := 13) rfl
theorem kn_C_14 : Cond.fieldLinkNest "WordSmith$Machine" 108 "WordSmith$Call" "loops" "I" "WordSmith" ∈ nw_C := List.mem_of_getElem? (i := 14) rfl
theorem kn_C_15 : Cond.fieldLinkNest "WordSmith" 70 "WordSmith$Machine" "data" "LWordSmith$NumberStack;" "WordSmith" ∈ nw_C := List.mem_of_getElem? (i := 15) rfl
theorem kn_C_16 : Cond.fieldLinkNest "WordSmith$Reader" 187 "WordSmith$Machine" "data" "LWordSmith$NumberStack;" "WordSmith" ∈ nw_C := List.mem_of_getElem? (i := 16) rfl
theorem kn_C_17 : Cond.fieldLinkNest "WordSmith" 79 "WordSmith$Machine" "returns" "LWordSmith$NumberStack;" "WordSmith" ∈ nw_C := List.mem_of_getElem? (i := 17) rfl
theorem kn_C_18 : Cond.fieldLinkNest "WordSmith" 94 "WordSmith$Machine" "memory" "LWordSmith$Memory;" "WordSmith" ∈ nw_C := List.mem_of_getElem? (i := 18) rfl
theorem kn_C_19 : Cond.fieldLinkNest "WordSmith$Reader" 183 "WordSmith$Machine" "memory" "LWordSmith$Memory;" "WordSmith" ∈ nw_C := List.mem_of_getElem? (i := 19) rfl
theorem kn_C_20 : Cond.fieldLinkNest "WordSmith" 85 "WordSmith$Machine" "dictionary" "LWordSmith$Dictionary;" "WordSmith" ∈ nw_C := List.mem_of_getElem? (i := 20) rfl
theorem kn_C_21 : Cond.fieldLinkNest "WordSmith$Reader" 94 "WordSmith$Machine" "dictionary" "LWordSmith$Dictionary;" "WordSmith" ∈ nw_C := List.mem_of_getElem? (i := 21) rfl
theorem kn_C_22 : Cond.fieldLinkNest "WordSmith" 119 "WordSmith$Machine" "output" "[I" "WordSmith" ∈ nw_C := List.mem_of_getElem? (i := 22) rfl
theorem kn_C_23 : Cond.fieldLinkNest "WordSmith" 82 "WordSmith$Machine" "putOut" "I" "WordSmith" ∈ nw_C := List.mem_of_getElem? (i := 23) rfl
theorem kn_C_24 : Cond.fieldLinkNest "WordSmith" 112 "WordSmith$Machine" "fuel" "I" "WordSmith" ∈ nw_C := List.mem_of_getElem? (i := 24) rfl
theorem kn_C_25 : Cond.methodLinkNest "WordSmith$Reader" 20 y_Co_init "WordSmith" ∈ nw_C := List.mem_of_getElem? (i := 25) rfl
theorem kn_C_26 : Cond.fieldLinkNest "WordSmith" 54 "WordSmith$Reader" "machine" "LWordSmith$Machine;" "WordSmith" ∈ nw_C := List.mem_of_getElem? (i := 26) rfl
theorem kn_C_27 : Cond.fieldLinkNest "WordSmith" 103 "WordSmith$Reader" "compiler" "LWordSmith$Compiler;" "WordSmith" ∈ nw_C := List.mem_of_getElem? (i := 27) rfl
theorem kn_C_28 : Cond.fieldLinkNest "WordSmith" 66 "WordSmith$Reader" "place" "I" "WordSmith" ∈ nw_C := List.mem_of_getElem? (i := 28) rfl
theorem kn_C_29 : Cond.fieldLinkNest "WordSmith$Dictionary" 21 "WordSmith$MadeWord" "name" "Ljava/lang/String;" "WordSmith" ∈ nw_C := List.mem_of_getElem? (i := 29) rfl
theorem kn_C_30 : Cond.fieldLinkNest "WordSmith$Machine" 79 "WordSmith$MadeWord" "kinds" "[I" "WordSmith" ∈ nw_C := List.mem_of_getElem? (i := 30) rfl
theorem kn_C_31 : Cond.fieldLinkNest "WordSmith$Machine" 82 "WordSmith$MadeWord" "values" "[I" "WordSmith" ∈ nw_C := List.mem_of_getElem? (i := 31) rfl
theorem kn_C_32 : Cond.fieldLinkNest "WordSmith$Machine" 71 "WordSmith$MadeWord" "size" "I" "WordSmith" ∈ nw_C := List.mem_of_getElem? (i := 32) rfl
theorem kn_C_33 : Cond.fieldLinkNest "WordSmith$Compiler" 83 "WordSmith$MadeWord" "size" "I" "WordSmith" ∈ nw_C := List.mem_of_getElem? (i := 33) rfl
theorem kn_C_34 : Cond.fieldLinkNest "WordSmith" 133 "WordSmith$MadeWord" "size" "I" "WordSmith" ∈ nw_C := List.mem_of_getElem? (i := 34) rfl
theorem kn_C_35 : Cond.fieldLinkNest "WordSmith$Dictionary" 41 "WordSmith$MadeWord" "immediate" "Z" "WordSmith" ∈ nw_C := List.mem_of_getElem? (i := 35) rfl
theorem kn_C_36 : Cond.fieldLinkNest "WordSmith$Reader" 177 "WordSmith$MadeWord" "immediate" "Z" "WordSmith" ∈ nw_C := List.mem_of_getElem? (i := 36) rfl
theorem kn_C_37 : Cond.fieldLinkNest "WordSmith$Memory" 58 "WordSmith" "BUFFER_ADDRESSES" "[I" "WordSmith" ∈ nw_C := List.mem_of_getElem? (i := 37) rfl
def isN : Cond → Bool
  | .fieldLinkNest .. => true
  | .methodLinkNest .. => true
  | _ => false
theorem all_N : nw_C.all isN = true := by decide +kernel
theorem isN_warm {w : Cond} (h : isN w = true) {s U : State} (hW : s.WarmedH U.vm) (hZ : va_Nw w s) : va_Nw w U := by
  cases w <;> first | exact va_Nw.warmF hW hZ | exact va_Nw.warmM hW hZ | cases h
theorem isN_same {w : Cond} (h : isN w = true) {u U : State} (hv : u.vm = U.vm) (hZ : va_Nw w u) : va_Nw w U := by
  cases w <;> first | exact va_Nw.same rfl hv hZ | cases h
def NW (g : Gm) (U : State) : Prop := (∀ w ∈ nw_C, va_Nw w U) ∧ vk_R "WordSmith$Reader" 25 "" (g.2.2 252) U ∧ vk_R "java/lang/StringLatin1" 151 "" (g.2.2 252) U ∧ va_Nw (.castable "[B" "java/lang/Cloneable") U
theorem NW.warm {g : Gm} {s U : State} (hW : s.WarmedH U.vm) (h : NW g s) : NW g U := ⟨fun w hw => isN_warm (List.all_eq_true.mp all_N w hw) hW (h.1 w hw), h.2.1.warm hW, h.2.2.1.warm hW, va_Nw.warmC hW h.2.2.2⟩
theorem NW.same {g : Gm} {u U : State} (hv : u.vm = U.vm) (h : NW g u) : NW g U := ⟨fun w hw => isN_same (List.all_eq_true.mp all_N w hw) hv (h.1 w hw), vk_R.same hv.symm h.2.1, vk_R.same hv.symm h.2.2.1, va_Nw.same rfl hv h.2.2.2⟩
theorem all_C : w_C.all goodWord = true := by decide +kernel
theorem good_C {y : MethodName} {b : ByteArray} {n : Nat} {r : Option FieldType} (hc : Cond.code y b n r ∈ w_C) : GoodIn w_C (.code y b n r :: w_C) := fun w h => (List.mem_cons.mp h).elim (fun e => e ▸ ⟨hc, Or.inl rfl⟩) (fun h => ⟨h, good_of_word (List.all_eq_true.mp all_C w h)⟩)
