def R_M : String := "WordSmithModel"
def F_M : u_T := fun k => match k with
  | 0 => ("WordSmithModel", "chars", "[I", true)
  | 1 => ("WordSmithModel", "typed", "I", false)
  | 2 => ("WordSmithModel", "at", "I", false)
  | 3 => ("WordSmithModel", "token", "I", false)
  | 4 => ("WordSmithModel", "tokenLength", "I", false)
  | 5 => ("WordSmithModel", "data", "[I", true)
  | 6 => ("WordSmithModel", "size", "I", false)
  | 7 => ("WordSmithModel", "other", "[I", true)
  | 8 => ("WordSmithModel", "otherSize", "I", false)
  | 9 => ("WordSmithModel", "memory", "[I", true)
  | 10 => ("WordSmithModel", "here", "I", false)
  | 11 => ("WordSmithModel", "printed", "I", false)
  | 12 => ("WordSmithModel", "output", "[I", true)
  | 13 => ("WordSmithModel", "fuel", "I", false)
  | 14 => ("WordSmithModel", "error", "I", false)
  | 15 => ("WordSmithModel", "names", "[J", true)
  | 16 => ("WordSmithModel", "immediate", "[Z", true)
  | 17 => ("WordSmithModel", "many", "[I", true)
  | 18 => ("WordSmithModel", "kinds", "[I", true)
  | 19 => ("WordSmithModel", "numbers", "[I", true)
  | 20 => ("WordSmithModel", "made", "I", false)
  | 21 => ("WordSmithModel", "compiling", "Z", false)
  | 22 => ("WordSmithModel", "opened", "I", false)
  | 23 => ("WordSmithModel", "openKind", "[I", true)
  | 24 => ("WordSmithModel", "openAt", "[I", true)
  | 25 => ("WordSmithModel", "depth", "I", false)
  | 26 => ("WordSmithModel", "word", "[I", true)
  | 27 => ("WordSmithModel", "next", "[I", true)
  | 28 => ("WordSmithModel", "loops", "[I", true)
  | 29 => ("WordSmithModel", "counts", "[I", true)
  | 30 => ("WordSmithModel", "limits", "[I", true)
  | 31 => ("WordSmithModel", "blocks", "[I", true)
  | 32 => ("WordSmithModel", "has", "[I", true)
  | 33 => ("WordSmithModel", "updated", "[Z", true)
  | _ => ("WordSmithModel", "told", "I", false)
def t_M : Nat → FieldType := fun k => match k with
  | 0 => (.array .int)
  | 1 => .int
  | 2 => .int
  | 3 => .int
  | 4 => .int
  | 5 => (.array .int)
  | 6 => .int
  | 7 => (.array .int)
  | 8 => .int
  | 9 => (.array .int)
  | 10 => .int
  | 11 => .int
  | 12 => (.array .int)
  | 13 => .int
  | 14 => .int
  | 15 => (.array .long)
  | 16 => (.array .boolean)
  | 17 => (.array .int)
  | 18 => (.array .int)
  | 19 => (.array .int)
  | 20 => .int
  | 21 => .boolean
  | 22 => .int
  | 23 => (.array .int)
  | 24 => (.array .int)
  | 25 => .int
  | 26 => (.array .int)
  | 27 => (.array .int)
  | 28 => (.array .int)
  | 29 => (.array .int)
  | 30 => (.array .int)
  | 31 => (.array .int)
  | 32 => (.array .int)
  | 33 => (.array .boolean)
  | _ => .int
theorem n_M : ∀ a, a < 35 → ∀ b, b < 35 → a ≠ b → (F_M a).2.1 ≠ (F_M b).2.1 := by decide +kernel
theorem t_M_ok : ∀ k, k < 35 → parseFieldDescriptor (F_M k).2.2.1 = some (t_M k) := by decide +kernel
def R_W : String := "WordSmith"
def F_W : u_T := fun k => match k with
  | 0 => ("WordSmith", "typed", "Ljava/lang/StringBuilder;", true)
  | _ => ("WordSmith", "reader", "LWordSmith$Reader;", true)
def t_W : Nat → FieldType := fun k => match k with
  | 0 => (.object "java/lang/StringBuilder")
  | _ => (.object "WordSmith$Reader")
theorem n_W : ∀ a, a < 2 → ∀ b, b < 2 → a ≠ b → (F_W a).2.1 ≠ (F_W b).2.1 := by decide +kernel
theorem t_W_ok : ∀ k, k < 2 → parseFieldDescriptor (F_W k).2.2.1 = some (t_W k) := by decide +kernel
def R_SB : String := "java/lang/StringBuilder"
def F_SB : u_T := fun k => match k with
  | 0 => ("java/lang/AbstractStringBuilder", "value", "[B", false)
  | 1 => ("java/lang/AbstractStringBuilder", "coder", "B", false)
  | 2 => ("java/lang/AbstractStringBuilder", "maybeLatin1", "Z", false)
  | _ => ("java/lang/AbstractStringBuilder", "count", "I", false)
def t_SB : Nat → FieldType := fun k => match k with
  | 0 => (.array .byte)
  | 1 => .byte
  | 2 => .boolean
  | _ => .int
theorem n_SB : ∀ a, a < 4 → ∀ b, b < 4 → a ≠ b → (F_SB a).2.1 ≠ (F_SB b).2.1 := by decide +kernel
theorem t_SB_ok : ∀ k, k < 4 → parseFieldDescriptor (F_SB k).2.2.1 = some (t_SB k) := by decide +kernel
def R_St : String := "java/lang/String"
def F_St : u_T := fun k => match k with
  | 0 => ("java/lang/String", "value", "[B", true)
  | 1 => ("java/lang/String", "coder", "B", true)
  | 2 => ("java/lang/String", "hash", "I", false)
  | _ => ("java/lang/String", "hashIsZero", "Z", false)
def t_St : Nat → FieldType := fun k => match k with
  | 0 => (.array .byte)
  | 1 => .byte
  | 2 => .int
  | _ => .boolean
theorem n_St : ∀ a, a < 4 → ∀ b, b < 4 → a ≠ b → (F_St a).2.1 ≠ (F_St b).2.1 := by decide +kernel
theorem t_St_ok : ∀ k, k < 4 → parseFieldDescriptor (F_St k).2.2.1 = some (t_St k) := by decide +kernel
def R_Rd : String := "WordSmith$Reader"
def F_Rd : u_T := fun k => match k with
  | 0 => ("WordSmith$Reader", "machine", "LWordSmith$Machine;", true)
  | 1 => ("WordSmith$Reader", "compiler", "LWordSmith$Compiler;", true)
  | 2 => ("WordSmith$Reader", "text", "Ljava/lang/String;", false)
  | 3 => ("WordSmith$Reader", "at", "I", false)
  | 4 => ("WordSmith$Reader", "place", "I", false)
  | _ => ("WordSmith$Reader", "token", "Ljava/lang/String;", false)
def t_Rd : Nat → FieldType := fun k => match k with
  | 0 => (.object "WordSmith$Machine")
  | 1 => (.object "WordSmith$Compiler")
  | 2 => (.object "java/lang/String")
  | 3 => .int
  | 4 => .int
  | _ => (.object "java/lang/String")
theorem n_Rd : ∀ a, a < 6 → ∀ b, b < 6 → a ≠ b → (F_Rd a).2.1 ≠ (F_Rd b).2.1 := by decide +kernel
theorem t_Rd_ok : ∀ k, k < 6 → parseFieldDescriptor (F_Rd k).2.2.1 = some (t_Rd k) := by decide +kernel
def R_Ma : String := "WordSmith$Machine"
def F_Ma : u_T := fun k => match k with
  | 0 => ("WordSmith$Machine", "data", "LWordSmith$NumberStack;", true)
  | 1 => ("WordSmith$Machine", "returns", "LWordSmith$NumberStack;", true)
  | 2 => ("WordSmith$Machine", "memory", "LWordSmith$Memory;", true)
  | 3 => ("WordSmith$Machine", "dictionary", "LWordSmith$Dictionary;", true)
  | 4 => ("WordSmith$Machine", "calls", "[LWordSmith$Call;", true)
  | 5 => ("WordSmith$Machine", "depth", "I", false)
  | 6 => ("WordSmith$Machine", "output", "[I", true)
  | 7 => ("WordSmith$Machine", "putOut", "I", false)
  | _ => ("WordSmith$Machine", "fuel", "I", false)
def t_Ma : Nat → FieldType := fun k => match k with
  | 0 => (.object "WordSmith$NumberStack")
  | 1 => (.object "WordSmith$NumberStack")
  | 2 => (.object "WordSmith$Memory")
  | 3 => (.object "WordSmith$Dictionary")
  | 4 => (.array (.object "WordSmith$Call"))
  | 5 => .int
  | 6 => (.array .int)
  | 7 => .int
  | _ => .int
theorem n_Ma : ∀ a, a < 9 → ∀ b, b < 9 → a ≠ b → (F_Ma a).2.1 ≠ (F_Ma b).2.1 := by decide +kernel
theorem t_Ma_ok : ∀ k, k < 9 → parseFieldDescriptor (F_Ma k).2.2.1 = some (t_Ma k) := by decide +kernel
def R_N : String := "WordSmith$NumberStack"
def F_N : u_T := fun k => match k with
  | 0 => ("WordSmith$NumberStack", "numbers", "[I", true)
  | _ => ("WordSmith$NumberStack", "size", "I", false)
def t_N : Nat → FieldType := fun k => match k with
  | 0 => (.array .int)
  | _ => .int
theorem n_N : ∀ a, a < 2 → ∀ b, b < 2 → a ≠ b → (F_N a).2.1 ≠ (F_N b).2.1 := by decide +kernel
theorem t_N_ok : ∀ k, k < 2 → parseFieldDescriptor (F_N k).2.2.1 = some (t_N k) := by decide +kernel
def R_Me : String := "WordSmith$Memory"
def F_Me : u_T := fun k => match k with
  | 0 => ("WordSmith$Memory", "cells", "[I", true)
  | 1 => ("WordSmith$Memory", "here", "I", false)
  | 2 => ("WordSmith$Memory", "blocks", "[[I", true)
  | 3 => ("WordSmith$Memory", "blockIn", "[I", true)
  | 4 => ("WordSmith$Memory", "updated", "[Z", true)
  | _ => ("WordSmith$Memory", "told", "I", false)
def t_Me : Nat → FieldType := fun k => match k with
  | 0 => (.array .int)
  | 1 => .int
  | 2 => (.array (.array .int))
  | 3 => (.array .int)
  | 4 => (.array .boolean)
  | _ => .int
theorem n_Me : ∀ a, a < 6 → ∀ b, b < 6 → a ≠ b → (F_Me a).2.1 ≠ (F_Me b).2.1 := by decide +kernel
theorem t_Me_ok : ∀ k, k < 6 → parseFieldDescriptor (F_Me k).2.2.1 = some (t_Me k) := by decide +kernel
def R_Di : String := "WordSmith$Dictionary"
def F_Di : u_T := fun k => match k with
  | 0 => ("WordSmith$Dictionary", "words", "[LWordSmith$MadeWord;", true)
  | _ => ("WordSmith$Dictionary", "made", "I", false)
def t_Di : Nat → FieldType := fun k => match k with
  | 0 => (.array (.object "WordSmith$MadeWord"))
  | _ => .int
theorem n_Di : ∀ a, a < 2 → ∀ b, b < 2 → a ≠ b → (F_Di a).2.1 ≠ (F_Di b).2.1 := by decide +kernel
theorem t_Di_ok : ∀ k, k < 2 → parseFieldDescriptor (F_Di k).2.2.1 = some (t_Di k) := by decide +kernel
def R_Ca : String := "WordSmith$Call"
def F_Ca : u_T := fun k => match k with
  | 0 => ("WordSmith$Call", "word", "LWordSmith$MadeWord;", false)
  | 1 => ("WordSmith$Call", "next", "I", false)
  | 2 => ("WordSmith$Call", "limits", "[I", true)
  | 3 => ("WordSmith$Call", "counts", "[I", true)
  | _ => ("WordSmith$Call", "loops", "I", false)
def t_Ca : Nat → FieldType := fun k => match k with
  | 0 => (.object "WordSmith$MadeWord")
  | 1 => .int
  | 2 => (.array .int)
  | 3 => (.array .int)
  | _ => .int
theorem n_Ca : ∀ a, a < 5 → ∀ b, b < 5 → a ≠ b → (F_Ca a).2.1 ≠ (F_Ca b).2.1 := by decide +kernel
theorem t_Ca_ok : ∀ k, k < 5 → parseFieldDescriptor (F_Ca k).2.2.1 = some (t_Ca k) := by decide +kernel
def R_Co : String := "WordSmith$Compiler"
def F_Co : u_T := fun k => match k with
  | 0 => ("WordSmith$Compiler", "draft", "LWordSmith$MadeWord;", false)
  | 1 => ("WordSmith$Compiler", "openers", "[LWordSmith$BuiltIn;", true)
  | 2 => ("WordSmith$Compiler", "places", "[I", true)
  | _ => ("WordSmith$Compiler", "open", "I", false)
def t_Co : Nat → FieldType := fun k => match k with
  | 0 => (.object "WordSmith$MadeWord")
  | 1 => (.array (.object "WordSmith$BuiltIn"))
  | 2 => (.array .int)
  | _ => .int
theorem n_Co : ∀ a, a < 4 → ∀ b, b < 4 → a ≠ b → (F_Co a).2.1 ≠ (F_Co b).2.1 := by decide +kernel
theorem t_Co_ok : ∀ k, k < 4 → parseFieldDescriptor (F_Co k).2.2.1 = some (t_Co k) := by decide +kernel
def R_Mw : String := "WordSmith$MadeWord"
def F_Mw : u_T := fun k => match k with
  | 0 => ("WordSmith$MadeWord", "name", "Ljava/lang/String;", true)
  | 1 => ("WordSmith$MadeWord", "kinds", "[I", true)
  | 2 => ("WordSmith$MadeWord", "values", "[I", true)
  | 3 => ("WordSmith$MadeWord", "size", "I", false)
  | _ => ("WordSmith$MadeWord", "immediate", "Z", false)
def t_Mw : Nat → FieldType := fun k => match k with
  | 0 => (.object "java/lang/String")
  | 1 => (.array .int)
  | 2 => (.array .int)
  | 3 => .int
  | _ => .boolean
theorem n_Mw : ∀ a, a < 5 → ∀ b, b < 5 → a ≠ b → (F_Mw a).2.1 ≠ (F_Mw b).2.1 := by decide +kernel
theorem t_Mw_ok : ∀ k, k < 5 → parseFieldDescriptor (F_Mw k).2.2.1 = some (t_Mw k) := by decide +kernel
def classes : List vw_C := [(R_M, F_M, 35), (R_W, F_W, 2), (R_SB, F_SB, 4), (R_St, F_St, 4), (R_Rd, F_Rd, 6), (R_Ma, F_Ma, 9), (R_N, F_N, 2), (R_Me, F_Me, 6), (R_Di, F_Di, 2), (R_Ca, F_Ca, 5), (R_Co, F_Co, 4), (R_Mw, F_Mw, 5)]
abbrev b_M_init : ByteArray := prog_13_method_1_code
def y_M_init : MethodName := ⟨R_M, "<init>", "()V"⟩
abbrev b_M_in : ByteArray := prog_13_method_2_code
def y_M_in : MethodName := ⟨R_M, "in", "(III)Z"⟩
abbrev b_M_name : ByteArray := prog_13_method_3_code
def y_M_name : MethodName := ⟨R_M, "name", "(IJ)V"⟩
abbrev b_M_fail : ByteArray := prog_13_method_4_code
def y_M_fail : MethodName := ⟨R_M, "fail", "(I)V"⟩
abbrev b_M_needs : ByteArray := prog_13_method_5_code
def y_M_needs : MethodName := ⟨R_M, "needs", "(I)Z"⟩
abbrev b_M_push : ByteArray := prog_13_method_6_code
def y_M_push : MethodName := ⟨R_M, "push", "(I)V"⟩
abbrev b_M_pop : ByteArray := prog_13_method_7_code
def y_M_pop : MethodName := ⟨R_M, "pop", "()I"⟩
abbrev b_M_top : ByteArray := prog_13_method_8_code
def y_M_top : MethodName := ⟨R_M, "top", "(I)I"⟩
abbrev b_M_nextToken : ByteArray := prog_13_method_9_code
def y_M_nextToken : MethodName := ⟨R_M, "nextToken", "()Z"⟩
abbrev b_M_isNumber : ByteArray := prog_13_method_10_code
def y_M_isNumber : MethodName := ⟨R_M, "isNumber", "()Z"⟩
abbrev b_M_number : ByteArray := prog_13_method_11_code
def y_M_number : MethodName := ⟨R_M, "number", "()I"⟩
abbrev b_M_isName : ByteArray := prog_13_method_12_code
def y_M_isName : MethodName := ⟨R_M, "isName", "()Z"⟩
abbrev b_M_key : ByteArray := prog_13_method_13_code
def y_M_key : MethodName := ⟨R_M, "key", "()J"⟩
abbrev b_M_find : ByteArray := prog_13_method_14_code
def y_M_find : MethodName := ⟨R_M, "find", "()I"⟩
abbrev b_M_arithmetic : ByteArray := prog_13_method_15_code
def y_M_arithmetic : MethodName := ⟨R_M, "arithmetic", "(I)V"⟩
abbrev b_M_rotate : ByteArray := prog_13_method_16_code
def y_M_rotate : MethodName := ⟨R_M, "rotate", "()V"⟩
abbrev b_M_shuffle : ByteArray := prog_13_method_17_code
def y_M_shuffle : MethodName := ⟨R_M, "shuffle", "(I)V"⟩
abbrev b_M_store : ByteArray := prog_13_method_18_code
def y_M_store : MethodName := ⟨R_M, "store", "(I)V"⟩
abbrev b_M_returns : ByteArray := prog_13_method_19_code
def y_M_returns : MethodName := ⟨R_M, "returns", "(I)V"⟩
abbrev b_M_open : ByteArray := prog_13_method_20_code
def y_M_open : MethodName := ⟨R_M, "open", "()V"⟩
abbrev b_M_parsing : ByteArray := prog_13_method_21_code
def y_M_parsing : MethodName := ⟨R_M, "parsing", "(I)V"⟩
abbrev b_M_begin : ByteArray := prog_13_method_22_code
def y_M_begin : MethodName := ⟨R_M, "begin", "(I)V"⟩
abbrev b_M_compile : ByteArray := prog_13_method_23_code
def y_M_compile : MethodName := ⟨R_M, "compile", "(II)V"⟩
abbrev b_M_settle : ByteArray := prog_13_method_24_code
def y_M_settle : MethodName := ⟨R_M, "settle", "()V"⟩
abbrev b_M_openOne : ByteArray := prog_13_method_25_code
def y_M_openOne : MethodName := ⟨R_M, "openOne", "(II)V"⟩
abbrev b_M_fits : ByteArray := prog_13_method_26_code
def y_M_fits : MethodName := ⟨R_M, "fits", "(I)Z"⟩
abbrev b_M_control : ByteArray := prog_13_method_27_code
def y_M_control : MethodName := ⟨R_M, "control", "(I)V"⟩
abbrev b_M_after : ByteArray := prog_13_method_28_code
def y_M_after : MethodName := ⟨R_M, "after", "(II)V"⟩
abbrev b_M_write : ByteArray := prog_13_method_29_code
def y_M_write : MethodName := ⟨R_M, "write", "(I)V"⟩
abbrev b_M_block : ByteArray := prog_13_method_30_code
def y_M_block : MethodName := ⟨R_M, "block", "()V"⟩
abbrev b_M_target : ByteArray := prog_13_method_31_code
def y_M_target : MethodName := ⟨R_M, "target", "()I"⟩
abbrev b_M_perform : ByteArray := prog_13_method_32_code
def y_M_perform : MethodName := ⟨R_M, "perform", "(I)V"⟩
abbrev b_M_enter : ByteArray := prog_13_method_33_code
def y_M_enter : MethodName := ⟨R_M, "enter", "(I)V"⟩
abbrev b_M_burn : ByteArray := prog_13_method_34_code
def y_M_burn : MethodName := ⟨R_M, "burn", "()V"⟩
abbrev b_M_beginLoop : ByteArray := prog_13_method_35_code
def y_M_beginLoop : MethodName := ⟨R_M, "beginLoop", "(I)V"⟩
abbrev b_M_step : ByteArray := prog_13_method_36_code
def y_M_step : MethodName := ⟨R_M, "step", "()V"⟩
abbrev b_M_read : ByteArray := prog_13_method_37_code
def y_M_read : MethodName := ⟨R_M, "read", "()V"⟩
abbrev b_M_type : ByteArray := prog_13_method_38_code
def y_M_type : MethodName := ⟨R_M, "type", "(II)Z"⟩
abbrev b_M_run : ByteArray := prog_13_method_39_code
def y_M_run : MethodName := ⟨R_M, "run", "()I"⟩
abbrev b_M_count : ByteArray := prog_13_method_40_code
def y_M_count : MethodName := ⟨R_M, "count", "(I)I"⟩
abbrev b_M_stack : ByteArray := prog_13_method_41_code
def y_M_stack : MethodName := ⟨R_M, "stack", "(I)I"⟩
abbrev b_M_out : ByteArray := prog_13_method_42_code
def y_M_out : MethodName := ⟨R_M, "out", "(I)I"⟩
abbrev b_M_cell : ByteArray := prog_13_method_43_code
def y_M_cell : MethodName := ⟨R_M, "cell", "(I)I"⟩
abbrev b_M_disk : ByteArray := prog_13_method_44_code
def y_M_disk : MethodName := ⟨R_M, "disk", "(II)I"⟩
abbrev b_M_items : ByteArray := prog_13_method_45_code
def y_M_items : MethodName := ⟨R_M, "items", "(I)I"⟩
abbrev b_M_buffer : ByteArray := prog_13_method_46_code
def y_M_buffer : MethodName := ⟨R_M, "buffer", "(I)I"⟩
def w_M0 : List Cond := [.code y_M_init b_M_init 1 none, .code y_M_in b_M_in 3 (some .boolean), .code y_M_name b_M_name 9 none, .code y_M_fail b_M_fail 2 none, .code y_M_needs b_M_needs 2 (some .boolean), .code y_M_push b_M_push 2 none, .code y_M_pop b_M_pop 1 (some .int), .code y_M_top b_M_top 2 (some .int), .code y_M_nextToken b_M_nextToken 1 (some .boolean), .code y_M_isNumber b_M_isNumber 4 (some .boolean), .code y_M_number b_M_number 3 (some .int), .code y_M_isName b_M_isName 1 (some .boolean), .code y_M_key b_M_key 4 (some .long), .code y_M_find b_M_find 5 (some .int), .code y_M_arithmetic b_M_arithmetic 5 none, .code y_M_rotate b_M_rotate 4 none, .code y_M_shuffle b_M_shuffle 4 none, .code y_M_store b_M_store 4 none, .code y_M_returns b_M_returns 3 none, .code y_M_open b_M_open 1 none, .code y_M_parsing b_M_parsing 4 none, .code y_M_begin b_M_begin 2 none, .code y_M_compile b_M_compile 3 none, .code y_M_settle b_M_settle 1 none, .code y_M_openOne b_M_openOne 3 none, .code y_M_fits b_M_fits 3 (some .boolean), .code y_M_control b_M_control 5 none, .code y_M_after b_M_after 3 none, .code y_M_write b_M_write 3 none, .code y_M_block b_M_block 4 none, .code y_M_target b_M_target 2 (some .int), .code y_M_perform b_M_perform 3 none, .code y_M_enter b_M_enter 2 none, .code y_M_burn b_M_burn 1 none, .code y_M_beginLoop b_M_beginLoop 3 none, .code y_M_step b_M_step 7 none, .code y_M_read b_M_read 2 none, .code y_M_type b_M_type 5 (some .boolean), .code y_M_run b_M_run 1 (some .int), .code y_M_count b_M_count 2 (some .int), .code y_M_stack b_M_stack 2 (some .int), .code y_M_out b_M_out 2 (some .int), .code y_M_cell b_M_cell 2 (some .int), .code y_M_disk b_M_disk 3 (some .int), .code y_M_items b_M_items 2 (some .int), .code y_M_buffer b_M_buffer 2 (some .int), .initialized R_M, .instanceMethod y_M_init, .methodLink R_M 1 objectInit, .constantLong R_M 76 43, .methodLink R_M 78 y_M_name, .instanceMethod y_M_name, .constantLong R_M 188 127, .constantLong R_M 184 128, .constantLong R_M 82 45, .constantLong R_M 84 42, .constantLong R_M 86 47, .constantLong R_M 88 61, .constantLong R_M 90 60, .constantLong R_M 92 46, .constantLong R_M 94 64, .constantLong R_M 96 33, .constantLong R_M 98 44, .constantLong R_M 100 105, .constantLong R_M 102 106, .constantLong R_M 104 39, .constantLong R_M 106 58, .constantLong R_M 108 59, .constantLong R_M 110 7171940, .constantLong R_M 112 6385252, .constantLong R_M 114 28530, .constantLong R_M 116 7892850, .constantLong R_M 118 12349, .constantLong R_M 120 121381805192293, .constantLong R_M 122 6583664, .constantLong R_M 124 1685221232, .constantLong R_M 126 1937203568, .constantLong R_M 128 1870030194, .constantLong R_M 130 7499636, .constantLong R_M 132 431198598248, .constantLong R_M 134 11041, .constantLong R_M 136 1751478885, .constantLong R_M 138 418430873460, .constantLong R_M 140 15986, .constantLong R_M 142 29246, .constantLong R_M 144 29248, .constantLong R_M 146 1702390132, .constantLong R_M 148 28561349503448165, .constantLong R_M 150 8530224966147402853, .constantLong R_M 152 7165066974322585204, .constantLong R_M 154 422726034283, .constantLong R_M 156 129125580895333, .constantLong R_M 158 439906300776, .constantLong R_M 160 26982, .constantLong R_M 162 1952998766, .constantLong R_M 164 1701606245, .constantLong R_M 166 422608071022, .constantLong R_M 168 504364296556, .constantLong R_M 170 418346264942, .constantLong R_M 172 512852847717, .constantLong R_M 174 125780002955636, .constantLong R_M 176 25711, .constantLong R_M 178 1819242352, .constantLong R_M 180 32199625191617381, .constantLong R_M 182 7596848428687647092, .constantLong R_M 186 101, .fieldLink R_M 7 R_M "chars" "[I", .fieldLink R_M 203 R_M "typed" "I", .fieldLink R_M 200 R_M "at" "I", .fieldLink R_M 206 R_M "token" "I", .fieldLink R_M 209 R_M "tokenLength" "I", .fieldLink R_M 13 R_M "data" "[I", .fieldLink R_M 193 R_M "size" "I", .fieldLink R_M 16 R_M "other" "[I", .fieldLink R_M 254 R_M "otherSize" "I", .fieldLink R_M 19 R_M "memory" "[I", .fieldLink R_M 251 R_M "here" "I", .fieldLink R_M 248 R_M "printed" "I", .fieldLink R_M 22 R_M "output" "[I", .fieldLink R_M 325 R_M "fuel" "I", .fieldLink R_M 190 R_M "error" "I", .fieldLink R_M 25 R_M "names" "[J", .fieldLink R_M 29 R_M "immediate" "[Z", .fieldLink R_M 33 R_M "many" "[I", .fieldLink R_M 36 R_M "kinds" "[I", .fieldLink R_M 39 R_M "numbers" "[I", .fieldLink R_M 227 R_M "made" "I", .fieldLink R_M 260 R_M "compiling" "Z", .fieldLink R_M 276 R_M "opened" "I", .fieldLink R_M 42 R_M "openKind" "[I", .fieldLink R_M 45 R_M "openAt" "[I", .fieldLink R_M 257 R_M "depth" "I", .fieldLink R_M 48 R_M "word" "[I", .fieldLink R_M 51 R_M "next" "[I", .fieldLink R_M 54 R_M "loops" "[I", .fieldLink R_M 57 R_M "counts" "[I", .fieldLink R_M 60 R_M "limits" "[I", .fieldLink R_M 63 R_M "blocks" "[I", .fieldLink R_M 66 R_M "has" "[I", .fieldLink R_M 69 R_M "updated" "[Z", .fieldLink R_M 72 R_M "told" "I", .instanceMethod y_M_type, .selects R_M y_M_type y_M_type, .methodLink R_M 212 y_M_in, .static y_M_in, .instanceMethod y_M_run, .selects R_M y_M_run y_M_run, .methodLink R_M 264 y_M_nextToken, .instanceMethod y_M_nextToken, .methodLink R_M 343 y_M_read, .instanceMethod y_M_read, .methodLink R_M 328 y_M_burn, .instanceMethod y_M_burn, .methodLink R_M 196 y_M_fail, .instanceMethod y_M_fail, .methodLink R_M 267 y_M_find, .instanceMethod y_M_find, .methodLink R_M 220 y_M_isName, .instanceMethod y_M_isName, .methodLink R_M 216 y_M_isNumber, .instanceMethod y_M_isNumber, .methodLink R_M 223 y_M_key, .instanceMethod y_M_key, .methodLink R_M 337 y_M_number, .instanceMethod y_M_number, .methodLink R_M 279 y_M_compile, .instanceMethod y_M_compile, .methodLink R_M 238 y_M_push, .instanceMethod y_M_push, .methodLink R_M 331 y_M_perform, .instanceMethod y_M_perform, .methodLink R_M 298 y_M_target, .instanceMethod y_M_target, .methodLink R_M 230 y_M_needs, .instanceMethod y_M_needs, .methodLink R_M 234 y_M_top, .instanceMethod y_M_top, .methodLink R_M 241 y_M_pop, .instanceMethod y_M_pop, .methodLink R_M 301 y_M_enter, .instanceMethod y_M_enter, .methodLink R_M 304 y_M_arithmetic, .instanceMethod y_M_arithmetic, .methodLink R_M 307 y_M_shuffle, .instanceMethod y_M_shuffle, .methodLink R_M 245 y_M_rotate, .instanceMethod y_M_rotate, .methodLink R_M 310 y_M_store, .instanceMethod y_M_store, .methodLink R_M 313 y_M_returns, .instanceMethod y_M_returns, .methodLink R_M 316 y_M_parsing, .instanceMethod y_M_parsing, .methodLink R_M 270 y_M_open, .instanceMethod y_M_open, .methodLink R_M 273 y_M_begin, .instanceMethod y_M_begin, .methodLink R_M 319 y_M_block, .instanceMethod y_M_block, .methodLink R_M 295 y_M_write, .instanceMethod y_M_write, .methodLink R_M 322 y_M_control, .instanceMethod y_M_control, .methodLink R_M 283 y_M_fits, .instanceMethod y_M_fits, .methodLink R_M 286 y_M_after, .instanceMethod y_M_after, .methodLink R_M 289 y_M_settle, .instanceMethod y_M_settle, .methodLink R_M 292 y_M_openOne, .instanceMethod y_M_openOne, .methodLink R_M 340 y_M_step, .instanceMethod y_M_step, .methodLink R_M 334 y_M_beginLoop, .instanceMethod y_M_beginLoop, .instanceMethod y_M_count, .selects R_M y_M_count y_M_count, .instanceMethod y_M_stack, .selects R_M y_M_stack y_M_stack, .instanceMethod y_M_out, .selects R_M y_M_out y_M_out, .instanceMethod y_M_cell, .selects R_M y_M_cell y_M_cell, .instanceMethod y_M_disk, .selects R_M y_M_disk y_M_disk, .instanceMethod y_M_items, .selects R_M y_M_items y_M_items, .instanceMethod y_M_buffer, .selects R_M y_M_buffer y_M_buffer, .selects R_M y_M_after y_M_after, .selects R_M y_M_arithmetic y_M_arithmetic, .selects R_M y_M_begin y_M_begin, .selects R_M y_M_beginLoop y_M_beginLoop, .selects R_M y_M_block y_M_block, .selects R_M y_M_burn y_M_burn, .selects R_M y_M_compile y_M_compile, .selects R_M y_M_control y_M_control, .selects R_M y_M_enter y_M_enter, .selects R_M y_M_fail y_M_fail, .selects R_M y_M_find y_M_find, .selects R_M y_M_fits y_M_fits, .selects R_M y_M_isName y_M_isName, .selects R_M y_M_isNumber y_M_isNumber, .selects R_M y_M_key y_M_key, .selects R_M y_M_name y_M_name, .selects R_M y_M_needs y_M_needs, .selects R_M y_M_nextToken y_M_nextToken, .selects R_M y_M_number y_M_number, .selects R_M y_M_open y_M_open, .selects R_M y_M_openOne y_M_openOne, .selects R_M y_M_parsing y_M_parsing, .selects R_M y_M_perform y_M_perform, .selects R_M y_M_pop y_M_pop, .selects R_M y_M_push y_M_push, .selects R_M y_M_read y_M_read, .selects R_M y_M_returns y_M_returns, .selects R_M y_M_rotate y_M_rotate, .selects R_M y_M_settle y_M_settle, .selects R_M y_M_shuffle y_M_shuffle, .selects R_M y_M_step y_M_step, .selects R_M y_M_store y_M_store, .selects R_M y_M_target y_M_target, .selects R_M y_M_top y_M_top, .selects R_M y_M_write y_M_write, .instanceMethod objectInit, .code objectInit ⟨#[0xb1]⟩ 1 none, .arrayClass .int, .arrayClass .boolean, .arrayClass .long]
def w_M : List Cond := w_M0 ++ u_ws R_M F_M 35
theorem k_M_0 : Cond.code y_M_init b_M_init 1 none ∈ w_M := List.mem_append_left _ (List.mem_of_getElem? (i := 0) rfl)
theorem k_M_1 : Cond.code y_M_in b_M_in 3 (some .boolean) ∈ w_M := List.mem_append_left _ (List.mem_of_getElem? (i := 1) rfl)
theorem k_M_2 : Cond.code y_M_name b_M_name 9 none ∈ w_M := List.mem_append_left _ (List.mem_of_getElem? (i := 2) rfl)
theorem k_M_3 : Cond.code y_M_fail b_M_fail 2 none ∈ w_M := List.mem_append_left _ (List.mem_of_getElem? (i := 3) rfl)
theorem k_M_4 : Cond.code y_M_needs b_M_needs 2 (some .boolean) ∈ w_M := List.mem_append_left _ (List.mem_of_getElem? (i := 4) rfl)
theorem k_M_5 : Cond.code y_M_push b_M_push 2 none ∈ w_M := List.mem_append_left _ (List.mem_of_getElem? (i := 5) rfl)
theorem k_M_6 : Cond.code y_M_pop b_M_pop 1 (some .int) ∈ w_M := List.mem_append_left _ (List.mem_of_getElem? (i := 6) rfl)
theorem k_M_7 : Cond.code y_M_top b_M_top 2 (some .int) ∈ w_M := List.mem_append_left _ (List.mem_of_getElem? (i := 7) rfl)
theorem k_M_8 : Cond.code y_M_nextToken b_M_nextToken 1 (some .boolean) ∈ w_M := List.mem_append_left _ (List.mem_of_getElem? (i := 8) rfl)
theorem k_M_9 : Cond.code y_M_isNumber b_M_isNumber 4 (some .boolean) ∈ w_M := List.mem_append_left _ (List.mem_of_getElem? (i := 9) rfl)
theorem k_M_10 : Cond.code y_M_number b_M_number 3 (some .int) ∈ w_M := List.mem_append_left _ (List.mem_of_getElem? (i := 10) rfl)
theorem k_M_11 : Cond.code y_M_isName b_M_isName 1 (some .boolean) ∈ w_M := List.mem_append_left _ (List.mem_of_getElem? (i := 11) rfl)
theorem k_M_12 : Cond.code y_M_key b_M_key 4 (some .long) ∈ w_M := List.mem_append_left _ (List.mem_of_getElem? (i := 12) rfl)
theorem k_M_13 : Cond.code y_M_find b_M_find 5 (some .int) ∈ w_M := List.mem_append_left _ (List.mem_of_getElem? (i := 13) rfl)
theorem k_M_14 : Cond.code y_M_arithmetic b_M_arithmetic 5 none ∈ w_M := List.mem_append_left _ (List.mem_of_getElem? (i := 14) rfl)
theorem k_M_15 : Cond.code y_M_rotate b_M_rotate 4 none ∈ w_M := List.mem_append_left _ (List.mem_of_getElem? (i := 15) rfl)
theorem k_M_16 : Cond.code y_M_shuffle b_M_shuffle 4 none ∈ w_M := List.mem_append_left _ (List.mem_of_getElem? (i := 16) rfl)
theorem k_M_17 : Cond.code y_M_store b_M_store 4 none ∈ w_M := List.mem_append_left _ (List.mem_of_getElem? (i := 17) rfl)
theorem k_M_18 : Cond.code y_M_returns b_M_returns 3 none ∈ w_M := List.mem_append_left _ (List.mem_of_getElem? (i := 18) rfl)
theorem k_M_19 : Cond.code y_M_open b_M_open 1 none ∈ w_M := List.mem_append_left _ (List.mem_of_getElem? (i := 19) rfl)
theorem k_M_20 : Cond.code y_M_parsing b_M_parsing 4 none ∈ w_M := List.mem_append_left _ (List.mem_of_getElem? (i := 20) rfl)
theorem k_M_21 : Cond.code y_M_begin b_M_begin 2 none ∈ w_M := List.mem_append_left _ (List.mem_of_getElem? (i := 21) rfl)
theorem k_M_22 : Cond.code y_M_compile b_M_compile 3 none ∈ w_M := List.mem_append_left _ (List.mem_of_getElem? (i := 22) rfl)
theorem k_M_23 : Cond.code y_M_settle b_M_settle 1 none ∈ w_M := List.mem_append_left _ (List.mem_of_getElem? (i := 23) rfl)
theorem k_M_24 : Cond.code y_M_openOne b_M_openOne 3 none ∈ w_M := List.mem_append_left _ (List.mem_of_getElem? (i := 24) rfl)
theorem k_M_25 : Cond.code y_M_fits b_M_fits 3 (some .boolean) ∈ w_M := List.mem_append_left _ (List.mem_of_getElem? (i := 25) rfl)
theorem k_M_26 : Cond.code y_M_control b_M_control 5 none ∈ w_M := List.mem_append_left _ (List.mem_of_getElem? (i := 26) rfl)
theorem k_M_27 : Cond.code y_M_after b_M_after 3 none ∈ w_M := List.mem_append_left _ (List.mem_of_getElem? (i := 27) rfl)
theorem k_M_28 : Cond.code y_M_write b_M_write 3 none ∈ w_M := List.mem_append_left _ (List.mem_of_getElem? (i := 28) rfl)
theorem k_M_29 : Cond.code y_M_block b_M_block 4 none ∈ w_M := List.mem_append_left _ (List.mem_of_getElem? (i := 29) rfl)
theorem k_M_30 : Cond.code y_M_target b_M_target 2 (some .int) ∈ w_M := List.mem_append_left _ (List.mem_of_getElem? (i := 30) rfl)
theorem k_M_31 : Cond.code y_M_perform b_M_perform 3 none ∈ w_M := List.mem_append_left _ (List.mem_of_getElem? (i := 31) rfl)
theorem k_M_32 : Cond.code y_M_enter b_M_enter 2 none ∈ w_M := List.mem_append_left _ (List.mem_of_getElem? (i := 32) rfl)
theorem k_M_33 : Cond.code y_M_burn b_M_burn 1 none ∈ w_M := List.mem_append_left _ (List.mem_of_getElem? (i := 33) rfl)
theorem k_M_34 : Cond.code y_M_beginLoop b_M_beginLoop 3 none ∈ w_M := List.mem_append_left _ (List.mem_of_getElem? (i := 34) rfl)
theorem k_M_35 : Cond.code y_M_step b_M_step 7 none ∈ w_M := List.mem_append_left _ (List.mem_of_getElem? (i := 35) rfl)
theorem k_M_36 : Cond.code y_M_read b_M_read 2 none ∈ w_M := List.mem_append_left _ (List.mem_of_getElem? (i := 36) rfl)
theorem k_M_37 : Cond.code y_M_type b_M_type 5 (some .boolean) ∈ w_M := List.mem_append_left _ (List.mem_of_getElem? (i := 37) rfl)
theorem k_M_38 : Cond.code y_M_run b_M_run 1 (some .int) ∈ w_M := List.mem_append_left _ (List.mem_of_getElem? (i := 38) rfl)
theorem k_M_39 : Cond.code y_M_count b_M_count 2 (some .int) ∈ w_M := List.mem_append_left _ (List.mem_of_getElem? (i := 39) rfl)
theorem k_M_40 : Cond.code y_M_stack b_M_stack 2 (some .int) ∈ w_M := List.mem_append_left _ (List.mem_of_getElem? (i := 40) rfl)
theorem k_M_41 : Cond.code y_M_out b_M_out 2 (some .int) ∈ w_M := List.mem_append_left _ (List.mem_of_getElem? (i := 41) rfl)
theorem k_M_42 : Cond.code y_M_cell b_M_cell 2 (some .int) ∈ w_M := List.mem_append_left _ (List.mem_of_getElem? (i := 42) rfl)
theorem k_M_43 : Cond.code y_M_disk b_M_disk 3 (some .int) ∈ w_M := List.mem_append_left _ (List.mem_of_getElem? (i := 43) rfl)
theorem k_M_44 : Cond.code y_M_items b_M_items 2 (some .int) ∈ w_M := List.mem_append_left _ (List.mem_of_getElem? (i := 44) rfl)
theorem k_M_45 : Cond.code y_M_buffer b_M_buffer 2 (some .int) ∈ w_M := List.mem_append_left _ (List.mem_of_getElem? (i := 45) rfl)
theorem k_M_46 : Cond.initialized R_M ∈ w_M := List.mem_append_left _ (List.mem_of_getElem? (i := 46) rfl)
theorem k_M_47 : Cond.instanceMethod y_M_init ∈ w_M := List.mem_append_left _ (List.mem_of_getElem? (i := 47) rfl)
theorem k_M_48 : Cond.methodLink R_M 1 objectInit ∈ w_M := List.mem_append_left _ (List.mem_of_getElem? (i := 48) rfl)
theorem k_M_49 : Cond.constantLong R_M 76 43 ∈ w_M := List.mem_append_left _ (List.mem_of_getElem? (i := 49) rfl)
theorem k_M_50 : Cond.methodLink R_M 78 y_M_name ∈ w_M := List.mem_append_left _ (List.mem_of_getElem? (i := 50) rfl)
theorem k_M_51 : Cond.instanceMethod y_M_name ∈ w_M := List.mem_append_left _ (List.mem_of_getElem? (i := 51) rfl)
theorem k_M_52 : Cond.constantLong R_M 188 127 ∈ w_M := List.mem_append_left _ (List.mem_of_getElem? (i := 52) rfl)
theorem k_M_53 : Cond.constantLong R_M 184 128 ∈ w_M := List.mem_append_left _ (List.mem_of_getElem? (i := 53) rfl)
theorem k_M_54 : Cond.constantLong R_M 82 45 ∈ w_M := List.mem_append_left _ (List.mem_of_getElem? (i := 54) rfl)
theorem k_M_55 : Cond.constantLong R_M 84 42 ∈ w_M := List.mem_append_left _ (List.mem_of_getElem? (i := 55) rfl)
theorem k_M_56 : Cond.constantLong R_M 86 47 ∈ w_M := List.mem_append_left _ (List.mem_of_getElem? (i := 56) rfl)
theorem k_M_57 : Cond.constantLong R_M 88 61 ∈ w_M := List.mem_append_left _ (List.mem_of_getElem? (i := 57) rfl)
theorem k_M_58 : Cond.constantLong R_M 90 60 ∈ w_M := List.mem_append_left _ (List.mem_of_getElem? (i := 58) rfl)
theorem k_M_59 : Cond.constantLong R_M 92 46 ∈ w_M := List.mem_append_left _ (List.mem_of_getElem? (i := 59) rfl)
theorem k_M_60 : Cond.constantLong R_M 94 64 ∈ w_M := List.mem_append_left _ (List.mem_of_getElem? (i := 60) rfl)
theorem k_M_61 : Cond.constantLong R_M 96 33 ∈ w_M := List.mem_append_left _ (List.mem_of_getElem? (i := 61) rfl)
theorem k_M_62 : Cond.constantLong R_M 98 44 ∈ w_M := List.mem_append_left _ (List.mem_of_getElem? (i := 62) rfl)
theorem k_M_63 : Cond.constantLong R_M 100 105 ∈ w_M := List.mem_append_left _ (List.mem_of_getElem? (i := 63) rfl)
theorem k_M_64 : Cond.constantLong R_M 102 106 ∈ w_M := List.mem_append_left _ (List.mem_of_getElem? (i := 64) rfl)
theorem k_M_65 : Cond.constantLong R_M 104 39 ∈ w_M := List.mem_append_left _ (List.mem_of_getElem? (i := 65) rfl)
theorem k_M_66 : Cond.constantLong R_M 106 58 ∈ w_M := List.mem_append_left _ (List.mem_of_getElem? (i := 66) rfl)
theorem k_M_67 : Cond.constantLong R_M 108 59 ∈ w_M := List.mem_append_left _ (List.mem_of_getElem? (i := 67) rfl)
theorem k_M_68 : Cond.constantLong R_M 110 7171940 ∈ w_M := List.mem_append_left _ (List.mem_of_getElem? (i := 68) rfl)
theorem k_M_69 : Cond.constantLong R_M 112 6385252 ∈ w_M := List.mem_append_left _ (List.mem_of_getElem? (i := 69) rfl)
theorem k_M_70 : Cond.constantLong R_M 114 28530 ∈ w_M := List.mem_append_left _ (List.mem_of_getElem? (i := 70) rfl)
theorem k_M_71 : Cond.constantLong R_M 116 7892850 ∈ w_M := List.mem_append_left _ (List.mem_of_getElem? (i := 71) rfl)
theorem k_M_72 : Cond.constantLong R_M 118 12349 ∈ w_M := List.mem_append_left _ (List.mem_of_getElem? (i := 72) rfl)
theorem k_M_73 : Cond.constantLong R_M 120 121381805192293 ∈ w_M := List.mem_append_left _ (List.mem_of_getElem? (i := 73) rfl)
theorem k_M_74 : Cond.constantLong R_M 122 6583664 ∈ w_M := List.mem_append_left _ (List.mem_of_getElem? (i := 74) rfl)
theorem k_M_75 : Cond.constantLong R_M 124 1685221232 ∈ w_M := List.mem_append_left _ (List.mem_of_getElem? (i := 75) rfl)
theorem k_M_76 : Cond.constantLong R_M 126 1937203568 ∈ w_M := List.mem_append_left _ (List.mem_of_getElem? (i := 76) rfl)
theorem k_M_77 : Cond.constantLong R_M 128 1870030194 ∈ w_M := List.mem_append_left _ (List.mem_of_getElem? (i := 77) rfl)
theorem k_M_78 : Cond.constantLong R_M 130 7499636 ∈ w_M := List.mem_append_left _ (List.mem_of_getElem? (i := 78) rfl)
theorem k_M_79 : Cond.constantLong R_M 132 431198598248 ∈ w_M := List.mem_append_left _ (List.mem_of_getElem? (i := 79) rfl)
theorem k_M_80 : Cond.constantLong R_M 134 11041 ∈ w_M := List.mem_append_left _ (List.mem_of_getElem? (i := 80) rfl)
theorem k_M_81 : Cond.constantLong R_M 136 1751478885 ∈ w_M := List.mem_append_left _ (List.mem_of_getElem? (i := 81) rfl)
theorem k_M_82 : Cond.constantLong R_M 138 418430873460 ∈ w_M := List.mem_append_left _ (List.mem_of_getElem? (i := 82) rfl)
theorem k_M_83 : Cond.constantLong R_M 140 15986 ∈ w_M := List.mem_append_left _ (List.mem_of_getElem? (i := 83) rfl)
theorem k_M_84 : Cond.constantLong R_M 142 29246 ∈ w_M := List.mem_append_left _ (List.mem_of_getElem? (i := 84) rfl)
theorem k_M_85 : Cond.constantLong R_M 144 29248 ∈ w_M := List.mem_append_left _ (List.mem_of_getElem? (i := 85) rfl)
theorem k_M_86 : Cond.constantLong R_M 146 1702390132 ∈ w_M := List.mem_append_left _ (List.mem_of_getElem? (i := 86) rfl)
theorem k_M_87 : Cond.constantLong R_M 148 28561349503448165 ∈ w_M := List.mem_append_left _ (List.mem_of_getElem? (i := 87) rfl)
theorem k_M_88 : Cond.constantLong R_M 150 8530224966147402853 ∈ w_M := List.mem_append_left _ (List.mem_of_getElem? (i := 88) rfl)
theorem k_M_89 : Cond.constantLong R_M 152 7165066974322585204 ∈ w_M := List.mem_append_left _ (List.mem_of_getElem? (i := 89) rfl)
theorem k_M_90 : Cond.constantLong R_M 154 422726034283 ∈ w_M := List.mem_append_left _ (List.mem_of_getElem? (i := 90) rfl)
theorem k_M_91 : Cond.constantLong R_M 156 129125580895333 ∈ w_M := List.mem_append_left _ (List.mem_of_getElem? (i := 91) rfl)
theorem k_M_92 : Cond.constantLong R_M 158 439906300776 ∈ w_M := List.mem_append_left _ (List.mem_of_getElem? (i := 92) rfl)
theorem k_M_93 : Cond.constantLong R_M 160 26982 ∈ w_M := List.mem_append_left _ (List.mem_of_getElem? (i := 93) rfl)
theorem k_M_94 : Cond.constantLong R_M 162 1952998766 ∈ w_M := List.mem_append_left _ (List.mem_of_getElem? (i := 94) rfl)
theorem k_M_95 : Cond.constantLong R_M 164 1701606245 ∈ w_M := List.mem_append_left _ (List.mem_of_getElem? (i := 95) rfl)
theorem k_M_96 : Cond.constantLong R_M 166 422608071022 ∈ w_M := List.mem_append_left _ (List.mem_of_getElem? (i := 96) rfl)
theorem k_M_97 : Cond.constantLong R_M 168 504364296556 ∈ w_M := List.mem_append_left _ (List.mem_of_getElem? (i := 97) rfl)
theorem k_M_98 : Cond.constantLong R_M 170 418346264942 ∈ w_M := List.mem_append_left _ (List.mem_of_getElem? (i := 98) rfl)
theorem k_M_99 : Cond.constantLong R_M 172 512852847717 ∈ w_M := List.mem_append_left _ (List.mem_of_getElem? (i := 99) rfl)
theorem k_M_100 : Cond.constantLong R_M 174 125780002955636 ∈ w_M := List.mem_append_left _ (List.mem_of_getElem? (i := 100) rfl)
theorem k_M_101 : Cond.constantLong R_M 176 25711 ∈ w_M := List.mem_append_left _ (List.mem_of_getElem? (i := 101) rfl)
theorem k_M_102 : Cond.constantLong R_M 178 1819242352 ∈ w_M := List.mem_append_left _ (List.mem_of_getElem? (i := 102) rfl)
theorem k_M_103 : Cond.constantLong R_M 180 32199625191617381 ∈ w_M := List.mem_append_left _ (List.mem_of_getElem? (i := 103) rfl)
theorem k_M_104 : Cond.constantLong R_M 182 7596848428687647092 ∈ w_M := List.mem_append_left _ (List.mem_of_getElem? (i := 104) rfl)
theorem k_M_105 : Cond.constantLong R_M 186 101 ∈ w_M := List.mem_append_left _ (List.mem_of_getElem? (i := 105) rfl)
theorem k_M_106 : Cond.fieldLink R_M 7 R_M "chars" "[I" ∈ w_M := List.mem_append_left _ (List.mem_of_getElem? (i := 106) rfl)
theorem k_M_107 : Cond.fieldLink R_M 203 R_M "typed" "I" ∈ w_M := List.mem_append_left _ (List.mem_of_getElem? (i := 107) rfl)
theorem k_M_108 : Cond.fieldLink R_M 200 R_M "at" "I" ∈ w_M := List.mem_append_left _ (List.mem_of_getElem? (i := 108) rfl)
theorem k_M_109 : Cond.fieldLink R_M 206 R_M "token" "I" ∈ w_M := List.mem_append_left _ (List.mem_of_getElem? (i := 109) rfl)
theorem k_M_110 : Cond.fieldLink R_M 209 R_M "tokenLength" "I" ∈ w_M := List.mem_append_left _ (List.mem_of_getElem? (i := 110) rfl)
theorem k_M_111 : Cond.fieldLink R_M 13 R_M "data" "[I" ∈ w_M := List.mem_append_left _ (List.mem_of_getElem? (i := 111) rfl)
theorem k_M_112 : Cond.fieldLink R_M 193 R_M "size" "I" ∈ w_M := List.mem_append_left _ (List.mem_of_getElem? (i := 112) rfl)
theorem k_M_113 : Cond.fieldLink R_M 16 R_M "other" "[I" ∈ w_M := List.mem_append_left _ (List.mem_of_getElem? (i := 113) rfl)
theorem k_M_114 : Cond.fieldLink R_M 254 R_M "otherSize" "I" ∈ w_M := List.mem_append_left _ (List.mem_of_getElem? (i := 114) rfl)
theorem k_M_115 : Cond.fieldLink R_M 19 R_M "memory" "[I" ∈ w_M := List.mem_append_left _ (List.mem_of_getElem? (i := 115) rfl)
theorem k_M_116 : Cond.fieldLink R_M 251 R_M "here" "I" ∈ w_M := List.mem_append_left _ (List.mem_of_getElem? (i := 116) rfl)
theorem k_M_117 : Cond.fieldLink R_M 248 R_M "printed" "I" ∈ w_M := List.mem_append_left _ (List.mem_of_getElem? (i := 117) rfl)
theorem k_M_118 : Cond.fieldLink R_M 22 R_M "output" "[I" ∈ w_M := List.mem_append_left _ (List.mem_of_getElem? (i := 118) rfl)
theorem k_M_119 : Cond.fieldLink R_M 325 R_M "fuel" "I" ∈ w_M := List.mem_append_left _ (List.mem_of_getElem? (i := 119) rfl)
theorem k_M_120 : Cond.fieldLink R_M 190 R_M "error" "I" ∈ w_M := List.mem_append_left _ (List.mem_of_getElem? (i := 120) rfl)
theorem k_M_121 : Cond.fieldLink R_M 25 R_M "names" "[J" ∈ w_M := List.mem_append_left _ (List.mem_of_getElem? (i := 121) rfl)
theorem k_M_122 : Cond.fieldLink R_M 29 R_M "immediate" "[Z" ∈ w_M := List.mem_append_left _ (List.mem_of_getElem? (i := 122) rfl)
theorem k_M_123 : Cond.fieldLink R_M 33 R_M "many" "[I" ∈ w_M := List.mem_append_left _ (List.mem_of_getElem? (i := 123) rfl)
theorem k_M_124 : Cond.fieldLink R_M 36 R_M "kinds" "[I" ∈ w_M := List.mem_append_left _ (List.mem_of_getElem? (i := 124) rfl)
theorem k_M_125 : Cond.fieldLink R_M 39 R_M "numbers" "[I" ∈ w_M := List.mem_append_left _ (List.mem_of_getElem? (i := 125) rfl)
theorem k_M_126 : Cond.fieldLink R_M 227 R_M "made" "I" ∈ w_M := List.mem_append_left _ (List.mem_of_getElem? (i := 126) rfl)
theorem k_M_127 : Cond.fieldLink R_M 260 R_M "compiling" "Z" ∈ w_M := List.mem_append_left _ (List.mem_of_getElem? (i := 127) rfl)
theorem k_M_128 : Cond.fieldLink R_M 276 R_M "opened" "I" ∈ w_M := List.mem_append_left _ (List.mem_of_getElem? (i := 128) rfl)
theorem k_M_129 : Cond.fieldLink R_M 42 R_M "openKind" "[I" ∈ w_M := List.mem_append_left _ (List.mem_of_getElem? (i := 129) rfl)
theorem k_M_130 : Cond.fieldLink R_M 45 R_M "openAt" "[I" ∈ w_M := List.mem_append_left _ (List.mem_of_getElem? (i := 130) rfl)
theorem k_M_131 : Cond.fieldLink R_M 257 R_M "depth" "I" ∈ w_M := List.mem_append_left _ (List.mem_of_getElem? (i := 131) rfl)
theorem k_M_132 : Cond.fieldLink R_M 48 R_M "word" "[I" ∈ w_M := List.mem_append_left _ (List.mem_of_getElem? (i := 132) rfl)
theorem k_M_133 : Cond.fieldLink R_M 51 R_M "next" "[I" ∈ w_M := List.mem_append_left _ (List.mem_of_getElem? (i := 133) rfl)
theorem k_M_134 : Cond.fieldLink R_M 54 R_M "loops" "[I" ∈ w_M := List.mem_append_left _ (List.mem_of_getElem? (i := 134) rfl)
theorem k_M_135 : Cond.fieldLink R_M 57 R_M "counts" "[I" ∈ w_M := List.mem_append_left _ (List.mem_of_getElem? (i := 135) rfl)
theorem k_M_136 : Cond.fieldLink R_M 60 R_M "limits" "[I" ∈ w_M := List.mem_append_left _ (List.mem_of_getElem? (i := 136) rfl)
theorem k_M_137 : Cond.fieldLink R_M 63 R_M "blocks" "[I" ∈ w_M := List.mem_append_left _ (List.mem_of_getElem? (i := 137) rfl)
theorem k_M_138 : Cond.fieldLink R_M 66 R_M "has" "[I" ∈ w_M := List.mem_append_left _ (List.mem_of_getElem? (i := 138) rfl)
theorem k_M_139 : Cond.fieldLink R_M 69 R_M "updated" "[Z" ∈ w_M := List.mem_append_left _ (List.mem_of_getElem? (i := 139) rfl)
theorem k_M_140 : Cond.fieldLink R_M 72 R_M "told" "I" ∈ w_M := List.mem_append_left _ (List.mem_of_getElem? (i := 140) rfl)
theorem k_M_141 : Cond.instanceMethod y_M_type ∈ w_M := List.mem_append_left _ (List.mem_of_getElem? (i := 141) rfl)
theorem k_M_142 : Cond.selects R_M y_M_type y_M_type ∈ w_M := List.mem_append_left _ (List.mem_of_getElem? (i := 142) rfl)
theorem k_M_143 : Cond.methodLink R_M 212 y_M_in ∈ w_M := List.mem_append_left _ (List.mem_of_getElem? (i := 143) rfl)
theorem k_M_144 : Cond.static y_M_in ∈ w_M := List.mem_append_left _ (List.mem_of_getElem? (i := 144) rfl)
theorem k_M_145 : Cond.instanceMethod y_M_run ∈ w_M := List.mem_append_left _ (List.mem_of_getElem? (i := 145) rfl)
theorem k_M_146 : Cond.selects R_M y_M_run y_M_run ∈ w_M := List.mem_append_left _ (List.mem_of_getElem? (i := 146) rfl)
theorem k_M_147 : Cond.methodLink R_M 264 y_M_nextToken ∈ w_M := List.mem_append_left _ (List.mem_of_getElem? (i := 147) rfl)
theorem k_M_148 : Cond.instanceMethod y_M_nextToken ∈ w_M := List.mem_append_left _ (List.mem_of_getElem? (i := 148) rfl)
theorem k_M_149 : Cond.methodLink R_M 343 y_M_read ∈ w_M := List.mem_append_left _ (List.mem_of_getElem? (i := 149) rfl)
theorem k_M_150 : Cond.instanceMethod y_M_read ∈ w_M := List.mem_append_left _ (List.mem_of_getElem? (i := 150) rfl)
theorem k_M_151 : Cond.methodLink R_M 328 y_M_burn ∈ w_M := List.mem_append_left _ (List.mem_of_getElem? (i := 151) rfl)
theorem k_M_152 : Cond.instanceMethod y_M_burn ∈ w_M := List.mem_append_left _ (List.mem_of_getElem? (i := 152) rfl)
theorem k_M_153 : Cond.methodLink R_M 196 y_M_fail ∈ w_M := List.mem_append_left _ (List.mem_of_getElem? (i := 153) rfl)
theorem k_M_154 : Cond.instanceMethod y_M_fail ∈ w_M := List.mem_append_left _ (List.mem_of_getElem? (i := 154) rfl)
theorem k_M_155 : Cond.methodLink R_M 267 y_M_find ∈ w_M := List.mem_append_left _ (List.mem_of_getElem? (i := 155) rfl)
theorem k_M_156 : Cond.instanceMethod y_M_find ∈ w_M := List.mem_append_left _ (List.mem_of_getElem? (i := 156) rfl)
theorem k_M_157 : Cond.methodLink R_M 220 y_M_isName ∈ w_M := List.mem_append_left _ (List.mem_of_getElem? (i := 157) rfl)
theorem k_M_158 : Cond.instanceMethod y_M_isName ∈ w_M := List.mem_append_left _ (List.mem_of_getElem? (i := 158) rfl)
theorem k_M_159 : Cond.methodLink R_M 216 y_M_isNumber ∈ w_M := List.mem_append_left _ (List.mem_of_getElem? (i := 159) rfl)
theorem k_M_160 : Cond.instanceMethod y_M_isNumber ∈ w_M := List.mem_append_left _ (List.mem_of_getElem? (i := 160) rfl)
theorem k_M_161 : Cond.methodLink R_M 223 y_M_key ∈ w_M := List.mem_append_left _ (List.mem_of_getElem? (i := 161) rfl)
theorem k_M_162 : Cond.instanceMethod y_M_key ∈ w_M := List.mem_append_left _ (List.mem_of_getElem? (i := 162) rfl)
theorem k_M_163 : Cond.methodLink R_M 337 y_M_number ∈ w_M := List.mem_append_left _ (List.mem_of_getElem? (i := 163) rfl)
theorem k_M_164 : Cond.instanceMethod y_M_number ∈ w_M := List.mem_append_left _ (List.mem_of_getElem? (i := 164) rfl)
theorem k_M_165 : Cond.methodLink R_M 279 y_M_compile ∈ w_M := List.mem_append_left _ (List.mem_of_getElem? (i := 165) rfl)
theorem k_M_166 : Cond.instanceMethod y_M_compile ∈ w_M := List.mem_append_left _ (List.mem_of_getElem? (i := 166) rfl)
theorem k_M_167 : Cond.methodLink R_M 238 y_M_push ∈ w_M := List.mem_append_left _ (List.mem_of_getElem? (i := 167) rfl)
theorem k_M_168 : Cond.instanceMethod y_M_push ∈ w_M := List.mem_append_left _ (List.mem_of_getElem? (i := 168) rfl)
theorem k_M_169 : Cond.methodLink R_M 331 y_M_perform ∈ w_M := List.mem_append_left _ (List.mem_of_getElem? (i := 169) rfl)
theorem k_M_170 : Cond.instanceMethod y_M_perform ∈ w_M := List.mem_append_left _ (List.mem_of_getElem? (i := 170) rfl)
theorem k_M_171 : Cond.methodLink R_M 298 y_M_target ∈ w_M := List.mem_append_left _ (List.mem_of_getElem? (i := 171) rfl)
theorem k_M_172 : Cond.instanceMethod y_M_target ∈ w_M := List.mem_append_left _ (List.mem_of_getElem? (i := 172) rfl)
theorem k_M_173 : Cond.methodLink R_M 230 y_M_needs ∈ w_M := List.mem_append_left _ (List.mem_of_getElem? (i := 173) rfl)
theorem k_M_174 : Cond.instanceMethod y_M_needs ∈ w_M := List.mem_append_left _ (List.mem_of_getElem? (i := 174) rfl)
theorem k_M_175 : Cond.methodLink R_M 234 y_M_top ∈ w_M := List.mem_append_left _ (List.mem_of_getElem? (i := 175) rfl)
theorem k_M_176 : Cond.instanceMethod y_M_top ∈ w_M := List.mem_append_left _ (List.mem_of_getElem? (i := 176) rfl)
theorem k_M_177 : Cond.methodLink R_M 241 y_M_pop ∈ w_M := List.mem_append_left _ (List.mem_of_getElem? (i := 177) rfl)
theorem k_M_178 : Cond.instanceMethod y_M_pop ∈ w_M := List.mem_append_left _ (List.mem_of_getElem? (i := 178) rfl)
theorem k_M_179 : Cond.methodLink R_M 301 y_M_enter ∈ w_M := List.mem_append_left _ (List.mem_of_getElem? (i := 179) rfl)
theorem k_M_180 : Cond.instanceMethod y_M_enter ∈ w_M := List.mem_append_left _ (List.mem_of_getElem? (i := 180) rfl)
theorem k_M_181 : Cond.methodLink R_M 304 y_M_arithmetic ∈ w_M := List.mem_append_left _ (List.mem_of_getElem? (i := 181) rfl)
theorem k_M_182 : Cond.instanceMethod y_M_arithmetic ∈ w_M := List.mem_append_left _ (List.mem_of_getElem? (i := 182) rfl)
theorem k_M_183 : Cond.methodLink R_M 307 y_M_shuffle ∈ w_M := List.mem_append_left _ (List.mem_of_getElem? (i := 183) rfl)
theorem k_M_184 : Cond.instanceMethod y_M_shuffle ∈ w_M := List.mem_append_left _ (List.mem_of_getElem? (i := 184) rfl)
theorem k_M_185 : Cond.methodLink R_M 245 y_M_rotate ∈ w_M := List.mem_append_left _ (List.mem_of_getElem? (i := 185) rfl)
theorem k_M_186 : Cond.instanceMethod y_M_rotate ∈ w_M := List.mem_append_left _ (List.mem_of_getElem? (i := 186) rfl)
theorem k_M_187 : Cond.methodLink R_M 310 y_M_store ∈ w_M := List.mem_append_left _ (List.mem_of_getElem? (i := 187) rfl)
theorem k_M_188 : Cond.instanceMethod y_M_store ∈ w_M := List.mem_append_left _ (List.mem_of_getElem? (i := 188) rfl)
theorem k_M_189 : Cond.methodLink R_M 313 y_M_returns ∈ w_M := List.mem_append_left _ (List.mem_of_getElem? (i := 189) rfl)
theorem k_M_190 : Cond.instanceMethod y_M_returns ∈ w_M := List.mem_append_left _ (List.mem_of_getElem? (i := 190) rfl)
theorem k_M_191 : Cond.methodLink R_M 316 y_M_parsing ∈ w_M := List.mem_append_left _ (List.mem_of_getElem? (i := 191) rfl)
theorem k_M_192 : Cond.instanceMethod y_M_parsing ∈ w_M := List.mem_append_left _ (List.mem_of_getElem? (i := 192) rfl)
theorem k_M_193 : Cond.methodLink R_M 270 y_M_open ∈ w_M := List.mem_append_left _ (List.mem_of_getElem? (i := 193) rfl)
theorem k_M_194 : Cond.instanceMethod y_M_open ∈ w_M := List.mem_append_left _ (List.mem_of_getElem? (i := 194) rfl)
theorem k_M_195 : Cond.methodLink R_M 273 y_M_begin ∈ w_M := List.mem_append_left _ (List.mem_of_getElem? (i := 195) rfl)
theorem k_M_196 : Cond.instanceMethod y_M_begin ∈ w_M := List.mem_append_left _ (List.mem_of_getElem? (i := 196) rfl)
theorem k_M_197 : Cond.methodLink R_M 319 y_M_block ∈ w_M := List.mem_append_left _ (List.mem_of_getElem? (i := 197) rfl)
theorem k_M_198 : Cond.instanceMethod y_M_block ∈ w_M := List.mem_append_left _ (List.mem_of_getElem? (i := 198) rfl)
theorem k_M_199 : Cond.methodLink R_M 295 y_M_write ∈ w_M := List.mem_append_left _ (List.mem_of_getElem? (i := 199) rfl)
theorem k_M_200 : Cond.instanceMethod y_M_write ∈ w_M := List.mem_append_left _ (List.mem_of_getElem? (i := 200) rfl)
theorem k_M_201 : Cond.methodLink R_M 322 y_M_control ∈ w_M := List.mem_append_left _ (List.mem_of_getElem? (i := 201) rfl)
theorem k_M_202 : Cond.instanceMethod y_M_control ∈ w_M := List.mem_append_left _ (List.mem_of_getElem? (i := 202) rfl)
theorem k_M_203 : Cond.methodLink R_M 283 y_M_fits ∈ w_M := List.mem_append_left _ (List.mem_of_getElem? (i := 203) rfl)
theorem k_M_204 : Cond.instanceMethod y_M_fits ∈ w_M := List.mem_append_left _ (List.mem_of_getElem? (i := 204) rfl)
theorem k_M_205 : Cond.methodLink R_M 286 y_M_after ∈ w_M := List.mem_append_left _ (List.mem_of_getElem? (i := 205) rfl)
theorem k_M_206 : Cond.instanceMethod y_M_after ∈ w_M := List.mem_append_left _ (List.mem_of_getElem? (i := 206) rfl)
theorem k_M_207 : Cond.methodLink R_M 289 y_M_settle ∈ w_M := List.mem_append_left _ (List.mem_of_getElem? (i := 207) rfl)
theorem k_M_208 : Cond.instanceMethod y_M_settle ∈ w_M := List.mem_append_left _ (List.mem_of_getElem? (i := 208) rfl)
theorem k_M_209 : Cond.methodLink R_M 292 y_M_openOne ∈ w_M := List.mem_append_left _ (List.mem_of_getElem? (i := 209) rfl)
theorem k_M_210 : Cond.instanceMethod y_M_openOne ∈ w_M := List.mem_append_left _ (List.mem_of_getElem? (i := 210) rfl)
theorem k_M_211 : Cond.methodLink R_M 340 y_M_step ∈ w_M := List.mem_append_left _ (List.mem_of_getElem? (i := 211) rfl)
theorem k_M_212 : Cond.instanceMethod y_M_step ∈ w_M := List.mem_append_left _ (List.mem_of_getElem? (i := 212) rfl)
theorem k_M_213 : Cond.methodLink R_M 334 y_M_beginLoop ∈ w_M := List.mem_append_left _ (List.mem_of_getElem? (i := 213) rfl)
theorem k_M_214 : Cond.instanceMethod y_M_beginLoop ∈ w_M := List.mem_append_left _ (List.mem_of_getElem? (i := 214) rfl)
theorem k_M_215 : Cond.instanceMethod y_M_count ∈ w_M := List.mem_append_left _ (List.mem_of_getElem? (i := 215) rfl)
theorem k_M_216 : Cond.selects R_M y_M_count y_M_count ∈ w_M := List.mem_append_left _ (List.mem_of_getElem? (i := 216) rfl)
theorem k_M_217 : Cond.instanceMethod y_M_stack ∈ w_M := List.mem_append_left _ (List.mem_of_getElem? (i := 217) rfl)
theorem k_M_218 : Cond.selects R_M y_M_stack y_M_stack ∈ w_M := List.mem_append_left _ (List.mem_of_getElem? (i := 218) rfl)
theorem k_M_219 : Cond.instanceMethod y_M_out ∈ w_M := List.mem_append_left _ (List.mem_of_getElem? (i := 219) rfl)
theorem k_M_220 : Cond.selects R_M y_M_out y_M_out ∈ w_M := List.mem_append_left _ (List.mem_of_getElem? (i := 220) rfl)
theorem k_M_221 : Cond.instanceMethod y_M_cell ∈ w_M := List.mem_append_left _ (List.mem_of_getElem? (i := 221) rfl)
theorem k_M_222 : Cond.selects R_M y_M_cell y_M_cell ∈ w_M := List.mem_append_left _ (List.mem_of_getElem? (i := 222) rfl)
theorem k_M_223 : Cond.instanceMethod y_M_disk ∈ w_M := List.mem_append_left _ (List.mem_of_getElem? (i := 223) rfl)
theorem k_M_224 : Cond.selects R_M y_M_disk y_M_disk ∈ w_M := List.mem_append_left _ (List.mem_of_getElem? (i := 224) rfl)
theorem k_M_225 : Cond.instanceMethod y_M_items ∈ w_M := List.mem_append_left _ (List.mem_of_getElem? (i := 225) rfl)
theorem k_M_226 : Cond.selects R_M y_M_items y_M_items ∈ w_M := List.mem_append_left _ (List.mem_of_getElem? (i := 226) rfl)
theorem k_M_227 : Cond.instanceMethod y_M_buffer ∈ w_M := List.mem_append_left _ (List.mem_of_getElem? (i := 227) rfl)
theorem k_M_228 : Cond.selects R_M y_M_buffer y_M_buffer ∈ w_M := List.mem_append_left _ (List.mem_of_getElem? (i := 228) rfl)
theorem k_M_229 : Cond.selects R_M y_M_after y_M_after ∈ w_M := List.mem_append_left _ (List.mem_of_getElem? (i := 229) rfl)
theorem k_M_230 : Cond.selects R_M y_M_arithmetic y_M_arithmetic ∈ w_M := List.mem_append_left _ (List.mem_of_getElem? (i := 230) rfl)
theorem k_M_231 : Cond.selects R_M y_M_begin y_M_begin ∈ w_M := List.mem_append_left _ (List.mem_of_getElem? (i := 231) rfl)
theorem k_M_232 : Cond.selects R_M y_M_beginLoop y_M_beginLoop ∈ w_M := List.mem_append_left _ (List.mem_of_getElem? (i := 232) rfl)
theorem k_M_233 : Cond.selects R_M y_M_block y_M_block ∈ w_M := List.mem_append_left _ (List.mem_of_getElem? (i := 233) rfl)
theorem k_M_234 : Cond.selects R_M y_M_burn y_M_burn ∈ w_M := List.mem_append_left _ (List.mem_of_getElem? (i := 234) rfl)
theorem k_M_235 : Cond.selects R_M y_M_compile y_M_compile ∈ w_M := List.mem_append_left _ (List.mem_of_getElem? (i := 235) rfl)
theorem k_M_236 : Cond.selects R_M y_M_control y_M_control ∈ w_M := List.mem_append_left _ (List.mem_of_getElem? (i := 236) rfl)
theorem k_M_237 : Cond.selects R_M y_M_enter y_M_enter ∈ w_M := List.mem_append_left _ (List.mem_of_getElem? (i := 237) rfl)
theorem k_M_238 : Cond.selects R_M y_M_fail y_M_fail ∈ w_M := List.mem_append_left _ (List.mem_of_getElem? (i := 238) rfl)
theorem k_M_239 : Cond.selects R_M y_M_find y_M_find ∈ w_M := List.mem_append_left _ (List.mem_of_getElem? (i := 239) rfl)
theorem k_M_240 : Cond.selects R_M y_M_fits y_M_fits ∈ w_M := List.mem_append_left _ (List.mem_of_getElem? (i := 240) rfl)
theorem k_M_241 : Cond.selects R_M y_M_isName y_M_isName ∈ w_M := List.mem_append_left _ (List.mem_of_getElem? (i := 241) rfl)
theorem k_M_242 : Cond.selects R_M y_M_isNumber y_M_isNumber ∈ w_M := List.mem_append_left _ (List.mem_of_getElem? (i := 242) rfl)
theorem k_M_243 : Cond.selects R_M y_M_key y_M_key ∈ w_M := List.mem_append_left _ (List.mem_of_getElem? (i := 243) rfl)
theorem k_M_244 : Cond.selects R_M y_M_name y_M_name ∈ w_M := List.mem_append_left _ (List.mem_of_getElem? (i := 244) rfl)
theorem k_M_245 : Cond.selects R_M y_M_needs y_M_needs ∈ w_M := List.mem_append_left _ (List.mem_of_getElem? (i := 245) rfl)
theorem k_M_246 : Cond.selects R_M y_M_nextToken y_M_nextToken ∈ w_M := List.mem_append_left _ (List.mem_of_getElem? (i := 246) rfl)
theorem k_M_247 : Cond.selects R_M y_M_number y_M_number ∈ w_M := List.mem_append_left _ (List.mem_of_getElem? (i := 247) rfl)
theorem k_M_248 : Cond.selects R_M y_M_open y_M_open ∈ w_M := List.mem_append_left _ (List.mem_of_getElem? (i := 248) rfl)
theorem k_M_249 : Cond.selects R_M y_M_openOne y_M_openOne ∈ w_M := List.mem_append_left _ (List.mem_of_getElem? (i := 249) rfl)
theorem k_M_250 : Cond.selects R_M y_M_parsing y_M_parsing ∈ w_M := List.mem_append_left _ (List.mem_of_getElem? (i := 250) rfl)
theorem k_M_251 : Cond.selects R_M y_M_perform y_M_perform ∈ w_M := List.mem_append_left _ (List.mem_of_getElem? (i := 251) rfl)
theorem k_M_252 : Cond.selects R_M y_M_pop y_M_pop ∈ w_M := List.mem_append_left _ (List.mem_of_getElem? (i := 252) rfl)
theorem k_M_253 : Cond.selects R_M y_M_push y_M_push ∈ w_M := List.mem_append_left _ (List.mem_of_getElem? (i := 253) rfl)
theorem k_M_254 : Cond.selects R_M y_M_read y_M_read ∈ w_M := List.mem_append_left _ (List.mem_of_getElem? (i := 254) rfl)
theorem k_M_255 : Cond.selects R_M y_M_returns y_M_returns ∈ w_M := List.mem_append_left _ (List.mem_of_getElem? (i := 255) rfl)
theorem k_M_256 : Cond.selects R_M y_M_rotate y_M_rotate ∈ w_M := List.mem_append_left _ (List.mem_of_getElem? (i := 256) rfl)
theorem k_M_257 : Cond.selects R_M y_M_settle y_M_settle ∈ w_M := List.mem_append_left _ (List.mem_of_getElem? (i := 257) rfl)
theorem k_M_258 : Cond.selects R_M y_M_shuffle y_M_shuffle ∈ w_M := List.mem_append_left _ (List.mem_of_getElem? (i := 258) rfl)
theorem k_M_259 : Cond.selects R_M y_M_step y_M_step ∈ w_M := List.mem_append_left _ (List.mem_of_getElem? (i := 259) rfl)
theorem k_M_260 : Cond.selects R_M y_M_store y_M_store ∈ w_M := List.mem_append_left _ (List.mem_of_getElem? (i := 260) rfl)
theorem k_M_261 : Cond.selects R_M y_M_target y_M_target ∈ w_M := List.mem_append_left _ (List.mem_of_getElem? (i := 261) rfl)
theorem k_M_262 : Cond.selects R_M y_M_top y_M_top ∈ w_M := List.mem_append_left _ (List.mem_of_getElem? (i := 262) rfl)
theorem k_M_263 : Cond.selects R_M y_M_write y_M_write ∈ w_M := List.mem_append_left _ (List.mem_of_getElem? (i := 263) rfl)
theorem k_M_264 : Cond.instanceMethod objectInit ∈ w_M := List.mem_append_left _ (List.mem_of_getElem? (i := 264) rfl)
theorem k_M_265 : Cond.code objectInit ⟨#[0xb1]⟩ 1 none ∈ w_M := List.mem_append_left _ (List.mem_of_getElem? (i := 265) rfl)
theorem k_M_266 : Cond.arrayClass .int ∈ w_M := List.mem_append_left _ (List.mem_of_getElem? (i := 266) rfl)
theorem k_M_267 : Cond.arrayClass .boolean ∈ w_M := List.mem_append_left _ (List.mem_of_getElem? (i := 267) rfl)
theorem k_M_268 : Cond.arrayClass .long ∈ w_M := List.mem_append_left _ (List.mem_of_getElem? (i := 268) rfl)
theorem hin_M : ∀ w ∈ u_ws R_M F_M 35, w ∈ w_M := fun _ h => List.mem_append_right _ h
theorem all_M : w_M.all goodWord = true := by decide +kernel
theorem good_M {y : MethodName} {b : ByteArray} {n : Nat} {r : Option FieldType} (hc : Cond.code y b n r ∈ w_M) : GoodIn w_M (.code y b n r :: w_M) := fun w h => (List.mem_cons.mp h).elim (fun e => e ▸ ⟨hc, Or.inl rfl⟩) (fun h => ⟨h, good_of_word (List.all_eq_true.mp all_M w h)⟩)
