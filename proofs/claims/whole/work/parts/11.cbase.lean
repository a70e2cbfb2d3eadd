def ordE : List Int32 := [0, 1, 2, 3, 4, 5, 6, 7, 8, 9, 10, 11, 12, 13, 14, 15, 16, 17, 18, 19, 20, 21, 22, 23, 24, 25, 26, 27, 28, 29, 30, 31, 32, 33, 34, 35, 36, 37, 38, 39, 40, 41, 42, 43, 44, 45, 46, 47, 48, 49, 50, 51]
def numE : List Int32 := [0, 1, 2, 3, 4, 5, 6, 7, 8, 9, 10, 11, 12, 13, 14, 15, 16, 17, 18, 19, 20, 21, 22, 23, 24, 25, 26, 27, 28, 29, 30, 31, 32, 33, 34, 35, 36, 37, 38, 39, 40, 41, 42, 43, 44, 45, 46, 47, 48, 49, 50, 51]
def takE : List Int32 := [2, 2, 2, 2, 2, 2, 2, 2, 2, 2, 1, 1, 1, 1, 2, 2, 3, 0, 1, 1, 2, 2, 0, 1, 1, 1, 0, 0, 0, 0, 0, 1, 0, 0, 1, 0, 0, 1, 0, 0, 0, 0, 0, 0, 0, 0, 0, 0, 0, 0, 0, 0]
def putE : List Int32 := [1, 1, 1, 1, 1, 1, 1, 1, 1, 1, 1, 1, 2, 0, 2, 3, 3, 1, 0, 1, 0, 0, 1, 0, 0, 0, 1, 1, 1, 1, 0, 0, 0, 0, 0, 0, 0, 1, 0, 0, 0, 0, 0, 0, 0, 0, 0, 0, 0, 0, 0, 0]
abbrev StC : Type := (Nat → Int32) × (Nat → Nat → Int32) × (Nat → Nat) × (Nat → Option Nat) × (Nat → Nat → Option Nat) × List Nat × (Nat → va_E)
def fC0 (g : Gm) (S : StC) : List Value := [.ref (g.2.2 1), .ref (g.2.2 2)]
def fC1 (g : Gm) (S : StC) : List Value := [.ref (S.2.2.1 0), .int (S.1 0), .int (S.1 1), .int (S.1 2)]
def fC2 (g : Gm) (S : StC) : List Value := [.ref (g.2.2 3), .ref (g.2.2 17), .ref (S.2.2.1 1), .int (S.1 3), .int (S.1 4), .ref (S.2.2.1 2)]
def fC3 (g : Gm) (S : StC) : List Value := [.ref (g.2.2 4), .ref (g.2.2 6), .ref (g.2.2 8), .ref (g.2.2 13), .ref (g.2.2 15), .int (S.1 5), .ref (g.2.2 16), .int (S.1 6), .int (S.1 7)]
def fC4 (g : Gm) (S : StC) : List Value := [.ref (g.2.2 5), .int (S.1 8)]
def fC6 (g : Gm) (S : StC) : List Value := [.ref (g.2.2 7), .int (S.1 9)]
def fC8 (g : Gm) (S : StC) : List Value := [.ref (g.2.2 9), .int (S.1 10), .ref (g.2.2 10), .ref (g.2.2 11), .ref (g.2.2 12), .int (S.1 11)]
def fC13 (g : Gm) (S : StC) : List Value := [.ref (g.2.2 14), .int (S.1 12)]
def fC17 (g : Gm) (S : StC) : List Value := [va_rf (S.2.2.2.1 0), .ref (g.2.2 18), .ref (g.2.2 19), .int (S.1 13)]
def xC (g : Gm) (S : StC) : va_W := [(g.2.2 0, .inr (1, fC0 g S)), (g.2.2 1, .inr (2, fC1 g S)), (g.2.2 2, .inr (4, fC2 g S)), (g.2.2 3, .inr (5, fC3 g S)), (g.2.2 4, .inr (6, fC4 g S)), (g.2.2 5, .inl (g.2.1 0, 24, .inl (S.2.1 0))), (g.2.2 6, .inr (6, fC6 g S)), (g.2.2 7, .inl (g.2.1 0, 24, .inl (S.2.1 1))), (g.2.2 8, .inr (7, fC8 g S)), (g.2.2 9, .inl (g.2.1 0, 96, .inl (S.2.1 2))), (g.2.2 10, .inl (g.2.1 7, 4, .inr (.inr (.inr (.inr (S.2.2.2.2.1 3)))))), (g.2.2 11, .inl (g.2.1 0, 2, .inl (S.2.1 3))), (g.2.2 12, .inl (g.2.1 1, 2, .inl (S.2.1 4))), (g.2.2 13, .inr (8, fC13 g S)), (g.2.2 14, .inl (g.2.1 4, 24, .inr (.inr (.inr (.inr (S.2.2.2.2.1 0)))))), (g.2.2 15, .inl (g.2.1 5, 16, .inr (.inr (.inr (.inr (S.2.2.2.2.1 1)))))), (g.2.2 16, .inl (g.2.1 0, 40, .inl (S.2.1 5))), (g.2.2 17, .inr (10, fC17 g S)), (g.2.2 18, .inl (g.2.1 6, 8, .inr (.inr (.inr (.inr (S.2.2.2.2.1 2)))))), (g.2.2 19, .inl (g.2.1 0, 8, .inl (S.2.1 6)))]
def wC (g : Gm) (S : StC) : va_W := xC g S ++ va_pl S.2.2.2.2.2.1 S.2.2.2.2.2.2
def tysC (g : Gm) : List (ClassId × FieldType) := [(g.2.1 0, .int), (g.2.1 1, .boolean), (g.2.1 3, .byte), (g.2.1 4, .object "WordSmith$MadeWord"), (g.2.1 5, .object "WordSmith$Call"), (g.2.1 6, .object "WordSmith$BuiltIn"), (g.2.1 7, .array .int)]
def AC (g : Gm) (sz : Nat) (S : StC) : Nat → Prop := va_A (wC g S) sz
theorem sP_C_0 (g : Gm) (S : StC) (v : Nat) : (wC g S).set 1 (g.2.2 1, .inr (2, (fC1 g S).set 0 (.ref v))) = wC g (S.1, S.2.1, va_up S.2.2.1 0 v, S.2.2.2) := rfl
theorem sI_C_0 (g : Gm) (S : StC) (v : Int32) : (wC g S).set 1 (g.2.2 1, .inr (2, (fC1 g S).set 1 (.int v))) = wC g (upd S.1 0 v, S.2) := rfl
theorem sI_C_1 (g : Gm) (S : StC) (v : Int32) : (wC g S).set 1 (g.2.2 1, .inr (2, (fC1 g S).set 2 (.int v))) = wC g (upd S.1 1 v, S.2) := rfl
theorem sI_C_2 (g : Gm) (S : StC) (v : Int32) : (wC g S).set 1 (g.2.2 1, .inr (2, (fC1 g S).set 3 (.int v))) = wC g (upd S.1 2 v, S.2) := rfl
theorem sP_C_1 (g : Gm) (S : StC) (v : Nat) : (wC g S).set 2 (g.2.2 2, .inr (4, (fC2 g S).set 2 (.ref v))) = wC g (S.1, S.2.1, va_up S.2.2.1 1 v, S.2.2.2) := rfl
theorem sI_C_3 (g : Gm) (S : StC) (v : Int32) : (wC g S).set 2 (g.2.2 2, .inr (4, (fC2 g S).set 3 (.int v))) = wC g (upd S.1 3 v, S.2) := rfl
theorem sI_C_4 (g : Gm) (S : StC) (v : Int32) : (wC g S).set 2 (g.2.2 2, .inr (4, (fC2 g S).set 4 (.int v))) = wC g (upd S.1 4 v, S.2) := rfl
theorem sP_C_2 (g : Gm) (S : StC) (v : Nat) : (wC g S).set 2 (g.2.2 2, .inr (4, (fC2 g S).set 5 (.ref v))) = wC g (S.1, S.2.1, va_up S.2.2.1 2 v, S.2.2.2) := rfl
theorem sI_C_5 (g : Gm) (S : StC) (v : Int32) : (wC g S).set 3 (g.2.2 3, .inr (5, (fC3 g S).set 5 (.int v))) = wC g (upd S.1 5 v, S.2) := rfl
theorem sI_C_6 (g : Gm) (S : StC) (v : Int32) : (wC g S).set 3 (g.2.2 3, .inr (5, (fC3 g S).set 7 (.int v))) = wC g (upd S.1 6 v, S.2) := rfl
theorem sI_C_7 (g : Gm) (S : StC) (v : Int32) : (wC g S).set 3 (g.2.2 3, .inr (5, (fC3 g S).set 8 (.int v))) = wC g (upd S.1 7 v, S.2) := rfl
theorem sI_C_8 (g : Gm) (S : StC) (v : Int32) : (wC g S).set 4 (g.2.2 4, .inr (6, (fC4 g S).set 1 (.int v))) = wC g (upd S.1 8 v, S.2) := rfl
theorem sA_C_0 (g : Gm) (S : StC) (f : Nat → Int32) : (wC g S).set 5 (g.2.2 5, .inl (g.2.1 0, 24, .inl f)) = wC g (S.1, va_up S.2.1 0 f, S.2.2) := rfl
theorem sI_C_9 (g : Gm) (S : StC) (v : Int32) : (wC g S).set 6 (g.2.2 6, .inr (6, (fC6 g S).set 1 (.int v))) = wC g (upd S.1 9 v, S.2) := rfl
theorem sA_C_1 (g : Gm) (S : StC) (f : Nat → Int32) : (wC g S).set 7 (g.2.2 7, .inl (g.2.1 0, 24, .inl f)) = wC g (S.1, va_up S.2.1 1 f, S.2.2) := rfl
theorem sI_C_10 (g : Gm) (S : StC) (v : Int32) : (wC g S).set 8 (g.2.2 8, .inr (7, (fC8 g S).set 1 (.int v))) = wC g (upd S.1 10 v, S.2) := rfl
theorem sI_C_11 (g : Gm) (S : StC) (v : Int32) : (wC g S).set 8 (g.2.2 8, .inr (7, (fC8 g S).set 5 (.int v))) = wC g (upd S.1 11 v, S.2) := rfl
theorem sA_C_2 (g : Gm) (S : StC) (f : Nat → Int32) : (wC g S).set 9 (g.2.2 9, .inl (g.2.1 0, 96, .inl f)) = wC g (S.1, va_up S.2.1 2 f, S.2.2) := rfl
theorem sQ_C_3 (g : Gm) (S : StC) (f : Nat → Option Nat) : (wC g S).set 10 (g.2.2 10, .inl (g.2.1 7, 4, .inr (.inr (.inr (.inr f))))) = wC g (S.1, S.2.1, S.2.2.1, S.2.2.2.1, va_up S.2.2.2.2.1 3 f, S.2.2.2.2.2) := rfl
theorem sA_C_3 (g : Gm) (S : StC) (f : Nat → Int32) : (wC g S).set 11 (g.2.2 11, .inl (g.2.1 0, 2, .inl f)) = wC g (S.1, va_up S.2.1 3 f, S.2.2) := rfl
theorem sA_C_4 (g : Gm) (S : StC) (f : Nat → Int32) : (wC g S).set 12 (g.2.2 12, .inl (g.2.1 1, 2, .inl f)) = wC g (S.1, va_up S.2.1 4 f, S.2.2) := rfl
theorem sI_C_12 (g : Gm) (S : StC) (v : Int32) : (wC g S).set 13 (g.2.2 13, .inr (8, (fC13 g S).set 1 (.int v))) = wC g (upd S.1 12 v, S.2) := rfl
theorem sQ_C_0 (g : Gm) (S : StC) (f : Nat → Option Nat) : (wC g S).set 14 (g.2.2 14, .inl (g.2.1 4, 24, .inr (.inr (.inr (.inr f))))) = wC g (S.1, S.2.1, S.2.2.1, S.2.2.2.1, va_up S.2.2.2.2.1 0 f, S.2.2.2.2.2) := rfl
theorem sQ_C_1 (g : Gm) (S : StC) (f : Nat → Option Nat) : (wC g S).set 15 (g.2.2 15, .inl (g.2.1 5, 16, .inr (.inr (.inr (.inr f))))) = wC g (S.1, S.2.1, S.2.2.1, S.2.2.2.1, va_up S.2.2.2.2.1 1 f, S.2.2.2.2.2) := rfl
theorem sA_C_5 (g : Gm) (S : StC) (f : Nat → Int32) : (wC g S).set 16 (g.2.2 16, .inl (g.2.1 0, 40, .inl f)) = wC g (S.1, va_up S.2.1 5 f, S.2.2) := rfl
theorem sR_C_0 (g : Gm) (S : StC) (v : Option Nat) : (wC g S).set 17 (g.2.2 17, .inr (10, (fC17 g S).set 0 (va_rf v))) = wC g (S.1, S.2.1, S.2.2.1, va_up S.2.2.2.1 0 v, S.2.2.2.2) := rfl
theorem sI_C_13 (g : Gm) (S : StC) (v : Int32) : (wC g S).set 17 (g.2.2 17, .inr (10, (fC17 g S).set 3 (.int v))) = wC g (upd S.1 13 v, S.2) := rfl
theorem sQ_C_2 (g : Gm) (S : StC) (f : Nat → Option Nat) : (wC g S).set 18 (g.2.2 18, .inl (g.2.1 6, 8, .inr (.inr (.inr (.inr f))))) = wC g (S.1, S.2.1, S.2.2.1, S.2.2.2.1, va_up S.2.2.2.2.1 2 f, S.2.2.2.2.2) := rfl
theorem sA_C_6 (g : Gm) (S : StC) (f : Nat → Int32) : (wC g S).set 19 (g.2.2 19, .inl (g.2.1 0, 8, .inl f)) = wC g (S.1, va_up S.2.1 6 f, S.2.2) := rfl
def nmE : List String := ["ADD", "SUBTRACT", "MULTIPLY", "DIVIDE", "MOD", "AND", "OR", "XOR", "EQUAL", "LESS", "IS_ZERO", "NEGATE", "DUP", "DROP", "SWAP", "OVER", "ROT", "DEPTH", "PUT_OUT", "FETCH", "STORE", "ADD_THERE", "HERE", "COMMA", "ALLOT", "TO_RETURNS", "FROM_RETURNS", "COPY_FROM_RETURNS", "INNER_COUNT", "OUTER_COUNT", "EXIT", "EXECUTE", "TICK", "VARIABLE", "CONSTANT", "COLON", "IMMEDIATE", "BLOCK", "UPDATE", "FLUSH", "SEMICOLON", "IF", "THEN", "ELSE", "BEGIN", "UNTIL", "AGAIN", "WHILE", "REPEAT", "DO", "LOOP", "RECURSE"]
def FE : List (String × String × String × List Int32) := [("java/lang/Enum", "ordinal", "I", ordE), ("WordSmith$BuiltIn", "number", "I", numE), ("WordSmith$BuiltIn", "takes", "I", takE), ("WordSmith$BuiltIn", "puts", "I", putE)]
def swE : List Int32 := [25, 26, 27, 3, 4, 28, 29, 30, 31, 32, 33, 0, 14, 18, 15, 16, 17, 19, 20, 5, 6, 7, 22, 11, 12, 13, 1, 2, 9, 10, 21, 0, 0, 45, 46, 0, 0, 8, 23, 24, 34, 42, 35, 36, 43, 37, 38, 39, 40, 44, 41, 0]
def bufE : List Int32 := [64, 80]
def lenJ : List Nat := [1, 1, 1, 1, 3, 3, 2, 3, 1, 1, 2, 6, 3, 4, 4, 4, 3, 5, 1, 1, 1, 2, 4, 1, 5, 2, 2, 2, 1, 1, 4, 7, 1, 8, 8, 1, 9, 5, 6, 5, 1, 2, 4, 4, 5, 5, 5, 5, 6, 2, 4, 7, 0]
def bytJ : List (List Int32) := [[43], [45], [42], [47], [109, 111, 100], [97, 110, 100], [111, 114], [120, 111, 114], [61], [60], [48, 61], [110, 101, 103, 97, 116, 101], [100, 117, 112], [100, 114, 111, 112], [115, 119, 97, 112], [111, 118, 101, 114], [114, 111, 116], [100, 101, 112, 116, 104], [46], [64], [33], [43, 33], [104, 101, 114, 101], [44], [97, 108, 108, 111, 116], [62, 114], [114, 62], [114, 64], [105], [106], [101, 120, 105, 116], [101, 120, 101, 99, 117, 116, 101], [39], [118, 97, 114, 105, 97, 98, 108, 101], [99, 111, 110, 115, 116, 97, 110, 116], [58], [105, 109, 109, 101, 100, 105, 97, 116, 101], [98, 108, 111, 99, 107], [117, 112, 100, 97, 116, 101], [102, 108, 117, 115, 104], [59], [105, 102], [116, 104, 101, 110], [101, 108, 115, 101], [98, 101, 103, 105, 110], [117, 110, 116, 105, 108], [97, 103, 97, 105, 110], [119, 104, 105, 108, 101], [114, 101, 112, 101, 97, 116], [100, 111], [108, 111, 111, 112], [114, 101, 99, 117, 114, 115, 101], []]
def SC0 (g : Gm) (A : Nat → Prop) (U : State) (H : Heap) : Prop :=
  va_En "WordSmith$BuiltIn" "LWordSmith$BuiltIn;" nmE FE (fun i => g.2.2 (100 + i)) A U H ∧ va_Z "WordSmith$1" "$SwitchMap$WordSmith$BuiltIn" "[I" (.ref (g.2.2 90)) A U H ∧ va_T .int (g.2.2 90) 52 (fun j => .int (swE.getD j 0)) A U H ∧ va_Z "WordSmith" "BUFFER_ADDRESSES" "[I" (.ref (g.2.2 91)) A U H ∧ va_T .int (g.2.2 91) 2 (fun j => .int (bufE.getD j 0)) A U H ∧ va_Z "WordSmith$BuiltIn" "ALL" "[LWordSmith$BuiltIn;" (.ref (g.2.2 92)) A U H ∧ va_T (.object "WordSmith$BuiltIn") (g.2.2 92) 52 (fun j => .ref (g.2.2 (100 + j))) A U H
theorem SC0.moved {g : Gm} {A : Nat → Prop} {u U : State} {H : Heap} (hvm : u.vm.Alike U.vm) (h : SC0 g A u H) : SC0 g A U H := ⟨h.1.moved hvm, h.2.1.moved hvm, h.2.2.1.moved hvm, h.2.2.2.1.moved hvm, h.2.2.2.2.1.moved hvm, h.2.2.2.2.2.1.moved hvm, h.2.2.2.2.2.2.moved hvm⟩
theorem SC0.kept {g : Gm} {A : Nat → Prop} {U : State} {H H1 : Heap} (h : SC0 g A U H) (hq : ∀ a : Nat, a < H.size → ¬ A a → H1[a]? = H[a]?) : SC0 g A U H1 := ⟨h.1.kept hq, h.2.1.kept hq, h.2.2.1.kept hq, h.2.2.2.1.kept hq, h.2.2.2.2.1.kept hq, h.2.2.2.2.2.1.kept hq, h.2.2.2.2.2.2.kept hq⟩
theorem SC0.narrow {g : Gm} {A B : Nat → Prop} {U : State} {H : Heap} (h : SC0 g A U H) (hAB : ∀ q, B q → A q) : SC0 g B U H := ⟨h.1.narrow hAB, h.2.1.narrow hAB, h.2.2.1.narrow hAB, h.2.2.2.1.narrow hAB, h.2.2.2.2.1.narrow hAB, h.2.2.2.2.2.1.narrow hAB, h.2.2.2.2.2.2.narrow hAB⟩
def fmtg (g : Gm) : Option Nat := match g.2.2 95 with
  | 0 => none
  | n + 1 => some n
def SC1 (g : Gm) (A : Nat → Prop) (U : State) (H : Heap) : Prop :=
  vk_S 53 lenJ bytJ (fun i => g.2.2 (200 + i)) (fun i => g.2.2 (300 + i)) A U H ∧ va_Ef 52 "WordSmith$BuiltIn" "spelling" "Ljava/lang/String;" (fun i => .ref (g.2.2 (200 + i))) (fun i => g.2.2 (100 + i)) A U H ∧ va_Z "java/lang/String" "COMPACT_STRINGS" "Z" (.int 1) A U H ∧ va_Z "jdk/internal/util/Preconditions" "SIOOBE_FORMATTER" "Ljava/util/function/BiFunction;" (va_rf (fmtg g)) A U H
theorem SC1.moved {g : Gm} {A : Nat → Prop} {u U : State} {H : Heap} (hvm : u.vm.Alike U.vm) (h : SC1 g A u H) : SC1 g A U H := ⟨h.1.moved hvm, h.2.1.moved hvm, h.2.2.1.moved hvm, h.2.2.2.moved hvm⟩
theorem SC1.kept {g : Gm} {A : Nat → Prop} {U : State} {H H1 : Heap} (h : SC1 g A U H) (hq : ∀ a : Nat, a < H.size → ¬ A a → H1[a]? = H[a]?) : SC1 g A U H1 := ⟨h.1.kept hq, h.2.1.kept hq, h.2.2.1.kept hq, h.2.2.2.kept hq⟩
theorem SC1.narrow {g : Gm} {A B : Nat → Prop} {U : State} {H : Heap} (h : SC1 g A U H) (hAB : ∀ q, B q → A q) : SC1 g B U H := ⟨h.1.narrow hAB, h.2.1.narrow hAB, h.2.2.1.narrow hAB, h.2.2.2.narrow hAB⟩
def SC (g : Gm) (A : Nat → Prop) (U : State) (H : Heap) : Prop := SC0 g A U H ∧ SC1 g A U H
theorem SC.moved {g : Gm} {A : Nat → Prop} {u U : State} {H : Heap} (hvm : u.vm.Alike U.vm) (h : SC g A u H) : SC g A U H := ⟨h.1.moved hvm, h.2.moved hvm⟩
theorem SC.kept {g : Gm} {A : Nat → Prop} {U : State} {H H1 : Heap} (h : SC g A U H) (hq : ∀ a : Nat, a < H.size → ¬ A a → H1[a]? = H[a]?) : SC g A U H1 := ⟨h.1.kept hq, h.2.kept hq⟩
theorem SC.narrow {g : Gm} {A B : Nat → Prop} {U : State} {H : Heap} (h : SC g A U H) (hAB : ∀ q, B q → A q) : SC g B U H := ⟨h.1.narrow hAB, h.2.narrow hAB⟩
def PC (g : Gm) (sz : Nat) (S : StC) : State → Prop := fun U => U.heap.size = sz ∧ va_P g.1 classes (wC g S) U.heap ∧ va_K g.1 classes (tysC g) U ∧ va_D (fun _ => True) (wC g S) ∧ SC g (AC g sz S) U U.heap ∧ NW g U
def BC (g : Gm) (A : Nat → Prop) : StC → State → Prop := fun S t => va_P g.1 classes (wC g S) t.heap ∧ va_K g.1 classes (tysC g) t ∧ va_D A (wC g S)
theorem PC_blind {av : List Value} {g : Gm} {sz : Nat} {S : StC} : FrameBlind (va_Pc av (PC g sz S)) := fun a U g0 mk q => by
  obtain ⟨q0, q1, qP, qK, qD, qS, qN⟩ := q
  exact ⟨q0, q1, qP, va_K.moved (u := U) (U := U.calling g0 mk a) (Vm.Alike.refl U.vm) qK, qD, SC.moved (u := U) (U := U.calling g0 mk a) (Vm.Alike.refl U.vm) qS, NW.same (u := U) (U := U.calling g0 mk a) rfl qN⟩
set_option maxHeartbeats 4000000 in
theorem ofC_v {l : Launch} {g : Gm} {sz : Nat} {S : StC} {y : MethodName} {cc : ByteArray} {maxL : Nat} {rm : Room} {post : StC → Prop} {av : List Value} (hy : plainName y.cls = true) (hlen : (lg_sl av).length ≤ maxL)
    (body : ∀ (p : Program) (e : Env) (s : State) (m : MethodId) (args : Array Value) (below : List Frame) (meth : Method) (c : Code) (Q : State → Prop) (A : Nat → Prop) (H : Heap) (locs : List Loc) (ls : Array Slot), p.tables.exec = Jvm.exec → c.code = cc → c.maxLocals = maxL → (∀ w ∈ w_C, w.before args s = true) → s.vm.findClass y.cls = some m.cls → va_K g.1 classes (tysC g) s → (∀ q : Nat, s.heap.size ≤ q → A q) → SC g A s s.heap → NW g s →
      (∀ (S' : StC) (H : Heap) (locs : List Loc) (pc : Nat) (ls : Array Slot), post S' → va_P g.1 classes (wC g S') H → va_D A (wC g S') → va_S A s.heap H locs → decode cc pc = .ok (.return_, 1) → W p l e rm s m args below meth c H locs 0 0 Q (F0 m pc ls [])) →
      lv_has ls maxL (lv_args 0 av) → va_P g.1 classes (wC g S) H → va_D A (wC g S) → va_S A s.heap H locs → W p l e rm s m args below meth c H locs 0 0 Q (F0 m 0 ls [])) :
    Met l y (.code y cc maxL none :: w_C) rm (va_Pc av (PC g sz S)) (va_Qv post (BC g (AC g sz S)) (AC g sz S)) 0 0 (AC g sz S) := by
  refine Met.ofW (cc := cc) (maxL := maxL) (ret := none) hy rfl ?_
  intro p e s m args below meth c s₁ B hml hv
  obtain ⟨rfl, hsz, hP, hK, hD0, hSC, hNW⟩ := hv
  subst hsz
  have hts := atoms_spec (ws := .code y cc maxL none :: w_C) B.pre
  have hlk := B.notSynchronized
  have hD : va_D (AC g s.heap.size S) (wC g S) := hD0.self
  have hl := lv_entry av (n := maxL) hlen
  rw [lg_entry_eq]
  refine body p e s m _ below meth c _ (AC g s.heap.size S) s.heap [] _ B.exec B.bytes hml (fun w h => hts w (List.mem_cons_of_mem _ h)) (findClass_of_methodNamed B.named) hK (fun q h => Or.inr h) hSC hNW ?_ hl hP hD va_S.rf
  intro S' H locs pc ls hp hP hD hS hd
  exact W.vret B.exec B.bytes B.returns (fun t ht hW => ⟨⟨S', rfl, hp, by rw [ht]; exact hP, va_K.moved hW.alike hK, hD⟩, hS.F ht⟩) hS.2.2 hd
set_option maxHeartbeats 4000000 in
theorem ofC_i {l : Launch} {g : Gm} {sz : Nat} {S : StC} {y : MethodName} {cc : ByteArray} {maxL : Nat} {rm : Room} {post : Int32 → StC → Prop} {av : List Value} (hy : plainName y.cls = true) (hlen : (lg_sl av).length ≤ maxL)
    (body : ∀ (p : Program) (e : Env) (s : State) (m : MethodId) (args : Array Value) (below : List Frame) (meth : Method) (c : Code) (Q : State → Prop) (A : Nat → Prop) (H : Heap) (locs : List Loc) (ls : Array Slot), p.tables.exec = Jvm.exec → c.code = cc → c.maxLocals = maxL → (∀ w ∈ w_C, w.before args s = true) → s.vm.findClass y.cls = some m.cls → va_K g.1 classes (tysC g) s → (∀ q : Nat, s.heap.size ≤ q → A q) → SC g A s s.heap → NW g s →
      (∀ (r : Int32) (S' : StC) (H : Heap) (locs : List Loc) (pc : Nat) (ls : Array Slot), post r S' → va_P g.1 classes (wC g S') H → va_D A (wC g S') → va_S A s.heap H locs → decode cc pc = .ok (.ireturn, 1) → W p l e rm s m args below meth c H locs 0 0 Q (F0 m pc ls [.int r])) →
      lv_has ls maxL (lv_args 0 av) → va_P g.1 classes (wC g S) H → va_D A (wC g S) → va_S A s.heap H locs → W p l e rm s m args below meth c H locs 0 0 Q (F0 m 0 ls [])) :
    Met l y (.code y cc maxL (some .int) :: w_C) rm (va_Pc av (PC g sz S)) (va_Qi post (BC g (AC g sz S)) (AC g sz S)) 0 0 (AC g sz S) := by
  refine Met.ofW (cc := cc) (maxL := maxL) (ret := (some .int)) hy rfl ?_
  intro p e s m args below meth c s₁ B hml hv
  obtain ⟨rfl, hsz, hP, hK, hD0, hSC, hNW⟩ := hv
  subst hsz
  have hts := atoms_spec (ws := .code y cc maxL (some .int) :: w_C) B.pre
  have hlk := B.notSynchronized
  have hD : va_D (AC g s.heap.size S) (wC g S) := hD0.self
  have hl := lv_entry av (n := maxL) hlen
  rw [lg_entry_eq]
  refine body p e s m _ below meth c _ (AC g s.heap.size S) s.heap [] _ B.exec B.bytes hml (fun w h => hts w (List.mem_cons_of_mem _ h)) (findClass_of_methodNamed B.named) hK (fun q h => Or.inr h) hSC hNW ?_ hl hP hD va_S.rf
  intro r S' H locs pc ls hp hP hD hS hd
  exact W.iret B.exec B.bytes B.returns (fun t ht hW => ⟨⟨r, S', rfl, hp, by rw [ht]; exact hP, va_K.moved hW.alike hK, hD⟩, hS.F ht⟩) hS.2.2 hd
set_option maxHeartbeats 4000000 in
theorem ofC_z {l : Launch} {g : Gm} {sz : Nat} {S : StC} {y : MethodName} {cc : ByteArray} {maxL : Nat} {rm : Room} {post : Int32 → StC → Prop} {av : List Value} (hy : plainName y.cls = true) (hlen : (lg_sl av).length ≤ maxL)
    (body : ∀ (p : Program) (e : Env) (s : State) (m : MethodId) (args : Array Value) (below : List Frame) (meth : Method) (c : Code) (Q : State → Prop) (A : Nat → Prop) (H : Heap) (locs : List Loc) (ls : Array Slot), p.tables.exec = Jvm.exec → c.code = cc → c.maxLocals = maxL → (∀ w ∈ w_C, w.before args s = true) → s.vm.findClass y.cls = some m.cls → va_K g.1 classes (tysC g) s → (∀ q : Nat, s.heap.size ≤ q → A q) → SC g A s s.heap → NW g s →
      (∀ (r : Int32) (S' : StC) (H : Heap) (locs : List Loc) (pc : Nat) (ls : Array Slot), narrow .boolean (.int r) = .int r → post r S' → va_P g.1 classes (wC g S') H → va_D A (wC g S') → va_S A s.heap H locs → decode cc pc = .ok (.ireturn, 1) → W p l e rm s m args below meth c H locs 0 0 Q (F0 m pc ls [.int r])) →
      lv_has ls maxL (lv_args 0 av) → va_P g.1 classes (wC g S) H → va_D A (wC g S) → va_S A s.heap H locs → W p l e rm s m args below meth c H locs 0 0 Q (F0 m 0 ls [])) :
    Met l y (.code y cc maxL (some .boolean) :: w_C) rm (va_Pc av (PC g sz S)) (va_Qi post (BC g (AC g sz S)) (AC g sz S)) 0 0 (AC g sz S) := by
  refine Met.ofW (cc := cc) (maxL := maxL) (ret := (some .boolean)) hy rfl ?_
  intro p e s m args below meth c s₁ B hml hv
  obtain ⟨rfl, hsz, hP, hK, hD0, hSC, hNW⟩ := hv
  subst hsz
  have hts := atoms_spec (ws := .code y cc maxL (some .boolean) :: w_C) B.pre
  have hlk := B.notSynchronized
  have hD : va_D (AC g s.heap.size S) (wC g S) := hD0.self
  have hl := lv_entry av (n := maxL) hlen
  rw [lg_entry_eq]
  refine body p e s m _ below meth c _ (AC g s.heap.size S) s.heap [] _ B.exec B.bytes hml (fun w h => hts w (List.mem_cons_of_mem _ h)) (findClass_of_methodNamed B.named) hK (fun q h => Or.inr h) hSC hNW ?_ hl hP hD va_S.rf
  intro r S' H locs pc ls hn hp hP hD hS hd
  exact W.zret B.exec B.bytes B.returns hn (fun t ht hW => ⟨⟨r, S', rfl, hp, by rw [ht]; exact hP, va_K.moved hW.alike hK, hD⟩, hS.F ht⟩) hS.2.2 hd
set_option maxHeartbeats 4000000 in
theorem ofC_q {l : Launch} {g : Gm} {sz : Nat} {S : StC} {y : MethodName} {cc : ByteArray} {maxL : Nat} {rm : Room} {C : String} {post : Option Nat → StC → Prop} {av : List Value} (hy : plainName y.cls = true) (hlen : (lg_sl av).length ≤ maxL)
    (body : ∀ (p : Program) (e : Env) (s : State) (m : MethodId) (args : Array Value) (below : List Frame) (meth : Method) (c : Code) (Q : State → Prop) (A : Nat → Prop) (H : Heap) (locs : List Loc) (ls : Array Slot), p.tables.exec = Jvm.exec → c.code = cc → c.maxLocals = maxL → (∀ w ∈ w_C, w.before args s = true) → s.vm.findClass y.cls = some m.cls → va_K g.1 classes (tysC g) s → (∀ q : Nat, s.heap.size ≤ q → A q) → SC g A s s.heap → NW g s →
      (∀ (r : Option Nat) (S' : StC) (H : Heap) (locs : List Loc) (pc : Nat) (ls : Array Slot), post r S' → va_P g.1 classes (wC g S') H → va_D A (wC g S') → va_S A s.heap H locs → decode cc pc = .ok (.areturn, 1) → W p l e rm s m args below meth c H locs 0 0 Q (F0 m pc ls [va_rf r])) →
      lv_has ls maxL (lv_args 0 av) → va_P g.1 classes (wC g S) H → va_D A (wC g S) → va_S A s.heap H locs → W p l e rm s m args below meth c H locs 0 0 Q (F0 m 0 ls [])) :
    Met l y (.code y cc maxL (some (.object C)) :: w_C) rm (va_Pc av (PC g sz S)) (va_Qq post (BC g (AC g sz S)) (AC g sz S)) 0 0 (AC g sz S) := by
  refine Met.ofW (cc := cc) (maxL := maxL) (ret := (some (.object C))) hy rfl ?_
  intro p e s m args below meth c s₁ B hml hv
  obtain ⟨rfl, hsz, hP, hK, hD0, hSC, hNW⟩ := hv
  subst hsz
  have hts := atoms_spec (ws := .code y cc maxL (some (.object C)) :: w_C) B.pre
  have hlk := B.notSynchronized
  have hD : va_D (AC g s.heap.size S) (wC g S) := hD0.self
  have hl := lv_entry av (n := maxL) hlen
  rw [lg_entry_eq]
  refine body p e s m _ below meth c _ (AC g s.heap.size S) s.heap [] _ B.exec B.bytes hml (fun w h => hts w (List.mem_cons_of_mem _ h)) (findClass_of_methodNamed B.named) hK (fun q h => Or.inr h) hSC hNW ?_ hl hP hD va_S.rf
  intro r S' H locs pc ls hp hP hD hS hd
  exact W.aret B.exec B.bytes B.returns (Or.inl ⟨_, rfl⟩) (va_rf_or r) (fun t ht hW => ⟨⟨r, S', rfl, hp, by rw [ht]; exact hP, va_K.moved hW.alike hK, hD⟩, hS.F ht⟩) hS.2.2 hd
section
variable {p : Program} {l : Launch} {e : Env} {R : Room} {s : State} {m : MethodId} {args : Array Value} {below : List Frame} {meth : Method} {c : Code} {H : Heap} {locs : List Loc} {cells slots : Nat} {Q : State → Prop} {cc : ByteArray} {pc idx : Nat} {ls : Array Slot} {rest : List Value} {A : Nat → Prop} {H0 : Heap} {g : Gm} {S S2 : StC}
theorem lv_aload_nq (hx : p.tables.exec = Jvm.exec) (hb : c.code = cc) {k : Fin 4} {i : Nat} {x : Option Nat} (hdg : decode cc pc = .ok (.aload_n k, 1)) (hi : (k : Nat) = i) (hl : ls[i]? = some (.val (va_rf x))) (kk : W p l e R s m args below meth c H locs cells slots Q (F0 m (pc + 1) ls (va_rf x :: rest))) : W p l e R s m args below meth c H locs cells slots Q (F0 m pc ls rest) := by
  cases x with
  | none => exact lv_aload_nN hx hb hdg hi hl kk
  | some y => exact lv_aload_n hx hb hdg hi hl kk
theorem lv_aloadq (hx : p.tables.exec = Jvm.exec) (hb : c.code = cc) {i : Nat} {x : Option Nat} (hdg : decode cc pc = .ok (.aload i, 2)) (hl : ls[i]? = some (.val (va_rf x))) (kk : W p l e R s m args below meth c H locs cells slots Q (F0 m (pc + 2) ls (va_rf x :: rest))) : W p l e R s m args below meth c H locs cells slots Q (F0 m pc ls rest) := by
  cases x with
  | none => exact lv_aloadN hx hb hdg hl kk
  | some y => exact lv_aload hx hb hdg hl kk
theorem lv_astore_nq (hx : p.tables.exec = Jvm.exec) (hb : c.code = cc) {k : Fin 4} {i nL : Nat} {x : Option Nat} {lv lv' : List (Nat × Value)} (hdg : decode cc pc = .ok (.astore_n k, 1)) (hi : (k : Nat) = i) (h : lv_has ls nL lv) (hn : i < nL) (hl : (i, va_rf x) :: lv.filter (fun q => !(q.1 == i) && !(q.1 + 1 == i && q.2.category == 2)) = lv') (kk : ∀ ls' : Array Slot, lv_has ls' nL lv' → W p l e R s m args below meth c H locs cells slots Q (F0 m (pc + 1) ls' rest)) : W p l e R s m args below meth c H locs cells slots Q (F0 m pc ls (va_rf x :: rest)) := by
  cases x with
  | none => exact lv_astore_nN hx hb hdg hi h hn hl kk
  | some y => exact lv_astore_n hx hb hdg hi h hn hl kk
theorem lv_astoreq (hx : p.tables.exec = Jvm.exec) (hb : c.code = cc) {i nL : Nat} {x : Option Nat} {lv lv' : List (Nat × Value)} (hdg : decode cc pc = .ok (.astore i, 2)) (h : lv_has ls nL lv) (hn : i < nL) (hl : (i, va_rf x) :: lv.filter (fun q => !(q.1 == i) && !(q.1 + 1 == i && q.2.category == 2)) = lv') (kk : ∀ ls' : Array Slot, lv_has ls' nL lv' → W p l e R s m args below meth c H locs cells slots Q (F0 m (pc + 2) ls' rest)) : W p l e R s m args below meth c H locs cells slots Q (F0 m pc ls (va_rf x :: rest)) := by
  cases x with
  | none => exact lv_astoreN hx hb hdg h hn hl kk
  | some y => exact lv_astore hx hb hdg h hn hl kk
theorem lv_ifnullq (hx : p.tables.exec = Jvm.exec) (hb : c.code = cc) {x : Option Nat} {off : Int} {tgt : Nat} (hdg : decode cc pc = .ok (.ifnull off, 3)) (ht : (pc : Int) + off = (tgt : Int)) (kt : x = none → W p l e R s m args below meth c H locs cells slots Q (F0 m tgt ls rest)) (kf : ∀ y : Nat, x = some y → W p l e R s m args below meth c H locs cells slots Q (F0 m (pc + 3) ls rest)) : W p l e R s m args below meth c H locs cells slots Q (F0 m pc ls (va_rf x :: rest)) := by
  cases x with
  | none => exact lv_ifnullN hx hb hdg ht (kt rfl)
  | some y => exact lv_ifnull hx hb hdg (kf y rfl)
theorem lv_ifnonnullq (hx : p.tables.exec = Jvm.exec) (hb : c.code = cc) {x : Option Nat} {off : Int} {tgt : Nat} (hdg : decode cc pc = .ok (.ifnonnull off, 3)) (ht : (pc : Int) + off = (tgt : Int)) (kt : ∀ y : Nat, x = some y → W p l e R s m args below meth c H locs cells slots Q (F0 m tgt ls rest)) (kf : x = none → W p l e R s m args below meth c H locs cells slots Q (F0 m (pc + 3) ls rest)) : W p l e R s m args below meth c H locs cells slots Q (F0 m pc ls (va_rf x :: rest)) := by
  cases x with
  | none => exact lv_ifnonnullN hx hb hdg (kf rfl)
  | some y => exact lv_ifnonnull hx hb hdg ht (kt y rfl)
theorem W_rf {x : Option Nat} {y : Nat} (h : x = some y) (kk : W p l e R s m args below meth c H locs cells slots Q (F0 m pc ls (.ref y :: rest))) : W p l e R s m args below meth c H locs cells slots Q (F0 m pc ls (va_rf x :: rest)) := by
  subst h
  exact kk
theorem rf_nar (C : String) (x : Option Nat) : narrow (.object C) (va_rf x) = va_rf x := by cases x <;> rfl
theorem rf_fit (C : String) (x : Option Nat) : fits (.object C) (va_rf x) = true := by cases x <;> rfl
theorem sw_in (hx : p.tables.exec = Jvm.exec) (hb : c.code = cc) {dflt lo hi : Int} {offs : Array Int} {len : Nat} {x k : Int32} {off : Int} {tgt : Nat} (hdg : decode cc pc = .ok (.tableswitch dflt lo hi offs, len)) (he : x = k) (h1 : ¬ k.toInt < lo) (h2 : ¬ hi < k.toInt) (ho : offs[(k.toInt - lo).toNat]? = some off) (ht : (pc : Int) + off = (tgt : Int)) (kk : W p l e R s m args below meth c H locs cells slots Q (F0 m tgt ls rest)) : W p l e R s m args below meth c H locs cells slots Q (F0 m pc ls (.int x :: rest)) := by
  subst he
  exact lv_tableIn hx hb hdg h1 h2 ho ht kk
theorem lk_in (hx : p.tables.exec = Jvm.exec) (hb : c.code = cc) {dflt : Int} {ps : Array (Int × Int)} {len : Nat} {x k : Int32} {off : Int} {tgt : Nat} (hdg : decode cc pc = .ok (.lookupswitch dflt ps, len)) (he : x = k) (hp : (ps.toList.zip (ps.toList.drop 1)).all (fun (a, next) => a.1 < next.1) = true) (ho : Op.lookupswitch.offset ps.toList dflt k.toInt = off) (ht : (pc : Int) + off = (tgt : Int)) (kk : W p l e R s m args below meth c H locs cells slots Q (F0 m tgt ls rest)) : W p l e R s m args below meth c H locs cells slots Q (F0 m pc ls (.int x :: rest)) := by
  subst he
  exact lv_lookup hx hb hdg hp ho ht kk
theorem aldg_C (hx : p.tables.exec = Jvm.exec) (hb : c.code = cc) (hK : va_K g.1 classes (tysC g) s) (hP : va_P g.1 classes (wC g S) H) {n a : Nat} {f : Nat → Option Nat} (q0 : Nat) (ha : (wC g S)[q0]? = some (a, .inl (g.2.1 7, n, .inr (.inr (.inr (.inr f)))))) {i : Int32} (hin : vp_in i n) (hdg : decode cc pc = .ok (.aaload, 1))
    (kk : W p l e R s m args below meth c H locs cells slots Q (F0 m (pc + 1) ls (va_rf (f i.toNatClampNeg) :: rest))) : W p l e R s m args below meth c H locs cells slots Q (F0 m pc ls (.int i :: .ref a :: rest)) := by
  have hlt : i.toNatClampNeg < n := Nat.not_le.mp fun q => hin (Or.inr q)
  exact W.aald (v := va_rf (f i.toNatClampNeg)) (ty := .array .int) hx hb (hP q0 _ ha) ((hK.2 6 _ rfl).1 n (fun j => va_rf (f j))) rfl (fun q => by cases q) (by show ¬ (i < 0 ∨ (arrV _ _ _).slots.size ≤ _); rw [arrV_size]; exact hin) (by show (arrV _ _ _).slots[_]? = _; rw [arrV_read _ _ hlt]) rfl rfl hdg kk
theorem pt_C {C own : String} {F : u_T} {N ci a : Nat} {fs : List Value} {v : Value} (hx : p.tables.exec = Jvm.exec) (hb : c.code = cc) (hts : ∀ w ∈ w_C, w.before args s = true) (hin : ∀ w ∈ u_ws C F N, w ∈ w_C) (ty : Nat → FieldType) (hty : ∀ k, k < N → parseFieldDescriptor (F k).2.2.1 = some (ty k)) (hnm : ∀ a, a < N → ∀ b, b < N → a ≠ b → (F a).2.1 ≠ (F b).2.1) (hown : s.vm.findClass own = some m.cls) (hK : va_K g.1 classes (tysC g) s) (hP : va_P g.1 classes (wC g S) H) (hD : va_D A (wC g S)) (hS : va_S A H0 H locs) (q0 : Nat) (he : (wC g S)[q0]? = some (a, .inr (ci, fs))) (hc : classes[ci]? = some (C, F, N)) (k : Nat) (hk : k < N) (hfin : (F k).2.2.2 = false) (hn : narrow (ty k) v = v) (hfit : fits (ty k) v = true) (hl : k < fs.length) (hset : (wC g S).set q0 (a, .inr (ci, fs.set k v)) = wC g S2) (hlink : Cond.fieldLink own idx (F k).1 (F k).2.1 (F k).2.2.1 ∈ w_C) (hdg : decode cc pc = .ok (.putfield idx, 3))
    (kk : ∀ (H1 : Heap) (locs1 : List Loc), va_P g.1 classes (wC g S2) H1 → va_D A (wC g S2) → va_S A H0 H1 locs1 → W p l e R s m args below meth c H1 locs1 cells slots Q (F0 m (pc + 3) ls rest)) : W p l e R s m args below meth c H locs cells slots Q (F0 m pc ls (v :: .ref a :: rest)) := by
  refine va_put (D := g.1) (ci := ci) (C := C) (T := F) (N := N) hx hb hts hin ty hty hnm hown hK hP hD hS q0 he hc k hk (hts _ hlink) (fun _ h9 => h9) hfin (hty k hk) hn hfit hl hdg (fun H1 locs1 h1 h2 h3 => ?_)
  rw [hset] at h1 h2
  exact kk H1 locs1 h1 h2 h3
theorem ia_C {f : Nat → Int32} {n a : Nat} {i x : Int32} (hx : p.tables.exec = Jvm.exec) (hb : c.code = cc) (hK : va_K g.1 classes (tysC g) s) (hP : va_P g.1 classes (wC g S) H) (hD : va_D A (wC g S)) (hS : va_S A H0 H locs) (q0 : Nat) (ha : (wC g S)[q0]? = some (a, .inl (g.2.1 0, n, .inl f))) (hi : vp_in i n) (hdg : decode cc pc = .ok (.iastore, 1)) (hset : (wC g S).set q0 (a, .inl (g.2.1 0, n, .inl (upd f i.toNatClampNeg x))) = wC g S2)
    (kk : ∀ (H1 : Heap) (locs1 : List Loc), va_P g.1 classes (wC g S2) H1 → va_D A (wC g S2) → va_S A H0 H1 locs1 → W p l e R s m args below meth c H1 locs1 cells slots Q (F0 m (pc + 1) ls rest)) : W p l e R s m args below meth c H locs cells slots Q (F0 m pc ls (.int x :: .int i :: .ref a :: rest)) := by
  refine va_iast hx hb hK hP hD hS q0 0 ha rfl hi hdg (fun H1 locs1 h1 h2 h3 => ?_)
  rw [hset] at h1 h2
  exact kk H1 locs1 h1 h2 h3
theorem za_C {f : Nat → Int32} {n a : Nat} {i x : Int32} (hx : p.tables.exec = Jvm.exec) (hb : c.code = cc) (hK : va_K g.1 classes (tysC g) s) (hP : va_P g.1 classes (wC g S) H) (hD : va_D A (wC g S)) (hS : va_S A H0 H locs) (q0 : Nat) (ha : (wC g S)[q0]? = some (a, .inl (g.2.1 1, n, .inl f))) (hi : vp_in i n) (hdg : decode cc pc = .ok (.bastore, 1)) (hset : (wC g S).set q0 (a, .inl (g.2.1 1, n, .inl (upd f i.toNatClampNeg (vp_nar .boolean x)))) = wC g S2)
    (kk : ∀ (H1 : Heap) (locs1 : List Loc), va_P g.1 classes (wC g S2) H1 → va_D A (wC g S2) → va_S A H0 H1 locs1 → W p l e R s m args below meth c H1 locs1 cells slots Q (F0 m (pc + 1) ls rest)) : W p l e R s m args below meth c H locs cells slots Q (F0 m pc ls (.int x :: .int i :: .ref a :: rest)) := by
  refine va_zast hx hb hK hP hD hS q0 1 ha rfl hi hdg (fun H1 locs1 h1 h2 h3 => ?_)
  rw [hset] at h1 h2
  exact kk H1 locs1 h1 h2 h3
theorem pg_C {C own : String} {F : u_T} {N ci a : Nat} {vs : List Value} {v : Value} (hx : p.tables.exec = Jvm.exec) (hb : c.code = cc) (hts : ∀ w ∈ w_C, w.before args s = true) (hin : ∀ w ∈ u_ws C F N, w ∈ w_C) (hown : s.vm.findClass own = some m.cls) (hK : va_K g.1 classes (tysC g) s) (hP : va_P g.1 classes (wC g S) H) (ha : a ∈ S.2.2.2.2.2.1) (hf : S.2.2.2.2.2.2 a = .inr (ci, vs)) (hc : classes[ci]? = some (C, F, N)) (k : Nat) (hk : k < N) (hv : vs[k]? = some v) (hlink : Cond.fieldLink own idx (F k).1 (F k).2.1 (F k).2.2.1 ∈ w_C) (hdg : decode cc pc = .ok (.getfield idx, 3))
    (kk : W p l e R s m args below meth c H locs cells slots Q (F0 m (pc + 3) ls (v :: rest))) : W p l e R s m args below meth c H locs cells slots Q (F0 m pc ls (.ref a :: rest)) := by
  obtain ⟨q0, hq⟩ := va_pl_get (X := xC g S) (f := S.2.2.2.2.2.2) ha
  rw [hf] at hq
  exact va_get (D := g.1) (ci := ci) (C := C) (T := F) (N := N) hx hb hts hin hown hK hP q0 hq hc k hk (hts _ hlink) (fun _ h9 => h9) hv hdg kk
theorem pgN_C {C own : String} {F : u_T} {N ci a : Nat} {vs : List Value} {v : Value} (hx : p.tables.exec = Jvm.exec) (hb : c.code = cc) (hts : ∀ w ∈ w_C, w.before args s = true) (hin : ∀ w ∈ u_ws C F N, w ∈ w_C) (hown : s.vm.findClass own = some m.cls) (hK : va_K g.1 classes (tysC g) s) (hP : va_P g.1 classes (wC g S) H) (ha : a ∈ S.2.2.2.2.2.1) (hf : S.2.2.2.2.2.2 a = .inr (ci, vs)) (hc : classes[ci]? = some (C, F, N)) (k : Nat) (hk : k < N) (hv : vs[k]? = some v) (hlink : (Cond.fieldLinkNest own idx (F k).1 (F k).2.1 (F k).2.2.1 "WordSmith").before args s = true) (hdg : decode cc pc = .ok (.getfield idx, 3))
    (kk : W p l e R s m args below meth c H locs cells slots Q (F0 m (pc + 3) ls (v :: rest))) : W p l e R s m args below meth c H locs cells slots Q (F0 m pc ls (.ref a :: rest)) := by
  obtain ⟨q0, hq⟩ := va_pl_get (X := xC g S) (f := S.2.2.2.2.2.2) ha
  rw [hf] at hq
  exact va_getN (D := g.1) (ci := ci) (C := C) (T := F) (N := N) hx hb hts hin hown hK hP q0 hq hc k hk hlink (fun _ h9 => h9) hv hdg kk
theorem pp_C {C own : String} {F : u_T} {N ci a : Nat} {vs : List Value} {v : Value} (hx : p.tables.exec = Jvm.exec) (hb : c.code = cc) (hts : ∀ w ∈ w_C, w.before args s = true) (hin : ∀ w ∈ u_ws C F N, w ∈ w_C) (ty : Nat → FieldType) (hty : ∀ k, k < N → parseFieldDescriptor (F k).2.2.1 = some (ty k)) (hnm : ∀ a, a < N → ∀ b, b < N → a ≠ b → (F a).2.1 ≠ (F b).2.1) (hown : s.vm.findClass own = some m.cls) (hK : va_K g.1 classes (tysC g) s) (hP : va_P g.1 classes (wC g S) H) (hD : va_D A (wC g S)) (hS : va_S A H0 H locs) (ha : a ∈ S.2.2.2.2.2.1) (hf : S.2.2.2.2.2.2 a = .inr (ci, vs)) (hc : classes[ci]? = some (C, F, N)) (k : Nat) (hk : k < N) (hfin : (F k).2.2.2 = false) (hn : narrow (ty k) v = v) (hfit : fits (ty k) v = true) (hl : k < vs.length) (hlink : Cond.fieldLink own idx (F k).1 (F k).2.1 (F k).2.2.1 ∈ w_C) (hdg : decode cc pc = .ok (.putfield idx, 3))
    (kk : ∀ (H1 : Heap) (locs1 : List Loc), va_P g.1 classes (wC g (S.1, S.2.1, S.2.2.1, S.2.2.2.1, S.2.2.2.2.1, S.2.2.2.2.2.1, va_up S.2.2.2.2.2.2 a (.inr (ci, vs.set k v)))) H1 → va_D A (wC g (S.1, S.2.1, S.2.2.1, S.2.2.2.1, S.2.2.2.2.1, S.2.2.2.2.2.1, va_up S.2.2.2.2.2.2 a (.inr (ci, vs.set k v)))) → va_S A H0 H1 locs1 → W p l e R s m args below meth c H1 locs1 cells slots Q (F0 m (pc + 3) ls rest)) : W p l e R s m args below meth c H locs cells slots Q (F0 m pc ls (v :: .ref a :: rest)) := by
  obtain ⟨q0, hq⟩ := va_pl_get (X := xC g S) (f := S.2.2.2.2.2.2) ha
  have hset := fun e9 => va_pl_set (e := e9) hD ha hq
  rw [hf] at hq
  refine va_put (D := g.1) (ci := ci) (C := C) (T := F) (N := N) hx hb hts hin ty hty hnm hown hK hP hD hS q0 hq hc k hk (hts _ hlink) (fun _ h9 => h9) hfin (hty k hk) hn hfit hl hdg (fun H1 locs1 h1 h2 h3 => ?_)
  have e1 : (wC g S).set q0 (a, .inr (ci, vs.set k v)) = wC g (S.1, S.2.1, S.2.2.1, S.2.2.2.1, S.2.2.2.2.1, S.2.2.2.2.2.1, va_up S.2.2.2.2.2.2 a (.inr (ci, vs.set k v))) := hset _
  rw [e1] at h1 h2
  exact kk H1 locs1 h1 h2 h3
theorem ppN_C {C own : String} {F : u_T} {N ci a : Nat} {vs : List Value} {v : Value} (hx : p.tables.exec = Jvm.exec) (hb : c.code = cc) (hts : ∀ w ∈ w_C, w.before args s = true) (hin : ∀ w ∈ u_ws C F N, w ∈ w_C) (ty : Nat → FieldType) (hty : ∀ k, k < N → parseFieldDescriptor (F k).2.2.1 = some (ty k)) (hnm : ∀ a, a < N → ∀ b, b < N → a ≠ b → (F a).2.1 ≠ (F b).2.1) (hown : s.vm.findClass own = some m.cls) (hK : va_K g.1 classes (tysC g) s) (hP : va_P g.1 classes (wC g S) H) (hD : va_D A (wC g S)) (hS : va_S A H0 H locs) (ha : a ∈ S.2.2.2.2.2.1) (hf : S.2.2.2.2.2.2 a = .inr (ci, vs)) (hc : classes[ci]? = some (C, F, N)) (k : Nat) (hk : k < N) (hfin : (F k).2.2.2 = false) (hn : narrow (ty k) v = v) (hfit : fits (ty k) v = true) (hl : k < vs.length) (hlink : (Cond.fieldLinkNest own idx (F k).1 (F k).2.1 (F k).2.2.1 "WordSmith").before args s = true) (hdg : decode cc pc = .ok (.putfield idx, 3))
    (kk : ∀ (H1 : Heap) (locs1 : List Loc), va_P g.1 classes (wC g (S.1, S.2.1, S.2.2.1, S.2.2.2.1, S.2.2.2.2.1, S.2.2.2.2.2.1, va_up S.2.2.2.2.2.2 a (.inr (ci, vs.set k v)))) H1 → va_D A (wC g (S.1, S.2.1, S.2.2.1, S.2.2.2.1, S.2.2.2.2.1, S.2.2.2.2.2.1, va_up S.2.2.2.2.2.2 a (.inr (ci, vs.set k v)))) → va_S A H0 H1 locs1 → W p l e R s m args below meth c H1 locs1 cells slots Q (F0 m (pc + 3) ls rest)) : W p l e R s m args below meth c H locs cells slots Q (F0 m pc ls (v :: .ref a :: rest)) := by
  obtain ⟨q0, hq⟩ := va_pl_get (X := xC g S) (f := S.2.2.2.2.2.2) ha
  have hset := fun e9 => va_pl_set (e := e9) hD ha hq
  rw [hf] at hq
  refine va_putN (D := g.1) (ci := ci) (C := C) (T := F) (N := N) hx hb hts hin ty hty hnm hown hK hP hD hS q0 hq hc k hk hlink (fun _ h9 => h9) hfin (hty k hk) hn hfit hl hdg (fun H1 locs1 h1 h2 h3 => ?_)
  have e1 : (wC g S).set q0 (a, .inr (ci, vs.set k v)) = wC g (S.1, S.2.1, S.2.2.1, S.2.2.2.1, S.2.2.2.2.1, S.2.2.2.2.2.1, va_up S.2.2.2.2.2.2 a (.inr (ci, vs.set k v))) := hset _
  rw [e1] at h1 h2
  exact kk H1 locs1 h1 h2 h3
theorem pil_C {a n : Nat} {f : Nat → Int32} {i : Int32} (hx : p.tables.exec = Jvm.exec) (hb : c.code = cc) (hK : va_K g.1 classes (tysC g) s) (hP : va_P g.1 classes (wC g S) H) (ha : a ∈ S.2.2.2.2.2.1) (hf : S.2.2.2.2.2.2 a = .inl (g.2.1 0, n, .inl f)) (hi : vp_in i n) (hdg : decode cc pc = .ok (.iaload, 1))
    (kk : W p l e R s m args below meth c H locs cells slots Q (F0 m (pc + 1) ls (.int (f i.toNatClampNeg) :: rest))) : W p l e R s m args below meth c H locs cells slots Q (F0 m pc ls (.int i :: .ref a :: rest)) := by
  obtain ⟨q0, hq⟩ := va_pl_get (X := xC g S) (f := S.2.2.2.2.2.2) ha
  rw [hf] at hq
  exact va_iald hx hb hK hP q0 0 hq rfl hi hdg kk
theorem pis_C {a n : Nat} {f : Nat → Int32} {i x : Int32} (hx : p.tables.exec = Jvm.exec) (hb : c.code = cc) (hK : va_K g.1 classes (tysC g) s) (hP : va_P g.1 classes (wC g S) H) (hD : va_D A (wC g S)) (hS : va_S A H0 H locs) (ha : a ∈ S.2.2.2.2.2.1) (hf : S.2.2.2.2.2.2 a = .inl (g.2.1 0, n, .inl f)) (hi : vp_in i n) (hdg : decode cc pc = .ok (.iastore, 1))
    (kk : ∀ (H1 : Heap) (locs1 : List Loc), va_P g.1 classes (wC g (S.1, S.2.1, S.2.2.1, S.2.2.2.1, S.2.2.2.2.1, S.2.2.2.2.2.1, va_up S.2.2.2.2.2.2 a (.inl (g.2.1 0, n, .inl (upd f i.toNatClampNeg x))))) H1 → va_D A (wC g (S.1, S.2.1, S.2.2.1, S.2.2.2.1, S.2.2.2.2.1, S.2.2.2.2.2.1, va_up S.2.2.2.2.2.2 a (.inl (g.2.1 0, n, .inl (upd f i.toNatClampNeg x))))) → va_S A H0 H1 locs1 → W p l e R s m args below meth c H1 locs1 cells slots Q (F0 m (pc + 1) ls rest)) : W p l e R s m args below meth c H locs cells slots Q (F0 m pc ls (.int x :: .int i :: .ref a :: rest)) := by
  obtain ⟨q0, hq⟩ := va_pl_get (X := xC g S) (f := S.2.2.2.2.2.2) ha
  have hset := fun e9 => va_pl_set (e := e9) hD ha hq
  rw [hf] at hq
  refine va_iast hx hb hK hP hD hS q0 0 hq rfl hi hdg (fun H1 locs1 h1 h2 h3 => ?_)
  have e1 : (wC g S).set q0 (a, .inl (g.2.1 0, n, .inl (upd f i.toNatClampNeg x))) = wC g (S.1, S.2.1, S.2.2.1, S.2.2.2.1, S.2.2.2.2.1, S.2.2.2.2.2.1, va_up S.2.2.2.2.2.2 a (.inl (g.2.1 0, n, .inl (upd f i.toNatClampNeg x)))) := hset _
  rw [e1] at h1 h2
  exact kk H1 locs1 h1 h2 h3
theorem precv_C {C : String} {F : u_T} {N ci a : Nat} {vs : List Value} (hK : va_K g.1 classes (tysC g) s) (hP : va_P g.1 classes (wC g S) H) (ha : a ∈ S.2.2.2.2.2.1) (hf : S.2.2.2.2.2.2 a = .inr (ci, vs)) (hc : classes[ci]? = some (C, F, N)) : ∃ cell : Cell, H[a]? = some cell ∧ cell.vm.isStatics = false ∧ s.vm.findClass C = some cell.cls := by
  obtain ⟨q0, hq⟩ := va_pl_get (X := xC g S) (f := S.2.2.2.2.2.2) ha
  rw [hf] at hq
  exact va_recv (q := (C, F, N)) hK hP hc hq
theorem erecv_C {a i : Nat} (hC : SC g A s s.heap) (hS : va_S A s.heap H locs) (he : a = g.2.2 (100 + i)) (hi : i < 52) : ∃ cell : Cell, H[a]? = some cell ∧ cell.vm.isStatics = false ∧ s.vm.findClass "WordSmith$BuiltIn" = some cell.cls := by
  subst he
  exact va_recvE (ad := fun i => g.2.2 (100 + i)) hC.1.1 hi hS
theorem ge_C {own : String} {a i : Nat} {q : String × String × String × List Int32} (hx : p.tables.exec = Jvm.exec) (hb : c.code = cc) (hts : ∀ w ∈ w_C, w.before args s = true) (hC : SC g A s s.heap) (hS : va_S A s.heap H locs) (hown : s.vm.findClass own = some m.cls) (he : a = g.2.2 (100 + i)) (hi : i < 52) (hq : q ∈ FE) (hlink : Cond.fieldLink own idx q.1 q.2.1 q.2.2.1 ∈ w_C) (hdg : decode cc pc = .ok (.getfield idx, 3))
    (kk : W p l e R s m args below meth c H locs cells slots Q (F0 m (pc + 3) ls (.int (q.2.2.2.getD i 0) :: rest))) : W p l e R s m args below meth c H locs cells slots Q (F0 m pc ls (.ref a :: rest)) := by
  subst he
  exact va_getE (ad := fun i => g.2.2 (100 + i)) hx hb hC.1.1 hi hS hown hq (hts _ hlink) (fun _ h9 => h9) hdg kk
theorem free_C {S0 : StC} (hD : va_D A (wC g S)) (hS : va_S A H0 H locs) (hA : ∀ q : Nat, H0.size ≤ q → A q) : ∀ q, AC g H.size S q → A q := by
  intro q hq
  rcases hq with ⟨k, e9, hk⟩ | h
  · exact hD.2 k _ hk
  · exact hA q (Nat.le_trans hS.1 h)
theorem pre_C {av : List Value} (hK : va_K g.1 classes (tysC g) s) (hC : SC g A s s.heap) (hN : NW g s) (hP : va_P g.1 classes (wC g S) H) (hD : va_D A (wC g S)) (hS : va_S A s.heap H locs) (hA : ∀ q : Nat, s.heap.size ≤ q → A q) : ∀ U : State, U.heap = H → s.WarmedH U.vm → va_Pc av (PC g H.size S) av.toArray U :=
  fun U hU hW => ⟨rfl, by rw [hU], by rw [hU]; exact hP, va_K.moved hW.alike hK, hD.weaken (fun _ _ _ _ => trivial), by rw [hU]; exact ((hC.kept hS.2.1).narrow (free_C (S0 := S) hD hS hA)).moved hW.alike, hN.warm hW⟩
theorem cC_vV {own C : String} {y : MethodName} {bytes : ByteArray} {a maxL nL n : Nat} {rm : Room} {post : StC → Prop} {As st0 : List Value} (hx : p.tables.exec = Jvm.exec) (hb : c.code = cc) (hml : c.maxLocals = nL) (hown : s.vm.findClass own = some m.cls) (hts : ∀ w ∈ w_C, w.before args s = true) (hK : va_K g.1 classes (tysC g) s) (hC : SC g A s s.heap) (hN : NW g s) (hP : va_P g.1 classes (wC g S) H) (hD : va_D A (wC g S)) (hS : va_S A s.heap H locs) (hA : ∀ q : Nat, s.heap.size ≤ q → A q) (hcl : cells ≤ R.cells) (hsl : slots ≤ R.slots) (hsz : ls.size = nL) (hrc : ∃ cell : Cell, H[a]? = some cell ∧ cell.vm.isStatics = false ∧ s.vm.findClass C = some cell.cls) 
    (cw : CallW R s args own C idx y bytes maxL none (.code y bytes maxL none :: w_C) rm 0 0 n) (hM : Met l y (.code y bytes maxL none :: w_C) rm (va_Pc (.ref a :: As) (PC g H.size S)) (va_Qv post (BC g (AC g H.size S)) (AC g H.size S)) 0 0 (AC g H.size S)) (hst : st0 = As.reverse ++ .ref a :: rest) (hn : As.length = n) (hW : (rest.map fun v => v.category).sum ≤ 8) (hdg : decode cc pc = .ok (.invokevirtual idx, 3))
    (kk : ∀ (S' : StC) (H1 : Heap) (locs1 : List Loc), post S' → va_P g.1 classes (wC g S') H1 → va_D A (wC g S') → va_S A s.heap H1 locs1 → W p l e R s m args below meth c H1 locs1 cells slots Q (F0 m (pc + 3) ls (rest))) : W p l e R s m args below meth c H locs cells slots Q (F0 m pc ls st0) := by
  subst hst
  have hF := free_C (S0 := S) hD hS hA
  refine va_callv (va_runV (rest := rest) ⟨hx, hb, hml, hown, hts⟩ hM cw ⟨PC_blind, hrc, pre_C hK hC hN hP hD hS hA⟩ rfl hn hsz rfl (lv_room hW) hdg ⟨hcl, hsl⟩) hS (fun q _ h => hF q h) hF (fun u t H1 locs1 ht hvm hp hB hz1 hk1 hS1 => ?_)
  obtain ⟨hP1, hK1, hD1⟩ := hB
  rw [ht] at hP1
  exact kk u H1 locs1 hp hP1 (hD1.weaken (fun _ _ _ h => hF _ h)) hS1
theorem cC_vS {own : String} {y : MethodName} {bytes : ByteArray} {maxL nL n : Nat} {rm : Room} {post : StC → Prop} {As st0 : List Value} (hx : p.tables.exec = Jvm.exec) (hb : c.code = cc) (hml : c.maxLocals = nL) (hown : s.vm.findClass own = some m.cls) (hts : ∀ w ∈ w_C, w.before args s = true) (hK : va_K g.1 classes (tysC g) s) (hC : SC g A s s.heap) (hN : NW g s) (hP : va_P g.1 classes (wC g S) H) (hD : va_D A (wC g S)) (hS : va_S A s.heap H locs) (hA : ∀ q : Nat, s.heap.size ≤ q → A q) (hcl : cells ≤ R.cells) (hsl : slots ≤ R.slots) (hsz : ls.size = nL) 
    (cw : CallB R s args own idx y bytes maxL none (.code y bytes maxL none :: w_C) rm 0 0 n ∧ (Cond.static y).before args s = true) (hM : Met l y (.code y bytes maxL none :: w_C) rm (va_Pc As (PC g H.size S)) (va_Qv post (BC g (AC g H.size S)) (AC g H.size S)) 0 0 (AC g H.size S)) (hst : st0 = As.reverse ++ rest) (hn : As.length = n) (hW : (rest.map fun v => v.category).sum ≤ 8) (hdg : decode cc pc = .ok (.invokestatic idx, 3))
    (kk : ∀ (S' : StC) (H1 : Heap) (locs1 : List Loc), post S' → va_P g.1 classes (wC g S') H1 → va_D A (wC g S') → va_S A s.heap H1 locs1 → W p l e R s m args below meth c H1 locs1 cells slots Q (F0 m (pc + 3) ls (rest))) : W p l e R s m args below meth c H locs cells slots Q (F0 m pc ls st0) := by
  subst hst
  have hF := free_C (S0 := S) hD hS hA
  refine va_callv (va_runS (rest := rest) ⟨hx, hb, hml, hown, hts⟩ hM cw ⟨PC_blind, pre_C hK hC hN hP hD hS hA⟩ rfl hn hsz rfl (lv_room hW) hdg ⟨hcl, hsl⟩) hS (fun q _ h => hF q h) hF (fun u t H1 locs1 ht hvm hp hB hz1 hk1 hS1 => ?_)
  obtain ⟨hP1, hK1, hD1⟩ := hB
  rw [ht] at hP1
  exact kk u H1 locs1 hp hP1 (hD1.weaken (fun _ _ _ h => hF _ h)) hS1
theorem cC_iV {own C : String} {y : MethodName} {bytes : ByteArray} {a maxL nL n : Nat} {rm : Room} {ret : Option FieldType} {post : Int32 → StC → Prop} {As st0 : List Value} (hx : p.tables.exec = Jvm.exec) (hb : c.code = cc) (hml : c.maxLocals = nL) (hown : s.vm.findClass own = some m.cls) (hts : ∀ w ∈ w_C, w.before args s = true) (hK : va_K g.1 classes (tysC g) s) (hC : SC g A s s.heap) (hN : NW g s) (hP : va_P g.1 classes (wC g S) H) (hD : va_D A (wC g S)) (hS : va_S A s.heap H locs) (hA : ∀ q : Nat, s.heap.size ≤ q → A q) (hcl : cells ≤ R.cells) (hsl : slots ≤ R.slots) (hsz : ls.size = nL) (hrc : ∃ cell : Cell, H[a]? = some cell ∧ cell.vm.isStatics = false ∧ s.vm.findClass C = some cell.cls) 
    (cw : CallW R s args own C idx y bytes maxL ret (.code y bytes maxL ret :: w_C) rm 0 0 n) (hM : Met l y (.code y bytes maxL ret :: w_C) rm (va_Pc (.ref a :: As) (PC g H.size S)) (va_Qi post (BC g (AC g H.size S)) (AC g H.size S)) 0 0 (AC g H.size S)) (hst : st0 = As.reverse ++ .ref a :: rest) (hn : As.length = n) (hW : (rest.map fun v => v.category).sum ≤ 8) (hdg : decode cc pc = .ok (.invokevirtual idx, 3))
    (kk : ∀ (r : Int32) (S' : StC) (H1 : Heap) (locs1 : List Loc), post r S' → va_P g.1 classes (wC g S') H1 → va_D A (wC g S') → va_S A s.heap H1 locs1 → W p l e R s m args below meth c H1 locs1 cells slots Q (F0 m (pc + 3) ls (.int r :: rest))) : W p l e R s m args below meth c H locs cells slots Q (F0 m pc ls st0) := by
  subst hst
  have hF := free_C (S0 := S) hD hS hA
  refine va_calli (va_runV (rest := rest) ⟨hx, hb, hml, hown, hts⟩ hM cw ⟨PC_blind, hrc, pre_C hK hC hN hP hD hS hA⟩ rfl hn hsz rfl (lv_room hW) hdg ⟨hcl, hsl⟩) hS (fun q _ h => hF q h) hF (fun r u t H1 locs1 ht hvm hp hB hz1 hk1 hS1 => ?_)
  obtain ⟨hP1, hK1, hD1⟩ := hB
  rw [ht] at hP1
  exact kk r u H1 locs1 hp hP1 (hD1.weaken (fun _ _ _ h => hF _ h)) hS1
theorem cC_iS {own : String} {y : MethodName} {bytes : ByteArray} {maxL nL n : Nat} {rm : Room} {ret : Option FieldType} {post : Int32 → StC → Prop} {As st0 : List Value} (hx : p.tables.exec = Jvm.exec) (hb : c.code = cc) (hml : c.maxLocals = nL) (hown : s.vm.findClass own = some m.cls) (hts : ∀ w ∈ w_C, w.before args s = true) (hK : va_K g.1 classes (tysC g) s) (hC : SC g A s s.heap) (hN : NW g s) (hP : va_P g.1 classes (wC g S) H) (hD : va_D A (wC g S)) (hS : va_S A s.heap H locs) (hA : ∀ q : Nat, s.heap.size ≤ q → A q) (hcl : cells ≤ R.cells) (hsl : slots ≤ R.slots) (hsz : ls.size = nL) 
    (cw : CallB R s args own idx y bytes maxL ret (.code y bytes maxL ret :: w_C) rm 0 0 n ∧ (Cond.static y).before args s = true) (hM : Met l y (.code y bytes maxL ret :: w_C) rm (va_Pc As (PC g H.size S)) (va_Qi post (BC g (AC g H.size S)) (AC g H.size S)) 0 0 (AC g H.size S)) (hst : st0 = As.reverse ++ rest) (hn : As.length = n) (hW : (rest.map fun v => v.category).sum ≤ 8) (hdg : decode cc pc = .ok (.invokestatic idx, 3))
    (kk : ∀ (r : Int32) (S' : StC) (H1 : Heap) (locs1 : List Loc), post r S' → va_P g.1 classes (wC g S') H1 → va_D A (wC g S') → va_S A s.heap H1 locs1 → W p l e R s m args below meth c H1 locs1 cells slots Q (F0 m (pc + 3) ls (.int r :: rest))) : W p l e R s m args below meth c H locs cells slots Q (F0 m pc ls st0) := by
  subst hst
  have hF := free_C (S0 := S) hD hS hA
  refine va_calli (va_runS (rest := rest) ⟨hx, hb, hml, hown, hts⟩ hM cw ⟨PC_blind, pre_C hK hC hN hP hD hS hA⟩ rfl hn hsz rfl (lv_room hW) hdg ⟨hcl, hsl⟩) hS (fun q _ h => hF q h) hF (fun r u t H1 locs1 ht hvm hp hB hz1 hk1 hS1 => ?_)
  obtain ⟨hP1, hK1, hD1⟩ := hB
  rw [ht] at hP1
  exact kk r u H1 locs1 hp hP1 (hD1.weaken (fun _ _ _ h => hF _ h)) hS1
theorem cC_iU {own C owner : String} {y x : MethodName} {bytes : ByteArray} {a maxL nL n : Nat} {rm : Room} {ret : Option FieldType} {post : Int32 → StC → Prop} {As st0 : List Value} (hx : p.tables.exec = Jvm.exec) (hb : c.code = cc) (hml : c.maxLocals = nL) (hown : s.vm.findClass own = some m.cls) (hts : ∀ w ∈ w_C, w.before args s = true) (hK : va_K g.1 classes (tysC g) s) (hC : SC g A s s.heap) (hN : NW g s) (hP : va_P g.1 classes (wC g S) H) (hD : va_D A (wC g S)) (hS : va_S A s.heap H locs) (hA : ∀ q : Nat, s.heap.size ≤ q → A q) (hcl : cells ≤ R.cells) (hsl : slots ≤ R.slots) (hsz : ls.size = nL) (hrc : ∃ cell : Cell, H[a]? = some cell ∧ cell.vm.isStatics = false ∧ s.vm.findClass C = some cell.cls) 
    (cw : va_CU R s args own C owner idx x y bytes maxL ret (.code y bytes maxL ret :: w_C) rm 0 0 n) (hM : Met l y (.code y bytes maxL ret :: w_C) rm (va_Pc (.ref a :: As) (PC g H.size S)) (va_Qi post (BC g (AC g H.size S)) (AC g H.size S)) 0 0 (AC g H.size S)) (hst : st0 = As.reverse ++ .ref a :: rest) (hn : As.length = n) (hW : (rest.map fun v => v.category).sum ≤ 8) (hdg : decode cc pc = .ok (.invokevirtual idx, 3))
    (kk : ∀ (r : Int32) (S' : StC) (H1 : Heap) (locs1 : List Loc), post r S' → va_P g.1 classes (wC g S') H1 → va_D A (wC g S') → va_S A s.heap H1 locs1 → W p l e R s m args below meth c H1 locs1 cells slots Q (F0 m (pc + 3) ls (.int r :: rest))) : W p l e R s m args below meth c H locs cells slots Q (F0 m pc ls st0) := by
  subst hst
  have hF := free_C (S0 := S) hD hS hA
  refine va_calli (va_runU (rest := rest) ⟨hx, hb, hml, hown, hts⟩ hM cw ⟨PC_blind, hrc, pre_C hK hC hN hP hD hS hA⟩ rfl hn hsz rfl (lv_room hW) hdg ⟨hcl, hsl⟩) hS (fun q _ h => hF q h) hF (fun r u t H1 locs1 ht hvm hp hB hz1 hk1 hS1 => ?_)
  obtain ⟨hP1, hK1, hD1⟩ := hB
  rw [ht] at hP1
  exact kk r u H1 locs1 hp hP1 (hD1.weaken (fun _ _ _ h => hF _ h)) hS1
theorem cC_qV {own C : String} {y : MethodName} {bytes : ByteArray} {a maxL nL n : Nat} {rm : Room} {ret : Option FieldType} {post : Option Nat → StC → Prop} {As st0 : List Value} (hx : p.tables.exec = Jvm.exec) (hb : c.code = cc) (hml : c.maxLocals = nL) (hown : s.vm.findClass own = some m.cls) (hts : ∀ w ∈ w_C, w.before args s = true) (hK : va_K g.1 classes (tysC g) s) (hC : SC g A s s.heap) (hN : NW g s) (hP : va_P g.1 classes (wC g S) H) (hD : va_D A (wC g S)) (hS : va_S A s.heap H locs) (hA : ∀ q : Nat, s.heap.size ≤ q → A q) (hcl : cells ≤ R.cells) (hsl : slots ≤ R.slots) (hsz : ls.size = nL) (hrc : ∃ cell : Cell, H[a]? = some cell ∧ cell.vm.isStatics = false ∧ s.vm.findClass C = some cell.cls) 
    (cw : CallW R s args own C idx y bytes maxL ret (.code y bytes maxL ret :: w_C) rm 0 0 n) (hM : Met l y (.code y bytes maxL ret :: w_C) rm (va_Pc (.ref a :: As) (PC g H.size S)) (va_Qq post (BC g (AC g H.size S)) (AC g H.size S)) 0 0 (AC g H.size S)) (hst : st0 = As.reverse ++ .ref a :: rest) (hn : As.length = n) (hW : (rest.map fun v => v.category).sum ≤ 8) (hdg : decode cc pc = .ok (.invokevirtual idx, 3))
    (kk : ∀ (r : Option Nat) (S' : StC) (H1 : Heap) (locs1 : List Loc), post r S' → va_P g.1 classes (wC g S') H1 → va_D A (wC g S') → va_S A s.heap H1 locs1 → W p l e R s m args below meth c H1 locs1 cells slots Q (F0 m (pc + 3) ls (va_rf r :: rest))) : W p l e R s m args below meth c H locs cells slots Q (F0 m pc ls st0) := by
  subst hst
  have hF := free_C (S0 := S) hD hS hA
  refine va_callq (va_runV (rest := rest) ⟨hx, hb, hml, hown, hts⟩ hM cw ⟨PC_blind, hrc, pre_C hK hC hN hP hD hS hA⟩ rfl hn hsz rfl (lv_room hW) hdg ⟨hcl, hsl⟩) hS (fun q _ h => hF q h) hF (fun r u t H1 locs1 ht hvm hp hB hz1 hk1 hS1 => ?_)
  obtain ⟨hP1, hK1, hD1⟩ := hB
  rw [ht] at hP1
  exact kk r u H1 locs1 hp hP1 (hD1.weaken (fun _ _ _ h => hF _ h)) hS1
theorem cC_qS {own : String} {y : MethodName} {bytes : ByteArray} {maxL nL n : Nat} {rm : Room} {ret : Option FieldType} {post : Option Nat → StC → Prop} {As st0 : List Value} (hx : p.tables.exec = Jvm.exec) (hb : c.code = cc) (hml : c.maxLocals = nL) (hown : s.vm.findClass own = some m.cls) (hts : ∀ w ∈ w_C, w.before args s = true) (hK : va_K g.1 classes (tysC g) s) (hC : SC g A s s.heap) (hN : NW g s) (hP : va_P g.1 classes (wC g S) H) (hD : va_D A (wC g S)) (hS : va_S A s.heap H locs) (hA : ∀ q : Nat, s.heap.size ≤ q → A q) (hcl : cells ≤ R.cells) (hsl : slots ≤ R.slots) (hsz : ls.size = nL) 
    (cw : CallB R s args own idx y bytes maxL ret (.code y bytes maxL ret :: w_C) rm 0 0 n ∧ (Cond.static y).before args s = true) (hM : Met l y (.code y bytes maxL ret :: w_C) rm (va_Pc As (PC g H.size S)) (va_Qq post (BC g (AC g H.size S)) (AC g H.size S)) 0 0 (AC g H.size S)) (hst : st0 = As.reverse ++ rest) (hn : As.length = n) (hW : (rest.map fun v => v.category).sum ≤ 8) (hdg : decode cc pc = .ok (.invokestatic idx, 3))
    (kk : ∀ (r : Option Nat) (S' : StC) (H1 : Heap) (locs1 : List Loc), post r S' → va_P g.1 classes (wC g S') H1 → va_D A (wC g S') → va_S A s.heap H1 locs1 → W p l e R s m args below meth c H1 locs1 cells slots Q (F0 m (pc + 3) ls (va_rf r :: rest))) : W p l e R s m args below meth c H locs cells slots Q (F0 m pc ls st0) := by
  subst hst
  have hF := free_C (S0 := S) hD hS hA
  refine va_callq (va_runS (rest := rest) ⟨hx, hb, hml, hown, hts⟩ hM cw ⟨PC_blind, pre_C hK hC hN hP hD hS hA⟩ rfl hn hsz rfl (lv_room hW) hdg ⟨hcl, hsl⟩) hS (fun q _ h => hF q h) hF (fun r u t H1 locs1 ht hvm hp hB hz1 hk1 hS1 => ?_)
  obtain ⟨hP1, hK1, hD1⟩ := hB
  rw [ht] at hP1
  exact kk r u H1 locs1 hp hP1 (hD1.weaken (fun _ _ _ h => hF _ h)) hS1
end
abbrev fe_ordinal : String × String × String × List Int32 := ("java/lang/Enum", "ordinal", "I", ordE)
theorem fe_ordinal_in : fe_ordinal ∈ FE := List.mem_of_getElem? (i := 0) rfl
abbrev fe_number : String × String × String × List Int32 := ("WordSmith$BuiltIn", "number", "I", numE)
theorem fe_number_in : fe_number ∈ FE := List.mem_of_getElem? (i := 1) rfl
abbrev fe_takes : String × String × String × List Int32 := ("WordSmith$BuiltIn", "takes", "I", takE)
theorem fe_takes_in : fe_takes ∈ FE := List.mem_of_getElem? (i := 2) rfl
abbrev fe_puts : String × String × String × List Int32 := ("WordSmith$BuiltIn", "puts", "I", putE)
theorem fe_puts_in : fe_puts ∈ FE := List.mem_of_getElem? (i := 3) rfl
theorem good_U {own C owner : String} {idx n : Nat} {x y : MethodName} {b : ByteArray} {r : Option FieldType} (h1 : Cond.methodLink own idx x ∈ w_C) (h2 : Cond.sameMethod x.cls owner x.name x.desc ∈ w_C) (h3 : Cond.selects C x y ∈ w_C) (h4 : Cond.instanceMethod y ∈ w_C) (h5 : Cond.initialized y.cls ∈ w_C) (hc : Cond.code y b n r ∈ w_C) : GoodIn w_C (va_wsU own idx C owner x y (.code y b n r :: w_C)) := fun w h => (List.mem_append.mp h).elim (fun h => by
    have hw : w ∈ w_C := by
      simp only [List.mem_cons, List.not_mem_nil, or_false] at h
      rcases h with rfl | rfl | rfl | rfl | rfl
      · exact h1
      · exact h2
      · exact h3
      · exact h4
      · exact h5
    exact ⟨hw, good_of_word (List.all_eq_true.mp all_C w hw)⟩) (fun h => good_C hc w h)
theorem rf_cat (x : Option Nat) : (va_rf x).category = 1 := by cases x <;> rfl
def cpyOK (n0 n1 : Nat) (sp dp n : Int32) : Prop := ¬ sp < 0 ∧ ¬ dp < 0 ∧ ¬ n < 0 ∧ sp.toNatClampNeg + n.toNatClampNeg ≤ n0 ∧ dp.toNatClampNeg + n.toNatClampNeg ≤ n1
section
variable {p : Program} {l : Launch} {e : Env} {R : Room} {s : State} {m : MethodId} {args : Array Value} {below : List Frame} {meth : Method} {c : Code} {H : Heap} {locs : List Loc} {cells slots : Nat} {Q : State → Prop} {cc : ByteArray} {pc idx : Nat} {ls : Array Slot} {rest : List Value} {A : Nat → Prop} {H0 : Heap} {g : Gm} {S S2 : StC}
theorem cpyIn_C {own : String} {a n : Nat} {f fo : Nat → Int32} {sp dp k : Int32} (hx : p.tables.exec = Jvm.exec) (hb : c.code = cc) (hml : c.maxLocals = ls.size) (hown : s.vm.findClass own = some m.cls) (hlink : (Cond.methodLink own idx arraycopyName).before args s = true) (hnat : (Cond.native arraycopyName).before args s = true) (hstat : (Cond.static arraycopyName).before args s = true) (hini : (Cond.initialized "java/lang/System").before args s = true) (hK : va_K g.1 classes (tysC g) s) (hP : va_P g.1 classes (wC g S) H) (hD : va_D A (wC g S)) (hS : va_S A H0 H locs) (ha : a ∈ S.2.2.2.2.2.1) (hf : S.2.2.2.2.2.2 a = .inl (g.2.1 0, n, .inl f)) (ho : cpyOK n 96 sp dp k) (h9 : (wC g S)[9]? = some (g.2.2 9, .inl (g.2.1 0, 96, .inl fo))) (hset : (wC g S).set 9 (g.2.2 9, .inl (g.2.1 0, 96, .inl (va_cpy f fo sp.toNatClampNeg dp.toNatClampNeg k.toNatClampNeg))) = wC g S2) (hframes : 1 ≤ R.frames) (hlocals : (rest.map fun v => v.category).sum + (nativeFrameWords "java/lang/System" "arraycopy" 5 + 11) ≤ R.locals) (hdg : decode cc pc = .ok (.invokestatic idx, 3))
    (kk : ∀ (H1 : Heap) (locs1 : List Loc), va_P g.1 classes (wC g S2) H1 → va_D A (wC g S2) → va_S A H0 H1 locs1 → W p l e R s m args below meth c H1 locs1 cells slots Q (F0 m (pc + 3) ls rest)) : W p l e R s m args below meth c H locs cells slots Q (F0 m pc ls (.int k :: .int dp :: .ref (g.2.2 9) :: .int sp :: .ref a :: rest)) := by
  obtain ⟨q0, hq⟩ := va_pl_get (X := xC g S) (f := S.2.2.2.2.2.2) ha
  rw [hf] at hq
  obtain ⟨h1, h2, h3, h4, h5⟩ := ho
  refine va_copyi (ty := .int) hx hb hml hown hlink hnat hstat hini hK hP hD hS q0 9 0 0 hq h9 rfl rfl rfl h1 h2 h3 h4 h5 (fun _ _ => rfl) hframes hlocals hdg (fun H1 locs1 e1 e2 e3 => ?_)
  rw [hset] at e1 e2
  exact kk H1 locs1 e1 e2 e3
theorem cpyOut_C {own : String} {a n : Nat} {f fo : Nat → Int32} {sp dp k : Int32} (hx : p.tables.exec = Jvm.exec) (hb : c.code = cc) (hml : c.maxLocals = ls.size) (hown : s.vm.findClass own = some m.cls) (hlink : (Cond.methodLink own idx arraycopyName).before args s = true) (hnat : (Cond.native arraycopyName).before args s = true) (hstat : (Cond.static arraycopyName).before args s = true) (hini : (Cond.initialized "java/lang/System").before args s = true) (hK : va_K g.1 classes (tysC g) s) (hP : va_P g.1 classes (wC g S) H) (hD : va_D A (wC g S)) (hS : va_S A H0 H locs) (ha : a ∈ S.2.2.2.2.2.1) (hf : S.2.2.2.2.2.2 a = .inl (g.2.1 0, n, .inl f)) (ho : cpyOK 96 n sp dp k) (h9 : (wC g S)[9]? = some (g.2.2 9, .inl (g.2.1 0, 96, .inl fo))) (hframes : 1 ≤ R.frames) (hlocals : (rest.map fun v => v.category).sum + (nativeFrameWords "java/lang/System" "arraycopy" 5 + 11) ≤ R.locals) (hdg : decode cc pc = .ok (.invokestatic idx, 3))
    (kk : ∀ (H1 : Heap) (locs1 : List Loc), va_P g.1 classes (wC g (S.1, S.2.1, S.2.2.1, S.2.2.2.1, S.2.2.2.2.1, S.2.2.2.2.2.1, va_up S.2.2.2.2.2.2 a (.inl (g.2.1 0, n, .inl (va_cpy fo f sp.toNatClampNeg dp.toNatClampNeg k.toNatClampNeg))))) H1 → va_D A (wC g (S.1, S.2.1, S.2.2.1, S.2.2.2.1, S.2.2.2.2.1, S.2.2.2.2.2.1, va_up S.2.2.2.2.2.2 a (.inl (g.2.1 0, n, .inl (va_cpy fo f sp.toNatClampNeg dp.toNatClampNeg k.toNatClampNeg))))) → va_S A H0 H1 locs1 → W p l e R s m args below meth c H1 locs1 cells slots Q (F0 m (pc + 3) ls rest)) : W p l e R s m args below meth c H locs cells slots Q (F0 m pc ls (.int k :: .int dp :: .ref a :: .int sp :: .ref (g.2.2 9) :: rest)) := by
  obtain ⟨q0, hq⟩ := va_pl_get (X := xC g S) (f := S.2.2.2.2.2.2) ha
  have hset := fun e9 => va_pl_set (e := e9) hD ha hq
  rw [hf] at hq
  obtain ⟨h1, h2, h3, h4, h5⟩ := ho
  refine va_copyi (ty := .int) hx hb hml hown hlink hnat hstat hini hK hP hD hS 9 q0 0 0 h9 hq rfl rfl rfl h1 h2 h3 h4 h5 (fun _ _ => rfl) hframes hlocals hdg (fun H1 locs1 e1 e2 e3 => ?_)
  have e4 : (wC g S).set q0 (a, .inl (g.2.1 0, n, .inl (va_cpy fo f sp.toNatClampNeg dp.toNatClampNeg k.toNatClampNeg))) = wC g (S.1, S.2.1, S.2.2.1, S.2.2.2.1, S.2.2.2.2.1, S.2.2.2.2.2.1, va_up S.2.2.2.2.2.2 a (.inl (g.2.1 0, n, .inl (va_cpy fo f sp.toNatClampNeg dp.toNatClampNeg k.toNatClampNeg)))) := hset _
  rw [e4] at e1 e2
  exact kk H1 locs1 e1 e2 e3
end
theorem d_En_ordinal_0 : decode b_En_ordinal 0 = .ok (.aload_n 0, 1) := by decide +kernel
theorem d_En_ordinal_1 : decode b_En_ordinal 1 = .ok (.getfield 7, 3) := by decide +kernel
theorem d_En_ordinal_4 : decode b_En_ordinal 4 = .ok (.ireturn, 1) := by decide +kernel
def wp_En_ordinal (g : Gm) (post : Int32 → StC → Prop) (S : StC) (h0 : Nat) : Prop := ∃ i : Nat, i < 52 ∧ h0 = g.2.2 (100 + i) ∧ post (ordE.getD i 0) S
theorem c_En_ordinal (l : Launch) (g : Gm) (sz : Nat) (S : StC) (h0 : Nat) (post : Int32 → StC → Prop) (hw : wp_En_ordinal g post S h0) : Met l y_En_ordinal (.code y_En_ordinal b_En_ordinal 1 (some .int) :: w_C) (rmM 0 0) (va_Pc [.ref h0] (PC g sz S)) (va_Qi post (BC g (AC g sz S)) (AC g sz S)) 0 0 (AC g sz S) := by
  refine ofC_i (by decide) (Nat.le_of_ble_eq_true rfl) (fun p e s m args below meth c Q A H locs ls hx hb hml hts hown hK hA hC hN kr hl hP hD hS => ?_)
  have hl : lv_has ls 1 [(0, .ref h0)] := hl
  obtain ⟨i, hi, he, hw⟩ := hw
  refine lv_aload_n hx hb d_En_ordinal_0 rfl (lv_at hl 0 rfl) ?_
  refine ge_C (i := i) (q := fe_ordinal) hx hb hts hC hS hown he hi fe_ordinal_in k_C_775 d_En_ordinal_1 ?_
  exact kr _ S _ _ _ _ hw hP hD hS d_En_ordinal_4
