/-! the static shape of all objects: rb_ty (0 .. 9: an object of that class; 10 .. 14: an array of ints, booleans, chars, bytes, longs; 15: of States; 16: of int[]), rb_len, references that never change -/
def rb_T0 : u_T := fun k => match k with
  | 0 => ("RentBoard$Facts", "most", "I", true)
  | 1 => ("RentBoard$Facts", "what", "[I", true)
  | 2 => ("RentBoard$Facts", "value", "[I", true)
  | _ => ("RentBoard$Facts", "size", "I", false)
def rb_T1 : u_T := fun k => match k with
  | 0 => ("RentBoard$Lookahead", "middle", "LRentBoard$State;", true)
  | 1 => ("RentBoard$Lookahead", "last", "LRentBoard$State;", true)
  | 2 => ("RentBoard$Lookahead", "firstMove", "I", false)
  | _ => ("RentBoard$Lookahead", "lastMove", "I", false)
def rb_T2 : u_T := fun k => match k with
  | 0 => ("RentBoard$Past", "states", "[LRentBoard$State;", true)
  | 1 => ("RentBoard$Past", "first", "I", false)
  | _ => ("RentBoard$Past", "size", "I", false)
def rb_T3 : u_T := fun k => match k with
  | 0 => ("RentBoard$Row", "numbers", "[J", true)
  | _ => ("RentBoard$Row", "size", "I", false)
def rb_T4 : u_T := fun k => match k with
  | 0 => ("RentBoard$Rule", "code", "[I", true)
  | 1 => ("RentBoard$Rule", "values", "[I", true)
  | 2 => ("RentBoard$Rule", "waiting", "[I", true)
  | 3 => ("RentBoard$Rule", "compared", "[Z", true)
  | 4 => ("RentBoard$Rule", "things", "[I", true)
  | 5 => ("RentBoard$Rule", "size", "I", false)
  | 6 => ("RentBoard$Rule", "waits", "I", false)
  | 7 => ("RentBoard$Rule", "depth", "I", false)
  | 8 => ("RentBoard$Rule", "digits", "I", false)
  | _ => ("RentBoard$Rule", "wantsThing", "Z", false)
def rb_T5 : u_T := fun k => match k with
  | 0 => ("RentBoard$State", "kind", "[I", true)
  | 1 => ("RentBoard$State", "side", "[I", true)
  | 2 => ("RentBoard$State", "place", "[I", true)
  | 3 => ("RentBoard$State", "purse", "[I", true)
  | 4 => ("RentBoard$State", "dues", "[I", true)
  | 5 => ("RentBoard$State", "size", "I", false)
  | 6 => ("RentBoard$State", "turn", "I", false)
  | 7 => ("RentBoard$State", "quarter", "I", false)
  | _ => ("RentBoard$State", "made", "I", false)
def rb_T6 : u_T := fun k => match k with
  | 0 => ("RentBoard$Text", "signs", "[C", true)
  | _ => ("RentBoard$Text", "size", "I", false)
def rb_T7 : u_T := fun k => match k with
  | 0 => ("RentBoard$Walk", "routes", "[I", true)
  | 1 => ("RentBoard$Walk", "levels", "[I", true)
  | 2 => ("RentBoard$Walk", "counts", "[I", true)
  | 3 => ("RentBoard$Walk", "nextCounts", "[I", true)
  | 4 => ("RentBoard$Walk", "rents", "[[I", true)
  | 5 => ("RentBoard$Walk", "rest", "[[I", true)
  | 6 => ("RentBoard$Walk", "start", "I", false)
  | _ => ("RentBoard$Walk", "free", "I", false)
def rb_T8 : u_T := fun k => match k with
  | 0 => ("RentBoard", "text", "LRentBoard$Text;", true)
  | 1 => ("RentBoard", "told", "LRentBoard$Row;", true)
  | 2 => ("RentBoard", "rule", "LRentBoard$Rule;", true)
  | 3 => ("RentBoard", "otherRule", "LRentBoard$Rule;", true)
  | 4 => ("RentBoard", "now", "LRentBoard$State;", true)
  | 5 => ("RentBoard", "before", "LRentBoard$State;", true)
  | 6 => ("RentBoard", "trial", "LRentBoard$State;", true)
  | 7 => ("RentBoard", "past", "LRentBoard$Past;", true)
  | 8 => ("RentBoard", "kept", "[LRentBoard$State;", true)
  | 9 => ("RentBoard", "wasKept", "[Z", true)
  | 10 => ("RentBoard", "news", "LRentBoard$Facts;", true)
  | 11 => ("RentBoard", "sights", "LRentBoard$Facts;", true)
  | 12 => ("RentBoard", "walk", "LRentBoard$Walk;", true)
  | 13 => ("RentBoard", "lookahead", "LRentBoard$Lookahead;", true)
  | _ => ("RentBoard", "lostInCorner", "[Z", true)
def rb_T9 : u_T := fun k => match k with
  | 0 => ("RentBoardModel", "now", "[I", true)
  | 1 => ("RentBoardModel", "side", "[I", true)
  | 2 => ("RentBoardModel", "pieces", "I", false)
  | 3 => ("RentBoardModel", "text", "[B", true)
  | 4 => ("RentBoardModel", "typed", "I", false)
  | 5 => ("RentBoardModel", "row", "[J", true)
  | 6 => ("RentBoardModel", "rowMany", "I", false)
  | 7 => ("RentBoardModel", "thrown", "I", false)
  | 8 => ("RentBoardModel", "read", "[B", false)
  | 9 => ("RentBoardModel", "length", "I", false)
  | 10 => ("RentBoardModel", "top", "I", false)
  | 11 => ("RentBoardModel", "at", "I", false)
  | 12 => ("RentBoardModel", "wrong", "I", false)
  | 13 => ("RentBoardModel", "told", "[I", true)
  | 14 => ("RentBoardModel", "rule", "[B", false)
  | 15 => ("RentBoardModel", "otherRule", "[B", false)
  | 16 => ("RentBoardModel", "ruleSize", "I", false)
  | 17 => ("RentBoardModel", "isAsked", "Z", false)
  | 18 => ("RentBoardModel", "asked", "[I", true)
  | 19 => ("RentBoardModel", "undos", "[I", true)
  | 20 => ("RentBoardModel", "undoMany", "I", false)
  | 21 => ("RentBoardModel", "aside", "[I", true)
  | 22 => ("RentBoardModel", "then", "[I", true)
  | 23 => ("RentBoardModel", "rents", "[I", true)
  | 24 => ("RentBoardModel", "paid", "I", false)
  | 25 => ("RentBoardModel", "acts", "[I", true)
  | 26 => ("RentBoardModel", "far", "[I", true)
  | 27 => ("RentBoardModel", "rows", "[I", true)
  | 28 => ("RentBoardModel", "rowsThen", "[I", true)
  | 29 => ("RentBoardModel", "costs", "[[I", true)
  | 30 => ("RentBoardModel", "boards", "[[I", true)
  | 31 => ("RentBoardModel", "plans", "[[I", true)
  | 32 => ("RentBoardModel", "planMany", "[I", true)
  | 33 => ("RentBoardModel", "heardOf", "[I", true)
  | 34 => ("RentBoardModel", "heardBy", "[I", true)
  | 35 => ("RentBoardModel", "heardMany", "I", false)
  | 36 => ("RentBoardModel", "sawBy", "[I", true)
  | 37 => ("RentBoardModel", "sawAs", "[I", true)
  | 38 => ("RentBoardModel", "sawMany", "I", false)
  | 39 => ("RentBoardModel", "many", "[I", true)
  | 40 => ("RentBoardModel", "wins", "[Z", true)
  | 41 => ("RentBoardModel", "drawn", "I", false)
  | 42 => ("RentBoardModel", "came", "I", false)
  | 43 => ("RentBoardModel", "kept", "[I", true)
  | 44 => ("RentBoardModel", "isKept", "[Z", true)
  | _ => ("RentBoardModel", "keptCame", "[I", true)
abbrev rb_cl : List vw_C := [("RentBoard$Facts", rb_T0, 4), ("RentBoard$Lookahead", rb_T1, 4), ("RentBoard$Past", rb_T2, 3), ("RentBoard$Row", rb_T3, 2), ("RentBoard$Rule", rb_T4, 10), ("RentBoard$State", rb_T5, 9), ("RentBoard$Text", rb_T6, 2), ("RentBoard$Walk", rb_T7, 8), ("RentBoard", rb_T8, 15), ("RentBoardModel", rb_T9, 46)]
def rb_N : Nat := 208
/-- where the States lie: one, and its five arrays, and the next -/
def rb_base : Nat := 94
def rb_tyL : List Nat := [8, 6, 12, 3, 14, 4, 10, 10, 10, 11, 10, 4, 10, 10, 10, 11, 10, 0, 10, 10, 0, 10, 10, 2, 15, 15, 11, 7, 10, 10, 10, 10, 16, 10, 10, 10, 10, 10, 10, 16, 10, 10, 10, 10, 10, 10, 10, 1, 11, 9, 10, 10, 13, 14, 10, 13, 13, 10, 10, 10, 10, 10, 10, 10, 10, 10, 16, 10, 10, 10, 10, 10, 10, 10, 16, 10, 10, 10, 10, 16, 10, 10, 10, 10, 10, 10, 10, 10, 10, 11, 10, 11, 10, 14]
def rb_lenL : List Nat := [0, 0, 80, 0, 25, 0, 40, 40, 40, 5, 7, 0, 40, 40, 40, 5, 7, 0, 12, 12, 0, 12, 12, 0, 12, 2, 2, 0, 25, 25, 25, 25, 6, 25, 25, 25, 25, 25, 25, 7, 25, 25, 25, 25, 25, 25, 25, 0, 361, 0, 27, 8, 80, 16, 32, 40, 40, 7, 324, 27, 27, 8, 320, 25, 25, 25, 7, 25, 25, 25, 25, 25, 25, 25, 4, 27, 27, 27, 27, 3, 3, 3, 3, 3, 12, 12, 10, 10, 21, 400, 54, 2, 2, 1]
def rb_ty (i : Nat) : Nat := if i < rb_base then rb_tyL.getD i 99 else if i < rb_N then (if (i - rb_base) % 6 = 0 then 5 else 10) else 99
def rb_len (i : Nat) : Nat := if i < rb_base then rb_lenL.getD i 0 else 8
/-- how many fields a class has -/
def rb_nf (c : Nat) : Nat := [4, 4, 3, 2, 10, 9, 2, 8, 15, 46].getD c 0
/-- a field: 0 an int, 1 a reference that never changes, 2 + n the n-th that does -/
def rb_fkL : List (List Nat) := [[0, 1, 1, 0], [1, 1, 0, 0], [1, 0, 0], [1, 0], [1, 1, 1, 1, 1, 0, 0, 0, 0, 0], [1, 1, 1, 1, 1, 0, 0, 0, 0], [1, 0], [1, 1, 1, 1, 1, 1, 0, 0], [1, 1, 1, 1, 1, 1, 1, 1, 1, 1, 1, 1, 1, 1, 1], [1, 1, 0, 1, 0, 1, 0, 0, 2, 0, 0, 0, 0, 1, 3, 4, 0, 0, 1, 1, 0, 1, 1, 1, 0, 1, 1, 1, 1, 1, 1, 1, 1, 1, 1, 0, 1, 1, 0, 1, 1, 0, 0, 1, 1, 1]]
def rb_fk (c k : Nat) : Nat := (rb_fkL.getD c []).getD k 9
/-- the reference in field k of object i of class c -/
def rb_sr (c i k : Nat) : Nat := match c with
  | 0 => i + k
  | 1 => [196, 202, 0, 0].getD k 0
  | 2 => [24, 0, 0].getD k 0
  | 3 => [4, 0].getD k 0
  | 4 => i + (k + 1)
  | 5 => i + (k + 1)
  | 6 => [2, 0].getD k 0
  | 7 => [28, 29, 30, 31, 32, 39, 0, 0].getD k 0
  | 8 => [1, 3, 5, 11, 94, 100, 106, 23, 25, 26, 17, 20, 27, 47, 48].getD k 0
  | _ => [50, 51, 0, 52, 0, 53, 0, 0, 0, 0, 0, 0, 0, 54, 0, 0, 0, 0, 57, 58, 0, 59, 60, 61, 0, 62, 63, 64, 65, 66, 74, 79, 83, 84, 85, 0, 86, 87, 0, 88, 89, 0, 0, 90, 91, 92].getD k 0
/-- the reference at place j of an array i of references -/
def rb_ra (i j : Nat) : Nat := if i = 24 then 112 + 6 * j else if i = 25 then 184 + 6 * j else if i = 32 then 33 + 1 * j else if i = 39 then 40 + 1 * j else if i = 66 then 67 + 1 * j else if i = 74 then 75 + 1 * j else if i = 79 then 80 + 1 * j else 0
/-- the static arrays, and what they hold -/
def rb_svL : List (List Int32) := [[2, 2, 2, 2, 2, 2, 1, 1, 1, 2, 2, 1, 0, 1, 2, 2, 1, 1, 1, 2, 2, 2, 2, 2, 2], [1, -1, 0, 0, 1, 1, -1, -1], [0, 0, 1, -1, 1, -1, 1, -1], [1, 2, 2, 1, -1, -2, -2, -1], [2, 1, -1, -2, -2, -1, 1, 2], [-2, -2, -1, 1], [-1, 1, -2, -2], [5, 1, 9, 2, 9]]
def rb_sv (k j : Nat) : Int32 := (rb_svL.getD k []).getD j 0
def rb_sl (k : Nat) : Nat := (rb_svL.getD k []).length
def rb_snL : List String := ["FROM_MIDDLE", "RIGHT", "UP", "JUMP_RIGHT", "JUMP_UP", "LEAP_COLUMN", "LEAP_ROW", "MOST_HEARD_V"]
def rb_sn (k : Nat) : String := rb_snL.getD k ""
/-! the methods: name, code, locals, what is answered, how many arguments, whose (99: static) -/
abbrev rb_ME : Type := MethodName × ByteArray × Nat × Option FieldType × Nat × Nat
def rb_mt0 : List rb_ME := [
  (⟨"java/lang/String", "length", "()I"⟩, prog_20_method_54_code, 1, (some Jvm.ClassFile.FieldType.int), 0, 98),
  (⟨"java/lang/String", "coder", "()B"⟩, prog_20_method_152_code, 1, (some Jvm.ClassFile.FieldType.byte), 0, 98),
  (⟨"RentBoard", "sign", "(I)I"⟩, prog_1_method_2_code, 2, (some Jvm.ClassFile.FieldType.int), 1, 8),
  (⟨"RentBoard$Text", "addFour", "(I)Z"⟩, prog_8_method_2_code, 3, (some Jvm.ClassFile.FieldType.boolean), 1, 6),
  (⟨"RentBoard", "end", "(I)Z"⟩, prog_1_method_3_code, 2, (some Jvm.ClassFile.FieldType.boolean), 1, 8),
  (⟨"RentBoard$Text", "shorten", "(I)Z"⟩, prog_8_method_3_code, 2, (some Jvm.ClassFile.FieldType.boolean), 1, 6),
  (⟨"RentBoard", "pieces", "()I"⟩, prog_1_method_4_code, 3, (some Jvm.ClassFile.FieldType.int), 0, 8),
  (⟨"RentBoard$State", "copyFrom", "(LRentBoard$State;)V"⟩, prog_7_method_2_code, 2, none, 1, 5),
  (⟨"RentBoard", "readLines", "()I"⟩, prog_1_method_5_code, 7, (some Jvm.ClassFile.FieldType.int), 0, 8),
  (⟨"RentBoard", "lineFault", "(I)I"⟩, prog_1_method_6_code, 3, (some Jvm.ClassFile.FieldType.int), 1, 8),
  (⟨"RentBoard$Text", "at", "(I)C"⟩, prog_8_method_4_code, 2, (some Jvm.ClassFile.FieldType.char), 1, 6),
  (⟨"java/lang/String", "indexOf", "(I)I"⟩, prog_20_method_79_code, 2, (some Jvm.ClassFile.FieldType.int), 1, 98),
  (⟨"java/lang/String", "indexOf", "(II)I"⟩, prog_20_method_80_code, 3, (some Jvm.ClassFile.FieldType.int), 2, 98),
  (⟨"java/lang/String", "isLatin1", "()Z"⟩, prog_20_method_154_code, 1, (some Jvm.ClassFile.FieldType.boolean), 0, 98),
  (⟨"java/lang/StringLatin1", "indexOf", "([BIII)I"⟩, prog_21_method_22_code, 4, (some Jvm.ClassFile.FieldType.int), 4, 99),
  (⟨"java/lang/StringLatin1", "canEncode", "(I)Z"⟩, prog_21_method_4_code, 1, (some Jvm.ClassFile.FieldType.boolean), 1, 99),
  (⟨"java/lang/StringLatin1", "indexOfChar", "([BIII)I"⟩, prog_21_method_23_code, 6, (some Jvm.ClassFile.FieldType.int), 4, 99),
  (⟨"java/lang/String", "charAt", "(I)C"⟩, prog_20_method_56_code, 2, (some Jvm.ClassFile.FieldType.char), 1, 98),
  (⟨"java/lang/StringLatin1", "charAt", "([BI)C"⟩, prog_21_method_2_code, 2, (some Jvm.ClassFile.FieldType.char), 2, 99),
  (⟨"java/lang/String", "checkIndex", "(II)V"⟩, prog_20_method_155_code, 2, none, 2, 99),
  (⟨"jdk/internal/util/Preconditions", "checkIndex", "(IILjava/util/function/BiFunction;)I"⟩, prog_29_method_11_code, 3, (some Jvm.ClassFile.FieldType.int), 3, 99),
  (⟨"RentBoard", "suits", "(CC)Z"⟩, prog_1_method_74_code, 2, (some Jvm.ClassFile.FieldType.boolean), 2, 99),
  (⟨"RentBoard", "isDigit", "(C)Z"⟩, prog_1_method_75_code, 1, (some Jvm.ClassFile.FieldType.boolean), 1, 99),
  (⟨"RentBoard$Text", "squareAt", "(I)I"⟩, prog_8_method_7_code, 2, (some Jvm.ClassFile.FieldType.int), 1, 6),
  (⟨"RentBoard$State", "whoStandsOn", "(I)I"⟩, prog_7_method_7_code, 3, (some Jvm.ClassFile.FieldType.int), 1, 5),
  (⟨"RentBoard$Text", "numberAt", "(I)I"⟩, prog_8_method_6_code, 2, (some Jvm.ClassFile.FieldType.int), 1, 6),
  (⟨"RentBoard$Text", "digitAt", "(I)I"⟩, prog_8_method_5_code, 2, (some Jvm.ClassFile.FieldType.int), 1, 6),
  (⟨"RentBoard$State", "add", "(IIII)V"⟩, prog_7_method_3_code, 5, none, 4, 5),
  (⟨"RentBoard$Past", "forgetAll", "()V"⟩, prog_4_method_4_code, 1, none, 0, 2),
  (⟨"RentBoard", "rule", "()I"⟩, prog_1_method_7_code, 2, (some Jvm.ClassFile.FieldType.int), 0, 8),
  (⟨"RentBoard$Rule", "read", "(LRentBoard$Text;)I"⟩, prog_6_method_3_code, 4, (some Jvm.ClassFile.FieldType.int), 1, 4),
  (⟨"RentBoard$Rule", "take", "(C)Z"⟩, prog_6_method_4_code, 2, (some Jvm.ClassFile.FieldType.boolean), 1, 4),
  (⟨"RentBoard$Rule", "takeDigit", "(I)Z"⟩, prog_6_method_5_code, 2, (some Jvm.ClassFile.FieldType.boolean), 1, 4),
  (⟨"RentBoard$Rule", "emit", "(I)V"⟩, prog_6_method_10_code, 2, none, 1, 4),
  (⟨"RentBoard$Rule", "takeThing", "(C)Z"⟩, prog_6_method_6_code, 3, (some Jvm.ClassFile.FieldType.boolean), 1, 4),
  (⟨"RentBoard$Rule", "await", "(I)V"⟩, prog_6_method_9_code, 2, none, 1, 4),
  (⟨"RentBoard$Rule", "takeBinder", "(C)Z"⟩, prog_6_method_7_code, 3, (some Jvm.ClassFile.FieldType.boolean), 1, 4),
  (⟨"RentBoard$Rule", "closeBracket", "()Z"⟩, prog_6_method_8_code, 1, (some Jvm.ClassFile.FieldType.boolean), 0, 4),
  (⟨"RentBoard$Rule", "release", "(I)V"⟩, prog_6_method_11_code, 3, none, 1, 4),
  (⟨"RentBoard$Rule", "rankOf", "(I)I"⟩, prog_6_method_12_code, 1, (some Jvm.ClassFile.FieldType.int), 1, 99)]
def rb_mt1 : List rb_ME := [
  (⟨"RentBoard$Rule", "copyFrom", "(LRentBoard$Rule;)V"⟩, prog_6_method_2_code, 2, none, 1, 4),
  (⟨"RentBoard", "sheet", "(IIII)I"⟩, prog_1_method_11_code, 8, (some Jvm.ClassFile.FieldType.int), 4, 8),
  (⟨"RentBoard$State", "stands", "(I)Z"⟩, prog_7_method_5_code, 2, (some Jvm.ClassFile.FieldType.boolean), 1, 5),
  (⟨"RentBoard$State", "has", "(I)Z"⟩, prog_7_method_4_code, 2, (some Jvm.ClassFile.FieldType.boolean), 1, 5),
  (⟨"RentBoard", "entryOf", "(II)I"⟩, prog_1_method_12_code, 2, (some Jvm.ClassFile.FieldType.int), 2, 99),
  (⟨"RentBoard", "put", "(II)I"⟩, prog_1_method_80_code, 2, (some Jvm.ClassFile.FieldType.int), 2, 99),
  (⟨"RentBoard$State", "pursesOf", "(I)I"⟩, prog_7_method_11_code, 4, (some Jvm.ClassFile.FieldType.int), 1, 5),
  (⟨"RentBoard", "moves", "(II)I"⟩, prog_1_method_13_code, 4, (some Jvm.ClassFile.FieldType.int), 2, 8),
  (⟨"RentBoard", "makeMove", "(II)I"⟩, prog_1_method_14_code, 3, (some Jvm.ClassFile.FieldType.int), 2, 8),
  (⟨"RentBoard", "isSquare", "(I)Z"⟩, prog_1_method_76_code, 1, (some Jvm.ClassFile.FieldType.boolean), 1, 99),
  (⟨"RentBoard$State", "isOnTurn", "(I)Z"⟩, prog_7_method_6_code, 2, (some Jvm.ClassFile.FieldType.boolean), 1, 5),
  (⟨"RentBoard$State", "reach", "(I)I"⟩, prog_7_method_14_code, 3, (some Jvm.ClassFile.FieldType.int), 1, 5),
  (⟨"RentBoard$State", "squaresOf", "(II)I"⟩, prog_7_method_12_code, 5, (some Jvm.ClassFile.FieldType.int), 2, 5),
  (⟨"RentBoard", "bitOf", "(I)I"⟩, prog_1_method_83_code, 1, (some Jvm.ClassFile.FieldType.int), 1, 99),
  (⟨"RentBoard", "reachOf", "(IIIII)I"⟩, prog_1_method_88_code, 5, (some Jvm.ClassFile.FieldType.int), 5, 99),
  (⟨"RentBoard", "around", "(I)I"⟩, prog_1_method_84_code, 3, (some Jvm.ClassFile.FieldType.int), 1, 99),
  (⟨"RentBoard", "lines", "(IIII)I"⟩, prog_1_method_86_code, 8, (some Jvm.ClassFile.FieldType.int), 4, 99),
  (⟨"RentBoard", "stepFrom", "(III)I"⟩, prog_1_method_82_code, 6, (some Jvm.ClassFile.FieldType.int), 3, 99),
  (⟨"RentBoard", "holds", "(II)Z"⟩, prog_1_method_78_code, 2, (some Jvm.ClassFile.FieldType.boolean), 2, 99),
  (⟨"RentBoard", "jumps", "(I)I"⟩, prog_1_method_85_code, 3, (some Jvm.ClassFile.FieldType.int), 1, 99),
  (⟨"RentBoard", "pawnSteps", "(IIII)I"⟩, prog_1_method_87_code, 7, (some Jvm.ClassFile.FieldType.int), 4, 99),
  (⟨"RentBoard$State", "move", "(II)I"⟩, prog_7_method_15_code, 6, (some Jvm.ClassFile.FieldType.int), 2, 5),
  (⟨"RentBoard$State", "evict", "(I)V"⟩, prog_7_method_16_code, 2, none, 1, 5),
  (⟨"RentBoard$Past", "add", "(LRentBoard$State;)V"⟩, prog_4_method_2_code, 2, none, 1, 2),
  (⟨"RentBoard", "tell", "(JJ)V"⟩, prog_1_method_73_code, 5, none, 2, 8),
  (⟨"RentBoard$Row", "add", "(J)V"⟩, prog_5_method_2_code, 3, none, 1, 3),
  (⟨"RentBoard", "quarters", "(I)I"⟩, prog_1_method_15_code, 3, (some Jvm.ClassFile.FieldType.int), 1, 8),
  (⟨"RentBoard$State", "standing", "()I"⟩, prog_7_method_9_code, 1, (some Jvm.ClassFile.FieldType.int), 0, 5),
  (⟨"RentBoard$State", "standingPieces", "()I"⟩, prog_7_method_8_code, 3, (some Jvm.ClassFile.FieldType.int), 0, 5),
  (⟨"java/lang/Integer", "bitCount", "(I)I"⟩, prog_17_method_49_code, 1, (some Jvm.ClassFile.FieldType.int), 1, 99),
  (⟨"RentBoard$State", "live", "(LRentBoard$Rule;I)I"⟩, prog_7_method_20_code, 5, (some Jvm.ClassFile.FieldType.int), 2, 5),
  (⟨"RentBoard$State", "quarterDay", "(LRentBoard$Rule;)I"⟩, prog_7_method_19_code, 4, (some Jvm.ClassFile.FieldType.int), 1, 5),
  (⟨"RentBoard$State", "rentAt", "(LRentBoard$Rule;III)I"⟩, prog_7_method_17_code, 6, (some Jvm.ClassFile.FieldType.int), 4, 5),
  (⟨"RentBoard$State", "others", "(I)I"⟩, prog_7_method_13_code, 4, (some Jvm.ClassFile.FieldType.int), 1, 5),
  (⟨"RentBoard$Rule", "rentOf", "(IIIII)I"⟩, prog_6_method_13_code, 6, (some Jvm.ClassFile.FieldType.int), 5, 4),
  (⟨"RentBoard", "fromMiddle", "(I)I"⟩, prog_1_method_81_code, 1, (some Jvm.ClassFile.FieldType.int), 1, 99),
  (⟨"RentBoard$Rule", "worked", "()I"⟩, prog_6_method_14_code, 4, (some Jvm.ClassFile.FieldType.int), 0, 4),
  (⟨"RentBoard$Rule", "bind", "(III)I"⟩, prog_6_method_16_code, 3, (some Jvm.ClassFile.FieldType.int), 3, 99),
  (⟨"RentBoard$Rule", "thing", "(I)I"⟩, prog_6_method_15_code, 2, (some Jvm.ClassFile.FieldType.int), 1, 4),
  (⟨"RentBoard", "tell", "(J)V"⟩, prog_1_method_72_code, 3, none, 1, 8)]
def rb_mt2 : List rb_ME := [
  (⟨"RentBoard", "passes", "()I"⟩, prog_1_method_16_code, 1, (some Jvm.ClassFile.FieldType.int), 0, 8),
  (⟨"RentBoard", "turnOver", "()I"⟩, prog_1_method_17_code, 1, (some Jvm.ClassFile.FieldType.int), 0, 8),
  (⟨"RentBoard", "gives", "(III)I"⟩, prog_1_method_18_code, 5, (some Jvm.ClassFile.FieldType.int), 3, 8),
  (⟨"RentBoard", "hand", "(III)I"⟩, prog_1_method_19_code, 4, (some Jvm.ClassFile.FieldType.int), 3, 8),
  (⟨"RentBoard", "wages", "(II)I"⟩, prog_1_method_20_code, 4, (some Jvm.ClassFile.FieldType.int), 2, 8),
  (⟨"RentBoard", "payWages", "(II)I"⟩, prog_1_method_21_code, 5, (some Jvm.ClassFile.FieldType.int), 2, 8),
  (⟨"RentBoard", "isSide", "(I)Z"⟩, prog_1_method_77_code, 1, (some Jvm.ClassFile.FieldType.boolean), 1, 99),
  (⟨"RentBoard", "game", "()I"⟩, prog_1_method_22_code, 5, (some Jvm.ClassFile.FieldType.int), 0, 8),
  (⟨"RentBoard", "gameFault", "()I"⟩, prog_1_method_23_code, 6, (some Jvm.ClassFile.FieldType.int), 0, 8),
  (⟨"RentBoard", "shapeOf", "(C)Ljava/lang/String;"⟩, prog_1_method_24_code, 1, (some (Jvm.ClassFile.FieldType.object "java/lang/String")), 1, 99),
  (⟨"RentBoard", "doAct", "(I)I"⟩, prog_1_method_25_code, 2, (some Jvm.ClassFile.FieldType.int), 1, 8),
  (⟨"RentBoard", "undo", "()I"⟩, prog_1_method_26_code, 1, (some Jvm.ClassFile.FieldType.int), 0, 8),
  (⟨"RentBoard$Past", "takeLatest", "(LRentBoard$State;)Z"⟩, prog_4_method_3_code, 2, (some Jvm.ClassFile.FieldType.boolean), 1, 2),
  (⟨"RentBoard", "goes", "(I)I"⟩, prog_1_method_27_code, 4, (some Jvm.ClassFile.FieldType.int), 1, 8),
  (⟨"RentBoard", "threats", "(I)I"⟩, prog_1_method_28_code, 4, (some Jvm.ClassFile.FieldType.int), 1, 8),
  (⟨"RentBoard", "hops", "(II)I"⟩, prog_1_method_29_code, 4, (some Jvm.ClassFile.FieldType.int), 2, 8),
  (⟨"RentBoard$Walk", "open", "(LRentBoard$State;I)V"⟩, prog_9_method_2_code, 7, none, 2, 7),
  (⟨"RentBoard$Walk", "fewestTo", "(I)I"⟩, prog_9_method_3_code, 4, (some Jvm.ClassFile.FieldType.int), 1, 7),
  (⟨"RentBoard$Walk", "leadingTo", "(I)I"⟩, prog_9_method_4_code, 4, (some Jvm.ClassFile.FieldType.int), 1, 7),
  (⟨"RentBoard$Walk", "tellFewest", "(ILRentBoard$Row;)V"⟩, prog_9_method_5_code, 5, none, 2, 7),
  (⟨"RentBoard", "firstOf", "(I)I"⟩, prog_1_method_79_code, 2, (some Jvm.ClassFile.FieldType.int), 1, 99),
  (⟨"RentBoard", "ways", "(III)I"⟩, prog_1_method_30_code, 4, (some Jvm.ClassFile.FieldType.int), 3, 8),
  (⟨"RentBoard$Walk", "rowsTo", "(II)I"⟩, prog_9_method_6_code, 4, (some Jvm.ClassFile.FieldType.int), 2, 7),
  (⟨"java/util/Arrays", "fill", "([II)V"⟩, prog_27_method_103_code, 4, none, 2, 99),
  (⟨"RentBoard$Walk", "spread", "(I)V"⟩, prog_9_method_7_code, 4, none, 1, 7),
  (⟨"RentBoard", "owes", "(I)I"⟩, prog_1_method_31_code, 6, (some Jvm.ClassFile.FieldType.int), 1, 8),
  (⟨"RentBoard$State", "due", "(LRentBoard$Rule;I)I"⟩, prog_7_method_18_code, 3, (some Jvm.ClassFile.FieldType.int), 2, 5),
  (⟨"RentBoard", "later", "(II)I"⟩, prog_1_method_32_code, 3, (some Jvm.ClassFile.FieldType.int), 2, 8),
  (⟨"RentBoard", "when", "(I)I"⟩, prog_1_method_33_code, 4, (some Jvm.ClassFile.FieldType.int), 1, 8),
  (⟨"RentBoard", "needs", "(II)I"⟩, prog_1_method_34_code, 5, (some Jvm.ClassFile.FieldType.int), 2, 8),
  (⟨"RentBoard", "cheapest", "(I)I"⟩, prog_1_method_35_code, 7, (some Jvm.ClassFile.FieldType.int), 1, 8),
  (⟨"RentBoard", "wanders", "(II)I"⟩, prog_1_method_36_code, 4, (some Jvm.ClassFile.FieldType.int), 2, 8),
  (⟨"RentBoard$Walk", "leastRents", "(LRentBoard$State;LRentBoard$Rule;II)I"⟩, prog_9_method_8_code, 8, (some Jvm.ClassFile.FieldType.int), 4, 7),
  (⟨"RentBoard$Walk", "bestFrom", "(II)I"⟩, prog_9_method_9_code, 9, (some Jvm.ClassFile.FieldType.int), 2, 7),
  (⟨"RentBoard$Walk", "tellLeastRents", "(ILRentBoard$Row;)V"⟩, prog_9_method_10_code, 5, none, 2, 7),
  (⟨"RentBoard", "stays", "(II)I"⟩, prog_1_method_37_code, 6, (some Jvm.ClassFile.FieldType.int), 2, 8),
  (⟨"RentBoard", "rentsAt", "(III)I"⟩, prog_1_method_38_code, 6, (some Jvm.ClassFile.FieldType.int), 3, 8),
  (⟨"RentBoard", "best", "()I"⟩, prog_1_method_39_code, 2, (some Jvm.ClassFile.FieldType.int), 0, 8),
  (⟨"RentBoard$Lookahead", "oneMove", "(LRentBoard$State;LRentBoard$Rule;I)I"⟩, prog_3_method_2_code, 9, (some Jvm.ClassFile.FieldType.int), 3, 1),
  (⟨"RentBoard$State", "worthBehindDay", "(LRentBoard$Rule;I)I"⟩, prog_7_method_21_code, 7, (some Jvm.ClassFile.FieldType.int), 2, 5)]
def rb_mt3 : List rb_ME := [
  (⟨"RentBoard", "looks", "(I)I"⟩, prog_1_method_40_code, 3, (some Jvm.ClassFile.FieldType.int), 1, 8),
  (⟨"RentBoard$Lookahead", "twoMoves", "(LRentBoard$State;LRentBoard$Rule;)I"⟩, prog_3_method_3_code, 9, (some Jvm.ClassFile.FieldType.int), 2, 1),
  (⟨"RentBoard", "choices", "()I"⟩, prog_1_method_41_code, 6, (some Jvm.ClassFile.FieldType.int), 0, 8),
  (⟨"RentBoard", "heard", "(II)I"⟩, prog_1_method_42_code, 3, (some Jvm.ClassFile.FieldType.int), 2, 8),
  (⟨"RentBoard$Facts", "add", "(II)I"⟩, prog_2_method_2_code, 3, (some Jvm.ClassFile.FieldType.int), 2, 0),
  (⟨"RentBoard", "forget", "()I"⟩, prog_1_method_43_code, 1, (some Jvm.ClassFile.FieldType.int), 0, 8),
  (⟨"RentBoard$Facts", "forgetAll", "()I"⟩, prog_2_method_3_code, 2, (some Jvm.ClassFile.FieldType.int), 0, 0),
  (⟨"RentBoard", "fits", "()I"⟩, prog_1_method_44_code, 2, (some Jvm.ClassFile.FieldType.int), 0, 8),
  (⟨"RentBoard", "fitting", "()I"⟩, prog_1_method_45_code, 3, (some Jvm.ClassFile.FieldType.int), 0, 8),
  (⟨"RentBoard", "whichAre", "(II)I"⟩, prog_1_method_46_code, 5, (some Jvm.ClassFile.FieldType.int), 2, 8),
  (⟨"RentBoard", "isSo", "(III)Z"⟩, prog_1_method_47_code, 4, (some Jvm.ClassFile.FieldType.boolean), 3, 8),
  (⟨"RentBoard", "asks", "()I"⟩, prog_1_method_48_code, 9, (some Jvm.ClassFile.FieldType.int), 0, 8),
  (⟨"RentBoard", "saw", "(II)I"⟩, prog_1_method_49_code, 3, (some Jvm.ClassFile.FieldType.int), 2, 8),
  (⟨"RentBoard", "denies", "()I"⟩, prog_1_method_50_code, 1, (some Jvm.ClassFile.FieldType.int), 0, 8),
  (⟨"RentBoard", "laws", "()I"⟩, prog_1_method_51_code, 3, (some Jvm.ClassFile.FieldType.int), 0, 8),
  (⟨"RentBoard", "isLaw", "(I)Z"⟩, prog_1_method_53_code, 3, (some Jvm.ClassFile.FieldType.boolean), 1, 8),
  (⟨"RentBoard", "lawAt", "(II)I"⟩, prog_1_method_52_code, 2, (some Jvm.ClassFile.FieldType.int), 2, 99),
  (⟨"RentBoard", "sees", "()I"⟩, prog_1_method_54_code, 5, (some Jvm.ClassFile.FieldType.int), 0, 8),
  (⟨"RentBoard", "mostLeft", "(I)I"⟩, prog_1_method_55_code, 6, (some Jvm.ClassFile.FieldType.int), 1, 8),
  (⟨"RentBoard", "odds", "(III)I"⟩, prog_1_method_56_code, 13, (some Jvm.ClassFile.FieldType.int), 3, 8),
  (⟨"RentBoard$State", "standingOf", "(I)I"⟩, prog_7_method_10_code, 2, (some Jvm.ClassFile.FieldType.int), 1, 5),
  (⟨"RentBoard", "power", "(JI)J"⟩, prog_1_method_57_code, 6, (some Jvm.ClassFile.FieldType.long), 2, 99),
  (⟨"RentBoard", "commonOf", "(JJ)J"⟩, prog_1_method_58_code, 11, (some Jvm.ClassFile.FieldType.long), 2, 99),
  (⟨"RentBoard", "knights", "(II)I"⟩, prog_1_method_59_code, 5, (some Jvm.ClassFile.FieldType.int), 2, 8),
  (⟨"RentBoard", "winningLeap", "(II)I"⟩, prog_1_method_60_code, 7, (some Jvm.ClassFile.FieldType.int), 2, 8),
  (⟨"RentBoard", "rests", "(I)I"⟩, prog_1_method_61_code, 5, (some Jvm.ClassFile.FieldType.int), 1, 8),
  (⟨"RentBoard", "isContent", "(III)Z"⟩, prog_1_method_62_code, 5, (some Jvm.ClassFile.FieldType.boolean), 3, 99),
  (⟨"RentBoard", "income", "(III)I"⟩, prog_1_method_63_code, 4, (some Jvm.ClassFile.FieldType.int), 3, 99),
  (⟨"RentBoard", "law", "()I"⟩, prog_1_method_64_code, 6, (some Jvm.ClassFile.FieldType.int), 0, 8),
  (⟨"RentBoard", "years", "(II)I"⟩, prog_1_method_65_code, 7, (some Jvm.ClassFile.FieldType.int), 2, 8),
  (⟨"RentBoard", "nextDraw", "(I)I"⟩, prog_1_method_66_code, 1, (some Jvm.ClassFile.FieldType.int), 1, 99),
  (⟨"RentBoard", "lot", "(II)I"⟩, prog_1_method_67_code, 2, (some Jvm.ClassFile.FieldType.int), 2, 99),
  (⟨"RentBoard", "keep", "(I)Z"⟩, prog_1_method_68_code, 2, (some Jvm.ClassFile.FieldType.boolean), 1, 8),
  (⟨"RentBoard", "again", "(I)Z"⟩, prog_1_method_69_code, 2, (some Jvm.ClassFile.FieldType.boolean), 1, 8),
  (⟨"RentBoard", "count", "(I)I"⟩, prog_1_method_70_code, 2, (some Jvm.ClassFile.FieldType.int), 1, 8),
  (⟨"RentBoard", "piece", "(II)I"⟩, prog_1_method_8_code, 3, (some Jvm.ClassFile.FieldType.int), 2, 8),
  (⟨"RentBoard", "square", "(I)I"⟩, prog_1_method_9_code, 2, (some Jvm.ClassFile.FieldType.int), 1, 8),
  (⟨"RentBoard", "rent", "(II)I"⟩, prog_1_method_10_code, 3, (some Jvm.ClassFile.FieldType.int), 2, 8),
  (⟨"RentBoard", "row", "(I)J"⟩, prog_1_method_71_code, 2, (some Jvm.ClassFile.FieldType.long), 1, 8),
  (⟨"RentBoardModel", "thrown", "()I"⟩, prog_11_method_2_code, 1, (some Jvm.ClassFile.FieldType.int), 0, 9)]
def rb_mt4 : List rb_ME := [
  (⟨"RentBoardModel", "sign", "(I)I"⟩, prog_11_method_11_code, 3, (some Jvm.ClassFile.FieldType.int), 1, 9),
  (⟨"RentBoardModel", "end", "(I)Z"⟩, prog_11_method_12_code, 2, (some Jvm.ClassFile.FieldType.boolean), 1, 9),
  (⟨"RentBoardModel", "in", "(III)Z"⟩, prog_11_method_3_code, 3, (some Jvm.ClassFile.FieldType.boolean), 3, 99),
  (⟨"RentBoardModel", "pieces", "()I"⟩, prog_11_method_26_code, 4, (some Jvm.ClassFile.FieldType.int), 0, 9),
  (⟨"RentBoardModel", "beginText", "(I)V"⟩, prog_11_method_14_code, 2, none, 1, 9),
  (⟨"RentBoardModel", "begin", "([BII)V"⟩, prog_11_method_13_code, 4, none, 3, 9),
  (⟨"RentBoardModel", "fine", "()Z"⟩, prog_11_method_16_code, 1, (some Jvm.ClassFile.FieldType.boolean), 0, 9),
  (⟨"RentBoardModel", "fault", "(I)V"⟩, prog_11_method_17_code, 2, none, 1, 9),
  (⟨"RentBoardModel", "readPiece", "(I)V"⟩, prog_11_method_25_code, 8, none, 1, 9),
  (⟨"RentBoardModel", "here", "()I"⟩, prog_11_method_15_code, 1, (some Jvm.ClassFile.FieldType.int), 0, 9),
  (⟨"RentBoardModel", "kindOf", "(I)I"⟩, prog_11_method_24_code, 1, (some Jvm.ClassFile.FieldType.int), 1, 99),
  (⟨"RentBoardModel", "squareOf", "()I"⟩, prog_11_method_23_code, 2, (some Jvm.ClassFile.FieldType.int), 0, 9),
  (⟨"RentBoardModel", "oneOf", "(CI)I"⟩, prog_11_method_20_code, 3, (some Jvm.ClassFile.FieldType.int), 2, 9),
  (⟨"RentBoardModel", "on", "([II)I"⟩, prog_11_method_10_code, 4, (some Jvm.ClassFile.FieldType.int), 2, 9),
  (⟨"RentBoardModel", "passes", "(C)Z"⟩, prog_11_method_18_code, 2, (some Jvm.ClassFile.FieldType.boolean), 1, 9),
  (⟨"RentBoardModel", "wasRight", "()Z"⟩, prog_11_method_22_code, 1, (some Jvm.ClassFile.FieldType.boolean), 0, 9),
  (⟨"RentBoardModel", "rule", "()I"⟩, prog_11_method_33_code, 3, (some Jvm.ClassFile.FieldType.int), 0, 9),
  (⟨"RentBoardModel", "readRule", "()Z"⟩, prog_11_method_32_code, 1, (some Jvm.ClassFile.FieldType.boolean), 0, 9),
  (⟨"RentBoardModel", "held", "(I)I"⟩, prog_11_method_27_code, 3, (some Jvm.ClassFile.FieldType.int), 1, 9),
  (⟨"RentBoardModel", "sum", "(I)I"⟩, prog_11_method_28_code, 5, (some Jvm.ClassFile.FieldType.int), 1, 9),
  (⟨"RentBoardModel", "product", "(I)I"⟩, prog_11_method_29_code, 5, (some Jvm.ClassFile.FieldType.int), 1, 9),
  (⟨"RentBoardModel", "thing", "(I)I"⟩, prog_11_method_31_code, 4, (some Jvm.ClassFile.FieldType.int), 1, 9),
  (⟨"RentBoardModel", "need", "(C)V"⟩, prog_11_method_19_code, 2, none, 1, 9),
  (⟨"RentBoardModel", "number", "(I)I"⟩, prog_11_method_21_code, 4, (some Jvm.ClassFile.FieldType.int), 1, 9),
  (⟨"RentBoardModel", "letterOf", "(I)I"⟩, prog_11_method_30_code, 1, (some Jvm.ClassFile.FieldType.int), 1, 99),
  (⟨"RentBoardModel", "piece", "(II)I"⟩, prog_11_method_37_code, 3, (some Jvm.ClassFile.FieldType.int), 2, 9),
  (⟨"RentBoardModel", "isPiece", "(I)Z"⟩, prog_11_method_7_code, 2, (some Jvm.ClassFile.FieldType.boolean), 1, 9),
  (⟨"RentBoardModel", "lost", "()I"⟩, prog_11_method_5_code, 1, (some Jvm.ClassFile.FieldType.int), 0, 9),
  (⟨"RentBoardModel", "isOut", "([II)Z"⟩, prog_11_method_9_code, 2, (some Jvm.ClassFile.FieldType.boolean), 2, 99),
  (⟨"RentBoardModel", "rentOf", "([III)I"⟩, prog_11_method_36_code, 7, (some Jvm.ClassFile.FieldType.int), 3, 9),
  (⟨"RentBoardModel", "farOf", "(I)I"⟩, prog_11_method_34_code, 1, (some Jvm.ClassFile.FieldType.int), 1, 99),
  (⟨"RentBoardModel", "isBeside", "(II)Z"⟩, prog_11_method_35_code, 2, (some Jvm.ClassFile.FieldType.boolean), 2, 99),
  (⟨"RentBoardModel", "square", "(I)I"⟩, prog_11_method_38_code, 2, (some Jvm.ClassFile.FieldType.int), 1, 9),
  (⟨"RentBoardModel", "isSquare", "(I)Z"⟩, prog_11_method_8_code, 1, (some Jvm.ClassFile.FieldType.boolean), 1, 99),
  (⟨"RentBoardModel", "rent", "(II)I"⟩, prog_11_method_39_code, 3, (some Jvm.ClassFile.FieldType.int), 2, 9),
  (⟨"RentBoardModel", "sheet", "(IIII)I"⟩, prog_11_method_41_code, 8, (some Jvm.ClassFile.FieldType.int), 4, 9),
  (⟨"RentBoardModel", "purses", "([II)I"⟩, prog_11_method_40_code, 5, (some Jvm.ClassFile.FieldType.int), 2, 9),
  (⟨"RentBoardModel", "moves", "(II)I"⟩, prog_11_method_49_code, 5, (some Jvm.ClassFile.FieldType.int), 2, 9),
  (⟨"RentBoardModel", "refusesMove", "([III)I"⟩, prog_11_method_47_code, 4, (some Jvm.ClassFile.FieldType.int), 3, 9),
  (⟨"RentBoardModel", "canGoNow", "([III)Z"⟩, prog_11_method_44_code, 4, (some Jvm.ClassFile.FieldType.boolean), 3, 9)]
def rb_mt5 : List rb_ME := [
  (⟨"RentBoardModel", "canGo", "([IIII)Z"⟩, prog_11_method_43_code, 11, (some Jvm.ClassFile.FieldType.boolean), 4, 9),
  (⟨"RentBoardModel", "isOpen", "([IIII)Z"⟩, prog_11_method_42_code, 8, (some Jvm.ClassFile.FieldType.boolean), 4, 9),
  (⟨"java/lang/Integer", "signum", "(I)I"⟩, prog_17_method_56_code, 1, (some Jvm.ClassFile.FieldType.int), 1, 99),
  (⟨"RentBoardModel", "remember", "([I)V"⟩, prog_11_method_46_code, 3, none, 1, 9),
  (⟨"RentBoardModel", "lay", "([I[II)V"⟩, prog_11_method_45_code, 4, none, 3, 99),
  (⟨"RentBoardModel", "goMove", "([III)I"⟩, prog_11_method_48_code, 6, (some Jvm.ClassFile.FieldType.int), 3, 9),
  (⟨"RentBoardModel", "tell", "(J)V"⟩, prog_11_method_6_code, 3, none, 1, 9),
  (⟨"RentBoardModel", "quarters", "(I)I"⟩, prog_11_method_52_code, 3, (some Jvm.ClassFile.FieldType.int), 1, 9),
  (⟨"RentBoardModel", "goQuarters", "([II)I"⟩, prog_11_method_51_code, 5, (some Jvm.ClassFile.FieldType.int), 2, 9),
  (⟨"RentBoardModel", "goQuarter", "([I)I"⟩, prog_11_method_50_code, 4, (some Jvm.ClassFile.FieldType.int), 1, 9),
  (⟨"RentBoardModel", "passes", "()I"⟩, prog_11_method_53_code, 1, (some Jvm.ClassFile.FieldType.int), 0, 9),
  (⟨"RentBoardModel", "gives", "(III)I"⟩, prog_11_method_56_code, 5, (some Jvm.ClassFile.FieldType.int), 3, 9),
  (⟨"RentBoardModel", "refusesGift", "(III)I"⟩, prog_11_method_54_code, 4, (some Jvm.ClassFile.FieldType.int), 3, 9),
  (⟨"RentBoardModel", "goGift", "(III)V"⟩, prog_11_method_55_code, 4, none, 3, 9),
  (⟨"RentBoardModel", "wages", "(II)I"⟩, prog_11_method_59_code, 3, (some Jvm.ClassFile.FieldType.int), 2, 9),
  (⟨"RentBoardModel", "isWage", "(II)Z"⟩, prog_11_method_57_code, 2, (some Jvm.ClassFile.FieldType.boolean), 2, 99),
  (⟨"RentBoardModel", "goWages", "(II)I"⟩, prog_11_method_58_code, 5, (some Jvm.ClassFile.FieldType.int), 2, 9),
  (⟨"RentBoardModel", "game", "()I"⟩, prog_11_method_61_code, 3, (some Jvm.ClassFile.FieldType.int), 0, 9),
  (⟨"RentBoardModel", "readAct", "(I)V"⟩, prog_11_method_62_code, 4, none, 1, 9),
  (⟨"RentBoardModel", "act", "(I)Z"⟩, prog_11_method_63_code, 4, (some Jvm.ClassFile.FieldType.boolean), 1, 9),
  (⟨"RentBoardModel", "inMany", "([I)I"⟩, prog_11_method_60_code, 4, (some Jvm.ClassFile.FieldType.int), 1, 9),
  (⟨"RentBoardModel", "undo", "()I"⟩, prog_11_method_64_code, 2, (some Jvm.ClassFile.FieldType.int), 0, 9),
  (⟨"RentBoardModel", "goes", "(I)I"⟩, prog_11_method_66_code, 5, (some Jvm.ClassFile.FieldType.int), 1, 9),
  (⟨"RentBoardModel", "goesOf", "([II)I"⟩, prog_11_method_65_code, 5, (some Jvm.ClassFile.FieldType.int), 2, 9),
  (⟨"RentBoardModel", "has", "(II)Z"⟩, prog_11_method_4_code, 2, (some Jvm.ClassFile.FieldType.boolean), 2, 99),
  (⟨"RentBoardModel", "threats", "(I)I"⟩, prog_11_method_67_code, 4, (some Jvm.ClassFile.FieldType.int), 1, 9),
  (⟨"RentBoardModel", "hops", "(II)I"⟩, prog_11_method_69_code, 7, (some Jvm.ClassFile.FieldType.int), 2, 9),
  (⟨"RentBoardModel", "isFree", "(II)Z"⟩, prog_11_method_68_code, 3, (some Jvm.ClassFile.FieldType.boolean), 2, 9),
  (⟨"RentBoardModel", "ways", "(III)I"⟩, prog_11_method_70_code, 7, (some Jvm.ClassFile.FieldType.int), 3, 9),
  (⟨"RentBoardModel", "owes", "(I)I"⟩, prog_11_method_71_code, 6, (some Jvm.ClassFile.FieldType.int), 1, 9),
  (⟨"RentBoardModel", "later", "(II)I"⟩, prog_11_method_73_code, 3, (some Jvm.ClassFile.FieldType.int), 2, 9),
  (⟨"RentBoardModel", "inBits", "([I)I"⟩, prog_11_method_72_code, 4, (some Jvm.ClassFile.FieldType.int), 1, 9),
  (⟨"RentBoardModel", "when", "(I)I"⟩, prog_11_method_74_code, 4, (some Jvm.ClassFile.FieldType.int), 1, 9),
  (⟨"RentBoardModel", "needs", "(II)I"⟩, prog_11_method_75_code, 4, (some Jvm.ClassFile.FieldType.int), 2, 9),
  (⟨"RentBoardModel", "cheapest", "(I)I"⟩, prog_11_method_76_code, 7, (some Jvm.ClassFile.FieldType.int), 1, 9),
  (⟨"RentBoardModel", "wanders", "(II)I"⟩, prog_11_method_79_code, 7, (some Jvm.ClassFile.FieldType.int), 2, 9),
  (⟨"RentBoardModel", "rentBehind", "(III)I"⟩, prog_11_method_78_code, 4, (some Jvm.ClassFile.FieldType.int), 3, 9),
  (⟨"RentBoardModel", "canWander", "(III)Z"⟩, prog_11_method_77_code, 4, (some Jvm.ClassFile.FieldType.boolean), 3, 9),
  (⟨"RentBoardModel", "stays", "(II)I"⟩, prog_11_method_80_code, 7, (some Jvm.ClassFile.FieldType.int), 2, 9),
  (⟨"RentBoardModel", "best", "()I"⟩, prog_11_method_84_code, 2, (some Jvm.ClassFile.FieldType.int), 0, 9)]
def rb_mt6 : List rb_ME := [
  (⟨"RentBoardModel", "lookFrom", "(I)I"⟩, prog_11_method_83_code, 3, (some Jvm.ClassFile.FieldType.int), 1, 9),
  (⟨"RentBoardModel", "look", "(II)I"⟩, prog_11_method_82_code, 11, (some Jvm.ClassFile.FieldType.int), 2, 9),
  (⟨"RentBoardModel", "worthBehind", "([I)I"⟩, prog_11_method_81_code, 2, (some Jvm.ClassFile.FieldType.int), 1, 9),
  (⟨"RentBoardModel", "looks", "(I)I"⟩, prog_11_method_85_code, 4, (some Jvm.ClassFile.FieldType.int), 1, 9),
  (⟨"RentBoardModel", "choices", "()I"⟩, prog_11_method_86_code, 7, (some Jvm.ClassFile.FieldType.int), 0, 9),
  (⟨"RentBoardModel", "heard", "(II)I"⟩, prog_11_method_88_code, 3, (some Jvm.ClassFile.FieldType.int), 2, 9),
  (⟨"RentBoardModel", "highOf", "(I)I"⟩, prog_11_method_87_code, 1, (some Jvm.ClassFile.FieldType.int), 1, 99),
  (⟨"RentBoardModel", "forget", "()I"⟩, prog_11_method_89_code, 2, (some Jvm.ClassFile.FieldType.int), 0, 9),
  (⟨"RentBoardModel", "fits", "()I"⟩, prog_11_method_92_code, 2, (some Jvm.ClassFile.FieldType.int), 0, 9),
  (⟨"RentBoardModel", "fitting", "()I"⟩, prog_11_method_91_code, 5, (some Jvm.ClassFile.FieldType.int), 0, 9),
  (⟨"RentBoardModel", "isSo", "(III)Z"⟩, prog_11_method_90_code, 4, (some Jvm.ClassFile.FieldType.boolean), 3, 9),
  (⟨"RentBoardModel", "asks", "()I"⟩, prog_11_method_93_code, 7, (some Jvm.ClassFile.FieldType.int), 0, 9),
  (⟨"RentBoardModel", "saw", "(II)I"⟩, prog_11_method_94_code, 3, (some Jvm.ClassFile.FieldType.int), 2, 9),
  (⟨"RentBoardModel", "denies", "()I"⟩, prog_11_method_95_code, 2, (some Jvm.ClassFile.FieldType.int), 0, 9),
  (⟨"RentBoardModel", "laws", "()I"⟩, prog_11_method_98_code, 3, (some Jvm.ClassFile.FieldType.int), 0, 9),
  (⟨"RentBoardModel", "isLaw", "(I)Z"⟩, prog_11_method_97_code, 3, (some Jvm.ClassFile.FieldType.boolean), 1, 9),
  (⟨"RentBoardModel", "rentBy", "(II)I"⟩, prog_11_method_96_code, 2, (some Jvm.ClassFile.FieldType.int), 2, 99),
  (⟨"RentBoardModel", "sees", "()I"⟩, prog_11_method_99_code, 7, (some Jvm.ClassFile.FieldType.int), 0, 9),
  (⟨"RentBoardModel", "odds", "(III)I"⟩, prog_11_method_101_code, 13, (some Jvm.ClassFile.FieldType.int), 3, 9),
  (⟨"RentBoardModel", "common", "(JJ)J"⟩, prog_11_method_100_code, 4, (some Jvm.ClassFile.FieldType.long), 2, 99),
  (⟨"RentBoardModel", "knights", "(II)I"⟩, prog_11_method_104_code, 5, (some Jvm.ClassFile.FieldType.int), 2, 9),
  (⟨"RentBoardModel", "knightTo", "(II)I"⟩, prog_11_method_103_code, 5, (some Jvm.ClassFile.FieldType.int), 2, 9),
  (⟨"RentBoardModel", "isHop", "(IIII)Z"⟩, prog_11_method_102_code, 5, (some Jvm.ClassFile.FieldType.boolean), 4, 9),
  (⟨"RentBoardModel", "rests", "(I)I"⟩, prog_11_method_107_code, 5, (some Jvm.ClassFile.FieldType.int), 1, 9),
  (⟨"RentBoardModel", "isBest", "(III)Z"⟩, prog_11_method_106_code, 4, (some Jvm.ClassFile.FieldType.boolean), 3, 99),
  (⟨"RentBoardModel", "gets", "(III)I"⟩, prog_11_method_105_code, 4, (some Jvm.ClassFile.FieldType.int), 3, 99),
  (⟨"RentBoardModel", "law", "()I"⟩, prog_11_method_109_code, 7, (some Jvm.ClassFile.FieldType.int), 0, 9),
  (⟨"RentBoardModel", "behind8", "()I"⟩, prog_11_method_108_code, 1, (some Jvm.ClassFile.FieldType.int), 0, 9),
  (⟨"RentBoardModel", "years", "(II)I"⟩, prog_11_method_111_code, 8, (some Jvm.ClassFile.FieldType.int), 2, 9),
  (⟨"RentBoardModel", "draw", "(I)I"⟩, prog_11_method_110_code, 2, (some Jvm.ClassFile.FieldType.int), 1, 9),
  (⟨"RentBoardModel", "keep", "(I)Z"⟩, prog_11_method_112_code, 2, (some Jvm.ClassFile.FieldType.boolean), 1, 9),
  (⟨"RentBoardModel", "again", "(I)Z"⟩, prog_11_method_113_code, 3, (some Jvm.ClassFile.FieldType.boolean), 1, 9),
  (⟨"RentBoardModel", "count", "(I)I"⟩, prog_11_method_114_code, 2, (some Jvm.ClassFile.FieldType.int), 1, 9),
  (⟨"RentBoardModel", "row", "(I)J"⟩, prog_11_method_115_code, 2, (some Jvm.ClassFile.FieldType.long), 1, 9)]
def rb_m0 : rb_ME := (⟨"", "", ""⟩, ⟨#[]⟩, 0, none, 0, 0)
/-- the m-th method -/
def rb_mt (m : Nat) : rb_ME := if m < 40 then rb_mt0.getD (m - 0) rb_m0 else if m < 80 then rb_mt1.getD (m - 40) rb_m0 else if m < 120 then rb_mt2.getD (m - 80) rb_m0 else if m < 160 then rb_mt3.getD (m - 120) rb_m0 else if m < 200 then rb_mt4.getD (m - 160) rb_m0 else if m < 240 then rb_mt5.getD (m - 200) rb_m0 else if m < 280 then rb_mt6.getD (m - 240) rb_m0 else rb_m0
def rb_nM : Nat := 274
/-- the classes by number: the ten, then those of the JDK, then the law -/
def rb_onL : List String := ["RentBoard$Facts", "RentBoard$Lookahead", "RentBoard$Past", "RentBoard$Row", "RentBoard$Rule", "RentBoard$State", "RentBoard$Text", "RentBoard$Walk", "RentBoard", "RentBoardModel", "java/lang/String", "java/lang/StringLatin1", "java/lang/Integer", "java/util/Arrays", "RentBoardLaw", "jdk/internal/util/Preconditions"]
def rb_on (o : Nat) : String := rb_onL.getD o ""
/-- fields by entries: entry, class, place -/
def rb_flL : List (List (Nat × Nat × Nat)) := [
  [(18, 0, 0), (9, 0, 1), (15, 0, 2), (22, 0, 3)],
  [(25, 5, 5), (48, 5, 6), (12, 1, 0), (18, 1, 1), (55, 1, 2), (21, 1, 3)],
  [(11, 2, 0), (18, 2, 1), (22, 2, 2)],
  [(9, 3, 0), (15, 3, 1)],
  [(59, 6, 1), (9, 4, 0), (15, 4, 1), (18, 4, 2), (21, 4, 3), (33, 4, 4), (42, 4, 5), (46, 4, 6), (49, 4, 7), (52, 4, 8), (55, 4, 9)],
  [(9, 5, 0), (15, 5, 1), (18, 5, 2), (21, 5, 3), (24, 5, 4), (33, 5, 5), (37, 5, 6), (40, 5, 7), (43, 5, 8)],
  [(9, 6, 0), (15, 6, 1)],
  [(52, 5, 0), (32, 5, 1), (41, 5, 2), (96, 5, 7), (9, 7, 0), (15, 7, 1), (18, 7, 2), (21, 7, 3), (26, 7, 4), (29, 7, 5), (44, 7, 6), (49, 7, 7)],
  [(94, 6, 1), (441, 3, 0), (313, 3, 1), (176, 5, 0), (180, 5, 1), (183, 5, 2), (186, 5, 3), (109, 5, 5), (255, 5, 6), (205, 5, 7), (435, 5, 8), (297, 2, 2), (371, 0, 1), (374, 0, 2), (370, 0, 3), (351, 1, 2), (345, 1, 3), (12, 8, 0), (19, 8, 1), (26, 8, 2), (30, 8, 3), (36, 8, 4), (40, 8, 5), (43, 8, 6), (49, 8, 7), (53, 8, 8), (57, 8, 9), (66, 8, 10), (70, 8, 11), (76, 8, 12), (83, 8, 13), (87, 8, 14)],
  [(9, 9, 0), (13, 9, 1), (109, 9, 2), (16, 9, 3), (116, 9, 4), (20, 9, 5), (106, 9, 6), (102, 9, 7), (119, 9, 8), (122, 9, 9), (125, 9, 10), (128, 9, 11), (131, 9, 12), (24, 9, 13), (27, 9, 14), (30, 9, 15), (213, 9, 16), (206, 9, 17), (33, 9, 18), (36, 9, 19), (178, 9, 20), (39, 9, 21), (42, 9, 22), (45, 9, 23), (290, 9, 24), (48, 9, 25), (51, 9, 26), (54, 9, 27), (57, 9, 28), (62, 9, 29), (65, 9, 30), (68, 9, 31), (71, 9, 32), (74, 9, 33), (77, 9, 34), (357, 9, 35), (80, 9, 36), (83, 9, 37), (366, 9, 38), (86, 9, 39), (89, 9, 40), (397, 9, 41), (181, 9, 42), (93, 9, 43), (96, 9, 44), (99, 9, 45)],
  [],
  [],
  [],
  [],
  [],
  []]
def rb_glL : List (List (Nat × Nat)) := [
  [],
  [],
  [],
  [],
  [],
  [],
  [],
  [],
  [(467, 1), (470, 2), (458, 3), (461, 4), (449, 0), (360, 7), (417, 5), (420, 6)],
  [],
  [],
  [],
  [],
  [],
  [],
  []]
/-- methods by entries: entry, nest mate or not, 10 + its number (below 10: those that the machine knows) -/
def rb_mlL : List (List (Nat × Nat × Nat)) := [
  [],
  [(28, 0, 60), (32, 0, 61), (36, 1, 68), (40, 0, 17), (44, 0, 71), (51, 0, 129), (58, 0, 128)],
  [(25, 0, 17)],
  [],
  [(27, 0, 10), (62, 0, 2), (68, 0, 20), (72, 0, 41), (80, 1, 32), (83, 0, 42), (93, 0, 43), (87, 0, 44), (96, 0, 45), (99, 0, 21), (90, 0, 46), (103, 0, 47), (76, 0, 48), (107, 0, 49), (110, 0, 1), (36, 0, 0), (113, 1, 85), (116, 0, 86), (122, 0, 87), (126, 0, 88), (119, 1, 55)],
  [(27, 0, 0), (46, 0, 53), (50, 0, 52), (63, 0, 62), (67, 1, 63), (70, 1, 64), (74, 0, 34), (77, 0, 2), (82, 0, 72), (53, 0, 78), (57, 0, 79), (101, 0, 81), (97, 0, 82), (86, 1, 65), (89, 0, 83), (92, 0, 84)],
  [(19, 0, 20), (23, 0, 36)],
  [(37, 0, 62), (55, 1, 64), (59, 1, 68), (63, 0, 108), (67, 1, 59), (71, 1, 110), (74, 0, 75), (80, 0, 113), (86, 0, 114), (90, 0, 0), (99, 0, 82), (103, 0, 123)],
  [(90, 0, 13), (98, 0, 15), (101, 0, 17), (105, 0, 18), (113, 0, 2), (121, 0, 10), (126, 0, 19), (132, 0, 20), (136, 0, 21), (149, 0, 27), (152, 0, 31), (445, 0, 32), (139, 0, 33), (156, 0, 34), (142, 0, 35), (145, 0, 37), (110, 0, 38), (159, 0, 40), (163, 0, 50), (200, 0, 52), (212, 0, 54), (215, 0, 55), (218, 0, 56), (221, 0, 58), (166, 0, 53), (195, 0, 59), (230, 0, 60), (233, 0, 61), (473, 0, 65), (452, 0, 63), (476, 0, 66), (387, 0, 1), (464, 0, 67), (236, 0, 68), (480, 0, 69), (483, 0, 70), (240, 0, 71), (224, 0, 73), (226, 0, 74), (358, 0, 75), (243, 0, 77), (246, 0, 80), (249, 0, 89), (252, 0, 91), (258, 0, 93), (262, 0, 95), (265, 0, 96), (268, 0, 98), (274, 0, 99), (271, 0, 100), (290, 0, 36), (293, 0, 102), (298, 0, 62), (301, 0, 79), (306, 0, 106), (310, 0, 107), (314, 0, 109), (318, 0, 112), (189, 0, 116), (321, 0, 78), (324, 0, 81), (328, 0, 83), (208, 0, 82), (331, 0, 122), (335, 0, 124), (338, 0, 126), (341, 0, 128), (348, 0, 129), (354, 0, 131), (363, 0, 134), (365, 0, 136), (367, 0, 138), (377, 0, 139), (380, 0, 140), (384, 0, 85), (390, 0, 145), (393, 0, 146), (396, 0, 148), (399, 0, 150), (402, 0, 151), (408, 0, 152), (412, 0, 4), (414, 0, 154), (423, 0, 156), (426, 0, 157), (429, 0, 160), (432, 0, 161)],
  [(112, 0, 172), (169, 0, 174), (134, 0, 175), (138, 0, 176), (150, 0, 177), (172, 0, 178), (142, 0, 179), (158, 0, 180), (162, 0, 181), (154, 0, 182), (165, 0, 183), (146, 0, 184), (175, 0, 185), (210, 0, 187), (193, 0, 188), (184, 0, 189), (187, 0, 190), (190, 0, 191), (196, 0, 192), (200, 0, 193), (203, 0, 194), (239, 0, 196), (243, 0, 197), (228, 0, 198), (246, 0, 199), (225, 0, 200), (216, 0, 3), (221, 0, 1), (232, 0, 201), (236, 0, 2), (250, 0, 203), (253, 0, 206), (276, 0, 208), (272, 0, 209), (265, 0, 210), (261, 0, 211), (256, 0, 212), (279, 0, 213), (268, 0, 214), (283, 0, 215), (286, 0, 216), (300, 0, 218), (293, 0, 219), (297, 0, 79), (303, 0, 222), (307, 0, 223), (311, 0, 225), (314, 0, 226), (317, 0, 228), (320, 0, 229), (323, 0, 230), (326, 0, 233), (329, 0, 234), (333, 0, 237), (336, 0, 241), (339, 0, 246), (342, 0, 247), (351, 0, 250), (345, 0, 251), (348, 0, 252), (354, 0, 256), (363, 0, 259), (360, 0, 260), (372, 0, 265), (369, 0, 266), (375, 0, 269), (385, 0, 271), (381, 0, 272), (391, 0, 274), (388, 0, 275), (394, 0, 277), (401, 0, 279)],
  [(335, 0, 11), (633, 0, 22), (492, 0, 23), (505, 0, 10), (637, 0, 24), (495, 0, 28), (1059, 0, 30)],
  [(88, 0, 25), (92, 0, 1), (38, 0, 2), (95, 0, 26), (9, 0, 29)],
  [],
  [],
  [(30, 0, 12), (34, 0, 14), (39, 0, 16), (44, 0, 39), (64, 0, 51), (69, 0, 57), (73, 0, 76), (77, 0, 90), (81, 0, 92), (86, 0, 94), (90, 0, 97), (94, 0, 101), (98, 0, 103), (102, 0, 104), (106, 0, 105), (110, 0, 111), (114, 0, 115), (118, 0, 117), (122, 0, 118), (126, 0, 119), (130, 0, 120), (134, 0, 121), (138, 0, 125), (142, 0, 127), (146, 0, 130), (150, 0, 132), (154, 0, 133), (158, 0, 135), (162, 0, 137), (166, 0, 141), (170, 0, 142), (174, 0, 143), (178, 0, 144), (182, 0, 147), (186, 0, 149), (190, 0, 153), (194, 0, 155), (198, 0, 158), (202, 0, 159), (206, 0, 162), (210, 0, 163), (214, 0, 164), (7, 0, 165), (15, 0, 166), (19, 0, 167), (22, 0, 168), (54, 0, 169), (33, 0, 170), (38, 0, 171), (43, 0, 173), (47, 0, 186), (53, 0, 195), (60, 0, 202), (63, 0, 204), (68, 0, 205), (72, 0, 207), (76, 0, 217), (80, 0, 220), (85, 0, 221), (89, 0, 224), (93, 0, 227), (97, 0, 231), (101, 0, 232), (105, 0, 235), (109, 0, 236), (113, 0, 238), (117, 0, 239), (121, 0, 240), (125, 0, 242), (129, 0, 243), (133, 0, 244), (137, 0, 245), (141, 0, 248), (145, 0, 249), (149, 0, 253), (153, 0, 254), (157, 0, 255), (161, 0, 257), (165, 0, 258), (169, 0, 261), (173, 0, 262), (177, 0, 263), (181, 0, 264), (185, 0, 267), (189, 0, 268), (193, 0, 270), (197, 0, 273), (201, 0, 276), (205, 0, 278), (209, 0, 280), (213, 0, 281), (217, 0, 282), (220, 0, 283)],
  []]
/-- constants by entries -/
def rb_csL : List (List (Nat × Value)) := [
  [],
  [],
  [],
  [],
  [(25, .retAddr 100)],
  [],
  [],
  [(48, .int (33554431))],
  [(455, .int (-17318417)), (456, .int (-1082402)), (457, .int (33554431)), (406, .long 10), (438, .int (1103515245)), (119, .retAddr 101), (130, .retAddr 102), (278, .retAddr 103), (280, .retAddr 104), (282, .retAddr 105), (284, .retAddr 106), (286, .retAddr 107), (288, .retAddr 108), (171, .retAddr 109), (193, .retAddr 110), (198, .retAddr 111), (203, .retAddr 112), (439, .retAddr 113)],
  [(332, .int (1000000)), (379, .long 10), (400, .int (1103515245))],
  [],
  [],
  [(265, .int (1431655765)), (266, .int (858993459)), (267, .int (252645135))],
  [],
  [],
  []]
/-! the written texts: whose, which entry, the text, its bytes -/
def rb_ssL : List (String × Nat × String) := [("RentBoard$Rule", 25, "xydkqcn"), ("RentBoard", 119, "a100"), ("RentBoard", 130, "KQRBNPkqrbnp"), ("RentBoard", 278, "mn/gw"), ("RentBoard", 280, "0a1"), ("RentBoard", 282, "0"), ("RentBoard", 284, "0000"), ("RentBoard", 286, "00"), ("RentBoard", 288, ""), ("RentBoard", 171, "no such piece"), ("RentBoard", 193, "nothing such of a piece"), ("RentBoard", 198, "no such square"), ("RentBoard", 203, "no such piece on the board, or no such square"), ("RentBoard", 439, "no such number")]
def rb_ss (i : Nat) : String × Nat × String := rb_ssL.getD i ("", 0, "")
def rb_nS : Nat := 14
def rb_sbL : List (List Int32) := [[120, 121, 100, 107, 113, 99, 110], [97, 49, 48, 48], [75, 81, 82, 66, 78, 80, 107, 113, 114, 98, 110, 112], [109, 110, 47, 103, 119], [48, 97, 49], [48], [48, 48, 48, 48], [48, 48], [], [110, 111, 32, 115, 117, 99, 104, 32, 112, 105, 101, 99, 101], [110, 111, 116, 104, 105, 110, 103, 32, 115, 117, 99, 104, 32, 111, 102, 32, 97, 32, 112, 105, 101, 99, 101], [110, 111, 32, 115, 117, 99, 104, 32, 115, 113, 117, 97, 114, 101], [110, 111, 32, 115, 117, 99, 104, 32, 112, 105, 101, 99, 101, 32, 111, 110, 32, 116, 104, 101, 32, 98, 111, 97, 114, 100, 44, 32, 111, 114, 32, 110, 111, 32, 115, 117, 99, 104, 32, 115, 113, 117, 97, 114, 101], [110, 111, 32, 115, 117, 99, 104, 32, 110, 117, 109, 98, 101, 114]]
def rb_slL : List Nat := [7, 4, 12, 5, 3, 1, 4, 2, 0, 13, 23, 14, 45, 14]
def rb_ftL : List (List FieldType) := [
  [.int, (.array .int), (.array .int), .int],
  [(.object "RentBoard$State"), (.object "RentBoard$State"), .int, .int],
  [(.array (.object "RentBoard$State")), .int, .int],
  [(.array .long), .int],
  [(.array .int), (.array .int), (.array .int), (.array .boolean), (.array .int), .int, .int, .int, .int, .boolean],
  [(.array .int), (.array .int), (.array .int), (.array .int), (.array .int), .int, .int, .int, .int],
  [(.array .char), .int],
  [(.array .int), (.array .int), (.array .int), (.array .int), (.array (.array .int)), (.array (.array .int)), .int, .int],
  [(.object "RentBoard$Text"), (.object "RentBoard$Row"), (.object "RentBoard$Rule"), (.object "RentBoard$Rule"), (.object "RentBoard$State"), (.object "RentBoard$State"), (.object "RentBoard$State"), (.object "RentBoard$Past"), (.array (.object "RentBoard$State")), (.array .boolean), (.object "RentBoard$Facts"), (.object "RentBoard$Facts"), (.object "RentBoard$Walk"), (.object "RentBoard$Lookahead"), (.array .boolean)],
  [(.array .int), (.array .int), .int, (.array .byte), .int, (.array .long), .int, .int, (.array .byte), .int, .int, .int, .int, (.array .int), (.array .byte), (.array .byte), .int, .boolean, (.array .int), (.array .int), .int, (.array .int), (.array .int), (.array .int), .int, (.array .int), (.array .int), (.array .int), (.array .int), (.array (.array .int)), (.array (.array .int)), (.array (.array .int)), (.array .int), (.array .int), (.array .int), .int, (.array .int), (.array .int), .int, (.array .int), (.array .boolean), .int, .int, (.array .int), (.array .boolean), (.array .int)]]
def rb_ft (c k : Nat) : FieldType := (rb_ftL.getD c []).getD k .int
def rb_cq (c : Nat) : vw_C := rb_cl.getD c ("", rb_T0, 0)
