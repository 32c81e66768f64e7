/-! the static shape of all objects: rb_ty (0 .. 9: an object of that class; 10 .. 14: an array of ints, booleans, chars, bytes, longs; 15: of States; 16: of int[]), rb_len, references that never change -/
def rb_T0 : u_T := fun k => match k with
  | 0 => ("RentBoard$Facts", "most", "I", true)
  | 1 => ("RentBoard$Facts", "what", "[I", true)
  | 2 => ("RentBoard$Facts", "value", "[I", true)
  | _ => ("RentBoard$Facts", "size", "I", false)
def rb_T1 : u_T := fun k => match k with
  | 0 => ("RentBoard$Lookahead", "middle", "LRentBoard$State;", true)
  | 1 => ("RentBoard$Lookahead", "last", "LRentBoard$State;", true)
  | 2 => ("RentBoard$Lookahead", "firstMove", "I", false)
  | _ => ("RentBoard$Lookahead", "lastMove", "I", false)
def rb_T2 : u_T := fun k => match k with
  | 0 => ("RentBoard$Past", "states", "[LRentBoard$State;", true)
  | 1 => ("RentBoard$Past", "first", "I", false)
  | _ => ("RentBoard$Past", "size", "I", false)
def rb_T3 : u_T := fun k => match k with
  | 0 => ("RentBoard$Row", "numbers", "[J", true)
  | _ => ("RentBoard$Row", "size", "I", false)
def rb_T4 : u_T := fun k => match k with
  | 0 => ("RentBoard$Rule", "code", "[I", true)
  | 1 => ("RentBoard$Rule", "values", "[I", true)
  | 2 => ("RentBoard$Rule", "waiting", "[I", true)
  | 3 => ("RentBoard$Rule", "compared", "[Z", true)
  | 4 => ("RentBoard$Rule", "things", "[I", true)
  | 5 => ("RentBoard$Rule", "size", "I", false)
  | 6 => ("RentBoard$Rule", "waits", "I", false)
  | 7 => ("RentBoard$Rule", "depth", "I", false)
  | 8 => ("RentBoard$Rule", "digits", "I", false)
  | _ => ("RentBoard$Rule", "wantsThing", "Z", false)
def rb_T5 : u_T := fun k => match k with
  | 0 => ("RentBoard$State", "kind", "[I", true)
  | 1 => ("RentBoard$State", "side", "[I", true)
  | 2 => ("RentBoard$State", "place", "[I", true)
  | 3 => ("RentBoard$State", "purse", "[I", true)
  | 4 => ("RentBoard$State", "dues", "[I", true)
  | 5 => ("RentBoard$State", "size", "I", false)
  | 6 => ("RentBoard$State", "turn", "I", false)
  | 7 => ("RentBoard$State", "quarter", "I", false)
  | _ => ("RentBoard$State", "made", "I", false)
def rb_T6 : u_T := fun k => match k with
  | 0 => ("RentBoard$Text", "signs", "[C", true)
  | _ => ("RentBoard$Text", "size", "I", false)
def rb_T7 : u_T := fun k => match k with
  | 0 => ("RentBoard$Walk", "routes", "[I", true)
  | 1 => ("RentBoard$Walk", "levels", "[I", true)
  | 2 => ("RentBoard$Walk", "counts", "[I", true)
  | 3 => ("RentBoard$Walk", "nextCounts", "[I", true)
  | 4 => ("RentBoard$Walk", "rents", "[[I", true)
  | 5 => ("RentBoard$Walk", "rest", "[[I", true)
  | 6 => ("RentBoard$Walk", "start", "I", false)
  | _ => ("RentBoard$Walk", "free", "I", false)
def rb_T8 : u_T := fun k => match k with
  | 0 => ("RentBoard", "text", "LRentBoard$Text;", true)
  | 1 => ("RentBoard", "told", "LRentBoard$Row;", true)
  | 2 => ("RentBoard", "rule", "LRentBoard$Rule;", true)
  | 3 => ("RentBoard", "otherRule", "LRentBoard$Rule;", true)
  | 4 => ("RentBoard", "now", "LRentBoard$State;", true)
  | 5 => ("RentBoard", "before", "LRentBoard$State;", true)
  | 6 => ("RentBoard", "trial", "LRentBoard$State;", true)
  | 7 => ("RentBoard", "past", "LRentBoard$Past;", true)
  | 8 => ("RentBoard", "kept", "[LRentBoard$State;", true)
  | 9 => ("RentBoard", "wasKept", "[Z", true)
  | 10 => ("RentBoard", "news", "LRentBoard$Facts;", true)
  | 11 => ("RentBoard", "sights", "LRentBoard$Facts;", true)
  | 12 => ("RentBoard", "walk", "LRentBoard$Walk;", true)
  | 13 => ("RentBoard", "lookahead", "LRentBoard$Lookahead;", true)
  | _ => ("RentBoard", "lostInCorner", "[Z", true)
def rb_T9 : u_T := fun k => match k with
  | 0 => ("RentBoardModel", "now", "[I", true)
  | 1 => ("RentBoardModel", "side", "[I", true)
  | 2 => ("RentBoardModel", "pieces", "I", false)
  | 3 => ("RentBoardModel", "text", "[B", true)
  | 4 => ("RentBoardModel", "typed", "I", false)
  | 5 => ("RentBoardModel", "row", "[J", true)
  | 6 => ("RentBoardModel", "rowMany", "I", false)
  | 7 => ("RentBoardModel", "thrown", "I", false)
  | 8 => ("RentBoardModel", "read", "[B", false)
  | 9 => ("RentBoardModel", "length", "I", false)
  | 10 => ("RentBoardModel", "top", "I", false)
  | 11 => ("RentBoardModel", "at", "I", false)
  | 12 => ("RentBoardModel", "wrong", "I", false)
  | 13 => ("RentBoardModel", "told", "[I", true)
  | 14 => ("RentBoardModel", "rule", "[B", false)
  | 15 => ("RentBoardModel", "otherRule", "[B", false)
  | 16 => ("RentBoardModel", "ruleSize", "I", false)
  | 17 => ("RentBoardModel", "isAsked", "Z", false)
  | 18 => ("RentBoardModel", "asked", "[I", true)
  | 19 => ("RentBoardModel", "undos", "[I", true)
  | 20 => ("RentBoardModel", "undoMany", "I", false)
  | 21 => ("RentBoardModel", "aside", "[I", true)
  | 22 => ("RentBoardModel", "then", "[I", true)
  | 23 => ("RentBoardModel", "rents", "[I", true)
  | 24 => ("RentBoardModel", "paid", "I", false)
  | 25 => ("RentBoardModel", "acts", "[I", true)
  | 26 => ("RentBoardModel", "far", "[I", true)
  | 27 => ("RentBoardModel", "rows", "[I", true)
  | 28 => ("RentBoardModel", "rowsThen", "[I", true)
  | 29 => ("RentBoardModel", "costs", "[[I", true)
  | 30 => ("RentBoardModel", "boards", "[[I", true)
  | 31 => ("RentBoardModel", "plans", "[[I", true)
  | 32 => ("RentBoardModel", "planMany", "[I", true)
  | 33 => ("RentBoardModel", "heardOf", "[I", true)
  | 34 => ("RentBoardModel", "heardBy", "[I", true)
  | 35 => ("RentBoardModel", "heardMany", "I", false)
  | 36 => ("RentBoardModel", "sawBy", "[I", true)
  | 37 => ("RentBoardModel", "sawAs", "[I", true)
  | 38 => ("RentBoardModel", "sawMany", "I", false)
  | 39 => ("RentBoardModel", "many", "[I", true)
  | 40 => ("RentBoardModel", "wins", "[Z", true)
  | 41 => ("RentBoardModel", "drawn", "I", false)
  | 42 => ("RentBoardModel", "came", "I", false)
  | 43 => ("RentBoardModel", "kept", "[I", true)
  | 44 => ("RentBoardModel", "isKept", "[Z", true)
  | _ => ("RentBoardModel", "keptCame", "[I", true)
abbrev rb_cl : List vw_C := [("RentBoard$Facts", rb_T0, 4), ("RentBoard$Lookahead", rb_T1, 4), ("RentBoard$Past", rb_T2, 3), ("RentBoard$Row", rb_T3, 2), ("RentBoard$Rule", rb_T4, 10), ("RentBoard$State", rb_T5, 9), ("RentBoard$Text", rb_T6, 2), ("RentBoard$Walk", rb_T7, 8), ("RentBoard", rb_T8, 15), ("RentBoardModel", rb_T9, 46)]
def rb_N : Nat := 208
/-- where the States lie: one, and its five arrays, and the next -/
def rb_base : Nat := 94
def rb_tyL : List Nat := [8, 6, 12, 3, 14, 4, 10, 10, 10, 11, 10, 4, 10, 10, 10, 11, 10, 0, 10, 10, 0, 10, 10, 2, 15, 15, 11, 7, 10, 10, 10, 10, 16, 10, 10, 10, 10, 10, 10, 16, 10, 10, 10, 10, 10, 10, 10, 1, 11, 9, 10, 10, 13, 14, 10, 13, 13, 10, 10, 10, 10, 10, 10, 10, 10, 10, 16, 10, 10, 10, 10, 10, 10, 10, 16, 10, 10, 10, 10, 16, 10, 10, 10, 10, 10, 10, 10, 10, 10, 11, 10, 11, 10, 14]
def rb_lenL : List Nat := [0, 0, 80, 0, 25, 0, 40, 40, 40, 5, 7, 0, 40, 40, 40, 5, 7, 0, 12, 12, 0, 12, 12, 0, 12, 2, 2, 0, 25, 25, 25, 25, 6, 25, 25, 25, 25, 25, 25, 7, 25, 25, 25, 25, 25, 25, 25, 0, 361, 0, 27, 8, 80, 16, 32, 40, 40, 7, 324, 27, 27, 8, 320, 25, 25, 25, 7, 25, 25, 25, 25, 25, 25, 25, 4, 27, 27, 27, 27, 3, 3, 3, 3, 3, 12, 12, 10, 10, 21, 400, 54, 2, 2, 1]
def rb_ty (i : Nat) : Nat := if i < rb_base then rb_tyL.getD i 99 else if i < rb_N then (if (i - rb_base) % 6 = 0 then 5 else 10) else 99
def rb_len (i : Nat) : Nat := if i < rb_base then rb_lenL.getD i 0 else 8
/-- how many fields a class has -/
def rb_nf (c : Nat) : Nat := [4, 4, 3, 2, 10, 9, 2, 8, 15, 46].getD c 0
/-- a field: 0 an int, 1 a reference that never changes, 2 + n the n-th that does -/
def rb_fkL : List (List Nat) := [[0, 1, 1, 0], [1, 1, 0, 0], [1, 0, 0], [1, 0], [1, 1, 1, 1, 1, 0, 0, 0, 0, 0], [1, 1, 1, 1, 1, 0, 0, 0, 0], [1, 0], [1, 1, 1, 1, 1, 1, 0, 0], [1, 1, 1, 1, 1, 1, 1, 1, 1, 1, 1, 1, 1, 1, 1], [1, 1, 0, 1, 0, 1, 0, 0, 2, 0, 0, 0, 0, 1, 3, 4, 0, 0, 1, 1, 0, 1, 1, 1, 0, 1, 1, 1, 1, 1, 1, 1, 1, 1, 1, 0, 1, 1, 0, 1, 1, 0, 0, 1, 1, 1]]
def rb_fk (c k : Nat) : Nat := (rb_fkL.getD c []).getD k 9
/-- the reference in field k of object i of class c -/
def rb_sr (c i k : Nat) : Nat := match c with
  | 0 => i + k
  | 1 => [196, 202, 0, 0].getD k 0
  | 2 => [24, 0, 0].getD k 0
  | 3 => [4, 0].getD k 0
  | 4 => i + (k + 1)
  | 5 => i + (k + 1)
  | 6 => [2, 0].getD k 0
  | 7 => [28, 29, 30, 31, 32, 39, 0, 0].getD k 0
  | 8 => [1, 3, 5, 11, 94, 100, 106, 23, 25, 26, 17, 20, 27, 47, 48].getD k 0
  | _ => [50, 51, 0, 52, 0, 53, 0, 0, 0, 0, 0, 0, 0, 54, 0, 0, 0, 0, 57, 58, 0, 59, 60, 61, 0, 62, 63, 64, 65, 66, 74, 79, 83, 84, 85, 0, 86, 87, 0, 88, 89, 0, 0, 90, 91, 92].getD k 0
/-- the reference at place j of an array i of references -/
def rb_ra (i j : Nat) : Nat := if i = 24 then 112 + 6 * j else if i = 25 then 184 + 6 * j else if i = 32 then 33 + 1 * j else if i = 39 then 40 + 1 * j else if i = 66 then 67 + 1 * j else if i = 74 then 75 + 1 * j else if i = 79 then 80 + 1 * j else 0
/-- the static arrays, and what they hold -/
def rb_svL : List (List Int32) := [[2, 2, 2, 2, 2, 2, 1, 1, 1, 2, 2, 1, 0, 1, 2, 2, 1, 1, 1, 2, 2, 2, 2, 2, 2], [1, -1, 0, 0, 1, 1, -1, -1], [0, 0, 1, -1, 1, -1, 1, -1], [1, 2, 2, 1, -1, -2, -2, -1], [2, 1, -1, -2, -2, -1, 1, 2], [-2, -2, -1, 1], [-1, 1, -2, -2], [5, 1, 9, 2, 9]]
def rb_sv (k j : Nat) : Int32 := (rb_svL.getD k []).getD j 0
def rb_sl (k : Nat) : Nat := (rb_svL.getD k []).length
def rb_snL : List String := ["FROM_MIDDLE", "RIGHT", "UP", "JUMP_RIGHT", "JUMP_UP", "LEAP_COLUMN", "LEAP_ROW", "MOST_HEARD_V"]
def rb_sn (k : Nat) : String := rb_snL.getD k ""
