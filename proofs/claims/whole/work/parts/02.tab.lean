abbrev HD : Type := Nat × Int × Int
abbrev AV : Type := Int ⊕ (Int ⊕ HD)
abbrev ST : Type := Nat → Int → Int → Int → Int
abbrev LV : Type := List (Option AV)
/-! the tables: classes and fields, the kinds of cells (tags), the code of the methods; written by gen/tab.py out of the Statement -/
def cR0 : String := "ClosedRooms"
def cR1 : String := "ClosedRooms$Tape"
def cR2 : String := "ClosedRooms$Script"
def cR3 : String := "ClosedRooms$Acts"
def cR4 : String := "ClosedRooms$World"
def cR5 : String := "ClosedRooms$Log"
def cR6 : String := "ClosedRooms$Page"
def cR7 : String := "ClosedRooms$Room"
def cR8 : String := "ClosedRooms$Core"
def cR9 : String := "ClosedRooms$Copy"
def cR10 : String := "ClosedRoomsModel"
def cR11 : String := "java/lang/Math"
def cR12 : String := "java/lang/Integer"
def cF0 : u_T := fun k => match k with
  | 0 => ("ClosedRooms", "tape", "LClosedRooms$Tape;", true)
  | 1 => ("ClosedRooms", "rules", "[I", true)
  | 2 => ("ClosedRooms", "hasMachine", "Z", false)
  | 3 => ("ClosedRooms", "scripts", "[LClosedRooms$Script;", true)
  | 4 => ("ClosedRooms", "scriptCount", "I", false)
  | 5 => ("ClosedRooms", "acts", "LClosedRooms$Acts;", true)
  | 6 => ("ClosedRooms", "world", "LClosedRooms$World;", true)
  | 7 => ("ClosedRooms", "trial", "LClosedRooms$Acts;", true)
  | 8 => ("ClosedRooms", "kept", "LClosedRooms$World;", true)
  | 9 => ("ClosedRooms", "hasImage", "Z", false)
  | 10 => ("ClosedRooms", "past", "[LClosedRooms$World;", true)
  | 11 => ("ClosedRooms", "pastNext", "I", false)
  | 12 => ("ClosedRooms", "undoable", "I", false)
  | _ => ("ClosedRooms", "refused", "[I", true)
def cT0 : Nat → FieldType := fun k => match k with
  | 0 => .object "ClosedRooms$Tape"
  | 1 => .array .int
  | 2 => .boolean
  | 3 => .array (.object "ClosedRooms$Script")
  | 4 => .int
  | 5 => .object "ClosedRooms$Acts"
  | 6 => .object "ClosedRooms$World"
  | 7 => .object "ClosedRooms$Acts"
  | 8 => .object "ClosedRooms$World"
  | 9 => .boolean
  | 10 => .array (.object "ClosedRooms$World")
  | 11 => .int
  | 12 => .int
  | _ => .array .int
def cF1 : u_T := fun k => match k with
  | 0 => ("ClosedRooms$Tape", "length", "I", false)
  | 1 => ("ClosedRooms$Tape", "bytes", "[I", true)
  | 2 => ("ClosedRooms$Tape", "at", "I", false)
  | 3 => ("ClosedRooms$Tape", "rules", "[I", true)
  | 4 => ("ClosedRooms$Tape", "told", "[Z", true)
  | _ => ("ClosedRooms$Tape", "script", "LClosedRooms$Script;", true)
def cT1 : Nat → FieldType := fun k => match k with
  | 0 => .int
  | 1 => .array .int
  | 2 => .int
  | 3 => .array .int
  | 4 => .array .boolean
  | _ => .object "ClosedRooms$Script"
def cF2 : u_T := fun k => match k with
  | 0 => ("ClosedRooms$Script", "length", "I", false)
  | _ => ("ClosedRooms$Script", "cells", "[I", true)
def cT2 : Nat → FieldType := fun k => match k with
  | 0 => .int
  | _ => .array .int
def cF3 : u_T := fun k => match k with
  | 0 => ("ClosedRooms$Acts", "world", "LClosedRooms$World;", true)
  | _ => ("ClosedRooms$Acts", "refusal", "I", false)
def cT3 : Nat → FieldType := fun k => match k with
  | 0 => .object "ClosedRooms$World"
  | _ => .int
def cF4 : u_T := fun k => match k with
  | 0 => ("ClosedRooms$World", "pageCount", "I", false)
  | 1 => ("ClosedRooms$World", "coreCount", "I", false)
  | 2 => ("ClosedRooms$World", "hold", "I", false)
  | 3 => ("ClosedRooms$World", "versionsGiven", "I", false)
  | 4 => ("ClosedRooms$World", "serialsGiven", "I", false)
  | 5 => ("ClosedRooms$World", "pages", "[LClosedRooms$Page;", true)
  | 6 => ("ClosedRooms$World", "rooms", "[LClosedRooms$Room;", true)
  | 7 => ("ClosedRooms$World", "cores", "[LClosedRooms$Core;", true)
  | 8 => ("ClosedRooms$World", "copies", "[LClosedRooms$Copy;", true)
  | _ => ("ClosedRooms$World", "log", "LClosedRooms$Log;", true)
def cT4 : Nat → FieldType := fun k => match k with
  | 0 => .int
  | 1 => .int
  | 2 => .int
  | 3 => .int
  | 4 => .int
  | 5 => .array (.object "ClosedRooms$Page")
  | 6 => .array (.object "ClosedRooms$Room")
  | 7 => .array (.object "ClosedRooms$Core")
  | 8 => .array (.object "ClosedRooms$Copy")
  | _ => .object "ClosedRooms$Log"
def cF5 : u_T := fun k => match k with
  | 0 => ("ClosedRooms$Log", "length", "I", false)
  | 1 => ("ClosedRooms$Log", "next", "I", false)
  | 2 => ("ClosedRooms$Log", "sorts", "[I", true)
  | 3 => ("ClosedRooms$Log", "firsts", "[I", true)
  | _ => ("ClosedRooms$Log", "answers", "[I", true)
def cT5 : Nat → FieldType := fun k => match k with
  | 0 => .int
  | 1 => .int
  | 2 => .array .int
  | 3 => .array .int
  | _ => .array .int
def cF6 : u_T := fun k => match k with
  | 0 => ("ClosedRooms$Page", "kind", "I", false)
  | 1 => ("ClosedRooms$Page", "room", "I", false)
  | 2 => ("ClosedRooms$Page", "address", "I", false)
  | 3 => ("ClosedRooms$Page", "rights", "I", false)
  | 4 => ("ClosedRooms$Page", "value", "I", false)
  | 5 => ("ClosedRooms$Page", "blocked", "Z", false)
  | 6 => ("ClosedRooms$Page", "blockedIn", "I", false)
  | 7 => ("ClosedRooms$Page", "entry", "I", false)
  | _ => ("ClosedRooms$Page", "versions", "[I", true)
def cT6 : Nat → FieldType := fun k => match k with
  | 0 => .int
  | 1 => .int
  | 2 => .int
  | 3 => .int
  | 4 => .int
  | 5 => .boolean
  | 6 => .int
  | 7 => .int
  | _ => .array .int
def cF7 : u_T := fun k => match k with
  | 0 => ("ClosedRooms$Room", "there", "Z", false)
  | 1 => ("ClosedRooms$Room", "serial", "I", false)
  | 2 => ("ClosedRooms$Room", "size", "I", false)
  | 3 => ("ClosedRooms$Room", "sealed", "Z", false)
  | 4 => ("ClosedRooms$Room", "measure", "I", false)
  | 5 => ("ClosedRooms$Room", "epoch", "I", false)
  | 6 => ("ClosedRooms$Room", "away", "Z", false)
  | 7 => ("ClosedRooms$Room", "where", "[I", true)
  | _ => ("ClosedRooms$Room", "map", "[I", true)
def cT7 : Nat → FieldType := fun k => match k with
  | 0 => .boolean
  | 1 => .int
  | 2 => .int
  | 3 => .boolean
  | 4 => .int
  | 5 => .int
  | 6 => .boolean
  | 7 => .array .int
  | _ => .array .int
def cF8 : u_T := fun k => match k with
  | 0 => ("ClosedRooms$Core", "register", "I", false)
  | 1 => ("ClosedRooms$Core", "room", "I", false)
  | 2 => ("ClosedRooms$Core", "entry", "I", false)
  | 3 => ("ClosedRooms$Core", "since", "I", false)
  | 4 => ("ClosedRooms$Core", "seenCount", "I", false)
  | 5 => ("ClosedRooms$Core", "seenAddress", "[I", true)
  | _ => ("ClosedRooms$Core", "seenPage", "[I", true)
def cT8 : Nat → FieldType := fun k => match k with
  | 0 => .int
  | 1 => .int
  | 2 => .int
  | 3 => .int
  | 4 => .int
  | 5 => .array .int
  | _ => .array .int
def cF9 : u_T := fun k => match k with
  | 0 => ("ClosedRooms$Copy", "there", "Z", false)
  | 1 => ("ClosedRooms$Copy", "serial", "I", false)
  | 2 => ("ClosedRooms$Copy", "address", "I", false)
  | 3 => ("ClosedRooms$Copy", "kind", "I", false)
  | 4 => ("ClosedRooms$Copy", "rights", "I", false)
  | 5 => ("ClosedRooms$Copy", "value", "I", false)
  | 6 => ("ClosedRooms$Copy", "leftInHaste", "Z", false)
  | 7 => ("ClosedRooms$Copy", "version", "I", false)
  | _ => ("ClosedRooms$Copy", "changed", "Z", false)
def cT9 : Nat → FieldType := fun k => match k with
  | 0 => .boolean
  | 1 => .int
  | 2 => .int
  | 3 => .int
  | 4 => .int
  | 5 => .int
  | 6 => .boolean
  | 7 => .int
  | _ => .boolean
def cF10 : u_T := fun k => match k with
  | 0 => ("ClosedRoomsModel", "thrown", "I", false)
  | 1 => ("ClosedRoomsModel", "tape", "[I", true)
  | 2 => ("ClosedRoomsModel", "taped", "I", false)
  | 3 => ("ClosedRoomsModel", "at", "I", false)
  | 4 => ("ClosedRoomsModel", "wrong", "I", false)
  | 5 => ("ClosedRoomsModel", "part", "I", false)
  | 6 => ("ClosedRoomsModel", "partFrom", "I", false)
  | 7 => ("ClosedRoomsModel", "partNumber", "I", false)
  | 8 => ("ClosedRoomsModel", "partWord", "J", false)
  | 9 => ("ClosedRoomsModel", "readRule", "[I", true)
  | 10 => ("ClosedRoomsModel", "rule", "[I", true)
  | 11 => ("ClosedRoomsModel", "isMachine", "Z", false)
  | 12 => ("ClosedRoomsModel", "script", "[I", true)
  | 13 => ("ClosedRoomsModel", "scriptLong", "[I", true)
  | 14 => ("ClosedRoomsModel", "scripts", "I", false)
  | 15 => ("ClosedRoomsModel", "now", "[I", true)
  | 16 => ("ClosedRoomsModel", "refused", "[I", true)
  | 17 => ("ClosedRoomsModel", "kept", "[I", true)
  | 18 => ("ClosedRoomsModel", "acts", "I", false)
  | 19 => ("ClosedRoomsModel", "papers", "[I", true)
  | 20 => ("ClosedRoomsModel", "stopped", "I", false)
  | 21 => ("ClosedRoomsModel", "aside", "[I", true)
  | 22 => ("ClosedRoomsModel", "image", "[I", true)
  | _ => ("ClosedRoomsModel", "hasImage", "Z", false)
def cT10 : Nat → FieldType := fun k => match k with
  | 0 => .int
  | 1 => .array .int
  | 2 => .int
  | 3 => .int
  | 4 => .int
  | 5 => .int
  | 6 => .int
  | 7 => .int
  | 8 => .long
  | 9 => .array .int
  | 10 => .array .int
  | 11 => .boolean
  | 12 => .array .int
  | 13 => .array .int
  | 14 => .int
  | 15 => .array .int
  | 16 => .array .int
  | 17 => .array .int
  | 18 => .int
  | 19 => .array .int
  | 20 => .int
  | 21 => .array .int
  | 22 => .array .int
  | _ => .boolean
abbrev crC : List vw_C := [(cR0, cF0, 14), (cR1, cF1, 6), (cR2, cF2, 2), (cR3, cF3, 2), (cR4, cF4, 10), (cR5, cF5, 5), (cR6, cF6, 9), (cR7, cF7, 9), (cR8, cF8, 7), (cR9, cF9, 9), (cR10, cF10, 24)]
/-- the class of an object's tag (100: no object) -/
def cof (t : Nat) : Nat := match t with
  | 0 => 0
  | 1 => 1
  | 5 => 2
  | 11 => 3
  | 12 => 4
  | 14 => 6
  | 17 => 7
  | 21 => 8
  | 25 => 9
  | 26 => 5
  | 40 => 10
  | _ => 100
/-- the kind of a field: 0 int, 1 boolean, 2 long, 3 reference -/
def kd (t s : Nat) : Nat := match t, s with
  | 0, 0 => 3
  | 0, 1 => 3
  | 0, 2 => 1
  | 0, 3 => 3
  | 0, 5 => 3
  | 0, 6 => 3
  | 0, 7 => 3
  | 0, 8 => 3
  | 0, 9 => 1
  | 0, 10 => 3
  | 0, 13 => 3
  | 1, 1 => 3
  | 1, 3 => 3
  | 1, 4 => 3
  | 1, 5 => 3
  | 5, 1 => 3
  | 11, 0 => 3
  | 12, 5 => 3
  | 12, 6 => 3
  | 12, 7 => 3
  | 12, 8 => 3
  | 12, 9 => 3
  | 14, 5 => 1
  | 14, 8 => 3
  | 17, 0 => 1
  | 17, 3 => 1
  | 17, 6 => 1
  | 17, 7 => 3
  | 17, 8 => 3
  | 21, 5 => 3
  | 21, 6 => 3
  | 25, 0 => 1
  | 25, 6 => 1
  | 25, 8 => 1
  | 26, 2 => 3
  | 26, 3 => 3
  | 26, 4 => 3
  | 40, 1 => 3
  | 40, 8 => 2
  | 40, 9 => 3
  | 40, 10 => 3
  | 40, 11 => 1
  | 40, 12 => 3
  | 40, 13 => 3
  | 40, 15 => 3
  | 40, 16 => 3
  | 40, 17 => 3
  | 40, 19 => 3
  | 40, 21 => 3
  | 40, 22 => 3
  | 40, 23 => 1
  | _, _ => 0
/-- how many fields -/
def nfd (t : Nat) : Nat := match t with
  | 0 => 14
  | 1 => 6
  | 5 => 2
  | 11 => 2
  | 12 => 10
  | 14 => 9
  | 17 => 9
  | 21 => 7
  | 25 => 9
  | 26 => 5
  | 40 => 24
  | _ => 0
/-- the cell that a field of references holds -/
def chf (t : Nat) (k i : Int) (s : Nat) : HD := match t, s with
  | 0, 0 => (1, 0, 0)
  | 0, 1 => (7, 0, 0)
  | 0, 3 => (8, 0, 0)
  | 0, 5 => (11, 0, 0)
  | 0, 6 => (12, 0, 0)
  | 0, 7 => (11, 1, 0)
  | 0, 8 => (12, 2, 0)
  | 0, 10 => (9, 0, 0)
  | 0, 13 => (10, 0, 0)
  | 1, 1 => (2, 0, 0)
  | 1, 3 => (3, 0, 0)
  | 1, 4 => (4, 0, 0)
  | 1, 5 => (5, 4, 0)
  | 5, 1 => (6, k, 0)
  | 11, 0 => (12, k, 0)
  | 12, 5 => (13, k, 0)
  | 12, 6 => (16, k, 0)
  | 12, 7 => (20, k, 0)
  | 12, 8 => (24, k, 0)
  | 12, 9 => (26, k, 0)
  | 14, 8 => (15, k, i)
  | 17, 7 => (18, k, i)
  | 17, 8 => (19, k, i)
  | 21, 5 => (22, k, i)
  | 21, 6 => (23, k, i)
  | 26, 2 => (27, k, 0)
  | 26, 3 => (28, k, 0)
  | 26, 4 => (29, k, 0)
  | 40, 1 => (41, 0, 0)
  | 40, 9 => (42, 0, 0)
  | 40, 10 => (43, 0, 0)
  | 40, 12 => (44, 0, 0)
  | 40, 13 => (45, 0, 0)
  | 40, 15 => (46, 0, 0)
  | 40, 16 => (47, 0, 0)
  | 40, 17 => (48, 0, 0)
  | 40, 19 => (49, 0, 0)
  | 40, 21 => (50, 0, 0)
  | 40, 22 => (51, 0, 0)
  | _, _ => (99, 0, 0)
/-- the cell that a row of references holds -/
def cha (t : Nat) (k j : Int) : HD := match t with
  | 8 => (5, j, 0)
  | 9 => (12, (3 + j), 0)
  | 13 => (14, k, j)
  | 16 => (17, k, j)
  | 20 => (21, k, j)
  | 24 => (25, k, j)
  | _ => (99, 0, 0)
/-- what a row holds: 0 int, 1 boolean, 3 references, 7 a written row of ints; 9: no row -/
def ek (t : Nat) : Nat := match t with
  | 2 => 0
  | 3 => 0
  | 4 => 1
  | 6 => 0
  | 7 => 0
  | 8 => 3
  | 9 => 3
  | 10 => 0
  | 13 => 3
  | 15 => 0
  | 16 => 3
  | 18 => 0
  | 19 => 0
  | 20 => 3
  | 22 => 0
  | 23 => 0
  | 24 => 3
  | 27 => 0
  | 28 => 0
  | 29 => 0
  | 41 => 0
  | 42 => 0
  | 43 => 0
  | 44 => 0
  | 45 => 0
  | 46 => 0
  | 47 => 0
  | 48 => 0
  | 49 => 0
  | 50 => 0
  | 51 => 0
  | 62 => 7
  | 63 => 7
  | 64 => 7
  | 65 => 7
  | _ => 9
def al (t : Nat) : Int := match t with
  | 2 => 320
  | 3 => 4
  | 4 => 4
  | 6 => 72
  | 7 => 4
  | 8 => 4
  | 9 => 41
  | 10 => 5
  | 13 => 10
  | 15 => 4
  | 16 => 4
  | 18 => 8
  | 19 => 8
  | 20 => 3
  | 22 => 3
  | 23 => 3
  | 24 => 12
  | 27 => 60
  | 28 => 60
  | 29 => 60
  | 41 => 320
  | 42 => 4
  | 43 => 4
  | 44 => 360
  | 45 => 5
  | 46 => 526
  | 47 => 5
  | 48 => 21040
  | 49 => 1000
  | 50 => 345
  | 51 => 526
  | 62 => 4
  | 63 => 4
  | 64 => 4
  | 65 => 16
  | _ => 0
def sta (t : Nat) : List Int := match t with
  | 62 => [3, 1, 1, 1]
  | 63 => [10, 3, 3, 999]
  | 64 => [8, 2, 2, 7]
  | 65 => [1, 0, 5, 2, 1, 3, 1, 1, 3, 3, 1, 1, 3, 3, 1, 3]
  | _ => []
def stv (t : Nat) (j : Int) : Int := (sta t).getD j.toNat 0
def strs : List (List Int) := [[112, 97, 103, 101, 115], [99, 111, 114, 101, 115], [104, 111, 108, 100], [107, 101, 121], [99, 114, 101, 97, 116, 101], [115, 108, 111, 116, 115], [97, 100, 100], [101, 120, 116, 101, 110, 100], [115, 101, 97, 108], [101, 110, 116, 101, 114], [108, 101, 97, 118, 101], [116, 114, 97, 112], [114, 101, 115, 117, 109, 101], [116, 111, 117, 99, 104], [98, 108, 111, 99, 107], [116, 114, 97, 99, 107], [101, 118, 105, 99, 116], [108, 111, 97, 100], [114, 101, 109, 111, 118, 101], [109, 97, 112], [114, 111, 111, 109, 32], [32, 112, 97, 103, 101, 32], [115, 108, 111, 116, 115, 32], [102, 114, 101, 101, 32], [110, 111, 32, 115, 117, 99, 104, 32, 114, 111, 111, 109, 32, 111, 114, 32, 119, 104, 97, 116], [114, 111, 111, 109, 32, 46, 32, 112, 97, 103, 101, 32]]
abbrev CE : Type := Nat × Instr × Nat × Nat × Nat × Nat × Int
/-- ClosedRooms.bytesOf(I)I -/
def cd_0 : List (List CE) := [[(0, .iconst 0, 1, 0, 0, 0, 0), (1, .istore_n 1, 1, 0, 0, 0, 0), (2, .bipush 24, 2, 0, 0, 0, 0), (4, .istore_n 2, 1, 0, 0, 0, 0), (5, .iload_n 2, 1, 0, 0, 0, 0), (6, .ifCond .lt 22, 3, 0, 0, 0, 0), (9, .iload_n 0, 1, 0, 0, 0, 0), (10, .iload_n 2, 1, 0, 0, 0, 0), (11, .iushr, 1, 0, 0, 0, 0), (12, .sipush 255, 3, 0, 0, 0, 0), (15, .iand, 1, 0, 0, 0, 0)],
  [(16, .ifCond .eq 6, 3, 0, 0, 0, 0), (19, .iinc 1 1, 3, 0, 0, 0, 0), (22, .iinc 2 (-8), 3, 0, 0, 0, 0), (25, .goto (-20), 3, 0, 0, 0, 0), (28, .iload_n 1, 1, 0, 0, 0, 0), (29, .ireturn, 1, 0, 0, 0, 0)]]
/-- ClosedRooms$Tape.append(I)V -/
def cd_1 : List (List CE) := [[(0, .bipush 24, 2, 0, 0, 0, 0), (2, .istore_n 2, 1, 0, 0, 0, 0), (3, .iload_n 2, 1, 0, 0, 0, 0), (4, .ifCond .lt 58, 3, 0, 0, 0, 0), (7, .iload_n 1, 1, 0, 0, 0, 0), (8, .iload_n 2, 1, 0, 0, 0, 0), (9, .iushr, 1, 0, 0, 0, 0), (10, .sipush 255, 3, 0, 0, 0, 0), (13, .iand, 1, 0, 0, 0, 0), (14, .istore_n 3, 1, 0, 0, 0, 0), (15, .iload_n 3, 1, 0, 0, 0, 0)],
  [(16, .ifCond .eq 40, 3, 0, 0, 0, 0), (19, .aload_n 0, 1, 0, 0, 0, 0), (20, .getfield 9, 3, 1, 0, 0, 0), (23, .ifCond .lt 33, 3, 0, 0, 0, 0), (26, .aload_n 0, 1, 0, 0, 0, 0), (27, .getfield 9, 3, 1, 0, 0, 0), (30, .sipush 320, 3, 0, 0, 0, 0)],
  [(33, .if_icmp .ge 23, 3, 0, 0, 0, 0), (36, .aload_n 0, 1, 0, 0, 0, 0), (37, .getfield 15, 3, 1, 1, 1, 0), (40, .aload_n 0, 1, 0, 0, 0, 0), (41, .getfield 9, 3, 1, 0, 0, 0), (44, .iload_n 3, 1, 0, 0, 0, 0), (45, .iastore, 1, 0, 0, 0, 0), (46, .aload_n 0, 1, 0, 0, 0, 0), (47, .dup, 1, 0, 0, 0, 0)],
  [(48, .getfield 9, 3, 1, 0, 0, 0), (51, .iconst 1, 1, 0, 0, 0, 0), (52, .iadd, 1, 0, 0, 0, 0), (53, .putfield 9, 3, 1, 0, 0, 0), (56, .iinc 2 (-8), 3, 0, 0, 0, 0), (59, .goto (-56), 3, 0, 0, 0, 0), (62, .return_, 1, 0, 0, 0, 0)]]
/-- ClosedRooms.feed(IIIII)I -/
def cd_2 : List (List CE) := [[(0, .iload_n 1, 1, 0, 0, 0, 0), (1, .invokestatic 72, 3, 0, 1, 0, 0), (4, .iload_n 2, 1, 0, 0, 0, 0), (5, .invokestatic 72, 3, 0, 1, 0, 0), (8, .iadd, 1, 0, 0, 0, 0), (9, .iload_n 3, 1, 0, 0, 0, 0), (10, .invokestatic 72, 3, 0, 1, 0, 0), (13, .iadd, 1, 0, 0, 0, 0), (14, .iload 4, 2, 0, 0, 0, 0)],
  [(16, .invokestatic 72, 3, 0, 1, 0, 0), (19, .iadd, 1, 0, 0, 0, 0), (20, .iload 5, 2, 0, 0, 0, 0), (22, .invokestatic 72, 3, 0, 1, 0, 0), (25, .iadd, 1, 0, 0, 0, 0), (26, .istore 6, 2, 0, 0, 0, 0), (28, .aload_n 0, 1, 0, 0, 0, 0), (29, .getfield 10, 3, 0, 0, 0, 0)],
  [(32, .getfield 76, 3, 1, 0, 0, 0), (35, .iload 6, 2, 0, 0, 0, 0), (37, .iadd, 1, 0, 0, 0, 0), (38, .sipush 320, 3, 0, 0, 0, 0), (41, .if_icmp .le 5, 3, 0, 0, 0, 0), (44, .iconst (-1), 1, 0, 0, 0, 0), (45, .ireturn, 1, 0, 0, 0, 0), (46, .aload_n 0, 1, 0, 0, 0, 0), (47, .getfield 10, 3, 0, 0, 0, 0)],
  [(50, .iload_n 1, 1, 0, 0, 0, 0), (51, .invokevirtual 79, 3, 1, 2, 1, 0), (54, .aload_n 0, 1, 0, 0, 0, 0), (55, .getfield 10, 3, 0, 0, 0, 0), (58, .iload_n 2, 1, 0, 0, 0, 0), (59, .invokevirtual 79, 3, 1, 2, 1, 0), (62, .aload_n 0, 1, 0, 0, 0, 0), (63, .getfield 10, 3, 0, 0, 0, 0)],
  [(66, .iload_n 3, 1, 0, 0, 0, 0), (67, .invokevirtual 79, 3, 1, 2, 1, 0), (70, .aload_n 0, 1, 0, 0, 0, 0), (71, .getfield 10, 3, 0, 0, 0, 0), (74, .iload 4, 2, 0, 0, 0, 0), (76, .invokevirtual 79, 3, 1, 2, 1, 0), (79, .aload_n 0, 1, 0, 0, 0, 0)],
  [(80, .getfield 10, 3, 0, 0, 0, 0), (83, .iload 5, 2, 0, 0, 0, 0), (85, .invokevirtual 79, 3, 1, 2, 1, 0), (88, .aload_n 0, 1, 0, 0, 0, 0), (89, .getfield 10, 3, 0, 0, 0, 0), (92, .getfield 76, 3, 1, 0, 0, 0), (95, .ireturn, 1, 0, 0, 0, 0)]]
/-- ClosedRooms.end(I)Z -/
def cd_3 : List (List CE) := [[(0, .iload_n 1, 1, 0, 0, 0, 0), (1, .ifCond .lt 14, 3, 0, 0, 0, 0), (4, .iload_n 1, 1, 0, 0, 0, 0), (5, .aload_n 0, 1, 0, 0, 0, 0), (6, .getfield 10, 3, 0, 0, 0, 0), (9, .getfield 76, 3, 1, 0, 0, 0), (12, .if_icmp .le 5, 3, 0, 0, 0, 0), (15, .iconst 0, 1, 0, 0, 0, 0)],
  [(16, .ireturn, 1, 0, 0, 0, 0), (17, .aload_n 0, 1, 0, 0, 0, 0), (18, .getfield 10, 3, 0, 0, 0, 0), (21, .iload_n 1, 1, 0, 0, 0, 0), (22, .putfield 76, 3, 1, 0, 0, 0), (25, .iconst 1, 1, 0, 0, 0, 0), (26, .ireturn, 1, 0, 0, 0, 0)]]
/-- ClosedRooms$Script.begin()V -/
def cd_4 : List (List CE) := [[(0, .aload_n 0, 1, 0, 0, 0, 0), (1, .iconst 0, 1, 0, 0, 0, 0), (2, .putfield 9, 3, 2, 0, 0, 0), (5, .return_, 1, 0, 0, 0, 0)]]
/-- ClosedRooms$Tape.begin()V -/
def cd_5 : List (List CE) := [[(0, .aload_n 0, 1, 0, 0, 0, 0), (1, .iconst 0, 1, 0, 0, 0, 0), (2, .putfield 19, 3, 1, 2, 2, 0), (5, .aload_n 0, 1, 0, 0, 0, 0), (6, .getfield 32, 3, 1, 5, 5, 0), (9, .invokevirtual 53, 3, 4, 1, 2, 0), (12, .iconst 0, 1, 0, 0, 0, 0), (13, .istore_n 1, 1, 0, 0, 0, 0), (14, .iload_n 1, 1, 0, 0, 0, 0), (15, .iconst 4, 1, 0, 0, 0, 0)],
  [(16, .if_icmp .ge 27, 3, 0, 0, 0, 0), (19, .aload_n 0, 1, 0, 0, 0, 0), (20, .getfield 22, 3, 1, 3, 3, 0), (23, .iload_n 1, 1, 0, 0, 0, 0), (24, .getstatic 54, 3, 64, 0, 0, 0), (27, .iload_n 1, 1, 0, 0, 0, 0), (28, .iaload, 1, 0, 0, 0, 0), (29, .iastore, 1, 0, 0, 0, 0), (30, .aload_n 0, 1, 0, 0, 0, 0), (31, .getfield 25, 3, 1, 4, 4, 0)],
  [(34, .iload_n 1, 1, 0, 0, 0, 0), (35, .iconst 0, 1, 0, 0, 0, 0), (36, .bastore, 1, 0, 0, 0, 0), (37, .iinc 1 1, 3, 0, 0, 0, 0), (40, .goto (-26), 3, 0, 0, 0, 0), (43, .return_, 1, 0, 0, 0, 0)]]
/-- ClosedRooms$Tape.stands(I)Z -/
def cd_6 : List (List CE) := [[(0, .aload_n 0, 1, 0, 0, 0, 0), (1, .getfield 19, 3, 1, 2, 2, 0), (4, .ifCond .lt 41, 3, 0, 0, 0, 0), (7, .aload_n 0, 1, 0, 0, 0, 0), (8, .getfield 19, 3, 1, 2, 2, 0), (11, .aload_n 0, 1, 0, 0, 0, 0), (12, .getfield 9, 3, 1, 0, 0, 0), (15, .if_icmp .ge 30, 3, 0, 0, 0, 0)],
  [(18, .aload_n 0, 1, 0, 0, 0, 0), (19, .getfield 19, 3, 1, 2, 2, 0), (22, .sipush 320, 3, 0, 0, 0, 0), (25, .if_icmp .ge 20, 3, 0, 0, 0, 0), (28, .aload_n 0, 1, 0, 0, 0, 0), (29, .getfield 15, 3, 1, 1, 1, 0)],
  [(32, .aload_n 0, 1, 0, 0, 0, 0), (33, .getfield 19, 3, 1, 2, 2, 0), (36, .iaload, 1, 0, 0, 0, 0), (37, .iload_n 1, 1, 0, 0, 0, 0), (38, .if_icmp .ne 7, 3, 0, 0, 0, 0), (41, .iconst 1, 1, 0, 0, 0, 0), (42, .goto 4, 3, 0, 0, 0, 0), (45, .iconst 0, 1, 0, 0, 0, 0), (46, .ireturn, 1, 0, 0, 0, 0)]]
/-- ClosedRooms$Tape.skipBlanks()V -/
def cd_7 : List (List CE) := [[(0, .aload_n 0, 1, 0, 0, 0, 0), (1, .getfield 19, 3, 1, 2, 2, 0), (4, .aload_n 0, 1, 0, 0, 0, 0), (5, .getfield 9, 3, 1, 0, 0, 0), (8, .if_icmp .ge 25, 3, 0, 0, 0, 0), (11, .aload_n 0, 1, 0, 0, 0, 0), (12, .bipush 32, 2, 0, 0, 0, 0), (14, .invokevirtual 49, 3, 6, 2, 1, 0)],
  [(17, .ifCond .eq 16, 3, 0, 0, 0, 0), (20, .aload_n 0, 1, 0, 0, 0, 0), (21, .dup, 1, 0, 0, 0, 0), (22, .getfield 19, 3, 1, 2, 2, 0), (25, .iconst 1, 1, 0, 0, 0, 0), (26, .iadd, 1, 0, 0, 0, 0), (27, .putfield 19, 3, 1, 2, 2, 0), (30, .goto (-30), 3, 0, 0, 0, 0)],
  [(33, .return_, 1, 0, 0, 0, 0)]]
/-- ClosedRooms$Tape.skipLetters()V -/
def cd_8 : List (List CE) := [[(0, .aload_n 0, 1, 0, 0, 0, 0), (1, .getfield 19, 3, 1, 2, 2, 0), (4, .ifCond .lt 65, 3, 0, 0, 0, 0), (7, .aload_n 0, 1, 0, 0, 0, 0), (8, .getfield 19, 3, 1, 2, 2, 0), (11, .aload_n 0, 1, 0, 0, 0, 0), (12, .getfield 9, 3, 1, 0, 0, 0), (15, .if_icmp .ge 54, 3, 0, 0, 0, 0)],
  [(18, .aload_n 0, 1, 0, 0, 0, 0), (19, .getfield 19, 3, 1, 2, 2, 0), (22, .sipush 320, 3, 0, 0, 0, 0), (25, .if_icmp .ge 44, 3, 0, 0, 0, 0), (28, .aload_n 0, 1, 0, 0, 0, 0), (29, .getfield 15, 3, 1, 1, 1, 0)],
  [(32, .aload_n 0, 1, 0, 0, 0, 0), (33, .getfield 19, 3, 1, 2, 2, 0), (36, .iaload, 1, 0, 0, 0, 0), (37, .bipush 97, 2, 0, 0, 0, 0), (39, .if_icmp .lt 30, 3, 0, 0, 0, 0), (42, .aload_n 0, 1, 0, 0, 0, 0), (43, .getfield 15, 3, 1, 1, 1, 0), (46, .aload_n 0, 1, 0, 0, 0, 0), (47, .getfield 19, 3, 1, 2, 2, 0)],
  [(50, .iaload, 1, 0, 0, 0, 0), (51, .bipush 122, 2, 0, 0, 0, 0), (53, .if_icmp .gt 16, 3, 0, 0, 0, 0), (56, .aload_n 0, 1, 0, 0, 0, 0), (57, .dup, 1, 0, 0, 0, 0), (58, .getfield 19, 3, 1, 2, 2, 0), (61, .iconst 1, 1, 0, 0, 0, 0), (62, .iadd, 1, 0, 0, 0, 0), (63, .putfield 19, 3, 1, 2, 2, 0)],
  [(66, .goto (-66), 3, 0, 0, 0, 0), (69, .return_, 1, 0, 0, 0, 0)]]
/-- ClosedRooms$Tape.ruleWord(I)Ljava/lang/String; -/
def cd_9 : List (List CE) := [[(0, .iload_n 0, 1, 0, 0, 0, 0), (1, .tableswitch 36 0 2 #[27, 30, 33], 27, 0, 0, 0, 0)],
  [(28, .ldc 106, 2, 1, 0, 0, 0), (30, .areturn, 1, 0, 0, 0, 0), (31, .ldc 108, 2, 1, 0, 0, 1)],
  [(33, .areturn, 1, 0, 0, 0, 0), (34, .ldc 110, 2, 1, 0, 0, 2), (36, .areturn, 1, 0, 0, 0, 0), (37, .ldc 112, 2, 1, 0, 0, 3), (39, .areturn, 1, 0, 0, 0, 0)]]
/-- ClosedRooms$Tape.isWord(ILjava/lang/String;)Z -/
def cd_10 : List (List CE) := [[(0, .iload_n 1, 1, 0, 0, 0, 0), (1, .ifCond .lt 26, 3, 0, 0, 0, 0), (4, .aload_n 0, 1, 0, 0, 0, 0), (5, .getfield 19, 3, 1, 2, 2, 0), (8, .sipush 320, 3, 0, 0, 0, 0), (11, .if_icmp .gt 16, 3, 0, 0, 0, 0), (14, .aload_n 0, 1, 0, 0, 0, 0), (15, .getfield 19, 3, 1, 2, 2, 0)],
  [(18, .iload_n 1, 1, 0, 0, 0, 0), (19, .isub, 1, 0, 0, 0, 0), (20, .aload_n 2, 1, 0, 0, 0, 0), (21, .invokevirtual 98, 3, 901, 1, 0, 0), (24, .if_icmp .eq 5, 3, 0, 0, 0, 0), (27, .iconst 0, 1, 0, 0, 0, 0), (28, .ireturn, 1, 0, 0, 0, 0), (29, .iconst 0, 1, 0, 0, 0, 0), (30, .istore_n 3, 1, 0, 0, 0, 0), (31, .iload_n 3, 1, 0, 0, 0, 0)],
  [(32, .aload_n 2, 1, 0, 0, 0, 0), (33, .invokevirtual 98, 3, 901, 1, 0, 0), (36, .if_icmp .ge 27, 3, 0, 0, 0, 0), (39, .aload_n 0, 1, 0, 0, 0, 0), (40, .getfield 15, 3, 1, 1, 1, 0), (43, .iload_n 1, 1, 0, 0, 0, 0), (44, .iload_n 3, 1, 0, 0, 0, 0), (45, .iadd, 1, 0, 0, 0, 0), (46, .iaload, 1, 0, 0, 0, 0), (47, .aload_n 2, 1, 0, 0, 0, 0)],
  [(48, .iload_n 3, 1, 0, 0, 0, 0), (49, .invokevirtual 102, 3, 902, 2, 0, 0), (52, .if_icmp .eq 5, 3, 0, 0, 0, 0), (55, .iconst 0, 1, 0, 0, 0, 0), (56, .ireturn, 1, 0, 0, 0, 0), (57, .iinc 3 1, 3, 0, 0, 0, 0), (60, .goto (-29), 3, 0, 0, 0, 0), (63, .iconst 1, 1, 0, 0, 0, 0)],
  [(64, .ireturn, 1, 0, 0, 0, 0)]]
/-- ClosedRooms$Tape.ruleOf(I)I -/
def cd_11 : List (List CE) := [[(0, .iconst 0, 1, 0, 0, 0, 0), (1, .istore_n 2, 1, 0, 0, 0, 0), (2, .iload_n 2, 1, 0, 0, 0, 0), (3, .iconst 4, 1, 0, 0, 0, 0), (4, .if_icmp .ge 23, 3, 0, 0, 0, 0), (7, .aload_n 0, 1, 0, 0, 0, 0), (8, .iload_n 1, 1, 0, 0, 0, 0), (9, .iload_n 2, 1, 0, 0, 0, 0), (10, .invokestatic 87, 3, 9, 1, 1, 70), (13, .invokevirtual 91, 3, 10, 3, 1, 0)],
  [(16, .ifCond .eq 5, 3, 0, 0, 0, 0), (19, .iload_n 2, 1, 0, 0, 0, 0), (20, .ireturn, 1, 0, 0, 0, 0), (21, .iinc 2 1, 3, 0, 0, 0, 0), (24, .goto (-22), 3, 0, 0, 0, 0), (27, .iconst (-1), 1, 0, 0, 0, 0), (28, .ireturn, 1, 0, 0, 0, 0)]]
/-- ClosedRooms$Tape.readNumber()I -/
def cd_12 : List (List CE) := [[(0, .iconst (-1), 1, 0, 0, 0, 0), (1, .istore_n 1, 1, 0, 0, 0, 0), (2, .aload_n 0, 1, 0, 0, 0, 0), (3, .getfield 19, 3, 1, 2, 2, 0), (6, .ifCond .lt 102, 3, 0, 0, 0, 0), (9, .aload_n 0, 1, 0, 0, 0, 0), (10, .getfield 19, 3, 1, 2, 2, 0), (13, .aload_n 0, 1, 0, 0, 0, 0), (14, .getfield 9, 3, 1, 0, 0, 0)],
  [(17, .if_icmp .ge 91, 3, 0, 0, 0, 0), (20, .aload_n 0, 1, 0, 0, 0, 0), (21, .getfield 19, 3, 1, 2, 2, 0), (24, .sipush 320, 3, 0, 0, 0, 0), (27, .if_icmp .ge 81, 3, 0, 0, 0, 0), (30, .aload_n 0, 1, 0, 0, 0, 0), (31, .getfield 15, 3, 1, 1, 1, 0)],
  [(34, .aload_n 0, 1, 0, 0, 0, 0), (35, .getfield 19, 3, 1, 2, 2, 0), (38, .iaload, 1, 0, 0, 0, 0), (39, .bipush 48, 2, 0, 0, 0, 0), (41, .if_icmp .lt 67, 3, 0, 0, 0, 0), (44, .aload_n 0, 1, 0, 0, 0, 0), (45, .getfield 15, 3, 1, 1, 1, 0)],
  [(48, .aload_n 0, 1, 0, 0, 0, 0), (49, .getfield 19, 3, 1, 2, 2, 0), (52, .iaload, 1, 0, 0, 0, 0), (53, .bipush 57, 2, 0, 0, 0, 0), (55, .if_icmp .gt 53, 3, 0, 0, 0, 0), (58, .aload_n 0, 1, 0, 0, 0, 0), (59, .getfield 15, 3, 1, 1, 1, 0), (62, .aload_n 0, 1, 0, 0, 0, 0), (63, .getfield 19, 3, 1, 2, 2, 0)],
  [(66, .iaload, 1, 0, 0, 0, 0), (67, .bipush 48, 2, 0, 0, 0, 0), (69, .isub, 1, 0, 0, 0, 0), (70, .istore_n 2, 1, 0, 0, 0, 0), (71, .iload_n 1, 1, 0, 0, 0, 0), (72, .iconst (-1), 1, 0, 0, 0, 0), (73, .if_icmp .ne 8, 3, 0, 0, 0, 0), (76, .iload_n 2, 1, 0, 0, 0, 0), (77, .istore_n 1, 1, 0, 0, 0, 0), (78, .goto 17, 3, 0, 0, 0, 0)],
  [(81, .iload_n 1, 1, 0, 0, 0, 0), (82, .sipush 999, 3, 0, 0, 0, 0), (85, .if_icmp .gt 10, 3, 0, 0, 0, 0), (88, .iload_n 1, 1, 0, 0, 0, 0), (89, .bipush 10, 2, 0, 0, 0, 0), (91, .imul, 1, 0, 0, 0, 0), (92, .iload_n 2, 1, 0, 0, 0, 0), (93, .iadd, 1, 0, 0, 0, 0), (94, .istore_n 1, 1, 0, 0, 0, 0), (95, .aload_n 0, 1, 0, 0, 0, 0)],
  [(96, .dup, 1, 0, 0, 0, 0), (97, .getfield 19, 3, 1, 2, 2, 0), (100, .iconst 1, 1, 0, 0, 0, 0), (101, .iadd, 1, 0, 0, 0, 0), (102, .putfield 19, 3, 1, 2, 2, 0), (105, .goto (-103), 3, 0, 0, 0, 0), (108, .iload_n 1, 1, 0, 0, 0, 0), (109, .ireturn, 1, 0, 0, 0, 0)]]
/-- ClosedRooms$Tape.readClause()I -/
def cd_13 : List (List CE) := [[(0, .aload_n 0, 1, 0, 0, 0, 0), (1, .invokevirtual 46, 3, 7, 1, 1, 0), (4, .aload_n 0, 1, 0, 0, 0, 0), (5, .getfield 19, 3, 1, 2, 2, 0), (8, .istore_n 1, 1, 0, 0, 0, 0), (9, .aload_n 0, 1, 0, 0, 0, 0), (10, .invokevirtual 57, 3, 8, 1, 1, 0), (13, .aload_n 0, 1, 0, 0, 0, 0), (14, .iload_n 1, 1, 0, 0, 0, 0), (15, .invokevirtual 60, 3, 11, 2, 1, 0)],
  [(18, .istore_n 2, 1, 0, 0, 0, 0), (19, .iload_n 2, 1, 0, 0, 0, 0), (20, .ifCond .lt 17, 3, 0, 0, 0, 0), (23, .iload_n 2, 1, 0, 0, 0, 0), (24, .iconst 4, 1, 0, 0, 0, 0), (25, .if_icmp .ge 12, 3, 0, 0, 0, 0), (28, .aload_n 0, 1, 0, 0, 0, 0), (29, .getfield 25, 3, 1, 4, 4, 0)],
  [(32, .iload_n 2, 1, 0, 0, 0, 0), (33, .baload, 1, 0, 0, 0, 0), (34, .ifCond .eq 5, 3, 0, 0, 0, 0), (37, .iload_n 1, 1, 0, 0, 0, 0), (38, .ireturn, 1, 0, 0, 0, 0), (39, .aload_n 0, 1, 0, 0, 0, 0), (40, .invokevirtual 46, 3, 7, 1, 1, 0), (43, .aload_n 0, 1, 0, 0, 0, 0), (44, .getfield 19, 3, 1, 2, 2, 0), (47, .istore_n 3, 1, 0, 0, 0, 0)],
  [(48, .aload_n 0, 1, 0, 0, 0, 0), (49, .invokevirtual 64, 3, 12, 1, 1, 0), (52, .istore 4, 2, 0, 0, 0, 0), (54, .iload 4, 2, 0, 0, 0, 0), (56, .getstatic 67, 3, 62, 0, 0, 0), (59, .iload_n 2, 1, 0, 0, 0, 0), (60, .iaload, 1, 0, 0, 0, 0), (61, .if_icmp .lt 13, 3, 0, 0, 0, 0)],
  [(64, .iload 4, 2, 0, 0, 0, 0), (66, .getstatic 70, 3, 63, 0, 0, 0), (69, .iload_n 2, 1, 0, 0, 0, 0), (70, .iaload, 1, 0, 0, 0, 0), (71, .if_icmp .le 5, 3, 0, 0, 0, 0), (74, .iload_n 3, 1, 0, 0, 0, 0), (75, .ireturn, 1, 0, 0, 0, 0), (76, .aload_n 0, 1, 0, 0, 0, 0), (77, .getfield 22, 3, 1, 3, 3, 0)],
  [(80, .iload_n 2, 1, 0, 0, 0, 0), (81, .iload 4, 2, 0, 0, 0, 0), (83, .iastore, 1, 0, 0, 0, 0), (84, .aload_n 0, 1, 0, 0, 0, 0), (85, .getfield 25, 3, 1, 4, 4, 0), (88, .iload_n 2, 1, 0, 0, 0, 0), (89, .iconst 1, 1, 0, 0, 0, 0), (90, .bastore, 1, 0, 0, 0, 0), (91, .iconst (-1), 1, 0, 0, 0, 0), (92, .ireturn, 1, 0, 0, 0, 0)]]
/-- ClosedRooms$Tape.stepWord(I)Ljava/lang/String; -/
def cd_14 : List (List CE) := [[(0, .iload_n 0, 1, 0, 0, 0, 0), (1, .tableswitch 120 0 14 #[75, 78, 81, 84, 87, 90, 93, 96, 99, 102, 105, 108, 111, 114, 117], 75, 0, 0, 0, 0)],
  [],
  [],
  [],
  [(76, .ldc 114, 2, 1, 0, 0, 4), (78, .areturn, 1, 0, 0, 0, 0), (79, .ldc 116, 2, 1, 0, 0, 5)],
  [(81, .areturn, 1, 0, 0, 0, 0), (82, .ldc 118, 2, 1, 0, 0, 6), (84, .areturn, 1, 0, 0, 0, 0), (85, .ldc 120, 2, 1, 0, 0, 7), (87, .areturn, 1, 0, 0, 0, 0), (88, .ldc 122, 2, 1, 0, 0, 8), (90, .areturn, 1, 0, 0, 0, 0), (91, .ldc 124, 2, 1, 0, 0, 9), (93, .areturn, 1, 0, 0, 0, 0), (94, .ldc 126, 2, 1, 0, 0, 10)],
  [(96, .areturn, 1, 0, 0, 0, 0), (97, .ldc 128, 2, 1, 0, 0, 11), (99, .areturn, 1, 0, 0, 0, 0), (100, .ldc 130, 2, 1, 0, 0, 12), (102, .areturn, 1, 0, 0, 0, 0), (103, .ldc 132, 2, 1, 0, 0, 13), (105, .areturn, 1, 0, 0, 0, 0), (106, .ldc 134, 2, 1, 0, 0, 14), (108, .areturn, 1, 0, 0, 0, 0), (109, .ldc 136, 2, 1, 0, 0, 15), (111, .areturn, 1, 0, 0, 0, 0)],
  [(112, .ldc 138, 2, 1, 0, 0, 16), (114, .areturn, 1, 0, 0, 0, 0), (115, .ldc 140, 2, 1, 0, 0, 17), (117, .areturn, 1, 0, 0, 0, 0), (118, .ldc 142, 2, 1, 0, 0, 18), (120, .areturn, 1, 0, 0, 0, 0), (121, .ldc 144, 2, 1, 0, 0, 19), (123, .areturn, 1, 0, 0, 0, 0)]]
/-- ClosedRooms$Tape.stepOf(I)I -/
def cd_15 : List (List CE) := [[(0, .iconst 0, 1, 0, 0, 0, 0), (1, .istore_n 2, 1, 0, 0, 0, 0), (2, .iload_n 2, 1, 0, 0, 0, 0), (3, .bipush 16, 2, 0, 0, 0, 0), (5, .if_icmp .ge 23, 3, 0, 0, 0, 0), (8, .aload_n 0, 1, 0, 0, 0, 0), (9, .iload_n 1, 1, 0, 0, 0, 0), (10, .iload_n 2, 1, 0, 0, 0, 0), (11, .invokestatic 95, 3, 14, 1, 1, 70), (14, .invokevirtual 91, 3, 10, 3, 1, 0)],
  [(17, .ifCond .eq 5, 3, 0, 0, 0, 0), (20, .iload_n 2, 1, 0, 0, 0, 0), (21, .ireturn, 1, 0, 0, 0, 0), (22, .iinc 2 1, 3, 0, 0, 0, 0), (25, .goto (-23), 3, 0, 0, 0, 0), (28, .iconst (-1), 1, 0, 0, 0, 0), (29, .ireturn, 1, 0, 0, 0, 0)]]
/-- ClosedRooms$Script.hasStep(I)Z -/
def cd_16 : List (List CE) := [[(0, .iload_n 1, 1, 0, 0, 0, 0), (1, .ifCond .lt 21, 3, 0, 0, 0, 0), (4, .iload_n 1, 1, 0, 0, 0, 0), (5, .aload_n 0, 1, 0, 0, 0, 0), (6, .getfield 9, 3, 2, 0, 0, 0), (9, .if_icmp .ge 13, 3, 0, 0, 0, 0), (12, .iload_n 1, 1, 0, 0, 0, 0), (13, .bipush 12, 2, 0, 0, 0, 0), (15, .if_icmp .ge 7, 3, 0, 0, 0, 0)],
  [(18, .iconst 1, 1, 0, 0, 0, 0), (19, .goto 4, 3, 0, 0, 0, 0), (22, .iconst 0, 1, 0, 0, 0, 0), (23, .ireturn, 1, 0, 0, 0, 0)]]
/-- ClosedRooms$Script.write(II)V -/
def cd_17 : List (List CE) := [[(0, .aload_n 0, 1, 0, 0, 0, 0), (1, .aload_n 0, 1, 0, 0, 0, 0), (2, .getfield 9, 3, 2, 0, 0, 0), (5, .iconst 1, 1, 0, 0, 0, 0), (6, .isub, 1, 0, 0, 0, 0), (7, .invokevirtual 25, 3, 16, 2, 2, 0), (10, .ifCond .eq 13, 3, 0, 0, 0, 0), (13, .iload_n 1, 1, 0, 0, 0, 0), (14, .ifCond .lt 9, 3, 0, 0, 0, 0)],
  [(17, .iload_n 1, 1, 0, 0, 0, 0), (18, .bipush 6, 2, 0, 0, 0, 0), (20, .if_icmp .lt 4, 3, 0, 0, 0, 0), (23, .return_, 1, 0, 0, 0, 0), (24, .aload_n 0, 1, 0, 0, 0, 0), (25, .getfield 15, 3, 2, 1, 1, 0), (28, .aload_n 0, 1, 0, 0, 0, 0), (29, .getfield 9, 3, 2, 0, 0, 0)],
  [(32, .iconst 1, 1, 0, 0, 0, 0), (33, .isub, 1, 0, 0, 0, 0), (34, .bipush 6, 2, 0, 0, 0, 0), (36, .imul, 1, 0, 0, 0, 0), (37, .iload_n 1, 1, 0, 0, 0, 0), (38, .iadd, 1, 0, 0, 0, 0), (39, .iload_n 2, 1, 0, 0, 0, 0), (40, .iastore, 1, 0, 0, 0, 0), (41, .return_, 1, 0, 0, 0, 0)]]
/-- ClosedRooms$Script.open(I)V -/
def cd_18 : List (List CE) := [[(0, .aload_n 0, 1, 0, 0, 0, 0), (1, .getfield 9, 3, 2, 0, 0, 0), (4, .ifCond .lt 12, 3, 0, 0, 0, 0), (7, .aload_n 0, 1, 0, 0, 0, 0), (8, .getfield 9, 3, 2, 0, 0, 0), (11, .bipush 12, 2, 0, 0, 0, 0), (13, .if_icmp .lt 4, 3, 0, 0, 0, 0)],
  [(16, .return_, 1, 0, 0, 0, 0), (17, .aload_n 0, 1, 0, 0, 0, 0), (18, .dup, 1, 0, 0, 0, 0), (19, .getfield 9, 3, 2, 0, 0, 0), (22, .iconst 1, 1, 0, 0, 0, 0), (23, .iadd, 1, 0, 0, 0, 0), (24, .putfield 9, 3, 2, 0, 0, 0), (27, .iconst 0, 1, 0, 0, 0, 0), (28, .istore_n 2, 1, 0, 0, 0, 0), (29, .iload_n 2, 1, 0, 0, 0, 0), (30, .bipush 6, 2, 0, 0, 0, 0)],
  [(32, .if_icmp .ge 15, 3, 0, 0, 0, 0), (35, .aload_n 0, 1, 0, 0, 0, 0), (36, .iload_n 2, 1, 0, 0, 0, 0), (37, .iconst (-1), 1, 0, 0, 0, 0), (38, .invokevirtual 29, 3, 17, 3, 2, 0), (41, .iinc 2 1, 3, 0, 0, 0, 0), (44, .goto (-15), 3, 0, 0, 0, 0), (47, .aload_n 0, 1, 0, 0, 0, 0)],
  [(48, .iconst 0, 1, 0, 0, 0, 0), (49, .iload_n 1, 1, 0, 0, 0, 0), (50, .invokevirtual 29, 3, 17, 3, 2, 0), (53, .return_, 1, 0, 0, 0, 0)]]
/-- ClosedRooms$Tape.readStep()I -/
def cd_19 : List (List CE) := [[(0, .aload_n 0, 1, 0, 0, 0, 0), (1, .invokevirtual 46, 3, 7, 1, 1, 0), (4, .aload_n 0, 1, 0, 0, 0, 0), (5, .getfield 19, 3, 1, 2, 2, 0), (8, .istore_n 1, 1, 0, 0, 0, 0), (9, .aload_n 0, 1, 0, 0, 0, 0), (10, .invokevirtual 57, 3, 8, 1, 1, 0), (13, .aload_n 0, 1, 0, 0, 0, 0), (14, .iload_n 1, 1, 0, 0, 0, 0), (15, .invokevirtual 73, 3, 15, 2, 1, 0)],
  [(18, .istore_n 2, 1, 0, 0, 0, 0), (19, .iload_n 2, 1, 0, 0, 0, 0), (20, .ifCond .lt 9, 3, 0, 0, 0, 0), (23, .iload_n 2, 1, 0, 0, 0, 0), (24, .bipush 16, 2, 0, 0, 0, 0), (26, .if_icmp .lt 5, 3, 0, 0, 0, 0), (29, .iload_n 1, 1, 0, 0, 0, 0), (30, .ireturn, 1, 0, 0, 0, 0), (31, .aload_n 0, 1, 0, 0, 0, 0)],
  [(32, .getfield 32, 3, 1, 5, 5, 0), (35, .iload_n 2, 1, 0, 0, 0, 0), (36, .invokevirtual 76, 3, 18, 2, 2, 0), (39, .iconst 1, 1, 0, 0, 0, 0), (40, .istore_n 3, 1, 0, 0, 0, 0), (41, .iload_n 3, 1, 0, 0, 0, 0), (42, .getstatic 80, 3, 65, 0, 0, 0), (45, .iload_n 2, 1, 0, 0, 0, 0), (46, .iaload, 1, 0, 0, 0, 0), (47, .if_icmp .gt 84, 3, 0, 0, 0, 0)],
  [(50, .aload_n 0, 1, 0, 0, 0, 0), (51, .invokevirtual 46, 3, 7, 1, 1, 0), (54, .iload_n 3, 1, 0, 0, 0, 0), (55, .iconst 1, 1, 0, 0, 0, 0), (56, .if_icmp .le 31, 3, 0, 0, 0, 0), (59, .aload_n 0, 1, 0, 0, 0, 0), (60, .bipush 44, 2, 0, 0, 0, 0), (62, .invokevirtual 49, 3, 6, 2, 1, 0)],
  [(65, .ifCond .ne 8, 3, 0, 0, 0, 0), (68, .aload_n 0, 1, 0, 0, 0, 0), (69, .getfield 19, 3, 1, 2, 2, 0), (72, .ireturn, 1, 0, 0, 0, 0), (73, .aload_n 0, 1, 0, 0, 0, 0), (74, .dup, 1, 0, 0, 0, 0), (75, .getfield 19, 3, 1, 2, 2, 0), (78, .iconst 1, 1, 0, 0, 0, 0), (79, .iadd, 1, 0, 0, 0, 0)],
  [(80, .putfield 19, 3, 1, 2, 2, 0), (83, .aload_n 0, 1, 0, 0, 0, 0), (84, .invokevirtual 46, 3, 7, 1, 1, 0), (87, .aload_n 0, 1, 0, 0, 0, 0), (88, .getfield 19, 3, 1, 2, 2, 0), (91, .istore 4, 2, 0, 0, 0, 0), (93, .aload_n 0, 1, 0, 0, 0, 0), (94, .invokevirtual 64, 3, 12, 1, 1, 0)],
  [(97, .istore 5, 2, 0, 0, 0, 0), (99, .iload 5, 2, 0, 0, 0, 0), (101, .ifCond .lt 11, 3, 0, 0, 0, 0), (104, .iload 5, 2, 0, 0, 0, 0), (106, .sipush 999, 3, 0, 0, 0, 0), (109, .if_icmp .le 6, 3, 0, 0, 0, 0)],
  [(112, .iload 4, 2, 0, 0, 0, 0), (114, .ireturn, 1, 0, 0, 0, 0), (115, .aload_n 0, 1, 0, 0, 0, 0), (116, .getfield 32, 3, 1, 5, 5, 0), (119, .iload_n 3, 1, 0, 0, 0, 0), (120, .iload 5, 2, 0, 0, 0, 0), (122, .invokevirtual 83, 3, 17, 3, 2, 0), (125, .iinc 3 1, 3, 0, 0, 0, 0)],
  [(128, .goto (-87), 3, 0, 0, 0, 0), (131, .iconst (-1), 1, 0, 0, 0, 0), (132, .ireturn, 1, 0, 0, 0, 0)]]
/-- ClosedRooms$Tape.faultAs(I)I -/
def cd_20 : List (List CE) := [[(0, .aload_n 0, 1, 0, 0, 0, 0), (1, .invokevirtual 36, 3, 5, 1, 1, 0), (4, .iconst 1, 1, 0, 0, 0, 0), (5, .istore_n 2, 1, 0, 0, 0, 0), (6, .iload_n 2, 1, 0, 0, 0, 0), (7, .sipush 320, 3, 0, 0, 0, 0), (10, .if_icmp .gt 84, 3, 0, 0, 0, 0), (13, .iload_n 1, 1, 0, 0, 0, 0), (14, .ifCond .ne 10, 3, 0, 0, 0, 0)],
  [(17, .aload_n 0, 1, 0, 0, 0, 0), (18, .invokevirtual 39, 3, 13, 1, 1, 0), (21, .goto 7, 3, 0, 0, 0, 0), (24, .aload_n 0, 1, 0, 0, 0, 0), (25, .invokevirtual 43, 3, 19, 1, 1, 0), (28, .istore_n 3, 1, 0, 0, 0, 0), (29, .iload_n 3, 1, 0, 0, 0, 0), (30, .iconst (-1), 1, 0, 0, 0, 0), (31, .if_icmp .eq 5, 3, 0, 0, 0, 0)],
  [(34, .iload_n 3, 1, 0, 0, 0, 0), (35, .ireturn, 1, 0, 0, 0, 0), (36, .aload_n 0, 1, 0, 0, 0, 0), (37, .invokevirtual 46, 3, 7, 1, 1, 0), (40, .aload_n 0, 1, 0, 0, 0, 0), (41, .getfield 19, 3, 1, 2, 2, 0), (44, .aload_n 0, 1, 0, 0, 0, 0), (45, .getfield 9, 3, 1, 0, 0, 0)],
  [(48, .if_icmp .lt 5, 3, 0, 0, 0, 0), (51, .iconst (-1), 1, 0, 0, 0, 0), (52, .ireturn, 1, 0, 0, 0, 0), (53, .aload_n 0, 1, 0, 0, 0, 0), (54, .bipush 59, 2, 0, 0, 0, 0), (56, .invokevirtual 49, 3, 6, 2, 1, 0), (59, .ifCond .eq 14, 3, 0, 0, 0, 0), (62, .iload_n 1, 1, 0, 0, 0, 0), (63, .iconst 1, 1, 0, 0, 0, 0)],
  [(64, .if_icmp .ne 14, 3, 0, 0, 0, 0), (67, .iload_n 2, 1, 0, 0, 0, 0), (68, .bipush 12, 2, 0, 0, 0, 0), (70, .if_icmp .lt 8, 3, 0, 0, 0, 0), (73, .aload_n 0, 1, 0, 0, 0, 0), (74, .getfield 19, 3, 1, 2, 2, 0), (77, .ireturn, 1, 0, 0, 0, 0), (78, .aload_n 0, 1, 0, 0, 0, 0), (79, .dup, 1, 0, 0, 0, 0)],
  [(80, .getfield 19, 3, 1, 2, 2, 0), (83, .iconst 1, 1, 0, 0, 0, 0), (84, .iadd, 1, 0, 0, 0, 0), (85, .putfield 19, 3, 1, 2, 2, 0), (88, .iinc 2 1, 3, 0, 0, 0, 0), (91, .goto (-85), 3, 0, 0, 0, 0), (94, .aload_n 0, 1, 0, 0, 0, 0), (95, .getfield 9, 3, 1, 0, 0, 0)],
  [(98, .ireturn, 1, 0, 0, 0, 0)]]
/-- ClosedRooms.fault(I)I -/
def cd_21 : List (List CE) := [[(0, .iload_n 1, 1, 0, 0, 0, 0), (1, .ifCond .eq 11, 3, 0, 0, 0, 0), (4, .iload_n 1, 1, 0, 0, 0, 0), (5, .iconst 1, 1, 0, 0, 0, 0), (6, .if_icmp .eq 6, 3, 0, 0, 0, 0), (9, .bipush (-2), 2, 0, 0, 0, 0), (11, .ireturn, 1, 0, 0, 0, 0), (12, .aload_n 0, 1, 0, 0, 0, 0), (13, .getfield 10, 3, 0, 0, 0, 0)],
  [(16, .iload_n 1, 1, 0, 0, 0, 0), (17, .invokevirtual 83, 3, 20, 2, 1, 0), (20, .ireturn, 1, 0, 0, 0, 0)]]
/-- ClosedRooms$Page.begin(II)V -/
def cd_22 : List (List CE) := [[(0, .aload_n 0, 1, 0, 0, 0, 0), (1, .iload_n 1, 1, 0, 0, 0, 0), (2, .putfield 19, 3, 6, 0, 0, 0), (5, .aload_n 0, 1, 0, 0, 0, 0), (6, .iload_n 2, 1, 0, 0, 0, 0), (7, .putfield 23, 3, 6, 1, 1, 0), (10, .aload_n 0, 1, 0, 0, 0, 0), (11, .iconst (-1), 1, 0, 0, 0, 0), (12, .putfield 26, 3, 6, 2, 2, 0), (15, .aload_n 0, 1, 0, 0, 0, 0)],
  [(16, .iconst 0, 1, 0, 0, 0, 0), (17, .putfield 29, 3, 6, 3, 3, 0), (20, .aload_n 0, 1, 0, 0, 0, 0), (21, .iconst 0, 1, 0, 0, 0, 0), (22, .putfield 32, 3, 6, 4, 4, 0), (25, .aload_n 0, 1, 0, 0, 0, 0), (26, .iconst 0, 1, 0, 0, 0, 0), (27, .putfield 35, 3, 6, 5, 5, 0), (30, .aload_n 0, 1, 0, 0, 0, 0), (31, .iconst 0, 1, 0, 0, 0, 0)],
  [(32, .putfield 39, 3, 6, 6, 6, 0), (35, .aload_n 0, 1, 0, 0, 0, 0), (36, .iconst 0, 1, 0, 0, 0, 0), (37, .putfield 42, 3, 6, 7, 7, 0), (40, .iconst 0, 1, 0, 0, 0, 0), (41, .istore_n 3, 1, 0, 0, 0, 0), (42, .iload_n 3, 1, 0, 0, 0, 0), (43, .iconst 4, 1, 0, 0, 0, 0), (44, .if_icmp .ge 16, 3, 0, 0, 0, 0), (47, .aload_n 0, 1, 0, 0, 0, 0)],
  [(48, .getfield 9, 3, 6, 8, 8, 0), (51, .iload_n 3, 1, 0, 0, 0, 0), (52, .iconst 0, 1, 0, 0, 0, 0), (53, .iastore, 1, 0, 0, 0, 0), (54, .iinc 3 1, 3, 0, 0, 0, 0), (57, .goto (-15), 3, 0, 0, 0, 0), (60, .return_, 1, 0, 0, 0, 0)]]
/-- ClosedRooms$Core.goOutside()V -/
def cd_23 : List (List CE) := [[(0, .aload_n 0, 1, 0, 0, 0, 0), (1, .iconst (-1), 1, 0, 0, 0, 0), (2, .putfield 15, 3, 8, 1, 1, 0), (5, .aload_n 0, 1, 0, 0, 0, 0), (6, .iconst (-1), 1, 0, 0, 0, 0), (7, .putfield 18, 3, 8, 2, 2, 0), (10, .aload_n 0, 1, 0, 0, 0, 0), (11, .iconst (-1), 1, 0, 0, 0, 0), (12, .putfield 21, 3, 8, 3, 3, 0), (15, .aload_n 0, 1, 0, 0, 0, 0)],
  [(16, .iconst 0, 1, 0, 0, 0, 0), (17, .putfield 24, 3, 8, 4, 4, 0), (20, .return_, 1, 0, 0, 0, 0)]]
/-- ClosedRooms$Core.begin()V -/
def cd_24 : List (List CE) := [[(0, .aload_n 0, 1, 0, 0, 0, 0), (1, .iconst 0, 1, 0, 0, 0, 0), (2, .putfield 9, 3, 8, 0, 0, 0), (5, .aload_n 0, 1, 0, 0, 0, 0), (6, .invokevirtual 34, 3, 23, 1, 8, 0), (9, .return_, 1, 0, 0, 0, 0)]]
/-- ClosedRooms$Log.begin()V -/
def cd_25 : List (List CE) := [[(0, .aload_n 0, 1, 0, 0, 0, 0), (1, .iconst 0, 1, 0, 0, 0, 0), (2, .putfield 9, 3, 5, 0, 0, 0), (5, .aload_n 0, 1, 0, 0, 0, 0), (6, .iconst 0, 1, 0, 0, 0, 0), (7, .putfield 15, 3, 5, 1, 1, 0), (10, .return_, 1, 0, 0, 0, 0)]]
/-- ClosedRooms$World.begin(III)V -/
def cd_26 : List (List CE) := [[(0, .aload_n 0, 1, 0, 0, 0, 0), (1, .iload_n 1, 1, 0, 0, 0, 0), (2, .putfield 9, 3, 4, 0, 0, 0), (5, .aload_n 0, 1, 0, 0, 0, 0), (6, .iload_n 2, 1, 0, 0, 0, 0), (7, .putfield 15, 3, 4, 1, 1, 0), (10, .aload_n 0, 1, 0, 0, 0, 0), (11, .iload_n 3, 1, 0, 0, 0, 0), (12, .putfield 18, 3, 4, 2, 2, 0), (15, .aload_n 0, 1, 0, 0, 0, 0)],
  [(16, .iconst 0, 1, 0, 0, 0, 0), (17, .putfield 21, 3, 4, 3, 3, 0), (20, .aload_n 0, 1, 0, 0, 0, 0), (21, .iconst 0, 1, 0, 0, 0, 0), (22, .putfield 24, 3, 4, 4, 4, 0), (25, .iconst 0, 1, 0, 0, 0, 0), (26, .istore 4, 2, 0, 0, 0, 0), (28, .iload 4, 2, 0, 0, 0, 0), (30, .bipush 10, 2, 0, 0, 0, 0)],
  [(32, .if_icmp .ge 21, 3, 0, 0, 0, 0), (35, .aload_n 0, 1, 0, 0, 0, 0), (36, .getfield 29, 3, 4, 5, 5, 0), (39, .iload 4, 2, 0, 0, 0, 0), (41, .aaload, 1, 0, 0, 0, 0), (42, .iconst 0, 1, 0, 0, 0, 0), (43, .iconst (-1), 1, 0, 0, 0, 0), (44, .invokevirtual 62, 3, 22, 3, 6, 0), (47, .iinc 4 1, 3, 0, 0, 0, 0)],
  [(50, .goto (-22), 3, 0, 0, 0, 0), (53, .iconst 0, 1, 0, 0, 0, 0), (54, .istore 4, 2, 0, 0, 0, 0), (56, .iload 4, 2, 0, 0, 0, 0), (58, .iconst 4, 1, 0, 0, 0, 0), (59, .if_icmp .ge 20, 3, 0, 0, 0, 0), (62, .aload_n 0, 1, 0, 0, 0, 0), (63, .getfield 35, 3, 4, 6, 6, 0)],
  [(66, .iload 4, 2, 0, 0, 0, 0), (68, .aaload, 1, 0, 0, 0, 0), (69, .iconst 0, 1, 0, 0, 0, 0), (70, .putfield 66, 3, 7, 0, 0, 0), (73, .iinc 4 1, 3, 0, 0, 0, 0), (76, .goto (-20), 3, 0, 0, 0, 0), (79, .iconst 0, 1, 0, 0, 0, 0)],
  [(80, .istore 4, 2, 0, 0, 0, 0), (82, .iload 4, 2, 0, 0, 0, 0), (84, .iconst 3, 1, 0, 0, 0, 0), (85, .if_icmp .ge 19, 3, 0, 0, 0, 0), (88, .aload_n 0, 1, 0, 0, 0, 0), (89, .getfield 41, 3, 4, 7, 7, 0), (92, .iload 4, 2, 0, 0, 0, 0), (94, .aaload, 1, 0, 0, 0, 0), (95, .invokevirtual 70, 3, 24, 1, 8, 0)],
  [(98, .iinc 4 1, 3, 0, 0, 0, 0), (101, .goto (-19), 3, 0, 0, 0, 0), (104, .iconst 0, 1, 0, 0, 0, 0), (105, .istore 4, 2, 0, 0, 0, 0), (107, .iload 4, 2, 0, 0, 0, 0), (109, .bipush 12, 2, 0, 0, 0, 0), (111, .if_icmp .ge 20, 3, 0, 0, 0, 0)],
  [(114, .aload_n 0, 1, 0, 0, 0, 0), (115, .getfield 47, 3, 4, 8, 8, 0), (118, .iload 4, 2, 0, 0, 0, 0), (120, .aaload, 1, 0, 0, 0, 0), (121, .iconst 0, 1, 0, 0, 0, 0), (122, .putfield 72, 3, 9, 0, 0, 0), (125, .iinc 4 1, 3, 0, 0, 0, 0)],
  [(128, .goto (-21), 3, 0, 0, 0, 0), (131, .aload_n 0, 1, 0, 0, 0, 0), (132, .getfield 54, 3, 4, 9, 9, 0), (135, .invokevirtual 73, 3, 25, 1, 5, 0), (138, .return_, 1, 0, 0, 0, 0)]]
/-- ClosedRooms.takeMachine()I -/
def cd_27 : List (List CE) := [[(0, .aload_n 0, 1, 0, 0, 0, 0), (1, .getfield 10, 3, 0, 0, 0, 0), (4, .iconst 0, 1, 0, 0, 0, 0), (5, .invokevirtual 83, 3, 20, 2, 1, 0), (8, .iconst (-1), 1, 0, 0, 0, 0), (9, .if_icmp .eq 5, 3, 0, 0, 0, 0), (12, .iconst (-1), 1, 0, 0, 0, 0), (13, .ireturn, 1, 0, 0, 0, 0), (14, .aload_n 0, 1, 0, 0, 0, 0), (15, .getfield 10, 3, 0, 0, 0, 0)],
  [(18, .iconst 0, 1, 0, 0, 0, 0), (19, .putfield 76, 3, 1, 0, 0, 0), (22, .aload_n 0, 1, 0, 0, 0, 0), (23, .getfield 10, 3, 0, 0, 0, 0), (26, .getfield 93, 3, 1, 3, 3, 0), (29, .iconst 0, 1, 0, 0, 0, 0), (30, .aload_n 0, 1, 0, 0, 0, 0), (31, .getfield 16, 3, 0, 1, 1, 0)],
  [(34, .iconst 0, 1, 0, 0, 0, 0), (35, .iconst 4, 1, 0, 0, 0, 0), (36, .invokestatic 94, 3, 900, 5, 0, 0), (39, .aload_n 0, 1, 0, 0, 0, 0), (40, .iconst 1, 1, 0, 0, 0, 0), (41, .putfield 20, 3, 0, 2, 2, 0), (44, .aload_n 0, 1, 0, 0, 0, 0), (45, .iconst 0, 1, 0, 0, 0, 0), (46, .putfield 55, 3, 0, 9, 9, 0)],
  [(49, .aload_n 0, 1, 0, 0, 0, 0), (50, .iconst 0, 1, 0, 0, 0, 0), (51, .putfield 65, 3, 0, 12, 12, 0), (54, .aload_n 0, 1, 0, 0, 0, 0), (55, .getfield 45, 3, 0, 6, 6, 0), (58, .aload_n 0, 1, 0, 0, 0, 0), (59, .getfield 16, 3, 0, 1, 1, 0), (62, .iconst 0, 1, 0, 0, 0, 0), (63, .iaload, 1, 0, 0, 0, 0)],
  [(64, .aload_n 0, 1, 0, 0, 0, 0), (65, .getfield 16, 3, 0, 1, 1, 0), (68, .iconst 1, 1, 0, 0, 0, 0), (69, .iaload, 1, 0, 0, 0, 0), (70, .aload_n 0, 1, 0, 0, 0, 0), (71, .getfield 16, 3, 0, 1, 1, 0), (74, .iconst 2, 1, 0, 0, 0, 0), (75, .iaload, 1, 0, 0, 0, 0), (76, .invokevirtual 100, 3, 26, 4, 4, 0), (79, .aload_n 0, 1, 0, 0, 0, 0)],
  [(80, .getfield 16, 3, 0, 1, 1, 0), (83, .iconst 0, 1, 0, 0, 0, 0), (84, .iaload, 1, 0, 0, 0, 0), (85, .ireturn, 1, 0, 0, 0, 0)]]
/-- ClosedRooms$Script.take(LClosedRooms$Script;)V -/
def cd_28 : List (List CE) := [[(0, .aload_n 0, 1, 0, 0, 0, 0), (1, .aload_n 1, 1, 0, 0, 0, 0), (2, .getfield 9, 3, 2, 0, 0, 0), (5, .putfield 9, 3, 2, 0, 0, 0), (8, .aload_n 1, 1, 0, 0, 0, 0), (9, .getfield 15, 3, 2, 1, 1, 0), (12, .iconst 0, 1, 0, 0, 0, 0), (13, .aload_n 0, 1, 0, 0, 0, 0), (14, .getfield 15, 3, 2, 1, 1, 0)],
  [(17, .iconst 0, 1, 0, 0, 0, 0), (18, .bipush 72, 2, 0, 0, 0, 0), (20, .invokestatic 19, 3, 900, 5, 0, 0), (23, .return_, 1, 0, 0, 0, 0)]]
/-- ClosedRooms.takeScript()I -/
def cd_29 : List (List CE) := [[(0, .aload_n 0, 1, 0, 0, 0, 0), (1, .getfield 30, 3, 0, 4, 4, 0), (4, .ifCond .lt 11, 3, 0, 0, 0, 0), (7, .aload_n 0, 1, 0, 0, 0, 0), (8, .getfield 30, 3, 0, 4, 4, 0), (11, .iconst 4, 1, 0, 0, 0, 0), (12, .if_icmp .lt 5, 3, 0, 0, 0, 0), (15, .iconst (-1), 1, 0, 0, 0, 0)],
  [(16, .ireturn, 1, 0, 0, 0, 0), (17, .aload_n 0, 1, 0, 0, 0, 0), (18, .getfield 10, 3, 0, 0, 0, 0), (21, .iconst 1, 1, 0, 0, 0, 0), (22, .invokevirtual 83, 3, 20, 2, 1, 0), (25, .iconst (-1), 1, 0, 0, 0, 0), (26, .if_icmp .eq 5, 3, 0, 0, 0, 0), (29, .iconst (-1), 1, 0, 0, 0, 0), (30, .ireturn, 1, 0, 0, 0, 0), (31, .aload_n 0, 1, 0, 0, 0, 0)],
  [(32, .getfield 10, 3, 0, 0, 0, 0), (35, .iconst 0, 1, 0, 0, 0, 0), (36, .putfield 76, 3, 1, 0, 0, 0), (39, .aload_n 0, 1, 0, 0, 0, 0), (40, .getfield 26, 3, 0, 3, 3, 0), (43, .aload_n 0, 1, 0, 0, 0, 0), (44, .getfield 30, 3, 0, 4, 4, 0), (47, .aaload, 1, 0, 0, 0, 0)],
  [(48, .aload_n 0, 1, 0, 0, 0, 0), (49, .getfield 10, 3, 0, 0, 0, 0), (52, .getfield 104, 3, 1, 5, 5, 0), (55, .invokevirtual 108, 3, 28, 2, 2, 0), (58, .aload_n 0, 1, 0, 0, 0, 0), (59, .dup, 1, 0, 0, 0, 0), (60, .getfield 30, 3, 0, 4, 4, 0), (63, .iconst 1, 1, 0, 0, 0, 0)],
  [(64, .iadd, 1, 0, 0, 0, 0), (65, .putfield 30, 3, 0, 4, 4, 0), (68, .aload_n 0, 1, 0, 0, 0, 0), (69, .getfield 30, 3, 0, 4, 4, 0), (72, .iconst 1, 1, 0, 0, 0, 0), (73, .isub, 1, 0, 0, 0, 0), (74, .ireturn, 1, 0, 0, 0, 0)]]
/-- ClosedRooms.text(I)I -/
def cd_30 : List (List CE) := [[(0, .iload_n 1, 1, 0, 0, 0, 0), (1, .ifCond .ne 8, 3, 0, 0, 0, 0), (4, .aload_n 0, 1, 0, 0, 0, 0), (5, .invokevirtual 86, 3, 27, 1, 0, 0), (8, .ireturn, 1, 0, 0, 0, 0), (9, .iload_n 1, 1, 0, 0, 0, 0), (10, .iconst 1, 1, 0, 0, 0, 0), (11, .if_icmp .ne 8, 3, 0, 0, 0, 0), (14, .aload_n 0, 1, 0, 0, 0, 0), (15, .invokevirtual 90, 3, 29, 1, 0, 0)],
  [(18, .ireturn, 1, 0, 0, 0, 0), (19, .iconst (-1), 1, 0, 0, 0, 0), (20, .ireturn, 1, 0, 0, 0, 0)]]
/-- ClosedRooms.rule(I)I -/
def cd_31 : List (List CE) := [[(0, .aload_n 0, 1, 0, 0, 0, 0), (1, .getfield 20, 3, 0, 2, 2, 0), (4, .ifCond .eq 12, 3, 0, 0, 0, 0), (7, .iload_n 1, 1, 0, 0, 0, 0), (8, .ifCond .lt 8, 3, 0, 0, 0, 0), (11, .iload_n 1, 1, 0, 0, 0, 0), (12, .iconst 4, 1, 0, 0, 0, 0), (13, .if_icmp .lt 5, 3, 0, 0, 0, 0)],
  [(16, .iconst (-1), 1, 0, 0, 0, 0), (17, .ireturn, 1, 0, 0, 0, 0), (18, .aload_n 0, 1, 0, 0, 0, 0), (19, .getfield 16, 3, 0, 1, 1, 0), (22, .iload_n 1, 1, 0, 0, 0, 0), (23, .iaload, 1, 0, 0, 0, 0), (24, .ireturn, 1, 0, 0, 0, 0)]]
/-- ClosedRooms$World.isPage(I)Z -/
def cd_32 : List (List CE) := [[(0, .iload_n 1, 1, 0, 0, 0, 0), (1, .ifCond .lt 21, 3, 0, 0, 0, 0), (4, .iload_n 1, 1, 0, 0, 0, 0), (5, .aload_n 0, 1, 0, 0, 0, 0), (6, .getfield 9, 3, 4, 0, 0, 0), (9, .if_icmp .ge 13, 3, 0, 0, 0, 0), (12, .iload_n 1, 1, 0, 0, 0, 0), (13, .bipush 10, 2, 0, 0, 0, 0), (15, .if_icmp .ge 7, 3, 0, 0, 0, 0)],
  [(18, .iconst 1, 1, 0, 0, 0, 0), (19, .goto 4, 3, 0, 0, 0, 0), (22, .iconst 0, 1, 0, 0, 0, 0), (23, .ireturn, 1, 0, 0, 0, 0)]]
/-- ClosedRooms$Page.hasRoom()Z -/
def cd_33 : List (List CE) := [[(0, .aload_n 0, 1, 0, 0, 0, 0), (1, .getfield 19, 3, 6, 0, 0, 0), (4, .iconst 1, 1, 0, 0, 0, 0), (5, .if_icmp .eq 19, 3, 0, 0, 0, 0), (8, .aload_n 0, 1, 0, 0, 0, 0), (9, .getfield 19, 3, 6, 0, 0, 0), (12, .iconst 2, 1, 0, 0, 0, 0), (13, .if_icmp .eq 11, 3, 0, 0, 0, 0)],
  [(16, .aload_n 0, 1, 0, 0, 0, 0), (17, .getfield 19, 3, 6, 0, 0, 0), (20, .iconst 3, 1, 0, 0, 0, 0), (21, .if_icmp .ne 7, 3, 0, 0, 0, 0), (24, .iconst 1, 1, 0, 0, 0, 0), (25, .goto 4, 3, 0, 0, 0, 0), (28, .iconst 0, 1, 0, 0, 0, 0), (29, .ireturn, 1, 0, 0, 0, 0)]]
/-- ClosedRooms.page(II)I -/
def cd_34 : List (List CE) := [[(0, .aload_n 0, 1, 0, 0, 0, 0), (1, .getfield 45, 3, 0, 6, 6, 0), (4, .iload_n 1, 1, 0, 0, 0, 0), (5, .invokevirtual 112, 3, 32, 2, 4, 0), (8, .ifCond .eq 12, 3, 0, 0, 0, 0), (11, .iload_n 2, 1, 0, 0, 0, 0), (12, .ifCond .lt 8, 3, 0, 0, 0, 0), (15, .iload_n 2, 1, 0, 0, 0, 0)],
  [(16, .iconst 5, 1, 0, 0, 0, 0), (17, .if_icmp .le 6, 3, 0, 0, 0, 0), (20, .ldc 116, 2, 0, 0, 0, (-1000000)), (22, .ireturn, 1, 0, 0, 0, 0), (23, .aload_n 0, 1, 0, 0, 0, 0), (24, .getfield 45, 3, 0, 6, 6, 0), (27, .getfield 117, 3, 4, 5, 5, 0), (30, .iload_n 1, 1, 0, 0, 0, 0), (31, .aaload, 1, 0, 0, 0, 0)],
  [(32, .astore_n 3, 1, 0, 0, 0, 0), (33, .iload_n 2, 1, 0, 0, 0, 0), (34, .ifCond .ne 8, 3, 0, 0, 0, 0), (37, .aload_n 3, 1, 0, 0, 0, 0), (38, .getfield 121, 3, 6, 0, 0, 0), (41, .ireturn, 1, 0, 0, 0, 0), (42, .aload_n 3, 1, 0, 0, 0, 0), (43, .invokevirtual 126, 3, 33, 1, 6, 0), (46, .ifCond .ne 5, 3, 0, 0, 0, 0)],
  [(49, .iconst (-1), 1, 0, 0, 0, 0), (50, .ireturn, 1, 0, 0, 0, 0), (51, .iload_n 2, 1, 0, 0, 0, 0), (52, .tableswitch 60 1 4 #[32, 37, 42, 47], 32, 0, 0, 0, 0)],
  [],
  [(84, .aload_n 3, 1, 0, 0, 0, 0), (85, .getfield 130, 3, 6, 1, 1, 0), (88, .ireturn, 1, 0, 0, 0, 0), (89, .aload_n 3, 1, 0, 0, 0, 0), (90, .getfield 133, 3, 6, 2, 2, 0), (93, .ireturn, 1, 0, 0, 0, 0), (94, .aload_n 3, 1, 0, 0, 0, 0), (95, .getfield 136, 3, 6, 3, 3, 0)],
  [(98, .ireturn, 1, 0, 0, 0, 0), (99, .aload_n 3, 1, 0, 0, 0, 0), (100, .getfield 139, 3, 6, 5, 5, 0), (103, .ifCond .eq 7, 3, 0, 0, 0, 0), (106, .iconst 1, 1, 0, 0, 0, 0), (107, .goto 4, 3, 0, 0, 0, 0), (110, .iconst 0, 1, 0, 0, 0, 0), (111, .ireturn, 1, 0, 0, 0, 0)],
  [(112, .aload_n 3, 1, 0, 0, 0, 0), (113, .getfield 121, 3, 6, 0, 0, 0), (116, .iconst 3, 1, 0, 0, 0, 0), (117, .if_icmp .ne 10, 3, 0, 0, 0, 0), (120, .aload_n 3, 1, 0, 0, 0, 0), (121, .getfield 142, 3, 6, 7, 7, 0), (124, .goto 4, 3, 0, 0, 0, 0), (127, .iconst (-1), 1, 0, 0, 0, 0)],
  [(128, .ireturn, 1, 0, 0, 0, 0)]]
/-- ClosedRooms$World.isSlots(I)Z -/
def cd_35 : List (List CE) := [[(0, .aload_n 0, 1, 0, 0, 0, 0), (1, .iload_n 1, 1, 0, 0, 0, 0), (2, .invokevirtual 90, 3, 32, 2, 4, 0), (5, .ifCond .eq 20, 3, 0, 0, 0, 0), (8, .aload_n 0, 1, 0, 0, 0, 0), (9, .getfield 29, 3, 4, 5, 5, 0), (12, .iload_n 1, 1, 0, 0, 0, 0), (13, .aaload, 1, 0, 0, 0, 0), (14, .getfield 94, 3, 6, 0, 0, 0)],
  [(17, .iconst 4, 1, 0, 0, 0, 0), (18, .if_icmp .ne 7, 3, 0, 0, 0, 0), (21, .iconst 1, 1, 0, 0, 0, 0), (22, .goto 4, 3, 0, 0, 0, 0), (25, .iconst 0, 1, 0, 0, 0, 0), (26, .ireturn, 1, 0, 0, 0, 0)]]
/-- ClosedRooms.version(II)I -/
def cd_36 : List (List CE) := [[(0, .aload_n 0, 1, 0, 0, 0, 0), (1, .getfield 45, 3, 0, 6, 6, 0), (4, .iload_n 1, 1, 0, 0, 0, 0), (5, .invokevirtual 145, 3, 35, 2, 4, 0), (8, .ifCond .eq 12, 3, 0, 0, 0, 0), (11, .iload_n 2, 1, 0, 0, 0, 0), (12, .ifCond .lt 8, 3, 0, 0, 0, 0), (15, .iload_n 2, 1, 0, 0, 0, 0)],
  [(16, .iconst 4, 1, 0, 0, 0, 0), (17, .if_icmp .lt 5, 3, 0, 0, 0, 0), (20, .iconst (-1), 1, 0, 0, 0, 0), (21, .ireturn, 1, 0, 0, 0, 0), (22, .aload_n 0, 1, 0, 0, 0, 0), (23, .getfield 45, 3, 0, 6, 6, 0), (26, .getfield 117, 3, 4, 5, 5, 0), (29, .iload_n 1, 1, 0, 0, 0, 0), (30, .aaload, 1, 0, 0, 0, 0), (31, .getfield 148, 3, 6, 8, 8, 0)],
  [(34, .iload_n 2, 1, 0, 0, 0, 0), (35, .iaload, 1, 0, 0, 0, 0), (36, .ireturn, 1, 0, 0, 0, 0)]]
/-- ClosedRooms$World.isRoom(I)Z -/
def cd_37 : List (List CE) := [[(0, .iload_n 1, 1, 0, 0, 0, 0), (1, .ifCond .lt 24, 3, 0, 0, 0, 0), (4, .iload_n 1, 1, 0, 0, 0, 0), (5, .iconst 4, 1, 0, 0, 0, 0), (6, .if_icmp .ge 19, 3, 0, 0, 0, 0), (9, .aload_n 0, 1, 0, 0, 0, 0), (10, .getfield 35, 3, 4, 6, 6, 0), (13, .iload_n 1, 1, 0, 0, 0, 0), (14, .aaload, 1, 0, 0, 0, 0), (15, .getfield 66, 3, 7, 0, 0, 0)],
  [(18, .ifCond .eq 7, 3, 0, 0, 0, 0), (21, .iconst 1, 1, 0, 0, 0, 0), (22, .goto 4, 3, 0, 0, 0, 0), (25, .iconst 0, 1, 0, 0, 0, 0), (26, .ireturn, 1, 0, 0, 0, 0)]]
/-- ClosedRooms$Room.hasAddress(I)Z -/
def cd_38 : List (List CE) := [[(0, .iload_n 1, 1, 0, 0, 0, 0), (1, .ifCond .lt 21, 3, 0, 0, 0, 0), (4, .iload_n 1, 1, 0, 0, 0, 0), (5, .aload_n 0, 1, 0, 0, 0, 0), (6, .getfield 19, 3, 7, 2, 2, 0), (9, .if_icmp .ge 13, 3, 0, 0, 0, 0), (12, .iload_n 1, 1, 0, 0, 0, 0), (13, .bipush 8, 2, 0, 0, 0, 0), (15, .if_icmp .ge 7, 3, 0, 0, 0, 0)],
  [(18, .iconst 1, 1, 0, 0, 0, 0), (19, .goto 4, 3, 0, 0, 0, 0), (22, .iconst 0, 1, 0, 0, 0, 0), (23, .ireturn, 1, 0, 0, 0, 0)]]
/-- ClosedRooms.mapped(II)I -/
def cd_39 : List (List CE) := [[(0, .aload_n 0, 1, 0, 0, 0, 0), (1, .getfield 45, 3, 0, 6, 6, 0), (4, .iload_n 1, 1, 0, 0, 0, 0), (5, .invokevirtual 151, 3, 37, 2, 4, 0), (8, .ifCond .eq 19, 3, 0, 0, 0, 0), (11, .aload_n 0, 1, 0, 0, 0, 0), (12, .getfield 45, 3, 0, 6, 6, 0), (15, .getfield 161, 3, 4, 6, 6, 0)],
  [(18, .iload_n 1, 1, 0, 0, 0, 0), (19, .aaload, 1, 0, 0, 0, 0), (20, .iload_n 2, 1, 0, 0, 0, 0), (21, .invokevirtual 193, 3, 38, 2, 7, 0), (24, .ifCond .ne 5, 3, 0, 0, 0, 0), (27, .iconst (-1), 1, 0, 0, 0, 0), (28, .ireturn, 1, 0, 0, 0, 0), (29, .aload_n 0, 1, 0, 0, 0, 0), (30, .getfield 45, 3, 0, 6, 6, 0)],
  [(33, .getfield 161, 3, 4, 6, 6, 0), (36, .iload_n 1, 1, 0, 0, 0, 0), (37, .aaload, 1, 0, 0, 0, 0), (38, .getfield 196, 3, 7, 8, 8, 0), (41, .iload_n 2, 1, 0, 0, 0, 0), (42, .iaload, 1, 0, 0, 0, 0), (43, .ireturn, 1, 0, 0, 0, 0)]]
/-- ClosedRooms$World.isCore(I)Z -/
def cd_40 : List (List CE) := [[(0, .iload_n 1, 1, 0, 0, 0, 0), (1, .ifCond .lt 20, 3, 0, 0, 0, 0), (4, .iload_n 1, 1, 0, 0, 0, 0), (5, .aload_n 0, 1, 0, 0, 0, 0), (6, .getfield 15, 3, 4, 1, 1, 0), (9, .if_icmp .ge 12, 3, 0, 0, 0, 0), (12, .iload_n 1, 1, 0, 0, 0, 0), (13, .iconst 3, 1, 0, 0, 0, 0), (14, .if_icmp .ge 7, 3, 0, 0, 0, 0)],
  [(17, .iconst 1, 1, 0, 0, 0, 0), (18, .goto 4, 3, 0, 0, 0, 0), (21, .iconst 0, 1, 0, 0, 0, 0), (22, .ireturn, 1, 0, 0, 0, 0)]]
/-- ClosedRooms.core(II)I -/
def cd_41 : List (List CE) := [[(0, .aload_n 0, 1, 0, 0, 0, 0), (1, .getfield 45, 3, 0, 6, 6, 0), (4, .iload_n 1, 1, 0, 0, 0, 0), (5, .invokevirtual 199, 3, 40, 2, 4, 0), (8, .ifCond .eq 12, 3, 0, 0, 0, 0), (11, .iload_n 2, 1, 0, 0, 0, 0), (12, .ifCond .lt 8, 3, 0, 0, 0, 0), (15, .iload_n 2, 1, 0, 0, 0, 0)],
  [(16, .iconst 4, 1, 0, 0, 0, 0), (17, .if_icmp .le 6, 3, 0, 0, 0, 0), (20, .ldc 116, 2, 0, 0, 0, (-1000000)), (22, .ireturn, 1, 0, 0, 0, 0), (23, .aload_n 0, 1, 0, 0, 0, 0), (24, .getfield 45, 3, 0, 6, 6, 0), (27, .getfield 202, 3, 4, 7, 7, 0), (30, .iload_n 1, 1, 0, 0, 0, 0), (31, .aaload, 1, 0, 0, 0, 0)],
  [(32, .astore_n 3, 1, 0, 0, 0, 0), (33, .iload_n 2, 1, 0, 0, 0, 0), (34, .tableswitch 50 0 3 #[30, 35, 40, 45], 30, 0, 0, 0, 0)],
  [],
  [(64, .aload_n 3, 1, 0, 0, 0, 0), (65, .getfield 206, 3, 8, 0, 0, 0), (68, .ireturn, 1, 0, 0, 0, 0), (69, .aload_n 3, 1, 0, 0, 0, 0), (70, .getfield 211, 3, 8, 1, 1, 0), (73, .ireturn, 1, 0, 0, 0, 0), (74, .aload_n 3, 1, 0, 0, 0, 0), (75, .getfield 212, 3, 8, 2, 2, 0), (78, .ireturn, 1, 0, 0, 0, 0), (79, .aload_n 3, 1, 0, 0, 0, 0)],
  [(80, .getfield 213, 3, 8, 3, 3, 0), (83, .ireturn, 1, 0, 0, 0, 0), (84, .aload_n 3, 1, 0, 0, 0, 0), (85, .getfield 216, 3, 8, 4, 4, 0), (88, .ireturn, 1, 0, 0, 0, 0)]]
/-- ClosedRooms.seen(III)I -/
def cd_42 : List (List CE) := [[(0, .aload_n 0, 1, 0, 0, 0, 0), (1, .getfield 45, 3, 0, 6, 6, 0), (4, .iload_n 1, 1, 0, 0, 0, 0), (5, .invokevirtual 199, 3, 40, 2, 4, 0), (8, .ifCond .eq 12, 3, 0, 0, 0, 0), (11, .iload_n 3, 1, 0, 0, 0, 0), (12, .ifCond .lt 8, 3, 0, 0, 0, 0), (15, .iload_n 3, 1, 0, 0, 0, 0)],
  [(16, .iconst 1, 1, 0, 0, 0, 0), (17, .if_icmp .le 5, 3, 0, 0, 0, 0), (20, .iconst (-1), 1, 0, 0, 0, 0), (21, .ireturn, 1, 0, 0, 0, 0), (22, .aload_n 0, 1, 0, 0, 0, 0), (23, .getfield 45, 3, 0, 6, 6, 0), (26, .getfield 202, 3, 4, 7, 7, 0), (29, .iload_n 1, 1, 0, 0, 0, 0), (30, .aaload, 1, 0, 0, 0, 0), (31, .astore 4, 2, 0, 0, 0, 0)],
  [(33, .iload_n 2, 1, 0, 0, 0, 0), (34, .ifCond .lt 17, 3, 0, 0, 0, 0), (37, .iload_n 2, 1, 0, 0, 0, 0), (38, .aload 4, 2, 0, 0, 0, 0), (40, .getfield 216, 3, 8, 4, 4, 0), (43, .if_icmp .ge 8, 3, 0, 0, 0, 0), (46, .iload_n 2, 1, 0, 0, 0, 0), (47, .iconst 3, 1, 0, 0, 0, 0)],
  [(48, .if_icmp .lt 5, 3, 0, 0, 0, 0), (51, .iconst (-1), 1, 0, 0, 0, 0), (52, .ireturn, 1, 0, 0, 0, 0), (53, .iload_n 3, 1, 0, 0, 0, 0), (54, .ifCond .ne 13, 3, 0, 0, 0, 0), (57, .aload 4, 2, 0, 0, 0, 0), (59, .getfield 219, 3, 8, 5, 5, 0), (62, .iload_n 2, 1, 0, 0, 0, 0), (63, .iaload, 1, 0, 0, 0, 0)],
  [(64, .goto 10, 3, 0, 0, 0, 0), (67, .aload 4, 2, 0, 0, 0, 0), (69, .getfield 222, 3, 8, 6, 6, 0), (72, .iload_n 2, 1, 0, 0, 0, 0), (73, .iaload, 1, 0, 0, 0, 0), (74, .ireturn, 1, 0, 0, 0, 0)]]
/-- ClosedRooms$World.isCopy(I)Z -/
def cd_43 : List (List CE) := [[(0, .iload_n 1, 1, 0, 0, 0, 0), (1, .ifCond .lt 25, 3, 0, 0, 0, 0), (4, .iload_n 1, 1, 0, 0, 0, 0), (5, .bipush 12, 2, 0, 0, 0, 0), (7, .if_icmp .ge 19, 3, 0, 0, 0, 0), (10, .aload_n 0, 1, 0, 0, 0, 0), (11, .getfield 47, 3, 4, 8, 8, 0), (14, .iload_n 1, 1, 0, 0, 0, 0), (15, .aaload, 1, 0, 0, 0, 0)],
  [(16, .getfield 72, 3, 9, 0, 0, 0), (19, .ifCond .eq 7, 3, 0, 0, 0, 0), (22, .iconst 1, 1, 0, 0, 0, 0), (23, .goto 4, 3, 0, 0, 0, 0), (26, .iconst 0, 1, 0, 0, 0, 0), (27, .ireturn, 1, 0, 0, 0, 0)]]
/-- ClosedRooms.copyOf(II)I -/
def cd_44 : List (List CE) := [[(0, .aload_n 0, 1, 0, 0, 0, 0), (1, .getfield 45, 3, 0, 6, 6, 0), (4, .iload_n 1, 1, 0, 0, 0, 0), (5, .invokevirtual 225, 3, 43, 2, 4, 0), (8, .ifCond .eq 12, 3, 0, 0, 0, 0), (11, .iload_n 2, 1, 0, 0, 0, 0), (12, .ifCond .lt 8, 3, 0, 0, 0, 0), (15, .iload_n 2, 1, 0, 0, 0, 0)],
  [(16, .iconst 5, 1, 0, 0, 0, 0), (17, .if_icmp .le 6, 3, 0, 0, 0, 0), (20, .ldc 116, 2, 0, 0, 0, (-1000000)), (22, .ireturn, 1, 0, 0, 0, 0), (23, .aload_n 0, 1, 0, 0, 0, 0), (24, .getfield 45, 3, 0, 6, 6, 0), (27, .getfield 228, 3, 4, 8, 8, 0), (30, .iload_n 1, 1, 0, 0, 0, 0), (31, .aaload, 1, 0, 0, 0, 0)],
  [(32, .astore_n 3, 1, 0, 0, 0, 0), (33, .iload_n 2, 1, 0, 0, 0, 0), (34, .tableswitch 59 0 4 #[34, 39, 44, 49, 54], 34, 0, 0, 0, 0)],
  [],
  [(68, .aload_n 3, 1, 0, 0, 0, 0), (69, .getfield 232, 3, 9, 1, 1, 0), (72, .ireturn, 1, 0, 0, 0, 0), (73, .aload_n 3, 1, 0, 0, 0, 0), (74, .getfield 235, 3, 9, 2, 2, 0), (77, .ireturn, 1, 0, 0, 0, 0), (78, .aload_n 3, 1, 0, 0, 0, 0), (79, .getfield 236, 3, 9, 3, 3, 0)],
  [(82, .ireturn, 1, 0, 0, 0, 0), (83, .aload_n 3, 1, 0, 0, 0, 0), (84, .getfield 237, 3, 9, 4, 4, 0), (87, .ireturn, 1, 0, 0, 0, 0), (88, .aload_n 3, 1, 0, 0, 0, 0), (89, .getfield 238, 3, 9, 7, 7, 0), (92, .ireturn, 1, 0, 0, 0, 0), (93, .aload_n 3, 1, 0, 0, 0, 0), (94, .getfield 241, 3, 9, 8, 8, 0)],
  [(97, .ifCond .eq 7, 3, 0, 0, 0, 0), (100, .iconst 1, 1, 0, 0, 0, 0), (101, .goto 4, 3, 0, 0, 0, 0), (104, .iconst 0, 1, 0, 0, 0, 0), (105, .ireturn, 1, 0, 0, 0, 0)]]
/-- java/lang/Math.floorMod(II)I -/
def cd_45 : List (List CE) := [[(0, .iload_n 0, 1, 0, 0, 0, 0), (1, .iload_n 1, 1, 0, 0, 0, 0), (2, .irem, 1, 0, 0, 0, 0), (3, .istore_n 2, 1, 0, 0, 0, 0), (4, .iload_n 0, 1, 0, 0, 0, 0), (5, .iload_n 1, 1, 0, 0, 0, 0), (6, .ixor, 1, 0, 0, 0, 0), (7, .ifCond .ge 11, 3, 0, 0, 0, 0), (10, .iload_n 2, 1, 0, 0, 0, 0), (11, .ifCond .eq 7, 3, 0, 0, 0, 0), (14, .iload_n 2, 1, 0, 0, 0, 0), (15, .iload_n 1, 1, 0, 0, 0, 0)],
  [(16, .iadd, 1, 0, 0, 0, 0), (17, .ireturn, 1, 0, 0, 0, 0), (18, .iload_n 2, 1, 0, 0, 0, 0), (19, .ireturn, 1, 0, 0, 0, 0)]]
/-- ClosedRooms.pastRow()LClosedRooms$World; -/
def cd_46 : List (List CE) := [[(0, .aload_n 0, 1, 0, 0, 0, 0), (1, .getfield 58, 3, 0, 10, 10, 0), (4, .aload_n 0, 1, 0, 0, 0, 0), (5, .getfield 62, 3, 0, 11, 11, 0), (8, .bipush 41, 2, 0, 0, 0, 0), (10, .invokestatic 266, 3, 45, 2, 11, 0), (13, .aaload, 1, 0, 0, 0, 0), (14, .areturn, 1, 0, 0, 0, 0)]]
/-- ClosedRooms$Page.take(LClosedRooms$Page;)V -/
def cd_47 : List (List CE) := [[(0, .aload_n 0, 1, 0, 0, 0, 0), (1, .aload_n 1, 1, 0, 0, 0, 0), (2, .getfield 19, 3, 6, 0, 0, 0), (5, .putfield 19, 3, 6, 0, 0, 0), (8, .aload_n 0, 1, 0, 0, 0, 0), (9, .aload_n 1, 1, 0, 0, 0, 0), (10, .getfield 23, 3, 6, 1, 1, 0), (13, .putfield 23, 3, 6, 1, 1, 0)],
  [(16, .aload_n 0, 1, 0, 0, 0, 0), (17, .aload_n 1, 1, 0, 0, 0, 0), (18, .getfield 26, 3, 6, 2, 2, 0), (21, .putfield 26, 3, 6, 2, 2, 0), (24, .aload_n 0, 1, 0, 0, 0, 0), (25, .aload_n 1, 1, 0, 0, 0, 0), (26, .getfield 29, 3, 6, 3, 3, 0), (29, .putfield 29, 3, 6, 3, 3, 0)],
  [(32, .aload_n 0, 1, 0, 0, 0, 0), (33, .aload_n 1, 1, 0, 0, 0, 0), (34, .getfield 32, 3, 6, 4, 4, 0), (37, .putfield 32, 3, 6, 4, 4, 0), (40, .aload_n 0, 1, 0, 0, 0, 0), (41, .aload_n 1, 1, 0, 0, 0, 0), (42, .getfield 35, 3, 6, 5, 5, 0), (45, .putfield 35, 3, 6, 5, 5, 0)],
  [(48, .aload_n 0, 1, 0, 0, 0, 0), (49, .aload_n 1, 1, 0, 0, 0, 0), (50, .getfield 39, 3, 6, 6, 6, 0), (53, .putfield 39, 3, 6, 6, 6, 0), (56, .aload_n 0, 1, 0, 0, 0, 0), (57, .aload_n 1, 1, 0, 0, 0, 0), (58, .getfield 42, 3, 6, 7, 7, 0), (61, .putfield 42, 3, 6, 7, 7, 0)],
  [(64, .aload_n 1, 1, 0, 0, 0, 0), (65, .getfield 9, 3, 6, 8, 8, 0), (68, .iconst 0, 1, 0, 0, 0, 0), (69, .aload_n 0, 1, 0, 0, 0, 0), (70, .getfield 9, 3, 6, 8, 8, 0), (73, .iconst 0, 1, 0, 0, 0, 0), (74, .iconst 4, 1, 0, 0, 0, 0), (75, .invokestatic 45, 3, 900, 5, 0, 0), (78, .return_, 1, 0, 0, 0, 0)]]
/-- ClosedRooms$Room.take(LClosedRooms$Room;)V -/
def cd_48 : List (List CE) := [[(0, .aload_n 0, 1, 0, 0, 0, 0), (1, .aload_n 1, 1, 0, 0, 0, 0), (2, .getfield 9, 3, 7, 0, 0, 0), (5, .putfield 9, 3, 7, 0, 0, 0), (8, .aload_n 0, 1, 0, 0, 0, 0), (9, .aload_n 1, 1, 0, 0, 0, 0), (10, .getfield 15, 3, 7, 1, 1, 0), (13, .putfield 15, 3, 7, 1, 1, 0)],
  [(16, .aload_n 0, 1, 0, 0, 0, 0), (17, .aload_n 1, 1, 0, 0, 0, 0), (18, .getfield 19, 3, 7, 2, 2, 0), (21, .putfield 19, 3, 7, 2, 2, 0), (24, .aload_n 0, 1, 0, 0, 0, 0), (25, .aload_n 1, 1, 0, 0, 0, 0), (26, .getfield 22, 3, 7, 3, 3, 0), (29, .putfield 22, 3, 7, 3, 3, 0)],
  [(32, .aload_n 0, 1, 0, 0, 0, 0), (33, .aload_n 1, 1, 0, 0, 0, 0), (34, .getfield 25, 3, 7, 4, 4, 0), (37, .putfield 25, 3, 7, 4, 4, 0), (40, .aload_n 0, 1, 0, 0, 0, 0), (41, .aload_n 1, 1, 0, 0, 0, 0), (42, .getfield 28, 3, 7, 5, 5, 0), (45, .putfield 28, 3, 7, 5, 5, 0)],
  [(48, .aload_n 0, 1, 0, 0, 0, 0), (49, .aload_n 1, 1, 0, 0, 0, 0), (50, .getfield 31, 3, 7, 6, 6, 0), (53, .putfield 31, 3, 7, 6, 6, 0), (56, .aload_n 1, 1, 0, 0, 0, 0), (57, .getfield 34, 3, 7, 7, 7, 0), (60, .iconst 0, 1, 0, 0, 0, 0), (61, .aload_n 0, 1, 0, 0, 0, 0), (62, .getfield 34, 3, 7, 7, 7, 0)],
  [(65, .iconst 0, 1, 0, 0, 0, 0), (66, .bipush 8, 2, 0, 0, 0, 0), (68, .invokestatic 41, 3, 900, 5, 0, 0), (71, .aload_n 1, 1, 0, 0, 0, 0), (72, .getfield 38, 3, 7, 8, 8, 0), (75, .iconst 0, 1, 0, 0, 0, 0), (76, .aload_n 0, 1, 0, 0, 0, 0), (77, .getfield 38, 3, 7, 8, 8, 0)],
  [(80, .iconst 0, 1, 0, 0, 0, 0), (81, .bipush 8, 2, 0, 0, 0, 0), (83, .invokestatic 41, 3, 900, 5, 0, 0), (86, .return_, 1, 0, 0, 0, 0)]]
/-- ClosedRooms$Core.take(LClosedRooms$Core;)V -/
def cd_49 : List (List CE) := [[(0, .aload_n 0, 1, 0, 0, 0, 0), (1, .aload_n 1, 1, 0, 0, 0, 0), (2, .getfield 9, 3, 8, 0, 0, 0), (5, .putfield 9, 3, 8, 0, 0, 0), (8, .aload_n 0, 1, 0, 0, 0, 0), (9, .aload_n 1, 1, 0, 0, 0, 0), (10, .getfield 15, 3, 8, 1, 1, 0), (13, .putfield 15, 3, 8, 1, 1, 0)],
  [(16, .aload_n 0, 1, 0, 0, 0, 0), (17, .aload_n 1, 1, 0, 0, 0, 0), (18, .getfield 18, 3, 8, 2, 2, 0), (21, .putfield 18, 3, 8, 2, 2, 0), (24, .aload_n 0, 1, 0, 0, 0, 0), (25, .aload_n 1, 1, 0, 0, 0, 0), (26, .getfield 21, 3, 8, 3, 3, 0), (29, .putfield 21, 3, 8, 3, 3, 0)],
  [(32, .aload_n 0, 1, 0, 0, 0, 0), (33, .aload_n 1, 1, 0, 0, 0, 0), (34, .getfield 24, 3, 8, 4, 4, 0), (37, .putfield 24, 3, 8, 4, 4, 0), (40, .aload_n 1, 1, 0, 0, 0, 0), (41, .getfield 27, 3, 8, 5, 5, 0), (44, .iconst 0, 1, 0, 0, 0, 0), (45, .aload_n 0, 1, 0, 0, 0, 0), (46, .getfield 27, 3, 8, 5, 5, 0)],
  [(49, .iconst 0, 1, 0, 0, 0, 0), (50, .iconst 3, 1, 0, 0, 0, 0), (51, .invokestatic 37, 3, 900, 5, 0, 0), (54, .aload_n 1, 1, 0, 0, 0, 0), (55, .getfield 31, 3, 8, 6, 6, 0), (58, .iconst 0, 1, 0, 0, 0, 0), (59, .aload_n 0, 1, 0, 0, 0, 0), (60, .getfield 31, 3, 8, 6, 6, 0), (63, .iconst 0, 1, 0, 0, 0, 0)],
  [(64, .iconst 3, 1, 0, 0, 0, 0), (65, .invokestatic 37, 3, 900, 5, 0, 0), (68, .return_, 1, 0, 0, 0, 0)]]
/-- ClosedRooms$Copy.take(LClosedRooms$Copy;)V -/
def cd_50 : List (List CE) := [[(0, .aload_n 0, 1, 0, 0, 0, 0), (1, .aload_n 1, 1, 0, 0, 0, 0), (2, .getfield 9, 3, 9, 0, 0, 0), (5, .putfield 9, 3, 9, 0, 0, 0), (8, .aload_n 0, 1, 0, 0, 0, 0), (9, .aload_n 1, 1, 0, 0, 0, 0), (10, .getfield 15, 3, 9, 1, 1, 0), (13, .putfield 15, 3, 9, 1, 1, 0)],
  [(16, .aload_n 0, 1, 0, 0, 0, 0), (17, .aload_n 1, 1, 0, 0, 0, 0), (18, .getfield 19, 3, 9, 2, 2, 0), (21, .putfield 19, 3, 9, 2, 2, 0), (24, .aload_n 0, 1, 0, 0, 0, 0), (25, .aload_n 1, 1, 0, 0, 0, 0), (26, .getfield 22, 3, 9, 3, 3, 0), (29, .putfield 22, 3, 9, 3, 3, 0)],
  [(32, .aload_n 0, 1, 0, 0, 0, 0), (33, .aload_n 1, 1, 0, 0, 0, 0), (34, .getfield 25, 3, 9, 4, 4, 0), (37, .putfield 25, 3, 9, 4, 4, 0), (40, .aload_n 0, 1, 0, 0, 0, 0), (41, .aload_n 1, 1, 0, 0, 0, 0), (42, .getfield 28, 3, 9, 5, 5, 0), (45, .putfield 28, 3, 9, 5, 5, 0)],
  [(48, .aload_n 0, 1, 0, 0, 0, 0), (49, .aload_n 1, 1, 0, 0, 0, 0), (50, .getfield 31, 3, 9, 6, 6, 0), (53, .putfield 31, 3, 9, 6, 6, 0), (56, .aload_n 0, 1, 0, 0, 0, 0), (57, .aload_n 1, 1, 0, 0, 0, 0), (58, .getfield 34, 3, 9, 7, 7, 0), (61, .putfield 34, 3, 9, 7, 7, 0)],
  [(64, .aload_n 0, 1, 0, 0, 0, 0), (65, .aload_n 1, 1, 0, 0, 0, 0), (66, .getfield 37, 3, 9, 8, 8, 0), (69, .putfield 37, 3, 9, 8, 8, 0), (72, .return_, 1, 0, 0, 0, 0)]]
/-- ClosedRooms$Log.take(LClosedRooms$Log;)V -/
def cd_51 : List (List CE) := [[(0, .aload_n 0, 1, 0, 0, 0, 0), (1, .aload_n 1, 1, 0, 0, 0, 0), (2, .getfield 9, 3, 5, 0, 0, 0), (5, .putfield 9, 3, 5, 0, 0, 0), (8, .aload_n 0, 1, 0, 0, 0, 0), (9, .aload_n 1, 1, 0, 0, 0, 0), (10, .getfield 15, 3, 5, 1, 1, 0), (13, .putfield 15, 3, 5, 1, 1, 0)],
  [(16, .aload_n 1, 1, 0, 0, 0, 0), (17, .getfield 18, 3, 5, 2, 2, 0), (20, .iconst 0, 1, 0, 0, 0, 0), (21, .aload_n 0, 1, 0, 0, 0, 0), (22, .getfield 18, 3, 5, 2, 2, 0), (25, .iconst 0, 1, 0, 0, 0, 0), (26, .bipush 60, 2, 0, 0, 0, 0), (28, .invokestatic 34, 3, 900, 5, 0, 0), (31, .aload_n 1, 1, 0, 0, 0, 0)],
  [(32, .getfield 22, 3, 5, 3, 3, 0), (35, .iconst 0, 1, 0, 0, 0, 0), (36, .aload_n 0, 1, 0, 0, 0, 0), (37, .getfield 22, 3, 5, 3, 3, 0), (40, .iconst 0, 1, 0, 0, 0, 0), (41, .bipush 60, 2, 0, 0, 0, 0), (43, .invokestatic 34, 3, 900, 5, 0, 0), (46, .aload_n 1, 1, 0, 0, 0, 0), (47, .getfield 25, 3, 5, 4, 4, 0)],
  [(50, .iconst 0, 1, 0, 0, 0, 0), (51, .aload_n 0, 1, 0, 0, 0, 0), (52, .getfield 25, 3, 5, 4, 4, 0), (55, .iconst 0, 1, 0, 0, 0, 0), (56, .bipush 60, 2, 0, 0, 0, 0), (58, .invokestatic 34, 3, 900, 5, 0, 0), (61, .return_, 1, 0, 0, 0, 0)]]
/-- ClosedRooms$World.take(LClosedRooms$World;)V -/
def cd_52 : List (List CE) := [[(0, .aload_n 0, 1, 0, 0, 0, 0), (1, .aload_n 1, 1, 0, 0, 0, 0), (2, .getfield 9, 3, 4, 0, 0, 0), (5, .putfield 9, 3, 4, 0, 0, 0), (8, .aload_n 0, 1, 0, 0, 0, 0), (9, .aload_n 1, 1, 0, 0, 0, 0), (10, .getfield 15, 3, 4, 1, 1, 0), (13, .putfield 15, 3, 4, 1, 1, 0)],
  [(16, .aload_n 0, 1, 0, 0, 0, 0), (17, .aload_n 1, 1, 0, 0, 0, 0), (18, .getfield 18, 3, 4, 2, 2, 0), (21, .putfield 18, 3, 4, 2, 2, 0), (24, .aload_n 0, 1, 0, 0, 0, 0), (25, .aload_n 1, 1, 0, 0, 0, 0), (26, .getfield 21, 3, 4, 3, 3, 0), (29, .putfield 21, 3, 4, 3, 3, 0)],
  [(32, .aload_n 0, 1, 0, 0, 0, 0), (33, .aload_n 1, 1, 0, 0, 0, 0), (34, .getfield 24, 3, 4, 4, 4, 0), (37, .putfield 24, 3, 4, 4, 4, 0), (40, .iconst 0, 1, 0, 0, 0, 0), (41, .istore_n 2, 1, 0, 0, 0, 0), (42, .iload_n 2, 1, 0, 0, 0, 0), (43, .bipush 10, 2, 0, 0, 0, 0), (45, .if_icmp .ge 24, 3, 0, 0, 0, 0)],
  [(48, .aload_n 0, 1, 0, 0, 0, 0), (49, .getfield 29, 3, 4, 5, 5, 0), (52, .iload_n 2, 1, 0, 0, 0, 0), (53, .aaload, 1, 0, 0, 0, 0), (54, .aload_n 1, 1, 0, 0, 0, 0), (55, .getfield 29, 3, 4, 5, 5, 0), (58, .iload_n 2, 1, 0, 0, 0, 0), (59, .aaload, 1, 0, 0, 0, 0), (60, .invokevirtual 74, 3, 47, 2, 6, 0), (63, .iinc 2 1, 3, 0, 0, 0, 0)],
  [(66, .goto (-24), 3, 0, 0, 0, 0), (69, .iconst 0, 1, 0, 0, 0, 0), (70, .istore_n 2, 1, 0, 0, 0, 0), (71, .iload_n 2, 1, 0, 0, 0, 0), (72, .iconst 4, 1, 0, 0, 0, 0), (73, .if_icmp .ge 24, 3, 0, 0, 0, 0), (76, .aload_n 0, 1, 0, 0, 0, 0), (77, .getfield 35, 3, 4, 6, 6, 0)],
  [(80, .iload_n 2, 1, 0, 0, 0, 0), (81, .aaload, 1, 0, 0, 0, 0), (82, .aload_n 1, 1, 0, 0, 0, 0), (83, .getfield 35, 3, 4, 6, 6, 0), (86, .iload_n 2, 1, 0, 0, 0, 0), (87, .aaload, 1, 0, 0, 0, 0), (88, .invokevirtual 78, 3, 48, 2, 7, 0), (91, .iinc 2 1, 3, 0, 0, 0, 0), (94, .goto (-23), 3, 0, 0, 0, 0)],
  [(97, .iconst 0, 1, 0, 0, 0, 0), (98, .istore_n 2, 1, 0, 0, 0, 0), (99, .iload_n 2, 1, 0, 0, 0, 0), (100, .iconst 3, 1, 0, 0, 0, 0), (101, .if_icmp .ge 24, 3, 0, 0, 0, 0), (104, .aload_n 0, 1, 0, 0, 0, 0), (105, .getfield 41, 3, 4, 7, 7, 0), (108, .iload_n 2, 1, 0, 0, 0, 0), (109, .aaload, 1, 0, 0, 0, 0), (110, .aload_n 1, 1, 0, 0, 0, 0), (111, .getfield 41, 3, 4, 7, 7, 0)],
  [(114, .iload_n 2, 1, 0, 0, 0, 0), (115, .aaload, 1, 0, 0, 0, 0), (116, .invokevirtual 81, 3, 49, 2, 8, 0), (119, .iinc 2 1, 3, 0, 0, 0, 0), (122, .goto (-23), 3, 0, 0, 0, 0), (125, .iconst 0, 1, 0, 0, 0, 0), (126, .istore_n 2, 1, 0, 0, 0, 0), (127, .iload_n 2, 1, 0, 0, 0, 0)],
  [(128, .bipush 12, 2, 0, 0, 0, 0), (130, .if_icmp .ge 24, 3, 0, 0, 0, 0), (133, .aload_n 0, 1, 0, 0, 0, 0), (134, .getfield 47, 3, 4, 8, 8, 0), (137, .iload_n 2, 1, 0, 0, 0, 0), (138, .aaload, 1, 0, 0, 0, 0), (139, .aload_n 1, 1, 0, 0, 0, 0), (140, .getfield 47, 3, 4, 8, 8, 0), (143, .iload_n 2, 1, 0, 0, 0, 0)],
  [(144, .aaload, 1, 0, 0, 0, 0), (145, .invokevirtual 84, 3, 50, 2, 9, 0), (148, .iinc 2 1, 3, 0, 0, 0, 0), (151, .goto (-24), 3, 0, 0, 0, 0), (154, .aload_n 0, 1, 0, 0, 0, 0), (155, .getfield 54, 3, 4, 9, 9, 0), (158, .aload_n 1, 1, 0, 0, 0, 0), (159, .getfield 54, 3, 4, 9, 9, 0)],
  [(162, .invokevirtual 87, 3, 51, 2, 5, 0), (165, .return_, 1, 0, 0, 0, 0)]]
/-- ClosedRooms$Acts.refuse(I)I -/
def cd_53 : List (List CE) := [[(0, .aload_n 0, 1, 0, 0, 0, 0), (1, .iload_n 1, 1, 0, 0, 0, 0), (2, .putfield 18, 3, 3, 1, 1, 0), (5, .iconst (-1), 1, 0, 0, 0, 0), (6, .ireturn, 1, 0, 0, 0, 0)]]
/-- ClosedRooms$World.lowestFreePage()I -/
def cd_54 : List (List CE) := [[(0, .iconst 0, 1, 0, 0, 0, 0), (1, .istore_n 1, 1, 0, 0, 0, 0), (2, .iload_n 1, 1, 0, 0, 0, 0), (3, .aload_n 0, 1, 0, 0, 0, 0), (4, .getfield 9, 3, 4, 0, 0, 0), (7, .if_icmp .ge 29, 3, 0, 0, 0, 0), (10, .iload_n 1, 1, 0, 0, 0, 0), (11, .bipush 10, 2, 0, 0, 0, 0), (13, .if_icmp .ge 23, 3, 0, 0, 0, 0)],
  [(16, .aload_n 0, 1, 0, 0, 0, 0), (17, .getfield 29, 3, 4, 5, 5, 0), (20, .iload_n 1, 1, 0, 0, 0, 0), (21, .aaload, 1, 0, 0, 0, 0), (22, .getfield 94, 3, 6, 0, 0, 0), (25, .ifCond .ne 5, 3, 0, 0, 0, 0), (28, .iload_n 1, 1, 0, 0, 0, 0), (29, .ireturn, 1, 0, 0, 0, 0), (30, .iinc 1 1, 3, 0, 0, 0, 0)],
  [(33, .goto (-31), 3, 0, 0, 0, 0), (36, .iconst (-1), 1, 0, 0, 0, 0), (37, .ireturn, 1, 0, 0, 0, 0)]]
/-- ClosedRooms$World.lowestRoomNotThere()I -/
def cd_55 : List (List CE) := [[(0, .iconst 0, 1, 0, 0, 0, 0), (1, .istore_n 1, 1, 0, 0, 0, 0), (2, .iload_n 1, 1, 0, 0, 0, 0), (3, .iconst 4, 1, 0, 0, 0, 0), (4, .if_icmp .ge 23, 3, 0, 0, 0, 0), (7, .aload_n 0, 1, 0, 0, 0, 0), (8, .getfield 35, 3, 4, 6, 6, 0), (11, .iload_n 1, 1, 0, 0, 0, 0), (12, .aaload, 1, 0, 0, 0, 0), (13, .getfield 66, 3, 7, 0, 0, 0)],
  [(16, .ifCond .ne 5, 3, 0, 0, 0, 0), (19, .iload_n 1, 1, 0, 0, 0, 0), (20, .ireturn, 1, 0, 0, 0, 0), (21, .iinc 1 1, 3, 0, 0, 0, 0), (24, .goto (-22), 3, 0, 0, 0, 0), (27, .iconst (-1), 1, 0, 0, 0, 0), (28, .ireturn, 1, 0, 0, 0, 0)]]
/-- ClosedRooms$Room.begin(II)V -/
def cd_56 : List (List CE) := [[(0, .aload_n 0, 1, 0, 0, 0, 0), (1, .iconst 1, 1, 0, 0, 0, 0), (2, .putfield 9, 3, 7, 0, 0, 0), (5, .aload_n 0, 1, 0, 0, 0, 0), (6, .iload_n 1, 1, 0, 0, 0, 0), (7, .putfield 15, 3, 7, 1, 1, 0), (10, .aload_n 0, 1, 0, 0, 0, 0), (11, .iload_n 2, 1, 0, 0, 0, 0), (12, .putfield 19, 3, 7, 2, 2, 0), (15, .aload_n 0, 1, 0, 0, 0, 0)],
  [(16, .iconst 0, 1, 0, 0, 0, 0), (17, .putfield 22, 3, 7, 3, 3, 0), (20, .aload_n 0, 1, 0, 0, 0, 0), (21, .bipush 7, 2, 0, 0, 0, 0), (23, .iload_n 2, 1, 0, 0, 0, 0), (24, .iadd, 1, 0, 0, 0, 0), (25, .putfield 25, 3, 7, 4, 4, 0), (28, .aload_n 0, 1, 0, 0, 0, 0), (29, .iconst 0, 1, 0, 0, 0, 0), (30, .putfield 28, 3, 7, 5, 5, 0)],
  [(33, .aload_n 0, 1, 0, 0, 0, 0), (34, .iconst 0, 1, 0, 0, 0, 0), (35, .putfield 31, 3, 7, 6, 6, 0), (38, .iconst 0, 1, 0, 0, 0, 0), (39, .istore_n 3, 1, 0, 0, 0, 0), (40, .iload_n 3, 1, 0, 0, 0, 0), (41, .bipush 8, 2, 0, 0, 0, 0), (43, .if_icmp .ge 23, 3, 0, 0, 0, 0), (46, .aload_n 0, 1, 0, 0, 0, 0), (47, .getfield 34, 3, 7, 7, 7, 0)],
  [(50, .iload_n 3, 1, 0, 0, 0, 0), (51, .iconst 0, 1, 0, 0, 0, 0), (52, .iastore, 1, 0, 0, 0, 0), (53, .aload_n 0, 1, 0, 0, 0, 0), (54, .getfield 38, 3, 7, 8, 8, 0), (57, .iload_n 3, 1, 0, 0, 0, 0), (58, .iconst (-1), 1, 0, 0, 0, 0), (59, .iastore, 1, 0, 0, 0, 0), (60, .iinc 3 1, 3, 0, 0, 0, 0), (63, .goto (-23), 3, 0, 0, 0, 0)],
  [(66, .return_, 1, 0, 0, 0, 0)]]
/-- ClosedRooms$Acts.makeRoom(I)I -/
def cd_57 : List (List CE) := [[(0, .aload_n 0, 1, 0, 0, 0, 0), (1, .getfield 12, 3, 3, 0, 0, 0), (4, .getfield 100, 3, 4, 0, 0, 0), (7, .ifCond .ne 9, 3, 0, 0, 0, 0), (10, .aload_n 0, 1, 0, 0, 0, 0), (11, .iconst 0, 1, 0, 0, 0, 0), (12, .invokevirtual 85, 3, 53, 2, 3, 0), (15, .ireturn, 1, 0, 0, 0, 0)],
  [(16, .iload_n 1, 1, 0, 0, 0, 0), (17, .iconst 1, 1, 0, 0, 0, 0), (18, .if_icmp .lt 9, 3, 0, 0, 0, 0), (21, .iload_n 1, 1, 0, 0, 0, 0), (22, .bipush 8, 2, 0, 0, 0, 0), (24, .if_icmp .le 9, 3, 0, 0, 0, 0), (27, .aload_n 0, 1, 0, 0, 0, 0), (28, .iconst 1, 1, 0, 0, 0, 0), (29, .invokevirtual 85, 3, 53, 2, 3, 0)],
  [(32, .ireturn, 1, 0, 0, 0, 0), (33, .aload_n 0, 1, 0, 0, 0, 0), (34, .getfield 12, 3, 3, 0, 0, 0), (37, .invokevirtual 103, 3, 54, 1, 4, 0), (40, .istore_n 2, 1, 0, 0, 0, 0), (41, .aload_n 0, 1, 0, 0, 0, 0), (42, .getfield 12, 3, 3, 0, 0, 0), (45, .invokevirtual 106, 3, 55, 1, 4, 0)],
  [(48, .istore_n 3, 1, 0, 0, 0, 0), (49, .iload_n 2, 1, 0, 0, 0, 0), (50, .iconst (-1), 1, 0, 0, 0, 0), (51, .if_icmp .eq 8, 3, 0, 0, 0, 0), (54, .iload_n 3, 1, 0, 0, 0, 0), (55, .iconst (-1), 1, 0, 0, 0, 0), (56, .if_icmp .ne 9, 3, 0, 0, 0, 0), (59, .aload_n 0, 1, 0, 0, 0, 0), (60, .iconst 3, 1, 0, 0, 0, 0), (61, .invokevirtual 85, 3, 53, 2, 3, 0)],
  [(64, .ireturn, 1, 0, 0, 0, 0), (65, .aload_n 0, 1, 0, 0, 0, 0), (66, .getfield 12, 3, 3, 0, 0, 0), (69, .dup, 1, 0, 0, 0, 0), (70, .getfield 109, 3, 4, 4, 4, 0), (73, .iconst 1, 1, 0, 0, 0, 0), (74, .iadd, 1, 0, 0, 0, 0), (75, .putfield 109, 3, 4, 4, 4, 0), (78, .aload_n 0, 1, 0, 0, 0, 0), (79, .getfield 12, 3, 3, 0, 0, 0)],
  [(82, .getfield 112, 3, 4, 6, 6, 0), (85, .iload_n 3, 1, 0, 0, 0, 0), (86, .aaload, 1, 0, 0, 0, 0), (87, .aload_n 0, 1, 0, 0, 0, 0), (88, .getfield 12, 3, 3, 0, 0, 0), (91, .getfield 109, 3, 4, 4, 4, 0), (94, .iload_n 1, 1, 0, 0, 0, 0), (95, .invokevirtual 116, 3, 56, 3, 7, 0)],
  [(98, .aload_n 0, 1, 0, 0, 0, 0), (99, .getfield 12, 3, 3, 0, 0, 0), (102, .getfield 122, 3, 4, 5, 5, 0), (105, .iload_n 2, 1, 0, 0, 0, 0), (106, .aaload, 1, 0, 0, 0, 0), (107, .iconst 1, 1, 0, 0, 0, 0), (108, .iload_n 3, 1, 0, 0, 0, 0), (109, .invokevirtual 126, 3, 22, 3, 6, 0)],
  [(112, .iload_n 3, 1, 0, 0, 0, 0), (113, .ireturn, 1, 0, 0, 0, 0)]]
/-- ClosedRooms$Acts.makeSlots()I -/
def cd_58 : List (List CE) := [[(0, .aload_n 0, 1, 0, 0, 0, 0), (1, .getfield 12, 3, 3, 0, 0, 0), (4, .getfield 100, 3, 4, 0, 0, 0), (7, .ifCond .ne 9, 3, 0, 0, 0, 0), (10, .aload_n 0, 1, 0, 0, 0, 0), (11, .iconst 0, 1, 0, 0, 0, 0), (12, .invokevirtual 85, 3, 53, 2, 3, 0), (15, .ireturn, 1, 0, 0, 0, 0)],
  [(16, .aload_n 0, 1, 0, 0, 0, 0), (17, .getfield 12, 3, 3, 0, 0, 0), (20, .invokevirtual 103, 3, 54, 1, 4, 0), (23, .istore_n 1, 1, 0, 0, 0, 0), (24, .iload_n 1, 1, 0, 0, 0, 0), (25, .iconst (-1), 1, 0, 0, 0, 0), (26, .if_icmp .ne 9, 3, 0, 0, 0, 0), (29, .aload_n 0, 1, 0, 0, 0, 0), (30, .iconst 3, 1, 0, 0, 0, 0), (31, .invokevirtual 85, 3, 53, 2, 3, 0)],
  [(34, .ireturn, 1, 0, 0, 0, 0), (35, .aload_n 0, 1, 0, 0, 0, 0), (36, .getfield 12, 3, 3, 0, 0, 0), (39, .getfield 122, 3, 4, 5, 5, 0), (42, .iload_n 1, 1, 0, 0, 0, 0), (43, .aaload, 1, 0, 0, 0, 0), (44, .iconst 4, 1, 0, 0, 0, 0), (45, .iconst (-1), 1, 0, 0, 0, 0), (46, .invokevirtual 126, 3, 22, 3, 6, 0)],
  [(49, .iload_n 1, 1, 0, 0, 0, 0), (50, .ireturn, 1, 0, 0, 0, 0)]]
/-- ClosedRooms$Room.canBeBuilt()Z -/
def cd_59 : List (List CE) := [[(0, .aload_n 0, 1, 0, 0, 0, 0), (1, .getfield 22, 3, 7, 3, 3, 0), (4, .ifCond .ne 14, 3, 0, 0, 0, 0), (7, .aload_n 0, 1, 0, 0, 0, 0), (8, .getfield 31, 3, 7, 6, 6, 0), (11, .ifCond .ne 7, 3, 0, 0, 0, 0), (14, .iconst 1, 1, 0, 0, 0, 0), (15, .goto 4, 3, 0, 0, 0, 0)],
  [(18, .iconst 0, 1, 0, 0, 0, 0), (19, .ireturn, 1, 0, 0, 0, 0)]]
/-- ClosedRooms$Room.settle(II)V -/
def cd_60 : List (List CE) := [[(0, .aload_n 0, 1, 0, 0, 0, 0), (1, .iload_n 1, 1, 0, 0, 0, 0), (2, .invokevirtual 47, 3, 38, 2, 7, 0), (5, .ifCond .ne 4, 3, 0, 0, 0, 0), (8, .return_, 1, 0, 0, 0, 0), (9, .aload_n 0, 1, 0, 0, 0, 0), (10, .getfield 34, 3, 7, 7, 7, 0), (13, .iload_n 1, 1, 0, 0, 0, 0), (14, .iconst 1, 1, 0, 0, 0, 0), (15, .iastore, 1, 0, 0, 0, 0)],
  [(16, .aload_n 0, 1, 0, 0, 0, 0), (17, .getfield 38, 3, 7, 8, 8, 0), (20, .iload_n 1, 1, 0, 0, 0, 0), (21, .iload_n 2, 1, 0, 0, 0, 0), (22, .iastore, 1, 0, 0, 0, 0), (23, .return_, 1, 0, 0, 0, 0)]]
/-- ClosedRooms.measureWithAdd(IIII)I -/
def cd_61 : List (List CE) := [[(0, .bipush 31, 2, 0, 0, 0, 0), (2, .iload_n 0, 1, 0, 0, 0, 0), (3, .imul, 1, 0, 0, 0, 0), (4, .bipush 64, 2, 0, 0, 0, 0), (6, .iload_n 1, 1, 0, 0, 0, 0), (7, .imul, 1, 0, 0, 0, 0), (8, .iadd, 1, 0, 0, 0, 0), (9, .bipush 8, 2, 0, 0, 0, 0), (11, .iload_n 2, 1, 0, 0, 0, 0), (12, .imul, 1, 0, 0, 0, 0), (13, .iadd, 1, 0, 0, 0, 0), (14, .iload_n 3, 1, 0, 0, 0, 0), (15, .iadd, 1, 0, 0, 0, 0)],
  [(16, .ireturn, 1, 0, 0, 0, 0)]]
/-- ClosedRooms$Acts.addPage(IIIII)I -/
def cd_62 : List (List CE) := [[(0, .aload_n 0, 1, 0, 0, 0, 0), (1, .getfield 12, 3, 3, 0, 0, 0), (4, .iload_n 1, 1, 0, 0, 0, 0), (5, .invokevirtual 129, 3, 37, 2, 4, 0), (8, .ifCond .ne 9, 3, 0, 0, 0, 0), (11, .aload_n 0, 1, 0, 0, 0, 0), (12, .iconst 0, 1, 0, 0, 0, 0), (13, .invokevirtual 85, 3, 53, 2, 3, 0)],
  [(16, .ireturn, 1, 0, 0, 0, 0), (17, .aload_n 0, 1, 0, 0, 0, 0), (18, .getfield 12, 3, 3, 0, 0, 0), (21, .getfield 112, 3, 4, 6, 6, 0), (24, .iload_n 1, 1, 0, 0, 0, 0), (25, .aaload, 1, 0, 0, 0, 0), (26, .astore 6, 2, 0, 0, 0, 0), (28, .aload 6, 2, 0, 0, 0, 0), (30, .iload_n 2, 1, 0, 0, 0, 0), (31, .invokevirtual 133, 3, 38, 2, 7, 0)],
  [(34, .ifCond .eq 12, 3, 0, 0, 0, 0), (37, .iload_n 3, 1, 0, 0, 0, 0), (38, .ifCond .lt 8, 3, 0, 0, 0, 0), (41, .iload_n 3, 1, 0, 0, 0, 0), (42, .iconst 1, 1, 0, 0, 0, 0), (43, .if_icmp .le 9, 3, 0, 0, 0, 0), (46, .aload_n 0, 1, 0, 0, 0, 0), (47, .iconst 1, 1, 0, 0, 0, 0)],
  [(48, .invokevirtual 85, 3, 53, 2, 3, 0), (51, .ireturn, 1, 0, 0, 0, 0), (52, .iload 4, 2, 0, 0, 0, 0), (54, .iconst 1, 1, 0, 0, 0, 0), (55, .if_icmp .lt 23, 3, 0, 0, 0, 0), (58, .iload 4, 2, 0, 0, 0, 0), (60, .bipush 7, 2, 0, 0, 0, 0), (62, .if_icmp .gt 16, 3, 0, 0, 0, 0)],
  [(65, .iload 5, 2, 0, 0, 0, 0), (67, .ifCond .lt 11, 3, 0, 0, 0, 0), (70, .iload 5, 2, 0, 0, 0, 0), (72, .sipush 999, 3, 0, 0, 0, 0), (75, .if_icmp .le 9, 3, 0, 0, 0, 0), (78, .aload_n 0, 1, 0, 0, 0, 0), (79, .iconst 1, 1, 0, 0, 0, 0)],
  [(80, .invokevirtual 85, 3, 53, 2, 3, 0), (83, .ireturn, 1, 0, 0, 0, 0), (84, .aload 6, 2, 0, 0, 0, 0), (86, .invokevirtual 136, 3, 59, 1, 7, 0), (89, .ifCond .eq 13, 3, 0, 0, 0, 0), (92, .aload 6, 2, 0, 0, 0, 0), (94, .getfield 140, 3, 7, 7, 7, 0)],
  [(97, .iload_n 2, 1, 0, 0, 0, 0), (98, .iaload, 1, 0, 0, 0, 0), (99, .ifCond .eq 9, 3, 0, 0, 0, 0), (102, .aload_n 0, 1, 0, 0, 0, 0), (103, .iconst 2, 1, 0, 0, 0, 0), (104, .invokevirtual 85, 3, 53, 2, 3, 0), (107, .ireturn, 1, 0, 0, 0, 0), (108, .aload_n 0, 1, 0, 0, 0, 0), (109, .getfield 12, 3, 3, 0, 0, 0)],
  [(112, .invokevirtual 103, 3, 54, 1, 4, 0), (115, .istore 7, 2, 0, 0, 0, 0), (117, .iload 7, 2, 0, 0, 0, 0), (119, .iconst (-1), 1, 0, 0, 0, 0), (120, .if_icmp .ne 9, 3, 0, 0, 0, 0), (123, .aload_n 0, 1, 0, 0, 0, 0), (124, .iconst 3, 1, 0, 0, 0, 0), (125, .invokevirtual 85, 3, 53, 2, 3, 0)],
  [(128, .ireturn, 1, 0, 0, 0, 0), (129, .aload_n 0, 1, 0, 0, 0, 0), (130, .getfield 12, 3, 3, 0, 0, 0), (133, .getfield 122, 3, 4, 5, 5, 0), (136, .iload 7, 2, 0, 0, 0, 0), (138, .aaload, 1, 0, 0, 0, 0), (139, .astore 8, 2, 0, 0, 0, 0), (141, .aload 8, 2, 0, 0, 0, 0), (143, .iload_n 3, 1, 0, 0, 0, 0)],
  [(144, .ifCond .ne 7, 3, 0, 0, 0, 0), (147, .iconst 2, 1, 0, 0, 0, 0), (148, .goto 4, 3, 0, 0, 0, 0), (151, .iconst 3, 1, 0, 0, 0, 0), (152, .iload_n 1, 1, 0, 0, 0, 0), (153, .invokevirtual 126, 3, 22, 3, 6, 0), (156, .aload 8, 2, 0, 0, 0, 0), (158, .iload_n 2, 1, 0, 0, 0, 0), (159, .putfield 144, 3, 6, 2, 2, 0)],
  [(162, .aload 8, 2, 0, 0, 0, 0), (164, .iload 4, 2, 0, 0, 0, 0), (166, .putfield 147, 3, 6, 3, 3, 0), (169, .aload 8, 2, 0, 0, 0, 0), (171, .iload 5, 2, 0, 0, 0, 0), (173, .putfield 150, 3, 6, 4, 4, 0)],
  [(176, .aload 6, 2, 0, 0, 0, 0), (178, .iload_n 2, 1, 0, 0, 0, 0), (179, .iload 7, 2, 0, 0, 0, 0), (181, .invokevirtual 153, 3, 60, 3, 7, 0), (184, .aload 6, 2, 0, 0, 0, 0), (186, .aload 6, 2, 0, 0, 0, 0), (188, .getfield 156, 3, 7, 4, 4, 0), (191, .iload_n 2, 1, 0, 0, 0, 0)],
  [(192, .iload_n 3, 1, 0, 0, 0, 0), (193, .iload 4, 2, 0, 0, 0, 0), (195, .invokestatic 159, 3, 61, 4, 0, 0), (198, .putfield 156, 3, 7, 4, 4, 0), (201, .iload 7, 2, 0, 0, 0, 0), (203, .ireturn, 1, 0, 0, 0, 0)]]
/-- ClosedRooms$World.pageAt(II)I -/
def cd_63 : List (List CE) := [[(0, .iconst 0, 1, 0, 0, 0, 0), (1, .istore_n 3, 1, 0, 0, 0, 0), (2, .iload_n 3, 1, 0, 0, 0, 0), (3, .aload_n 0, 1, 0, 0, 0, 0), (4, .getfield 9, 3, 4, 0, 0, 0), (7, .if_icmp .ge 43, 3, 0, 0, 0, 0), (10, .iload_n 3, 1, 0, 0, 0, 0), (11, .bipush 10, 2, 0, 0, 0, 0), (13, .if_icmp .ge 37, 3, 0, 0, 0, 0)],
  [(16, .aload_n 0, 1, 0, 0, 0, 0), (17, .getfield 29, 3, 4, 5, 5, 0), (20, .iload_n 3, 1, 0, 0, 0, 0), (21, .aaload, 1, 0, 0, 0, 0), (22, .getfield 97, 3, 6, 1, 1, 0), (25, .iload_n 1, 1, 0, 0, 0, 0), (26, .if_icmp .ne 18, 3, 0, 0, 0, 0), (29, .aload_n 0, 1, 0, 0, 0, 0), (30, .getfield 29, 3, 4, 5, 5, 0)],
  [(33, .iload_n 3, 1, 0, 0, 0, 0), (34, .aaload, 1, 0, 0, 0, 0), (35, .getfield 100, 3, 6, 2, 2, 0), (38, .iload_n 2, 1, 0, 0, 0, 0), (39, .if_icmp .ne 5, 3, 0, 0, 0, 0), (42, .iload_n 3, 1, 0, 0, 0, 0), (43, .ireturn, 1, 0, 0, 0, 0), (44, .iinc 3 1, 3, 0, 0, 0, 0), (47, .goto (-45), 3, 0, 0, 0, 0)],
  [(50, .iconst (-1), 1, 0, 0, 0, 0), (51, .ireturn, 1, 0, 0, 0, 0)]]
/-- ClosedRooms.measureWithExtend(II)I -/
def cd_64 : List (List CE) := [[(0, .bipush 31, 2, 0, 0, 0, 0), (2, .iload_n 0, 1, 0, 0, 0, 0), (3, .imul, 1, 0, 0, 0, 0), (4, .sipush 1000, 3, 0, 0, 0, 0), (7, .iadd, 1, 0, 0, 0, 0), (8, .iload_n 1, 1, 0, 0, 0, 0), (9, .iadd, 1, 0, 0, 0, 0), (10, .ireturn, 1, 0, 0, 0, 0)]]
/-- ClosedRooms$Acts.extendBy(II)I -/
def cd_65 : List (List CE) := [[(0, .aload_n 0, 1, 0, 0, 0, 0), (1, .getfield 12, 3, 3, 0, 0, 0), (4, .iload_n 1, 1, 0, 0, 0, 0), (5, .invokevirtual 129, 3, 37, 2, 4, 0), (8, .ifCond .ne 9, 3, 0, 0, 0, 0), (11, .aload_n 0, 1, 0, 0, 0, 0), (12, .iconst 0, 1, 0, 0, 0, 0), (13, .invokevirtual 85, 3, 53, 2, 3, 0)],
  [(16, .ireturn, 1, 0, 0, 0, 0), (17, .aload_n 0, 1, 0, 0, 0, 0), (18, .getfield 12, 3, 3, 0, 0, 0), (21, .getfield 112, 3, 4, 6, 6, 0), (24, .iload_n 1, 1, 0, 0, 0, 0), (25, .aaload, 1, 0, 0, 0, 0), (26, .astore_n 3, 1, 0, 0, 0, 0), (27, .aload_n 3, 1, 0, 0, 0, 0), (28, .iload_n 2, 1, 0, 0, 0, 0), (29, .invokevirtual 133, 3, 38, 2, 7, 0)],
  [(32, .ifCond .ne 9, 3, 0, 0, 0, 0), (35, .aload_n 0, 1, 0, 0, 0, 0), (36, .iconst 1, 1, 0, 0, 0, 0), (37, .invokevirtual 85, 3, 53, 2, 3, 0), (40, .ireturn, 1, 0, 0, 0, 0), (41, .aload_n 0, 1, 0, 0, 0, 0), (42, .getfield 12, 3, 3, 0, 0, 0), (45, .iload_n 1, 1, 0, 0, 0, 0), (46, .iload_n 2, 1, 0, 0, 0, 0), (47, .invokevirtual 162, 3, 63, 3, 4, 0)],
  [(50, .istore 4, 2, 0, 0, 0, 0), (52, .aload_n 3, 1, 0, 0, 0, 0), (53, .invokevirtual 136, 3, 59, 1, 7, 0), (56, .ifCond .eq 9, 3, 0, 0, 0, 0), (59, .iload 4, 2, 0, 0, 0, 0), (61, .iconst (-1), 1, 0, 0, 0, 0), (62, .if_icmp .ne 9, 3, 0, 0, 0, 0)],
  [(65, .aload_n 0, 1, 0, 0, 0, 0), (66, .iconst 2, 1, 0, 0, 0, 0), (67, .invokevirtual 85, 3, 53, 2, 3, 0), (70, .ireturn, 1, 0, 0, 0, 0), (71, .aload_n 3, 1, 0, 0, 0, 0), (72, .aload_n 3, 1, 0, 0, 0, 0), (73, .getfield 156, 3, 7, 4, 4, 0), (76, .aload_n 0, 1, 0, 0, 0, 0), (77, .getfield 12, 3, 3, 0, 0, 0)],
  [(80, .getfield 122, 3, 4, 5, 5, 0), (83, .iload 4, 2, 0, 0, 0, 0), (85, .aaload, 1, 0, 0, 0, 0), (86, .getfield 150, 3, 6, 4, 4, 0), (89, .invokestatic 165, 3, 64, 2, 0, 0), (92, .putfield 156, 3, 7, 4, 4, 0), (95, .aload_n 3, 1, 0, 0, 0, 0)],
  [(96, .getfield 156, 3, 7, 4, 4, 0), (99, .ireturn, 1, 0, 0, 0, 0)]]
/-- ClosedRooms$Acts.sealRoom(II)I -/
def cd_66 : List (List CE) := [[(0, .aload_n 0, 1, 0, 0, 0, 0), (1, .getfield 12, 3, 3, 0, 0, 0), (4, .iload_n 1, 1, 0, 0, 0, 0), (5, .invokevirtual 129, 3, 37, 2, 4, 0), (8, .ifCond .ne 9, 3, 0, 0, 0, 0), (11, .aload_n 0, 1, 0, 0, 0, 0), (12, .iconst 0, 1, 0, 0, 0, 0), (13, .invokevirtual 85, 3, 53, 2, 3, 0)],
  [(16, .ireturn, 1, 0, 0, 0, 0), (17, .aload_n 0, 1, 0, 0, 0, 0), (18, .getfield 12, 3, 3, 0, 0, 0), (21, .getfield 112, 3, 4, 6, 6, 0), (24, .iload_n 1, 1, 0, 0, 0, 0), (25, .aaload, 1, 0, 0, 0, 0), (26, .astore_n 3, 1, 0, 0, 0, 0), (27, .aload_n 3, 1, 0, 0, 0, 0), (28, .invokevirtual 136, 3, 59, 1, 7, 0), (31, .ifCond .ne 9, 3, 0, 0, 0, 0)],
  [(34, .aload_n 0, 1, 0, 0, 0, 0), (35, .iconst 2, 1, 0, 0, 0, 0), (36, .invokevirtual 85, 3, 53, 2, 3, 0), (39, .ireturn, 1, 0, 0, 0, 0), (40, .aload_n 3, 1, 0, 0, 0, 0), (41, .getfield 156, 3, 7, 4, 4, 0), (44, .iload_n 2, 1, 0, 0, 0, 0), (45, .if_icmp .eq 9, 3, 0, 0, 0, 0)],
  [(48, .aload_n 0, 1, 0, 0, 0, 0), (49, .iconst 4, 1, 0, 0, 0, 0), (50, .invokevirtual 85, 3, 53, 2, 3, 0), (53, .ireturn, 1, 0, 0, 0, 0), (54, .aload_n 3, 1, 0, 0, 0, 0), (55, .iconst 1, 1, 0, 0, 0, 0), (56, .putfield 168, 3, 7, 3, 3, 0), (59, .aload_n 3, 1, 0, 0, 0, 0), (60, .getfield 172, 3, 7, 1, 1, 0), (63, .ireturn, 1, 0, 0, 0, 0)]]
/-- ClosedRooms$World.isPageOf(III)Z -/
def cd_67 : List (List CE) := [[(0, .aload_n 0, 1, 0, 0, 0, 0), (1, .iload_n 1, 1, 0, 0, 0, 0), (2, .invokevirtual 90, 3, 32, 2, 4, 0), (5, .ifCond .eq 38, 3, 0, 0, 0, 0), (8, .iload_n 3, 1, 0, 0, 0, 0), (9, .iconst (-1), 1, 0, 0, 0, 0), (10, .if_icmp .eq 33, 3, 0, 0, 0, 0), (13, .aload_n 0, 1, 0, 0, 0, 0), (14, .getfield 29, 3, 4, 5, 5, 0)],
  [(17, .iload_n 1, 1, 0, 0, 0, 0), (18, .aaload, 1, 0, 0, 0, 0), (19, .getfield 97, 3, 6, 1, 1, 0), (22, .iload_n 2, 1, 0, 0, 0, 0), (23, .if_icmp .ne 20, 3, 0, 0, 0, 0), (26, .aload_n 0, 1, 0, 0, 0, 0), (27, .getfield 29, 3, 4, 5, 5, 0), (30, .iload_n 1, 1, 0, 0, 0, 0), (31, .aaload, 1, 0, 0, 0, 0)],
  [(32, .getfield 100, 3, 6, 2, 2, 0), (35, .iload_n 3, 1, 0, 0, 0, 0), (36, .if_icmp .ne 7, 3, 0, 0, 0, 0), (39, .iconst 1, 1, 0, 0, 0, 0), (40, .goto 4, 3, 0, 0, 0, 0), (43, .iconst 0, 1, 0, 0, 0, 0), (44, .ireturn, 1, 0, 0, 0, 0)]]
/-- ClosedRooms$Core.goInside(III)V -/
def cd_68 : List (List CE) := [[(0, .aload_n 0, 1, 0, 0, 0, 0), (1, .iload_n 1, 1, 0, 0, 0, 0), (2, .putfield 15, 3, 8, 1, 1, 0), (5, .aload_n 0, 1, 0, 0, 0, 0), (6, .iload_n 2, 1, 0, 0, 0, 0), (7, .putfield 18, 3, 8, 2, 2, 0), (10, .aload_n 0, 1, 0, 0, 0, 0), (11, .iload_n 3, 1, 0, 0, 0, 0), (12, .putfield 21, 3, 8, 3, 3, 0), (15, .aload_n 0, 1, 0, 0, 0, 0)],
  [(16, .iconst 0, 1, 0, 0, 0, 0), (17, .putfield 24, 3, 8, 4, 4, 0), (20, .return_, 1, 0, 0, 0, 0)]]
/-- ClosedRooms$Acts.goIn(IIII)I -/
def cd_69 : List (List CE) := [[(0, .aload_n 0, 1, 0, 0, 0, 0), (1, .getfield 12, 3, 3, 0, 0, 0), (4, .iload_n 1, 1, 0, 0, 0, 0), (5, .invokevirtual 175, 3, 40, 2, 4, 0), (8, .ifCond .eq 14, 3, 0, 0, 0, 0), (11, .aload_n 0, 1, 0, 0, 0, 0), (12, .getfield 12, 3, 3, 0, 0, 0), (15, .iload_n 2, 1, 0, 0, 0, 0)],
  [(16, .invokevirtual 129, 3, 37, 2, 4, 0), (19, .ifCond .ne 9, 3, 0, 0, 0, 0), (22, .aload_n 0, 1, 0, 0, 0, 0), (23, .iconst 0, 1, 0, 0, 0, 0), (24, .invokevirtual 85, 3, 53, 2, 3, 0), (27, .ireturn, 1, 0, 0, 0, 0), (28, .aload_n 0, 1, 0, 0, 0, 0), (29, .getfield 12, 3, 3, 0, 0, 0)],
  [(32, .getfield 112, 3, 4, 6, 6, 0), (35, .iload_n 2, 1, 0, 0, 0, 0), (36, .aaload, 1, 0, 0, 0, 0), (37, .astore 5, 2, 0, 0, 0, 0), (39, .aload_n 0, 1, 0, 0, 0, 0), (40, .getfield 12, 3, 3, 0, 0, 0), (43, .getfield 178, 3, 4, 7, 7, 0), (46, .iload_n 1, 1, 0, 0, 0, 0), (47, .aaload, 1, 0, 0, 0, 0)],
  [(48, .astore 6, 2, 0, 0, 0, 0), (50, .aload 5, 2, 0, 0, 0, 0), (52, .iload_n 3, 1, 0, 0, 0, 0), (53, .invokevirtual 133, 3, 38, 2, 7, 0), (56, .ifCond .ne 9, 3, 0, 0, 0, 0), (59, .aload_n 0, 1, 0, 0, 0, 0), (60, .iconst 1, 1, 0, 0, 0, 0), (61, .invokevirtual 85, 3, 53, 2, 3, 0)],
  [(64, .ireturn, 1, 0, 0, 0, 0), (65, .aload 6, 2, 0, 0, 0, 0), (67, .getfield 182, 3, 8, 1, 1, 0), (70, .iconst (-1), 1, 0, 0, 0, 0), (71, .if_icmp .ne 19, 3, 0, 0, 0, 0), (74, .aload 5, 2, 0, 0, 0, 0), (76, .getfield 168, 3, 7, 3, 3, 0), (79, .ifCond .eq 11, 3, 0, 0, 0, 0)],
  [(82, .aload 5, 2, 0, 0, 0, 0), (84, .getfield 187, 3, 7, 6, 6, 0), (87, .ifCond .eq 9, 3, 0, 0, 0, 0), (90, .aload_n 0, 1, 0, 0, 0, 0), (91, .iconst 2, 1, 0, 0, 0, 0), (92, .invokevirtual 85, 3, 53, 2, 3, 0), (95, .ireturn, 1, 0, 0, 0, 0)],
  [(96, .aload 5, 2, 0, 0, 0, 0), (98, .getfield 190, 3, 7, 8, 8, 0), (101, .iload_n 3, 1, 0, 0, 0, 0), (102, .iaload, 1, 0, 0, 0, 0), (103, .istore 7, 2, 0, 0, 0, 0), (105, .aload_n 0, 1, 0, 0, 0, 0), (106, .getfield 12, 3, 3, 0, 0, 0), (109, .iload 7, 2, 0, 0, 0, 0), (111, .iload_n 2, 1, 0, 0, 0, 0)],
  [(112, .iload_n 3, 1, 0, 0, 0, 0), (113, .invokevirtual 193, 3, 67, 4, 4, 0), (116, .ifCond .ne 9, 3, 0, 0, 0, 0), (119, .aload_n 0, 1, 0, 0, 0, 0), (120, .iconst 4, 1, 0, 0, 0, 0), (121, .invokevirtual 85, 3, 53, 2, 3, 0), (124, .ireturn, 1, 0, 0, 0, 0), (125, .aload_n 0, 1, 0, 0, 0, 0), (126, .getfield 12, 3, 3, 0, 0, 0)],
  [(129, .getfield 122, 3, 4, 5, 5, 0), (132, .iload 7, 2, 0, 0, 0, 0), (134, .aaload, 1, 0, 0, 0, 0), (135, .astore 8, 2, 0, 0, 0, 0), (137, .aload 8, 2, 0, 0, 0, 0), (139, .getfield 197, 3, 6, 0, 0, 0), (142, .iconst 3, 1, 0, 0, 0, 0), (143, .if_icmp .ne 13, 3, 0, 0, 0, 0)],
  [(146, .aload 8, 2, 0, 0, 0, 0), (148, .getfield 200, 3, 6, 7, 7, 0), (151, .iload 4, 2, 0, 0, 0, 0), (153, .if_icmp .eq 9, 3, 0, 0, 0, 0), (156, .aload_n 0, 1, 0, 0, 0, 0), (157, .iconst 2, 1, 0, 0, 0, 0), (158, .invokevirtual 85, 3, 53, 2, 3, 0)],
  [(161, .ireturn, 1, 0, 0, 0, 0), (162, .aload 8, 2, 0, 0, 0, 0), (164, .getfield 203, 3, 6, 5, 5, 0), (167, .ifCond .eq 9, 3, 0, 0, 0, 0), (170, .aload_n 0, 1, 0, 0, 0, 0), (171, .iconst 4, 1, 0, 0, 0, 0), (172, .invokevirtual 85, 3, 53, 2, 3, 0), (175, .ireturn, 1, 0, 0, 0, 0)],
  [(176, .aload 8, 2, 0, 0, 0, 0), (178, .iconst 1, 1, 0, 0, 0, 0), (179, .putfield 200, 3, 6, 7, 7, 0), (182, .aload 6, 2, 0, 0, 0, 0), (184, .iload_n 2, 1, 0, 0, 0, 0), (185, .iload 7, 2, 0, 0, 0, 0), (187, .aload 5, 2, 0, 0, 0, 0), (189, .getfield 206, 3, 7, 5, 5, 0)],
  [(192, .invokevirtual 209, 3, 68, 4, 8, 0), (195, .iload 4, 2, 0, 0, 0, 0), (197, .ifCond .ne 6, 3, 0, 0, 0, 0), (200, .iload 7, 2, 0, 0, 0, 0), (202, .ireturn, 1, 0, 0, 0, 0), (203, .aload 6, 2, 0, 0, 0, 0), (205, .aload 8, 2, 0, 0, 0, 0), (207, .getfield 150, 3, 6, 4, 4, 0)],
  [(210, .putfield 213, 3, 8, 0, 0, 0), (213, .aload 8, 2, 0, 0, 0, 0), (215, .iconst 0, 1, 0, 0, 0, 0), (216, .putfield 150, 3, 6, 4, 4, 0), (219, .aload 6, 2, 0, 0, 0, 0), (221, .getfield 213, 3, 8, 0, 0, 0)],
  [(224, .ireturn, 1, 0, 0, 0, 0)]]
/-- ClosedRooms$World.isInside(I)Z -/
def cd_70 : List (List CE) := [[(0, .aload_n 0, 1, 0, 0, 0, 0), (1, .iload_n 1, 1, 0, 0, 0, 0), (2, .invokevirtual 103, 3, 40, 2, 4, 0), (5, .ifCond .eq 23, 3, 0, 0, 0, 0), (8, .aload_n 0, 1, 0, 0, 0, 0), (9, .aload_n 0, 1, 0, 0, 0, 0), (10, .getfield 41, 3, 4, 7, 7, 0), (13, .iload_n 1, 1, 0, 0, 0, 0), (14, .aaload, 1, 0, 0, 0, 0), (15, .getfield 106, 3, 8, 1, 1, 0)],
  [(18, .invokevirtual 107, 3, 37, 2, 4, 0), (21, .ifCond .eq 7, 3, 0, 0, 0, 0), (24, .iconst 1, 1, 0, 0, 0, 0), (25, .goto 4, 3, 0, 0, 0, 0), (28, .iconst 0, 1, 0, 0, 0, 0), (29, .ireturn, 1, 0, 0, 0, 0)]]
/-- ClosedRooms$Acts.goOut(I)I -/
def cd_71 : List (List CE) := [[(0, .aload_n 0, 1, 0, 0, 0, 0), (1, .getfield 12, 3, 3, 0, 0, 0), (4, .iload_n 1, 1, 0, 0, 0, 0), (5, .invokevirtual 175, 3, 40, 2, 4, 0), (8, .ifCond .ne 9, 3, 0, 0, 0, 0), (11, .aload_n 0, 1, 0, 0, 0, 0), (12, .iconst 0, 1, 0, 0, 0, 0), (13, .invokevirtual 85, 3, 53, 2, 3, 0)],
  [(16, .ireturn, 1, 0, 0, 0, 0), (17, .aload_n 0, 1, 0, 0, 0, 0), (18, .getfield 12, 3, 3, 0, 0, 0), (21, .iload_n 1, 1, 0, 0, 0, 0), (22, .invokevirtual 216, 3, 70, 2, 4, 0), (25, .ifCond .ne 9, 3, 0, 0, 0, 0), (28, .aload_n 0, 1, 0, 0, 0, 0), (29, .iconst 2, 1, 0, 0, 0, 0), (30, .invokevirtual 85, 3, 53, 2, 3, 0)],
  [(33, .ireturn, 1, 0, 0, 0, 0), (34, .aload_n 0, 1, 0, 0, 0, 0), (35, .getfield 12, 3, 3, 0, 0, 0), (38, .getfield 178, 3, 4, 7, 7, 0), (41, .iload_n 1, 1, 0, 0, 0, 0), (42, .aaload, 1, 0, 0, 0, 0), (43, .astore_n 2, 1, 0, 0, 0, 0), (44, .aload_n 0, 1, 0, 0, 0, 0), (45, .getfield 12, 3, 3, 0, 0, 0)],
  [(48, .aload_n 2, 1, 0, 0, 0, 0), (49, .getfield 219, 3, 8, 2, 2, 0), (52, .invokevirtual 220, 3, 32, 2, 4, 0), (55, .ifCond .eq 19, 3, 0, 0, 0, 0), (58, .aload_n 0, 1, 0, 0, 0, 0), (59, .getfield 12, 3, 3, 0, 0, 0), (62, .getfield 122, 3, 4, 5, 5, 0)],
  [(65, .aload_n 2, 1, 0, 0, 0, 0), (66, .getfield 219, 3, 8, 2, 2, 0), (69, .aaload, 1, 0, 0, 0, 0), (70, .iconst 0, 1, 0, 0, 0, 0), (71, .putfield 200, 3, 6, 7, 7, 0), (74, .aload_n 2, 1, 0, 0, 0, 0), (75, .invokevirtual 223, 3, 23, 1, 8, 0), (78, .aload_n 2, 1, 0, 0, 0, 0), (79, .getfield 213, 3, 8, 0, 0, 0)],
  [(82, .ireturn, 1, 0, 0, 0, 0)]]
/-- ClosedRooms$Acts.goOutInHaste(I)I -/
def cd_72 : List (List CE) := [[(0, .aload_n 0, 1, 0, 0, 0, 0), (1, .getfield 12, 3, 3, 0, 0, 0), (4, .iload_n 1, 1, 0, 0, 0, 0), (5, .invokevirtual 175, 3, 40, 2, 4, 0), (8, .ifCond .ne 9, 3, 0, 0, 0, 0), (11, .aload_n 0, 1, 0, 0, 0, 0), (12, .iconst 0, 1, 0, 0, 0, 0), (13, .invokevirtual 85, 3, 53, 2, 3, 0)],
  [(16, .ireturn, 1, 0, 0, 0, 0), (17, .aload_n 0, 1, 0, 0, 0, 0), (18, .getfield 12, 3, 3, 0, 0, 0), (21, .getfield 178, 3, 4, 7, 7, 0), (24, .iload_n 1, 1, 0, 0, 0, 0), (25, .aaload, 1, 0, 0, 0, 0), (26, .astore_n 2, 1, 0, 0, 0, 0), (27, .aload_n 2, 1, 0, 0, 0, 0), (28, .getfield 219, 3, 8, 2, 2, 0), (31, .istore_n 3, 1, 0, 0, 0, 0)],
  [(32, .aload_n 0, 1, 0, 0, 0, 0), (33, .getfield 12, 3, 3, 0, 0, 0), (36, .iload_n 1, 1, 0, 0, 0, 0), (37, .invokevirtual 216, 3, 70, 2, 4, 0), (40, .ifCond .eq 14, 3, 0, 0, 0, 0), (43, .aload_n 0, 1, 0, 0, 0, 0), (44, .getfield 12, 3, 3, 0, 0, 0), (47, .iload_n 3, 1, 0, 0, 0, 0)],
  [(48, .invokevirtual 220, 3, 32, 2, 4, 0), (51, .ifCond .ne 9, 3, 0, 0, 0, 0), (54, .aload_n 0, 1, 0, 0, 0, 0), (55, .iconst 2, 1, 0, 0, 0, 0), (56, .invokevirtual 85, 3, 53, 2, 3, 0), (59, .ireturn, 1, 0, 0, 0, 0), (60, .aload_n 0, 1, 0, 0, 0, 0), (61, .getfield 12, 3, 3, 0, 0, 0)],
  [(64, .getfield 122, 3, 4, 5, 5, 0), (67, .iload_n 3, 1, 0, 0, 0, 0), (68, .aaload, 1, 0, 0, 0, 0), (69, .astore 4, 2, 0, 0, 0, 0), (71, .aload 4, 2, 0, 0, 0, 0), (73, .iconst 2, 1, 0, 0, 0, 0), (74, .putfield 200, 3, 6, 7, 7, 0), (77, .aload 4, 2, 0, 0, 0, 0), (79, .aload_n 2, 1, 0, 0, 0, 0)],
  [(80, .getfield 213, 3, 8, 0, 0, 0), (83, .putfield 150, 3, 6, 4, 4, 0), (86, .aload_n 2, 1, 0, 0, 0, 0), (87, .iconst 0, 1, 0, 0, 0, 0), (88, .putfield 213, 3, 8, 0, 0, 0), (91, .aload_n 2, 1, 0, 0, 0, 0), (92, .invokevirtual 223, 3, 23, 1, 8, 0), (95, .iload_n 3, 1, 0, 0, 0, 0)],
  [(96, .ireturn, 1, 0, 0, 0, 0)]]
/-- ClosedRooms$Core.pageSeenAt(I)I -/
def cd_73 : List (List CE) := [[(0, .iconst 0, 1, 0, 0, 0, 0), (1, .istore_n 2, 1, 0, 0, 0, 0), (2, .iload_n 2, 1, 0, 0, 0, 0), (3, .aload_n 0, 1, 0, 0, 0, 0), (4, .getfield 24, 3, 8, 4, 4, 0), (7, .if_icmp .ge 31, 3, 0, 0, 0, 0), (10, .iload_n 2, 1, 0, 0, 0, 0), (11, .iconst 3, 1, 0, 0, 0, 0), (12, .if_icmp .ge 26, 3, 0, 0, 0, 0), (15, .aload_n 0, 1, 0, 0, 0, 0)],
  [(16, .getfield 27, 3, 8, 5, 5, 0), (19, .iload_n 2, 1, 0, 0, 0, 0), (20, .iaload, 1, 0, 0, 0, 0), (21, .iload_n 1, 1, 0, 0, 0, 0), (22, .if_icmp .ne 10, 3, 0, 0, 0, 0), (25, .aload_n 0, 1, 0, 0, 0, 0), (26, .getfield 31, 3, 8, 6, 6, 0), (29, .iload_n 2, 1, 0, 0, 0, 0), (30, .iaload, 1, 0, 0, 0, 0), (31, .ireturn, 1, 0, 0, 0, 0)],
  [(32, .iinc 2 1, 3, 0, 0, 0, 0), (35, .goto (-33), 3, 0, 0, 0, 0), (38, .iconst (-1), 1, 0, 0, 0, 0), (39, .ireturn, 1, 0, 0, 0, 0)]]
/-- ClosedRooms$Core.forgetLongestSeen()V -/
def cd_74 : List (List CE) := [[(0, .aload_n 0, 1, 0, 0, 0, 0), (1, .getfield 24, 3, 8, 4, 4, 0), (4, .ifCond .gt 4, 3, 0, 0, 0, 0), (7, .return_, 1, 0, 0, 0, 0), (8, .aload_n 0, 1, 0, 0, 0, 0), (9, .dup, 1, 0, 0, 0, 0), (10, .getfield 24, 3, 8, 4, 4, 0), (13, .iconst 1, 1, 0, 0, 0, 0), (14, .isub, 1, 0, 0, 0, 0), (15, .putfield 24, 3, 8, 4, 4, 0)],
  [(18, .iconst 0, 1, 0, 0, 0, 0), (19, .istore_n 1, 1, 0, 0, 0, 0), (20, .iload_n 1, 1, 0, 0, 0, 0), (21, .aload_n 0, 1, 0, 0, 0, 0), (22, .getfield 24, 3, 8, 4, 4, 0), (25, .if_icmp .ge 44, 3, 0, 0, 0, 0), (28, .iload_n 1, 1, 0, 0, 0, 0), (29, .iconst 1, 1, 0, 0, 0, 0), (30, .iadd, 1, 0, 0, 0, 0), (31, .iconst 3, 1, 0, 0, 0, 0)],
  [(32, .if_icmp .ge 37, 3, 0, 0, 0, 0), (35, .aload_n 0, 1, 0, 0, 0, 0), (36, .getfield 27, 3, 8, 5, 5, 0), (39, .iload_n 1, 1, 0, 0, 0, 0), (40, .aload_n 0, 1, 0, 0, 0, 0), (41, .getfield 27, 3, 8, 5, 5, 0), (44, .iload_n 1, 1, 0, 0, 0, 0), (45, .iconst 1, 1, 0, 0, 0, 0), (46, .iadd, 1, 0, 0, 0, 0), (47, .iaload, 1, 0, 0, 0, 0)],
  [(48, .iastore, 1, 0, 0, 0, 0), (49, .aload_n 0, 1, 0, 0, 0, 0), (50, .getfield 31, 3, 8, 6, 6, 0), (53, .iload_n 1, 1, 0, 0, 0, 0), (54, .aload_n 0, 1, 0, 0, 0, 0), (55, .getfield 31, 3, 8, 6, 6, 0), (58, .iload_n 1, 1, 0, 0, 0, 0), (59, .iconst 1, 1, 0, 0, 0, 0), (60, .iadd, 1, 0, 0, 0, 0), (61, .iaload, 1, 0, 0, 0, 0), (62, .iastore, 1, 0, 0, 0, 0), (63, .iinc 1 1, 3, 0, 0, 0, 0)],
  [(66, .goto (-46), 3, 0, 0, 0, 0), (69, .return_, 1, 0, 0, 0, 0)]]
/-- ClosedRooms$Core.see(III)V -/
def cd_75 : List (List CE) := [[(0, .aload_n 0, 1, 0, 0, 0, 0), (1, .getfield 24, 3, 8, 4, 4, 0), (4, .iload_n 3, 1, 0, 0, 0, 0), (5, .if_icmp .ge 11, 3, 0, 0, 0, 0), (8, .aload_n 0, 1, 0, 0, 0, 0), (9, .getfield 24, 3, 8, 4, 4, 0), (12, .iconst 3, 1, 0, 0, 0, 0), (13, .if_icmp .lt 7, 3, 0, 0, 0, 0)],
  [(16, .aload_n 0, 1, 0, 0, 0, 0), (17, .invokevirtual 43, 3, 74, 1, 8, 0), (20, .aload_n 0, 1, 0, 0, 0, 0), (21, .getfield 24, 3, 8, 4, 4, 0), (24, .ifCond .lt 11, 3, 0, 0, 0, 0), (27, .aload_n 0, 1, 0, 0, 0, 0), (28, .getfield 24, 3, 8, 4, 4, 0), (31, .iconst 3, 1, 0, 0, 0, 0)],
  [(32, .if_icmp .lt 4, 3, 0, 0, 0, 0), (35, .return_, 1, 0, 0, 0, 0), (36, .aload_n 0, 1, 0, 0, 0, 0), (37, .getfield 27, 3, 8, 5, 5, 0), (40, .aload_n 0, 1, 0, 0, 0, 0), (41, .getfield 24, 3, 8, 4, 4, 0), (44, .iload_n 1, 1, 0, 0, 0, 0), (45, .iastore, 1, 0, 0, 0, 0), (46, .aload_n 0, 1, 0, 0, 0, 0), (47, .getfield 31, 3, 8, 6, 6, 0)],
  [(50, .aload_n 0, 1, 0, 0, 0, 0), (51, .getfield 24, 3, 8, 4, 4, 0), (54, .iload_n 2, 1, 0, 0, 0, 0), (55, .iastore, 1, 0, 0, 0, 0), (56, .aload_n 0, 1, 0, 0, 0, 0), (57, .dup, 1, 0, 0, 0, 0), (58, .getfield 24, 3, 8, 4, 4, 0), (61, .iconst 1, 1, 0, 0, 0, 0), (62, .iadd, 1, 0, 0, 0, 0), (63, .putfield 24, 3, 8, 4, 4, 0)],
  [(66, .return_, 1, 0, 0, 0, 0)]]
/-- ClosedRooms$Acts.touchPage(III)I -/
def cd_76 : List (List CE) := [[(0, .aload_n 0, 1, 0, 0, 0, 0), (1, .getfield 12, 3, 3, 0, 0, 0), (4, .iload_n 1, 1, 0, 0, 0, 0), (5, .invokevirtual 175, 3, 40, 2, 4, 0), (8, .ifCond .ne 9, 3, 0, 0, 0, 0), (11, .aload_n 0, 1, 0, 0, 0, 0), (12, .iconst 0, 1, 0, 0, 0, 0), (13, .invokevirtual 85, 3, 53, 2, 3, 0)],
  [(16, .ireturn, 1, 0, 0, 0, 0), (17, .iload_n 2, 1, 0, 0, 0, 0), (18, .ifCond .lt 18, 3, 0, 0, 0, 0), (21, .iload_n 2, 1, 0, 0, 0, 0), (22, .bipush 8, 2, 0, 0, 0, 0), (24, .if_icmp .ge 12, 3, 0, 0, 0, 0), (27, .iload_n 3, 1, 0, 0, 0, 0), (28, .ifCond .lt 8, 3, 0, 0, 0, 0), (31, .iload_n 3, 1, 0, 0, 0, 0)],
  [(32, .iconst 2, 1, 0, 0, 0, 0), (33, .if_icmp .le 9, 3, 0, 0, 0, 0), (36, .aload_n 0, 1, 0, 0, 0, 0), (37, .iconst 1, 1, 0, 0, 0, 0), (38, .invokevirtual 85, 3, 53, 2, 3, 0), (41, .ireturn, 1, 0, 0, 0, 0), (42, .aload_n 0, 1, 0, 0, 0, 0), (43, .getfield 12, 3, 3, 0, 0, 0), (46, .getfield 178, 3, 4, 7, 7, 0)],
  [(49, .iload_n 1, 1, 0, 0, 0, 0), (50, .aaload, 1, 0, 0, 0, 0), (51, .astore 4, 2, 0, 0, 0, 0), (53, .aload 4, 2, 0, 0, 0, 0), (55, .getfield 182, 3, 8, 1, 1, 0), (58, .istore 5, 2, 0, 0, 0, 0), (60, .aload_n 0, 1, 0, 0, 0, 0), (61, .getfield 12, 3, 3, 0, 0, 0)],
  [(64, .iload 5, 2, 0, 0, 0, 0), (66, .invokevirtual 129, 3, 37, 2, 4, 0), (69, .ifCond .eq 20, 3, 0, 0, 0, 0), (72, .aload_n 0, 1, 0, 0, 0, 0), (73, .getfield 12, 3, 3, 0, 0, 0), (76, .getfield 112, 3, 4, 6, 6, 0), (79, .iload 5, 2, 0, 0, 0, 0)],
  [(81, .aaload, 1, 0, 0, 0, 0), (82, .iload_n 2, 1, 0, 0, 0, 0), (83, .invokevirtual 133, 3, 38, 2, 7, 0), (86, .ifCond .ne 9, 3, 0, 0, 0, 0), (89, .aload_n 0, 1, 0, 0, 0, 0), (90, .iconst 2, 1, 0, 0, 0, 0), (91, .invokevirtual 85, 3, 53, 2, 3, 0), (94, .ireturn, 1, 0, 0, 0, 0), (95, .aload 4, 2, 0, 0, 0, 0)],
  [(97, .iload_n 2, 1, 0, 0, 0, 0), (98, .invokevirtual 226, 3, 73, 2, 8, 0), (101, .istore 6, 2, 0, 0, 0, 0), (103, .iload 6, 2, 0, 0, 0, 0), (105, .iconst (-1), 1, 0, 0, 0, 0), (106, .if_icmp .eq 7, 3, 0, 0, 0, 0), (109, .iconst 1, 1, 0, 0, 0, 0), (110, .goto 4, 3, 0, 0, 0, 0)],
  [(113, .iconst 0, 1, 0, 0, 0, 0), (114, .istore 7, 2, 0, 0, 0, 0), (116, .iload 7, 2, 0, 0, 0, 0), (118, .ifCond .ne 20, 3, 0, 0, 0, 0), (121, .aload_n 0, 1, 0, 0, 0, 0), (122, .getfield 12, 3, 3, 0, 0, 0), (125, .getfield 112, 3, 4, 6, 6, 0)],
  [(128, .iload 5, 2, 0, 0, 0, 0), (130, .aaload, 1, 0, 0, 0, 0), (131, .getfield 190, 3, 7, 8, 8, 0), (134, .iload_n 2, 1, 0, 0, 0, 0), (135, .iaload, 1, 0, 0, 0, 0), (136, .istore 6, 2, 0, 0, 0, 0), (138, .aload_n 0, 1, 0, 0, 0, 0), (139, .getfield 12, 3, 3, 0, 0, 0), (142, .iload 6, 2, 0, 0, 0, 0)],
  [(144, .iload 5, 2, 0, 0, 0, 0), (146, .iload_n 2, 1, 0, 0, 0, 0), (147, .invokevirtual 193, 3, 67, 4, 4, 0), (150, .ifCond .ne 9, 3, 0, 0, 0, 0), (153, .aload_n 0, 1, 0, 0, 0, 0), (154, .iconst 4, 1, 0, 0, 0, 0), (155, .invokevirtual 85, 3, 53, 2, 3, 0), (158, .ireturn, 1, 0, 0, 0, 0), (159, .aload_n 0, 1, 0, 0, 0, 0)],
  [(160, .getfield 12, 3, 3, 0, 0, 0), (163, .getfield 122, 3, 4, 5, 5, 0), (166, .iload 6, 2, 0, 0, 0, 0), (168, .aaload, 1, 0, 0, 0, 0), (169, .astore 8, 2, 0, 0, 0, 0), (171, .iload 7, 2, 0, 0, 0, 0), (173, .ifCond .ne 26, 3, 0, 0, 0, 0)],
  [(176, .aload 8, 2, 0, 0, 0, 0), (178, .getfield 203, 3, 6, 5, 5, 0), (181, .ifCond .ne 12, 3, 0, 0, 0, 0), (184, .aload 8, 2, 0, 0, 0, 0), (186, .getfield 197, 3, 6, 0, 0, 0), (189, .iconst 2, 1, 0, 0, 0, 0), (190, .if_icmp .eq 9, 3, 0, 0, 0, 0)],
  [(193, .aload_n 0, 1, 0, 0, 0, 0), (194, .iconst 4, 1, 0, 0, 0, 0), (195, .invokevirtual 85, 3, 53, 2, 3, 0), (198, .ireturn, 1, 0, 0, 0, 0), (199, .aload 8, 2, 0, 0, 0, 0), (201, .getfield 147, 3, 6, 3, 3, 0), (204, .iconst 1, 1, 0, 0, 0, 0), (205, .iload_n 3, 1, 0, 0, 0, 0), (206, .ishl, 1, 0, 0, 0, 0), (207, .iand, 1, 0, 0, 0, 0)],
  [(208, .ifCond .ne 9, 3, 0, 0, 0, 0), (211, .aload_n 0, 1, 0, 0, 0, 0), (212, .iconst 4, 1, 0, 0, 0, 0), (213, .invokevirtual 85, 3, 53, 2, 3, 0), (216, .ireturn, 1, 0, 0, 0, 0), (217, .iload 7, 2, 0, 0, 0, 0), (219, .ifCond .ne 18, 3, 0, 0, 0, 0), (222, .aload 4, 2, 0, 0, 0, 0)],
  [(224, .iload_n 2, 1, 0, 0, 0, 0), (225, .iload 6, 2, 0, 0, 0, 0), (227, .aload_n 0, 1, 0, 0, 0, 0), (228, .getfield 12, 3, 3, 0, 0, 0), (231, .getfield 229, 3, 4, 2, 2, 0), (234, .invokevirtual 232, 3, 75, 4, 8, 0), (237, .iload_n 3, 1, 0, 0, 0, 0), (238, .ifCond .ne 16, 3, 0, 0, 0, 0)],
  [(241, .aload 4, 2, 0, 0, 0, 0), (243, .aload 8, 2, 0, 0, 0, 0), (245, .getfield 150, 3, 6, 4, 4, 0), (248, .putfield 213, 3, 8, 0, 0, 0), (251, .goto 46, 3, 0, 0, 0, 0), (254, .iload_n 3, 1, 0, 0, 0, 0), (255, .iconst 1, 1, 0, 0, 0, 0)],
  [(256, .if_icmp .ne 16, 3, 0, 0, 0, 0), (259, .aload 8, 2, 0, 0, 0, 0), (261, .aload 4, 2, 0, 0, 0, 0), (263, .getfield 213, 3, 8, 0, 0, 0), (266, .putfield 150, 3, 6, 4, 4, 0), (269, .goto 28, 3, 0, 0, 0, 0)],
  [(272, .aload 4, 2, 0, 0, 0, 0), (274, .bipush 7, 2, 0, 0, 0, 0), (276, .aload 4, 2, 0, 0, 0, 0), (278, .getfield 213, 3, 8, 0, 0, 0), (281, .imul, 1, 0, 0, 0, 0), (282, .aload 8, 2, 0, 0, 0, 0), (284, .getfield 150, 3, 6, 4, 4, 0), (287, .iadd, 1, 0, 0, 0, 0)],
  [(288, .sipush 1000, 3, 0, 0, 0, 0), (291, .invokestatic 235, 3, 45, 2, 11, 0), (294, .putfield 213, 3, 8, 0, 0, 0), (297, .aload 4, 2, 0, 0, 0, 0), (299, .getfield 213, 3, 8, 0, 0, 0), (302, .ireturn, 1, 0, 0, 0, 0)]]
/-- ClosedRooms$World.isFilled(I)Z -/
def cd_77 : List (List CE) := [[(0, .aload_n 0, 1, 0, 0, 0, 0), (1, .iload_n 1, 1, 0, 0, 0, 0), (2, .invokevirtual 90, 3, 32, 2, 4, 0), (5, .ifCond .eq 19, 3, 0, 0, 0, 0), (8, .aload_n 0, 1, 0, 0, 0, 0), (9, .getfield 29, 3, 4, 5, 5, 0), (12, .iload_n 1, 1, 0, 0, 0, 0), (13, .aaload, 1, 0, 0, 0, 0), (14, .getfield 94, 3, 6, 0, 0, 0)],
  [(17, .ifCond .eq 7, 3, 0, 0, 0, 0), (20, .iconst 1, 1, 0, 0, 0, 0), (21, .goto 4, 3, 0, 0, 0, 0), (24, .iconst 0, 1, 0, 0, 0, 0), (25, .ireturn, 1, 0, 0, 0, 0)]]
/-- ClosedRooms$Page.hasAddress()Z -/
def cd_78 : List (List CE) := [[(0, .aload_n 0, 1, 0, 0, 0, 0), (1, .getfield 19, 3, 6, 0, 0, 0), (4, .iconst 2, 1, 0, 0, 0, 0), (5, .if_icmp .eq 11, 3, 0, 0, 0, 0), (8, .aload_n 0, 1, 0, 0, 0, 0), (9, .getfield 19, 3, 6, 0, 0, 0), (12, .iconst 3, 1, 0, 0, 0, 0), (13, .if_icmp .ne 7, 3, 0, 0, 0, 0)],
  [(16, .iconst 1, 1, 0, 0, 0, 0), (17, .goto 4, 3, 0, 0, 0, 0), (20, .iconst 0, 1, 0, 0, 0, 0), (21, .ireturn, 1, 0, 0, 0, 0)]]
/-- ClosedRooms$Acts.blockPage(I)I -/
def cd_79 : List (List CE) := [[(0, .aload_n 0, 1, 0, 0, 0, 0), (1, .getfield 12, 3, 3, 0, 0, 0), (4, .iload_n 1, 1, 0, 0, 0, 0), (5, .invokevirtual 240, 3, 77, 2, 4, 0), (8, .ifCond .ne 9, 3, 0, 0, 0, 0), (11, .aload_n 0, 1, 0, 0, 0, 0), (12, .iconst 0, 1, 0, 0, 0, 0), (13, .invokevirtual 85, 3, 53, 2, 3, 0)],
  [(16, .ireturn, 1, 0, 0, 0, 0), (17, .aload_n 0, 1, 0, 0, 0, 0), (18, .getfield 12, 3, 3, 0, 0, 0), (21, .getfield 122, 3, 4, 5, 5, 0), (24, .iload_n 1, 1, 0, 0, 0, 0), (25, .aaload, 1, 0, 0, 0, 0), (26, .astore_n 2, 1, 0, 0, 0, 0), (27, .aload_n 2, 1, 0, 0, 0, 0), (28, .invokevirtual 243, 3, 78, 1, 6, 0), (31, .ifCond .eq 42, 3, 0, 0, 0, 0)],
  [(34, .aload_n 2, 1, 0, 0, 0, 0), (35, .getfield 203, 3, 6, 5, 5, 0), (38, .ifCond .ne 35, 3, 0, 0, 0, 0), (41, .aload_n 0, 1, 0, 0, 0, 0), (42, .getfield 12, 3, 3, 0, 0, 0), (45, .aload_n 2, 1, 0, 0, 0, 0), (46, .getfield 245, 3, 6, 1, 1, 0)],
  [(49, .invokevirtual 129, 3, 37, 2, 4, 0), (52, .ifCond .eq 21, 3, 0, 0, 0, 0), (55, .aload_n 0, 1, 0, 0, 0, 0), (56, .getfield 12, 3, 3, 0, 0, 0), (59, .getfield 112, 3, 4, 6, 6, 0), (62, .aload_n 2, 1, 0, 0, 0, 0), (63, .getfield 245, 3, 6, 1, 1, 0)],
  [(66, .aaload, 1, 0, 0, 0, 0), (67, .getfield 187, 3, 7, 6, 6, 0), (70, .ifCond .eq 9, 3, 0, 0, 0, 0), (73, .aload_n 0, 1, 0, 0, 0, 0), (74, .iconst 2, 1, 0, 0, 0, 0), (75, .invokevirtual 85, 3, 53, 2, 3, 0), (78, .ireturn, 1, 0, 0, 0, 0), (79, .aload_n 2, 1, 0, 0, 0, 0)],
  [(80, .iconst 1, 1, 0, 0, 0, 0), (81, .putfield 203, 3, 6, 5, 5, 0), (84, .aload_n 2, 1, 0, 0, 0, 0), (85, .aload_n 0, 1, 0, 0, 0, 0), (86, .getfield 12, 3, 3, 0, 0, 0), (89, .getfield 112, 3, 4, 6, 6, 0), (92, .aload_n 2, 1, 0, 0, 0, 0), (93, .getfield 245, 3, 6, 1, 1, 0)],
  [(96, .aaload, 1, 0, 0, 0, 0), (97, .getfield 206, 3, 7, 5, 5, 0), (100, .putfield 246, 3, 6, 6, 6, 0), (103, .aload_n 2, 1, 0, 0, 0, 0), (104, .getfield 246, 3, 6, 6, 6, 0), (107, .ireturn, 1, 0, 0, 0, 0)]]
/-- ClosedRooms$World.coresInside(II)I -/
def cd_80 : List (List CE) := [[(0, .iconst 0, 1, 0, 0, 0, 0), (1, .istore_n 3, 1, 0, 0, 0, 0), (2, .iconst 0, 1, 0, 0, 0, 0), (3, .istore 4, 2, 0, 0, 0, 0), (5, .iload 4, 2, 0, 0, 0, 0), (7, .aload_n 0, 1, 0, 0, 0, 0), (8, .getfield 15, 3, 4, 1, 1, 0), (11, .if_icmp .ge 50, 3, 0, 0, 0, 0), (14, .iload 4, 2, 0, 0, 0, 0)],
  [(16, .iconst 3, 1, 0, 0, 0, 0), (17, .if_icmp .ge 44, 3, 0, 0, 0, 0), (20, .aload_n 0, 1, 0, 0, 0, 0), (21, .getfield 41, 3, 4, 7, 7, 0), (24, .iload 4, 2, 0, 0, 0, 0), (26, .aaload, 1, 0, 0, 0, 0), (27, .getfield 106, 3, 8, 1, 1, 0), (30, .iload_n 1, 1, 0, 0, 0, 0), (31, .if_icmp .ne 24, 3, 0, 0, 0, 0)],
  [(34, .aload_n 0, 1, 0, 0, 0, 0), (35, .getfield 41, 3, 4, 7, 7, 0), (38, .iload 4, 2, 0, 0, 0, 0), (40, .aaload, 1, 0, 0, 0, 0), (41, .getfield 116, 3, 8, 3, 3, 0), (44, .iload_n 2, 1, 0, 0, 0, 0), (45, .if_icmp .gt 10, 3, 0, 0, 0, 0)],
  [(48, .iload_n 3, 1, 0, 0, 0, 0), (49, .iconst 1, 1, 0, 0, 0, 0), (50, .iload 4, 2, 0, 0, 0, 0), (52, .ishl, 1, 0, 0, 0, 0), (53, .ior, 1, 0, 0, 0, 0), (54, .istore_n 3, 1, 0, 0, 0, 0), (55, .iinc 4 1, 3, 0, 0, 0, 0), (58, .goto (-53), 3, 0, 0, 0, 0), (61, .iload_n 3, 1, 0, 0, 0, 0), (62, .ireturn, 1, 0, 0, 0, 0)]]
/-- ClosedRooms$Acts.trackRoom(I)I -/
def cd_81 : List (List CE) := [[(0, .aload_n 0, 1, 0, 0, 0, 0), (1, .getfield 12, 3, 3, 0, 0, 0), (4, .iload_n 1, 1, 0, 0, 0, 0), (5, .invokevirtual 129, 3, 37, 2, 4, 0), (8, .ifCond .ne 9, 3, 0, 0, 0, 0), (11, .aload_n 0, 1, 0, 0, 0, 0), (12, .iconst 0, 1, 0, 0, 0, 0), (13, .invokevirtual 85, 3, 53, 2, 3, 0)],
  [(16, .ireturn, 1, 0, 0, 0, 0), (17, .aload_n 0, 1, 0, 0, 0, 0), (18, .getfield 12, 3, 3, 0, 0, 0), (21, .getfield 112, 3, 4, 6, 6, 0), (24, .iload_n 1, 1, 0, 0, 0, 0), (25, .aaload, 1, 0, 0, 0, 0), (26, .astore_n 2, 1, 0, 0, 0, 0), (27, .aload_n 2, 1, 0, 0, 0, 0), (28, .getfield 187, 3, 7, 6, 6, 0), (31, .ifCond .ne 20, 3, 0, 0, 0, 0)],
  [(34, .aload_n 0, 1, 0, 0, 0, 0), (35, .getfield 12, 3, 3, 0, 0, 0), (38, .iload_n 1, 1, 0, 0, 0, 0), (39, .aload_n 2, 1, 0, 0, 0, 0), (40, .getfield 206, 3, 7, 5, 5, 0), (43, .iconst 1, 1, 0, 0, 0, 0), (44, .isub, 1, 0, 0, 0, 0), (45, .invokevirtual 249, 3, 80, 3, 4, 0)],
  [(48, .ifCond .eq 9, 3, 0, 0, 0, 0), (51, .aload_n 0, 1, 0, 0, 0, 0), (52, .iconst 2, 1, 0, 0, 0, 0), (53, .invokevirtual 85, 3, 53, 2, 3, 0), (56, .ireturn, 1, 0, 0, 0, 0), (57, .aload_n 2, 1, 0, 0, 0, 0), (58, .dup, 1, 0, 0, 0, 0), (59, .getfield 206, 3, 7, 5, 5, 0), (62, .iconst 1, 1, 0, 0, 0, 0), (63, .iadd, 1, 0, 0, 0, 0)],
  [(64, .putfield 206, 3, 7, 5, 5, 0), (67, .aload_n 2, 1, 0, 0, 0, 0), (68, .getfield 206, 3, 7, 5, 5, 0), (71, .ireturn, 1, 0, 0, 0, 0)]]
/-- ClosedRooms$World.pagesHere(I)I -/
def cd_82 : List (List CE) := [[(0, .iconst 0, 1, 0, 0, 0, 0), (1, .istore_n 2, 1, 0, 0, 0, 0), (2, .iconst 0, 1, 0, 0, 0, 0), (3, .istore_n 3, 1, 0, 0, 0, 0), (4, .iload_n 3, 1, 0, 0, 0, 0), (5, .aload_n 0, 1, 0, 0, 0, 0), (6, .getfield 9, 3, 4, 0, 0, 0), (9, .if_icmp .ge 31, 3, 0, 0, 0, 0), (12, .iload_n 3, 1, 0, 0, 0, 0), (13, .bipush 10, 2, 0, 0, 0, 0), (15, .if_icmp .ge 25, 3, 0, 0, 0, 0)],
  [(18, .aload_n 0, 1, 0, 0, 0, 0), (19, .getfield 29, 3, 4, 5, 5, 0), (22, .iload_n 3, 1, 0, 0, 0, 0), (23, .aaload, 1, 0, 0, 0, 0), (24, .getfield 97, 3, 6, 1, 1, 0), (27, .iload_n 1, 1, 0, 0, 0, 0), (28, .if_icmp .ne 6, 3, 0, 0, 0, 0), (31, .iinc 2 1, 3, 0, 0, 0, 0)],
  [(34, .iinc 3 1, 3, 0, 0, 0, 0), (37, .goto (-33), 3, 0, 0, 0, 0), (40, .iload_n 2, 1, 0, 0, 0, 0), (41, .ireturn, 1, 0, 0, 0, 0)]]
/-- ClosedRooms$World.canGo(I)Z -/
def cd_83 : List (List CE) := [[(0, .aload_n 0, 1, 0, 0, 0, 0), (1, .iload_n 1, 1, 0, 0, 0, 0), (2, .invokevirtual 90, 3, 32, 2, 4, 0), (5, .ifCond .ne 5, 3, 0, 0, 0, 0), (8, .iconst 0, 1, 0, 0, 0, 0), (9, .ireturn, 1, 0, 0, 0, 0), (10, .aload_n 0, 1, 0, 0, 0, 0), (11, .getfield 29, 3, 4, 5, 5, 0), (14, .iload_n 1, 1, 0, 0, 0, 0), (15, .aaload, 1, 0, 0, 0, 0)],
  [(16, .astore_n 2, 1, 0, 0, 0, 0), (17, .aload_n 2, 1, 0, 0, 0, 0), (18, .getfield 94, 3, 6, 0, 0, 0), (21, .iconst 1, 1, 0, 0, 0, 0), (22, .if_icmp .ne 21, 3, 0, 0, 0, 0), (25, .aload_n 0, 1, 0, 0, 0, 0), (26, .aload_n 2, 1, 0, 0, 0, 0), (27, .getfield 97, 3, 6, 1, 1, 0), (30, .invokevirtual 119, 3, 82, 2, 4, 0)],
  [(33, .iconst 1, 1, 0, 0, 0, 0), (34, .if_icmp .ne 7, 3, 0, 0, 0, 0), (37, .iconst 1, 1, 0, 0, 0, 0), (38, .goto 4, 3, 0, 0, 0, 0), (41, .iconst 0, 1, 0, 0, 0, 0), (42, .ireturn, 1, 0, 0, 0, 0), (43, .aload_n 2, 1, 0, 0, 0, 0), (44, .invokevirtual 123, 3, 78, 1, 6, 0), (47, .ifCond .eq 21, 3, 0, 0, 0, 0)],
  [(50, .aload_n 2, 1, 0, 0, 0, 0), (51, .getfield 127, 3, 6, 5, 5, 0), (54, .ifCond .eq 14, 3, 0, 0, 0, 0), (57, .aload_n 0, 1, 0, 0, 0, 0), (58, .aload_n 2, 1, 0, 0, 0, 0), (59, .getfield 97, 3, 6, 1, 1, 0), (62, .invokevirtual 107, 3, 37, 2, 4, 0)],
  [(65, .ifCond .ne 5, 3, 0, 0, 0, 0), (68, .iconst 0, 1, 0, 0, 0, 0), (69, .ireturn, 1, 0, 0, 0, 0), (70, .aload_n 2, 1, 0, 0, 0, 0), (71, .getfield 94, 3, 6, 0, 0, 0), (74, .iconst 3, 1, 0, 0, 0, 0), (75, .if_icmp .ne 13, 3, 0, 0, 0, 0), (78, .aload_n 2, 1, 0, 0, 0, 0), (79, .getfield 130, 3, 6, 7, 7, 0)],
  [(82, .iconst 1, 1, 0, 0, 0, 0), (83, .if_icmp .ne 5, 3, 0, 0, 0, 0), (86, .iconst 0, 1, 0, 0, 0, 0), (87, .ireturn, 1, 0, 0, 0, 0), (88, .aload_n 2, 1, 0, 0, 0, 0), (89, .getfield 133, 3, 6, 6, 6, 0), (92, .aload_n 0, 1, 0, 0, 0, 0), (93, .getfield 35, 3, 4, 6, 6, 0)],
  [(96, .aload_n 2, 1, 0, 0, 0, 0), (97, .getfield 97, 3, 6, 1, 1, 0), (100, .aaload, 1, 0, 0, 0, 0), (101, .getfield 136, 3, 7, 5, 5, 0), (104, .if_icmp .ge 22, 3, 0, 0, 0, 0), (107, .aload_n 0, 1, 0, 0, 0, 0), (108, .aload_n 2, 1, 0, 0, 0, 0), (109, .getfield 97, 3, 6, 1, 1, 0)],
  [(112, .aload_n 2, 1, 0, 0, 0, 0), (113, .getfield 133, 3, 6, 6, 6, 0), (116, .invokevirtual 139, 3, 80, 3, 4, 0), (119, .ifCond .ne 7, 3, 0, 0, 0, 0), (122, .iconst 1, 1, 0, 0, 0, 0), (123, .goto 4, 3, 0, 0, 0, 0), (126, .iconst 0, 1, 0, 0, 0, 0), (127, .ireturn, 1, 0, 0, 0, 0)]]
/-- ClosedRooms$World.lowestEmptyPlace()I -/
def cd_84 : List (List CE) := [[(0, .iconst 0, 1, 0, 0, 0, 0), (1, .istore_n 1, 1, 0, 0, 0, 0), (2, .iload_n 1, 1, 0, 0, 0, 0), (3, .bipush 12, 2, 0, 0, 0, 0), (5, .if_icmp .ge 23, 3, 0, 0, 0, 0), (8, .aload_n 0, 1, 0, 0, 0, 0), (9, .getfield 47, 3, 4, 8, 8, 0), (12, .iload_n 1, 1, 0, 0, 0, 0), (13, .aaload, 1, 0, 0, 0, 0), (14, .getfield 72, 3, 9, 0, 0, 0)],
  [(17, .ifCond .ne 5, 3, 0, 0, 0, 0), (20, .iload_n 1, 1, 0, 0, 0, 0), (21, .ireturn, 1, 0, 0, 0, 0), (22, .iinc 1 1, 3, 0, 0, 0, 0), (25, .goto (-23), 3, 0, 0, 0, 0), (28, .iconst (-1), 1, 0, 0, 0, 0), (29, .ireturn, 1, 0, 0, 0, 0)]]
/-- ClosedRooms$Copy.keep(LClosedRooms$Page;II)V -/
def cd_85 : List (List CE) := [[(0, .aload_n 0, 1, 0, 0, 0, 0), (1, .iconst 1, 1, 0, 0, 0, 0), (2, .putfield 9, 3, 9, 0, 0, 0), (5, .aload_n 0, 1, 0, 0, 0, 0), (6, .iload_n 2, 1, 0, 0, 0, 0), (7, .putfield 15, 3, 9, 1, 1, 0), (10, .aload_n 0, 1, 0, 0, 0, 0), (11, .aload_n 1, 1, 0, 0, 0, 0), (12, .getfield 40, 3, 6, 2, 2, 0), (15, .putfield 19, 3, 9, 2, 2, 0)],
  [(18, .aload_n 0, 1, 0, 0, 0, 0), (19, .aload_n 1, 1, 0, 0, 0, 0), (20, .getfield 43, 3, 6, 0, 0, 0), (23, .putfield 22, 3, 9, 3, 3, 0), (26, .aload_n 0, 1, 0, 0, 0, 0), (27, .aload_n 1, 1, 0, 0, 0, 0), (28, .getfield 44, 3, 6, 3, 3, 0), (31, .putfield 25, 3, 9, 4, 4, 0)],
  [(34, .aload_n 0, 1, 0, 0, 0, 0), (35, .aload_n 1, 1, 0, 0, 0, 0), (36, .getfield 45, 3, 6, 4, 4, 0), (39, .putfield 28, 3, 9, 5, 5, 0), (42, .aload_n 0, 1, 0, 0, 0, 0), (43, .aload_n 1, 1, 0, 0, 0, 0), (44, .getfield 46, 3, 6, 7, 7, 0), (47, .iconst 2, 1, 0, 0, 0, 0)],
  [(48, .if_icmp .ne 7, 3, 0, 0, 0, 0), (51, .iconst 1, 1, 0, 0, 0, 0), (52, .goto 4, 3, 0, 0, 0, 0), (55, .iconst 0, 1, 0, 0, 0, 0), (56, .putfield 31, 3, 9, 6, 6, 0), (59, .aload_n 0, 1, 0, 0, 0, 0), (60, .iload_n 3, 1, 0, 0, 0, 0), (61, .putfield 34, 3, 9, 7, 7, 0)],
  [(64, .aload_n 0, 1, 0, 0, 0, 0), (65, .iconst 0, 1, 0, 0, 0, 0), (66, .putfield 37, 3, 9, 8, 8, 0), (69, .return_, 1, 0, 0, 0, 0)]]
/-- ClosedRooms$Room.place(II)V -/
def cd_86 : List (List CE) := [[(0, .aload_n 0, 1, 0, 0, 0, 0), (1, .iload_n 1, 1, 0, 0, 0, 0), (2, .invokevirtual 47, 3, 38, 2, 7, 0), (5, .ifCond .eq 10, 3, 0, 0, 0, 0), (8, .aload_n 0, 1, 0, 0, 0, 0), (9, .getfield 34, 3, 7, 7, 7, 0), (12, .iload_n 1, 1, 0, 0, 0, 0), (13, .iload_n 2, 1, 0, 0, 0, 0), (14, .iastore, 1, 0, 0, 0, 0), (15, .return_, 1, 0, 0, 0, 0)]]
/-- ClosedRooms$Acts.evictPage(III)I -/
def cd_87 : List (List CE) := [[(0, .aload_n 0, 1, 0, 0, 0, 0), (1, .getfield 12, 3, 3, 0, 0, 0), (4, .iload_n 1, 1, 0, 0, 0, 0), (5, .invokevirtual 240, 3, 77, 2, 4, 0), (8, .ifCond .eq 14, 3, 0, 0, 0, 0), (11, .aload_n 0, 1, 0, 0, 0, 0), (12, .getfield 12, 3, 3, 0, 0, 0), (15, .iload_n 2, 1, 0, 0, 0, 0)],
  [(16, .invokevirtual 252, 3, 35, 2, 4, 0), (19, .ifCond .ne 9, 3, 0, 0, 0, 0), (22, .aload_n 0, 1, 0, 0, 0, 0), (23, .iconst 0, 1, 0, 0, 0, 0), (24, .invokevirtual 85, 3, 53, 2, 3, 0), (27, .ireturn, 1, 0, 0, 0, 0), (28, .iload_n 3, 1, 0, 0, 0, 0), (29, .ifCond .lt 8, 3, 0, 0, 0, 0)],
  [(32, .iload_n 3, 1, 0, 0, 0, 0), (33, .iconst 4, 1, 0, 0, 0, 0), (34, .if_icmp .lt 9, 3, 0, 0, 0, 0), (37, .aload_n 0, 1, 0, 0, 0, 0), (38, .iconst 1, 1, 0, 0, 0, 0), (39, .invokevirtual 85, 3, 53, 2, 3, 0), (42, .ireturn, 1, 0, 0, 0, 0), (43, .aload_n 0, 1, 0, 0, 0, 0), (44, .getfield 12, 3, 3, 0, 0, 0), (47, .iload_n 1, 1, 0, 0, 0, 0)],
  [(48, .invokevirtual 255, 3, 83, 2, 4, 0), (51, .ifCond .eq 20, 3, 0, 0, 0, 0), (54, .aload_n 0, 1, 0, 0, 0, 0), (55, .getfield 12, 3, 3, 0, 0, 0), (58, .getfield 122, 3, 4, 5, 5, 0), (61, .iload_n 2, 1, 0, 0, 0, 0), (62, .aaload, 1, 0, 0, 0, 0), (63, .getfield 258, 3, 6, 8, 8, 0)],
  [(66, .iload_n 3, 1, 0, 0, 0, 0), (67, .iaload, 1, 0, 0, 0, 0), (68, .ifCond .eq 9, 3, 0, 0, 0, 0), (71, .aload_n 0, 1, 0, 0, 0, 0), (72, .iconst 2, 1, 0, 0, 0, 0), (73, .invokevirtual 85, 3, 53, 2, 3, 0), (76, .ireturn, 1, 0, 0, 0, 0), (77, .aload_n 0, 1, 0, 0, 0, 0), (78, .getfield 12, 3, 3, 0, 0, 0)],
  [(81, .invokevirtual 261, 3, 84, 1, 4, 0), (84, .istore 4, 2, 0, 0, 0, 0), (86, .iload 4, 2, 0, 0, 0, 0), (88, .iconst (-1), 1, 0, 0, 0, 0), (89, .if_icmp .ne 9, 3, 0, 0, 0, 0), (92, .aload_n 0, 1, 0, 0, 0, 0), (93, .iconst 3, 1, 0, 0, 0, 0), (94, .invokevirtual 85, 3, 53, 2, 3, 0)],
  [(97, .ireturn, 1, 0, 0, 0, 0), (98, .aload_n 0, 1, 0, 0, 0, 0), (99, .getfield 12, 3, 3, 0, 0, 0), (102, .getfield 122, 3, 4, 5, 5, 0), (105, .iload_n 1, 1, 0, 0, 0, 0), (106, .aaload, 1, 0, 0, 0, 0), (107, .astore 5, 2, 0, 0, 0, 0), (109, .aload_n 0, 1, 0, 0, 0, 0), (110, .getfield 12, 3, 3, 0, 0, 0)],
  [(113, .aload 5, 2, 0, 0, 0, 0), (115, .getfield 245, 3, 6, 1, 1, 0), (118, .invokevirtual 129, 3, 37, 2, 4, 0), (121, .ifCond .ne 9, 3, 0, 0, 0, 0), (124, .aload_n 0, 1, 0, 0, 0, 0), (125, .iconst 2, 1, 0, 0, 0, 0), (126, .invokevirtual 85, 3, 53, 2, 3, 0)],
  [(129, .ireturn, 1, 0, 0, 0, 0), (130, .aload_n 0, 1, 0, 0, 0, 0), (131, .getfield 12, 3, 3, 0, 0, 0), (134, .getfield 112, 3, 4, 6, 6, 0), (137, .aload 5, 2, 0, 0, 0, 0), (139, .getfield 245, 3, 6, 1, 1, 0), (142, .aaload, 1, 0, 0, 0, 0), (143, .astore 6, 2, 0, 0, 0, 0)],
  [(145, .aload_n 0, 1, 0, 0, 0, 0), (146, .getfield 12, 3, 3, 0, 0, 0), (149, .dup, 1, 0, 0, 0, 0), (150, .getfield 264, 3, 4, 3, 3, 0), (153, .iconst 1, 1, 0, 0, 0, 0), (154, .iadd, 1, 0, 0, 0, 0), (155, .putfield 264, 3, 4, 3, 3, 0), (158, .aload_n 0, 1, 0, 0, 0, 0), (159, .getfield 12, 3, 3, 0, 0, 0)],
  [(162, .getfield 267, 3, 4, 8, 8, 0), (165, .iload 4, 2, 0, 0, 0, 0), (167, .aaload, 1, 0, 0, 0, 0), (168, .aload 5, 2, 0, 0, 0, 0), (170, .aload 6, 2, 0, 0, 0, 0), (172, .getfield 172, 3, 7, 1, 1, 0), (175, .aload_n 0, 1, 0, 0, 0, 0)],
  [(176, .getfield 12, 3, 3, 0, 0, 0), (179, .getfield 264, 3, 4, 3, 3, 0), (182, .invokevirtual 271, 3, 85, 4, 9, 0), (185, .aload_n 0, 1, 0, 0, 0, 0), (186, .getfield 12, 3, 3, 0, 0, 0), (189, .getfield 122, 3, 4, 5, 5, 0)],
  [(192, .iload_n 2, 1, 0, 0, 0, 0), (193, .aaload, 1, 0, 0, 0, 0), (194, .getfield 258, 3, 6, 8, 8, 0), (197, .iload_n 3, 1, 0, 0, 0, 0), (198, .aload_n 0, 1, 0, 0, 0, 0), (199, .getfield 12, 3, 3, 0, 0, 0), (202, .getfield 264, 3, 4, 3, 3, 0), (205, .iastore, 1, 0, 0, 0, 0), (206, .aload 5, 2, 0, 0, 0, 0)],
  [(208, .getfield 197, 3, 6, 0, 0, 0), (211, .iconst 1, 1, 0, 0, 0, 0), (212, .if_icmp .ne 12, 3, 0, 0, 0, 0), (215, .aload 6, 2, 0, 0, 0, 0), (217, .iconst 1, 1, 0, 0, 0, 0), (218, .putfield 187, 3, 7, 6, 6, 0), (221, .goto 14, 3, 0, 0, 0, 0)],
  [(224, .aload 6, 2, 0, 0, 0, 0), (226, .aload 5, 2, 0, 0, 0, 0), (228, .getfield 144, 3, 6, 2, 2, 0), (231, .iconst 2, 1, 0, 0, 0, 0), (232, .invokevirtual 277, 3, 86, 3, 7, 0), (235, .aload 5, 2, 0, 0, 0, 0), (237, .iconst 0, 1, 0, 0, 0, 0), (238, .iconst (-1), 1, 0, 0, 0, 0), (239, .invokevirtual 126, 3, 22, 3, 6, 0)],
  [(242, .iload 4, 2, 0, 0, 0, 0), (244, .ireturn, 1, 0, 0, 0, 0)]]
/-- ClosedRooms$World.roomOfSerial(I)I -/
def cd_88 : List (List CE) := [[(0, .iconst 0, 1, 0, 0, 0, 0), (1, .istore_n 2, 1, 0, 0, 0, 0), (2, .iload_n 2, 1, 0, 0, 0, 0), (3, .iconst 4, 1, 0, 0, 0, 0), (4, .if_icmp .ge 36, 3, 0, 0, 0, 0), (7, .aload_n 0, 1, 0, 0, 0, 0), (8, .getfield 35, 3, 4, 6, 6, 0), (11, .iload_n 2, 1, 0, 0, 0, 0), (12, .aaload, 1, 0, 0, 0, 0), (13, .getfield 66, 3, 7, 0, 0, 0)],
  [(16, .ifCond .eq 18, 3, 0, 0, 0, 0), (19, .aload_n 0, 1, 0, 0, 0, 0), (20, .getfield 35, 3, 4, 6, 6, 0), (23, .iload_n 2, 1, 0, 0, 0, 0), (24, .aaload, 1, 0, 0, 0, 0), (25, .getfield 110, 3, 7, 1, 1, 0), (28, .iload_n 1, 1, 0, 0, 0, 0), (29, .if_icmp .ne 5, 3, 0, 0, 0, 0)],
  [(32, .iload_n 2, 1, 0, 0, 0, 0), (33, .ireturn, 1, 0, 0, 0, 0), (34, .iinc 2 1, 3, 0, 0, 0, 0), (37, .goto (-35), 3, 0, 0, 0, 0), (40, .iconst (-1), 1, 0, 0, 0, 0), (41, .ireturn, 1, 0, 0, 0, 0)]]
/-- ClosedRooms$Copy.fill(LClosedRooms$Page;I)V -/
def cd_89 : List (List CE) := [[(0, .aload_n 1, 1, 0, 0, 0, 0), (1, .aload_n 0, 1, 0, 0, 0, 0), (2, .getfield 22, 3, 9, 3, 3, 0), (5, .iload_n 2, 1, 0, 0, 0, 0), (6, .invokevirtual 49, 3, 22, 3, 6, 0), (9, .aload_n 1, 1, 0, 0, 0, 0), (10, .aload_n 0, 1, 0, 0, 0, 0), (11, .getfield 19, 3, 9, 2, 2, 0), (14, .putfield 40, 3, 6, 2, 2, 0)],
  [(17, .aload_n 1, 1, 0, 0, 0, 0), (18, .aload_n 0, 1, 0, 0, 0, 0), (19, .getfield 25, 3, 9, 4, 4, 0), (22, .putfield 44, 3, 6, 3, 3, 0), (25, .aload_n 1, 1, 0, 0, 0, 0), (26, .aload_n 0, 1, 0, 0, 0, 0), (27, .getfield 28, 3, 9, 5, 5, 0), (30, .putfield 45, 3, 6, 4, 4, 0)],
  [(33, .aload_n 1, 1, 0, 0, 0, 0), (34, .aload_n 0, 1, 0, 0, 0, 0), (35, .getfield 31, 3, 9, 6, 6, 0), (38, .ifCond .eq 7, 3, 0, 0, 0, 0), (41, .iconst 2, 1, 0, 0, 0, 0), (42, .goto 4, 3, 0, 0, 0, 0), (45, .iconst 0, 1, 0, 0, 0, 0), (46, .putfield 46, 3, 6, 7, 7, 0)],
  [(49, .return_, 1, 0, 0, 0, 0)]]
/-- ClosedRooms$Acts.loadCopy(III)I -/
def cd_90 : List (List CE) := [[(0, .aload_n 0, 1, 0, 0, 0, 0), (1, .getfield 12, 3, 3, 0, 0, 0), (4, .iload_n 1, 1, 0, 0, 0, 0), (5, .invokevirtual 280, 3, 43, 2, 4, 0), (8, .ifCond .eq 14, 3, 0, 0, 0, 0), (11, .aload_n 0, 1, 0, 0, 0, 0), (12, .getfield 12, 3, 3, 0, 0, 0), (15, .iload_n 2, 1, 0, 0, 0, 0)],
  [(16, .invokevirtual 252, 3, 35, 2, 4, 0), (19, .ifCond .ne 9, 3, 0, 0, 0, 0), (22, .aload_n 0, 1, 0, 0, 0, 0), (23, .iconst 0, 1, 0, 0, 0, 0), (24, .invokevirtual 85, 3, 53, 2, 3, 0), (27, .ireturn, 1, 0, 0, 0, 0), (28, .iload_n 3, 1, 0, 0, 0, 0), (29, .ifCond .lt 8, 3, 0, 0, 0, 0)],
  [(32, .iload_n 3, 1, 0, 0, 0, 0), (33, .iconst 4, 1, 0, 0, 0, 0), (34, .if_icmp .lt 9, 3, 0, 0, 0, 0), (37, .aload_n 0, 1, 0, 0, 0, 0), (38, .iconst 1, 1, 0, 0, 0, 0), (39, .invokevirtual 85, 3, 53, 2, 3, 0), (42, .ireturn, 1, 0, 0, 0, 0), (43, .aload_n 0, 1, 0, 0, 0, 0), (44, .getfield 12, 3, 3, 0, 0, 0), (47, .invokevirtual 103, 3, 54, 1, 4, 0)],
  [(50, .istore 4, 2, 0, 0, 0, 0), (52, .iload 4, 2, 0, 0, 0, 0), (54, .iconst (-1), 1, 0, 0, 0, 0), (55, .if_icmp .ne 9, 3, 0, 0, 0, 0), (58, .aload_n 0, 1, 0, 0, 0, 0), (59, .iconst 3, 1, 0, 0, 0, 0), (60, .invokevirtual 85, 3, 53, 2, 3, 0), (63, .ireturn, 1, 0, 0, 0, 0)],
  [(64, .aload_n 0, 1, 0, 0, 0, 0), (65, .getfield 12, 3, 3, 0, 0, 0), (68, .getfield 267, 3, 4, 8, 8, 0), (71, .iload_n 1, 1, 0, 0, 0, 0), (72, .aaload, 1, 0, 0, 0, 0), (73, .astore 5, 2, 0, 0, 0, 0), (75, .aload 5, 2, 0, 0, 0, 0), (77, .getfield 283, 3, 9, 8, 8, 0)],
  [(80, .ifCond .ne 25, 3, 0, 0, 0, 0), (83, .aload_n 0, 1, 0, 0, 0, 0), (84, .getfield 12, 3, 3, 0, 0, 0), (87, .getfield 122, 3, 4, 5, 5, 0), (90, .iload_n 2, 1, 0, 0, 0, 0), (91, .aaload, 1, 0, 0, 0, 0), (92, .getfield 258, 3, 6, 8, 8, 0), (95, .iload_n 3, 1, 0, 0, 0, 0)],
  [(96, .iaload, 1, 0, 0, 0, 0), (97, .aload 5, 2, 0, 0, 0, 0), (99, .getfield 286, 3, 9, 7, 7, 0), (102, .if_icmp .eq 9, 3, 0, 0, 0, 0), (105, .aload_n 0, 1, 0, 0, 0, 0), (106, .iconst 4, 1, 0, 0, 0, 0), (107, .invokevirtual 85, 3, 53, 2, 3, 0), (110, .ireturn, 1, 0, 0, 0, 0), (111, .aload_n 0, 1, 0, 0, 0, 0)],
  [(112, .getfield 12, 3, 3, 0, 0, 0), (115, .aload 5, 2, 0, 0, 0, 0), (117, .getfield 289, 3, 9, 1, 1, 0), (120, .invokevirtual 290, 3, 88, 2, 4, 0), (123, .istore 6, 2, 0, 0, 0, 0), (125, .iload 6, 2, 0, 0, 0, 0), (127, .iconst (-1), 1, 0, 0, 0, 0)],
  [(128, .if_icmp .ne 9, 3, 0, 0, 0, 0), (131, .aload_n 0, 1, 0, 0, 0, 0), (132, .iconst 4, 1, 0, 0, 0, 0), (133, .invokevirtual 85, 3, 53, 2, 3, 0), (136, .ireturn, 1, 0, 0, 0, 0), (137, .aload_n 0, 1, 0, 0, 0, 0), (138, .getfield 12, 3, 3, 0, 0, 0), (141, .getfield 112, 3, 4, 6, 6, 0)],
  [(144, .iload 6, 2, 0, 0, 0, 0), (146, .aaload, 1, 0, 0, 0, 0), (147, .astore 7, 2, 0, 0, 0, 0), (149, .aload 5, 2, 0, 0, 0, 0), (151, .getfield 293, 3, 9, 3, 3, 0), (154, .iconst 1, 1, 0, 0, 0, 0), (155, .if_icmp .eq 17, 3, 0, 0, 0, 0), (158, .aload 7, 2, 0, 0, 0, 0)],
  [(160, .getfield 187, 3, 7, 6, 6, 0), (163, .ifCond .eq 9, 3, 0, 0, 0, 0), (166, .aload_n 0, 1, 0, 0, 0, 0), (167, .iconst 4, 1, 0, 0, 0, 0), (168, .invokevirtual 85, 3, 53, 2, 3, 0), (171, .ireturn, 1, 0, 0, 0, 0), (172, .aload 5, 2, 0, 0, 0, 0), (174, .aload_n 0, 1, 0, 0, 0, 0), (175, .getfield 12, 3, 3, 0, 0, 0)],
  [(178, .getfield 122, 3, 4, 5, 5, 0), (181, .iload 4, 2, 0, 0, 0, 0), (183, .aaload, 1, 0, 0, 0, 0), (184, .iload 6, 2, 0, 0, 0, 0), (186, .invokevirtual 294, 3, 89, 3, 9, 0), (189, .aload 5, 2, 0, 0, 0, 0), (191, .getfield 293, 3, 9, 3, 3, 0)],
  [(194, .iconst 1, 1, 0, 0, 0, 0), (195, .if_icmp .ne 12, 3, 0, 0, 0, 0), (198, .aload 7, 2, 0, 0, 0, 0), (200, .iconst 0, 1, 0, 0, 0, 0), (201, .putfield 187, 3, 7, 6, 6, 0), (204, .goto 15, 3, 0, 0, 0, 0), (207, .aload 7, 2, 0, 0, 0, 0)],
  [(209, .aload 5, 2, 0, 0, 0, 0), (211, .getfield 298, 3, 9, 2, 2, 0), (214, .iload 4, 2, 0, 0, 0, 0), (216, .invokevirtual 153, 3, 60, 3, 7, 0), (219, .aload_n 0, 1, 0, 0, 0, 0), (220, .getfield 12, 3, 3, 0, 0, 0), (223, .getfield 122, 3, 4, 5, 5, 0)],
  [(226, .iload_n 2, 1, 0, 0, 0, 0), (227, .aaload, 1, 0, 0, 0, 0), (228, .getfield 258, 3, 6, 8, 8, 0), (231, .iload_n 3, 1, 0, 0, 0, 0), (232, .iconst 0, 1, 0, 0, 0, 0), (233, .iastore, 1, 0, 0, 0, 0), (234, .iload 4, 2, 0, 0, 0, 0), (236, .ireturn, 1, 0, 0, 0, 0)]]
/-- ClosedRooms$Page.emptySlots()I -/
def cd_91 : List (List CE) := [[(0, .iconst 0, 1, 0, 0, 0, 0), (1, .istore_n 1, 1, 0, 0, 0, 0), (2, .iconst 0, 1, 0, 0, 0, 0), (3, .istore_n 2, 1, 0, 0, 0, 0), (4, .iload_n 2, 1, 0, 0, 0, 0), (5, .iconst 4, 1, 0, 0, 0, 0), (6, .if_icmp .ge 21, 3, 0, 0, 0, 0), (9, .aload_n 0, 1, 0, 0, 0, 0), (10, .getfield 9, 3, 6, 8, 8, 0), (13, .iload_n 2, 1, 0, 0, 0, 0), (14, .iaload, 1, 0, 0, 0, 0), (15, .ifCond .ne 6, 3, 0, 0, 0, 0)],
  [(18, .iinc 1 1, 3, 0, 0, 0, 0), (21, .iinc 2 1, 3, 0, 0, 0, 0), (24, .goto (-20), 3, 0, 0, 0, 0), (27, .iload_n 1, 1, 0, 0, 0, 0), (28, .ireturn, 1, 0, 0, 0, 0)]]
/-- ClosedRooms$Acts.removePage(I)I -/
def cd_92 : List (List CE) := [[(0, .aload_n 0, 1, 0, 0, 0, 0), (1, .getfield 12, 3, 3, 0, 0, 0), (4, .iload_n 1, 1, 0, 0, 0, 0), (5, .invokevirtual 240, 3, 77, 2, 4, 0), (8, .ifCond .ne 9, 3, 0, 0, 0, 0), (11, .aload_n 0, 1, 0, 0, 0, 0), (12, .iconst 0, 1, 0, 0, 0, 0), (13, .invokevirtual 85, 3, 53, 2, 3, 0)],
  [(16, .ireturn, 1, 0, 0, 0, 0), (17, .aload_n 0, 1, 0, 0, 0, 0), (18, .getfield 12, 3, 3, 0, 0, 0), (21, .getfield 122, 3, 4, 5, 5, 0), (24, .iload_n 1, 1, 0, 0, 0, 0), (25, .aaload, 1, 0, 0, 0, 0), (26, .astore_n 2, 1, 0, 0, 0, 0), (27, .aload_n 2, 1, 0, 0, 0, 0), (28, .getfield 197, 3, 6, 0, 0, 0), (31, .istore_n 3, 1, 0, 0, 0, 0)],
  [(32, .iload_n 3, 1, 0, 0, 0, 0), (33, .iconst 4, 1, 0, 0, 0, 0), (34, .if_icmp .ne 17, 3, 0, 0, 0, 0), (37, .aload_n 2, 1, 0, 0, 0, 0), (38, .invokevirtual 299, 3, 91, 1, 6, 0), (41, .iconst 4, 1, 0, 0, 0, 0), (42, .if_icmp .ge 9, 3, 0, 0, 0, 0), (45, .aload_n 0, 1, 0, 0, 0, 0), (46, .iconst 2, 1, 0, 0, 0, 0), (47, .invokevirtual 85, 3, 53, 2, 3, 0)],
  [(50, .ireturn, 1, 0, 0, 0, 0), (51, .aload_n 2, 1, 0, 0, 0, 0), (52, .invokevirtual 302, 3, 33, 1, 6, 0), (55, .ifCond .eq 26, 3, 0, 0, 0, 0), (58, .aload_n 0, 1, 0, 0, 0, 0), (59, .getfield 12, 3, 3, 0, 0, 0), (62, .aload_n 2, 1, 0, 0, 0, 0), (63, .getfield 245, 3, 6, 1, 1, 0)],
  [(66, .ldc_w 305, 3, 0, 0, 0, 2147483647), (69, .invokevirtual 249, 3, 80, 3, 4, 0), (72, .ifCond .eq 9, 3, 0, 0, 0, 0), (75, .aload_n 0, 1, 0, 0, 0, 0), (76, .iconst 2, 1, 0, 0, 0, 0), (77, .invokevirtual 85, 3, 53, 2, 3, 0)],
  [(80, .ireturn, 1, 0, 0, 0, 0), (81, .iload_n 3, 1, 0, 0, 0, 0), (82, .iconst 1, 1, 0, 0, 0, 0), (83, .if_icmp .ne 24, 3, 0, 0, 0, 0), (86, .aload_n 0, 1, 0, 0, 0, 0), (87, .getfield 12, 3, 3, 0, 0, 0), (90, .aload_n 2, 1, 0, 0, 0, 0), (91, .getfield 245, 3, 6, 1, 1, 0), (94, .invokevirtual 306, 3, 82, 2, 4, 0)],
  [(97, .iconst 1, 1, 0, 0, 0, 0), (98, .if_icmp .le 9, 3, 0, 0, 0, 0), (101, .aload_n 0, 1, 0, 0, 0, 0), (102, .iconst 2, 1, 0, 0, 0, 0), (103, .invokevirtual 85, 3, 53, 2, 3, 0), (106, .ireturn, 1, 0, 0, 0, 0), (107, .aload_n 0, 1, 0, 0, 0, 0), (108, .getfield 12, 3, 3, 0, 0, 0), (111, .aload_n 2, 1, 0, 0, 0, 0)],
  [(112, .getfield 245, 3, 6, 1, 1, 0), (115, .invokevirtual 129, 3, 37, 2, 4, 0), (118, .ifCond .eq 47, 3, 0, 0, 0, 0), (121, .iload_n 3, 1, 0, 0, 0, 0), (122, .iconst 1, 1, 0, 0, 0, 0), (123, .if_icmp .ne 22, 3, 0, 0, 0, 0), (126, .aload_n 0, 1, 0, 0, 0, 0), (127, .getfield 12, 3, 3, 0, 0, 0)],
  [(130, .getfield 112, 3, 4, 6, 6, 0), (133, .aload_n 2, 1, 0, 0, 0, 0), (134, .getfield 245, 3, 6, 1, 1, 0), (137, .aaload, 1, 0, 0, 0, 0), (138, .iconst 0, 1, 0, 0, 0, 0), (139, .putfield 309, 3, 7, 0, 0, 0), (142, .goto 23, 3, 0, 0, 0, 0)],
  [(145, .aload_n 0, 1, 0, 0, 0, 0), (146, .getfield 12, 3, 3, 0, 0, 0), (149, .getfield 112, 3, 4, 6, 6, 0), (152, .aload_n 2, 1, 0, 0, 0, 0), (153, .getfield 245, 3, 6, 1, 1, 0), (156, .aaload, 1, 0, 0, 0, 0), (157, .aload_n 2, 1, 0, 0, 0, 0), (158, .getfield 144, 3, 6, 2, 2, 0)],
  [(161, .iconst 0, 1, 0, 0, 0, 0), (162, .invokevirtual 277, 3, 86, 3, 7, 0), (165, .aload_n 2, 1, 0, 0, 0, 0), (166, .iconst 0, 1, 0, 0, 0, 0), (167, .iconst (-1), 1, 0, 0, 0, 0), (168, .invokevirtual 126, 3, 22, 3, 6, 0), (171, .iload_n 3, 1, 0, 0, 0, 0), (172, .ireturn, 1, 0, 0, 0, 0)]]
/-- ClosedRooms$Acts.tellMap(III)I -/
def cd_93 : List (List CE) := [[(0, .aload_n 0, 1, 0, 0, 0, 0), (1, .getfield 12, 3, 3, 0, 0, 0), (4, .iload_n 1, 1, 0, 0, 0, 0), (5, .invokevirtual 129, 3, 37, 2, 4, 0), (8, .ifCond .ne 9, 3, 0, 0, 0, 0), (11, .aload_n 0, 1, 0, 0, 0, 0), (12, .iconst 0, 1, 0, 0, 0, 0), (13, .invokevirtual 85, 3, 53, 2, 3, 0)],
  [(16, .ireturn, 1, 0, 0, 0, 0), (17, .aload_n 0, 1, 0, 0, 0, 0), (18, .getfield 12, 3, 3, 0, 0, 0), (21, .getfield 112, 3, 4, 6, 6, 0), (24, .iload_n 1, 1, 0, 0, 0, 0), (25, .aaload, 1, 0, 0, 0, 0), (26, .astore 4, 2, 0, 0, 0, 0), (28, .aload 4, 2, 0, 0, 0, 0), (30, .iload_n 2, 1, 0, 0, 0, 0), (31, .invokevirtual 133, 3, 38, 2, 7, 0)],
  [(34, .ifCond .eq 19, 3, 0, 0, 0, 0), (37, .iload_n 3, 1, 0, 0, 0, 0), (38, .iconst (-1), 1, 0, 0, 0, 0), (39, .if_icmp .eq 20, 3, 0, 0, 0, 0), (42, .aload_n 0, 1, 0, 0, 0, 0), (43, .getfield 12, 3, 3, 0, 0, 0), (46, .iload_n 3, 1, 0, 0, 0, 0), (47, .invokevirtual 220, 3, 32, 2, 4, 0)],
  [(50, .ifCond .ne 9, 3, 0, 0, 0, 0), (53, .aload_n 0, 1, 0, 0, 0, 0), (54, .iconst 1, 1, 0, 0, 0, 0), (55, .invokevirtual 85, 3, 53, 2, 3, 0), (58, .ireturn, 1, 0, 0, 0, 0), (59, .aload 4, 2, 0, 0, 0, 0), (61, .getfield 190, 3, 7, 8, 8, 0)],
  [(64, .iload_n 2, 1, 0, 0, 0, 0), (65, .iaload, 1, 0, 0, 0, 0), (66, .istore 5, 2, 0, 0, 0, 0), (68, .iload 5, 2, 0, 0, 0, 0), (70, .iload_n 3, 1, 0, 0, 0, 0), (71, .if_icmp .ne 9, 3, 0, 0, 0, 0), (74, .aload_n 0, 1, 0, 0, 0, 0), (75, .iconst 2, 1, 0, 0, 0, 0), (76, .invokevirtual 85, 3, 53, 2, 3, 0), (79, .ireturn, 1, 0, 0, 0, 0)],
  [(80, .aload 4, 2, 0, 0, 0, 0), (82, .getfield 190, 3, 7, 8, 8, 0), (85, .iload_n 2, 1, 0, 0, 0, 0), (86, .iload_n 3, 1, 0, 0, 0, 0), (87, .iastore, 1, 0, 0, 0, 0), (88, .iload 5, 2, 0, 0, 0, 0), (90, .ireturn, 1, 0, 0, 0, 0)]]
/-- ClosedRooms$Acts.doubleCopy(I)I -/
def cd_94 : List (List CE) := [[(0, .aload_n 0, 1, 0, 0, 0, 0), (1, .getfield 12, 3, 3, 0, 0, 0), (4, .iload_n 1, 1, 0, 0, 0, 0), (5, .invokevirtual 280, 3, 43, 2, 4, 0), (8, .ifCond .ne 9, 3, 0, 0, 0, 0), (11, .aload_n 0, 1, 0, 0, 0, 0), (12, .iconst 0, 1, 0, 0, 0, 0), (13, .invokevirtual 85, 3, 53, 2, 3, 0)],
  [(16, .ireturn, 1, 0, 0, 0, 0), (17, .aload_n 0, 1, 0, 0, 0, 0), (18, .getfield 12, 3, 3, 0, 0, 0), (21, .invokevirtual 261, 3, 84, 1, 4, 0), (24, .istore_n 2, 1, 0, 0, 0, 0), (25, .iload_n 2, 1, 0, 0, 0, 0), (26, .iconst (-1), 1, 0, 0, 0, 0), (27, .if_icmp .ne 9, 3, 0, 0, 0, 0), (30, .aload_n 0, 1, 0, 0, 0, 0), (31, .iconst 3, 1, 0, 0, 0, 0)],
  [(32, .invokevirtual 85, 3, 53, 2, 3, 0), (35, .ireturn, 1, 0, 0, 0, 0), (36, .aload_n 0, 1, 0, 0, 0, 0), (37, .getfield 12, 3, 3, 0, 0, 0), (40, .getfield 267, 3, 4, 8, 8, 0), (43, .iload_n 2, 1, 0, 0, 0, 0), (44, .aaload, 1, 0, 0, 0, 0), (45, .aload_n 0, 1, 0, 0, 0, 0), (46, .getfield 12, 3, 3, 0, 0, 0)],
  [(49, .getfield 267, 3, 4, 8, 8, 0), (52, .iload_n 1, 1, 0, 0, 0, 0), (53, .aaload, 1, 0, 0, 0, 0), (54, .invokevirtual 312, 3, 50, 2, 9, 0), (57, .iload_n 2, 1, 0, 0, 0, 0), (58, .ireturn, 1, 0, 0, 0, 0)]]
/-- ClosedRooms$Acts.changeCopy(II)I -/
def cd_95 : List (List CE) := [[(0, .aload_n 0, 1, 0, 0, 0, 0), (1, .getfield 12, 3, 3, 0, 0, 0), (4, .iload_n 1, 1, 0, 0, 0, 0), (5, .invokevirtual 280, 3, 43, 2, 4, 0), (8, .ifCond .ne 9, 3, 0, 0, 0, 0), (11, .aload_n 0, 1, 0, 0, 0, 0), (12, .iconst 0, 1, 0, 0, 0, 0), (13, .invokevirtual 85, 3, 53, 2, 3, 0)],
  [(16, .ireturn, 1, 0, 0, 0, 0), (17, .iload_n 2, 1, 0, 0, 0, 0), (18, .ifCond .lt 10, 3, 0, 0, 0, 0), (21, .iload_n 2, 1, 0, 0, 0, 0), (22, .sipush 999, 3, 0, 0, 0, 0), (25, .if_icmp .le 9, 3, 0, 0, 0, 0), (28, .aload_n 0, 1, 0, 0, 0, 0), (29, .iconst 1, 1, 0, 0, 0, 0), (30, .invokevirtual 85, 3, 53, 2, 3, 0)],
  [(33, .ireturn, 1, 0, 0, 0, 0), (34, .aload_n 0, 1, 0, 0, 0, 0), (35, .getfield 12, 3, 3, 0, 0, 0), (38, .getfield 267, 3, 4, 8, 8, 0), (41, .iload_n 1, 1, 0, 0, 0, 0), (42, .aaload, 1, 0, 0, 0, 0), (43, .astore_n 3, 1, 0, 0, 0, 0), (44, .aload_n 3, 1, 0, 0, 0, 0), (45, .getfield 316, 3, 9, 5, 5, 0)],
  [(48, .istore 4, 2, 0, 0, 0, 0), (50, .iload 4, 2, 0, 0, 0, 0), (52, .iload_n 2, 1, 0, 0, 0, 0), (53, .if_icmp .ne 9, 3, 0, 0, 0, 0), (56, .aload_n 0, 1, 0, 0, 0, 0), (57, .iconst 2, 1, 0, 0, 0, 0), (58, .invokevirtual 85, 3, 53, 2, 3, 0), (61, .ireturn, 1, 0, 0, 0, 0), (62, .aload_n 3, 1, 0, 0, 0, 0), (63, .iload_n 2, 1, 0, 0, 0, 0)],
  [(64, .putfield 316, 3, 9, 5, 5, 0), (67, .aload_n 3, 1, 0, 0, 0, 0), (68, .iconst 1, 1, 0, 0, 0, 0), (69, .putfield 283, 3, 9, 8, 8, 0), (72, .iload 4, 2, 0, 0, 0, 0), (74, .ireturn, 1, 0, 0, 0, 0)]]
/-- ClosedRooms$Acts.dropCopy(I)I -/
def cd_96 : List (List CE) := [[(0, .aload_n 0, 1, 0, 0, 0, 0), (1, .getfield 12, 3, 3, 0, 0, 0), (4, .iload_n 1, 1, 0, 0, 0, 0), (5, .invokevirtual 280, 3, 43, 2, 4, 0), (8, .ifCond .ne 9, 3, 0, 0, 0, 0), (11, .aload_n 0, 1, 0, 0, 0, 0), (12, .iconst 0, 1, 0, 0, 0, 0), (13, .invokevirtual 85, 3, 53, 2, 3, 0)],
  [(16, .ireturn, 1, 0, 0, 0, 0), (17, .aload_n 0, 1, 0, 0, 0, 0), (18, .getfield 12, 3, 3, 0, 0, 0), (21, .getfield 267, 3, 4, 8, 8, 0), (24, .iload_n 1, 1, 0, 0, 0, 0), (25, .aaload, 1, 0, 0, 0, 0), (26, .iconst 0, 1, 0, 0, 0, 0), (27, .putfield 317, 3, 9, 0, 0, 0), (30, .aload_n 0, 1, 0, 0, 0, 0), (31, .getfield 12, 3, 3, 0, 0, 0)],
  [(34, .getfield 267, 3, 4, 8, 8, 0), (37, .iload_n 1, 1, 0, 0, 0, 0), (38, .aaload, 1, 0, 0, 0, 0), (39, .getfield 286, 3, 9, 7, 7, 0), (42, .ireturn, 1, 0, 0, 0, 0)]]
/-- ClosedRooms$Acts.tellRegister(II)I -/
def cd_97 : List (List CE) := [[(0, .aload_n 0, 1, 0, 0, 0, 0), (1, .getfield 12, 3, 3, 0, 0, 0), (4, .iload_n 1, 1, 0, 0, 0, 0), (5, .invokevirtual 175, 3, 40, 2, 4, 0), (8, .ifCond .ne 9, 3, 0, 0, 0, 0), (11, .aload_n 0, 1, 0, 0, 0, 0), (12, .iconst 0, 1, 0, 0, 0, 0), (13, .invokevirtual 85, 3, 53, 2, 3, 0)],
  [(16, .ireturn, 1, 0, 0, 0, 0), (17, .iload_n 2, 1, 0, 0, 0, 0), (18, .ifCond .lt 10, 3, 0, 0, 0, 0), (21, .iload_n 2, 1, 0, 0, 0, 0), (22, .sipush 999, 3, 0, 0, 0, 0), (25, .if_icmp .le 9, 3, 0, 0, 0, 0), (28, .aload_n 0, 1, 0, 0, 0, 0), (29, .iconst 1, 1, 0, 0, 0, 0), (30, .invokevirtual 85, 3, 53, 2, 3, 0)],
  [(33, .ireturn, 1, 0, 0, 0, 0), (34, .aload_n 0, 1, 0, 0, 0, 0), (35, .getfield 12, 3, 3, 0, 0, 0), (38, .getfield 178, 3, 4, 7, 7, 0), (41, .iload_n 1, 1, 0, 0, 0, 0), (42, .aaload, 1, 0, 0, 0, 0), (43, .astore_n 3, 1, 0, 0, 0, 0), (44, .aload_n 3, 1, 0, 0, 0, 0), (45, .getfield 213, 3, 8, 0, 0, 0)],
  [(48, .istore 4, 2, 0, 0, 0, 0), (50, .aload_n 3, 1, 0, 0, 0, 0), (51, .getfield 182, 3, 8, 1, 1, 0), (54, .iconst (-1), 1, 0, 0, 0, 0), (55, .if_icmp .ne 9, 3, 0, 0, 0, 0), (58, .iload 4, 2, 0, 0, 0, 0), (60, .iload_n 2, 1, 0, 0, 0, 0), (61, .if_icmp .ne 9, 3, 0, 0, 0, 0)],
  [(64, .aload_n 0, 1, 0, 0, 0, 0), (65, .iconst 2, 1, 0, 0, 0, 0), (66, .invokevirtual 85, 3, 53, 2, 3, 0), (69, .ireturn, 1, 0, 0, 0, 0), (70, .aload_n 3, 1, 0, 0, 0, 0), (71, .iload_n 2, 1, 0, 0, 0, 0), (72, .putfield 213, 3, 8, 0, 0, 0), (75, .iload 4, 2, 0, 0, 0, 0), (77, .ireturn, 1, 0, 0, 0, 0)]]
/-- ClosedRooms$Acts.carryOut(IIIIII)I -/
def cd_98 : List (List CE) := [[(0, .aload_n 0, 1, 0, 0, 0, 0), (1, .iconst (-1), 1, 0, 0, 0, 0), (2, .putfield 18, 3, 3, 1, 1, 0), (5, .iload_n 1, 1, 0, 0, 0, 0), (6, .tableswitch 244 0 19 #[94, 100, 105, 118, 125, 132, 142, 148, 154, 164, 173, 179, 185, 194, 203, 209, 218, 224, 231, 237], 94, 0, 0, 0, 0)],
  [],
  [],
  [],
  [],
  [],
  [(100, .aload_n 0, 1, 0, 0, 0, 0), (101, .iload_n 2, 1, 0, 0, 0, 0), (102, .invokevirtual 22, 3, 57, 2, 3, 0), (105, .ireturn, 1, 0, 0, 0, 0), (106, .aload_n 0, 1, 0, 0, 0, 0), (107, .invokevirtual 26, 3, 58, 1, 3, 0), (110, .ireturn, 1, 0, 0, 0, 0), (111, .aload_n 0, 1, 0, 0, 0, 0)],
  [(112, .iload_n 2, 1, 0, 0, 0, 0), (113, .iload_n 3, 1, 0, 0, 0, 0), (114, .iload 4, 2, 0, 0, 0, 0), (116, .iload 5, 2, 0, 0, 0, 0), (118, .iload 6, 2, 0, 0, 0, 0), (120, .invokevirtual 30, 3, 62, 6, 3, 0), (123, .ireturn, 1, 0, 0, 0, 0), (124, .aload_n 0, 1, 0, 0, 0, 0), (125, .iload_n 2, 1, 0, 0, 0, 0), (126, .iload_n 3, 1, 0, 0, 0, 0), (127, .invokevirtual 34, 3, 65, 3, 3, 0)],
  [(130, .ireturn, 1, 0, 0, 0, 0), (131, .aload_n 0, 1, 0, 0, 0, 0), (132, .iload_n 2, 1, 0, 0, 0, 0), (133, .iload_n 3, 1, 0, 0, 0, 0), (134, .invokevirtual 38, 3, 66, 3, 3, 0), (137, .ireturn, 1, 0, 0, 0, 0), (138, .aload_n 0, 1, 0, 0, 0, 0), (139, .iload_n 2, 1, 0, 0, 0, 0), (140, .iload_n 3, 1, 0, 0, 0, 0), (141, .iload 4, 2, 0, 0, 0, 0), (143, .iconst 0, 1, 0, 0, 0, 0)],
  [(144, .invokevirtual 41, 3, 69, 5, 3, 0), (147, .ireturn, 1, 0, 0, 0, 0), (148, .aload_n 0, 1, 0, 0, 0, 0), (149, .iload_n 2, 1, 0, 0, 0, 0), (150, .invokevirtual 45, 3, 71, 2, 3, 0), (153, .ireturn, 1, 0, 0, 0, 0), (154, .aload_n 0, 1, 0, 0, 0, 0), (155, .iload_n 2, 1, 0, 0, 0, 0), (156, .invokevirtual 48, 3, 72, 2, 3, 0), (159, .ireturn, 1, 0, 0, 0, 0)],
  [(160, .aload_n 0, 1, 0, 0, 0, 0), (161, .iload_n 2, 1, 0, 0, 0, 0), (162, .iload_n 3, 1, 0, 0, 0, 0), (163, .iload 4, 2, 0, 0, 0, 0), (165, .iconst 2, 1, 0, 0, 0, 0), (166, .invokevirtual 41, 3, 69, 5, 3, 0), (169, .ireturn, 1, 0, 0, 0, 0), (170, .aload_n 0, 1, 0, 0, 0, 0), (171, .iload_n 2, 1, 0, 0, 0, 0), (172, .iload_n 3, 1, 0, 0, 0, 0), (173, .iload 4, 2, 0, 0, 0, 0), (175, .invokevirtual 51, 3, 76, 4, 3, 0)],
  [(178, .ireturn, 1, 0, 0, 0, 0), (179, .aload_n 0, 1, 0, 0, 0, 0), (180, .iload_n 2, 1, 0, 0, 0, 0), (181, .invokevirtual 55, 3, 79, 2, 3, 0), (184, .ireturn, 1, 0, 0, 0, 0), (185, .aload_n 0, 1, 0, 0, 0, 0), (186, .iload_n 2, 1, 0, 0, 0, 0), (187, .invokevirtual 58, 3, 81, 2, 3, 0), (190, .ireturn, 1, 0, 0, 0, 0), (191, .aload_n 0, 1, 0, 0, 0, 0)],
  [(192, .iload_n 2, 1, 0, 0, 0, 0), (193, .iload_n 3, 1, 0, 0, 0, 0), (194, .iload 4, 2, 0, 0, 0, 0), (196, .invokevirtual 61, 3, 87, 4, 3, 0), (199, .ireturn, 1, 0, 0, 0, 0), (200, .aload_n 0, 1, 0, 0, 0, 0), (201, .iload_n 2, 1, 0, 0, 0, 0), (202, .iload_n 3, 1, 0, 0, 0, 0), (203, .iload 4, 2, 0, 0, 0, 0), (205, .invokevirtual 64, 3, 90, 4, 3, 0)],
  [(208, .ireturn, 1, 0, 0, 0, 0), (209, .aload_n 0, 1, 0, 0, 0, 0), (210, .iload_n 2, 1, 0, 0, 0, 0), (211, .invokevirtual 67, 3, 92, 2, 3, 0), (214, .ireturn, 1, 0, 0, 0, 0), (215, .aload_n 0, 1, 0, 0, 0, 0), (216, .iload_n 2, 1, 0, 0, 0, 0), (217, .iload_n 3, 1, 0, 0, 0, 0), (218, .iload 4, 2, 0, 0, 0, 0), (220, .invokevirtual 70, 3, 93, 4, 3, 0), (223, .ireturn, 1, 0, 0, 0, 0)],
  [(224, .aload_n 0, 1, 0, 0, 0, 0), (225, .iload_n 2, 1, 0, 0, 0, 0), (226, .invokevirtual 73, 3, 94, 2, 3, 0), (229, .ireturn, 1, 0, 0, 0, 0), (230, .aload_n 0, 1, 0, 0, 0, 0), (231, .iload_n 2, 1, 0, 0, 0, 0), (232, .iload_n 3, 1, 0, 0, 0, 0), (233, .invokevirtual 76, 3, 95, 3, 3, 0), (236, .ireturn, 1, 0, 0, 0, 0), (237, .aload_n 0, 1, 0, 0, 0, 0), (238, .iload_n 2, 1, 0, 0, 0, 0), (239, .invokevirtual 79, 3, 96, 2, 3, 0)],
  [(242, .ireturn, 1, 0, 0, 0, 0), (243, .aload_n 0, 1, 0, 0, 0, 0), (244, .iload_n 2, 1, 0, 0, 0, 0), (245, .iload_n 3, 1, 0, 0, 0, 0), (246, .invokevirtual 82, 3, 97, 3, 3, 0), (249, .ireturn, 1, 0, 0, 0, 0), (250, .aload_n 0, 1, 0, 0, 0, 0), (251, .iconst 0, 1, 0, 0, 0, 0), (252, .invokevirtual 85, 3, 53, 2, 3, 0), (255, .ireturn, 1, 0, 0, 0, 0)]]
/-- ClosedRooms$Log.write(III)V -/
def cd_99 : List (List CE) := [[(0, .aload_n 0, 1, 0, 0, 0, 0), (1, .getfield 15, 3, 5, 1, 1, 0), (4, .bipush 60, 2, 0, 0, 0, 0), (6, .invokestatic 28, 3, 45, 2, 11, 0), (9, .istore 4, 2, 0, 0, 0, 0), (11, .aload_n 0, 1, 0, 0, 0, 0), (12, .getfield 18, 3, 5, 2, 2, 0), (15, .iload 4, 2, 0, 0, 0, 0)],
  [(17, .iload_n 1, 1, 0, 0, 0, 0), (18, .iastore, 1, 0, 0, 0, 0), (19, .aload_n 0, 1, 0, 0, 0, 0), (20, .getfield 22, 3, 5, 3, 3, 0), (23, .iload 4, 2, 0, 0, 0, 0), (25, .iload_n 2, 1, 0, 0, 0, 0), (26, .iastore, 1, 0, 0, 0, 0), (27, .aload_n 0, 1, 0, 0, 0, 0), (28, .getfield 25, 3, 5, 4, 4, 0), (31, .iload 4, 2, 0, 0, 0, 0)],
  [(33, .iload_n 3, 1, 0, 0, 0, 0), (34, .iastore, 1, 0, 0, 0, 0), (35, .aload_n 0, 1, 0, 0, 0, 0), (36, .iload 4, 2, 0, 0, 0, 0), (38, .iconst 1, 1, 0, 0, 0, 0), (39, .iadd, 1, 0, 0, 0, 0), (40, .bipush 60, 2, 0, 0, 0, 0), (42, .invokestatic 28, 3, 45, 2, 11, 0), (45, .putfield 15, 3, 5, 1, 1, 0)],
  [(48, .aload_n 0, 1, 0, 0, 0, 0), (49, .getfield 9, 3, 5, 0, 0, 0), (52, .bipush 60, 2, 0, 0, 0, 0), (54, .if_icmp .ge 13, 3, 0, 0, 0, 0), (57, .aload_n 0, 1, 0, 0, 0, 0), (58, .dup, 1, 0, 0, 0, 0), (59, .getfield 9, 3, 5, 0, 0, 0), (62, .iconst 1, 1, 0, 0, 0, 0), (63, .iadd, 1, 0, 0, 0, 0)],
  [(64, .putfield 9, 3, 5, 0, 0, 0), (67, .return_, 1, 0, 0, 0, 0)]]
/-- ClosedRooms.keepsAct(III)Z -/
def cd_100 : List (List CE) := [[(0, .aload_n 0, 1, 0, 0, 0, 0), (1, .getfield 37, 3, 0, 5, 5, 0), (4, .getfield 263, 3, 3, 1, 1, 0), (7, .iconst (-1), 1, 0, 0, 0, 0), (8, .if_icmp .eq 5, 3, 0, 0, 0, 0), (11, .iconst 0, 1, 0, 0, 0, 0), (12, .ireturn, 1, 0, 0, 0, 0), (13, .aload_n 0, 1, 0, 0, 0, 0), (14, .getfield 45, 3, 0, 6, 6, 0)],
  [(17, .getfield 271, 3, 4, 9, 9, 0), (20, .iload_n 1, 1, 0, 0, 0, 0), (21, .iload_n 2, 1, 0, 0, 0, 0), (22, .iload_n 3, 1, 0, 0, 0, 0), (23, .invokevirtual 275, 3, 99, 4, 5, 0), (26, .aload_n 0, 1, 0, 0, 0, 0), (27, .aload_n 0, 1, 0, 0, 0, 0), (28, .getfield 62, 3, 0, 11, 11, 0), (31, .iconst 1, 1, 0, 0, 0, 0)],
  [(32, .iadd, 1, 0, 0, 0, 0), (33, .bipush 41, 2, 0, 0, 0, 0), (35, .invokestatic 266, 3, 45, 2, 11, 0), (38, .putfield 62, 3, 0, 11, 11, 0), (41, .aload_n 0, 1, 0, 0, 0, 0), (42, .getfield 65, 3, 0, 12, 12, 0), (45, .bipush 40, 2, 0, 0, 0, 0), (47, .if_icmp .ge 13, 3, 0, 0, 0, 0)],
  [(50, .aload_n 0, 1, 0, 0, 0, 0), (51, .dup, 1, 0, 0, 0, 0), (52, .getfield 65, 3, 0, 12, 12, 0), (55, .iconst 1, 1, 0, 0, 0, 0), (56, .iadd, 1, 0, 0, 0, 0), (57, .putfield 65, 3, 0, 12, 12, 0), (60, .iconst 1, 1, 0, 0, 0, 0), (61, .ireturn, 1, 0, 0, 0, 0)]]
/-- ClosedRooms.act(IIIIIII)I -/
def cd_101 : List (List CE) := [[(0, .aload_n 0, 1, 0, 0, 0, 0), (1, .invokevirtual 248, 3, 46, 1, 0, 12), (4, .aload_n 0, 1, 0, 0, 0, 0), (5, .getfield 45, 3, 0, 6, 6, 0), (8, .invokevirtual 252, 3, 52, 2, 4, 0), (11, .aload_n 0, 1, 0, 0, 0, 0), (12, .getfield 37, 3, 0, 5, 5, 0), (15, .iload_n 1, 1, 0, 0, 0, 0)],
  [(16, .iload_n 3, 1, 0, 0, 0, 0), (17, .iload 4, 2, 0, 0, 0, 0), (19, .iload 5, 2, 0, 0, 0, 0), (21, .iload 6, 2, 0, 0, 0, 0), (23, .iload 7, 2, 0, 0, 0, 0), (25, .invokevirtual 255, 3, 98, 7, 3, 0), (28, .istore 8, 2, 0, 0, 0, 0), (30, .aload_n 0, 1, 0, 0, 0, 0), (31, .iload_n 1, 1, 0, 0, 0, 0)],
  [(32, .iload_n 3, 1, 0, 0, 0, 0), (33, .iload 8, 2, 0, 0, 0, 0), (35, .invokevirtual 259, 3, 100, 4, 0, 0), (38, .ifCond .eq 6, 3, 0, 0, 0, 0), (41, .iload 8, 2, 0, 0, 0, 0), (43, .ireturn, 1, 0, 0, 0, 0), (44, .aload_n 0, 1, 0, 0, 0, 0), (45, .getfield 37, 3, 0, 5, 5, 0)],
  [(48, .getfield 263, 3, 3, 1, 1, 0), (51, .istore 9, 2, 0, 0, 0, 0), (53, .iload 9, 2, 0, 0, 0, 0), (55, .ifCond .lt 20, 3, 0, 0, 0, 0), (58, .iload 9, 2, 0, 0, 0, 0), (60, .iconst 5, 1, 0, 0, 0, 0), (61, .if_icmp .ge 14, 3, 0, 0, 0, 0)],
  [(64, .aload_n 0, 1, 0, 0, 0, 0), (65, .getfield 68, 3, 0, 13, 13, 0), (68, .iload 9, 2, 0, 0, 0, 0), (70, .dup2, 1, 0, 0, 0, 0), (71, .iaload, 1, 0, 0, 0, 0), (72, .iconst 1, 1, 0, 0, 0, 0), (73, .iadd, 1, 0, 0, 0, 0), (74, .iastore, 1, 0, 0, 0, 0), (75, .iload_n 2, 1, 0, 0, 0, 0), (76, .ireturn, 1, 0, 0, 0, 0)]]
/-- ClosedRooms.create(I)I -/
def cd_102 : List (List CE) := [[(0, .aload_n 0, 1, 0, 0, 0, 0), (1, .iconst 0, 1, 0, 0, 0, 0), (2, .iconst (-1), 1, 0, 0, 0, 0), (3, .iload_n 1, 1, 0, 0, 0, 0), (4, .iconst 0, 1, 0, 0, 0, 0), (5, .iconst 0, 1, 0, 0, 0, 0), (6, .iconst 0, 1, 0, 0, 0, 0), (7, .iconst 0, 1, 0, 0, 0, 0), (8, .invokevirtual 244, 3, 101, 8, 0, 0), (11, .ireturn, 1, 0, 0, 0, 0)]]
/-- ClosedRooms.slots()I -/
def cd_103 : List (List CE) := [[(0, .aload_n 0, 1, 0, 0, 0, 0), (1, .iconst 1, 1, 0, 0, 0, 0), (2, .iconst (-1), 1, 0, 0, 0, 0), (3, .iconst (-1), 1, 0, 0, 0, 0), (4, .iconst 0, 1, 0, 0, 0, 0), (5, .iconst 0, 1, 0, 0, 0, 0), (6, .iconst 0, 1, 0, 0, 0, 0), (7, .iconst 0, 1, 0, 0, 0, 0), (8, .invokevirtual 244, 3, 101, 8, 0, 0), (11, .ireturn, 1, 0, 0, 0, 0)]]
/-- ClosedRooms.add(IIIII)I -/
def cd_104 : List (List CE) := [[(0, .aload_n 0, 1, 0, 0, 0, 0), (1, .iconst 2, 1, 0, 0, 0, 0), (2, .iconst (-1), 1, 0, 0, 0, 0), (3, .iload_n 1, 1, 0, 0, 0, 0), (4, .iload_n 2, 1, 0, 0, 0, 0), (5, .iload_n 3, 1, 0, 0, 0, 0), (6, .iload 4, 2, 0, 0, 0, 0), (8, .iload 5, 2, 0, 0, 0, 0), (10, .invokevirtual 244, 3, 101, 8, 0, 0), (13, .ireturn, 1, 0, 0, 0, 0)]]
/-- ClosedRooms.extend(II)I -/
def cd_105 : List (List CE) := [[(0, .aload_n 0, 1, 0, 0, 0, 0), (1, .iconst 3, 1, 0, 0, 0, 0), (2, .ldc 116, 2, 0, 0, 0, (-1000000)), (4, .iload_n 1, 1, 0, 0, 0, 0), (5, .iload_n 2, 1, 0, 0, 0, 0), (6, .iconst 0, 1, 0, 0, 0, 0), (7, .iconst 0, 1, 0, 0, 0, 0), (8, .iconst 0, 1, 0, 0, 0, 0), (9, .invokevirtual 244, 3, 101, 8, 0, 0), (12, .ireturn, 1, 0, 0, 0, 0)]]
/-- ClosedRooms.seal(II)I -/
def cd_106 : List (List CE) := [[(0, .aload_n 0, 1, 0, 0, 0, 0), (1, .iconst 4, 1, 0, 0, 0, 0), (2, .iconst (-1), 1, 0, 0, 0, 0), (3, .iload_n 1, 1, 0, 0, 0, 0), (4, .iload_n 2, 1, 0, 0, 0, 0), (5, .iconst 0, 1, 0, 0, 0, 0), (6, .iconst 0, 1, 0, 0, 0, 0), (7, .iconst 0, 1, 0, 0, 0, 0), (8, .invokevirtual 244, 3, 101, 8, 0, 0), (11, .ireturn, 1, 0, 0, 0, 0)]]
/-- ClosedRooms.enter(III)I -/
def cd_107 : List (List CE) := [[(0, .aload_n 0, 1, 0, 0, 0, 0), (1, .iconst 5, 1, 0, 0, 0, 0), (2, .iconst (-1), 1, 0, 0, 0, 0), (3, .iload_n 1, 1, 0, 0, 0, 0), (4, .iload_n 2, 1, 0, 0, 0, 0), (5, .iload_n 3, 1, 0, 0, 0, 0), (6, .iconst 0, 1, 0, 0, 0, 0), (7, .iconst 0, 1, 0, 0, 0, 0), (8, .invokevirtual 244, 3, 101, 8, 0, 0), (11, .ireturn, 1, 0, 0, 0, 0)]]
/-- ClosedRooms.leave(I)I -/
def cd_108 : List (List CE) := [[(0, .aload_n 0, 1, 0, 0, 0, 0), (1, .bipush 6, 2, 0, 0, 0, 0), (3, .iconst (-1), 1, 0, 0, 0, 0), (4, .iload_n 1, 1, 0, 0, 0, 0), (5, .iconst 0, 1, 0, 0, 0, 0), (6, .iconst 0, 1, 0, 0, 0, 0), (7, .iconst 0, 1, 0, 0, 0, 0), (8, .iconst 0, 1, 0, 0, 0, 0), (9, .invokevirtual 244, 3, 101, 8, 0, 0), (12, .ireturn, 1, 0, 0, 0, 0)]]
/-- ClosedRooms.trap(I)I -/
def cd_109 : List (List CE) := [[(0, .aload_n 0, 1, 0, 0, 0, 0), (1, .bipush 7, 2, 0, 0, 0, 0), (3, .iconst (-1), 1, 0, 0, 0, 0), (4, .iload_n 1, 1, 0, 0, 0, 0), (5, .iconst 0, 1, 0, 0, 0, 0), (6, .iconst 0, 1, 0, 0, 0, 0), (7, .iconst 0, 1, 0, 0, 0, 0), (8, .iconst 0, 1, 0, 0, 0, 0), (9, .invokevirtual 244, 3, 101, 8, 0, 0), (12, .ireturn, 1, 0, 0, 0, 0)]]
/-- ClosedRooms.resume(III)I -/
def cd_110 : List (List CE) := [[(0, .aload_n 0, 1, 0, 0, 0, 0), (1, .bipush 8, 2, 0, 0, 0, 0), (3, .iconst (-1), 1, 0, 0, 0, 0), (4, .iload_n 1, 1, 0, 0, 0, 0), (5, .iload_n 2, 1, 0, 0, 0, 0), (6, .iload_n 3, 1, 0, 0, 0, 0), (7, .iconst 0, 1, 0, 0, 0, 0), (8, .iconst 0, 1, 0, 0, 0, 0), (9, .invokevirtual 244, 3, 101, 8, 0, 0), (12, .ireturn, 1, 0, 0, 0, 0)]]
/-- ClosedRooms.touch(III)I -/
def cd_111 : List (List CE) := [[(0, .aload_n 0, 1, 0, 0, 0, 0), (1, .bipush 9, 2, 0, 0, 0, 0), (3, .iconst (-1), 1, 0, 0, 0, 0), (4, .iload_n 1, 1, 0, 0, 0, 0), (5, .iload_n 2, 1, 0, 0, 0, 0), (6, .iload_n 3, 1, 0, 0, 0, 0), (7, .iconst 0, 1, 0, 0, 0, 0), (8, .iconst 0, 1, 0, 0, 0, 0), (9, .invokevirtual 244, 3, 101, 8, 0, 0), (12, .ireturn, 1, 0, 0, 0, 0)]]
/-- ClosedRooms.block(I)I -/
def cd_112 : List (List CE) := [[(0, .aload_n 0, 1, 0, 0, 0, 0), (1, .bipush 10, 2, 0, 0, 0, 0), (3, .iconst (-1), 1, 0, 0, 0, 0), (4, .iload_n 1, 1, 0, 0, 0, 0), (5, .iconst 0, 1, 0, 0, 0, 0), (6, .iconst 0, 1, 0, 0, 0, 0), (7, .iconst 0, 1, 0, 0, 0, 0), (8, .iconst 0, 1, 0, 0, 0, 0), (9, .invokevirtual 244, 3, 101, 8, 0, 0), (12, .ireturn, 1, 0, 0, 0, 0)]]
/-- ClosedRooms.track(I)I -/
def cd_113 : List (List CE) := [[(0, .aload_n 0, 1, 0, 0, 0, 0), (1, .bipush 11, 2, 0, 0, 0, 0), (3, .iconst (-1), 1, 0, 0, 0, 0), (4, .iload_n 1, 1, 0, 0, 0, 0), (5, .iconst 0, 1, 0, 0, 0, 0), (6, .iconst 0, 1, 0, 0, 0, 0), (7, .iconst 0, 1, 0, 0, 0, 0), (8, .iconst 0, 1, 0, 0, 0, 0), (9, .invokevirtual 244, 3, 101, 8, 0, 0), (12, .ireturn, 1, 0, 0, 0, 0)]]
/-- ClosedRooms.evict(III)I -/
def cd_114 : List (List CE) := [[(0, .aload_n 0, 1, 0, 0, 0, 0), (1, .bipush 12, 2, 0, 0, 0, 0), (3, .iconst (-1), 1, 0, 0, 0, 0), (4, .iload_n 1, 1, 0, 0, 0, 0), (5, .iload_n 2, 1, 0, 0, 0, 0), (6, .iload_n 3, 1, 0, 0, 0, 0), (7, .iconst 0, 1, 0, 0, 0, 0), (8, .iconst 0, 1, 0, 0, 0, 0), (9, .invokevirtual 244, 3, 101, 8, 0, 0), (12, .ireturn, 1, 0, 0, 0, 0)]]
/-- ClosedRooms.load(III)I -/
def cd_115 : List (List CE) := [[(0, .aload_n 0, 1, 0, 0, 0, 0), (1, .bipush 13, 2, 0, 0, 0, 0), (3, .iconst (-1), 1, 0, 0, 0, 0), (4, .iload_n 1, 1, 0, 0, 0, 0), (5, .iload_n 2, 1, 0, 0, 0, 0), (6, .iload_n 3, 1, 0, 0, 0, 0), (7, .iconst 0, 1, 0, 0, 0, 0), (8, .iconst 0, 1, 0, 0, 0, 0), (9, .invokevirtual 244, 3, 101, 8, 0, 0), (12, .ireturn, 1, 0, 0, 0, 0)]]
/-- ClosedRooms.remove(I)I -/
def cd_116 : List (List CE) := [[(0, .aload_n 0, 1, 0, 0, 0, 0), (1, .bipush 14, 2, 0, 0, 0, 0), (3, .iconst (-1), 1, 0, 0, 0, 0), (4, .iload_n 1, 1, 0, 0, 0, 0), (5, .iconst 0, 1, 0, 0, 0, 0), (6, .iconst 0, 1, 0, 0, 0, 0), (7, .iconst 0, 1, 0, 0, 0, 0), (8, .iconst 0, 1, 0, 0, 0, 0), (9, .invokevirtual 244, 3, 101, 8, 0, 0), (12, .ireturn, 1, 0, 0, 0, 0)]]
/-- ClosedRooms.map(III)I -/
def cd_117 : List (List CE) := [[(0, .aload_n 0, 1, 0, 0, 0, 0), (1, .bipush 15, 2, 0, 0, 0, 0), (3, .ldc 116, 2, 0, 0, 0, (-1000000)), (5, .iload_n 1, 1, 0, 0, 0, 0), (6, .iload_n 2, 1, 0, 0, 0, 0), (7, .iload_n 3, 1, 0, 0, 0, 0), (8, .iconst 0, 1, 0, 0, 0, 0), (9, .iconst 0, 1, 0, 0, 0, 0), (10, .invokevirtual 244, 3, 101, 8, 0, 0), (13, .ireturn, 1, 0, 0, 0, 0)]]
/-- ClosedRooms.twice(I)I -/
def cd_118 : List (List CE) := [[(0, .aload_n 0, 1, 0, 0, 0, 0), (1, .bipush 16, 2, 0, 0, 0, 0), (3, .iconst (-1), 1, 0, 0, 0, 0), (4, .iload_n 1, 1, 0, 0, 0, 0), (5, .iconst 0, 1, 0, 0, 0, 0), (6, .iconst 0, 1, 0, 0, 0, 0), (7, .iconst 0, 1, 0, 0, 0, 0), (8, .iconst 0, 1, 0, 0, 0, 0), (9, .invokevirtual 244, 3, 101, 8, 0, 0), (12, .ireturn, 1, 0, 0, 0, 0)]]
/-- ClosedRooms.change(II)I -/
def cd_119 : List (List CE) := [[(0, .aload_n 0, 1, 0, 0, 0, 0), (1, .bipush 17, 2, 0, 0, 0, 0), (3, .iconst (-1), 1, 0, 0, 0, 0), (4, .iload_n 1, 1, 0, 0, 0, 0), (5, .iload_n 2, 1, 0, 0, 0, 0), (6, .iconst 0, 1, 0, 0, 0, 0), (7, .iconst 0, 1, 0, 0, 0, 0), (8, .iconst 0, 1, 0, 0, 0, 0), (9, .invokevirtual 244, 3, 101, 8, 0, 0), (12, .ireturn, 1, 0, 0, 0, 0)]]
/-- ClosedRooms.drop(I)I -/
def cd_120 : List (List CE) := [[(0, .aload_n 0, 1, 0, 0, 0, 0), (1, .bipush 18, 2, 0, 0, 0, 0), (3, .iconst (-1), 1, 0, 0, 0, 0), (4, .iload_n 1, 1, 0, 0, 0, 0), (5, .iconst 0, 1, 0, 0, 0, 0), (6, .iconst 0, 1, 0, 0, 0, 0), (7, .iconst 0, 1, 0, 0, 0, 0), (8, .iconst 0, 1, 0, 0, 0, 0), (9, .invokevirtual 244, 3, 101, 8, 0, 0), (12, .ireturn, 1, 0, 0, 0, 0)]]
/-- ClosedRooms.tell(II)I -/
def cd_121 : List (List CE) := [[(0, .aload_n 0, 1, 0, 0, 0, 0), (1, .bipush 19, 2, 0, 0, 0, 0), (3, .iconst (-1), 1, 0, 0, 0, 0), (4, .iload_n 1, 1, 0, 0, 0, 0), (5, .iload_n 2, 1, 0, 0, 0, 0), (6, .iconst 0, 1, 0, 0, 0, 0), (7, .iconst 0, 1, 0, 0, 0, 0), (8, .iconst 0, 1, 0, 0, 0, 0), (9, .invokevirtual 244, 3, 101, 8, 0, 0), (12, .ireturn, 1, 0, 0, 0, 0)]]
/-- ClosedRooms$World.measureOf(I)I -/
def cd_122 : List (List CE) := [[(0, .aload_n 0, 1, 0, 0, 0, 0), (1, .iload_n 1, 1, 0, 0, 0, 0), (2, .invokevirtual 107, 3, 37, 2, 4, 0), (5, .ifCond .eq 15, 3, 0, 0, 0, 0), (8, .aload_n 0, 1, 0, 0, 0, 0), (9, .getfield 35, 3, 4, 6, 6, 0), (12, .iload_n 1, 1, 0, 0, 0, 0), (13, .aaload, 1, 0, 0, 0, 0), (14, .getfield 113, 3, 7, 4, 4, 0)],
  [(17, .goto 4, 3, 0, 0, 0, 0), (20, .iconst 0, 1, 0, 0, 0, 0), (21, .ireturn, 1, 0, 0, 0, 0)]]
/-- ClosedRooms.reportFrom(III)I -/
def cd_123 : List (List CE) := [[(0, .aload_n 0, 1, 0, 0, 0, 0), (1, .getfield 16, 3, 0, 1, 1, 0), (4, .iconst 3, 1, 0, 0, 0, 0), (5, .iaload, 1, 0, 0, 0, 0), (6, .bipush 31, 2, 0, 0, 0, 0), (8, .imul, 1, 0, 0, 0, 0), (9, .aload_n 0, 1, 0, 0, 0, 0), (10, .getfield 45, 3, 0, 6, 6, 0), (13, .iload_n 1, 1, 0, 0, 0, 0), (14, .invokevirtual 287, 3, 122, 2, 4, 0)],
  [(17, .iadd, 1, 0, 0, 0, 0), (18, .istore 4, 2, 0, 0, 0, 0), (20, .iload 4, 2, 0, 0, 0, 0), (22, .bipush 31, 2, 0, 0, 0, 0), (24, .imul, 1, 0, 0, 0, 0), (25, .aload_n 0, 1, 0, 0, 0, 0), (26, .getfield 45, 3, 0, 6, 6, 0), (29, .iload_n 2, 1, 0, 0, 0, 0), (30, .invokevirtual 287, 3, 122, 2, 4, 0)],
  [(33, .iadd, 1, 0, 0, 0, 0), (34, .istore 4, 2, 0, 0, 0, 0), (36, .iload 4, 2, 0, 0, 0, 0), (38, .bipush 31, 2, 0, 0, 0, 0), (40, .imul, 1, 0, 0, 0, 0), (41, .iload_n 3, 1, 0, 0, 0, 0), (42, .iadd, 1, 0, 0, 0, 0), (43, .ireturn, 1, 0, 0, 0, 0)]]
/-- ClosedRooms.report(II)I -/
def cd_124 : List (List CE) := [[(0, .aload_n 0, 1, 0, 0, 0, 0), (1, .getfield 45, 3, 0, 6, 6, 0), (4, .iload_n 1, 1, 0, 0, 0, 0), (5, .invokevirtual 280, 3, 70, 2, 4, 0), (8, .ifCond .eq 14, 3, 0, 0, 0, 0), (11, .aload_n 0, 1, 0, 0, 0, 0), (12, .getfield 45, 3, 0, 6, 6, 0), (15, .iload_n 2, 1, 0, 0, 0, 0)],
  [(16, .invokevirtual 151, 3, 37, 2, 4, 0), (19, .ifCond .ne 6, 3, 0, 0, 0, 0), (22, .ldc 116, 2, 0, 0, 0, (-1000000)), (24, .ireturn, 1, 0, 0, 0, 0), (25, .aload_n 0, 1, 0, 0, 0, 0), (26, .getfield 45, 3, 0, 6, 6, 0), (29, .getfield 202, 3, 4, 7, 7, 0)],
  [(32, .iload_n 1, 1, 0, 0, 0, 0), (33, .aaload, 1, 0, 0, 0, 0), (34, .astore_n 3, 1, 0, 0, 0, 0), (35, .aload_n 0, 1, 0, 0, 0, 0), (36, .aload_n 3, 1, 0, 0, 0, 0), (37, .getfield 211, 3, 8, 1, 1, 0), (40, .iload_n 2, 1, 0, 0, 0, 0), (41, .aload_n 3, 1, 0, 0, 0, 0), (42, .getfield 206, 3, 8, 0, 0, 0), (45, .invokevirtual 283, 3, 123, 4, 0, 0)],
  [(48, .ireturn, 1, 0, 0, 0, 0)]]
/-- ClosedRooms.proves(IIII)Z -/
def cd_125 : List (List CE) := [[(0, .aload_n 0, 1, 0, 0, 0, 0), (1, .getfield 45, 3, 0, 6, 6, 0), (4, .iload_n 1, 1, 0, 0, 0, 0), (5, .invokevirtual 280, 3, 70, 2, 4, 0), (8, .ifCond .eq 14, 3, 0, 0, 0, 0), (11, .aload_n 0, 1, 0, 0, 0, 0), (12, .getfield 45, 3, 0, 6, 6, 0), (15, .iload_n 2, 1, 0, 0, 0, 0)],
  [(16, .invokevirtual 151, 3, 37, 2, 4, 0), (19, .ifCond .ne 5, 3, 0, 0, 0, 0), (22, .iconst 0, 1, 0, 0, 0, 0), (23, .ireturn, 1, 0, 0, 0, 0), (24, .aload_n 0, 1, 0, 0, 0, 0), (25, .iload_n 2, 1, 0, 0, 0, 0), (26, .aload_n 0, 1, 0, 0, 0, 0), (27, .getfield 45, 3, 0, 6, 6, 0), (30, .getfield 202, 3, 4, 7, 7, 0)],
  [(33, .iload_n 1, 1, 0, 0, 0, 0), (34, .aaload, 1, 0, 0, 0, 0), (35, .getfield 211, 3, 8, 1, 1, 0), (38, .iload_n 3, 1, 0, 0, 0, 0), (39, .invokevirtual 283, 3, 123, 4, 0, 0), (42, .iload 4, 2, 0, 0, 0, 0), (44, .if_icmp .ne 7, 3, 0, 0, 0, 0), (47, .iconst 1, 1, 0, 0, 0, 0)],
  [(48, .goto 4, 3, 0, 0, 0, 0), (51, .iconst 0, 1, 0, 0, 0, 0), (52, .ireturn, 1, 0, 0, 0, 0)]]
/-- ClosedRooms.status(I)I -/
def cd_126 : List (List CE) := [[(0, .iload_n 1, 1, 0, 0, 0, 0), (1, .ifCond .lt 8, 3, 0, 0, 0, 0), (4, .iload_n 1, 1, 0, 0, 0, 0), (5, .iconst 5, 1, 0, 0, 0, 0), (6, .if_icmp .lt 5, 3, 0, 0, 0, 0), (9, .iconst (-1), 1, 0, 0, 0, 0), (10, .ireturn, 1, 0, 0, 0, 0), (11, .aload_n 0, 1, 0, 0, 0, 0), (12, .getfield 68, 3, 0, 13, 13, 0), (15, .iload_n 1, 1, 0, 0, 0, 0)],
  [(16, .iaload, 1, 0, 0, 0, 0), (17, .ireturn, 1, 0, 0, 0, 0)]]
/-- ClosedRooms.undo()I -/
def cd_127 : List (List CE) := [[(0, .aload_n 0, 1, 0, 0, 0, 0), (1, .getfield 65, 3, 0, 12, 12, 0), (4, .ifCond .gt 5, 3, 0, 0, 0, 0), (7, .iconst (-1), 1, 0, 0, 0, 0), (8, .ireturn, 1, 0, 0, 0, 0), (9, .aload_n 0, 1, 0, 0, 0, 0), (10, .aload_n 0, 1, 0, 0, 0, 0), (11, .getfield 62, 3, 0, 11, 11, 0), (14, .iconst 1, 1, 0, 0, 0, 0), (15, .isub, 1, 0, 0, 0, 0)],
  [(16, .bipush 41, 2, 0, 0, 0, 0), (18, .invokestatic 266, 3, 45, 2, 11, 0), (21, .putfield 62, 3, 0, 11, 11, 0), (24, .aload_n 0, 1, 0, 0, 0, 0), (25, .getfield 45, 3, 0, 6, 6, 0), (28, .aload_n 0, 1, 0, 0, 0, 0), (29, .invokevirtual 248, 3, 46, 1, 0, 12)],
  [(32, .invokevirtual 252, 3, 52, 2, 4, 0), (35, .aload_n 0, 1, 0, 0, 0, 0), (36, .dup, 1, 0, 0, 0, 0), (37, .getfield 65, 3, 0, 12, 12, 0), (40, .iconst 1, 1, 0, 0, 0, 0), (41, .isub, 1, 0, 0, 0, 0), (42, .putfield 65, 3, 0, 12, 12, 0), (45, .aload_n 0, 1, 0, 0, 0, 0), (46, .getfield 65, 3, 0, 12, 12, 0)],
  [(49, .ireturn, 1, 0, 0, 0, 0)]]
/-- ClosedRooms$Log.told(II)I -/
def cd_128 : List (List CE) := [[(0, .aload_n 0, 1, 0, 0, 0, 0), (1, .getfield 15, 3, 5, 1, 1, 0), (4, .iconst 1, 1, 0, 0, 0, 0), (5, .isub, 1, 0, 0, 0, 0), (6, .iload_n 1, 1, 0, 0, 0, 0), (7, .isub, 1, 0, 0, 0, 0), (8, .bipush 60, 2, 0, 0, 0, 0), (10, .invokestatic 28, 3, 45, 2, 11, 0), (13, .istore_n 3, 1, 0, 0, 0, 0), (14, .iload_n 2, 1, 0, 0, 0, 0), (15, .ifCond .ne 10, 3, 0, 0, 0, 0)],
  [(18, .aload_n 0, 1, 0, 0, 0, 0), (19, .getfield 18, 3, 5, 2, 2, 0), (22, .iload_n 3, 1, 0, 0, 0, 0), (23, .iaload, 1, 0, 0, 0, 0), (24, .ireturn, 1, 0, 0, 0, 0), (25, .iload_n 2, 1, 0, 0, 0, 0), (26, .iconst 1, 1, 0, 0, 0, 0), (27, .if_icmp .ne 12, 3, 0, 0, 0, 0), (30, .aload_n 0, 1, 0, 0, 0, 0), (31, .getfield 22, 3, 5, 3, 3, 0)],
  [(34, .iload_n 3, 1, 0, 0, 0, 0), (35, .iaload, 1, 0, 0, 0, 0), (36, .goto 9, 3, 0, 0, 0, 0), (39, .aload_n 0, 1, 0, 0, 0, 0), (40, .getfield 25, 3, 5, 4, 4, 0), (43, .iload_n 3, 1, 0, 0, 0, 0), (44, .iaload, 1, 0, 0, 0, 0), (45, .ireturn, 1, 0, 0, 0, 0)]]
/-- ClosedRooms.log(II)I -/
def cd_129 : List (List CE) := [[(0, .iload_n 1, 1, 0, 0, 0, 0), (1, .ifCond .lt 26, 3, 0, 0, 0, 0), (4, .iload_n 1, 1, 0, 0, 0, 0), (5, .aload_n 0, 1, 0, 0, 0, 0), (6, .getfield 45, 3, 0, 6, 6, 0), (9, .getfield 271, 3, 4, 9, 9, 0), (12, .getfield 290, 3, 5, 0, 0, 0), (15, .if_icmp .ge 12, 3, 0, 0, 0, 0)],
  [(18, .iload_n 2, 1, 0, 0, 0, 0), (19, .ifCond .lt 8, 3, 0, 0, 0, 0), (22, .iload_n 2, 1, 0, 0, 0, 0), (23, .iconst 2, 1, 0, 0, 0, 0), (24, .if_icmp .le 6, 3, 0, 0, 0, 0), (27, .ldc 116, 2, 0, 0, 0, (-1000000)), (29, .ireturn, 1, 0, 0, 0, 0), (30, .aload_n 0, 1, 0, 0, 0, 0), (31, .getfield 45, 3, 0, 6, 6, 0)],
  [(34, .getfield 271, 3, 4, 9, 9, 0), (37, .iload_n 1, 1, 0, 0, 0, 0), (38, .iload_n 2, 1, 0, 0, 0, 0), (39, .invokevirtual 291, 3, 128, 3, 5, 0), (42, .ireturn, 1, 0, 0, 0, 0)]]
/-- ClosedRooms$Page.hasVersion(I)Z -/
def cd_130 : List (List CE) := [[(0, .iconst 0, 1, 0, 0, 0, 0), (1, .istore_n 2, 1, 0, 0, 0, 0), (2, .iload_n 2, 1, 0, 0, 0, 0), (3, .iconst 4, 1, 0, 0, 0, 0), (4, .if_icmp .ge 21, 3, 0, 0, 0, 0), (7, .aload_n 0, 1, 0, 0, 0, 0), (8, .getfield 9, 3, 6, 8, 8, 0), (11, .iload_n 2, 1, 0, 0, 0, 0), (12, .iaload, 1, 0, 0, 0, 0), (13, .iload_n 1, 1, 0, 0, 0, 0), (14, .if_icmp .ne 5, 3, 0, 0, 0, 0)],
  [(17, .iconst 1, 1, 0, 0, 0, 0), (18, .ireturn, 1, 0, 0, 0, 0), (19, .iinc 2 1, 3, 0, 0, 0, 0), (22, .goto (-20), 3, 0, 0, 0, 0), (25, .iconst 0, 1, 0, 0, 0, 0), (26, .ireturn, 1, 0, 0, 0, 0)]]
/-- ClosedRooms$World.isOld(LClosedRooms$Copy;)Z -/
def cd_131 : List (List CE) := [[(0, .aload_n 1, 1, 0, 0, 0, 0), (1, .getfield 143, 3, 9, 8, 8, 0), (4, .ifCond .ne 15, 3, 0, 0, 0, 0), (7, .aload_n 0, 1, 0, 0, 0, 0), (8, .aload_n 1, 1, 0, 0, 0, 0), (9, .getfield 146, 3, 9, 1, 1, 0), (12, .invokevirtual 147, 3, 88, 2, 4, 0), (15, .iconst (-1), 1, 0, 0, 0, 0)],
  [(16, .if_icmp .ne 5, 3, 0, 0, 0, 0), (19, .iconst 1, 1, 0, 0, 0, 0), (20, .ireturn, 1, 0, 0, 0, 0), (21, .iconst 0, 1, 0, 0, 0, 0), (22, .istore_n 2, 1, 0, 0, 0, 0), (23, .iload_n 2, 1, 0, 0, 0, 0), (24, .aload_n 0, 1, 0, 0, 0, 0), (25, .getfield 9, 3, 4, 0, 0, 0), (28, .if_icmp .ge 35, 3, 0, 0, 0, 0), (31, .aload_n 0, 1, 0, 0, 0, 0)],
  [(32, .iload_n 2, 1, 0, 0, 0, 0), (33, .invokevirtual 150, 3, 35, 2, 4, 0), (36, .ifCond .eq 21, 3, 0, 0, 0, 0), (39, .aload_n 0, 1, 0, 0, 0, 0), (40, .getfield 29, 3, 4, 5, 5, 0), (43, .iload_n 2, 1, 0, 0, 0, 0), (44, .aaload, 1, 0, 0, 0, 0), (45, .aload_n 1, 1, 0, 0, 0, 0), (46, .getfield 153, 3, 9, 7, 7, 0)],
  [(49, .invokevirtual 156, 3, 130, 2, 6, 0), (52, .ifCond .eq 5, 3, 0, 0, 0, 0), (55, .iconst 0, 1, 0, 0, 0, 0), (56, .ireturn, 1, 0, 0, 0, 0), (57, .iinc 2 1, 3, 0, 0, 0, 0), (60, .goto (-37), 3, 0, 0, 0, 0), (63, .iconst 1, 1, 0, 0, 0, 0)],
  [(64, .ireturn, 1, 0, 0, 0, 0)]]
/-- ClosedRooms.old()I -/
def cd_132 : List (List CE) := [[(0, .aload_n 0, 1, 0, 0, 0, 0), (1, .getfield 20, 3, 0, 2, 2, 0), (4, .ifCond .ne 5, 3, 0, 0, 0, 0), (7, .iconst (-1), 1, 0, 0, 0, 0), (8, .ireturn, 1, 0, 0, 0, 0), (9, .iconst 0, 1, 0, 0, 0, 0), (10, .istore_n 1, 1, 0, 0, 0, 0), (11, .iconst 0, 1, 0, 0, 0, 0), (12, .istore_n 2, 1, 0, 0, 0, 0), (13, .iload_n 2, 1, 0, 0, 0, 0), (14, .bipush 12, 2, 0, 0, 0, 0)],
  [(16, .if_icmp .ge 45, 3, 0, 0, 0, 0), (19, .aload_n 0, 1, 0, 0, 0, 0), (20, .getfield 45, 3, 0, 6, 6, 0), (23, .iload_n 2, 1, 0, 0, 0, 0), (24, .invokevirtual 225, 3, 43, 2, 4, 0), (27, .ifCond .eq 28, 3, 0, 0, 0, 0), (30, .aload_n 0, 1, 0, 0, 0, 0), (31, .getfield 45, 3, 0, 6, 6, 0)],
  [(34, .aload_n 0, 1, 0, 0, 0, 0), (35, .getfield 45, 3, 0, 6, 6, 0), (38, .getfield 228, 3, 4, 8, 8, 0), (41, .iload_n 2, 1, 0, 0, 0, 0), (42, .aaload, 1, 0, 0, 0, 0), (43, .invokevirtual 294, 3, 131, 2, 4, 0), (46, .ifCond .eq 9, 3, 0, 0, 0, 0)],
  [(49, .iload_n 1, 1, 0, 0, 0, 0), (50, .iconst 1, 1, 0, 0, 0, 0), (51, .iload_n 2, 1, 0, 0, 0, 0), (52, .ishl, 1, 0, 0, 0, 0), (53, .ior, 1, 0, 0, 0, 0), (54, .istore_n 1, 1, 0, 0, 0, 0), (55, .iinc 2 1, 3, 0, 0, 0, 0), (58, .goto (-45), 3, 0, 0, 0, 0), (61, .iload_n 1, 1, 0, 0, 0, 0), (62, .ireturn, 1, 0, 0, 0, 0)]]
/-- ClosedRooms.twins(I)I -/
def cd_133 : List (List CE) := [[(0, .aload_n 0, 1, 0, 0, 0, 0), (1, .getfield 45, 3, 0, 6, 6, 0), (4, .iload_n 1, 1, 0, 0, 0, 0), (5, .invokevirtual 225, 3, 43, 2, 4, 0), (8, .ifCond .ne 5, 3, 0, 0, 0, 0), (11, .iconst (-1), 1, 0, 0, 0, 0), (12, .ireturn, 1, 0, 0, 0, 0), (13, .iconst 0, 1, 0, 0, 0, 0), (14, .istore_n 2, 1, 0, 0, 0, 0), (15, .iconst 0, 1, 0, 0, 0, 0)],
  [(16, .istore_n 3, 1, 0, 0, 0, 0), (17, .iload_n 3, 1, 0, 0, 0, 0), (18, .bipush 12, 2, 0, 0, 0, 0), (20, .if_icmp .ge 58, 3, 0, 0, 0, 0), (23, .iload_n 3, 1, 0, 0, 0, 0), (24, .iload_n 1, 1, 0, 0, 0, 0), (25, .if_icmp .eq 47, 3, 0, 0, 0, 0), (28, .aload_n 0, 1, 0, 0, 0, 0), (29, .getfield 45, 3, 0, 6, 6, 0)],
  [(32, .iload_n 3, 1, 0, 0, 0, 0), (33, .invokevirtual 225, 3, 43, 2, 4, 0), (36, .ifCond .eq 36, 3, 0, 0, 0, 0), (39, .aload_n 0, 1, 0, 0, 0, 0), (40, .getfield 45, 3, 0, 6, 6, 0), (43, .getfield 228, 3, 4, 8, 8, 0), (46, .iload_n 3, 1, 0, 0, 0, 0), (47, .aaload, 1, 0, 0, 0, 0)],
  [(48, .getfield 238, 3, 9, 7, 7, 0), (51, .aload_n 0, 1, 0, 0, 0, 0), (52, .getfield 45, 3, 0, 6, 6, 0), (55, .getfield 228, 3, 4, 8, 8, 0), (58, .iload_n 1, 1, 0, 0, 0, 0), (59, .aaload, 1, 0, 0, 0, 0), (60, .getfield 238, 3, 9, 7, 7, 0), (63, .if_icmp .ne 9, 3, 0, 0, 0, 0)],
  [(66, .iload_n 2, 1, 0, 0, 0, 0), (67, .iconst 1, 1, 0, 0, 0, 0), (68, .iload_n 3, 1, 0, 0, 0, 0), (69, .ishl, 1, 0, 0, 0, 0), (70, .ior, 1, 0, 0, 0, 0), (71, .istore_n 2, 1, 0, 0, 0, 0), (72, .iinc 3 1, 3, 0, 0, 0, 0), (75, .goto (-58), 3, 0, 0, 0, 0), (78, .iload_n 2, 1, 0, 0, 0, 0), (79, .ireturn, 1, 0, 0, 0, 0)]]
/-- ClosedRooms.waits(I)I -/
def cd_134 : List (List CE) := [[(0, .aload_n 0, 1, 0, 0, 0, 0), (1, .getfield 45, 3, 0, 6, 6, 0), (4, .iload_n 1, 1, 0, 0, 0, 0), (5, .invokevirtual 112, 3, 32, 2, 4, 0), (8, .ifCond .ne 5, 3, 0, 0, 0, 0), (11, .iconst (-1), 1, 0, 0, 0, 0), (12, .ireturn, 1, 0, 0, 0, 0), (13, .aload_n 0, 1, 0, 0, 0, 0), (14, .getfield 45, 3, 0, 6, 6, 0)],
  [(17, .getfield 117, 3, 4, 5, 5, 0), (20, .iload_n 1, 1, 0, 0, 0, 0), (21, .aaload, 1, 0, 0, 0, 0), (22, .astore_n 2, 1, 0, 0, 0, 0), (23, .aload_n 2, 1, 0, 0, 0, 0), (24, .invokevirtual 298, 3, 78, 1, 6, 0), (27, .ifCond .eq 17, 3, 0, 0, 0, 0), (30, .aload_n 0, 1, 0, 0, 0, 0), (31, .getfield 45, 3, 0, 6, 6, 0)],
  [(34, .aload_n 2, 1, 0, 0, 0, 0), (35, .getfield 130, 3, 6, 1, 1, 0), (38, .invokevirtual 151, 3, 37, 2, 4, 0), (41, .ifCond .ne 5, 3, 0, 0, 0, 0), (44, .iconst (-1), 1, 0, 0, 0, 0), (45, .ireturn, 1, 0, 0, 0, 0), (46, .aload_n 0, 1, 0, 0, 0, 0), (47, .getfield 45, 3, 0, 6, 6, 0)],
  [(50, .aload_n 2, 1, 0, 0, 0, 0), (51, .getfield 130, 3, 6, 1, 1, 0), (54, .aload_n 2, 1, 0, 0, 0, 0), (55, .getfield 139, 3, 6, 5, 5, 0), (58, .ifCond .eq 10, 3, 0, 0, 0, 0), (61, .aload_n 2, 1, 0, 0, 0, 0), (62, .getfield 300, 3, 6, 6, 6, 0)],
  [(65, .goto 18, 3, 0, 0, 0, 0), (68, .aload_n 0, 1, 0, 0, 0, 0), (69, .getfield 45, 3, 0, 6, 6, 0), (72, .getfield 161, 3, 4, 6, 6, 0), (75, .aload_n 2, 1, 0, 0, 0, 0), (76, .getfield 130, 3, 6, 1, 1, 0), (79, .aaload, 1, 0, 0, 0, 0)],
  [(80, .getfield 179, 3, 7, 5, 5, 0), (83, .invokevirtual 186, 3, 80, 3, 4, 0), (86, .ireturn, 1, 0, 0, 0, 0)]]
/-- ClosedRooms$World.leaksOf(LClosedRooms$Core;)I -/
def cd_135 : List (List CE) := [[(0, .iconst 0, 1, 0, 0, 0, 0), (1, .istore_n 2, 1, 0, 0, 0, 0), (2, .iconst 0, 1, 0, 0, 0, 0), (3, .istore_n 3, 1, 0, 0, 0, 0), (4, .iload_n 3, 1, 0, 0, 0, 0), (5, .aload_n 1, 1, 0, 0, 0, 0), (6, .getfield 159, 3, 8, 4, 4, 0), (9, .if_icmp .ge 55, 3, 0, 0, 0, 0), (12, .iload_n 3, 1, 0, 0, 0, 0), (13, .iconst 3, 1, 0, 0, 0, 0), (14, .if_icmp .ge 50, 3, 0, 0, 0, 0)],
  [(17, .aload_n 1, 1, 0, 0, 0, 0), (18, .getfield 162, 3, 8, 6, 6, 0), (21, .iload_n 3, 1, 0, 0, 0, 0), (22, .iaload, 1, 0, 0, 0, 0), (23, .istore 4, 2, 0, 0, 0, 0), (25, .aload_n 0, 1, 0, 0, 0, 0), (26, .iload 4, 2, 0, 0, 0, 0), (28, .invokevirtual 90, 3, 32, 2, 4, 0), (31, .ifCond .eq 27, 3, 0, 0, 0, 0)],
  [(34, .aload_n 0, 1, 0, 0, 0, 0), (35, .getfield 29, 3, 4, 5, 5, 0), (38, .iload 4, 2, 0, 0, 0, 0), (40, .aaload, 1, 0, 0, 0, 0), (41, .getfield 127, 3, 6, 5, 5, 0), (44, .ifCond .eq 14, 3, 0, 0, 0, 0), (47, .iload_n 2, 1, 0, 0, 0, 0)],
  [(48, .iconst 1, 1, 0, 0, 0, 0), (49, .aload_n 1, 1, 0, 0, 0, 0), (50, .getfield 166, 3, 8, 5, 5, 0), (53, .iload_n 3, 1, 0, 0, 0, 0), (54, .iaload, 1, 0, 0, 0, 0), (55, .ishl, 1, 0, 0, 0, 0), (56, .ior, 1, 0, 0, 0, 0), (57, .istore_n 2, 1, 0, 0, 0, 0), (58, .iinc 3 1, 3, 0, 0, 0, 0), (61, .goto (-57), 3, 0, 0, 0, 0)],
  [(64, .iload_n 2, 1, 0, 0, 0, 0), (65, .ireturn, 1, 0, 0, 0, 0)]]
/-- ClosedRooms.leaks(I)I -/
def cd_136 : List (List CE) := [[(0, .aload_n 0, 1, 0, 0, 0, 0), (1, .getfield 45, 3, 0, 6, 6, 0), (4, .iload_n 1, 1, 0, 0, 0, 0), (5, .invokevirtual 151, 3, 37, 2, 4, 0), (8, .ifCond .ne 5, 3, 0, 0, 0, 0), (11, .iconst (-1), 1, 0, 0, 0, 0), (12, .ireturn, 1, 0, 0, 0, 0), (13, .iconst 0, 1, 0, 0, 0, 0), (14, .istore_n 2, 1, 0, 0, 0, 0), (15, .iconst 0, 1, 0, 0, 0, 0)],
  [(16, .istore_n 3, 1, 0, 0, 0, 0), (17, .iload_n 3, 1, 0, 0, 0, 0), (18, .aload_n 0, 1, 0, 0, 0, 0), (19, .getfield 45, 3, 0, 6, 6, 0), (22, .getfield 303, 3, 4, 1, 1, 0), (25, .if_icmp .ge 55, 3, 0, 0, 0, 0), (28, .aload_n 0, 1, 0, 0, 0, 0), (29, .getfield 45, 3, 0, 6, 6, 0)],
  [(32, .iload_n 3, 1, 0, 0, 0, 0), (33, .invokevirtual 199, 3, 40, 2, 4, 0), (36, .ifCond .eq 38, 3, 0, 0, 0, 0), (39, .aload_n 0, 1, 0, 0, 0, 0), (40, .getfield 45, 3, 0, 6, 6, 0), (43, .getfield 202, 3, 4, 7, 7, 0), (46, .iload_n 3, 1, 0, 0, 0, 0), (47, .aaload, 1, 0, 0, 0, 0)],
  [(48, .getfield 211, 3, 8, 1, 1, 0), (51, .iload_n 1, 1, 0, 0, 0, 0), (52, .if_icmp .ne 22, 3, 0, 0, 0, 0), (55, .iload_n 2, 1, 0, 0, 0, 0), (56, .aload_n 0, 1, 0, 0, 0, 0), (57, .getfield 45, 3, 0, 6, 6, 0), (60, .aload_n 0, 1, 0, 0, 0, 0), (61, .getfield 45, 3, 0, 6, 6, 0)],
  [(64, .getfield 202, 3, 4, 7, 7, 0), (67, .iload_n 3, 1, 0, 0, 0, 0), (68, .aaload, 1, 0, 0, 0, 0), (69, .invokevirtual 306, 3, 135, 2, 4, 0), (72, .ior, 1, 0, 0, 0, 0), (73, .istore_n 2, 1, 0, 0, 0, 0), (74, .iinc 3 1, 3, 0, 0, 0, 0), (77, .goto (-60), 3, 0, 0, 0, 0)],
  [(80, .iload_n 2, 1, 0, 0, 0, 0), (81, .ireturn, 1, 0, 0, 0, 0)]]
/-- ClosedRooms.lies(I)I -/
def cd_137 : List (List CE) := [[(0, .aload_n 0, 1, 0, 0, 0, 0), (1, .getfield 45, 3, 0, 6, 6, 0), (4, .iload_n 1, 1, 0, 0, 0, 0), (5, .invokevirtual 151, 3, 37, 2, 4, 0), (8, .ifCond .ne 5, 3, 0, 0, 0, 0), (11, .iconst (-1), 1, 0, 0, 0, 0), (12, .ireturn, 1, 0, 0, 0, 0), (13, .aload_n 0, 1, 0, 0, 0, 0), (14, .getfield 45, 3, 0, 6, 6, 0)],
  [(17, .getfield 161, 3, 4, 6, 6, 0), (20, .iload_n 1, 1, 0, 0, 0, 0), (21, .aaload, 1, 0, 0, 0, 0), (22, .astore_n 2, 1, 0, 0, 0, 0), (23, .iconst 0, 1, 0, 0, 0, 0), (24, .istore_n 3, 1, 0, 0, 0, 0), (25, .iconst 0, 1, 0, 0, 0, 0), (26, .istore 4, 2, 0, 0, 0, 0), (28, .iload 4, 2, 0, 0, 0, 0), (30, .bipush 8, 2, 0, 0, 0, 0)],
  [(32, .if_icmp .ge 56, 3, 0, 0, 0, 0), (35, .aload_n 2, 1, 0, 0, 0, 0), (36, .iload 4, 2, 0, 0, 0, 0), (38, .invokevirtual 193, 3, 38, 2, 7, 0), (41, .ifCond .eq 41, 3, 0, 0, 0, 0), (44, .aload_n 2, 1, 0, 0, 0, 0), (45, .getfield 196, 3, 7, 8, 8, 0)],
  [(48, .iload 4, 2, 0, 0, 0, 0), (50, .iaload, 1, 0, 0, 0, 0), (51, .iconst (-1), 1, 0, 0, 0, 0), (52, .if_icmp .eq 30, 3, 0, 0, 0, 0), (55, .aload_n 0, 1, 0, 0, 0, 0), (56, .getfield 45, 3, 0, 6, 6, 0), (59, .aload_n 2, 1, 0, 0, 0, 0), (60, .getfield 196, 3, 7, 8, 8, 0), (63, .iload 4, 2, 0, 0, 0, 0)],
  [(65, .iaload, 1, 0, 0, 0, 0), (66, .iload_n 1, 1, 0, 0, 0, 0), (67, .iload 4, 2, 0, 0, 0, 0), (69, .invokevirtual 310, 3, 67, 4, 4, 0), (72, .ifCond .ne 10, 3, 0, 0, 0, 0), (75, .iload_n 3, 1, 0, 0, 0, 0), (76, .iconst 1, 1, 0, 0, 0, 0), (77, .iload 4, 2, 0, 0, 0, 0), (79, .ishl, 1, 0, 0, 0, 0)],
  [(80, .ior, 1, 0, 0, 0, 0), (81, .istore_n 3, 1, 0, 0, 0, 0), (82, .iinc 4 1, 3, 0, 0, 0, 0), (85, .goto (-57), 3, 0, 0, 0, 0), (88, .iload_n 3, 1, 0, 0, 0, 0), (89, .ireturn, 1, 0, 0, 0, 0)]]
/-- ClosedRooms.victimOf(I)I -/
def cd_138 : List (List CE) := [[(0, .iconst 0, 1, 0, 0, 0, 0), (1, .istore_n 2, 1, 0, 0, 0, 0), (2, .iload_n 2, 1, 0, 0, 0, 0), (3, .aload_n 0, 1, 0, 0, 0, 0), (4, .getfield 45, 3, 0, 6, 6, 0), (7, .getfield 316, 3, 4, 0, 0, 0), (10, .if_icmp .ge 49, 3, 0, 0, 0, 0), (13, .aload_n 0, 1, 0, 0, 0, 0), (14, .getfield 45, 3, 0, 6, 6, 0)],
  [(17, .iload_n 2, 1, 0, 0, 0, 0), (18, .invokevirtual 112, 3, 32, 2, 4, 0), (21, .ifCond .eq 32, 3, 0, 0, 0, 0), (24, .aload_n 0, 1, 0, 0, 0, 0), (25, .getfield 45, 3, 0, 6, 6, 0), (28, .getfield 117, 3, 4, 5, 5, 0), (31, .iload_n 2, 1, 0, 0, 0, 0)],
  [(32, .aaload, 1, 0, 0, 0, 0), (33, .getfield 121, 3, 6, 0, 0, 0), (36, .iload_n 1, 1, 0, 0, 0, 0), (37, .if_icmp .ne 16, 3, 0, 0, 0, 0), (40, .aload_n 0, 1, 0, 0, 0, 0), (41, .getfield 45, 3, 0, 6, 6, 0), (44, .iload_n 2, 1, 0, 0, 0, 0), (45, .invokevirtual 319, 3, 83, 2, 4, 0)],
  [(48, .ifCond .eq 5, 3, 0, 0, 0, 0), (51, .iload_n 2, 1, 0, 0, 0, 0), (52, .ireturn, 1, 0, 0, 0, 0), (53, .iinc 2 1, 3, 0, 0, 0, 0), (56, .goto (-54), 3, 0, 0, 0, 0), (59, .iconst (-1), 1, 0, 0, 0, 0), (60, .ireturn, 1, 0, 0, 0, 0)]]
/-- ClosedRooms.victim()I -/
def cd_139 : List (List CE) := [[(0, .aload_n 0, 1, 0, 0, 0, 0), (1, .iconst 2, 1, 0, 0, 0, 0), (2, .invokevirtual 313, 3, 138, 2, 0, 0), (5, .istore_n 1, 1, 0, 0, 0, 0), (6, .iload_n 1, 1, 0, 0, 0, 0), (7, .iconst (-1), 1, 0, 0, 0, 0), (8, .if_icmp .ne 9, 3, 0, 0, 0, 0), (11, .aload_n 0, 1, 0, 0, 0, 0), (12, .iconst 3, 1, 0, 0, 0, 0), (13, .invokevirtual 313, 3, 138, 2, 0, 0)],
  [(16, .istore_n 1, 1, 0, 0, 0, 0), (17, .iload_n 1, 1, 0, 0, 0, 0), (18, .iconst (-1), 1, 0, 0, 0, 0), (19, .if_icmp .ne 9, 3, 0, 0, 0, 0), (22, .aload_n 0, 1, 0, 0, 0, 0), (23, .iconst 1, 1, 0, 0, 0, 0), (24, .invokevirtual 313, 3, 138, 2, 0, 0), (27, .istore_n 1, 1, 0, 0, 0, 0), (28, .iload_n 1, 1, 0, 0, 0, 0), (29, .ireturn, 1, 0, 0, 0, 0)]]
/-- ClosedRooms.isScript(I)Z -/
def cd_140 : List (List CE) := [[(0, .iload_n 1, 1, 0, 0, 0, 0), (1, .ifCond .lt 20, 3, 0, 0, 0, 0), (4, .iload_n 1, 1, 0, 0, 0, 0), (5, .aload_n 0, 1, 0, 0, 0, 0), (6, .getfield 30, 3, 0, 4, 4, 0), (9, .if_icmp .ge 12, 3, 0, 0, 0, 0), (12, .iload_n 1, 1, 0, 0, 0, 0), (13, .iconst 4, 1, 0, 0, 0, 0), (14, .if_icmp .ge 7, 3, 0, 0, 0, 0)],
  [(17, .iconst 1, 1, 0, 0, 0, 0), (18, .goto 4, 3, 0, 0, 0, 0), (21, .iconst 0, 1, 0, 0, 0, 0), (22, .ireturn, 1, 0, 0, 0, 0)]]
/-- ClosedRooms$Script.told(II)I -/
def cd_141 : List (List CE) := [[(0, .aload_n 0, 1, 0, 0, 0, 0), (1, .iload_n 1, 1, 0, 0, 0, 0), (2, .invokevirtual 25, 3, 16, 2, 2, 0), (5, .ifCond .eq 13, 3, 0, 0, 0, 0), (8, .iload_n 2, 1, 0, 0, 0, 0), (9, .ifCond .lt 9, 3, 0, 0, 0, 0), (12, .iload_n 2, 1, 0, 0, 0, 0), (13, .bipush 6, 2, 0, 0, 0, 0), (15, .if_icmp .lt 5, 3, 0, 0, 0, 0)],
  [(18, .iconst (-1), 1, 0, 0, 0, 0), (19, .ireturn, 1, 0, 0, 0, 0), (20, .aload_n 0, 1, 0, 0, 0, 0), (21, .getfield 15, 3, 2, 1, 1, 0), (24, .iload_n 1, 1, 0, 0, 0, 0), (25, .bipush 6, 2, 0, 0, 0, 0), (27, .imul, 1, 0, 0, 0, 0), (28, .iload_n 2, 1, 0, 0, 0, 0), (29, .iadd, 1, 0, 0, 0, 0), (30, .iaload, 1, 0, 0, 0, 0), (31, .ireturn, 1, 0, 0, 0, 0)]]
/-- ClosedRooms$Script.firstCreate()I -/
def cd_142 : List (List CE) := [[(0, .iconst 0, 1, 0, 0, 0, 0), (1, .istore_n 1, 1, 0, 0, 0, 0), (2, .iload_n 1, 1, 0, 0, 0, 0), (3, .aload_n 0, 1, 0, 0, 0, 0), (4, .getfield 9, 3, 2, 0, 0, 0), (7, .if_icmp .ge 20, 3, 0, 0, 0, 0), (10, .aload_n 0, 1, 0, 0, 0, 0), (11, .iload_n 1, 1, 0, 0, 0, 0), (12, .iconst 0, 1, 0, 0, 0, 0), (13, .invokevirtual 38, 3, 141, 3, 2, 0)],
  [(16, .ifCond .ne 5, 3, 0, 0, 0, 0), (19, .iload_n 1, 1, 0, 0, 0, 0), (20, .ireturn, 1, 0, 0, 0, 0), (21, .iinc 1 1, 3, 0, 0, 0, 0), (24, .goto (-22), 3, 0, 0, 0, 0), (27, .iconst (-1), 1, 0, 0, 0, 0), (28, .ireturn, 1, 0, 0, 0, 0)]]
/-- ClosedRooms$Script.valueAhead(II)I -/
def cd_143 : List (List CE) := [[(0, .iload_n 2, 1, 0, 0, 0, 0), (1, .iconst 1, 1, 0, 0, 0, 0), (2, .isub, 1, 0, 0, 0, 0), (3, .istore_n 3, 1, 0, 0, 0, 0), (4, .iload_n 3, 1, 0, 0, 0, 0), (5, .iload_n 1, 1, 0, 0, 0, 0), (6, .if_icmp .le 41, 3, 0, 0, 0, 0), (9, .aload_n 0, 1, 0, 0, 0, 0), (10, .iload_n 3, 1, 0, 0, 0, 0), (11, .iconst 0, 1, 0, 0, 0, 0), (12, .invokevirtual 38, 3, 141, 3, 2, 0), (15, .iconst 2, 1, 0, 0, 0, 0)],
  [(16, .if_icmp .ne 25, 3, 0, 0, 0, 0), (19, .aload_n 0, 1, 0, 0, 0, 0), (20, .iload_n 3, 1, 0, 0, 0, 0), (21, .iconst 2, 1, 0, 0, 0, 0), (22, .invokevirtual 38, 3, 141, 3, 2, 0), (25, .aload_n 0, 1, 0, 0, 0, 0), (26, .iload_n 2, 1, 0, 0, 0, 0), (27, .iconst 2, 1, 0, 0, 0, 0), (28, .invokevirtual 38, 3, 141, 3, 2, 0), (31, .if_icmp .ne 10, 3, 0, 0, 0, 0)],
  [(34, .aload_n 0, 1, 0, 0, 0, 0), (35, .iload_n 3, 1, 0, 0, 0, 0), (36, .iconst 5, 1, 0, 0, 0, 0), (37, .invokevirtual 38, 3, 141, 3, 2, 0), (40, .ireturn, 1, 0, 0, 0, 0), (41, .iinc 3 (-1), 3, 0, 0, 0, 0), (44, .goto (-40), 3, 0, 0, 0, 0), (47, .iconst 0, 1, 0, 0, 0, 0)],
  [(48, .ireturn, 1, 0, 0, 0, 0)]]
/-- ClosedRooms$Script.paperMeasure()I -/
def cd_144 : List (List CE) := [[(0, .aload_n 0, 1, 0, 0, 0, 0), (1, .invokevirtual 33, 3, 142, 1, 2, 0), (4, .istore_n 1, 1, 0, 0, 0, 0), (5, .iload_n 1, 1, 0, 0, 0, 0), (6, .iconst (-1), 1, 0, 0, 0, 0), (7, .if_icmp .ne 6, 3, 0, 0, 0, 0), (10, .ldc 37, 2, 0, 0, 0, (-1000000)), (12, .ireturn, 1, 0, 0, 0, 0), (13, .bipush 7, 2, 0, 0, 0, 0), (15, .aload_n 0, 1, 0, 0, 0, 0)],
  [(16, .iload_n 1, 1, 0, 0, 0, 0), (17, .iconst 1, 1, 0, 0, 0, 0), (18, .invokevirtual 38, 3, 141, 3, 2, 0), (21, .iadd, 1, 0, 0, 0, 0), (22, .istore_n 2, 1, 0, 0, 0, 0), (23, .iload_n 1, 1, 0, 0, 0, 0), (24, .iconst 1, 1, 0, 0, 0, 0), (25, .iadd, 1, 0, 0, 0, 0), (26, .istore_n 3, 1, 0, 0, 0, 0), (27, .iload_n 3, 1, 0, 0, 0, 0), (28, .aload_n 0, 1, 0, 0, 0, 0), (29, .getfield 9, 3, 2, 0, 0, 0)],
  [(32, .if_icmp .ge 63, 3, 0, 0, 0, 0), (35, .aload_n 0, 1, 0, 0, 0, 0), (36, .iload_n 3, 1, 0, 0, 0, 0), (37, .iconst 0, 1, 0, 0, 0, 0), (38, .invokevirtual 38, 3, 141, 3, 2, 0), (41, .istore 4, 2, 0, 0, 0, 0), (43, .iload 4, 2, 0, 0, 0, 0), (45, .iconst 2, 1, 0, 0, 0, 0), (46, .if_icmp .ne 26, 3, 0, 0, 0, 0)],
  [(49, .iload_n 2, 1, 0, 0, 0, 0), (50, .aload_n 0, 1, 0, 0, 0, 0), (51, .iload_n 3, 1, 0, 0, 0, 0), (52, .iconst 2, 1, 0, 0, 0, 0), (53, .invokevirtual 38, 3, 141, 3, 2, 0), (56, .aload_n 0, 1, 0, 0, 0, 0), (57, .iload_n 3, 1, 0, 0, 0, 0), (58, .iconst 3, 1, 0, 0, 0, 0), (59, .invokevirtual 38, 3, 141, 3, 2, 0), (62, .aload_n 0, 1, 0, 0, 0, 0), (63, .iload_n 3, 1, 0, 0, 0, 0)],
  [(64, .iconst 4, 1, 0, 0, 0, 0), (65, .invokevirtual 38, 3, 141, 3, 2, 0), (68, .invokestatic 42, 3, 61, 4, 0, 0), (71, .istore_n 2, 1, 0, 0, 0, 0), (72, .iload 4, 2, 0, 0, 0, 0), (74, .iconst 3, 1, 0, 0, 0, 0), (75, .if_icmp .ne 14, 3, 0, 0, 0, 0), (78, .iload_n 2, 1, 0, 0, 0, 0), (79, .aload_n 0, 1, 0, 0, 0, 0)],
  [(80, .iload_n 1, 1, 0, 0, 0, 0), (81, .iload_n 3, 1, 0, 0, 0, 0), (82, .invokevirtual 46, 3, 143, 3, 2, 0), (85, .invokestatic 49, 3, 64, 2, 0, 0), (88, .istore_n 2, 1, 0, 0, 0, 0), (89, .iinc 3 1, 3, 0, 0, 0, 0), (92, .goto (-65), 3, 0, 0, 0, 0), (95, .iload_n 2, 1, 0, 0, 0, 0)],
  [(96, .ireturn, 1, 0, 0, 0, 0)]]
/-- ClosedRooms.paper(I)I -/
def cd_145 : List (List CE) := [[(0, .aload_n 0, 1, 0, 0, 0, 0), (1, .iload_n 1, 1, 0, 0, 0, 0), (2, .invokevirtual 322, 3, 140, 2, 0, 0), (5, .ifCond .ne 6, 3, 0, 0, 0, 0), (8, .ldc 116, 2, 0, 0, 0, (-1000000)), (10, .ireturn, 1, 0, 0, 0, 0), (11, .aload_n 0, 1, 0, 0, 0, 0), (12, .getfield 26, 3, 0, 3, 3, 0), (15, .iload_n 1, 1, 0, 0, 0, 0)],
  [(16, .aaload, 1, 0, 0, 0, 0), (17, .invokevirtual 325, 3, 144, 1, 2, 0), (20, .ireturn, 1, 0, 0, 0, 0)]]
/-- ClosedRooms.alike(II)Z -/
def cd_146 : List (List CE) := [[(0, .aload_n 0, 1, 0, 0, 0, 0), (1, .getfield 45, 3, 0, 6, 6, 0), (4, .iload_n 1, 1, 0, 0, 0, 0), (5, .invokevirtual 151, 3, 37, 2, 4, 0), (8, .ifCond .eq 19, 3, 0, 0, 0, 0), (11, .aload_n 0, 1, 0, 0, 0, 0), (12, .getfield 45, 3, 0, 6, 6, 0), (15, .iload_n 2, 1, 0, 0, 0, 0)],
  [(16, .invokevirtual 151, 3, 37, 2, 4, 0), (19, .ifCond .eq 8, 3, 0, 0, 0, 0), (22, .iload_n 1, 1, 0, 0, 0, 0), (23, .iload_n 2, 1, 0, 0, 0, 0), (24, .if_icmp .ne 5, 3, 0, 0, 0, 0), (27, .iconst 0, 1, 0, 0, 0, 0), (28, .ireturn, 1, 0, 0, 0, 0), (29, .aload_n 0, 1, 0, 0, 0, 0), (30, .getfield 45, 3, 0, 6, 6, 0)],
  [(33, .getfield 161, 3, 4, 6, 6, 0), (36, .iload_n 1, 1, 0, 0, 0, 0), (37, .aaload, 1, 0, 0, 0, 0), (38, .getfield 176, 3, 7, 4, 4, 0), (41, .aload_n 0, 1, 0, 0, 0, 0), (42, .getfield 45, 3, 0, 6, 6, 0), (45, .getfield 161, 3, 4, 6, 6, 0)],
  [(48, .iload_n 2, 1, 0, 0, 0, 0), (49, .aaload, 1, 0, 0, 0, 0), (50, .getfield 176, 3, 7, 4, 4, 0), (53, .if_icmp .ne 7, 3, 0, 0, 0, 0), (56, .iconst 1, 1, 0, 0, 0, 0), (57, .goto 4, 3, 0, 0, 0, 0), (60, .iconst 0, 1, 0, 0, 0, 0), (61, .ireturn, 1, 0, 0, 0, 0)]]
/-- ClosedRooms.step(III)I -/
def cd_147 : List (List CE) := [[(0, .aload_n 0, 1, 0, 0, 0, 0), (1, .iload_n 1, 1, 0, 0, 0, 0), (2, .invokevirtual 322, 3, 140, 2, 0, 0), (5, .ifCond .eq 26, 3, 0, 0, 0, 0), (8, .aload_n 0, 1, 0, 0, 0, 0), (9, .getfield 26, 3, 0, 3, 3, 0), (12, .iload_n 1, 1, 0, 0, 0, 0), (13, .aaload, 1, 0, 0, 0, 0), (14, .iload_n 2, 1, 0, 0, 0, 0), (15, .invokevirtual 351, 3, 16, 2, 2, 0)],
  [(18, .ifCond .eq 13, 3, 0, 0, 0, 0), (21, .iload_n 3, 1, 0, 0, 0, 0), (22, .ifCond .lt 9, 3, 0, 0, 0, 0), (25, .iload_n 3, 1, 0, 0, 0, 0), (26, .bipush 6, 2, 0, 0, 0, 0), (28, .if_icmp .lt 6, 3, 0, 0, 0, 0), (31, .ldc 116, 2, 0, 0, 0, (-1000000))],
  [(33, .ireturn, 1, 0, 0, 0, 0), (34, .aload_n 0, 1, 0, 0, 0, 0), (35, .getfield 26, 3, 0, 3, 3, 0), (38, .iload_n 1, 1, 0, 0, 0, 0), (39, .aaload, 1, 0, 0, 0, 0), (40, .iload_n 2, 1, 0, 0, 0, 0), (41, .iload_n 3, 1, 0, 0, 0, 0), (42, .invokevirtual 354, 3, 141, 3, 2, 0), (45, .ireturn, 1, 0, 0, 0, 0)]]
/-- ClosedRooms$Acts.carryOutStep(LClosedRooms$Script;I)I -/
def cd_148 : List (List CE) := [[(0, .aload_n 1, 1, 0, 0, 0, 0), (1, .iload_n 2, 1, 0, 0, 0, 0), (2, .iconst 0, 1, 0, 0, 0, 0), (3, .invokevirtual 88, 3, 141, 3, 2, 0), (6, .istore_n 3, 1, 0, 0, 0, 0), (7, .aload_n 1, 1, 0, 0, 0, 0), (8, .iload_n 2, 1, 0, 0, 0, 0), (9, .iconst 1, 1, 0, 0, 0, 0), (10, .invokevirtual 88, 3, 141, 3, 2, 0), (13, .istore 4, 2, 0, 0, 0, 0), (15, .iload_n 3, 1, 0, 0, 0, 0)],
  [(16, .iconst 4, 1, 0, 0, 0, 0), (17, .if_icmp .ne 15, 3, 0, 0, 0, 0), (20, .aload_n 0, 1, 0, 0, 0, 0), (21, .getfield 12, 3, 3, 0, 0, 0), (24, .iload 4, 2, 0, 0, 0, 0), (26, .invokevirtual 93, 3, 122, 2, 4, 0), (29, .goto 9, 3, 0, 0, 0, 0)],
  [(32, .aload_n 1, 1, 0, 0, 0, 0), (33, .iload_n 2, 1, 0, 0, 0, 0), (34, .iconst 2, 1, 0, 0, 0, 0), (35, .invokevirtual 88, 3, 141, 3, 2, 0), (38, .istore 5, 2, 0, 0, 0, 0), (40, .aload_n 0, 1, 0, 0, 0, 0), (41, .iload_n 3, 1, 0, 0, 0, 0), (42, .iload 4, 2, 0, 0, 0, 0), (44, .iload 5, 2, 0, 0, 0, 0), (46, .aload_n 1, 1, 0, 0, 0, 0), (47, .iload_n 2, 1, 0, 0, 0, 0)],
  [(48, .iconst 3, 1, 0, 0, 0, 0), (49, .invokevirtual 88, 3, 141, 3, 2, 0), (52, .aload_n 1, 1, 0, 0, 0, 0), (53, .iload_n 2, 1, 0, 0, 0, 0), (54, .iconst 4, 1, 0, 0, 0, 0), (55, .invokevirtual 88, 3, 141, 3, 2, 0), (58, .aload_n 1, 1, 0, 0, 0, 0), (59, .iload_n 2, 1, 0, 0, 0, 0), (60, .iconst 5, 1, 0, 0, 0, 0), (61, .invokevirtual 88, 3, 141, 3, 2, 0)],
  [(64, .invokevirtual 96, 3, 98, 7, 3, 0), (67, .ireturn, 1, 0, 0, 0, 0)]]
/-- ClosedRooms.run(II)I -/
def cd_149 : List (List CE) := [[(0, .aload_n 0, 1, 0, 0, 0, 0), (1, .getfield 20, 3, 0, 2, 2, 0), (4, .ifCond .eq 20, 3, 0, 0, 0, 0), (7, .aload_n 0, 1, 0, 0, 0, 0), (8, .iload_n 1, 1, 0, 0, 0, 0), (9, .invokevirtual 322, 3, 140, 2, 0, 0), (12, .ifCond .eq 12, 3, 0, 0, 0, 0), (15, .iload_n 2, 1, 0, 0, 0, 0)],
  [(16, .ifCond .lt 8, 3, 0, 0, 0, 0), (19, .iload_n 2, 1, 0, 0, 0, 0), (20, .iconst 1, 1, 0, 0, 0, 0), (21, .if_icmp .le 6, 3, 0, 0, 0, 0), (24, .ldc 116, 2, 0, 0, 0, (-1000000)), (26, .ireturn, 1, 0, 0, 0, 0), (27, .aload_n 0, 1, 0, 0, 0, 0), (28, .getfield 46, 3, 0, 7, 7, 0), (31, .getfield 41, 3, 3, 0, 0, 0)],
  [(34, .aload_n 0, 1, 0, 0, 0, 0), (35, .getfield 45, 3, 0, 6, 6, 0), (38, .invokevirtual 252, 3, 52, 2, 4, 0), (41, .aload_n 0, 1, 0, 0, 0, 0), (42, .getfield 26, 3, 0, 3, 3, 0), (45, .iload_n 1, 1, 0, 0, 0, 0), (46, .aaload, 1, 0, 0, 0, 0), (47, .astore_n 3, 1, 0, 0, 0, 0)],
  [(48, .iconst 0, 1, 0, 0, 0, 0), (49, .istore 4, 2, 0, 0, 0, 0), (51, .iload 4, 2, 0, 0, 0, 0), (53, .aload_n 3, 1, 0, 0, 0, 0), (54, .getfield 355, 3, 2, 0, 0, 0), (57, .if_icmp .ge 48, 3, 0, 0, 0, 0), (60, .aload_n 0, 1, 0, 0, 0, 0), (61, .getfield 46, 3, 0, 7, 7, 0)],
  [(64, .aload_n 3, 1, 0, 0, 0, 0), (65, .iload 4, 2, 0, 0, 0, 0), (67, .invokevirtual 356, 3, 148, 3, 3, 0), (70, .pop, 1, 0, 0, 0, 0), (71, .aload_n 0, 1, 0, 0, 0, 0), (72, .getfield 46, 3, 0, 7, 7, 0), (75, .getfield 263, 3, 3, 1, 1, 0), (78, .iconst (-1), 1, 0, 0, 0, 0), (79, .if_icmp .eq 20, 3, 0, 0, 0, 0)],
  [(82, .iload_n 2, 1, 0, 0, 0, 0), (83, .ifCond .ne 8, 3, 0, 0, 0, 0), (86, .iload 4, 2, 0, 0, 0, 0), (88, .goto 10, 3, 0, 0, 0, 0), (91, .aload_n 0, 1, 0, 0, 0, 0), (92, .getfield 46, 3, 0, 7, 7, 0), (95, .getfield 263, 3, 3, 1, 1, 0)],
  [(98, .ireturn, 1, 0, 0, 0, 0), (99, .iinc 4 1, 3, 0, 0, 0, 0), (102, .goto (-51), 3, 0, 0, 0, 0), (105, .iconst (-1), 1, 0, 0, 0, 0), (106, .ireturn, 1, 0, 0, 0, 0)]]
/-- ClosedRooms.doesStep(LClosedRooms$Script;I)Z -/
def cd_150 : List (List CE) := [[(0, .aload_n 0, 1, 0, 0, 0, 0), (1, .invokevirtual 248, 3, 46, 1, 0, 12), (4, .aload_n 0, 1, 0, 0, 0, 0), (5, .getfield 45, 3, 0, 6, 6, 0), (8, .invokevirtual 252, 3, 52, 2, 4, 0), (11, .aload_n 0, 1, 0, 0, 0, 0), (12, .getfield 37, 3, 0, 5, 5, 0), (15, .aload_n 1, 1, 0, 0, 0, 0)],
  [(16, .iload_n 2, 1, 0, 0, 0, 0), (17, .invokevirtual 356, 3, 148, 3, 3, 0), (20, .istore_n 3, 1, 0, 0, 0, 0), (21, .aload_n 0, 1, 0, 0, 0, 0), (22, .aload_n 1, 1, 0, 0, 0, 0), (23, .iload_n 2, 1, 0, 0, 0, 0), (24, .iconst 0, 1, 0, 0, 0, 0), (25, .invokevirtual 354, 3, 141, 3, 2, 0), (28, .aload_n 1, 1, 0, 0, 0, 0), (29, .iload_n 2, 1, 0, 0, 0, 0), (30, .iconst 1, 1, 0, 0, 0, 0), (31, .invokevirtual 354, 3, 141, 3, 2, 0)],
  [(34, .iload_n 3, 1, 0, 0, 0, 0), (35, .invokevirtual 259, 3, 100, 4, 0, 0), (38, .ireturn, 1, 0, 0, 0, 0)]]
/-- ClosedRooms.perform(I)I -/
def cd_151 : List (List CE) := [[(0, .aload_n 0, 1, 0, 0, 0, 0), (1, .getfield 20, 3, 0, 2, 2, 0), (4, .ifCond .eq 11, 3, 0, 0, 0, 0), (7, .aload_n 0, 1, 0, 0, 0, 0), (8, .iload_n 1, 1, 0, 0, 0, 0), (9, .invokevirtual 322, 3, 140, 2, 0, 0), (12, .ifCond .ne 5, 3, 0, 0, 0, 0), (15, .iconst (-1), 1, 0, 0, 0, 0)],
  [(16, .ireturn, 1, 0, 0, 0, 0), (17, .aload_n 0, 1, 0, 0, 0, 0), (18, .getfield 26, 3, 0, 3, 3, 0), (21, .iload_n 1, 1, 0, 0, 0, 0), (22, .aaload, 1, 0, 0, 0, 0), (23, .astore_n 2, 1, 0, 0, 0, 0), (24, .iconst 0, 1, 0, 0, 0, 0), (25, .istore_n 3, 1, 0, 0, 0, 0), (26, .iload_n 3, 1, 0, 0, 0, 0), (27, .aload_n 2, 1, 0, 0, 0, 0), (28, .getfield 355, 3, 2, 0, 0, 0), (31, .if_icmp .ge 18, 3, 0, 0, 0, 0)],
  [(34, .aload_n 0, 1, 0, 0, 0, 0), (35, .aload_n 2, 1, 0, 0, 0, 0), (36, .iload_n 3, 1, 0, 0, 0, 0), (37, .invokevirtual 360, 3, 150, 3, 0, 0), (40, .ifCond .eq 9, 3, 0, 0, 0, 0), (43, .iinc 3 1, 3, 0, 0, 0, 0), (46, .goto (-20), 3, 0, 0, 0, 0)],
  [(49, .iload_n 3, 1, 0, 0, 0, 0), (50, .ireturn, 1, 0, 0, 0, 0)]]
/-- ClosedRooms$World.freePages()I -/
def cd_152 : List (List CE) := [[(0, .iconst 0, 1, 0, 0, 0, 0), (1, .istore_n 1, 1, 0, 0, 0, 0), (2, .iconst 0, 1, 0, 0, 0, 0), (3, .istore_n 2, 1, 0, 0, 0, 0), (4, .iload_n 2, 1, 0, 0, 0, 0), (5, .aload_n 0, 1, 0, 0, 0, 0), (6, .getfield 9, 3, 4, 0, 0, 0), (9, .if_icmp .ge 35, 3, 0, 0, 0, 0), (12, .aload_n 0, 1, 0, 0, 0, 0), (13, .iload_n 2, 1, 0, 0, 0, 0), (14, .invokevirtual 90, 3, 32, 2, 4, 0)],
  [(17, .ifCond .eq 21, 3, 0, 0, 0, 0), (20, .aload_n 0, 1, 0, 0, 0, 0), (21, .getfield 29, 3, 4, 5, 5, 0), (24, .iload_n 2, 1, 0, 0, 0, 0), (25, .aaload, 1, 0, 0, 0, 0), (26, .getfield 94, 3, 6, 0, 0, 0), (29, .ifCond .ne 9, 3, 0, 0, 0, 0)],
  [(32, .iload_n 1, 1, 0, 0, 0, 0), (33, .iconst 1, 1, 0, 0, 0, 0), (34, .iload_n 2, 1, 0, 0, 0, 0), (35, .ishl, 1, 0, 0, 0, 0), (36, .ior, 1, 0, 0, 0, 0), (37, .istore_n 1, 1, 0, 0, 0, 0), (38, .iinc 2 1, 3, 0, 0, 0, 0), (41, .goto (-37), 3, 0, 0, 0, 0), (44, .iload_n 1, 1, 0, 0, 0, 0), (45, .ireturn, 1, 0, 0, 0, 0)]]
/-- ClosedRooms$World.roomsThere()I -/
def cd_153 : List (List CE) := [[(0, .iconst 0, 1, 0, 0, 0, 0), (1, .istore_n 1, 1, 0, 0, 0, 0), (2, .iconst 0, 1, 0, 0, 0, 0), (3, .istore_n 2, 1, 0, 0, 0, 0), (4, .iload_n 2, 1, 0, 0, 0, 0), (5, .iconst 4, 1, 0, 0, 0, 0), (6, .if_icmp .ge 27, 3, 0, 0, 0, 0), (9, .aload_n 0, 1, 0, 0, 0, 0), (10, .getfield 35, 3, 4, 6, 6, 0), (13, .iload_n 2, 1, 0, 0, 0, 0), (14, .aaload, 1, 0, 0, 0, 0), (15, .getfield 66, 3, 7, 0, 0, 0)],
  [(18, .ifCond .eq 9, 3, 0, 0, 0, 0), (21, .iload_n 1, 1, 0, 0, 0, 0), (22, .iconst 1, 1, 0, 0, 0, 0), (23, .iload_n 2, 1, 0, 0, 0, 0), (24, .ishl, 1, 0, 0, 0, 0), (25, .ior, 1, 0, 0, 0, 0), (26, .istore_n 1, 1, 0, 0, 0, 0), (27, .iinc 2 1, 3, 0, 0, 0, 0), (30, .goto (-26), 3, 0, 0, 0, 0)],
  [(33, .iload_n 1, 1, 0, 0, 0, 0), (34, .ireturn, 1, 0, 0, 0, 0)]]
/-- ClosedRooms$World.coresInsideAny()I -/
def cd_154 : List (List CE) := [[(0, .iconst 0, 1, 0, 0, 0, 0), (1, .istore_n 1, 1, 0, 0, 0, 0), (2, .iconst 0, 1, 0, 0, 0, 0), (3, .istore_n 2, 1, 0, 0, 0, 0), (4, .iload_n 2, 1, 0, 0, 0, 0), (5, .aload_n 0, 1, 0, 0, 0, 0), (6, .getfield 15, 3, 4, 1, 1, 0), (9, .if_icmp .ge 23, 3, 0, 0, 0, 0), (12, .aload_n 0, 1, 0, 0, 0, 0), (13, .iload_n 2, 1, 0, 0, 0, 0), (14, .invokevirtual 173, 3, 70, 2, 4, 0)],
  [(17, .ifCond .eq 9, 3, 0, 0, 0, 0), (20, .iload_n 1, 1, 0, 0, 0, 0), (21, .iconst 1, 1, 0, 0, 0, 0), (22, .iload_n 2, 1, 0, 0, 0, 0), (23, .ishl, 1, 0, 0, 0, 0), (24, .ior, 1, 0, 0, 0, 0), (25, .istore_n 1, 1, 0, 0, 0, 0), (26, .iinc 2 1, 3, 0, 0, 0, 0), (29, .goto (-25), 3, 0, 0, 0, 0)],
  [(32, .iload_n 1, 1, 0, 0, 0, 0), (33, .ireturn, 1, 0, 0, 0, 0)]]
/-- ClosedRooms$World.copiesThere()I -/
def cd_155 : List (List CE) := [[(0, .iconst 0, 1, 0, 0, 0, 0), (1, .istore_n 1, 1, 0, 0, 0, 0), (2, .iconst 0, 1, 0, 0, 0, 0), (3, .istore_n 2, 1, 0, 0, 0, 0), (4, .iload_n 2, 1, 0, 0, 0, 0), (5, .bipush 12, 2, 0, 0, 0, 0), (7, .if_icmp .ge 27, 3, 0, 0, 0, 0), (10, .aload_n 0, 1, 0, 0, 0, 0), (11, .getfield 47, 3, 4, 8, 8, 0), (14, .iload_n 2, 1, 0, 0, 0, 0), (15, .aaload, 1, 0, 0, 0, 0)],
  [(16, .getfield 72, 3, 9, 0, 0, 0), (19, .ifCond .eq 9, 3, 0, 0, 0, 0), (22, .iload_n 1, 1, 0, 0, 0, 0), (23, .iconst 1, 1, 0, 0, 0, 0), (24, .iload_n 2, 1, 0, 0, 0, 0), (25, .ishl, 1, 0, 0, 0, 0), (26, .ior, 1, 0, 0, 0, 0), (27, .istore_n 1, 1, 0, 0, 0, 0), (28, .iinc 2 1, 3, 0, 0, 0, 0), (31, .goto (-27), 3, 0, 0, 0, 0)],
  [(34, .iload_n 1, 1, 0, 0, 0, 0), (35, .ireturn, 1, 0, 0, 0, 0)]]
/-- ClosedRooms$World.emptySlots()I -/
def cd_156 : List (List CE) := [[(0, .iconst 0, 1, 0, 0, 0, 0), (1, .istore_n 1, 1, 0, 0, 0, 0), (2, .iconst 0, 1, 0, 0, 0, 0), (3, .istore_n 2, 1, 0, 0, 0, 0), (4, .iload_n 2, 1, 0, 0, 0, 0), (5, .aload_n 0, 1, 0, 0, 0, 0), (6, .getfield 9, 3, 4, 0, 0, 0), (9, .if_icmp .ge 29, 3, 0, 0, 0, 0), (12, .aload_n 0, 1, 0, 0, 0, 0), (13, .iload_n 2, 1, 0, 0, 0, 0), (14, .invokevirtual 150, 3, 35, 2, 4, 0)],
  [(17, .ifCond .eq 15, 3, 0, 0, 0, 0), (20, .iload_n 1, 1, 0, 0, 0, 0), (21, .aload_n 0, 1, 0, 0, 0, 0), (22, .getfield 29, 3, 4, 5, 5, 0), (25, .iload_n 2, 1, 0, 0, 0, 0), (26, .aaload, 1, 0, 0, 0, 0), (27, .invokevirtual 169, 3, 91, 1, 6, 0), (30, .iadd, 1, 0, 0, 0, 0), (31, .istore_n 1, 1, 0, 0, 0, 0)],
  [(32, .iinc 2 1, 3, 0, 0, 0, 0), (35, .goto (-31), 3, 0, 0, 0, 0), (38, .iload_n 1, 1, 0, 0, 0, 0), (39, .ireturn, 1, 0, 0, 0, 0)]]
/-- ClosedRooms$World.blockedPages()I -/
def cd_157 : List (List CE) := [[(0, .iconst 0, 1, 0, 0, 0, 0), (1, .istore_n 1, 1, 0, 0, 0, 0), (2, .iconst 0, 1, 0, 0, 0, 0), (3, .istore_n 2, 1, 0, 0, 0, 0), (4, .iload_n 2, 1, 0, 0, 0, 0), (5, .aload_n 0, 1, 0, 0, 0, 0), (6, .getfield 9, 3, 4, 0, 0, 0), (9, .if_icmp .ge 35, 3, 0, 0, 0, 0), (12, .aload_n 0, 1, 0, 0, 0, 0), (13, .iload_n 2, 1, 0, 0, 0, 0), (14, .invokevirtual 90, 3, 32, 2, 4, 0)],
  [(17, .ifCond .eq 21, 3, 0, 0, 0, 0), (20, .aload_n 0, 1, 0, 0, 0, 0), (21, .getfield 29, 3, 4, 5, 5, 0), (24, .iload_n 2, 1, 0, 0, 0, 0), (25, .aaload, 1, 0, 0, 0, 0), (26, .getfield 127, 3, 6, 5, 5, 0), (29, .ifCond .eq 9, 3, 0, 0, 0, 0)],
  [(32, .iload_n 1, 1, 0, 0, 0, 0), (33, .iconst 1, 1, 0, 0, 0, 0), (34, .iload_n 2, 1, 0, 0, 0, 0), (35, .ishl, 1, 0, 0, 0, 0), (36, .ior, 1, 0, 0, 0, 0), (37, .istore_n 1, 1, 0, 0, 0, 0), (38, .iinc 2 1, 3, 0, 0, 0, 0), (41, .goto (-37), 3, 0, 0, 0, 0), (44, .iload_n 1, 1, 0, 0, 0, 0), (45, .ireturn, 1, 0, 0, 0, 0)]]
/-- ClosedRooms$World.fullestRoom()I -/
def cd_158 : List (List CE) := [[(0, .iconst (-1), 1, 0, 0, 0, 0), (1, .istore_n 1, 1, 0, 0, 0, 0), (2, .iconst (-1), 1, 0, 0, 0, 0), (3, .istore_n 2, 1, 0, 0, 0, 0), (4, .iconst 0, 1, 0, 0, 0, 0), (5, .istore_n 3, 1, 0, 0, 0, 0), (6, .iload_n 3, 1, 0, 0, 0, 0), (7, .iconst 4, 1, 0, 0, 0, 0), (8, .if_icmp .ge 34, 3, 0, 0, 0, 0), (11, .aload_n 0, 1, 0, 0, 0, 0), (12, .iload_n 3, 1, 0, 0, 0, 0), (13, .invokevirtual 107, 3, 37, 2, 4, 0)],
  [(16, .ifCond .eq 20, 3, 0, 0, 0, 0), (19, .aload_n 0, 1, 0, 0, 0, 0), (20, .iload_n 3, 1, 0, 0, 0, 0), (21, .invokevirtual 119, 3, 82, 2, 4, 0), (24, .iload_n 2, 1, 0, 0, 0, 0), (25, .if_icmp .le 11, 3, 0, 0, 0, 0), (28, .iload_n 3, 1, 0, 0, 0, 0), (29, .istore_n 1, 1, 0, 0, 0, 0), (30, .aload_n 0, 1, 0, 0, 0, 0), (31, .iload_n 3, 1, 0, 0, 0, 0)],
  [(32, .invokevirtual 119, 3, 82, 2, 4, 0), (35, .istore_n 2, 1, 0, 0, 0, 0), (36, .iinc 3 1, 3, 0, 0, 0, 0), (39, .goto (-33), 3, 0, 0, 0, 0), (42, .iload_n 1, 1, 0, 0, 0, 0), (43, .ireturn, 1, 0, 0, 0, 0)]]
/-- ClosedRooms.all(I)I -/
def cd_159 : List (List CE) := [[(0, .aload_n 0, 1, 0, 0, 0, 0), (1, .getfield 20, 3, 0, 2, 2, 0), (4, .ifCond .ne 6, 3, 0, 0, 0, 0), (7, .ldc 116, 2, 0, 0, 0, (-1000000)), (9, .ireturn, 1, 0, 0, 0, 0), (10, .iload_n 1, 1, 0, 0, 0, 0), (11, .tableswitch 121 0 8 #[49, 57, 65, 73, 81, 89, 97, 105, 113], 49, 0, 0, 0, 0)],
  [],
  [],
  [(60, .aload_n 0, 1, 0, 0, 0, 0), (61, .getfield 45, 3, 0, 6, 6, 0)],
  [(64, .invokevirtual 364, 3, 152, 1, 4, 0), (67, .ireturn, 1, 0, 0, 0, 0), (68, .aload_n 0, 1, 0, 0, 0, 0), (69, .getfield 45, 3, 0, 6, 6, 0), (72, .invokevirtual 367, 3, 153, 1, 4, 0), (75, .ireturn, 1, 0, 0, 0, 0), (76, .aload_n 0, 1, 0, 0, 0, 0), (77, .getfield 45, 3, 0, 6, 6, 0)],
  [(80, .invokevirtual 370, 3, 154, 1, 4, 0), (83, .ireturn, 1, 0, 0, 0, 0), (84, .aload_n 0, 1, 0, 0, 0, 0), (85, .getfield 45, 3, 0, 6, 6, 0), (88, .invokevirtual 373, 3, 155, 1, 4, 0), (91, .ireturn, 1, 0, 0, 0, 0), (92, .aload_n 0, 1, 0, 0, 0, 0), (93, .getfield 45, 3, 0, 6, 6, 0)],
  [(96, .getfield 376, 3, 4, 3, 3, 0), (99, .ireturn, 1, 0, 0, 0, 0), (100, .aload_n 0, 1, 0, 0, 0, 0), (101, .getfield 45, 3, 0, 6, 6, 0), (104, .getfield 379, 3, 4, 4, 4, 0), (107, .ireturn, 1, 0, 0, 0, 0), (108, .aload_n 0, 1, 0, 0, 0, 0), (109, .getfield 45, 3, 0, 6, 6, 0)],
  [(112, .invokevirtual 382, 3, 156, 1, 4, 0), (115, .ireturn, 1, 0, 0, 0, 0), (116, .aload_n 0, 1, 0, 0, 0, 0), (117, .getfield 45, 3, 0, 6, 6, 0), (120, .invokevirtual 385, 3, 157, 1, 4, 0), (123, .ireturn, 1, 0, 0, 0, 0), (124, .aload_n 0, 1, 0, 0, 0, 0), (125, .getfield 45, 3, 0, 6, 6, 0)],
  [(128, .invokevirtual 388, 3, 158, 1, 4, 0), (131, .ireturn, 1, 0, 0, 0, 0), (132, .ldc 116, 2, 0, 0, 0, (-1000000)), (134, .ireturn, 1, 0, 0, 0, 0)]]
/-- java/lang/Integer.bitCount(I)I -/
def cd_160 : List (List CE) := [[(0, .iload_n 0, 1, 0, 0, 0, 0), (1, .iload_n 0, 1, 0, 0, 0, 0), (2, .iconst 1, 1, 0, 0, 0, 0), (3, .iushr, 1, 0, 0, 0, 0), (4, .ldc_w 265, 3, 0, 0, 0, 1431655765), (7, .iand, 1, 0, 0, 0, 0), (8, .isub, 1, 0, 0, 0, 0), (9, .istore_n 0, 1, 0, 0, 0, 0), (10, .iload_n 0, 1, 0, 0, 0, 0), (11, .ldc_w 266, 3, 0, 0, 0, 858993459), (14, .iand, 1, 0, 0, 0, 0), (15, .iload_n 0, 1, 0, 0, 0, 0)],
  [(16, .iconst 2, 1, 0, 0, 0, 0), (17, .iushr, 1, 0, 0, 0, 0), (18, .ldc_w 266, 3, 0, 0, 0, 858993459), (21, .iand, 1, 0, 0, 0, 0), (22, .iadd, 1, 0, 0, 0, 0), (23, .istore_n 0, 1, 0, 0, 0, 0), (24, .iload_n 0, 1, 0, 0, 0, 0), (25, .iload_n 0, 1, 0, 0, 0, 0), (26, .iconst 4, 1, 0, 0, 0, 0), (27, .iushr, 1, 0, 0, 0, 0), (28, .iadd, 1, 0, 0, 0, 0), (29, .ldc_w 267, 3, 0, 0, 0, 252645135)],
  [(32, .iand, 1, 0, 0, 0, 0), (33, .istore_n 0, 1, 0, 0, 0, 0), (34, .iload_n 0, 1, 0, 0, 0, 0), (35, .iload_n 0, 1, 0, 0, 0, 0), (36, .bipush 8, 2, 0, 0, 0, 0), (38, .iushr, 1, 0, 0, 0, 0), (39, .iadd, 1, 0, 0, 0, 0), (40, .istore_n 0, 1, 0, 0, 0, 0), (41, .iload_n 0, 1, 0, 0, 0, 0), (42, .iload_n 0, 1, 0, 0, 0, 0), (43, .bipush 16, 2, 0, 0, 0, 0), (45, .iushr, 1, 0, 0, 0, 0), (46, .iadd, 1, 0, 0, 0, 0), (47, .istore_n 0, 1, 0, 0, 0, 0)],
  [(48, .iload_n 0, 1, 0, 0, 0, 0), (49, .bipush 63, 2, 0, 0, 0, 0), (51, .iand, 1, 0, 0, 0, 0), (52, .ireturn, 1, 0, 0, 0, 0)]]
/-- ClosedRooms.image()I -/
def cd_161 : List (List CE) := [[(0, .aload_n 0, 1, 0, 0, 0, 0), (1, .getfield 20, 3, 0, 2, 2, 0), (4, .ifCond .ne 5, 3, 0, 0, 0, 0), (7, .iconst (-1), 1, 0, 0, 0, 0), (8, .ireturn, 1, 0, 0, 0, 0), (9, .aload_n 0, 1, 0, 0, 0, 0), (10, .getfield 52, 3, 0, 8, 8, 0), (13, .aload_n 0, 1, 0, 0, 0, 0), (14, .getfield 45, 3, 0, 6, 6, 0)],
  [(17, .invokevirtual 252, 3, 52, 2, 4, 0), (20, .aload_n 0, 1, 0, 0, 0, 0), (21, .iconst 1, 1, 0, 0, 0, 0), (22, .putfield 55, 3, 0, 9, 9, 0), (25, .aload_n 0, 1, 0, 0, 0, 0), (26, .getfield 45, 3, 0, 6, 6, 0), (29, .invokevirtual 364, 3, 152, 1, 4, 0)],
  [(32, .invokestatic 391, 3, 160, 1, 12, 0), (35, .ireturn, 1, 0, 0, 0, 0)]]
/-- ClosedRooms.back()I -/
def cd_162 : List (List CE) := [[(0, .aload_n 0, 1, 0, 0, 0, 0), (1, .getfield 55, 3, 0, 9, 9, 0), (4, .ifCond .ne 5, 3, 0, 0, 0, 0), (7, .iconst (-1), 1, 0, 0, 0, 0), (8, .ireturn, 1, 0, 0, 0, 0), (9, .aload_n 0, 1, 0, 0, 0, 0), (10, .getfield 45, 3, 0, 6, 6, 0), (13, .aload_n 0, 1, 0, 0, 0, 0), (14, .getfield 52, 3, 0, 8, 8, 0)],
  [(17, .invokevirtual 252, 3, 52, 2, 4, 0), (20, .aload_n 0, 1, 0, 0, 0, 0), (21, .iconst 0, 1, 0, 0, 0, 0), (22, .putfield 65, 3, 0, 12, 12, 0), (25, .aload_n 0, 1, 0, 0, 0, 0), (26, .getfield 45, 3, 0, 6, 6, 0), (29, .invokevirtual 364, 3, 152, 1, 4, 0)],
  [(32, .invokestatic 391, 3, 160, 1, 12, 0), (35, .ireturn, 1, 0, 0, 0, 0)]]
/-- ClosedRooms.count(I)I -/
def cd_163 : List (List CE) := [[(0, .iload_n 1, 1, 0, 0, 0, 0), (1, .tableswitch 72 0 4 #[35, 43, 48, 56, 67], 35, 0, 0, 0, 0)],
  [],
  [(36, .aload_n 0, 1, 0, 0, 0, 0), (37, .getfield 45, 3, 0, 6, 6, 0), (40, .getfield 316, 3, 4, 0, 0, 0), (43, .ireturn, 1, 0, 0, 0, 0), (44, .aload_n 0, 1, 0, 0, 0, 0), (45, .getfield 30, 3, 0, 4, 4, 0)],
  [(48, .ireturn, 1, 0, 0, 0, 0), (49, .aload_n 0, 1, 0, 0, 0, 0), (50, .getfield 10, 3, 0, 0, 0, 0), (53, .getfield 76, 3, 1, 0, 0, 0), (56, .ireturn, 1, 0, 0, 0, 0), (57, .aload_n 0, 1, 0, 0, 0, 0), (58, .getfield 45, 3, 0, 6, 6, 0), (61, .getfield 271, 3, 4, 9, 9, 0)],
  [(64, .getfield 290, 3, 5, 0, 0, 0), (67, .ireturn, 1, 0, 0, 0, 0), (68, .aload_n 0, 1, 0, 0, 0, 0), (69, .getfield 65, 3, 0, 12, 12, 0), (72, .ireturn, 1, 0, 0, 0, 0), (73, .ldc 116, 2, 0, 0, 0, (-1000000)), (75, .ireturn, 1, 0, 0, 0, 0)]]
/-- ClosedRooms$Room.addressesThatAre(I)I -/
def cd_164 : List (List CE) := [[(0, .iconst 0, 1, 0, 0, 0, 0), (1, .istore_n 2, 1, 0, 0, 0, 0), (2, .iconst 0, 1, 0, 0, 0, 0), (3, .istore_n 3, 1, 0, 0, 0, 0), (4, .iload_n 3, 1, 0, 0, 0, 0), (5, .bipush 8, 2, 0, 0, 0, 0), (7, .if_icmp .ge 33, 3, 0, 0, 0, 0), (10, .aload_n 0, 1, 0, 0, 0, 0), (11, .iload_n 3, 1, 0, 0, 0, 0), (12, .invokevirtual 47, 3, 38, 2, 7, 0), (15, .ifCond .eq 19, 3, 0, 0, 0, 0)],
  [(18, .aload_n 0, 1, 0, 0, 0, 0), (19, .getfield 34, 3, 7, 7, 7, 0), (22, .iload_n 3, 1, 0, 0, 0, 0), (23, .iaload, 1, 0, 0, 0, 0), (24, .iload_n 1, 1, 0, 0, 0, 0), (25, .if_icmp .ne 9, 3, 0, 0, 0, 0), (28, .iload_n 2, 1, 0, 0, 0, 0), (29, .iconst 1, 1, 0, 0, 0, 0), (30, .iload_n 3, 1, 0, 0, 0, 0), (31, .ishl, 1, 0, 0, 0, 0)],
  [(32, .ior, 1, 0, 0, 0, 0), (33, .istore_n 2, 1, 0, 0, 0, 0), (34, .iinc 3 1, 3, 0, 0, 0, 0), (37, .goto (-33), 3, 0, 0, 0, 0), (40, .iload_n 2, 1, 0, 0, 0, 0), (41, .ireturn, 1, 0, 0, 0, 0)]]
/-- ClosedRoomsModel.thrown()I -/
def cd_165 : List (List CE) := [[(0, .aload_n 0, 1, 0, 0, 0, 0), (1, .getfield 43, 3, 10, 0, 0, 0), (4, .ireturn, 1, 0, 0, 0, 0)]]
/-- ClosedRoomsModel.byteOf(IIIIII)I -/
def cd_166 : List (List CE) := [[(0, .iload 5, 2, 0, 0, 0, 0), (2, .iconst 4, 1, 0, 0, 0, 0), (3, .if_icmp .ge 7, 3, 0, 0, 0, 0), (6, .iload_n 0, 1, 0, 0, 0, 0), (7, .goto 38, 3, 0, 0, 0, 0), (10, .iload 5, 2, 0, 0, 0, 0), (12, .bipush 8, 2, 0, 0, 0, 0), (14, .if_icmp .ge 7, 3, 0, 0, 0, 0)],
  [(17, .iload_n 1, 1, 0, 0, 0, 0), (18, .goto 27, 3, 0, 0, 0, 0), (21, .iload 5, 2, 0, 0, 0, 0), (23, .bipush 12, 2, 0, 0, 0, 0), (25, .if_icmp .ge 7, 3, 0, 0, 0, 0), (28, .iload_n 2, 1, 0, 0, 0, 0), (29, .goto 16, 3, 0, 0, 0, 0)],
  [(32, .iload 5, 2, 0, 0, 0, 0), (34, .bipush 16, 2, 0, 0, 0, 0), (36, .if_icmp .ge 7, 3, 0, 0, 0, 0), (39, .iload_n 3, 1, 0, 0, 0, 0), (40, .goto 5, 3, 0, 0, 0, 0), (43, .iload 4, 2, 0, 0, 0, 0), (45, .istore 6, 2, 0, 0, 0, 0), (47, .iload 6, 2, 0, 0, 0, 0)],
  [(49, .bipush 24, 2, 0, 0, 0, 0), (51, .bipush 8, 2, 0, 0, 0, 0), (53, .iload 5, 2, 0, 0, 0, 0), (55, .iconst 4, 1, 0, 0, 0, 0), (56, .irem, 1, 0, 0, 0, 0), (57, .imul, 1, 0, 0, 0, 0), (58, .isub, 1, 0, 0, 0, 0), (59, .ishr, 1, 0, 0, 0, 0), (60, .sipush 255, 3, 0, 0, 0, 0), (63, .iand, 1, 0, 0, 0, 0)],
  [(64, .ireturn, 1, 0, 0, 0, 0)]]
/-- ClosedRoomsModel.feed(IIIII)I -/
def cd_167 : List (List CE) := [[(0, .iconst 0, 1, 0, 0, 0, 0), (1, .istore 6, 2, 0, 0, 0, 0), (3, .iconst 0, 1, 0, 0, 0, 0), (4, .istore 7, 2, 0, 0, 0, 0), (6, .iload 7, 2, 0, 0, 0, 0), (8, .bipush 20, 2, 0, 0, 0, 0), (10, .if_icmp .ge 34, 3, 0, 0, 0, 0), (13, .iload 6, 2, 0, 0, 0, 0), (15, .iload_n 1, 1, 0, 0, 0, 0)],
  [(16, .iload_n 2, 1, 0, 0, 0, 0), (17, .iload_n 3, 1, 0, 0, 0, 0), (18, .iload 4, 2, 0, 0, 0, 0), (20, .iload 5, 2, 0, 0, 0, 0), (22, .iload 7, 2, 0, 0, 0, 0), (24, .invokestatic 47, 3, 166, 6, 10, 0), (27, .ifCond .eq 7, 3, 0, 0, 0, 0), (30, .iconst 1, 1, 0, 0, 0, 0), (31, .goto 4, 3, 0, 0, 0, 0)],
  [(34, .iconst 0, 1, 0, 0, 0, 0), (35, .iadd, 1, 0, 0, 0, 0), (36, .istore 6, 2, 0, 0, 0, 0), (38, .iinc 7 1, 3, 0, 0, 0, 0), (41, .goto (-35), 3, 0, 0, 0, 0), (44, .aload_n 0, 1, 0, 0, 0, 0), (45, .getfield 51, 3, 10, 2, 2, 0)],
  [(48, .iload 6, 2, 0, 0, 0, 0), (50, .iadd, 1, 0, 0, 0, 0), (51, .sipush 320, 3, 0, 0, 0, 0), (54, .if_icmp .le 5, 3, 0, 0, 0, 0), (57, .iconst (-1), 1, 0, 0, 0, 0), (58, .ireturn, 1, 0, 0, 0, 0), (59, .iconst 0, 1, 0, 0, 0, 0), (60, .istore 7, 2, 0, 0, 0, 0), (62, .iload 7, 2, 0, 0, 0, 0)],
  [(64, .bipush 20, 2, 0, 0, 0, 0), (66, .if_icmp .ge 49, 3, 0, 0, 0, 0), (69, .iload_n 1, 1, 0, 0, 0, 0), (70, .iload_n 2, 1, 0, 0, 0, 0), (71, .iload_n 3, 1, 0, 0, 0, 0), (72, .iload 4, 2, 0, 0, 0, 0), (74, .iload 5, 2, 0, 0, 0, 0), (76, .iload 7, 2, 0, 0, 0, 0), (78, .invokestatic 47, 3, 166, 6, 10, 0)],
  [(81, .istore 8, 2, 0, 0, 0, 0), (83, .iload 8, 2, 0, 0, 0, 0), (85, .ifCond .eq 24, 3, 0, 0, 0, 0), (88, .aload_n 0, 1, 0, 0, 0, 0), (89, .getfield 9, 3, 10, 1, 1, 0), (92, .aload_n 0, 1, 0, 0, 0, 0), (93, .getfield 51, 3, 10, 2, 2, 0)],
  [(96, .iload 8, 2, 0, 0, 0, 0), (98, .iastore, 1, 0, 0, 0, 0), (99, .aload_n 0, 1, 0, 0, 0, 0), (100, .dup, 1, 0, 0, 0, 0), (101, .getfield 51, 3, 10, 2, 2, 0), (104, .iconst 1, 1, 0, 0, 0, 0), (105, .iadd, 1, 0, 0, 0, 0), (106, .putfield 51, 3, 10, 2, 2, 0), (109, .iinc 7 1, 3, 0, 0, 0, 0)],
  [(112, .goto (-50), 3, 0, 0, 0, 0), (115, .aload_n 0, 1, 0, 0, 0, 0), (116, .getfield 51, 3, 10, 2, 2, 0), (119, .ireturn, 1, 0, 0, 0, 0)]]
/-- ClosedRoomsModel.in(III)Z -/
def cd_168 : List (List CE) := [[(0, .iload_n 0, 1, 0, 0, 0, 0), (1, .iload_n 1, 1, 0, 0, 0, 0), (2, .if_icmp .lt 12, 3, 0, 0, 0, 0), (5, .iload_n 0, 1, 0, 0, 0, 0), (6, .iload_n 2, 1, 0, 0, 0, 0), (7, .if_icmp .gt 7, 3, 0, 0, 0, 0), (10, .iconst 1, 1, 0, 0, 0, 0), (11, .goto 4, 3, 0, 0, 0, 0), (14, .iconst 0, 1, 0, 0, 0, 0), (15, .ireturn, 1, 0, 0, 0, 0)]]
/-- ClosedRoomsModel.end(I)Z -/
def cd_169 : List (List CE) := [[(0, .iload_n 1, 1, 0, 0, 0, 0), (1, .iconst 0, 1, 0, 0, 0, 0), (2, .aload_n 0, 1, 0, 0, 0, 0), (3, .getfield 51, 3, 10, 2, 2, 0), (6, .invokestatic 54, 3, 168, 3, 10, 0), (9, .ifCond .ne 5, 3, 0, 0, 0, 0), (12, .iconst 0, 1, 0, 0, 0, 0), (13, .ireturn, 1, 0, 0, 0, 0), (14, .aload_n 0, 1, 0, 0, 0, 0), (15, .iload_n 1, 1, 0, 0, 0, 0)],
  [(16, .putfield 51, 3, 10, 2, 2, 0), (19, .iconst 1, 1, 0, 0, 0, 0), (20, .ireturn, 1, 0, 0, 0, 0)]]
/-- ClosedRoomsModel.usual(I)I -/
def cd_170 : List (List CE) := [[(0, .iload_n 0, 1, 0, 0, 0, 0), (1, .ifCond .ne 8, 3, 0, 0, 0, 0), (4, .bipush 8, 2, 0, 0, 0, 0), (6, .goto 14, 3, 0, 0, 0, 0), (9, .iload_n 0, 1, 0, 0, 0, 0), (10, .iconst 3, 1, 0, 0, 0, 0), (11, .if_icmp .ne 8, 3, 0, 0, 0, 0), (14, .bipush 7, 2, 0, 0, 0, 0)],
  [(16, .goto 4, 3, 0, 0, 0, 0), (19, .iconst 2, 1, 0, 0, 0, 0), (20, .ireturn, 1, 0, 0, 0, 0)]]
/-- ClosedRoomsModel.here()I -/
def cd_171 : List (List CE) := [[(0, .aload_n 0, 1, 0, 0, 0, 0), (1, .getfield 58, 3, 10, 3, 3, 0), (4, .aload_n 0, 1, 0, 0, 0, 0), (5, .getfield 51, 3, 10, 2, 2, 0), (8, .if_icmp .ge 15, 3, 0, 0, 0, 0), (11, .aload_n 0, 1, 0, 0, 0, 0), (12, .getfield 9, 3, 10, 1, 1, 0), (15, .aload_n 0, 1, 0, 0, 0, 0)],
  [(16, .getfield 58, 3, 10, 3, 3, 0), (19, .iaload, 1, 0, 0, 0, 0), (20, .goto 4, 3, 0, 0, 0, 0), (23, .iconst (-1), 1, 0, 0, 0, 0), (24, .ireturn, 1, 0, 0, 0, 0)]]
/-- ClosedRoomsModel.isLetter(I)Z -/
def cd_172 : List (List CE) := [[(0, .iload_n 0, 1, 0, 0, 0, 0), (1, .bipush 97, 2, 0, 0, 0, 0), (3, .if_icmp .lt 13, 3, 0, 0, 0, 0), (6, .iload_n 0, 1, 0, 0, 0, 0), (7, .bipush 122, 2, 0, 0, 0, 0), (9, .if_icmp .gt 7, 3, 0, 0, 0, 0), (12, .iconst 1, 1, 0, 0, 0, 0), (13, .goto 4, 3, 0, 0, 0, 0)],
  [(16, .iconst 0, 1, 0, 0, 0, 0), (17, .ireturn, 1, 0, 0, 0, 0)]]
/-- ClosedRoomsModel.isDigit(I)Z -/
def cd_173 : List (List CE) := [[(0, .iload_n 0, 1, 0, 0, 0, 0), (1, .bipush 48, 2, 0, 0, 0, 0), (3, .if_icmp .lt 13, 3, 0, 0, 0, 0), (6, .iload_n 0, 1, 0, 0, 0, 0), (7, .bipush 57, 2, 0, 0, 0, 0), (9, .if_icmp .gt 7, 3, 0, 0, 0, 0), (12, .iconst 1, 1, 0, 0, 0, 0), (13, .goto 4, 3, 0, 0, 0, 0)],
  [(16, .iconst 0, 1, 0, 0, 0, 0), (17, .ireturn, 1, 0, 0, 0, 0)]]
/-- java/lang/Math.min(II)I -/
def cd_174 : List (List CE) := [[(0, .iload_n 0, 1, 0, 0, 0, 0), (1, .iload_n 1, 1, 0, 0, 0, 0), (2, .if_icmp .gt 7, 3, 0, 0, 0, 0), (5, .iload_n 0, 1, 0, 0, 0, 0), (6, .goto 4, 3, 0, 0, 0, 0), (9, .iload_n 1, 1, 0, 0, 0, 0), (10, .ireturn, 1, 0, 0, 0, 0)]]
/-- ClosedRoomsModel.next()V -/
def cd_175 : List (List CE) := [[(0, .aload_n 0, 1, 0, 0, 0, 0), (1, .invokevirtual 61, 3, 171, 1, 10, 0), (4, .bipush 32, 2, 0, 0, 0, 0), (6, .if_icmp .ne 16, 3, 0, 0, 0, 0), (9, .aload_n 0, 1, 0, 0, 0, 0), (10, .dup, 1, 0, 0, 0, 0), (11, .getfield 58, 3, 10, 3, 3, 0), (14, .iconst 1, 1, 0, 0, 0, 0), (15, .iadd, 1, 0, 0, 0, 0)],
  [(16, .putfield 58, 3, 10, 3, 3, 0), (19, .goto (-19), 3, 0, 0, 0, 0), (22, .aload_n 0, 1, 0, 0, 0, 0), (23, .aload_n 0, 1, 0, 0, 0, 0), (24, .getfield 58, 3, 10, 3, 3, 0), (27, .putfield 65, 3, 10, 6, 6, 0), (30, .aload_n 0, 1, 0, 0, 0, 0), (31, .invokevirtual 61, 3, 171, 1, 10, 0)],
  [(34, .istore_n 1, 1, 0, 0, 0, 0), (35, .iload_n 1, 1, 0, 0, 0, 0), (36, .iconst (-1), 1, 0, 0, 0, 0), (37, .if_icmp .ne 11, 3, 0, 0, 0, 0), (40, .aload_n 0, 1, 0, 0, 0, 0), (41, .iconst 0, 1, 0, 0, 0, 0), (42, .putfield 68, 3, 10, 5, 5, 0), (45, .goto 182, 3, 0, 0, 0, 0)],
  [(48, .iload_n 1, 1, 0, 0, 0, 0), (49, .invokestatic 71, 3, 172, 1, 10, 0), (52, .ifCond .eq 76, 3, 0, 0, 0, 0), (55, .aload_n 0, 1, 0, 0, 0, 0), (56, .iconst 1, 1, 0, 0, 0, 0), (57, .putfield 68, 3, 10, 5, 5, 0), (60, .aload_n 0, 1, 0, 0, 0, 0), (61, .lconst 0, 1, 0, 0, 0, 0), (62, .putfield 75, 3, 10, 8, 8, 0)],
  [(65, .iconst 0, 1, 0, 0, 0, 0), (66, .istore_n 2, 1, 0, 0, 0, 0), (67, .aload_n 0, 1, 0, 0, 0, 0), (68, .invokevirtual 61, 3, 171, 1, 10, 0), (71, .invokestatic 71, 3, 172, 1, 10, 0), (74, .ifCond .eq 51, 3, 0, 0, 0, 0), (77, .aload_n 0, 1, 0, 0, 0, 0), (78, .iload_n 2, 1, 0, 0, 0, 0), (79, .bipush 7, 2, 0, 0, 0, 0)],
  [(81, .if_icmp .ge 24, 3, 0, 0, 0, 0), (84, .ldc2_w 79, 3, 0, 0, 0, 32), (87, .aload_n 0, 1, 0, 0, 0, 0), (88, .getfield 75, 3, 10, 8, 8, 0), (91, .lmul, 1, 0, 0, 0, 0), (92, .aload_n 0, 1, 0, 0, 0, 0), (93, .invokevirtual 61, 3, 171, 1, 10, 0)],
  [(96, .i2l, 1, 0, 0, 0, 0), (97, .ladd, 1, 0, 0, 0, 0), (98, .ldc2_w 81, 3, 0, 0, 0, 96), (101, .lsub, 1, 0, 0, 0, 0), (102, .goto 4, 3, 0, 0, 0, 0), (105, .lconst 0, 1, 0, 0, 0, 0), (106, .putfield 75, 3, 10, 8, 8, 0), (109, .aload_n 0, 1, 0, 0, 0, 0), (110, .dup, 1, 0, 0, 0, 0), (111, .getfield 58, 3, 10, 3, 3, 0)],
  [(114, .iconst 1, 1, 0, 0, 0, 0), (115, .iadd, 1, 0, 0, 0, 0), (116, .putfield 58, 3, 10, 3, 3, 0), (119, .iinc 2 1, 3, 0, 0, 0, 0), (122, .goto (-55), 3, 0, 0, 0, 0), (125, .goto 102, 3, 0, 0, 0, 0)],
  [(128, .iload_n 1, 1, 0, 0, 0, 0), (129, .invokestatic 83, 3, 173, 1, 10, 0), (132, .ifCond .eq 60, 3, 0, 0, 0, 0), (135, .aload_n 0, 1, 0, 0, 0, 0), (136, .iconst 2, 1, 0, 0, 0, 0), (137, .putfield 68, 3, 10, 5, 5, 0), (140, .aload_n 0, 1, 0, 0, 0, 0), (141, .iconst 0, 1, 0, 0, 0, 0), (142, .putfield 86, 3, 10, 7, 7, 0)],
  [(145, .aload_n 0, 1, 0, 0, 0, 0), (146, .invokevirtual 61, 3, 171, 1, 10, 0), (149, .invokestatic 83, 3, 173, 1, 10, 0), (152, .ifCond .eq 75, 3, 0, 0, 0, 0), (155, .aload_n 0, 1, 0, 0, 0, 0), (156, .ldc 89, 2, 0, 0, 0, 100000), (158, .bipush 10, 2, 0, 0, 0, 0)],
  [(160, .aload_n 0, 1, 0, 0, 0, 0), (161, .getfield 86, 3, 10, 7, 7, 0), (164, .imul, 1, 0, 0, 0, 0), (165, .aload_n 0, 1, 0, 0, 0, 0), (166, .invokevirtual 61, 3, 171, 1, 10, 0), (169, .iadd, 1, 0, 0, 0, 0), (170, .bipush 48, 2, 0, 0, 0, 0), (172, .isub, 1, 0, 0, 0, 0), (173, .invokestatic 90, 3, 174, 2, 11, 0)],
  [(176, .putfield 86, 3, 10, 7, 7, 0), (179, .aload_n 0, 1, 0, 0, 0, 0), (180, .dup, 1, 0, 0, 0, 0), (181, .getfield 58, 3, 10, 3, 3, 0), (184, .iconst 1, 1, 0, 0, 0, 0), (185, .iadd, 1, 0, 0, 0, 0), (186, .putfield 58, 3, 10, 3, 3, 0), (189, .goto (-44), 3, 0, 0, 0, 0)],
  [(192, .aload_n 0, 1, 0, 0, 0, 0), (193, .dup, 1, 0, 0, 0, 0), (194, .getfield 58, 3, 10, 3, 3, 0), (197, .iconst 1, 1, 0, 0, 0, 0), (198, .iadd, 1, 0, 0, 0, 0), (199, .putfield 58, 3, 10, 3, 3, 0), (202, .aload_n 0, 1, 0, 0, 0, 0), (203, .iload_n 1, 1, 0, 0, 0, 0), (204, .bipush 59, 2, 0, 0, 0, 0), (206, .if_icmp .ne 7, 3, 0, 0, 0, 0)],
  [(209, .iconst 3, 1, 0, 0, 0, 0), (210, .goto 14, 3, 0, 0, 0, 0), (213, .iload_n 1, 1, 0, 0, 0, 0), (214, .bipush 44, 2, 0, 0, 0, 0), (216, .if_icmp .ne 7, 3, 0, 0, 0, 0), (219, .iconst 4, 1, 0, 0, 0, 0), (220, .goto 4, 3, 0, 0, 0, 0), (223, .iconst 5, 1, 0, 0, 0, 0)],
  [(224, .putfield 68, 3, 10, 5, 5, 0), (227, .return_, 1, 0, 0, 0, 0)]]
/-- ClosedRoomsModel.stepWord(I)Ljava/lang/String; -/
def cd_176 : List (List CE) := [[(0, .iload_n 0, 1, 0, 0, 0, 0), (1, .tableswitch 120 0 14 #[75, 78, 81, 84, 87, 90, 93, 96, 99, 102, 105, 108, 111, 114, 117], 75, 0, 0, 0, 0)],
  [],
  [],
  [],
  [(76, .ldc 116, 2, 1, 0, 0, 4), (78, .areturn, 1, 0, 0, 0, 0), (79, .ldc 118, 2, 1, 0, 0, 5)],
  [(81, .areturn, 1, 0, 0, 0, 0), (82, .ldc 120, 2, 1, 0, 0, 6), (84, .areturn, 1, 0, 0, 0, 0), (85, .ldc 122, 2, 1, 0, 0, 7), (87, .areturn, 1, 0, 0, 0, 0), (88, .ldc 124, 2, 1, 0, 0, 8), (90, .areturn, 1, 0, 0, 0, 0), (91, .ldc 126, 2, 1, 0, 0, 9), (93, .areturn, 1, 0, 0, 0, 0), (94, .ldc 128, 2, 1, 0, 0, 10)],
  [(96, .areturn, 1, 0, 0, 0, 0), (97, .ldc 130, 2, 1, 0, 0, 11), (99, .areturn, 1, 0, 0, 0, 0), (100, .ldc 132, 2, 1, 0, 0, 12), (102, .areturn, 1, 0, 0, 0, 0), (103, .ldc 134, 2, 1, 0, 0, 13), (105, .areturn, 1, 0, 0, 0, 0), (106, .ldc 136, 2, 1, 0, 0, 14), (108, .areturn, 1, 0, 0, 0, 0), (109, .ldc 138, 2, 1, 0, 0, 15), (111, .areturn, 1, 0, 0, 0, 0)],
  [(112, .ldc 140, 2, 1, 0, 0, 16), (114, .areturn, 1, 0, 0, 0, 0), (115, .ldc 142, 2, 1, 0, 0, 17), (117, .areturn, 1, 0, 0, 0, 0), (118, .ldc 144, 2, 1, 0, 0, 18), (120, .areturn, 1, 0, 0, 0, 0), (121, .ldc 146, 2, 1, 0, 0, 19), (123, .areturn, 1, 0, 0, 0, 0)]]
/-- ClosedRoomsModel.machineWord(I)Ljava/lang/String; -/
def cd_177 : List (List CE) := [[(0, .iload_n 0, 1, 0, 0, 0, 0), (1, .tableswitch 36 0 2 #[27, 30, 33], 27, 0, 0, 0, 0)],
  [(28, .ldc 108, 2, 1, 0, 0, 0), (30, .areturn, 1, 0, 0, 0, 0), (31, .ldc 110, 2, 1, 0, 0, 1)],
  [(33, .areturn, 1, 0, 0, 0, 0), (34, .ldc 112, 2, 1, 0, 0, 2), (36, .areturn, 1, 0, 0, 0, 0), (37, .ldc 114, 2, 1, 0, 0, 3), (39, .areturn, 1, 0, 0, 0, 0)]]
/-- ClosedRoomsModel.spelled(Ljava/lang/String;)J -/
def cd_178 : List (List CE) := [[(0, .lconst 0, 1, 0, 0, 0, 0), (1, .lstore_n 1, 1, 0, 0, 0, 0), (2, .iconst 0, 1, 0, 0, 0, 0), (3, .istore_n 3, 1, 0, 0, 0, 0), (4, .iload_n 3, 1, 0, 0, 0, 0), (5, .aload_n 0, 1, 0, 0, 0, 0), (6, .invokevirtual 99, 3, 901, 1, 0, 0), (9, .if_icmp .ge 26, 3, 0, 0, 0, 0), (12, .ldc2_w 79, 3, 0, 0, 0, 32), (15, .lload_n 1, 1, 0, 0, 0, 0)],
  [(16, .lmul, 1, 0, 0, 0, 0), (17, .aload_n 0, 1, 0, 0, 0, 0), (18, .iload_n 3, 1, 0, 0, 0, 0), (19, .invokevirtual 104, 3, 902, 2, 0, 0), (22, .i2l, 1, 0, 0, 0, 0), (23, .ladd, 1, 0, 0, 0, 0), (24, .ldc2_w 81, 3, 0, 0, 0, 96), (27, .lsub, 1, 0, 0, 0, 0), (28, .lstore_n 1, 1, 0, 0, 0, 0), (29, .iinc 3 1, 3, 0, 0, 0, 0)],
  [(32, .goto (-28), 3, 0, 0, 0, 0), (35, .lload_n 1, 1, 0, 0, 0, 0), (36, .lreturn, 1, 0, 0, 0, 0)]]
/-- ClosedRoomsModel.wordHere(Z)I -/
def cd_179 : List (List CE) := [[(0, .iload_n 1, 1, 0, 0, 0, 0), (1, .ifCond .eq 8, 3, 0, 0, 0, 0), (4, .bipush 16, 2, 0, 0, 0, 0), (6, .goto 4, 3, 0, 0, 0, 0), (9, .iconst 4, 1, 0, 0, 0, 0), (10, .istore_n 2, 1, 0, 0, 0, 0), (11, .iconst 0, 1, 0, 0, 0, 0), (12, .istore_n 3, 1, 0, 0, 0, 0), (13, .iload_n 3, 1, 0, 0, 0, 0), (14, .iload_n 2, 1, 0, 0, 0, 0), (15, .if_icmp .ge 45, 3, 0, 0, 0, 0)],
  [(18, .aload_n 0, 1, 0, 0, 0, 0), (19, .getfield 68, 3, 10, 5, 5, 0), (22, .iconst 1, 1, 0, 0, 0, 0), (23, .if_icmp .ne 31, 3, 0, 0, 0, 0), (26, .aload_n 0, 1, 0, 0, 0, 0), (27, .getfield 75, 3, 10, 8, 8, 0), (30, .iload_n 1, 1, 0, 0, 0, 0), (31, .ifCond .eq 10, 3, 0, 0, 0, 0)],
  [(34, .iload_n 3, 1, 0, 0, 0, 0), (35, .invokestatic 148, 3, 176, 1, 10, 70), (38, .goto 7, 3, 0, 0, 0, 0), (41, .iload_n 3, 1, 0, 0, 0, 0), (42, .invokestatic 152, 3, 177, 1, 10, 70), (45, .invokestatic 155, 3, 178, 1, 10, 0)],
  [(48, .lcmp, 1, 0, 0, 0, 0), (49, .ifCond .ne 5, 3, 0, 0, 0, 0), (52, .iload_n 3, 1, 0, 0, 0, 0), (53, .ireturn, 1, 0, 0, 0, 0), (54, .iinc 3 1, 3, 0, 0, 0, 0), (57, .goto (-44), 3, 0, 0, 0, 0), (60, .iconst (-1), 1, 0, 0, 0, 0), (61, .ireturn, 1, 0, 0, 0, 0)]]
/-- ClosedRoomsModel.has(II)Z -/
def cd_180 : List (List CE) := [[(0, .iload_n 0, 1, 0, 0, 0, 0), (1, .iload_n 1, 1, 0, 0, 0, 0), (2, .ishr, 1, 0, 0, 0, 0), (3, .iconst 1, 1, 0, 0, 0, 0), (4, .iand, 1, 0, 0, 0, 0), (5, .iconst 1, 1, 0, 0, 0, 0), (6, .if_icmp .ne 7, 3, 0, 0, 0, 0), (9, .iconst 1, 1, 0, 0, 0, 0), (10, .goto 4, 3, 0, 0, 0, 0), (13, .iconst 0, 1, 0, 0, 0, 0), (14, .ireturn, 1, 0, 0, 0, 0)]]
/-- ClosedRoomsModel.bad()V -/
def cd_181 : List (List CE) := [[(0, .aload_n 0, 1, 0, 0, 0, 0), (1, .aload_n 0, 1, 0, 0, 0, 0), (2, .getfield 96, 3, 10, 4, 4, 0), (5, .iconst (-1), 1, 0, 0, 0, 0), (6, .if_icmp .ne 10, 3, 0, 0, 0, 0), (9, .aload_n 0, 1, 0, 0, 0, 0), (10, .getfield 65, 3, 10, 6, 6, 0), (13, .goto 7, 3, 0, 0, 0, 0)],
  [(16, .aload_n 0, 1, 0, 0, 0, 0), (17, .getfield 96, 3, 10, 4, 4, 0), (20, .putfield 96, 3, 10, 4, 4, 0), (23, .return_, 1, 0, 0, 0, 0)]]
/-- ClosedRoomsModel.lowest(I)I -/
def cd_182 : List (List CE) := [[(0, .iload_n 0, 1, 0, 0, 0, 0), (1, .ifCond .ne 7, 3, 0, 0, 0, 0), (4, .iconst 3, 1, 0, 0, 0, 0), (5, .goto 4, 3, 0, 0, 0, 0), (8, .iconst 1, 1, 0, 0, 0, 0), (9, .ireturn, 1, 0, 0, 0, 0)]]
/-- ClosedRoomsModel.highest(I)I -/
def cd_183 : List (List CE) := [[(0, .iload_n 0, 1, 0, 0, 0, 0), (1, .ifCond .ne 8, 3, 0, 0, 0, 0), (4, .bipush 10, 2, 0, 0, 0, 0), (6, .goto 24, 3, 0, 0, 0, 0), (9, .iload_n 0, 1, 0, 0, 0, 0), (10, .iconst 1, 1, 0, 0, 0, 0), (11, .if_icmp .ne 7, 3, 0, 0, 0, 0), (14, .iconst 3, 1, 0, 0, 0, 0), (15, .goto 15, 3, 0, 0, 0, 0)],
  [(18, .iload_n 0, 1, 0, 0, 0, 0), (19, .iconst 2, 1, 0, 0, 0, 0), (20, .if_icmp .ne 7, 3, 0, 0, 0, 0), (23, .iconst 3, 1, 0, 0, 0, 0), (24, .goto 6, 3, 0, 0, 0, 0), (27, .sipush 999, 3, 0, 0, 0, 0), (30, .ireturn, 1, 0, 0, 0, 0)]]
/-- ClosedRoomsModel.number(II)I -/
def cd_184 : List (List CE) := [[(0, .aload_n 0, 1, 0, 0, 0, 0), (1, .invokevirtual 159, 3, 175, 1, 10, 0), (4, .aload_n 0, 1, 0, 0, 0, 0), (5, .getfield 68, 3, 10, 5, 5, 0), (8, .iconst 2, 1, 0, 0, 0, 0), (9, .if_icmp .ne 15, 3, 0, 0, 0, 0), (12, .aload_n 0, 1, 0, 0, 0, 0), (13, .getfield 86, 3, 10, 7, 7, 0)],
  [(16, .iload_n 1, 1, 0, 0, 0, 0), (17, .iload_n 2, 1, 0, 0, 0, 0), (18, .invokestatic 54, 3, 168, 3, 10, 0), (21, .ifCond .ne 9, 3, 0, 0, 0, 0), (24, .aload_n 0, 1, 0, 0, 0, 0), (25, .invokevirtual 162, 3, 181, 1, 10, 0), (28, .iload_n 1, 1, 0, 0, 0, 0), (29, .ireturn, 1, 0, 0, 0, 0), (30, .aload_n 0, 1, 0, 0, 0, 0), (31, .getfield 86, 3, 10, 7, 7, 0)],
  [(34, .istore_n 3, 1, 0, 0, 0, 0), (35, .aload_n 0, 1, 0, 0, 0, 0), (36, .invokevirtual 159, 3, 175, 1, 10, 0), (39, .iload_n 3, 1, 0, 0, 0, 0), (40, .ireturn, 1, 0, 0, 0, 0)]]
/-- ClosedRoomsModel.readMachine()I -/
def cd_185 : List (List CE) := [[(0, .aload_n 0, 1, 0, 0, 0, 0), (1, .iconst 0, 1, 0, 0, 0, 0), (2, .putfield 58, 3, 10, 3, 3, 0), (5, .aload_n 0, 1, 0, 0, 0, 0), (6, .iconst (-1), 1, 0, 0, 0, 0), (7, .putfield 96, 3, 10, 4, 4, 0), (10, .iconst 0, 1, 0, 0, 0, 0), (11, .istore_n 1, 1, 0, 0, 0, 0), (12, .iload_n 1, 1, 0, 0, 0, 0), (13, .iconst 4, 1, 0, 0, 0, 0), (14, .if_icmp .ge 19, 3, 0, 0, 0, 0)],
  [(17, .aload_n 0, 1, 0, 0, 0, 0), (18, .getfield 13, 3, 10, 9, 9, 0), (21, .iload_n 1, 1, 0, 0, 0, 0), (22, .iload_n 1, 1, 0, 0, 0, 0), (23, .invokestatic 165, 3, 170, 1, 10, 0), (26, .iastore, 1, 0, 0, 0, 0), (27, .iinc 1 1, 3, 0, 0, 0, 0), (30, .goto (-18), 3, 0, 0, 0, 0)],
  [(33, .iconst 0, 1, 0, 0, 0, 0), (34, .istore_n 1, 1, 0, 0, 0, 0), (35, .iconst 1, 1, 0, 0, 0, 0), (36, .istore_n 2, 1, 0, 0, 0, 0), (37, .iload_n 2, 1, 0, 0, 0, 0), (38, .ifCond .eq 82, 3, 0, 0, 0, 0), (41, .aload_n 0, 1, 0, 0, 0, 0), (42, .invokevirtual 159, 3, 175, 1, 10, 0), (45, .aload_n 0, 1, 0, 0, 0, 0), (46, .iconst 0, 1, 0, 0, 0, 0), (47, .invokevirtual 169, 3, 179, 2, 10, 0)],
  [(50, .istore_n 3, 1, 0, 0, 0, 0), (51, .iload_n 3, 1, 0, 0, 0, 0), (52, .iconst (-1), 1, 0, 0, 0, 0), (53, .if_icmp .eq 11, 3, 0, 0, 0, 0), (56, .iload_n 1, 1, 0, 0, 0, 0), (57, .iload_n 3, 1, 0, 0, 0, 0), (58, .invokestatic 173, 3, 180, 2, 10, 0), (61, .ifCond .eq 10, 3, 0, 0, 0, 0)],
  [(64, .aload_n 0, 1, 0, 0, 0, 0), (65, .invokevirtual 162, 3, 181, 1, 10, 0), (68, .goto 27, 3, 0, 0, 0, 0), (71, .iload_n 1, 1, 0, 0, 0, 0), (72, .iconst 1, 1, 0, 0, 0, 0), (73, .iload_n 3, 1, 0, 0, 0, 0), (74, .ishl, 1, 0, 0, 0, 0), (75, .ior, 1, 0, 0, 0, 0), (76, .istore_n 1, 1, 0, 0, 0, 0), (77, .aload_n 0, 1, 0, 0, 0, 0), (78, .getfield 13, 3, 10, 9, 9, 0)],
  [(81, .iload_n 3, 1, 0, 0, 0, 0), (82, .aload_n 0, 1, 0, 0, 0, 0), (83, .iload_n 3, 1, 0, 0, 0, 0), (84, .invokestatic 177, 3, 182, 1, 10, 0), (87, .iload_n 3, 1, 0, 0, 0, 0), (88, .invokestatic 180, 3, 183, 1, 10, 0), (91, .invokevirtual 183, 3, 184, 3, 10, 0), (94, .iastore, 1, 0, 0, 0, 0), (95, .aload_n 0, 1, 0, 0, 0, 0)],
  [(96, .getfield 96, 3, 10, 4, 4, 0), (99, .iconst (-1), 1, 0, 0, 0, 0), (100, .if_icmp .ne 15, 3, 0, 0, 0, 0), (103, .aload_n 0, 1, 0, 0, 0, 0), (104, .getfield 68, 3, 10, 5, 5, 0), (107, .iconst 3, 1, 0, 0, 0, 0), (108, .if_icmp .ne 7, 3, 0, 0, 0, 0), (111, .iconst 1, 1, 0, 0, 0, 0)],
  [(112, .goto 4, 3, 0, 0, 0, 0), (115, .iconst 0, 1, 0, 0, 0, 0), (116, .istore_n 2, 1, 0, 0, 0, 0), (117, .goto (-80), 3, 0, 0, 0, 0), (120, .aload_n 0, 1, 0, 0, 0, 0), (121, .getfield 96, 3, 10, 4, 4, 0), (124, .iconst (-1), 1, 0, 0, 0, 0), (125, .if_icmp .ne 14, 3, 0, 0, 0, 0)],
  [(128, .aload_n 0, 1, 0, 0, 0, 0), (129, .getfield 68, 3, 10, 5, 5, 0), (132, .ifCond .eq 7, 3, 0, 0, 0, 0), (135, .aload_n 0, 1, 0, 0, 0, 0), (136, .invokevirtual 162, 3, 181, 1, 10, 0), (139, .aload_n 0, 1, 0, 0, 0, 0), (140, .getfield 96, 3, 10, 4, 4, 0), (143, .ireturn, 1, 0, 0, 0, 0)]]
/-- ClosedRoomsModel.manyOf(I)I -/
def cd_186 : List (List CE) := [[(0, .iload_n 0, 1, 0, 0, 0, 0), (1, .tableswitch 83 1 15 #[75, 77, 79, 83, 81, 83, 83, 81, 81, 83, 83, 81, 81, 83, 81], 75, 0, 0, 0, 0)],
  [],
  [],
  [],
  [(76, .iconst 0, 1, 0, 0, 0, 0), (77, .ireturn, 1, 0, 0, 0, 0), (78, .iconst 5, 1, 0, 0, 0, 0), (79, .ireturn, 1, 0, 0, 0, 0)],
  [(80, .iconst 2, 1, 0, 0, 0, 0), (81, .ireturn, 1, 0, 0, 0, 0), (82, .iconst 3, 1, 0, 0, 0, 0), (83, .ireturn, 1, 0, 0, 0, 0), (84, .iconst 1, 1, 0, 0, 0, 0), (85, .ireturn, 1, 0, 0, 0, 0)]]
/-- ClosedRoomsModel.readStep(I)V -/
def cd_187 : List (List CE) := [[(0, .aload_n 0, 1, 0, 0, 0, 0), (1, .invokevirtual 159, 3, 175, 1, 10, 0), (4, .aload_n 0, 1, 0, 0, 0, 0), (5, .iconst 1, 1, 0, 0, 0, 0), (6, .invokevirtual 169, 3, 179, 2, 10, 0), (9, .istore_n 2, 1, 0, 0, 0, 0), (10, .iload_n 2, 1, 0, 0, 0, 0), (11, .iconst (-1), 1, 0, 0, 0, 0), (12, .if_icmp .ne 8, 3, 0, 0, 0, 0), (15, .aload_n 0, 1, 0, 0, 0, 0)],
  [(16, .invokevirtual 162, 3, 181, 1, 10, 0), (19, .return_, 1, 0, 0, 0, 0), (20, .aload_n 0, 1, 0, 0, 0, 0), (21, .getfield 19, 3, 10, 12, 12, 0), (24, .iload_n 1, 1, 0, 0, 0, 0), (25, .iload_n 2, 1, 0, 0, 0, 0), (26, .iastore, 1, 0, 0, 0, 0), (27, .iconst 1, 1, 0, 0, 0, 0), (28, .istore_n 3, 1, 0, 0, 0, 0), (29, .iload_n 3, 1, 0, 0, 0, 0), (30, .bipush 6, 2, 0, 0, 0, 0)],
  [(32, .if_icmp .ge 18, 3, 0, 0, 0, 0), (35, .aload_n 0, 1, 0, 0, 0, 0), (36, .getfield 19, 3, 10, 12, 12, 0), (39, .iload_n 1, 1, 0, 0, 0, 0), (40, .iload_n 3, 1, 0, 0, 0, 0), (41, .iadd, 1, 0, 0, 0, 0), (42, .iconst (-1), 1, 0, 0, 0, 0), (43, .iastore, 1, 0, 0, 0, 0), (44, .iinc 3 1, 3, 0, 0, 0, 0), (47, .goto (-18), 3, 0, 0, 0, 0)],
  [(50, .iload_n 2, 1, 0, 0, 0, 0), (51, .invokestatic 186, 3, 186, 1, 10, 0), (54, .ifCond .ne 7, 3, 0, 0, 0, 0), (57, .aload_n 0, 1, 0, 0, 0, 0), (58, .invokevirtual 159, 3, 175, 1, 10, 0), (61, .iconst 0, 1, 0, 0, 0, 0), (62, .istore_n 3, 1, 0, 0, 0, 0), (63, .iload_n 3, 1, 0, 0, 0, 0)],
  [(64, .iload_n 2, 1, 0, 0, 0, 0), (65, .invokestatic 186, 3, 186, 1, 10, 0), (68, .if_icmp .ge 54, 3, 0, 0, 0, 0), (71, .aload_n 0, 1, 0, 0, 0, 0), (72, .getfield 96, 3, 10, 4, 4, 0), (75, .iconst (-1), 1, 0, 0, 0, 0), (76, .if_icmp .ne 46, 3, 0, 0, 0, 0), (79, .iload_n 3, 1, 0, 0, 0, 0)],
  [(80, .ifCond .le 18, 3, 0, 0, 0, 0), (83, .aload_n 0, 1, 0, 0, 0, 0), (84, .getfield 68, 3, 10, 5, 5, 0), (87, .iconst 4, 1, 0, 0, 0, 0), (88, .if_icmp .eq 10, 3, 0, 0, 0, 0), (91, .aload_n 0, 1, 0, 0, 0, 0), (92, .invokevirtual 162, 3, 181, 1, 10, 0), (95, .goto 21, 3, 0, 0, 0, 0)],
  [(98, .aload_n 0, 1, 0, 0, 0, 0), (99, .getfield 19, 3, 10, 12, 12, 0), (102, .iload_n 1, 1, 0, 0, 0, 0), (103, .iconst 1, 1, 0, 0, 0, 0), (104, .iadd, 1, 0, 0, 0, 0), (105, .iload_n 3, 1, 0, 0, 0, 0), (106, .iadd, 1, 0, 0, 0, 0), (107, .aload_n 0, 1, 0, 0, 0, 0), (108, .iconst 0, 1, 0, 0, 0, 0), (109, .sipush 999, 3, 0, 0, 0, 0)],
  [(112, .invokevirtual 183, 3, 184, 3, 10, 0), (115, .iastore, 1, 0, 0, 0, 0), (116, .iinc 3 1, 3, 0, 0, 0, 0), (119, .goto (-56), 3, 0, 0, 0, 0), (122, .return_, 1, 0, 0, 0, 0)]]
/-- ClosedRoomsModel.readScript(I)I -/
def cd_188 : List (List CE) := [[(0, .aload_n 0, 1, 0, 0, 0, 0), (1, .iconst 0, 1, 0, 0, 0, 0), (2, .putfield 58, 3, 10, 3, 3, 0), (5, .aload_n 0, 1, 0, 0, 0, 0), (6, .iconst (-1), 1, 0, 0, 0, 0), (7, .putfield 96, 3, 10, 4, 4, 0), (10, .aload_n 0, 1, 0, 0, 0, 0), (11, .getfield 22, 3, 10, 13, 13, 0), (14, .iload_n 1, 1, 0, 0, 0, 0), (15, .iconst 0, 1, 0, 0, 0, 0)],
  [(16, .iastore, 1, 0, 0, 0, 0), (17, .iconst 1, 1, 0, 0, 0, 0), (18, .istore_n 2, 1, 0, 0, 0, 0), (19, .iload_n 2, 1, 0, 0, 0, 0), (20, .ifCond .eq 67, 3, 0, 0, 0, 0), (23, .aload_n 0, 1, 0, 0, 0, 0), (24, .bipush 6, 2, 0, 0, 0, 0), (26, .bipush 12, 2, 0, 0, 0, 0), (28, .iload_n 1, 1, 0, 0, 0, 0), (29, .imul, 1, 0, 0, 0, 0), (30, .aload_n 0, 1, 0, 0, 0, 0), (31, .getfield 22, 3, 10, 13, 13, 0)],
  [(34, .iload_n 1, 1, 0, 0, 0, 0), (35, .iaload, 1, 0, 0, 0, 0), (36, .iadd, 1, 0, 0, 0, 0), (37, .imul, 1, 0, 0, 0, 0), (38, .invokevirtual 189, 3, 187, 2, 10, 0), (41, .aload_n 0, 1, 0, 0, 0, 0), (42, .getfield 22, 3, 10, 13, 13, 0), (45, .iload_n 1, 1, 0, 0, 0, 0), (46, .dup2, 1, 0, 0, 0, 0), (47, .iaload, 1, 0, 0, 0, 0)],
  [(48, .iconst 1, 1, 0, 0, 0, 0), (49, .iadd, 1, 0, 0, 0, 0), (50, .iastore, 1, 0, 0, 0, 0), (51, .aload_n 0, 1, 0, 0, 0, 0), (52, .getfield 96, 3, 10, 4, 4, 0), (55, .iconst (-1), 1, 0, 0, 0, 0), (56, .if_icmp .ne 26, 3, 0, 0, 0, 0), (59, .aload_n 0, 1, 0, 0, 0, 0), (60, .getfield 68, 3, 10, 5, 5, 0), (63, .iconst 3, 1, 0, 0, 0, 0)],
  [(64, .if_icmp .ne 18, 3, 0, 0, 0, 0), (67, .aload_n 0, 1, 0, 0, 0, 0), (68, .getfield 22, 3, 10, 13, 13, 0), (71, .iload_n 1, 1, 0, 0, 0, 0), (72, .iaload, 1, 0, 0, 0, 0), (73, .bipush 12, 2, 0, 0, 0, 0), (75, .if_icmp .ge 7, 3, 0, 0, 0, 0), (78, .iconst 1, 1, 0, 0, 0, 0), (79, .goto 4, 3, 0, 0, 0, 0)],
  [(82, .iconst 0, 1, 0, 0, 0, 0), (83, .istore_n 2, 1, 0, 0, 0, 0), (84, .goto (-65), 3, 0, 0, 0, 0), (87, .aload_n 0, 1, 0, 0, 0, 0), (88, .getfield 96, 3, 10, 4, 4, 0), (91, .iconst (-1), 1, 0, 0, 0, 0), (92, .if_icmp .ne 14, 3, 0, 0, 0, 0), (95, .aload_n 0, 1, 0, 0, 0, 0)],
  [(96, .getfield 68, 3, 10, 5, 5, 0), (99, .ifCond .eq 7, 3, 0, 0, 0, 0), (102, .aload_n 0, 1, 0, 0, 0, 0), (103, .invokevirtual 162, 3, 181, 1, 10, 0), (106, .aload_n 0, 1, 0, 0, 0, 0), (107, .getfield 96, 3, 10, 4, 4, 0), (110, .ireturn, 1, 0, 0, 0, 0)]]
/-- ClosedRoomsModel.fault(I)I -/
def cd_189 : List (List CE) := [[(0, .iload_n 1, 1, 0, 0, 0, 0), (1, .ifCond .ne 10, 3, 0, 0, 0, 0), (4, .aload_n 0, 1, 0, 0, 0, 0), (5, .invokevirtual 193, 3, 185, 1, 10, 0), (8, .goto 18, 3, 0, 0, 0, 0), (11, .iload_n 1, 1, 0, 0, 0, 0), (12, .iconst 1, 1, 0, 0, 0, 0), (13, .if_icmp .ne 11, 3, 0, 0, 0, 0)],
  [(16, .aload_n 0, 1, 0, 0, 0, 0), (17, .iconst 4, 1, 0, 0, 0, 0), (18, .invokevirtual 196, 3, 188, 2, 10, 0), (21, .goto 5, 3, 0, 0, 0, 0), (24, .bipush (-2), 2, 0, 0, 0, 0), (26, .ireturn, 1, 0, 0, 0, 0)]]
/-- ClosedRoomsModel.setPage(III)V -/
def cd_190 : List (List CE) := [[(0, .aload_n 0, 1, 0, 0, 0, 0), (1, .getfield 25, 3, 10, 15, 15, 0), (4, .bipush 11, 2, 0, 0, 0, 0), (6, .iload_n 1, 1, 0, 0, 0, 0), (7, .imul, 1, 0, 0, 0, 0), (8, .iload_n 2, 1, 0, 0, 0, 0), (9, .iadd, 1, 0, 0, 0, 0), (10, .iload_n 3, 1, 0, 0, 0, 0), (11, .iastore, 1, 0, 0, 0, 0), (12, .return_, 1, 0, 0, 0, 0)]]
/-- ClosedRoomsModel.clearPage(I)V -/
def cd_191 : List (List CE) := [[(0, .iconst 0, 1, 0, 0, 0, 0), (1, .istore_n 2, 1, 0, 0, 0, 0), (2, .iload_n 2, 1, 0, 0, 0, 0), (3, .bipush 11, 2, 0, 0, 0, 0), (5, .if_icmp .ge 35, 3, 0, 0, 0, 0), (8, .aload_n 0, 1, 0, 0, 0, 0), (9, .iload_n 1, 1, 0, 0, 0, 0), (10, .iload_n 2, 1, 0, 0, 0, 0), (11, .iload_n 2, 1, 0, 0, 0, 0), (12, .iconst 1, 1, 0, 0, 0, 0), (13, .if_icmp .eq 13, 3, 0, 0, 0, 0)],
  [(16, .iload_n 2, 1, 0, 0, 0, 0), (17, .iconst 2, 1, 0, 0, 0, 0), (18, .if_icmp .eq 8, 3, 0, 0, 0, 0), (21, .iload_n 2, 1, 0, 0, 0, 0), (22, .iconst 5, 1, 0, 0, 0, 0), (23, .if_icmp .ne 7, 3, 0, 0, 0, 0), (26, .iconst (-1), 1, 0, 0, 0, 0), (27, .goto 4, 3, 0, 0, 0, 0), (30, .iconst 0, 1, 0, 0, 0, 0), (31, .invokevirtual 218, 3, 190, 4, 10, 0)],
  [(34, .iinc 2 1, 3, 0, 0, 0, 0), (37, .goto (-35), 3, 0, 0, 0, 0), (40, .return_, 1, 0, 0, 0, 0)]]
/-- ClosedRoomsModel.setCore(III)V -/
def cd_192 : List (List CE) := [[(0, .aload_n 0, 1, 0, 0, 0, 0), (1, .getfield 25, 3, 10, 15, 15, 0), (4, .sipush 202, 3, 0, 0, 0, 0), (7, .bipush 11, 2, 0, 0, 0, 0), (9, .iload_n 1, 1, 0, 0, 0, 0), (10, .imul, 1, 0, 0, 0, 0), (11, .iadd, 1, 0, 0, 0, 0), (12, .iload_n 2, 1, 0, 0, 0, 0), (13, .iadd, 1, 0, 0, 0, 0), (14, .iload_n 3, 1, 0, 0, 0, 0), (15, .iastore, 1, 0, 0, 0, 0)],
  [(16, .return_, 1, 0, 0, 0, 0)]]
/-- ClosedRoomsModel.putOutside(I)V -/
def cd_193 : List (List CE) := [[(0, .aload_n 0, 1, 0, 0, 0, 0), (1, .iload_n 1, 1, 0, 0, 0, 0), (2, .iconst 1, 1, 0, 0, 0, 0), (3, .iconst (-1), 1, 0, 0, 0, 0), (4, .invokevirtual 234, 3, 192, 4, 10, 0), (7, .aload_n 0, 1, 0, 0, 0, 0), (8, .iload_n 1, 1, 0, 0, 0, 0), (9, .iconst 2, 1, 0, 0, 0, 0), (10, .iconst (-1), 1, 0, 0, 0, 0), (11, .invokevirtual 234, 3, 192, 4, 10, 0), (14, .aload_n 0, 1, 0, 0, 0, 0), (15, .iload_n 1, 1, 0, 0, 0, 0)],
  [(16, .iconst 3, 1, 0, 0, 0, 0), (17, .iconst (-1), 1, 0, 0, 0, 0), (18, .invokevirtual 234, 3, 192, 4, 10, 0), (21, .aload_n 0, 1, 0, 0, 0, 0), (22, .iload_n 1, 1, 0, 0, 0, 0), (23, .iconst 4, 1, 0, 0, 0, 0), (24, .iconst 0, 1, 0, 0, 0, 0), (25, .invokevirtual 234, 3, 192, 4, 10, 0), (28, .return_, 1, 0, 0, 0, 0)]]
/-- ClosedRoomsModel.takeMachine()I -/
def cd_194 : List (List CE) := [[(0, .aload_n 0, 1, 0, 0, 0, 0), (1, .iconst 1, 1, 0, 0, 0, 0), (2, .putfield 199, 3, 10, 11, 11, 0), (5, .iconst 0, 1, 0, 0, 0, 0), (6, .istore_n 1, 1, 0, 0, 0, 0), (7, .iload_n 1, 1, 0, 0, 0, 0), (8, .iconst 4, 1, 0, 0, 0, 0), (9, .if_icmp .ge 21, 3, 0, 0, 0, 0), (12, .aload_n 0, 1, 0, 0, 0, 0), (13, .getfield 16, 3, 10, 10, 10, 0)],
  [(16, .iload_n 1, 1, 0, 0, 0, 0), (17, .aload_n 0, 1, 0, 0, 0, 0), (18, .getfield 13, 3, 10, 9, 9, 0), (21, .iload_n 1, 1, 0, 0, 0, 0), (22, .iaload, 1, 0, 0, 0, 0), (23, .iastore, 1, 0, 0, 0, 0), (24, .iinc 1 1, 3, 0, 0, 0, 0), (27, .goto (-20), 3, 0, 0, 0, 0), (30, .iconst 0, 1, 0, 0, 0, 0), (31, .istore_n 1, 1, 0, 0, 0, 0)],
  [(32, .iload_n 1, 1, 0, 0, 0, 0), (33, .sipush 526, 3, 0, 0, 0, 0), (36, .if_icmp .ge 16, 3, 0, 0, 0, 0), (39, .aload_n 0, 1, 0, 0, 0, 0), (40, .getfield 25, 3, 10, 15, 15, 0), (43, .iload_n 1, 1, 0, 0, 0, 0), (44, .iconst 0, 1, 0, 0, 0, 0), (45, .iastore, 1, 0, 0, 0, 0), (46, .iinc 1 1, 3, 0, 0, 0, 0)],
  [(49, .goto (-17), 3, 0, 0, 0, 0), (52, .iconst 0, 1, 0, 0, 0, 0), (53, .istore_n 1, 1, 0, 0, 0, 0), (54, .iload_n 1, 1, 0, 0, 0, 0), (55, .bipush 10, 2, 0, 0, 0, 0), (57, .if_icmp .ge 14, 3, 0, 0, 0, 0), (60, .aload_n 0, 1, 0, 0, 0, 0), (61, .iload_n 1, 1, 0, 0, 0, 0), (62, .invokevirtual 222, 3, 191, 2, 10, 0)],
  [(65, .iinc 1 1, 3, 0, 0, 0, 0), (68, .goto (-14), 3, 0, 0, 0, 0), (71, .iconst 0, 1, 0, 0, 0, 0), (72, .istore_n 1, 1, 0, 0, 0, 0), (73, .iload_n 1, 1, 0, 0, 0, 0), (74, .iconst 3, 1, 0, 0, 0, 0), (75, .if_icmp .ge 14, 3, 0, 0, 0, 0), (78, .aload_n 0, 1, 0, 0, 0, 0), (79, .iload_n 1, 1, 0, 0, 0, 0)],
  [(80, .invokevirtual 225, 3, 193, 2, 10, 0), (83, .iinc 1 1, 3, 0, 0, 0, 0), (86, .goto (-13), 3, 0, 0, 0, 0), (89, .aload_n 0, 1, 0, 0, 0, 0), (90, .iconst 0, 1, 0, 0, 0, 0), (91, .putfield 228, 3, 10, 18, 18, 0), (94, .aload_n 0, 1, 0, 0, 0, 0), (95, .iconst 0, 1, 0, 0, 0, 0)],
  [(96, .putfield 231, 3, 10, 23, 23, 0), (99, .aload_n 0, 1, 0, 0, 0, 0), (100, .getfield 16, 3, 10, 10, 10, 0), (103, .iconst 0, 1, 0, 0, 0, 0), (104, .iaload, 1, 0, 0, 0, 0), (105, .ireturn, 1, 0, 0, 0, 0)]]
/-- ClosedRoomsModel.text(I)I -/
def cd_195 : List (List CE) := [[(0, .iload_n 1, 1, 0, 0, 0, 0), (1, .ifCond .ne 21, 3, 0, 0, 0, 0), (4, .aload_n 0, 1, 0, 0, 0, 0), (5, .invokevirtual 193, 3, 185, 1, 10, 0), (8, .iconst (-1), 1, 0, 0, 0, 0), (9, .if_icmp .ne 13, 3, 0, 0, 0, 0), (12, .aload_n 0, 1, 0, 0, 0, 0), (13, .iconst 0, 1, 0, 0, 0, 0), (14, .putfield 51, 3, 10, 2, 2, 0)],
  [(17, .aload_n 0, 1, 0, 0, 0, 0), (18, .invokevirtual 237, 3, 194, 1, 10, 0), (21, .ireturn, 1, 0, 0, 0, 0), (22, .iload_n 1, 1, 0, 0, 0, 0), (23, .iconst 1, 1, 0, 0, 0, 0), (24, .if_icmp .ne 45, 3, 0, 0, 0, 0), (27, .aload_n 0, 1, 0, 0, 0, 0), (28, .getfield 240, 3, 10, 14, 14, 0), (31, .iconst 4, 1, 0, 0, 0, 0)],
  [(32, .if_icmp .ge 37, 3, 0, 0, 0, 0), (35, .aload_n 0, 1, 0, 0, 0, 0), (36, .aload_n 0, 1, 0, 0, 0, 0), (37, .getfield 240, 3, 10, 14, 14, 0), (40, .invokevirtual 196, 3, 188, 2, 10, 0), (43, .iconst (-1), 1, 0, 0, 0, 0), (44, .if_icmp .ne 25, 3, 0, 0, 0, 0), (47, .aload_n 0, 1, 0, 0, 0, 0)],
  [(48, .iconst 0, 1, 0, 0, 0, 0), (49, .putfield 51, 3, 10, 2, 2, 0), (52, .aload_n 0, 1, 0, 0, 0, 0), (53, .dup, 1, 0, 0, 0, 0), (54, .getfield 240, 3, 10, 14, 14, 0), (57, .iconst 1, 1, 0, 0, 0, 0), (58, .iadd, 1, 0, 0, 0, 0), (59, .putfield 240, 3, 10, 14, 14, 0), (62, .aload_n 0, 1, 0, 0, 0, 0), (63, .getfield 240, 3, 10, 14, 14, 0)],
  [(66, .iconst 1, 1, 0, 0, 0, 0), (67, .isub, 1, 0, 0, 0, 0), (68, .ireturn, 1, 0, 0, 0, 0), (69, .iconst (-1), 1, 0, 0, 0, 0), (70, .ireturn, 1, 0, 0, 0, 0)]]
/-- ClosedRoomsModel.ofPage(II)I -/
def cd_196 : List (List CE) := [[(0, .aload_n 0, 1, 0, 0, 0, 0), (1, .getfield 25, 3, 10, 15, 15, 0), (4, .bipush 11, 2, 0, 0, 0, 0), (6, .iload_n 1, 1, 0, 0, 0, 0), (7, .imul, 1, 0, 0, 0, 0), (8, .iload_n 2, 1, 0, 0, 0, 0), (9, .iadd, 1, 0, 0, 0, 0), (10, .iaload, 1, 0, 0, 0, 0), (11, .ireturn, 1, 0, 0, 0, 0)]]
/-- ClosedRoomsModel.freePage()I -/
def cd_197 : List (List CE) := [[(0, .iconst 0, 1, 0, 0, 0, 0), (1, .istore_n 1, 1, 0, 0, 0, 0), (2, .iload_n 1, 1, 0, 0, 0, 0), (3, .aload_n 0, 1, 0, 0, 0, 0), (4, .getfield 16, 3, 10, 10, 10, 0), (7, .iconst 0, 1, 0, 0, 0, 0), (8, .iaload, 1, 0, 0, 0, 0), (9, .if_icmp .ge 20, 3, 0, 0, 0, 0), (12, .aload_n 0, 1, 0, 0, 0, 0), (13, .iload_n 1, 1, 0, 0, 0, 0), (14, .iconst 0, 1, 0, 0, 0, 0), (15, .invokevirtual 206, 3, 196, 3, 10, 0)],
  [(18, .ifCond .ne 5, 3, 0, 0, 0, 0), (21, .iload_n 1, 1, 0, 0, 0, 0), (22, .ireturn, 1, 0, 0, 0, 0), (23, .iinc 1 1, 3, 0, 0, 0, 0), (26, .goto (-24), 3, 0, 0, 0, 0), (29, .iconst (-1), 1, 0, 0, 0, 0), (30, .ireturn, 1, 0, 0, 0, 0)]]
/-- ClosedRoomsModel.ofRoom(II)I -/
def cd_198 : List (List CE) := [[(0, .aload_n 0, 1, 0, 0, 0, 0), (1, .getfield 25, 3, 10, 15, 15, 0), (4, .bipush 110, 2, 0, 0, 0, 0), (6, .bipush 23, 2, 0, 0, 0, 0), (8, .iload_n 1, 1, 0, 0, 0, 0), (9, .imul, 1, 0, 0, 0, 0), (10, .iadd, 1, 0, 0, 0, 0), (11, .iload_n 2, 1, 0, 0, 0, 0), (12, .iadd, 1, 0, 0, 0, 0), (13, .iaload, 1, 0, 0, 0, 0), (14, .ireturn, 1, 0, 0, 0, 0)]]
/-- ClosedRoomsModel.freeRoom()I -/
def cd_199 : List (List CE) := [[(0, .iconst 0, 1, 0, 0, 0, 0), (1, .istore_n 1, 1, 0, 0, 0, 0), (2, .iload_n 1, 1, 0, 0, 0, 0), (3, .iconst 4, 1, 0, 0, 0, 0), (4, .if_icmp .ge 20, 3, 0, 0, 0, 0), (7, .aload_n 0, 1, 0, 0, 0, 0), (8, .iload_n 1, 1, 0, 0, 0, 0), (9, .iconst 0, 1, 0, 0, 0, 0), (10, .invokevirtual 209, 3, 198, 3, 10, 0), (13, .ifCond .ne 5, 3, 0, 0, 0, 0)],
  [(16, .iload_n 1, 1, 0, 0, 0, 0), (17, .ireturn, 1, 0, 0, 0, 0), (18, .iinc 1 1, 3, 0, 0, 0, 0), (21, .goto (-19), 3, 0, 0, 0, 0), (24, .iconst (-1), 1, 0, 0, 0, 0), (25, .ireturn, 1, 0, 0, 0, 0)]]
/-- ClosedRoomsModel.whyCreate(I)I -/
def cd_200 : List (List CE) := [[(0, .aload_n 0, 1, 0, 0, 0, 0), (1, .getfield 199, 3, 10, 11, 11, 0), (4, .ifCond .ne 7, 3, 0, 0, 0, 0), (7, .iconst 0, 1, 0, 0, 0, 0), (8, .goto 38, 3, 0, 0, 0, 0), (11, .iload_n 1, 1, 0, 0, 0, 0), (12, .iconst 1, 1, 0, 0, 0, 0), (13, .bipush 8, 2, 0, 0, 0, 0), (15, .invokestatic 54, 3, 168, 3, 10, 0)],
  [(18, .ifCond .ne 7, 3, 0, 0, 0, 0), (21, .iconst 1, 1, 0, 0, 0, 0), (22, .goto 24, 3, 0, 0, 0, 0), (25, .aload_n 0, 1, 0, 0, 0, 0), (26, .invokevirtual 246, 3, 197, 1, 10, 0), (29, .iconst (-1), 1, 0, 0, 0, 0), (30, .if_icmp .eq 11, 3, 0, 0, 0, 0)],
  [(33, .aload_n 0, 1, 0, 0, 0, 0), (34, .invokevirtual 249, 3, 199, 1, 10, 0), (37, .iconst (-1), 1, 0, 0, 0, 0), (38, .if_icmp .ne 7, 3, 0, 0, 0, 0), (41, .iconst 3, 1, 0, 0, 0, 0), (42, .goto 4, 3, 0, 0, 0, 0), (45, .iconst (-1), 1, 0, 0, 0, 0), (46, .ireturn, 1, 0, 0, 0, 0)]]
/-- ClosedRoomsModel.isRoom(I)Z -/
def cd_201 : List (List CE) := [[(0, .aload_n 0, 1, 0, 0, 0, 0), (1, .getfield 199, 3, 10, 11, 11, 0), (4, .ifCond .eq 26, 3, 0, 0, 0, 0), (7, .iload_n 1, 1, 0, 0, 0, 0), (8, .iconst 0, 1, 0, 0, 0, 0), (9, .iconst 3, 1, 0, 0, 0, 0), (10, .invokestatic 54, 3, 168, 3, 10, 0), (13, .ifCond .eq 17, 3, 0, 0, 0, 0)],
  [(16, .aload_n 0, 1, 0, 0, 0, 0), (17, .iload_n 1, 1, 0, 0, 0, 0), (18, .iconst 0, 1, 0, 0, 0, 0), (19, .invokevirtual 209, 3, 198, 3, 10, 0), (22, .iconst 1, 1, 0, 0, 0, 0), (23, .if_icmp .ne 7, 3, 0, 0, 0, 0), (26, .iconst 1, 1, 0, 0, 0, 0), (27, .goto 4, 3, 0, 0, 0, 0), (30, .iconst 0, 1, 0, 0, 0, 0), (31, .ireturn, 1, 0, 0, 0, 0)]]
/-- ClosedRoomsModel.isAddress(II)Z -/
def cd_202 : List (List CE) := [[(0, .iload_n 2, 1, 0, 0, 0, 0), (1, .iconst 0, 1, 0, 0, 0, 0), (2, .aload_n 0, 1, 0, 0, 0, 0), (3, .iload_n 1, 1, 0, 0, 0, 0), (4, .iconst 2, 1, 0, 0, 0, 0), (5, .invokevirtual 209, 3, 198, 3, 10, 0), (8, .iconst 1, 1, 0, 0, 0, 0), (9, .isub, 1, 0, 0, 0, 0), (10, .invokestatic 54, 3, 168, 3, 10, 0), (13, .ireturn, 1, 0, 0, 0, 0)]]
/-- ClosedRoomsModel.isAway(I)Z -/
def cd_203 : List (List CE) := [[(0, .aload_n 0, 1, 0, 0, 0, 0), (1, .iload_n 1, 1, 0, 0, 0, 0), (2, .bipush 6, 2, 0, 0, 0, 0), (4, .invokevirtual 209, 3, 198, 3, 10, 0), (7, .iconst 1, 1, 0, 0, 0, 0), (8, .if_icmp .ne 7, 3, 0, 0, 0, 0), (11, .iconst 1, 1, 0, 0, 0, 0), (12, .goto 4, 3, 0, 0, 0, 0), (15, .iconst 0, 1, 0, 0, 0, 0)],
  [(16, .ireturn, 1, 0, 0, 0, 0)]]
/-- ClosedRoomsModel.whyAdd(IIIII)I -/
def cd_204 : List (List CE) := [[(0, .aload_n 0, 1, 0, 0, 0, 0), (1, .iload_n 1, 1, 0, 0, 0, 0), (2, .invokevirtual 252, 3, 201, 2, 10, 0), (5, .ifCond .ne 5, 3, 0, 0, 0, 0), (8, .iconst 0, 1, 0, 0, 0, 0), (9, .ireturn, 1, 0, 0, 0, 0), (10, .aload_n 0, 1, 0, 0, 0, 0), (11, .iload_n 1, 1, 0, 0, 0, 0), (12, .iload_n 2, 1, 0, 0, 0, 0), (13, .invokevirtual 255, 3, 202, 3, 10, 0)],
  [(16, .ifCond .eq 35, 3, 0, 0, 0, 0), (19, .iload_n 3, 1, 0, 0, 0, 0), (20, .iconst 0, 1, 0, 0, 0, 0), (21, .iconst 1, 1, 0, 0, 0, 0), (22, .invokestatic 54, 3, 168, 3, 10, 0), (25, .ifCond .eq 26, 3, 0, 0, 0, 0), (28, .iload 4, 2, 0, 0, 0, 0), (30, .iconst 1, 1, 0, 0, 0, 0), (31, .bipush 7, 2, 0, 0, 0, 0)],
  [(33, .invokestatic 54, 3, 168, 3, 10, 0), (36, .ifCond .eq 15, 3, 0, 0, 0, 0), (39, .iload 5, 2, 0, 0, 0, 0), (41, .iconst 0, 1, 0, 0, 0, 0), (42, .sipush 999, 3, 0, 0, 0, 0), (45, .invokestatic 54, 3, 168, 3, 10, 0)],
  [(48, .ifCond .ne 5, 3, 0, 0, 0, 0), (51, .iconst 1, 1, 0, 0, 0, 0), (52, .ireturn, 1, 0, 0, 0, 0), (53, .aload_n 0, 1, 0, 0, 0, 0), (54, .iload_n 1, 1, 0, 0, 0, 0), (55, .iconst 3, 1, 0, 0, 0, 0), (56, .invokevirtual 209, 3, 198, 3, 10, 0), (59, .iconst 1, 1, 0, 0, 0, 0), (60, .if_icmp .ne 23, 3, 0, 0, 0, 0), (63, .aload_n 0, 1, 0, 0, 0, 0)],
  [(64, .iload_n 1, 1, 0, 0, 0, 0), (65, .invokevirtual 258, 3, 203, 2, 10, 0), (68, .ifCond .ne 15, 3, 0, 0, 0, 0), (71, .aload_n 0, 1, 0, 0, 0, 0), (72, .iload_n 1, 1, 0, 0, 0, 0), (73, .bipush 7, 2, 0, 0, 0, 0), (75, .iload_n 2, 1, 0, 0, 0, 0), (76, .iadd, 1, 0, 0, 0, 0), (77, .invokevirtual 209, 3, 198, 3, 10, 0)],
  [(80, .ifCond .eq 7, 3, 0, 0, 0, 0), (83, .iconst 2, 1, 0, 0, 0, 0), (84, .goto 16, 3, 0, 0, 0, 0), (87, .aload_n 0, 1, 0, 0, 0, 0), (88, .invokevirtual 246, 3, 197, 1, 10, 0), (91, .iconst (-1), 1, 0, 0, 0, 0), (92, .if_icmp .ne 7, 3, 0, 0, 0, 0), (95, .iconst 3, 1, 0, 0, 0, 0)],
  [(96, .goto 4, 3, 0, 0, 0, 0), (99, .iconst (-1), 1, 0, 0, 0, 0), (100, .ireturn, 1, 0, 0, 0, 0)]]
/-- ClosedRoomsModel.whyExtend(II)I -/
def cd_205 : List (List CE) := [[(0, .aload_n 0, 1, 0, 0, 0, 0), (1, .iload_n 1, 1, 0, 0, 0, 0), (2, .invokevirtual 252, 3, 201, 2, 10, 0), (5, .ifCond .ne 7, 3, 0, 0, 0, 0), (8, .iconst 0, 1, 0, 0, 0, 0), (9, .goto 52, 3, 0, 0, 0, 0), (12, .aload_n 0, 1, 0, 0, 0, 0), (13, .iload_n 1, 1, 0, 0, 0, 0), (14, .iload_n 2, 1, 0, 0, 0, 0), (15, .invokevirtual 255, 3, 202, 3, 10, 0)],
  [(18, .ifCond .ne 7, 3, 0, 0, 0, 0), (21, .iconst 1, 1, 0, 0, 0, 0), (22, .goto 39, 3, 0, 0, 0, 0), (25, .aload_n 0, 1, 0, 0, 0, 0), (26, .iload_n 1, 1, 0, 0, 0, 0), (27, .iconst 3, 1, 0, 0, 0, 0), (28, .invokevirtual 209, 3, 198, 3, 10, 0), (31, .iconst 1, 1, 0, 0, 0, 0)],
  [(32, .if_icmp .ne 24, 3, 0, 0, 0, 0), (35, .aload_n 0, 1, 0, 0, 0, 0), (36, .iload_n 1, 1, 0, 0, 0, 0), (37, .invokevirtual 258, 3, 203, 2, 10, 0), (40, .ifCond .ne 16, 3, 0, 0, 0, 0), (43, .aload_n 0, 1, 0, 0, 0, 0), (44, .iload_n 1, 1, 0, 0, 0, 0), (45, .bipush 7, 2, 0, 0, 0, 0), (47, .iload_n 2, 1, 0, 0, 0, 0)],
  [(48, .iadd, 1, 0, 0, 0, 0), (49, .invokevirtual 209, 3, 198, 3, 10, 0), (52, .iconst 1, 1, 0, 0, 0, 0), (53, .if_icmp .eq 7, 3, 0, 0, 0, 0), (56, .iconst 2, 1, 0, 0, 0, 0), (57, .goto 4, 3, 0, 0, 0, 0), (60, .iconst (-1), 1, 0, 0, 0, 0), (61, .ireturn, 1, 0, 0, 0, 0)]]
/-- ClosedRoomsModel.whySeal(II)I -/
def cd_206 : List (List CE) := [[(0, .aload_n 0, 1, 0, 0, 0, 0), (1, .iload_n 1, 1, 0, 0, 0, 0), (2, .invokevirtual 252, 3, 201, 2, 10, 0), (5, .ifCond .ne 7, 3, 0, 0, 0, 0), (8, .iconst 0, 1, 0, 0, 0, 0), (9, .goto 40, 3, 0, 0, 0, 0), (12, .aload_n 0, 1, 0, 0, 0, 0), (13, .iload_n 1, 1, 0, 0, 0, 0), (14, .iconst 3, 1, 0, 0, 0, 0), (15, .invokevirtual 209, 3, 198, 3, 10, 0)],
  [(18, .iconst 1, 1, 0, 0, 0, 0), (19, .if_icmp .ne 11, 3, 0, 0, 0, 0), (22, .aload_n 0, 1, 0, 0, 0, 0), (23, .iload_n 1, 1, 0, 0, 0, 0), (24, .invokevirtual 258, 3, 203, 2, 10, 0), (27, .ifCond .eq 7, 3, 0, 0, 0, 0), (30, .iconst 2, 1, 0, 0, 0, 0), (31, .goto 18, 3, 0, 0, 0, 0)],
  [(34, .iload_n 2, 1, 0, 0, 0, 0), (35, .aload_n 0, 1, 0, 0, 0, 0), (36, .iload_n 1, 1, 0, 0, 0, 0), (37, .iconst 4, 1, 0, 0, 0, 0), (38, .invokevirtual 209, 3, 198, 3, 10, 0), (41, .if_icmp .eq 7, 3, 0, 0, 0, 0), (44, .iconst 4, 1, 0, 0, 0, 0), (45, .goto 4, 3, 0, 0, 0, 0)],
  [(48, .iconst (-1), 1, 0, 0, 0, 0), (49, .ireturn, 1, 0, 0, 0, 0)]]
/-- ClosedRoomsModel.isCore(I)Z -/
def cd_207 : List (List CE) := [[(0, .aload_n 0, 1, 0, 0, 0, 0), (1, .getfield 199, 3, 10, 11, 11, 0), (4, .ifCond .eq 23, 3, 0, 0, 0, 0), (7, .iload_n 1, 1, 0, 0, 0, 0), (8, .iconst 0, 1, 0, 0, 0, 0), (9, .aload_n 0, 1, 0, 0, 0, 0), (10, .getfield 16, 3, 10, 10, 10, 0), (13, .iconst 1, 1, 0, 0, 0, 0), (14, .iaload, 1, 0, 0, 0, 0), (15, .iconst 1, 1, 0, 0, 0, 0)],
  [(16, .isub, 1, 0, 0, 0, 0), (17, .invokestatic 54, 3, 168, 3, 10, 0), (20, .ifCond .eq 7, 3, 0, 0, 0, 0), (23, .iconst 1, 1, 0, 0, 0, 0), (24, .goto 4, 3, 0, 0, 0, 0), (27, .iconst 0, 1, 0, 0, 0, 0), (28, .ireturn, 1, 0, 0, 0, 0)]]
/-- ClosedRoomsModel.ofCore(II)I -/
def cd_208 : List (List CE) := [[(0, .aload_n 0, 1, 0, 0, 0, 0), (1, .getfield 25, 3, 10, 15, 15, 0), (4, .sipush 202, 3, 0, 0, 0, 0), (7, .bipush 11, 2, 0, 0, 0, 0), (9, .iload_n 1, 1, 0, 0, 0, 0), (10, .imul, 1, 0, 0, 0, 0), (11, .iadd, 1, 0, 0, 0, 0), (12, .iload_n 2, 1, 0, 0, 0, 0), (13, .iadd, 1, 0, 0, 0, 0), (14, .iaload, 1, 0, 0, 0, 0), (15, .ireturn, 1, 0, 0, 0, 0)]]
/-- ClosedRoomsModel.isInside(I)Z -/
def cd_209 : List (List CE) := [[(0, .aload_n 0, 1, 0, 0, 0, 0), (1, .iload_n 1, 1, 0, 0, 0, 0), (2, .iconst 1, 1, 0, 0, 0, 0), (3, .invokevirtual 212, 3, 208, 3, 10, 0), (6, .iconst (-1), 1, 0, 0, 0, 0), (7, .if_icmp .eq 7, 3, 0, 0, 0, 0), (10, .iconst 1, 1, 0, 0, 0, 0), (11, .goto 4, 3, 0, 0, 0, 0), (14, .iconst 0, 1, 0, 0, 0, 0), (15, .ireturn, 1, 0, 0, 0, 0)]]
/-- ClosedRoomsModel.mapOf(II)I -/
def cd_210 : List (List CE) := [[(0, .aload_n 0, 1, 0, 0, 0, 0), (1, .iload_n 1, 1, 0, 0, 0, 0), (2, .bipush 15, 2, 0, 0, 0, 0), (4, .iload_n 2, 1, 0, 0, 0, 0), (5, .iadd, 1, 0, 0, 0, 0), (6, .invokevirtual 209, 3, 198, 3, 10, 0), (9, .iconst 1, 1, 0, 0, 0, 0), (10, .isub, 1, 0, 0, 0, 0), (11, .ireturn, 1, 0, 0, 0, 0)]]
/-- ClosedRoomsModel.isPage(I)Z -/
def cd_211 : List (List CE) := [[(0, .aload_n 0, 1, 0, 0, 0, 0), (1, .getfield 199, 3, 10, 11, 11, 0), (4, .ifCond .eq 23, 3, 0, 0, 0, 0), (7, .iload_n 1, 1, 0, 0, 0, 0), (8, .iconst 0, 1, 0, 0, 0, 0), (9, .aload_n 0, 1, 0, 0, 0, 0), (10, .getfield 16, 3, 10, 10, 10, 0), (13, .iconst 0, 1, 0, 0, 0, 0), (14, .iaload, 1, 0, 0, 0, 0), (15, .iconst 1, 1, 0, 0, 0, 0)],
  [(16, .isub, 1, 0, 0, 0, 0), (17, .invokestatic 54, 3, 168, 3, 10, 0), (20, .ifCond .eq 7, 3, 0, 0, 0, 0), (23, .iconst 1, 1, 0, 0, 0, 0), (24, .goto 4, 3, 0, 0, 0, 0), (27, .iconst 0, 1, 0, 0, 0, 0), (28, .ireturn, 1, 0, 0, 0, 0)]]
/-- ClosedRoomsModel.isPageOf(III)Z -/
def cd_212 : List (List CE) := [[(0, .aload_n 0, 1, 0, 0, 0, 0), (1, .iload_n 1, 1, 0, 0, 0, 0), (2, .invokevirtual 203, 3, 211, 2, 10, 0), (5, .ifCond .eq 47, 3, 0, 0, 0, 0), (8, .aload_n 0, 1, 0, 0, 0, 0), (9, .iload_n 1, 1, 0, 0, 0, 0), (10, .iconst 0, 1, 0, 0, 0, 0), (11, .invokevirtual 206, 3, 196, 3, 10, 0), (14, .iconst 2, 1, 0, 0, 0, 0), (15, .if_icmp .eq 13, 3, 0, 0, 0, 0)],
  [(18, .aload_n 0, 1, 0, 0, 0, 0), (19, .iload_n 1, 1, 0, 0, 0, 0), (20, .iconst 0, 1, 0, 0, 0, 0), (21, .invokevirtual 206, 3, 196, 3, 10, 0), (24, .iconst 3, 1, 0, 0, 0, 0), (25, .if_icmp .ne 27, 3, 0, 0, 0, 0), (28, .aload_n 0, 1, 0, 0, 0, 0), (29, .iload_n 1, 1, 0, 0, 0, 0), (30, .iconst 1, 1, 0, 0, 0, 0), (31, .invokevirtual 206, 3, 196, 3, 10, 0)],
  [(34, .iload_n 2, 1, 0, 0, 0, 0), (35, .if_icmp .ne 17, 3, 0, 0, 0, 0), (38, .aload_n 0, 1, 0, 0, 0, 0), (39, .iload_n 1, 1, 0, 0, 0, 0), (40, .iconst 2, 1, 0, 0, 0, 0), (41, .invokevirtual 206, 3, 196, 3, 10, 0), (44, .iload_n 3, 1, 0, 0, 0, 0), (45, .if_icmp .ne 7, 3, 0, 0, 0, 0)],
  [(48, .iconst 1, 1, 0, 0, 0, 0), (49, .goto 4, 3, 0, 0, 0, 0), (52, .iconst 0, 1, 0, 0, 0, 0), (53, .ireturn, 1, 0, 0, 0, 0)]]
/-- ClosedRoomsModel.whyEnter(IIII)I -/
def cd_213 : List (List CE) := [[(0, .aload_n 0, 1, 0, 0, 0, 0), (1, .iload_n 1, 1, 0, 0, 0, 0), (2, .invokevirtual 261, 3, 207, 2, 10, 0), (5, .ifCond .eq 11, 3, 0, 0, 0, 0), (8, .aload_n 0, 1, 0, 0, 0, 0), (9, .iload_n 2, 1, 0, 0, 0, 0), (10, .invokevirtual 252, 3, 201, 2, 10, 0), (13, .ifCond .ne 5, 3, 0, 0, 0, 0)],
  [(16, .iconst 0, 1, 0, 0, 0, 0), (17, .ireturn, 1, 0, 0, 0, 0), (18, .aload_n 0, 1, 0, 0, 0, 0), (19, .iload_n 2, 1, 0, 0, 0, 0), (20, .iload_n 3, 1, 0, 0, 0, 0), (21, .invokevirtual 255, 3, 202, 3, 10, 0), (24, .ifCond .ne 5, 3, 0, 0, 0, 0), (27, .iconst 1, 1, 0, 0, 0, 0), (28, .ireturn, 1, 0, 0, 0, 0), (29, .aload_n 0, 1, 0, 0, 0, 0), (30, .iload_n 1, 1, 0, 0, 0, 0), (31, .invokevirtual 264, 3, 209, 2, 10, 0)],
  [(34, .ifCond .ne 21, 3, 0, 0, 0, 0), (37, .aload_n 0, 1, 0, 0, 0, 0), (38, .iload_n 2, 1, 0, 0, 0, 0), (39, .iconst 3, 1, 0, 0, 0, 0), (40, .invokevirtual 209, 3, 198, 3, 10, 0), (43, .iconst 2, 1, 0, 0, 0, 0), (44, .if_icmp .ne 11, 3, 0, 0, 0, 0), (47, .aload_n 0, 1, 0, 0, 0, 0)],
  [(48, .iload_n 2, 1, 0, 0, 0, 0), (49, .invokevirtual 258, 3, 203, 2, 10, 0), (52, .ifCond .eq 5, 3, 0, 0, 0, 0), (55, .iconst 2, 1, 0, 0, 0, 0), (56, .ireturn, 1, 0, 0, 0, 0), (57, .aload_n 0, 1, 0, 0, 0, 0), (58, .iload_n 2, 1, 0, 0, 0, 0), (59, .iload_n 3, 1, 0, 0, 0, 0), (60, .invokevirtual 267, 3, 210, 3, 10, 0), (63, .istore 5, 2, 0, 0, 0, 0)],
  [(65, .aload_n 0, 1, 0, 0, 0, 0), (66, .iload 5, 2, 0, 0, 0, 0), (68, .iload_n 2, 1, 0, 0, 0, 0), (69, .iload_n 3, 1, 0, 0, 0, 0), (70, .invokevirtual 243, 3, 212, 4, 10, 0), (73, .ifCond .ne 5, 3, 0, 0, 0, 0), (76, .iconst 4, 1, 0, 0, 0, 0), (77, .ireturn, 1, 0, 0, 0, 0), (78, .aload_n 0, 1, 0, 0, 0, 0), (79, .iload 5, 2, 0, 0, 0, 0)],
  [(81, .iconst 0, 1, 0, 0, 0, 0), (82, .invokevirtual 206, 3, 196, 3, 10, 0), (85, .iconst 3, 1, 0, 0, 0, 0), (86, .if_icmp .ne 16, 3, 0, 0, 0, 0), (89, .aload_n 0, 1, 0, 0, 0, 0), (90, .iload 5, 2, 0, 0, 0, 0), (92, .bipush 6, 2, 0, 0, 0, 0), (94, .invokevirtual 206, 3, 196, 3, 10, 0)],
  [(97, .iload 4, 2, 0, 0, 0, 0), (99, .if_icmp .eq 5, 3, 0, 0, 0, 0), (102, .iconst 2, 1, 0, 0, 0, 0), (103, .ireturn, 1, 0, 0, 0, 0), (104, .aload_n 0, 1, 0, 0, 0, 0), (105, .iload 5, 2, 0, 0, 0, 0), (107, .iconst 5, 1, 0, 0, 0, 0), (108, .invokevirtual 206, 3, 196, 3, 10, 0), (111, .iconst (-1), 1, 0, 0, 0, 0)],
  [(112, .if_icmp .eq 7, 3, 0, 0, 0, 0), (115, .iconst 4, 1, 0, 0, 0, 0), (116, .goto 4, 3, 0, 0, 0, 0), (119, .iconst (-1), 1, 0, 0, 0, 0), (120, .ireturn, 1, 0, 0, 0, 0)]]
/-- ClosedRoomsModel.whyLeave(I)I -/
def cd_214 : List (List CE) := [[(0, .aload_n 0, 1, 0, 0, 0, 0), (1, .iload_n 1, 1, 0, 0, 0, 0), (2, .invokevirtual 261, 3, 207, 2, 10, 0), (5, .ifCond .ne 7, 3, 0, 0, 0, 0), (8, .iconst 0, 1, 0, 0, 0, 0), (9, .goto 16, 3, 0, 0, 0, 0), (12, .aload_n 0, 1, 0, 0, 0, 0), (13, .iload_n 1, 1, 0, 0, 0, 0), (14, .invokevirtual 264, 3, 209, 2, 10, 0)],
  [(17, .ifCond .ne 7, 3, 0, 0, 0, 0), (20, .iconst 2, 1, 0, 0, 0, 0), (21, .goto 4, 3, 0, 0, 0, 0), (24, .iconst (-1), 1, 0, 0, 0, 0), (25, .ireturn, 1, 0, 0, 0, 0)]]
/-- ClosedRoomsModel.sightOf(II)I -/
def cd_215 : List (List CE) := [[(0, .iconst 0, 1, 0, 0, 0, 0), (1, .istore_n 3, 1, 0, 0, 0, 0), (2, .iload_n 3, 1, 0, 0, 0, 0), (3, .aload_n 0, 1, 0, 0, 0, 0), (4, .iload_n 1, 1, 0, 0, 0, 0), (5, .iconst 4, 1, 0, 0, 0, 0), (6, .invokevirtual 212, 3, 208, 3, 10, 0), (9, .if_icmp .ge 25, 3, 0, 0, 0, 0), (12, .aload_n 0, 1, 0, 0, 0, 0), (13, .iload_n 1, 1, 0, 0, 0, 0), (14, .iconst 5, 1, 0, 0, 0, 0), (15, .iconst 2, 1, 0, 0, 0, 0)],
  [(16, .iload_n 3, 1, 0, 0, 0, 0), (17, .imul, 1, 0, 0, 0, 0), (18, .iadd, 1, 0, 0, 0, 0), (19, .invokevirtual 212, 3, 208, 3, 10, 0), (22, .iload_n 2, 1, 0, 0, 0, 0), (23, .if_icmp .ne 5, 3, 0, 0, 0, 0), (26, .iload_n 3, 1, 0, 0, 0, 0), (27, .ireturn, 1, 0, 0, 0, 0), (28, .iinc 3 1, 3, 0, 0, 0, 0), (31, .goto (-29), 3, 0, 0, 0, 0)],
  [(34, .iconst (-1), 1, 0, 0, 0, 0), (35, .ireturn, 1, 0, 0, 0, 0)]]
/-- ClosedRoomsModel.touched(II)I -/
def cd_216 : List (List CE) := [[(0, .aload_n 0, 1, 0, 0, 0, 0), (1, .iload_n 1, 1, 0, 0, 0, 0), (2, .iload_n 2, 1, 0, 0, 0, 0), (3, .invokevirtual 270, 3, 215, 3, 10, 0), (6, .istore_n 3, 1, 0, 0, 0, 0), (7, .iload_n 3, 1, 0, 0, 0, 0), (8, .iconst (-1), 1, 0, 0, 0, 0), (9, .if_icmp .ne 17, 3, 0, 0, 0, 0), (12, .aload_n 0, 1, 0, 0, 0, 0), (13, .aload_n 0, 1, 0, 0, 0, 0), (14, .iload_n 1, 1, 0, 0, 0, 0), (15, .iconst 1, 1, 0, 0, 0, 0)],
  [(16, .invokevirtual 212, 3, 208, 3, 10, 0), (19, .iload_n 2, 1, 0, 0, 0, 0), (20, .invokevirtual 267, 3, 210, 3, 10, 0), (23, .goto 15, 3, 0, 0, 0, 0), (26, .aload_n 0, 1, 0, 0, 0, 0), (27, .iload_n 1, 1, 0, 0, 0, 0), (28, .iconst 5, 1, 0, 0, 0, 0), (29, .iconst 2, 1, 0, 0, 0, 0), (30, .iload_n 3, 1, 0, 0, 0, 0), (31, .imul, 1, 0, 0, 0, 0)],
  [(32, .iadd, 1, 0, 0, 0, 0), (33, .iconst 1, 1, 0, 0, 0, 0), (34, .iadd, 1, 0, 0, 0, 0), (35, .invokevirtual 212, 3, 208, 3, 10, 0), (38, .ireturn, 1, 0, 0, 0, 0)]]
/-- ClosedRoomsModel.whyTouch(III)I -/
def cd_217 : List (List CE) := [[(0, .aload_n 0, 1, 0, 0, 0, 0), (1, .iload_n 1, 1, 0, 0, 0, 0), (2, .invokevirtual 261, 3, 207, 2, 10, 0), (5, .ifCond .ne 5, 3, 0, 0, 0, 0), (8, .iconst 0, 1, 0, 0, 0, 0), (9, .ireturn, 1, 0, 0, 0, 0), (10, .iload_n 2, 1, 0, 0, 0, 0), (11, .iconst 0, 1, 0, 0, 0, 0), (12, .bipush 7, 2, 0, 0, 0, 0), (14, .invokestatic 54, 3, 168, 3, 10, 0)],
  [(17, .ifCond .eq 12, 3, 0, 0, 0, 0), (20, .iload_n 3, 1, 0, 0, 0, 0), (21, .iconst 0, 1, 0, 0, 0, 0), (22, .iconst 2, 1, 0, 0, 0, 0), (23, .invokestatic 54, 3, 168, 3, 10, 0), (26, .ifCond .ne 5, 3, 0, 0, 0, 0), (29, .iconst 1, 1, 0, 0, 0, 0), (30, .ireturn, 1, 0, 0, 0, 0), (31, .aload_n 0, 1, 0, 0, 0, 0)],
  [(32, .iload_n 1, 1, 0, 0, 0, 0), (33, .invokevirtual 264, 3, 209, 2, 10, 0), (36, .ifCond .eq 17, 3, 0, 0, 0, 0), (39, .aload_n 0, 1, 0, 0, 0, 0), (40, .aload_n 0, 1, 0, 0, 0, 0), (41, .iload_n 1, 1, 0, 0, 0, 0), (42, .iconst 1, 1, 0, 0, 0, 0), (43, .invokevirtual 212, 3, 208, 3, 10, 0), (46, .iload_n 2, 1, 0, 0, 0, 0), (47, .invokevirtual 255, 3, 202, 3, 10, 0)],
  [(50, .ifCond .ne 5, 3, 0, 0, 0, 0), (53, .iconst 2, 1, 0, 0, 0, 0), (54, .ireturn, 1, 0, 0, 0, 0), (55, .aload_n 0, 1, 0, 0, 0, 0), (56, .iload_n 1, 1, 0, 0, 0, 0), (57, .iload_n 2, 1, 0, 0, 0, 0), (58, .invokevirtual 273, 3, 216, 3, 10, 0), (61, .istore 4, 2, 0, 0, 0, 0), (63, .aload_n 0, 1, 0, 0, 0, 0)],
  [(64, .iload_n 1, 1, 0, 0, 0, 0), (65, .iload_n 2, 1, 0, 0, 0, 0), (66, .invokevirtual 270, 3, 215, 3, 10, 0), (69, .iconst (-1), 1, 0, 0, 0, 0), (70, .if_icmp .ne 41, 3, 0, 0, 0, 0), (73, .aload_n 0, 1, 0, 0, 0, 0), (74, .iload 4, 2, 0, 0, 0, 0), (76, .aload_n 0, 1, 0, 0, 0, 0), (77, .iload_n 1, 1, 0, 0, 0, 0), (78, .iconst 1, 1, 0, 0, 0, 0), (79, .invokevirtual 212, 3, 208, 3, 10, 0)],
  [(82, .iload_n 2, 1, 0, 0, 0, 0), (83, .invokevirtual 243, 3, 212, 4, 10, 0), (86, .ifCond .eq 29, 3, 0, 0, 0, 0), (89, .aload_n 0, 1, 0, 0, 0, 0), (90, .iload 4, 2, 0, 0, 0, 0), (92, .iconst 5, 1, 0, 0, 0, 0), (93, .invokevirtual 206, 3, 196, 3, 10, 0)],
  [(96, .iconst (-1), 1, 0, 0, 0, 0), (97, .if_icmp .ne 18, 3, 0, 0, 0, 0), (100, .aload_n 0, 1, 0, 0, 0, 0), (101, .iload 4, 2, 0, 0, 0, 0), (103, .iconst 0, 1, 0, 0, 0, 0), (104, .invokevirtual 206, 3, 196, 3, 10, 0), (107, .iconst 2, 1, 0, 0, 0, 0), (108, .if_icmp .ne 7, 3, 0, 0, 0, 0), (111, .iconst 1, 1, 0, 0, 0, 0)],
  [(112, .goto 4, 3, 0, 0, 0, 0), (115, .iconst 0, 1, 0, 0, 0, 0), (116, .istore 5, 2, 0, 0, 0, 0), (118, .iload 5, 2, 0, 0, 0, 0), (120, .ifCond .eq 21, 3, 0, 0, 0, 0), (123, .aload_n 0, 1, 0, 0, 0, 0), (124, .iload 4, 2, 0, 0, 0, 0), (126, .iconst 3, 1, 0, 0, 0, 0), (127, .invokevirtual 206, 3, 196, 3, 10, 0)],
  [(130, .iload_n 3, 1, 0, 0, 0, 0), (131, .invokestatic 173, 3, 180, 2, 10, 0), (134, .ifCond .eq 7, 3, 0, 0, 0, 0), (137, .iconst (-1), 1, 0, 0, 0, 0), (138, .goto 4, 3, 0, 0, 0, 0), (141, .iconst 4, 1, 0, 0, 0, 0), (142, .ireturn, 1, 0, 0, 0, 0)]]
/-- ClosedRoomsModel.isUsed(I)Z -/
def cd_218 : List (List CE) := [[(0, .aload_n 0, 1, 0, 0, 0, 0), (1, .iload_n 1, 1, 0, 0, 0, 0), (2, .invokevirtual 203, 3, 211, 2, 10, 0), (5, .ifCond .eq 16, 3, 0, 0, 0, 0), (8, .aload_n 0, 1, 0, 0, 0, 0), (9, .iload_n 1, 1, 0, 0, 0, 0), (10, .iconst 0, 1, 0, 0, 0, 0), (11, .invokevirtual 206, 3, 196, 3, 10, 0), (14, .ifCond .eq 7, 3, 0, 0, 0, 0)],
  [(17, .iconst 1, 1, 0, 0, 0, 0), (18, .goto 4, 3, 0, 0, 0, 0), (21, .iconst 0, 1, 0, 0, 0, 0), (22, .ireturn, 1, 0, 0, 0, 0)]]
/-- ClosedRoomsModel.isMoving(I)Z -/
def cd_219 : List (List CE) := [[(0, .aload_n 0, 1, 0, 0, 0, 0), (1, .iload_n 1, 1, 0, 0, 0, 0), (2, .iconst 0, 1, 0, 0, 0, 0), (3, .invokevirtual 206, 3, 196, 3, 10, 0), (6, .iconst 2, 1, 0, 0, 0, 0), (7, .if_icmp .eq 13, 3, 0, 0, 0, 0), (10, .aload_n 0, 1, 0, 0, 0, 0), (11, .iload_n 1, 1, 0, 0, 0, 0), (12, .iconst 0, 1, 0, 0, 0, 0), (13, .invokevirtual 206, 3, 196, 3, 10, 0)],
  [(16, .iconst 3, 1, 0, 0, 0, 0), (17, .if_icmp .ne 7, 3, 0, 0, 0, 0), (20, .iconst 1, 1, 0, 0, 0, 0), (21, .goto 4, 3, 0, 0, 0, 0), (24, .iconst 0, 1, 0, 0, 0, 0), (25, .ireturn, 1, 0, 0, 0, 0)]]
/-- ClosedRoomsModel.whyBlock(I)I -/
def cd_220 : List (List CE) := [[(0, .aload_n 0, 1, 0, 0, 0, 0), (1, .iload_n 1, 1, 0, 0, 0, 0), (2, .invokevirtual 276, 3, 218, 2, 10, 0), (5, .ifCond .ne 7, 3, 0, 0, 0, 0), (8, .iconst 0, 1, 0, 0, 0, 0), (9, .goto 39, 3, 0, 0, 0, 0), (12, .aload_n 0, 1, 0, 0, 0, 0), (13, .iload_n 1, 1, 0, 0, 0, 0), (14, .invokevirtual 279, 3, 219, 2, 10, 0)],
  [(17, .ifCond .eq 26, 3, 0, 0, 0, 0), (20, .aload_n 0, 1, 0, 0, 0, 0), (21, .iload_n 1, 1, 0, 0, 0, 0), (22, .iconst 5, 1, 0, 0, 0, 0), (23, .invokevirtual 206, 3, 196, 3, 10, 0), (26, .iconst (-1), 1, 0, 0, 0, 0), (27, .if_icmp .ne 16, 3, 0, 0, 0, 0), (30, .aload_n 0, 1, 0, 0, 0, 0), (31, .aload_n 0, 1, 0, 0, 0, 0)],
  [(32, .iload_n 1, 1, 0, 0, 0, 0), (33, .iconst 1, 1, 0, 0, 0, 0), (34, .invokevirtual 206, 3, 196, 3, 10, 0), (37, .invokevirtual 258, 3, 203, 2, 10, 0), (40, .ifCond .eq 7, 3, 0, 0, 0, 0), (43, .iconst 2, 1, 0, 0, 0, 0), (44, .goto 4, 3, 0, 0, 0, 0), (47, .iconst (-1), 1, 0, 0, 0, 0)],
  [(48, .ireturn, 1, 0, 0, 0, 0)]]
/-- ClosedRoomsModel.insideSince(II)I -/
def cd_221 : List (List CE) := [[(0, .iconst 0, 1, 0, 0, 0, 0), (1, .istore_n 3, 1, 0, 0, 0, 0), (2, .iconst 0, 1, 0, 0, 0, 0), (3, .istore 4, 2, 0, 0, 0, 0), (5, .iload 4, 2, 0, 0, 0, 0), (7, .aload_n 0, 1, 0, 0, 0, 0), (8, .getfield 16, 3, 10, 10, 10, 0), (11, .iconst 1, 1, 0, 0, 0, 0), (12, .iaload, 1, 0, 0, 0, 0), (13, .if_icmp .ge 42, 3, 0, 0, 0, 0)],
  [(16, .iload_n 3, 1, 0, 0, 0, 0), (17, .aload_n 0, 1, 0, 0, 0, 0), (18, .iload 4, 2, 0, 0, 0, 0), (20, .iconst 1, 1, 0, 0, 0, 0), (21, .invokevirtual 212, 3, 208, 3, 10, 0), (24, .iload_n 1, 1, 0, 0, 0, 0), (25, .if_icmp .ne 21, 3, 0, 0, 0, 0), (28, .aload_n 0, 1, 0, 0, 0, 0), (29, .iload 4, 2, 0, 0, 0, 0), (31, .iconst 3, 1, 0, 0, 0, 0)],
  [(32, .invokevirtual 212, 3, 208, 3, 10, 0), (35, .iload_n 2, 1, 0, 0, 0, 0), (36, .if_icmp .gt 10, 3, 0, 0, 0, 0), (39, .iconst 1, 1, 0, 0, 0, 0), (40, .iload 4, 2, 0, 0, 0, 0), (42, .ishl, 1, 0, 0, 0, 0), (43, .goto 4, 3, 0, 0, 0, 0), (46, .iconst 0, 1, 0, 0, 0, 0), (47, .ior, 1, 0, 0, 0, 0)],
  [(48, .istore_n 3, 1, 0, 0, 0, 0), (49, .iinc 4 1, 3, 0, 0, 0, 0), (52, .goto (-47), 3, 0, 0, 0, 0), (55, .iload_n 3, 1, 0, 0, 0, 0), (56, .ireturn, 1, 0, 0, 0, 0)]]
/-- ClosedRoomsModel.whyTrack(I)I -/
def cd_222 : List (List CE) := [[(0, .aload_n 0, 1, 0, 0, 0, 0), (1, .iload_n 1, 1, 0, 0, 0, 0), (2, .invokevirtual 252, 3, 201, 2, 10, 0), (5, .ifCond .ne 7, 3, 0, 0, 0, 0), (8, .iconst 0, 1, 0, 0, 0, 0), (9, .goto 32, 3, 0, 0, 0, 0), (12, .aload_n 0, 1, 0, 0, 0, 0), (13, .iload_n 1, 1, 0, 0, 0, 0), (14, .invokevirtual 258, 3, 203, 2, 10, 0)],
  [(17, .ifCond .ne 19, 3, 0, 0, 0, 0), (20, .aload_n 0, 1, 0, 0, 0, 0), (21, .iload_n 1, 1, 0, 0, 0, 0), (22, .aload_n 0, 1, 0, 0, 0, 0), (23, .iload_n 1, 1, 0, 0, 0, 0), (24, .iconst 5, 1, 0, 0, 0, 0), (25, .invokevirtual 209, 3, 198, 3, 10, 0), (28, .iconst 1, 1, 0, 0, 0, 0), (29, .isub, 1, 0, 0, 0, 0), (30, .invokevirtual 282, 3, 221, 3, 10, 0)],
  [(33, .ifCond .eq 7, 3, 0, 0, 0, 0), (36, .iconst 2, 1, 0, 0, 0, 0), (37, .goto 4, 3, 0, 0, 0, 0), (40, .iconst (-1), 1, 0, 0, 0, 0), (41, .ireturn, 1, 0, 0, 0, 0)]]
/-- ClosedRoomsModel.areSlots(I)Z -/
def cd_223 : List (List CE) := [[(0, .aload_n 0, 1, 0, 0, 0, 0), (1, .iload_n 1, 1, 0, 0, 0, 0), (2, .invokevirtual 203, 3, 211, 2, 10, 0), (5, .ifCond .eq 17, 3, 0, 0, 0, 0), (8, .aload_n 0, 1, 0, 0, 0, 0), (9, .iload_n 1, 1, 0, 0, 0, 0), (10, .iconst 0, 1, 0, 0, 0, 0), (11, .invokevirtual 206, 3, 196, 3, 10, 0), (14, .iconst 4, 1, 0, 0, 0, 0), (15, .if_icmp .ne 7, 3, 0, 0, 0, 0)],
  [(18, .iconst 1, 1, 0, 0, 0, 0), (19, .goto 4, 3, 0, 0, 0, 0), (22, .iconst 0, 1, 0, 0, 0, 0), (23, .ireturn, 1, 0, 0, 0, 0)]]
/-- ClosedRoomsModel.pagesOf(IZ)I -/
def cd_224 : List (List CE) := [[(0, .iconst 0, 1, 0, 0, 0, 0), (1, .istore_n 3, 1, 0, 0, 0, 0), (2, .iconst 0, 1, 0, 0, 0, 0), (3, .istore 4, 2, 0, 0, 0, 0), (5, .iload 4, 2, 0, 0, 0, 0), (7, .aload_n 0, 1, 0, 0, 0, 0), (8, .getfield 16, 3, 10, 10, 10, 0), (11, .iconst 0, 1, 0, 0, 0, 0), (12, .iaload, 1, 0, 0, 0, 0), (13, .if_icmp .ge 53, 3, 0, 0, 0, 0)],
  [(16, .iload_n 3, 1, 0, 0, 0, 0), (17, .aload_n 0, 1, 0, 0, 0, 0), (18, .iload 4, 2, 0, 0, 0, 0), (20, .iconst 0, 1, 0, 0, 0, 0), (21, .invokevirtual 206, 3, 196, 3, 10, 0), (24, .ifCond .eq 33, 3, 0, 0, 0, 0), (27, .aload_n 0, 1, 0, 0, 0, 0), (28, .iload 4, 2, 0, 0, 0, 0), (30, .iconst 1, 1, 0, 0, 0, 0), (31, .invokevirtual 206, 3, 196, 3, 10, 0)],
  [(34, .iload_n 1, 1, 0, 0, 0, 0), (35, .if_icmp .ne 22, 3, 0, 0, 0, 0), (38, .iload_n 2, 1, 0, 0, 0, 0), (39, .ifCond .ne 14, 3, 0, 0, 0, 0), (42, .aload_n 0, 1, 0, 0, 0, 0), (43, .iload 4, 2, 0, 0, 0, 0), (45, .iconst 0, 1, 0, 0, 0, 0), (46, .invokevirtual 206, 3, 196, 3, 10, 0)],
  [(49, .iconst 1, 1, 0, 0, 0, 0), (50, .if_icmp .eq 7, 3, 0, 0, 0, 0), (53, .iconst 1, 1, 0, 0, 0, 0), (54, .goto 4, 3, 0, 0, 0, 0), (57, .iconst 0, 1, 0, 0, 0, 0), (58, .iadd, 1, 0, 0, 0, 0), (59, .istore_n 3, 1, 0, 0, 0, 0), (60, .iinc 4 1, 3, 0, 0, 0, 0), (63, .goto (-58), 3, 0, 0, 0, 0)],
  [(66, .iload_n 3, 1, 0, 0, 0, 0), (67, .ireturn, 1, 0, 0, 0, 0)]]
/-- ClosedRoomsModel.canGo(I)Z -/
def cd_225 : List (List CE) := [[(0, .aload_n 0, 1, 0, 0, 0, 0), (1, .iload_n 1, 1, 0, 0, 0, 0), (2, .iconst 1, 1, 0, 0, 0, 0), (3, .invokevirtual 206, 3, 196, 3, 10, 0), (6, .istore_n 2, 1, 0, 0, 0, 0), (7, .aload_n 0, 1, 0, 0, 0, 0), (8, .iload_n 1, 1, 0, 0, 0, 0), (9, .iconst 0, 1, 0, 0, 0, 0), (10, .invokevirtual 206, 3, 196, 3, 10, 0), (13, .iconst 1, 1, 0, 0, 0, 0), (14, .if_icmp .ne 18, 3, 0, 0, 0, 0)],
  [(17, .aload_n 0, 1, 0, 0, 0, 0), (18, .iload_n 2, 1, 0, 0, 0, 0), (19, .iconst 0, 1, 0, 0, 0, 0), (20, .invokevirtual 285, 3, 224, 3, 10, 0), (23, .ifCond .ne 7, 3, 0, 0, 0, 0), (26, .iconst 1, 1, 0, 0, 0, 0), (27, .goto 4, 3, 0, 0, 0, 0), (30, .iconst 0, 1, 0, 0, 0, 0), (31, .ireturn, 1, 0, 0, 0, 0)],
  [(32, .aload_n 0, 1, 0, 0, 0, 0), (33, .iload_n 1, 1, 0, 0, 0, 0), (34, .invokevirtual 279, 3, 219, 2, 10, 0), (37, .ifCond .eq 24, 3, 0, 0, 0, 0), (40, .aload_n 0, 1, 0, 0, 0, 0), (41, .iload_n 1, 1, 0, 0, 0, 0), (42, .iconst 0, 1, 0, 0, 0, 0), (43, .invokevirtual 206, 3, 196, 3, 10, 0), (46, .iconst 3, 1, 0, 0, 0, 0), (47, .if_icmp .ne 16, 3, 0, 0, 0, 0)],
  [(50, .aload_n 0, 1, 0, 0, 0, 0), (51, .iload_n 1, 1, 0, 0, 0, 0), (52, .bipush 6, 2, 0, 0, 0, 0), (54, .invokevirtual 206, 3, 196, 3, 10, 0), (57, .iconst 1, 1, 0, 0, 0, 0), (58, .if_icmp .ne 5, 3, 0, 0, 0, 0), (61, .iconst 0, 1, 0, 0, 0, 0), (62, .ireturn, 1, 0, 0, 0, 0), (63, .aload_n 0, 1, 0, 0, 0, 0)],
  [(64, .iload_n 1, 1, 0, 0, 0, 0), (65, .iconst 5, 1, 0, 0, 0, 0), (66, .invokevirtual 206, 3, 196, 3, 10, 0), (69, .istore_n 3, 1, 0, 0, 0, 0), (70, .iload_n 3, 1, 0, 0, 0, 0), (71, .iconst (-1), 1, 0, 0, 0, 0), (72, .if_icmp .eq 26, 3, 0, 0, 0, 0), (75, .iload_n 3, 1, 0, 0, 0, 0), (76, .aload_n 0, 1, 0, 0, 0, 0), (77, .iload_n 2, 1, 0, 0, 0, 0), (78, .iconst 5, 1, 0, 0, 0, 0), (79, .invokevirtual 209, 3, 198, 3, 10, 0)],
  [(82, .if_icmp .ge 16, 3, 0, 0, 0, 0), (85, .aload_n 0, 1, 0, 0, 0, 0), (86, .iload_n 2, 1, 0, 0, 0, 0), (87, .iload_n 3, 1, 0, 0, 0, 0), (88, .invokevirtual 282, 3, 221, 3, 10, 0), (91, .ifCond .ne 7, 3, 0, 0, 0, 0), (94, .iconst 1, 1, 0, 0, 0, 0), (95, .goto 4, 3, 0, 0, 0, 0)],
  [(98, .iconst 0, 1, 0, 0, 0, 0), (99, .ireturn, 1, 0, 0, 0, 0)]]
/-- ClosedRoomsModel.ofCopy(II)I -/
def cd_226 : List (List CE) := [[(0, .aload_n 0, 1, 0, 0, 0, 0), (1, .getfield 25, 3, 10, 15, 15, 0), (4, .sipush 235, 3, 0, 0, 0, 0), (7, .bipush 9, 2, 0, 0, 0, 0), (9, .iload_n 1, 1, 0, 0, 0, 0), (10, .imul, 1, 0, 0, 0, 0), (11, .iadd, 1, 0, 0, 0, 0), (12, .iload_n 2, 1, 0, 0, 0, 0), (13, .iadd, 1, 0, 0, 0, 0), (14, .iaload, 1, 0, 0, 0, 0), (15, .ireturn, 1, 0, 0, 0, 0)]]
/-- ClosedRoomsModel.freePlace()I -/
def cd_227 : List (List CE) := [[(0, .iconst 0, 1, 0, 0, 0, 0), (1, .istore_n 1, 1, 0, 0, 0, 0), (2, .iload_n 1, 1, 0, 0, 0, 0), (3, .bipush 12, 2, 0, 0, 0, 0), (5, .if_icmp .ge 20, 3, 0, 0, 0, 0), (8, .aload_n 0, 1, 0, 0, 0, 0), (9, .iload_n 1, 1, 0, 0, 0, 0), (10, .iconst 0, 1, 0, 0, 0, 0), (11, .invokevirtual 215, 3, 226, 3, 10, 0), (14, .ifCond .ne 5, 3, 0, 0, 0, 0)],
  [(17, .iload_n 1, 1, 0, 0, 0, 0), (18, .ireturn, 1, 0, 0, 0, 0), (19, .iinc 1 1, 3, 0, 0, 0, 0), (22, .goto (-20), 3, 0, 0, 0, 0), (25, .iconst (-1), 1, 0, 0, 0, 0), (26, .ireturn, 1, 0, 0, 0, 0)]]
/-- ClosedRoomsModel.whyEvict(III)I -/
def cd_228 : List (List CE) := [[(0, .aload_n 0, 1, 0, 0, 0, 0), (1, .iload_n 1, 1, 0, 0, 0, 0), (2, .invokevirtual 276, 3, 218, 2, 10, 0), (5, .ifCond .eq 11, 3, 0, 0, 0, 0), (8, .aload_n 0, 1, 0, 0, 0, 0), (9, .iload_n 2, 1, 0, 0, 0, 0), (10, .invokevirtual 289, 3, 223, 2, 10, 0), (13, .ifCond .ne 5, 3, 0, 0, 0, 0)],
  [(16, .iconst 0, 1, 0, 0, 0, 0), (17, .ireturn, 1, 0, 0, 0, 0), (18, .iload_n 3, 1, 0, 0, 0, 0), (19, .iconst 0, 1, 0, 0, 0, 0), (20, .iconst 3, 1, 0, 0, 0, 0), (21, .invokestatic 54, 3, 168, 3, 10, 0), (24, .ifCond .ne 5, 3, 0, 0, 0, 0), (27, .iconst 1, 1, 0, 0, 0, 0), (28, .ireturn, 1, 0, 0, 0, 0), (29, .aload_n 0, 1, 0, 0, 0, 0), (30, .iload_n 1, 1, 0, 0, 0, 0), (31, .invokevirtual 292, 3, 225, 2, 10, 0)],
  [(34, .ifCond .eq 15, 3, 0, 0, 0, 0), (37, .aload_n 0, 1, 0, 0, 0, 0), (38, .iload_n 2, 1, 0, 0, 0, 0), (39, .bipush 7, 2, 0, 0, 0, 0), (41, .iload_n 3, 1, 0, 0, 0, 0), (42, .iadd, 1, 0, 0, 0, 0), (43, .invokevirtual 206, 3, 196, 3, 10, 0), (46, .ifCond .eq 7, 3, 0, 0, 0, 0)],
  [(49, .iconst 2, 1, 0, 0, 0, 0), (50, .goto 16, 3, 0, 0, 0, 0), (53, .aload_n 0, 1, 0, 0, 0, 0), (54, .invokevirtual 295, 3, 227, 1, 10, 0), (57, .iconst (-1), 1, 0, 0, 0, 0), (58, .if_icmp .ne 7, 3, 0, 0, 0, 0), (61, .iconst 3, 1, 0, 0, 0, 0), (62, .goto 4, 3, 0, 0, 0, 0)],
  [(65, .iconst (-1), 1, 0, 0, 0, 0), (66, .ireturn, 1, 0, 0, 0, 0)]]
/-- ClosedRoomsModel.isCopy(I)Z -/
def cd_229 : List (List CE) := [[(0, .aload_n 0, 1, 0, 0, 0, 0), (1, .getfield 199, 3, 10, 11, 11, 0), (4, .ifCond .eq 27, 3, 0, 0, 0, 0), (7, .iload_n 1, 1, 0, 0, 0, 0), (8, .iconst 0, 1, 0, 0, 0, 0), (9, .bipush 11, 2, 0, 0, 0, 0), (11, .invokestatic 54, 3, 168, 3, 10, 0), (14, .ifCond .eq 17, 3, 0, 0, 0, 0)],
  [(17, .aload_n 0, 1, 0, 0, 0, 0), (18, .iload_n 1, 1, 0, 0, 0, 0), (19, .iconst 0, 1, 0, 0, 0, 0), (20, .invokevirtual 215, 3, 226, 3, 10, 0), (23, .iconst 1, 1, 0, 0, 0, 0), (24, .if_icmp .ne 7, 3, 0, 0, 0, 0), (27, .iconst 1, 1, 0, 0, 0, 0), (28, .goto 4, 3, 0, 0, 0, 0), (31, .iconst 0, 1, 0, 0, 0, 0)],
  [(32, .ireturn, 1, 0, 0, 0, 0)]]
/-- ClosedRoomsModel.roomBy(I)I -/
def cd_230 : List (List CE) := [[(0, .iconst 0, 1, 0, 0, 0, 0), (1, .istore_n 2, 1, 0, 0, 0, 0), (2, .iload_n 2, 1, 0, 0, 0, 0), (3, .iconst 4, 1, 0, 0, 0, 0), (4, .if_icmp .ge 29, 3, 0, 0, 0, 0), (7, .aload_n 0, 1, 0, 0, 0, 0), (8, .iload_n 2, 1, 0, 0, 0, 0), (9, .invokevirtual 252, 3, 201, 2, 10, 0), (12, .ifCond .eq 15, 3, 0, 0, 0, 0), (15, .aload_n 0, 1, 0, 0, 0, 0)],
  [(16, .iload_n 2, 1, 0, 0, 0, 0), (17, .iconst 1, 1, 0, 0, 0, 0), (18, .invokevirtual 209, 3, 198, 3, 10, 0), (21, .iload_n 1, 1, 0, 0, 0, 0), (22, .if_icmp .ne 5, 3, 0, 0, 0, 0), (25, .iload_n 2, 1, 0, 0, 0, 0), (26, .ireturn, 1, 0, 0, 0, 0), (27, .iinc 2 1, 3, 0, 0, 0, 0), (30, .goto (-28), 3, 0, 0, 0, 0)],
  [(33, .iconst (-1), 1, 0, 0, 0, 0), (34, .ireturn, 1, 0, 0, 0, 0)]]
/-- ClosedRoomsModel.isTrue(III)Z -/
def cd_231 : List (List CE) := [[(0, .aload_n 0, 1, 0, 0, 0, 0), (1, .aload_n 0, 1, 0, 0, 0, 0), (2, .iload_n 1, 1, 0, 0, 0, 0), (3, .iconst 1, 1, 0, 0, 0, 0), (4, .invokevirtual 215, 3, 226, 3, 10, 0), (7, .invokevirtual 298, 3, 230, 2, 10, 0), (10, .istore 4, 2, 0, 0, 0, 0), (12, .aload_n 0, 1, 0, 0, 0, 0), (13, .iload_n 1, 1, 0, 0, 0, 0), (14, .bipush 8, 2, 0, 0, 0, 0)],
  [(16, .invokevirtual 215, 3, 226, 3, 10, 0), (19, .ifCond .ne 32, 3, 0, 0, 0, 0), (22, .aload_n 0, 1, 0, 0, 0, 0), (23, .iload_n 1, 1, 0, 0, 0, 0), (24, .bipush 7, 2, 0, 0, 0, 0), (26, .invokevirtual 215, 3, 226, 3, 10, 0), (29, .aload_n 0, 1, 0, 0, 0, 0), (30, .iload_n 2, 1, 0, 0, 0, 0), (31, .bipush 7, 2, 0, 0, 0, 0)],
  [(33, .iload_n 3, 1, 0, 0, 0, 0), (34, .iadd, 1, 0, 0, 0, 0), (35, .invokevirtual 206, 3, 196, 3, 10, 0), (38, .if_icmp .ne 13, 3, 0, 0, 0, 0), (41, .iload 4, 2, 0, 0, 0, 0), (43, .iconst (-1), 1, 0, 0, 0, 0), (44, .if_icmp .eq 7, 3, 0, 0, 0, 0), (47, .iconst 1, 1, 0, 0, 0, 0)],
  [(48, .goto 4, 3, 0, 0, 0, 0), (51, .iconst 0, 1, 0, 0, 0, 0), (52, .istore 5, 2, 0, 0, 0, 0), (54, .iload 5, 2, 0, 0, 0, 0), (56, .ifCond .eq 26, 3, 0, 0, 0, 0), (59, .aload_n 0, 1, 0, 0, 0, 0), (60, .iload_n 1, 1, 0, 0, 0, 0), (61, .iconst 3, 1, 0, 0, 0, 0), (62, .invokevirtual 215, 3, 226, 3, 10, 0)],
  [(65, .iconst 1, 1, 0, 0, 0, 0), (66, .if_icmp .eq 12, 3, 0, 0, 0, 0), (69, .aload_n 0, 1, 0, 0, 0, 0), (70, .iload 4, 2, 0, 0, 0, 0), (72, .invokevirtual 258, 3, 203, 2, 10, 0), (75, .ifCond .ne 7, 3, 0, 0, 0, 0), (78, .iconst 1, 1, 0, 0, 0, 0), (79, .goto 4, 3, 0, 0, 0, 0)],
  [(82, .iconst 0, 1, 0, 0, 0, 0), (83, .ireturn, 1, 0, 0, 0, 0)]]
/-- ClosedRoomsModel.whyLoad(III)I -/
def cd_232 : List (List CE) := [[(0, .aload_n 0, 1, 0, 0, 0, 0), (1, .iload_n 1, 1, 0, 0, 0, 0), (2, .invokevirtual 301, 3, 229, 2, 10, 0), (5, .ifCond .eq 11, 3, 0, 0, 0, 0), (8, .aload_n 0, 1, 0, 0, 0, 0), (9, .iload_n 2, 1, 0, 0, 0, 0), (10, .invokevirtual 289, 3, 223, 2, 10, 0), (13, .ifCond .ne 5, 3, 0, 0, 0, 0)],
  [(16, .iconst 0, 1, 0, 0, 0, 0), (17, .ireturn, 1, 0, 0, 0, 0), (18, .iload_n 3, 1, 0, 0, 0, 0), (19, .iconst 0, 1, 0, 0, 0, 0), (20, .iconst 3, 1, 0, 0, 0, 0), (21, .invokestatic 54, 3, 168, 3, 10, 0), (24, .ifCond .ne 7, 3, 0, 0, 0, 0), (27, .iconst 1, 1, 0, 0, 0, 0), (28, .goto 30, 3, 0, 0, 0, 0), (31, .aload_n 0, 1, 0, 0, 0, 0)],
  [(32, .invokevirtual 246, 3, 197, 1, 10, 0), (35, .iconst (-1), 1, 0, 0, 0, 0), (36, .if_icmp .ne 7, 3, 0, 0, 0, 0), (39, .iconst 3, 1, 0, 0, 0, 0), (40, .goto 18, 3, 0, 0, 0, 0), (43, .aload_n 0, 1, 0, 0, 0, 0), (44, .iload_n 1, 1, 0, 0, 0, 0), (45, .iload_n 2, 1, 0, 0, 0, 0), (46, .iload_n 3, 1, 0, 0, 0, 0), (47, .invokevirtual 304, 3, 231, 4, 10, 0)],
  [(50, .ifCond .ne 7, 3, 0, 0, 0, 0), (53, .iconst 4, 1, 0, 0, 0, 0), (54, .goto 4, 3, 0, 0, 0, 0), (57, .iconst (-1), 1, 0, 0, 0, 0), (58, .ireturn, 1, 0, 0, 0, 0)]]
/-- ClosedRoomsModel.emptySlots(I)I -/
def cd_233 : List (List CE) := [[(0, .iconst 0, 1, 0, 0, 0, 0), (1, .istore_n 2, 1, 0, 0, 0, 0), (2, .iconst 0, 1, 0, 0, 0, 0), (3, .istore_n 3, 1, 0, 0, 0, 0), (4, .iload_n 3, 1, 0, 0, 0, 0), (5, .iconst 4, 1, 0, 0, 0, 0), (6, .if_icmp .ge 29, 3, 0, 0, 0, 0), (9, .iload_n 2, 1, 0, 0, 0, 0), (10, .aload_n 0, 1, 0, 0, 0, 0), (11, .iload_n 1, 1, 0, 0, 0, 0), (12, .bipush 7, 2, 0, 0, 0, 0), (14, .iload_n 3, 1, 0, 0, 0, 0), (15, .iadd, 1, 0, 0, 0, 0)],
  [(16, .invokevirtual 206, 3, 196, 3, 10, 0), (19, .ifCond .ne 7, 3, 0, 0, 0, 0), (22, .iconst 1, 1, 0, 0, 0, 0), (23, .goto 4, 3, 0, 0, 0, 0), (26, .iconst 0, 1, 0, 0, 0, 0), (27, .iadd, 1, 0, 0, 0, 0), (28, .istore_n 2, 1, 0, 0, 0, 0), (29, .iinc 3 1, 3, 0, 0, 0, 0)],
  [(32, .goto (-28), 3, 0, 0, 0, 0), (35, .iload_n 2, 1, 0, 0, 0, 0), (36, .ireturn, 1, 0, 0, 0, 0)]]
/-- ClosedRoomsModel.insideOf(I)I -/
def cd_234 : List (List CE) := [[(0, .iconst 0, 1, 0, 0, 0, 0), (1, .istore_n 2, 1, 0, 0, 0, 0), (2, .iconst 0, 1, 0, 0, 0, 0), (3, .istore_n 3, 1, 0, 0, 0, 0), (4, .iload_n 3, 1, 0, 0, 0, 0), (5, .aload_n 0, 1, 0, 0, 0, 0), (6, .getfield 16, 3, 10, 10, 10, 0), (9, .iconst 1, 1, 0, 0, 0, 0), (10, .iaload, 1, 0, 0, 0, 0), (11, .if_icmp .ge 29, 3, 0, 0, 0, 0), (14, .iload_n 2, 1, 0, 0, 0, 0), (15, .aload_n 0, 1, 0, 0, 0, 0)],
  [(16, .iload_n 3, 1, 0, 0, 0, 0), (17, .iconst 1, 1, 0, 0, 0, 0), (18, .invokevirtual 212, 3, 208, 3, 10, 0), (21, .iload_n 1, 1, 0, 0, 0, 0), (22, .if_icmp .ne 9, 3, 0, 0, 0, 0), (25, .iconst 1, 1, 0, 0, 0, 0), (26, .iload_n 3, 1, 0, 0, 0, 0), (27, .ishl, 1, 0, 0, 0, 0), (28, .goto 4, 3, 0, 0, 0, 0), (31, .iconst 0, 1, 0, 0, 0, 0)],
  [(32, .ior, 1, 0, 0, 0, 0), (33, .istore_n 2, 1, 0, 0, 0, 0), (34, .iinc 3 1, 3, 0, 0, 0, 0), (37, .goto (-33), 3, 0, 0, 0, 0), (40, .iload_n 2, 1, 0, 0, 0, 0), (41, .ireturn, 1, 0, 0, 0, 0)]]
/-- ClosedRoomsModel.whyRemove(I)I -/
def cd_235 : List (List CE) := [[(0, .aload_n 0, 1, 0, 0, 0, 0), (1, .iload_n 1, 1, 0, 0, 0, 0), (2, .invokevirtual 276, 3, 218, 2, 10, 0), (5, .ifCond .ne 5, 3, 0, 0, 0, 0), (8, .iconst 0, 1, 0, 0, 0, 0), (9, .ireturn, 1, 0, 0, 0, 0), (10, .aload_n 0, 1, 0, 0, 0, 0), (11, .iload_n 1, 1, 0, 0, 0, 0), (12, .iconst 0, 1, 0, 0, 0, 0), (13, .invokevirtual 206, 3, 196, 3, 10, 0)],
  [(16, .istore_n 2, 1, 0, 0, 0, 0), (17, .iload_n 2, 1, 0, 0, 0, 0), (18, .iconst 4, 1, 0, 0, 0, 0), (19, .if_icmp .ne 18, 3, 0, 0, 0, 0), (22, .aload_n 0, 1, 0, 0, 0, 0), (23, .iload_n 1, 1, 0, 0, 0, 0), (24, .invokevirtual 307, 3, 233, 2, 10, 0), (27, .iconst 4, 1, 0, 0, 0, 0), (28, .if_icmp .ge 7, 3, 0, 0, 0, 0), (31, .iconst 2, 1, 0, 0, 0, 0)],
  [(32, .goto 4, 3, 0, 0, 0, 0), (35, .iconst (-1), 1, 0, 0, 0, 0), (36, .ireturn, 1, 0, 0, 0, 0), (37, .aload_n 0, 1, 0, 0, 0, 0), (38, .aload_n 0, 1, 0, 0, 0, 0), (39, .iload_n 1, 1, 0, 0, 0, 0), (40, .iconst 1, 1, 0, 0, 0, 0), (41, .invokevirtual 206, 3, 196, 3, 10, 0), (44, .invokevirtual 310, 3, 234, 2, 10, 0), (47, .ifCond .ne 22, 3, 0, 0, 0, 0)],
  [(50, .iload_n 2, 1, 0, 0, 0, 0), (51, .iconst 1, 1, 0, 0, 0, 0), (52, .if_icmp .ne 21, 3, 0, 0, 0, 0), (55, .aload_n 0, 1, 0, 0, 0, 0), (56, .aload_n 0, 1, 0, 0, 0, 0), (57, .iload_n 1, 1, 0, 0, 0, 0), (58, .iconst 1, 1, 0, 0, 0, 0), (59, .invokevirtual 206, 3, 196, 3, 10, 0), (62, .iconst 0, 1, 0, 0, 0, 0), (63, .invokevirtual 285, 3, 224, 3, 10, 0)],
  [(66, .ifCond .le 7, 3, 0, 0, 0, 0), (69, .iconst 2, 1, 0, 0, 0, 0), (70, .goto 4, 3, 0, 0, 0, 0), (73, .iconst (-1), 1, 0, 0, 0, 0), (74, .ireturn, 1, 0, 0, 0, 0)]]
/-- ClosedRoomsModel.whyMap(III)I -/
def cd_236 : List (List CE) := [[(0, .aload_n 0, 1, 0, 0, 0, 0), (1, .iload_n 1, 1, 0, 0, 0, 0), (2, .invokevirtual 252, 3, 201, 2, 10, 0), (5, .ifCond .ne 7, 3, 0, 0, 0, 0), (8, .iconst 0, 1, 0, 0, 0, 0), (9, .goto 44, 3, 0, 0, 0, 0), (12, .aload_n 0, 1, 0, 0, 0, 0), (13, .iload_n 1, 1, 0, 0, 0, 0), (14, .iload_n 2, 1, 0, 0, 0, 0), (15, .invokevirtual 255, 3, 202, 3, 10, 0)],
  [(18, .ifCond .eq 16, 3, 0, 0, 0, 0), (21, .iload_n 3, 1, 0, 0, 0, 0), (22, .iconst (-1), 1, 0, 0, 0, 0), (23, .if_icmp .eq 15, 3, 0, 0, 0, 0), (26, .aload_n 0, 1, 0, 0, 0, 0), (27, .iload_n 3, 1, 0, 0, 0, 0), (28, .invokevirtual 203, 3, 211, 2, 10, 0), (31, .ifCond .ne 7, 3, 0, 0, 0, 0)],
  [(34, .iconst 1, 1, 0, 0, 0, 0), (35, .goto 18, 3, 0, 0, 0, 0), (38, .aload_n 0, 1, 0, 0, 0, 0), (39, .iload_n 1, 1, 0, 0, 0, 0), (40, .iload_n 2, 1, 0, 0, 0, 0), (41, .invokevirtual 267, 3, 210, 3, 10, 0), (44, .iload_n 3, 1, 0, 0, 0, 0), (45, .if_icmp .ne 7, 3, 0, 0, 0, 0)],
  [(48, .iconst 2, 1, 0, 0, 0, 0), (49, .goto 4, 3, 0, 0, 0, 0), (52, .iconst (-1), 1, 0, 0, 0, 0), (53, .ireturn, 1, 0, 0, 0, 0)]]
/-- ClosedRoomsModel.whyChange(II)I -/
def cd_237 : List (List CE) := [[(0, .aload_n 0, 1, 0, 0, 0, 0), (1, .iload_n 1, 1, 0, 0, 0, 0), (2, .invokevirtual 301, 3, 229, 2, 10, 0), (5, .ifCond .ne 7, 3, 0, 0, 0, 0), (8, .iconst 0, 1, 0, 0, 0, 0), (9, .goto 33, 3, 0, 0, 0, 0), (12, .iload_n 2, 1, 0, 0, 0, 0), (13, .iconst 0, 1, 0, 0, 0, 0), (14, .sipush 999, 3, 0, 0, 0, 0)],
  [(17, .invokestatic 54, 3, 168, 3, 10, 0), (20, .ifCond .ne 7, 3, 0, 0, 0, 0), (23, .iconst 1, 1, 0, 0, 0, 0), (24, .goto 18, 3, 0, 0, 0, 0), (27, .aload_n 0, 1, 0, 0, 0, 0), (28, .iload_n 1, 1, 0, 0, 0, 0), (29, .iconst 5, 1, 0, 0, 0, 0), (30, .invokevirtual 215, 3, 226, 3, 10, 0)],
  [(33, .iload_n 2, 1, 0, 0, 0, 0), (34, .if_icmp .ne 7, 3, 0, 0, 0, 0), (37, .iconst 2, 1, 0, 0, 0, 0), (38, .goto 4, 3, 0, 0, 0, 0), (41, .iconst (-1), 1, 0, 0, 0, 0), (42, .ireturn, 1, 0, 0, 0, 0)]]
/-- ClosedRoomsModel.whyTell(II)I -/
def cd_238 : List (List CE) := [[(0, .aload_n 0, 1, 0, 0, 0, 0), (1, .iload_n 1, 1, 0, 0, 0, 0), (2, .invokevirtual 261, 3, 207, 2, 10, 0), (5, .ifCond .ne 7, 3, 0, 0, 0, 0), (8, .iconst 0, 1, 0, 0, 0, 0), (9, .goto 41, 3, 0, 0, 0, 0), (12, .iload_n 2, 1, 0, 0, 0, 0), (13, .iconst 0, 1, 0, 0, 0, 0), (14, .sipush 999, 3, 0, 0, 0, 0)],
  [(17, .invokestatic 54, 3, 168, 3, 10, 0), (20, .ifCond .ne 7, 3, 0, 0, 0, 0), (23, .iconst 1, 1, 0, 0, 0, 0), (24, .goto 26, 3, 0, 0, 0, 0), (27, .aload_n 0, 1, 0, 0, 0, 0), (28, .iload_n 1, 1, 0, 0, 0, 0), (29, .invokevirtual 264, 3, 209, 2, 10, 0)],
  [(32, .ifCond .ne 13, 3, 0, 0, 0, 0), (35, .aload_n 0, 1, 0, 0, 0, 0), (36, .iload_n 1, 1, 0, 0, 0, 0), (37, .iconst 0, 1, 0, 0, 0, 0), (38, .invokevirtual 212, 3, 208, 3, 10, 0), (41, .iload_n 2, 1, 0, 0, 0, 0), (42, .if_icmp .ne 7, 3, 0, 0, 0, 0), (45, .iconst 2, 1, 0, 0, 0, 0), (46, .goto 4, 3, 0, 0, 0, 0)],
  [(49, .iconst (-1), 1, 0, 0, 0, 0), (50, .ireturn, 1, 0, 0, 0, 0)]]
/-- ClosedRoomsModel.whyNot(IIIIII)I -/
def cd_239 : List (List CE) := [[(0, .iload_n 1, 1, 0, 0, 0, 0), (1, .tableswitch 276 0 18 #[91, 97, 122, 135, 142, 149, 159, 159, 165, 175, 184, 190, 196, 205, 214, 220, 229, 255, 262], 91, 0, 0, 0, 0)],
  [],
  [],
  [],
  [],
  [(92, .aload_n 0, 1, 0, 0, 0, 0), (93, .iload_n 2, 1, 0, 0, 0, 0), (94, .invokevirtual 313, 3, 200, 2, 10, 0)],
  [(97, .ireturn, 1, 0, 0, 0, 0), (98, .aload_n 0, 1, 0, 0, 0, 0), (99, .getfield 199, 3, 10, 11, 11, 0), (102, .ifCond .ne 7, 3, 0, 0, 0, 0), (105, .iconst 0, 1, 0, 0, 0, 0), (106, .goto 16, 3, 0, 0, 0, 0), (109, .aload_n 0, 1, 0, 0, 0, 0), (110, .invokevirtual 246, 3, 197, 1, 10, 0)],
  [(113, .iconst (-1), 1, 0, 0, 0, 0), (114, .if_icmp .ne 7, 3, 0, 0, 0, 0), (117, .iconst 3, 1, 0, 0, 0, 0), (118, .goto 4, 3, 0, 0, 0, 0), (121, .iconst (-1), 1, 0, 0, 0, 0), (122, .ireturn, 1, 0, 0, 0, 0), (123, .aload_n 0, 1, 0, 0, 0, 0), (124, .iload_n 2, 1, 0, 0, 0, 0), (125, .iload_n 3, 1, 0, 0, 0, 0), (126, .iload 4, 2, 0, 0, 0, 0)],
  [(128, .iload 5, 2, 0, 0, 0, 0), (130, .iload 6, 2, 0, 0, 0, 0), (132, .invokevirtual 316, 3, 204, 6, 10, 0), (135, .ireturn, 1, 0, 0, 0, 0), (136, .aload_n 0, 1, 0, 0, 0, 0), (137, .iload_n 2, 1, 0, 0, 0, 0), (138, .iload_n 3, 1, 0, 0, 0, 0), (139, .invokevirtual 320, 3, 205, 3, 10, 0), (142, .ireturn, 1, 0, 0, 0, 0), (143, .aload_n 0, 1, 0, 0, 0, 0)],
  [(144, .iload_n 2, 1, 0, 0, 0, 0), (145, .iload_n 3, 1, 0, 0, 0, 0), (146, .invokevirtual 323, 3, 206, 3, 10, 0), (149, .ireturn, 1, 0, 0, 0, 0), (150, .aload_n 0, 1, 0, 0, 0, 0), (151, .iload_n 2, 1, 0, 0, 0, 0), (152, .iload_n 3, 1, 0, 0, 0, 0), (153, .iload 4, 2, 0, 0, 0, 0), (155, .iconst 0, 1, 0, 0, 0, 0), (156, .invokevirtual 326, 3, 213, 5, 10, 0), (159, .ireturn, 1, 0, 0, 0, 0)],
  [(160, .aload_n 0, 1, 0, 0, 0, 0), (161, .iload_n 2, 1, 0, 0, 0, 0), (162, .invokevirtual 330, 3, 214, 2, 10, 0), (165, .ireturn, 1, 0, 0, 0, 0), (166, .aload_n 0, 1, 0, 0, 0, 0), (167, .iload_n 2, 1, 0, 0, 0, 0), (168, .iload_n 3, 1, 0, 0, 0, 0), (169, .iload 4, 2, 0, 0, 0, 0), (171, .iconst 2, 1, 0, 0, 0, 0), (172, .invokevirtual 326, 3, 213, 5, 10, 0), (175, .ireturn, 1, 0, 0, 0, 0)],
  [(176, .aload_n 0, 1, 0, 0, 0, 0), (177, .iload_n 2, 1, 0, 0, 0, 0), (178, .iload_n 3, 1, 0, 0, 0, 0), (179, .iload 4, 2, 0, 0, 0, 0), (181, .invokevirtual 333, 3, 217, 4, 10, 0), (184, .ireturn, 1, 0, 0, 0, 0), (185, .aload_n 0, 1, 0, 0, 0, 0), (186, .iload_n 2, 1, 0, 0, 0, 0), (187, .invokevirtual 337, 3, 220, 2, 10, 0), (190, .ireturn, 1, 0, 0, 0, 0), (191, .aload_n 0, 1, 0, 0, 0, 0)],
  [(192, .iload_n 2, 1, 0, 0, 0, 0), (193, .invokevirtual 340, 3, 222, 2, 10, 0), (196, .ireturn, 1, 0, 0, 0, 0), (197, .aload_n 0, 1, 0, 0, 0, 0), (198, .iload_n 2, 1, 0, 0, 0, 0), (199, .iload_n 3, 1, 0, 0, 0, 0), (200, .iload 4, 2, 0, 0, 0, 0), (202, .invokevirtual 343, 3, 228, 4, 10, 0), (205, .ireturn, 1, 0, 0, 0, 0), (206, .aload_n 0, 1, 0, 0, 0, 0), (207, .iload_n 2, 1, 0, 0, 0, 0)],
  [(208, .iload_n 3, 1, 0, 0, 0, 0), (209, .iload 4, 2, 0, 0, 0, 0), (211, .invokevirtual 346, 3, 232, 4, 10, 0), (214, .ireturn, 1, 0, 0, 0, 0), (215, .aload_n 0, 1, 0, 0, 0, 0), (216, .iload_n 2, 1, 0, 0, 0, 0), (217, .invokevirtual 349, 3, 235, 2, 10, 0), (220, .ireturn, 1, 0, 0, 0, 0), (221, .aload_n 0, 1, 0, 0, 0, 0), (222, .iload_n 2, 1, 0, 0, 0, 0), (223, .iload_n 3, 1, 0, 0, 0, 0)],
  [(224, .iload 4, 2, 0, 0, 0, 0), (226, .invokevirtual 352, 3, 236, 4, 10, 0), (229, .ireturn, 1, 0, 0, 0, 0), (230, .aload_n 0, 1, 0, 0, 0, 0), (231, .iload_n 2, 1, 0, 0, 0, 0), (232, .invokevirtual 301, 3, 229, 2, 10, 0), (235, .ifCond .ne 7, 3, 0, 0, 0, 0), (238, .iconst 0, 1, 0, 0, 0, 0), (239, .goto 16, 3, 0, 0, 0, 0)],
  [(242, .aload_n 0, 1, 0, 0, 0, 0), (243, .invokevirtual 295, 3, 227, 1, 10, 0), (246, .iconst (-1), 1, 0, 0, 0, 0), (247, .if_icmp .ne 7, 3, 0, 0, 0, 0), (250, .iconst 3, 1, 0, 0, 0, 0), (251, .goto 4, 3, 0, 0, 0, 0), (254, .iconst (-1), 1, 0, 0, 0, 0), (255, .ireturn, 1, 0, 0, 0, 0)],
  [(256, .aload_n 0, 1, 0, 0, 0, 0), (257, .iload_n 2, 1, 0, 0, 0, 0), (258, .iload_n 3, 1, 0, 0, 0, 0), (259, .invokevirtual 355, 3, 237, 3, 10, 0), (262, .ireturn, 1, 0, 0, 0, 0), (263, .aload_n 0, 1, 0, 0, 0, 0), (264, .iload_n 2, 1, 0, 0, 0, 0), (265, .invokevirtual 301, 3, 229, 2, 10, 0), (268, .ifCond .ne 7, 3, 0, 0, 0, 0), (271, .iconst 0, 1, 0, 0, 0, 0)],
  [(272, .goto 4, 3, 0, 0, 0, 0), (275, .iconst (-1), 1, 0, 0, 0, 0), (276, .ireturn, 1, 0, 0, 0, 0), (277, .aload_n 0, 1, 0, 0, 0, 0), (278, .iload_n 2, 1, 0, 0, 0, 0), (279, .iload_n 3, 1, 0, 0, 0, 0), (280, .invokevirtual 358, 3, 238, 3, 10, 0), (283, .ireturn, 1, 0, 0, 0, 0)]]
/-- ClosedRoomsModel.keep()V -/
def cd_240 : List (List CE) := [[(0, .aload_n 0, 1, 0, 0, 0, 0), (1, .getfield 228, 3, 10, 18, 18, 0), (4, .bipush 40, 2, 0, 0, 0, 0), (6, .if_icmp .ne 46, 3, 0, 0, 0, 0), (9, .sipush 526, 3, 0, 0, 0, 0), (12, .istore_n 1, 1, 0, 0, 0, 0), (13, .iload_n 1, 1, 0, 0, 0, 0), (14, .sipush 21040, 3, 0, 0, 0, 0)],
  [(17, .if_icmp .ge 25, 3, 0, 0, 0, 0), (20, .aload_n 0, 1, 0, 0, 0, 0), (21, .getfield 31, 3, 10, 17, 17, 0), (24, .iload_n 1, 1, 0, 0, 0, 0), (25, .sipush 526, 3, 0, 0, 0, 0), (28, .isub, 1, 0, 0, 0, 0), (29, .aload_n 0, 1, 0, 0, 0, 0), (30, .getfield 31, 3, 10, 17, 17, 0)],
  [(33, .iload_n 1, 1, 0, 0, 0, 0), (34, .iaload, 1, 0, 0, 0, 0), (35, .iastore, 1, 0, 0, 0, 0), (36, .iinc 1 1, 3, 0, 0, 0, 0), (39, .goto (-26), 3, 0, 0, 0, 0), (42, .aload_n 0, 1, 0, 0, 0, 0), (43, .dup, 1, 0, 0, 0, 0), (44, .getfield 228, 3, 10, 18, 18, 0), (47, .iconst 1, 1, 0, 0, 0, 0)],
  [(48, .isub, 1, 0, 0, 0, 0), (49, .putfield 228, 3, 10, 18, 18, 0), (52, .iconst 0, 1, 0, 0, 0, 0), (53, .istore_n 1, 1, 0, 0, 0, 0), (54, .iload_n 1, 1, 0, 0, 0, 0), (55, .sipush 526, 3, 0, 0, 0, 0), (58, .if_icmp .ge 30, 3, 0, 0, 0, 0), (61, .aload_n 0, 1, 0, 0, 0, 0), (62, .getfield 31, 3, 10, 17, 17, 0)],
  [(65, .sipush 526, 3, 0, 0, 0, 0), (68, .aload_n 0, 1, 0, 0, 0, 0), (69, .getfield 228, 3, 10, 18, 18, 0), (72, .imul, 1, 0, 0, 0, 0), (73, .iload_n 1, 1, 0, 0, 0, 0), (74, .iadd, 1, 0, 0, 0, 0), (75, .aload_n 0, 1, 0, 0, 0, 0), (76, .getfield 25, 3, 10, 15, 15, 0), (79, .iload_n 1, 1, 0, 0, 0, 0)],
  [(80, .iaload, 1, 0, 0, 0, 0), (81, .iastore, 1, 0, 0, 0, 0), (82, .iinc 1 1, 3, 0, 0, 0, 0), (85, .goto (-31), 3, 0, 0, 0, 0), (88, .aload_n 0, 1, 0, 0, 0, 0), (89, .dup, 1, 0, 0, 0, 0), (90, .getfield 228, 3, 10, 18, 18, 0), (93, .iconst 1, 1, 0, 0, 0, 0), (94, .iadd, 1, 0, 0, 0, 0), (95, .putfield 228, 3, 10, 18, 18, 0)],
  [(98, .return_, 1, 0, 0, 0, 0)]]
/-- ClosedRoomsModel.setRoom(III)V -/
def cd_241 : List (List CE) := [[(0, .aload_n 0, 1, 0, 0, 0, 0), (1, .getfield 25, 3, 10, 15, 15, 0), (4, .bipush 110, 2, 0, 0, 0, 0), (6, .bipush 23, 2, 0, 0, 0, 0), (8, .iload_n 1, 1, 0, 0, 0, 0), (9, .imul, 1, 0, 0, 0, 0), (10, .iadd, 1, 0, 0, 0, 0), (11, .iload_n 2, 1, 0, 0, 0, 0), (12, .iadd, 1, 0, 0, 0, 0), (13, .iload_n 3, 1, 0, 0, 0, 0), (14, .iastore, 1, 0, 0, 0, 0), (15, .return_, 1, 0, 0, 0, 0)]]
/-- ClosedRoomsModel.createNow(I)I -/
def cd_242 : List (List CE) := [[(0, .aload_n 0, 1, 0, 0, 0, 0), (1, .invokevirtual 249, 3, 199, 1, 10, 0), (4, .istore_n 2, 1, 0, 0, 0, 0), (5, .aload_n 0, 1, 0, 0, 0, 0), (6, .invokevirtual 246, 3, 197, 1, 10, 0), (9, .istore_n 3, 1, 0, 0, 0, 0), (10, .aload_n 0, 1, 0, 0, 0, 0), (11, .iload_n 3, 1, 0, 0, 0, 0), (12, .invokevirtual 222, 3, 191, 2, 10, 0), (15, .aload_n 0, 1, 0, 0, 0, 0)],
  [(16, .iload_n 3, 1, 0, 0, 0, 0), (17, .iconst 0, 1, 0, 0, 0, 0), (18, .iconst 1, 1, 0, 0, 0, 0), (19, .invokevirtual 218, 3, 190, 4, 10, 0), (22, .aload_n 0, 1, 0, 0, 0, 0), (23, .iload_n 3, 1, 0, 0, 0, 0), (24, .iconst 1, 1, 0, 0, 0, 0), (25, .iload_n 2, 1, 0, 0, 0, 0), (26, .invokevirtual 218, 3, 190, 4, 10, 0), (29, .iconst 0, 1, 0, 0, 0, 0), (30, .istore 4, 2, 0, 0, 0, 0)],
  [(32, .iload 4, 2, 0, 0, 0, 0), (34, .bipush 23, 2, 0, 0, 0, 0), (36, .if_icmp .ge 17, 3, 0, 0, 0, 0), (39, .aload_n 0, 1, 0, 0, 0, 0), (40, .iload_n 2, 1, 0, 0, 0, 0), (41, .iload 4, 2, 0, 0, 0, 0), (43, .iconst 0, 1, 0, 0, 0, 0), (44, .invokevirtual 361, 3, 241, 4, 10, 0), (47, .iinc 4 1, 3, 0, 0, 0, 0)],
  [(50, .goto (-18), 3, 0, 0, 0, 0), (53, .aload_n 0, 1, 0, 0, 0, 0), (54, .getfield 25, 3, 10, 15, 15, 0), (57, .sipush 344, 3, 0, 0, 0, 0), (60, .dup2, 1, 0, 0, 0, 0), (61, .iaload, 1, 0, 0, 0, 0), (62, .iconst 1, 1, 0, 0, 0, 0), (63, .iadd, 1, 0, 0, 0, 0)],
  [(64, .iastore, 1, 0, 0, 0, 0), (65, .aload_n 0, 1, 0, 0, 0, 0), (66, .iload_n 2, 1, 0, 0, 0, 0), (67, .iconst 0, 1, 0, 0, 0, 0), (68, .iconst 1, 1, 0, 0, 0, 0), (69, .invokevirtual 361, 3, 241, 4, 10, 0), (72, .aload_n 0, 1, 0, 0, 0, 0), (73, .iload_n 2, 1, 0, 0, 0, 0), (74, .iconst 1, 1, 0, 0, 0, 0), (75, .aload_n 0, 1, 0, 0, 0, 0), (76, .getfield 25, 3, 10, 15, 15, 0), (79, .sipush 344, 3, 0, 0, 0, 0)],
  [(82, .iaload, 1, 0, 0, 0, 0), (83, .invokevirtual 361, 3, 241, 4, 10, 0), (86, .aload_n 0, 1, 0, 0, 0, 0), (87, .iload_n 2, 1, 0, 0, 0, 0), (88, .iconst 2, 1, 0, 0, 0, 0), (89, .iload_n 1, 1, 0, 0, 0, 0), (90, .invokevirtual 361, 3, 241, 4, 10, 0), (93, .aload_n 0, 1, 0, 0, 0, 0), (94, .iload_n 2, 1, 0, 0, 0, 0), (95, .iconst 3, 1, 0, 0, 0, 0)],
  [(96, .iconst 1, 1, 0, 0, 0, 0), (97, .invokevirtual 361, 3, 241, 4, 10, 0), (100, .aload_n 0, 1, 0, 0, 0, 0), (101, .iload_n 2, 1, 0, 0, 0, 0), (102, .iconst 4, 1, 0, 0, 0, 0), (103, .bipush 7, 2, 0, 0, 0, 0), (105, .iload_n 1, 1, 0, 0, 0, 0), (106, .iadd, 1, 0, 0, 0, 0), (107, .invokevirtual 361, 3, 241, 4, 10, 0), (110, .iload_n 2, 1, 0, 0, 0, 0), (111, .ireturn, 1, 0, 0, 0, 0)]]
/-- ClosedRoomsModel.slotsNow()I -/
def cd_243 : List (List CE) := [[(0, .aload_n 0, 1, 0, 0, 0, 0), (1, .invokevirtual 246, 3, 197, 1, 10, 0), (4, .istore_n 1, 1, 0, 0, 0, 0), (5, .aload_n 0, 1, 0, 0, 0, 0), (6, .iload_n 1, 1, 0, 0, 0, 0), (7, .invokevirtual 222, 3, 191, 2, 10, 0), (10, .aload_n 0, 1, 0, 0, 0, 0), (11, .iload_n 1, 1, 0, 0, 0, 0), (12, .iconst 0, 1, 0, 0, 0, 0), (13, .iconst 4, 1, 0, 0, 0, 0), (14, .invokevirtual 218, 3, 190, 4, 10, 0)],
  [(17, .iload_n 1, 1, 0, 0, 0, 0), (18, .ireturn, 1, 0, 0, 0, 0)]]
/-- ClosedRoomsModel.addNow(IIIII)I -/
def cd_244 : List (List CE) := [[(0, .aload_n 0, 1, 0, 0, 0, 0), (1, .invokevirtual 246, 3, 197, 1, 10, 0), (4, .istore 6, 2, 0, 0, 0, 0), (6, .aload_n 0, 1, 0, 0, 0, 0), (7, .iload 6, 2, 0, 0, 0, 0), (9, .invokevirtual 222, 3, 191, 2, 10, 0), (12, .aload_n 0, 1, 0, 0, 0, 0), (13, .iload 6, 2, 0, 0, 0, 0), (15, .iconst 0, 1, 0, 0, 0, 0)],
  [(16, .iconst 2, 1, 0, 0, 0, 0), (17, .iload_n 3, 1, 0, 0, 0, 0), (18, .iadd, 1, 0, 0, 0, 0), (19, .invokevirtual 218, 3, 190, 4, 10, 0), (22, .aload_n 0, 1, 0, 0, 0, 0), (23, .iload 6, 2, 0, 0, 0, 0), (25, .iconst 1, 1, 0, 0, 0, 0), (26, .iload_n 1, 1, 0, 0, 0, 0), (27, .invokevirtual 218, 3, 190, 4, 10, 0), (30, .aload_n 0, 1, 0, 0, 0, 0), (31, .iload 6, 2, 0, 0, 0, 0)],
  [(33, .iconst 2, 1, 0, 0, 0, 0), (34, .iload_n 2, 1, 0, 0, 0, 0), (35, .invokevirtual 218, 3, 190, 4, 10, 0), (38, .aload_n 0, 1, 0, 0, 0, 0), (39, .iload 6, 2, 0, 0, 0, 0), (41, .iconst 3, 1, 0, 0, 0, 0), (42, .iload 4, 2, 0, 0, 0, 0), (44, .invokevirtual 218, 3, 190, 4, 10, 0), (47, .aload_n 0, 1, 0, 0, 0, 0)],
  [(48, .iload 6, 2, 0, 0, 0, 0), (50, .iconst 4, 1, 0, 0, 0, 0), (51, .iload 5, 2, 0, 0, 0, 0), (53, .invokevirtual 218, 3, 190, 4, 10, 0), (56, .aload_n 0, 1, 0, 0, 0, 0), (57, .iload_n 1, 1, 0, 0, 0, 0), (58, .bipush 7, 2, 0, 0, 0, 0), (60, .iload_n 2, 1, 0, 0, 0, 0), (61, .iadd, 1, 0, 0, 0, 0), (62, .iconst 1, 1, 0, 0, 0, 0), (63, .invokevirtual 361, 3, 241, 4, 10, 0)],
  [(66, .aload_n 0, 1, 0, 0, 0, 0), (67, .iload_n 1, 1, 0, 0, 0, 0), (68, .bipush 15, 2, 0, 0, 0, 0), (70, .iload_n 2, 1, 0, 0, 0, 0), (71, .iadd, 1, 0, 0, 0, 0), (72, .iload 6, 2, 0, 0, 0, 0), (74, .iconst 1, 1, 0, 0, 0, 0), (75, .iadd, 1, 0, 0, 0, 0), (76, .invokevirtual 361, 3, 241, 4, 10, 0), (79, .aload_n 0, 1, 0, 0, 0, 0)],
  [(80, .iload_n 1, 1, 0, 0, 0, 0), (81, .iconst 4, 1, 0, 0, 0, 0), (82, .bipush 31, 2, 0, 0, 0, 0), (84, .aload_n 0, 1, 0, 0, 0, 0), (85, .iload_n 1, 1, 0, 0, 0, 0), (86, .iconst 4, 1, 0, 0, 0, 0), (87, .invokevirtual 209, 3, 198, 3, 10, 0), (90, .imul, 1, 0, 0, 0, 0), (91, .bipush 64, 2, 0, 0, 0, 0), (93, .iload_n 2, 1, 0, 0, 0, 0), (94, .imul, 1, 0, 0, 0, 0), (95, .iadd, 1, 0, 0, 0, 0)],
  [(96, .bipush 8, 2, 0, 0, 0, 0), (98, .iload_n 3, 1, 0, 0, 0, 0), (99, .imul, 1, 0, 0, 0, 0), (100, .iadd, 1, 0, 0, 0, 0), (101, .iload 4, 2, 0, 0, 0, 0), (103, .iadd, 1, 0, 0, 0, 0), (104, .invokevirtual 361, 3, 241, 4, 10, 0), (107, .iload 6, 2, 0, 0, 0, 0), (109, .ireturn, 1, 0, 0, 0, 0)]]
/-- ClosedRoomsModel.pageAt(II)I -/
def cd_245 : List (List CE) := [[(0, .iconst 0, 1, 0, 0, 0, 0), (1, .istore_n 3, 1, 0, 0, 0, 0), (2, .iload_n 3, 1, 0, 0, 0, 0), (3, .aload_n 0, 1, 0, 0, 0, 0), (4, .getfield 16, 3, 10, 10, 10, 0), (7, .iconst 0, 1, 0, 0, 0, 0), (8, .iaload, 1, 0, 0, 0, 0), (9, .if_icmp .ge 21, 3, 0, 0, 0, 0), (12, .aload_n 0, 1, 0, 0, 0, 0), (13, .iload_n 3, 1, 0, 0, 0, 0), (14, .iload_n 1, 1, 0, 0, 0, 0), (15, .iload_n 2, 1, 0, 0, 0, 0)],
  [(16, .invokevirtual 243, 3, 212, 4, 10, 0), (19, .ifCond .eq 5, 3, 0, 0, 0, 0), (22, .iload_n 3, 1, 0, 0, 0, 0), (23, .ireturn, 1, 0, 0, 0, 0), (24, .iinc 3 1, 3, 0, 0, 0, 0), (27, .goto (-25), 3, 0, 0, 0, 0), (30, .iconst (-1), 1, 0, 0, 0, 0), (31, .ireturn, 1, 0, 0, 0, 0)]]
/-- ClosedRoomsModel.extendNow(II)I -/
def cd_246 : List (List CE) := [[(0, .aload_n 0, 1, 0, 0, 0, 0), (1, .iload_n 1, 1, 0, 0, 0, 0), (2, .iconst 4, 1, 0, 0, 0, 0), (3, .bipush 31, 2, 0, 0, 0, 0), (5, .aload_n 0, 1, 0, 0, 0, 0), (6, .iload_n 1, 1, 0, 0, 0, 0), (7, .iconst 4, 1, 0, 0, 0, 0), (8, .invokevirtual 209, 3, 198, 3, 10, 0), (11, .imul, 1, 0, 0, 0, 0), (12, .sipush 1000, 3, 0, 0, 0, 0), (15, .iadd, 1, 0, 0, 0, 0)],
  [(16, .aload_n 0, 1, 0, 0, 0, 0), (17, .aload_n 0, 1, 0, 0, 0, 0), (18, .iload_n 1, 1, 0, 0, 0, 0), (19, .iload_n 2, 1, 0, 0, 0, 0), (20, .invokevirtual 364, 3, 245, 3, 10, 0), (23, .iconst 4, 1, 0, 0, 0, 0), (24, .invokevirtual 206, 3, 196, 3, 10, 0), (27, .iadd, 1, 0, 0, 0, 0), (28, .invokevirtual 361, 3, 241, 4, 10, 0), (31, .aload_n 0, 1, 0, 0, 0, 0)],
  [(32, .iload_n 1, 1, 0, 0, 0, 0), (33, .iconst 4, 1, 0, 0, 0, 0), (34, .invokevirtual 209, 3, 198, 3, 10, 0), (37, .ireturn, 1, 0, 0, 0, 0)]]
/-- ClosedRoomsModel.sealNow(I)I -/
def cd_247 : List (List CE) := [[(0, .aload_n 0, 1, 0, 0, 0, 0), (1, .iload_n 1, 1, 0, 0, 0, 0), (2, .iconst 3, 1, 0, 0, 0, 0), (3, .iconst 2, 1, 0, 0, 0, 0), (4, .invokevirtual 361, 3, 241, 4, 10, 0), (7, .aload_n 0, 1, 0, 0, 0, 0), (8, .iload_n 1, 1, 0, 0, 0, 0), (9, .iconst 1, 1, 0, 0, 0, 0), (10, .invokevirtual 209, 3, 198, 3, 10, 0), (13, .ireturn, 1, 0, 0, 0, 0)]]
/-- ClosedRoomsModel.enterNow(III)I -/
def cd_248 : List (List CE) := [[(0, .aload_n 0, 1, 0, 0, 0, 0), (1, .iload_n 2, 1, 0, 0, 0, 0), (2, .iload_n 3, 1, 0, 0, 0, 0), (3, .invokevirtual 267, 3, 210, 3, 10, 0), (6, .istore 4, 2, 0, 0, 0, 0), (8, .aload_n 0, 1, 0, 0, 0, 0), (9, .iload_n 1, 1, 0, 0, 0, 0), (10, .iconst 1, 1, 0, 0, 0, 0), (11, .iload_n 2, 1, 0, 0, 0, 0), (12, .invokevirtual 234, 3, 192, 4, 10, 0), (15, .aload_n 0, 1, 0, 0, 0, 0)],
  [(16, .iload_n 1, 1, 0, 0, 0, 0), (17, .iconst 2, 1, 0, 0, 0, 0), (18, .iload 4, 2, 0, 0, 0, 0), (20, .invokevirtual 234, 3, 192, 4, 10, 0), (23, .aload_n 0, 1, 0, 0, 0, 0), (24, .iload_n 1, 1, 0, 0, 0, 0), (25, .iconst 3, 1, 0, 0, 0, 0), (26, .aload_n 0, 1, 0, 0, 0, 0), (27, .iload_n 2, 1, 0, 0, 0, 0), (28, .iconst 5, 1, 0, 0, 0, 0), (29, .invokevirtual 209, 3, 198, 3, 10, 0)],
  [(32, .invokevirtual 234, 3, 192, 4, 10, 0), (35, .aload_n 0, 1, 0, 0, 0, 0), (36, .iload_n 1, 1, 0, 0, 0, 0), (37, .iconst 4, 1, 0, 0, 0, 0), (38, .iconst 0, 1, 0, 0, 0, 0), (39, .invokevirtual 234, 3, 192, 4, 10, 0), (42, .aload_n 0, 1, 0, 0, 0, 0), (43, .iload 4, 2, 0, 0, 0, 0), (45, .bipush 6, 2, 0, 0, 0, 0), (47, .iconst 1, 1, 0, 0, 0, 0)],
  [(48, .invokevirtual 218, 3, 190, 4, 10, 0), (51, .iload 4, 2, 0, 0, 0, 0), (53, .ireturn, 1, 0, 0, 0, 0)]]
/-- ClosedRoomsModel.leaveNow(I)I -/
def cd_249 : List (List CE) := [[(0, .aload_n 0, 1, 0, 0, 0, 0), (1, .aload_n 0, 1, 0, 0, 0, 0), (2, .iload_n 1, 1, 0, 0, 0, 0), (3, .iconst 2, 1, 0, 0, 0, 0), (4, .invokevirtual 212, 3, 208, 3, 10, 0), (7, .bipush 6, 2, 0, 0, 0, 0), (9, .iconst 0, 1, 0, 0, 0, 0), (10, .invokevirtual 218, 3, 190, 4, 10, 0), (13, .aload_n 0, 1, 0, 0, 0, 0), (14, .iload_n 1, 1, 0, 0, 0, 0), (15, .invokevirtual 225, 3, 193, 2, 10, 0)],
  [(18, .aload_n 0, 1, 0, 0, 0, 0), (19, .iload_n 1, 1, 0, 0, 0, 0), (20, .iconst 0, 1, 0, 0, 0, 0), (21, .invokevirtual 212, 3, 208, 3, 10, 0), (24, .ireturn, 1, 0, 0, 0, 0)]]
/-- ClosedRoomsModel.trapNow(I)I -/
def cd_250 : List (List CE) := [[(0, .aload_n 0, 1, 0, 0, 0, 0), (1, .iload_n 1, 1, 0, 0, 0, 0), (2, .iconst 2, 1, 0, 0, 0, 0), (3, .invokevirtual 212, 3, 208, 3, 10, 0), (6, .istore_n 2, 1, 0, 0, 0, 0), (7, .aload_n 0, 1, 0, 0, 0, 0), (8, .iload_n 2, 1, 0, 0, 0, 0), (9, .bipush 6, 2, 0, 0, 0, 0), (11, .iconst 2, 1, 0, 0, 0, 0), (12, .invokevirtual 218, 3, 190, 4, 10, 0), (15, .aload_n 0, 1, 0, 0, 0, 0)],
  [(16, .iload_n 2, 1, 0, 0, 0, 0), (17, .iconst 4, 1, 0, 0, 0, 0), (18, .aload_n 0, 1, 0, 0, 0, 0), (19, .iload_n 1, 1, 0, 0, 0, 0), (20, .iconst 0, 1, 0, 0, 0, 0), (21, .invokevirtual 212, 3, 208, 3, 10, 0), (24, .invokevirtual 218, 3, 190, 4, 10, 0), (27, .aload_n 0, 1, 0, 0, 0, 0), (28, .iload_n 1, 1, 0, 0, 0, 0), (29, .iconst 0, 1, 0, 0, 0, 0), (30, .iconst 0, 1, 0, 0, 0, 0), (31, .invokevirtual 234, 3, 192, 4, 10, 0)],
  [(34, .aload_n 0, 1, 0, 0, 0, 0), (35, .iload_n 1, 1, 0, 0, 0, 0), (36, .invokevirtual 225, 3, 193, 2, 10, 0), (39, .iload_n 2, 1, 0, 0, 0, 0), (40, .ireturn, 1, 0, 0, 0, 0)]]
/-- ClosedRoomsModel.resumeNow(III)I -/
def cd_251 : List (List CE) := [[(0, .aload_n 0, 1, 0, 0, 0, 0), (1, .iload_n 1, 1, 0, 0, 0, 0), (2, .iload_n 2, 1, 0, 0, 0, 0), (3, .iload_n 3, 1, 0, 0, 0, 0), (4, .invokevirtual 367, 3, 248, 4, 10, 0), (7, .istore 4, 2, 0, 0, 0, 0), (9, .aload_n 0, 1, 0, 0, 0, 0), (10, .iload_n 1, 1, 0, 0, 0, 0), (11, .iconst 0, 1, 0, 0, 0, 0), (12, .aload_n 0, 1, 0, 0, 0, 0), (13, .iload 4, 2, 0, 0, 0, 0), (15, .iconst 4, 1, 0, 0, 0, 0)],
  [(16, .invokevirtual 206, 3, 196, 3, 10, 0), (19, .invokevirtual 234, 3, 192, 4, 10, 0), (22, .aload_n 0, 1, 0, 0, 0, 0), (23, .iload 4, 2, 0, 0, 0, 0), (25, .iconst 4, 1, 0, 0, 0, 0), (26, .iconst 0, 1, 0, 0, 0, 0), (27, .invokevirtual 218, 3, 190, 4, 10, 0), (30, .aload_n 0, 1, 0, 0, 0, 0), (31, .iload_n 1, 1, 0, 0, 0, 0)],
  [(32, .iconst 0, 1, 0, 0, 0, 0), (33, .invokevirtual 212, 3, 208, 3, 10, 0), (36, .ireturn, 1, 0, 0, 0, 0)]]
/-- ClosedRoomsModel.sees(III)V -/
def cd_252 : List (List CE) := [[(0, .aload_n 0, 1, 0, 0, 0, 0), (1, .iload_n 1, 1, 0, 0, 0, 0), (2, .iconst 4, 1, 0, 0, 0, 0), (3, .invokevirtual 212, 3, 208, 3, 10, 0), (6, .istore 4, 2, 0, 0, 0, 0), (8, .iload 4, 2, 0, 0, 0, 0), (10, .aload_n 0, 1, 0, 0, 0, 0), (11, .getfield 16, 3, 10, 10, 10, 0), (14, .iconst 2, 1, 0, 0, 0, 0), (15, .iaload, 1, 0, 0, 0, 0)],
  [(16, .if_icmp .ne 44, 3, 0, 0, 0, 0), (19, .iconst 2, 1, 0, 0, 0, 0), (20, .istore 5, 2, 0, 0, 0, 0), (22, .iload 5, 2, 0, 0, 0, 0), (24, .iconst 2, 1, 0, 0, 0, 0), (25, .iload 4, 2, 0, 0, 0, 0), (27, .imul, 1, 0, 0, 0, 0), (28, .if_icmp .ge 29, 3, 0, 0, 0, 0), (31, .aload_n 0, 1, 0, 0, 0, 0)],
  [(32, .iload_n 1, 1, 0, 0, 0, 0), (33, .iconst 5, 1, 0, 0, 0, 0), (34, .iload 5, 2, 0, 0, 0, 0), (36, .iadd, 1, 0, 0, 0, 0), (37, .iconst 2, 1, 0, 0, 0, 0), (38, .isub, 1, 0, 0, 0, 0), (39, .aload_n 0, 1, 0, 0, 0, 0), (40, .iload_n 1, 1, 0, 0, 0, 0), (41, .iconst 5, 1, 0, 0, 0, 0), (42, .iload 5, 2, 0, 0, 0, 0), (44, .iadd, 1, 0, 0, 0, 0), (45, .invokevirtual 212, 3, 208, 3, 10, 0)],
  [(48, .invokevirtual 234, 3, 192, 4, 10, 0), (51, .iinc 5 1, 3, 0, 0, 0, 0), (54, .goto (-32), 3, 0, 0, 0, 0), (57, .iinc 4 (-1), 3, 0, 0, 0, 0), (60, .aload_n 0, 1, 0, 0, 0, 0), (61, .iload_n 1, 1, 0, 0, 0, 0), (62, .iconst 5, 1, 0, 0, 0, 0), (63, .iconst 2, 1, 0, 0, 0, 0)],
  [(64, .iload 4, 2, 0, 0, 0, 0), (66, .imul, 1, 0, 0, 0, 0), (67, .iadd, 1, 0, 0, 0, 0), (68, .iload_n 2, 1, 0, 0, 0, 0), (69, .invokevirtual 234, 3, 192, 4, 10, 0), (72, .aload_n 0, 1, 0, 0, 0, 0), (73, .iload_n 1, 1, 0, 0, 0, 0), (74, .iconst 5, 1, 0, 0, 0, 0), (75, .iconst 2, 1, 0, 0, 0, 0), (76, .iload 4, 2, 0, 0, 0, 0), (78, .imul, 1, 0, 0, 0, 0), (79, .iadd, 1, 0, 0, 0, 0)],
  [(80, .iconst 1, 1, 0, 0, 0, 0), (81, .iadd, 1, 0, 0, 0, 0), (82, .iload_n 3, 1, 0, 0, 0, 0), (83, .invokevirtual 234, 3, 192, 4, 10, 0), (86, .aload_n 0, 1, 0, 0, 0, 0), (87, .iload_n 1, 1, 0, 0, 0, 0), (88, .iconst 4, 1, 0, 0, 0, 0), (89, .iload 4, 2, 0, 0, 0, 0), (91, .iconst 1, 1, 0, 0, 0, 0), (92, .iadd, 1, 0, 0, 0, 0), (93, .invokevirtual 234, 3, 192, 4, 10, 0)],
  [(96, .return_, 1, 0, 0, 0, 0)]]
/-- ClosedRoomsModel.touchNow(III)I -/
def cd_253 : List (List CE) := [[(0, .aload_n 0, 1, 0, 0, 0, 0), (1, .iload_n 1, 1, 0, 0, 0, 0), (2, .iload_n 2, 1, 0, 0, 0, 0), (3, .invokevirtual 273, 3, 216, 3, 10, 0), (6, .istore 4, 2, 0, 0, 0, 0), (8, .aload_n 0, 1, 0, 0, 0, 0), (9, .iload_n 1, 1, 0, 0, 0, 0), (10, .iload_n 2, 1, 0, 0, 0, 0), (11, .invokevirtual 270, 3, 215, 3, 10, 0), (14, .iconst (-1), 1, 0, 0, 0, 0), (15, .if_icmp .ne 11, 3, 0, 0, 0, 0)],
  [(18, .aload_n 0, 1, 0, 0, 0, 0), (19, .iload_n 1, 1, 0, 0, 0, 0), (20, .iload_n 2, 1, 0, 0, 0, 0), (21, .iload 4, 2, 0, 0, 0, 0), (23, .invokevirtual 370, 3, 252, 4, 10, 0), (26, .aload_n 0, 1, 0, 0, 0, 0), (27, .iload_n 1, 1, 0, 0, 0, 0), (28, .iconst 0, 1, 0, 0, 0, 0), (29, .invokevirtual 212, 3, 208, 3, 10, 0)],
  [(32, .istore 5, 2, 0, 0, 0, 0), (34, .iload_n 3, 1, 0, 0, 0, 0), (35, .iconst 1, 1, 0, 0, 0, 0), (36, .if_icmp .ne 15, 3, 0, 0, 0, 0), (39, .aload_n 0, 1, 0, 0, 0, 0), (40, .iload 4, 2, 0, 0, 0, 0), (42, .iconst 4, 1, 0, 0, 0, 0), (43, .iload 5, 2, 0, 0, 0, 0), (45, .invokevirtual 218, 3, 190, 4, 10, 0)],
  [(48, .goto 40, 3, 0, 0, 0, 0), (51, .aload_n 0, 1, 0, 0, 0, 0), (52, .iload_n 1, 1, 0, 0, 0, 0), (53, .iconst 0, 1, 0, 0, 0, 0), (54, .iload_n 3, 1, 0, 0, 0, 0), (55, .ifCond .ne 13, 3, 0, 0, 0, 0), (58, .aload_n 0, 1, 0, 0, 0, 0), (59, .iload 4, 2, 0, 0, 0, 0), (61, .iconst 4, 1, 0, 0, 0, 0), (62, .invokevirtual 206, 3, 196, 3, 10, 0)],
  [(65, .goto 20, 3, 0, 0, 0, 0), (68, .bipush 7, 2, 0, 0, 0, 0), (70, .iload 5, 2, 0, 0, 0, 0), (72, .imul, 1, 0, 0, 0, 0), (73, .aload_n 0, 1, 0, 0, 0, 0), (74, .iload 4, 2, 0, 0, 0, 0), (76, .iconst 4, 1, 0, 0, 0, 0), (77, .invokevirtual 206, 3, 196, 3, 10, 0)],
  [(80, .iadd, 1, 0, 0, 0, 0), (81, .sipush 1000, 3, 0, 0, 0, 0), (84, .irem, 1, 0, 0, 0, 0), (85, .invokevirtual 234, 3, 192, 4, 10, 0), (88, .aload_n 0, 1, 0, 0, 0, 0), (89, .iload_n 1, 1, 0, 0, 0, 0), (90, .iconst 0, 1, 0, 0, 0, 0), (91, .invokevirtual 212, 3, 208, 3, 10, 0), (94, .ireturn, 1, 0, 0, 0, 0)]]
/-- ClosedRoomsModel.blockNow(I)I -/
def cd_254 : List (List CE) := [[(0, .aload_n 0, 1, 0, 0, 0, 0), (1, .iload_n 1, 1, 0, 0, 0, 0), (2, .iconst 5, 1, 0, 0, 0, 0), (3, .aload_n 0, 1, 0, 0, 0, 0), (4, .aload_n 0, 1, 0, 0, 0, 0), (5, .iload_n 1, 1, 0, 0, 0, 0), (6, .iconst 1, 1, 0, 0, 0, 0), (7, .invokevirtual 206, 3, 196, 3, 10, 0), (10, .iconst 5, 1, 0, 0, 0, 0), (11, .invokevirtual 209, 3, 198, 3, 10, 0), (14, .invokevirtual 218, 3, 190, 4, 10, 0)],
  [(17, .aload_n 0, 1, 0, 0, 0, 0), (18, .iload_n 1, 1, 0, 0, 0, 0), (19, .iconst 5, 1, 0, 0, 0, 0), (20, .invokevirtual 206, 3, 196, 3, 10, 0), (23, .ireturn, 1, 0, 0, 0, 0)]]
/-- ClosedRoomsModel.trackNow(I)I -/
def cd_255 : List (List CE) := [[(0, .aload_n 0, 1, 0, 0, 0, 0), (1, .iload_n 1, 1, 0, 0, 0, 0), (2, .iconst 5, 1, 0, 0, 0, 0), (3, .aload_n 0, 1, 0, 0, 0, 0), (4, .iload_n 1, 1, 0, 0, 0, 0), (5, .iconst 5, 1, 0, 0, 0, 0), (6, .invokevirtual 209, 3, 198, 3, 10, 0), (9, .iconst 1, 1, 0, 0, 0, 0), (10, .iadd, 1, 0, 0, 0, 0), (11, .invokevirtual 361, 3, 241, 4, 10, 0), (14, .aload_n 0, 1, 0, 0, 0, 0), (15, .iload_n 1, 1, 0, 0, 0, 0)],
  [(16, .iconst 5, 1, 0, 0, 0, 0), (17, .invokevirtual 209, 3, 198, 3, 10, 0), (20, .ireturn, 1, 0, 0, 0, 0)]]
/-- ClosedRoomsModel.setCopy(III)V -/
def cd_256 : List (List CE) := [[(0, .aload_n 0, 1, 0, 0, 0, 0), (1, .getfield 25, 3, 10, 15, 15, 0), (4, .sipush 235, 3, 0, 0, 0, 0), (7, .bipush 9, 2, 0, 0, 0, 0), (9, .iload_n 1, 1, 0, 0, 0, 0), (10, .imul, 1, 0, 0, 0, 0), (11, .iadd, 1, 0, 0, 0, 0), (12, .iload_n 2, 1, 0, 0, 0, 0), (13, .iadd, 1, 0, 0, 0, 0), (14, .iload_n 3, 1, 0, 0, 0, 0), (15, .iastore, 1, 0, 0, 0, 0)],
  [(16, .return_, 1, 0, 0, 0, 0)]]
/-- ClosedRoomsModel.evictNow(III)I -/
def cd_257 : List (List CE) := [[(0, .aload_n 0, 1, 0, 0, 0, 0), (1, .invokevirtual 295, 3, 227, 1, 10, 0), (4, .istore 4, 2, 0, 0, 0, 0), (6, .aload_n 0, 1, 0, 0, 0, 0), (7, .iload_n 1, 1, 0, 0, 0, 0), (8, .iconst 1, 1, 0, 0, 0, 0), (9, .invokevirtual 206, 3, 196, 3, 10, 0), (12, .istore 5, 2, 0, 0, 0, 0), (14, .aload_n 0, 1, 0, 0, 0, 0), (15, .getfield 25, 3, 10, 15, 15, 0)],
  [(18, .sipush 343, 3, 0, 0, 0, 0), (21, .dup2, 1, 0, 0, 0, 0), (22, .iaload, 1, 0, 0, 0, 0), (23, .iconst 1, 1, 0, 0, 0, 0), (24, .iadd, 1, 0, 0, 0, 0), (25, .iastore, 1, 0, 0, 0, 0), (26, .aload_n 0, 1, 0, 0, 0, 0), (27, .iload 4, 2, 0, 0, 0, 0), (29, .iconst 0, 1, 0, 0, 0, 0), (30, .iconst 1, 1, 0, 0, 0, 0), (31, .invokevirtual 373, 3, 256, 4, 10, 0)],
  [(34, .aload_n 0, 1, 0, 0, 0, 0), (35, .iload 4, 2, 0, 0, 0, 0), (37, .iconst 1, 1, 0, 0, 0, 0), (38, .aload_n 0, 1, 0, 0, 0, 0), (39, .iload 5, 2, 0, 0, 0, 0), (41, .iconst 1, 1, 0, 0, 0, 0), (42, .invokevirtual 209, 3, 198, 3, 10, 0), (45, .invokevirtual 373, 3, 256, 4, 10, 0)],
  [(48, .aload_n 0, 1, 0, 0, 0, 0), (49, .iload 4, 2, 0, 0, 0, 0), (51, .iconst 2, 1, 0, 0, 0, 0), (52, .aload_n 0, 1, 0, 0, 0, 0), (53, .iload_n 1, 1, 0, 0, 0, 0), (54, .iconst 2, 1, 0, 0, 0, 0), (55, .invokevirtual 206, 3, 196, 3, 10, 0), (58, .invokevirtual 373, 3, 256, 4, 10, 0), (61, .aload_n 0, 1, 0, 0, 0, 0), (62, .iload 4, 2, 0, 0, 0, 0)],
  [(64, .iconst 3, 1, 0, 0, 0, 0), (65, .aload_n 0, 1, 0, 0, 0, 0), (66, .iload_n 1, 1, 0, 0, 0, 0), (67, .iconst 0, 1, 0, 0, 0, 0), (68, .invokevirtual 206, 3, 196, 3, 10, 0), (71, .invokevirtual 373, 3, 256, 4, 10, 0), (74, .aload_n 0, 1, 0, 0, 0, 0), (75, .iload 4, 2, 0, 0, 0, 0), (77, .iconst 4, 1, 0, 0, 0, 0), (78, .aload_n 0, 1, 0, 0, 0, 0), (79, .iload_n 1, 1, 0, 0, 0, 0)],
  [(80, .iconst 3, 1, 0, 0, 0, 0), (81, .invokevirtual 206, 3, 196, 3, 10, 0), (84, .invokevirtual 373, 3, 256, 4, 10, 0), (87, .aload_n 0, 1, 0, 0, 0, 0), (88, .iload 4, 2, 0, 0, 0, 0), (90, .iconst 5, 1, 0, 0, 0, 0), (91, .aload_n 0, 1, 0, 0, 0, 0), (92, .iload_n 1, 1, 0, 0, 0, 0), (93, .iconst 4, 1, 0, 0, 0, 0), (94, .invokevirtual 206, 3, 196, 3, 10, 0)],
  [(97, .invokevirtual 373, 3, 256, 4, 10, 0), (100, .aload_n 0, 1, 0, 0, 0, 0), (101, .iload 4, 2, 0, 0, 0, 0), (103, .bipush 6, 2, 0, 0, 0, 0), (105, .aload_n 0, 1, 0, 0, 0, 0), (106, .iload_n 1, 1, 0, 0, 0, 0), (107, .bipush 6, 2, 0, 0, 0, 0), (109, .invokevirtual 206, 3, 196, 3, 10, 0)],
  [(112, .iconst 2, 1, 0, 0, 0, 0), (113, .if_icmp .ne 7, 3, 0, 0, 0, 0), (116, .iconst 1, 1, 0, 0, 0, 0), (117, .goto 4, 3, 0, 0, 0, 0), (120, .iconst 0, 1, 0, 0, 0, 0), (121, .invokevirtual 373, 3, 256, 4, 10, 0), (124, .aload_n 0, 1, 0, 0, 0, 0), (125, .iload 4, 2, 0, 0, 0, 0), (127, .bipush 7, 2, 0, 0, 0, 0)],
  [(129, .aload_n 0, 1, 0, 0, 0, 0), (130, .getfield 25, 3, 10, 15, 15, 0), (133, .sipush 343, 3, 0, 0, 0, 0), (136, .iaload, 1, 0, 0, 0, 0), (137, .invokevirtual 373, 3, 256, 4, 10, 0), (140, .aload_n 0, 1, 0, 0, 0, 0), (141, .iload 4, 2, 0, 0, 0, 0), (143, .bipush 8, 2, 0, 0, 0, 0)],
  [(145, .iconst 0, 1, 0, 0, 0, 0), (146, .invokevirtual 373, 3, 256, 4, 10, 0), (149, .aload_n 0, 1, 0, 0, 0, 0), (150, .iload_n 2, 1, 0, 0, 0, 0), (151, .bipush 7, 2, 0, 0, 0, 0), (153, .iload_n 3, 1, 0, 0, 0, 0), (154, .iadd, 1, 0, 0, 0, 0), (155, .aload_n 0, 1, 0, 0, 0, 0), (156, .getfield 25, 3, 10, 15, 15, 0), (159, .sipush 343, 3, 0, 0, 0, 0)],
  [(162, .iaload, 1, 0, 0, 0, 0), (163, .invokevirtual 218, 3, 190, 4, 10, 0), (166, .aload_n 0, 1, 0, 0, 0, 0), (167, .iload_n 1, 1, 0, 0, 0, 0), (168, .iconst 0, 1, 0, 0, 0, 0), (169, .invokevirtual 206, 3, 196, 3, 10, 0), (172, .iconst 1, 1, 0, 0, 0, 0), (173, .if_icmp .ne 15, 3, 0, 0, 0, 0)],
  [(176, .aload_n 0, 1, 0, 0, 0, 0), (177, .iload 5, 2, 0, 0, 0, 0), (179, .bipush 6, 2, 0, 0, 0, 0), (181, .iconst 1, 1, 0, 0, 0, 0), (182, .invokevirtual 361, 3, 241, 4, 10, 0), (185, .goto 19, 3, 0, 0, 0, 0), (188, .aload_n 0, 1, 0, 0, 0, 0), (189, .iload 5, 2, 0, 0, 0, 0), (191, .bipush 7, 2, 0, 0, 0, 0)],
  [(193, .aload_n 0, 1, 0, 0, 0, 0), (194, .iload_n 1, 1, 0, 0, 0, 0), (195, .iconst 2, 1, 0, 0, 0, 0), (196, .invokevirtual 206, 3, 196, 3, 10, 0), (199, .iadd, 1, 0, 0, 0, 0), (200, .iconst 2, 1, 0, 0, 0, 0), (201, .invokevirtual 361, 3, 241, 4, 10, 0), (204, .aload_n 0, 1, 0, 0, 0, 0), (205, .iload_n 1, 1, 0, 0, 0, 0), (206, .invokevirtual 222, 3, 191, 2, 10, 0)],
  [(209, .iload 4, 2, 0, 0, 0, 0), (211, .ireturn, 1, 0, 0, 0, 0)]]
/-- ClosedRoomsModel.loadNow(III)I -/
def cd_258 : List (List CE) := [[(0, .aload_n 0, 1, 0, 0, 0, 0), (1, .invokevirtual 246, 3, 197, 1, 10, 0), (4, .istore 4, 2, 0, 0, 0, 0), (6, .aload_n 0, 1, 0, 0, 0, 0), (7, .aload_n 0, 1, 0, 0, 0, 0), (8, .iload_n 1, 1, 0, 0, 0, 0), (9, .iconst 1, 1, 0, 0, 0, 0), (10, .invokevirtual 215, 3, 226, 3, 10, 0), (13, .invokevirtual 298, 3, 230, 2, 10, 0)],
  [(16, .istore 5, 2, 0, 0, 0, 0), (18, .aload_n 0, 1, 0, 0, 0, 0), (19, .iload 4, 2, 0, 0, 0, 0), (21, .invokevirtual 222, 3, 191, 2, 10, 0), (24, .aload_n 0, 1, 0, 0, 0, 0), (25, .iload 4, 2, 0, 0, 0, 0), (27, .iconst 0, 1, 0, 0, 0, 0), (28, .aload_n 0, 1, 0, 0, 0, 0), (29, .iload_n 1, 1, 0, 0, 0, 0), (30, .iconst 3, 1, 0, 0, 0, 0), (31, .invokevirtual 215, 3, 226, 3, 10, 0)],
  [(34, .invokevirtual 218, 3, 190, 4, 10, 0), (37, .aload_n 0, 1, 0, 0, 0, 0), (38, .iload 4, 2, 0, 0, 0, 0), (40, .iconst 1, 1, 0, 0, 0, 0), (41, .iload 5, 2, 0, 0, 0, 0), (43, .invokevirtual 218, 3, 190, 4, 10, 0), (46, .aload_n 0, 1, 0, 0, 0, 0), (47, .iload 4, 2, 0, 0, 0, 0)],
  [(49, .iconst 2, 1, 0, 0, 0, 0), (50, .aload_n 0, 1, 0, 0, 0, 0), (51, .iload_n 1, 1, 0, 0, 0, 0), (52, .iconst 2, 1, 0, 0, 0, 0), (53, .invokevirtual 215, 3, 226, 3, 10, 0), (56, .invokevirtual 218, 3, 190, 4, 10, 0), (59, .aload_n 0, 1, 0, 0, 0, 0), (60, .iload 4, 2, 0, 0, 0, 0), (62, .iconst 3, 1, 0, 0, 0, 0), (63, .aload_n 0, 1, 0, 0, 0, 0)],
  [(64, .iload_n 1, 1, 0, 0, 0, 0), (65, .iconst 4, 1, 0, 0, 0, 0), (66, .invokevirtual 215, 3, 226, 3, 10, 0), (69, .invokevirtual 218, 3, 190, 4, 10, 0), (72, .aload_n 0, 1, 0, 0, 0, 0), (73, .iload 4, 2, 0, 0, 0, 0), (75, .iconst 4, 1, 0, 0, 0, 0), (76, .aload_n 0, 1, 0, 0, 0, 0), (77, .iload_n 1, 1, 0, 0, 0, 0), (78, .iconst 5, 1, 0, 0, 0, 0), (79, .invokevirtual 215, 3, 226, 3, 10, 0)],
  [(82, .invokevirtual 218, 3, 190, 4, 10, 0), (85, .aload_n 0, 1, 0, 0, 0, 0), (86, .iload 4, 2, 0, 0, 0, 0), (88, .bipush 6, 2, 0, 0, 0, 0), (90, .aload_n 0, 1, 0, 0, 0, 0), (91, .iload_n 1, 1, 0, 0, 0, 0), (92, .bipush 6, 2, 0, 0, 0, 0), (94, .invokevirtual 215, 3, 226, 3, 10, 0)],
  [(97, .iconst 1, 1, 0, 0, 0, 0), (98, .if_icmp .ne 7, 3, 0, 0, 0, 0), (101, .iconst 2, 1, 0, 0, 0, 0), (102, .goto 4, 3, 0, 0, 0, 0), (105, .iconst 0, 1, 0, 0, 0, 0), (106, .invokevirtual 218, 3, 190, 4, 10, 0), (109, .aload_n 0, 1, 0, 0, 0, 0), (110, .iload_n 2, 1, 0, 0, 0, 0), (111, .bipush 7, 2, 0, 0, 0, 0)],
  [(113, .iload_n 3, 1, 0, 0, 0, 0), (114, .iadd, 1, 0, 0, 0, 0), (115, .iconst 0, 1, 0, 0, 0, 0), (116, .invokevirtual 218, 3, 190, 4, 10, 0), (119, .aload_n 0, 1, 0, 0, 0, 0), (120, .iload_n 1, 1, 0, 0, 0, 0), (121, .iconst 3, 1, 0, 0, 0, 0), (122, .invokevirtual 215, 3, 226, 3, 10, 0), (125, .iconst 1, 1, 0, 0, 0, 0), (126, .if_icmp .ne 15, 3, 0, 0, 0, 0)],
  [(129, .aload_n 0, 1, 0, 0, 0, 0), (130, .iload 5, 2, 0, 0, 0, 0), (132, .bipush 6, 2, 0, 0, 0, 0), (134, .iconst 0, 1, 0, 0, 0, 0), (135, .invokevirtual 361, 3, 241, 4, 10, 0), (138, .goto 38, 3, 0, 0, 0, 0), (141, .aload_n 0, 1, 0, 0, 0, 0), (142, .iload 5, 2, 0, 0, 0, 0)],
  [(144, .bipush 7, 2, 0, 0, 0, 0), (146, .aload_n 0, 1, 0, 0, 0, 0), (147, .iload_n 1, 1, 0, 0, 0, 0), (148, .iconst 2, 1, 0, 0, 0, 0), (149, .invokevirtual 215, 3, 226, 3, 10, 0), (152, .iadd, 1, 0, 0, 0, 0), (153, .iconst 1, 1, 0, 0, 0, 0), (154, .invokevirtual 361, 3, 241, 4, 10, 0), (157, .aload_n 0, 1, 0, 0, 0, 0), (158, .iload 5, 2, 0, 0, 0, 0)],
  [(160, .bipush 15, 2, 0, 0, 0, 0), (162, .aload_n 0, 1, 0, 0, 0, 0), (163, .iload_n 1, 1, 0, 0, 0, 0), (164, .iconst 2, 1, 0, 0, 0, 0), (165, .invokevirtual 215, 3, 226, 3, 10, 0), (168, .iadd, 1, 0, 0, 0, 0), (169, .iload 4, 2, 0, 0, 0, 0), (171, .iconst 1, 1, 0, 0, 0, 0), (172, .iadd, 1, 0, 0, 0, 0), (173, .invokevirtual 361, 3, 241, 4, 10, 0)],
  [(176, .iload 4, 2, 0, 0, 0, 0), (178, .ireturn, 1, 0, 0, 0, 0)]]
/-- ClosedRoomsModel.removeNow(I)I -/
def cd_259 : List (List CE) := [[(0, .aload_n 0, 1, 0, 0, 0, 0), (1, .iload_n 1, 1, 0, 0, 0, 0), (2, .iconst 0, 1, 0, 0, 0, 0), (3, .invokevirtual 206, 3, 196, 3, 10, 0), (6, .istore_n 2, 1, 0, 0, 0, 0), (7, .aload_n 0, 1, 0, 0, 0, 0), (8, .iload_n 1, 1, 0, 0, 0, 0), (9, .iconst 1, 1, 0, 0, 0, 0), (10, .invokevirtual 206, 3, 196, 3, 10, 0), (13, .istore_n 3, 1, 0, 0, 0, 0), (14, .iload_n 2, 1, 0, 0, 0, 0), (15, .iconst 1, 1, 0, 0, 0, 0)],
  [(16, .if_icmp .ne 13, 3, 0, 0, 0, 0), (19, .aload_n 0, 1, 0, 0, 0, 0), (20, .iload_n 3, 1, 0, 0, 0, 0), (21, .iconst 0, 1, 0, 0, 0, 0), (22, .iconst 0, 1, 0, 0, 0, 0), (23, .invokevirtual 361, 3, 241, 4, 10, 0), (26, .goto 23, 3, 0, 0, 0, 0), (29, .iload_n 2, 1, 0, 0, 0, 0), (30, .iconst 4, 1, 0, 0, 0, 0), (31, .if_icmp .eq 18, 3, 0, 0, 0, 0)],
  [(34, .aload_n 0, 1, 0, 0, 0, 0), (35, .iload_n 3, 1, 0, 0, 0, 0), (36, .bipush 7, 2, 0, 0, 0, 0), (38, .aload_n 0, 1, 0, 0, 0, 0), (39, .iload_n 1, 1, 0, 0, 0, 0), (40, .iconst 2, 1, 0, 0, 0, 0), (41, .invokevirtual 206, 3, 196, 3, 10, 0), (44, .iadd, 1, 0, 0, 0, 0), (45, .iconst 0, 1, 0, 0, 0, 0), (46, .invokevirtual 361, 3, 241, 4, 10, 0)],
  [(49, .aload_n 0, 1, 0, 0, 0, 0), (50, .iload_n 1, 1, 0, 0, 0, 0), (51, .invokevirtual 222, 3, 191, 2, 10, 0), (54, .iload_n 2, 1, 0, 0, 0, 0), (55, .ireturn, 1, 0, 0, 0, 0)]]
/-- ClosedRoomsModel.mapNow(III)I -/
def cd_260 : List (List CE) := [[(0, .aload_n 0, 1, 0, 0, 0, 0), (1, .iload_n 1, 1, 0, 0, 0, 0), (2, .iload_n 2, 1, 0, 0, 0, 0), (3, .invokevirtual 267, 3, 210, 3, 10, 0), (6, .istore 4, 2, 0, 0, 0, 0), (8, .aload_n 0, 1, 0, 0, 0, 0), (9, .iload_n 1, 1, 0, 0, 0, 0), (10, .bipush 15, 2, 0, 0, 0, 0), (12, .iload_n 2, 1, 0, 0, 0, 0), (13, .iadd, 1, 0, 0, 0, 0), (14, .iload_n 3, 1, 0, 0, 0, 0), (15, .iconst 1, 1, 0, 0, 0, 0)],
  [(16, .iadd, 1, 0, 0, 0, 0), (17, .invokevirtual 361, 3, 241, 4, 10, 0), (20, .iload 4, 2, 0, 0, 0, 0), (22, .ireturn, 1, 0, 0, 0, 0)]]
/-- ClosedRoomsModel.doubleNow(I)I -/
def cd_261 : List (List CE) := [[(0, .aload_n 0, 1, 0, 0, 0, 0), (1, .invokevirtual 295, 3, 227, 1, 10, 0), (4, .istore_n 2, 1, 0, 0, 0, 0), (5, .iconst 0, 1, 0, 0, 0, 0), (6, .istore_n 3, 1, 0, 0, 0, 0), (7, .iload_n 3, 1, 0, 0, 0, 0), (8, .bipush 9, 2, 0, 0, 0, 0), (10, .if_icmp .ge 21, 3, 0, 0, 0, 0), (13, .aload_n 0, 1, 0, 0, 0, 0), (14, .iload_n 2, 1, 0, 0, 0, 0), (15, .iload_n 3, 1, 0, 0, 0, 0)],
  [(16, .aload_n 0, 1, 0, 0, 0, 0), (17, .iload_n 1, 1, 0, 0, 0, 0), (18, .iload_n 3, 1, 0, 0, 0, 0), (19, .invokevirtual 215, 3, 226, 3, 10, 0), (22, .invokevirtual 373, 3, 256, 4, 10, 0), (25, .iinc 3 1, 3, 0, 0, 0, 0), (28, .goto (-21), 3, 0, 0, 0, 0), (31, .iload_n 2, 1, 0, 0, 0, 0)],
  [(32, .ireturn, 1, 0, 0, 0, 0)]]
/-- ClosedRoomsModel.changeNow(II)I -/
def cd_262 : List (List CE) := [[(0, .aload_n 0, 1, 0, 0, 0, 0), (1, .iload_n 1, 1, 0, 0, 0, 0), (2, .iconst 5, 1, 0, 0, 0, 0), (3, .invokevirtual 215, 3, 226, 3, 10, 0), (6, .istore_n 3, 1, 0, 0, 0, 0), (7, .aload_n 0, 1, 0, 0, 0, 0), (8, .iload_n 1, 1, 0, 0, 0, 0), (9, .iconst 5, 1, 0, 0, 0, 0), (10, .iload_n 2, 1, 0, 0, 0, 0), (11, .invokevirtual 373, 3, 256, 4, 10, 0), (14, .aload_n 0, 1, 0, 0, 0, 0), (15, .iload_n 1, 1, 0, 0, 0, 0)],
  [(16, .bipush 8, 2, 0, 0, 0, 0), (18, .iconst 1, 1, 0, 0, 0, 0), (19, .invokevirtual 373, 3, 256, 4, 10, 0), (22, .iload_n 3, 1, 0, 0, 0, 0), (23, .ireturn, 1, 0, 0, 0, 0)]]
/-- ClosedRoomsModel.dropNow(I)I -/
def cd_263 : List (List CE) := [[(0, .aload_n 0, 1, 0, 0, 0, 0), (1, .iload_n 1, 1, 0, 0, 0, 0), (2, .iconst 0, 1, 0, 0, 0, 0), (3, .iconst 0, 1, 0, 0, 0, 0), (4, .invokevirtual 373, 3, 256, 4, 10, 0), (7, .aload_n 0, 1, 0, 0, 0, 0), (8, .iload_n 1, 1, 0, 0, 0, 0), (9, .bipush 7, 2, 0, 0, 0, 0), (11, .invokevirtual 215, 3, 226, 3, 10, 0), (14, .ireturn, 1, 0, 0, 0, 0)]]
/-- ClosedRoomsModel.tellNow(II)I -/
def cd_264 : List (List CE) := [[(0, .aload_n 0, 1, 0, 0, 0, 0), (1, .iload_n 1, 1, 0, 0, 0, 0), (2, .iconst 0, 1, 0, 0, 0, 0), (3, .invokevirtual 212, 3, 208, 3, 10, 0), (6, .istore_n 3, 1, 0, 0, 0, 0), (7, .aload_n 0, 1, 0, 0, 0, 0), (8, .iload_n 1, 1, 0, 0, 0, 0), (9, .iconst 0, 1, 0, 0, 0, 0), (10, .iload_n 2, 1, 0, 0, 0, 0), (11, .invokevirtual 234, 3, 192, 4, 10, 0), (14, .iload_n 3, 1, 0, 0, 0, 0), (15, .ireturn, 1, 0, 0, 0, 0)]]
/-- ClosedRoomsModel.doNow(IIIIII)I -/
def cd_265 : List (List CE) := [[(0, .iload_n 1, 1, 0, 0, 0, 0), (1, .tableswitch 231 0 18 #[91, 97, 102, 115, 122, 128, 137, 143, 149, 158, 167, 173, 179, 188, 197, 203, 212, 218, 225], 91, 0, 0, 0, 0)],
  [],
  [],
  [],
  [],
  [(92, .aload_n 0, 1, 0, 0, 0, 0), (93, .iload_n 2, 1, 0, 0, 0, 0), (94, .invokevirtual 376, 3, 242, 2, 10, 0)],
  [(97, .ireturn, 1, 0, 0, 0, 0), (98, .aload_n 0, 1, 0, 0, 0, 0), (99, .invokevirtual 379, 3, 243, 1, 10, 0), (102, .ireturn, 1, 0, 0, 0, 0), (103, .aload_n 0, 1, 0, 0, 0, 0), (104, .iload_n 2, 1, 0, 0, 0, 0), (105, .iload_n 3, 1, 0, 0, 0, 0), (106, .iload 4, 2, 0, 0, 0, 0), (108, .iload 5, 2, 0, 0, 0, 0), (110, .iload 6, 2, 0, 0, 0, 0)],
  [(112, .invokevirtual 382, 3, 244, 6, 10, 0), (115, .ireturn, 1, 0, 0, 0, 0), (116, .aload_n 0, 1, 0, 0, 0, 0), (117, .iload_n 2, 1, 0, 0, 0, 0), (118, .iload_n 3, 1, 0, 0, 0, 0), (119, .invokevirtual 385, 3, 246, 3, 10, 0), (122, .ireturn, 1, 0, 0, 0, 0), (123, .aload_n 0, 1, 0, 0, 0, 0), (124, .iload_n 2, 1, 0, 0, 0, 0), (125, .invokevirtual 388, 3, 247, 2, 10, 0)],
  [(128, .ireturn, 1, 0, 0, 0, 0), (129, .aload_n 0, 1, 0, 0, 0, 0), (130, .iload_n 2, 1, 0, 0, 0, 0), (131, .iload_n 3, 1, 0, 0, 0, 0), (132, .iload 4, 2, 0, 0, 0, 0), (134, .invokevirtual 367, 3, 248, 4, 10, 0), (137, .ireturn, 1, 0, 0, 0, 0), (138, .aload_n 0, 1, 0, 0, 0, 0), (139, .iload_n 2, 1, 0, 0, 0, 0), (140, .invokevirtual 391, 3, 249, 2, 10, 0), (143, .ireturn, 1, 0, 0, 0, 0)],
  [(144, .aload_n 0, 1, 0, 0, 0, 0), (145, .iload_n 2, 1, 0, 0, 0, 0), (146, .invokevirtual 394, 3, 250, 2, 10, 0), (149, .ireturn, 1, 0, 0, 0, 0), (150, .aload_n 0, 1, 0, 0, 0, 0), (151, .iload_n 2, 1, 0, 0, 0, 0), (152, .iload_n 3, 1, 0, 0, 0, 0), (153, .iload 4, 2, 0, 0, 0, 0), (155, .invokevirtual 397, 3, 251, 4, 10, 0), (158, .ireturn, 1, 0, 0, 0, 0), (159, .aload_n 0, 1, 0, 0, 0, 0)],
  [(160, .iload_n 2, 1, 0, 0, 0, 0), (161, .iload_n 3, 1, 0, 0, 0, 0), (162, .iload 4, 2, 0, 0, 0, 0), (164, .invokevirtual 400, 3, 253, 4, 10, 0), (167, .ireturn, 1, 0, 0, 0, 0), (168, .aload_n 0, 1, 0, 0, 0, 0), (169, .iload_n 2, 1, 0, 0, 0, 0), (170, .invokevirtual 403, 3, 254, 2, 10, 0), (173, .ireturn, 1, 0, 0, 0, 0), (174, .aload_n 0, 1, 0, 0, 0, 0), (175, .iload_n 2, 1, 0, 0, 0, 0)],
  [(176, .invokevirtual 406, 3, 255, 2, 10, 0), (179, .ireturn, 1, 0, 0, 0, 0), (180, .aload_n 0, 1, 0, 0, 0, 0), (181, .iload_n 2, 1, 0, 0, 0, 0), (182, .iload_n 3, 1, 0, 0, 0, 0), (183, .iload 4, 2, 0, 0, 0, 0), (185, .invokevirtual 409, 3, 257, 4, 10, 0), (188, .ireturn, 1, 0, 0, 0, 0), (189, .aload_n 0, 1, 0, 0, 0, 0), (190, .iload_n 2, 1, 0, 0, 0, 0), (191, .iload_n 3, 1, 0, 0, 0, 0)],
  [(192, .iload 4, 2, 0, 0, 0, 0), (194, .invokevirtual 412, 3, 258, 4, 10, 0), (197, .ireturn, 1, 0, 0, 0, 0), (198, .aload_n 0, 1, 0, 0, 0, 0), (199, .iload_n 2, 1, 0, 0, 0, 0), (200, .invokevirtual 415, 3, 259, 2, 10, 0), (203, .ireturn, 1, 0, 0, 0, 0), (204, .aload_n 0, 1, 0, 0, 0, 0), (205, .iload_n 2, 1, 0, 0, 0, 0), (206, .iload_n 3, 1, 0, 0, 0, 0), (207, .iload 4, 2, 0, 0, 0, 0)],
  [(209, .invokevirtual 418, 3, 260, 4, 10, 0), (212, .ireturn, 1, 0, 0, 0, 0), (213, .aload_n 0, 1, 0, 0, 0, 0), (214, .iload_n 2, 1, 0, 0, 0, 0), (215, .invokevirtual 421, 3, 261, 2, 10, 0), (218, .ireturn, 1, 0, 0, 0, 0), (219, .aload_n 0, 1, 0, 0, 0, 0), (220, .iload_n 2, 1, 0, 0, 0, 0), (221, .iload_n 3, 1, 0, 0, 0, 0), (222, .invokevirtual 424, 3, 262, 3, 10, 0)],
  [(225, .ireturn, 1, 0, 0, 0, 0), (226, .aload_n 0, 1, 0, 0, 0, 0), (227, .iload_n 2, 1, 0, 0, 0, 0), (228, .invokevirtual 427, 3, 263, 2, 10, 0), (231, .ireturn, 1, 0, 0, 0, 0), (232, .aload_n 0, 1, 0, 0, 0, 0), (233, .iload_n 2, 1, 0, 0, 0, 0), (234, .iload_n 3, 1, 0, 0, 0, 0), (235, .invokevirtual 430, 3, 264, 3, 10, 0), (238, .ireturn, 1, 0, 0, 0, 0)]]
/-- ClosedRoomsModel.note(III)V -/
def cd_266 : List (List CE) := [[(0, .aload_n 0, 1, 0, 0, 0, 0), (1, .getfield 25, 3, 10, 15, 15, 0), (4, .sipush 345, 3, 0, 0, 0, 0), (7, .iaload, 1, 0, 0, 0, 0), (8, .bipush 60, 2, 0, 0, 0, 0), (10, .if_icmp .ne 56, 3, 0, 0, 0, 0), (13, .iconst 3, 1, 0, 0, 0, 0), (14, .istore 4, 2, 0, 0, 0, 0)],
  [(16, .iload 4, 2, 0, 0, 0, 0), (18, .sipush 180, 3, 0, 0, 0, 0), (21, .if_icmp .ge 33, 3, 0, 0, 0, 0), (24, .aload_n 0, 1, 0, 0, 0, 0), (25, .getfield 25, 3, 10, 15, 15, 0), (28, .sipush 346, 3, 0, 0, 0, 0), (31, .iload 4, 2, 0, 0, 0, 0)],
  [(33, .iadd, 1, 0, 0, 0, 0), (34, .iconst 3, 1, 0, 0, 0, 0), (35, .isub, 1, 0, 0, 0, 0), (36, .aload_n 0, 1, 0, 0, 0, 0), (37, .getfield 25, 3, 10, 15, 15, 0), (40, .sipush 346, 3, 0, 0, 0, 0), (43, .iload 4, 2, 0, 0, 0, 0), (45, .iadd, 1, 0, 0, 0, 0), (46, .iaload, 1, 0, 0, 0, 0), (47, .iastore, 1, 0, 0, 0, 0)],
  [(48, .iinc 4 1, 3, 0, 0, 0, 0), (51, .goto (-35), 3, 0, 0, 0, 0), (54, .aload_n 0, 1, 0, 0, 0, 0), (55, .getfield 25, 3, 10, 15, 15, 0), (58, .sipush 345, 3, 0, 0, 0, 0), (61, .dup2, 1, 0, 0, 0, 0), (62, .iaload, 1, 0, 0, 0, 0), (63, .iconst 1, 1, 0, 0, 0, 0)],
  [(64, .isub, 1, 0, 0, 0, 0), (65, .iastore, 1, 0, 0, 0, 0), (66, .sipush 346, 3, 0, 0, 0, 0), (69, .iconst 3, 1, 0, 0, 0, 0), (70, .aload_n 0, 1, 0, 0, 0, 0), (71, .getfield 25, 3, 10, 15, 15, 0), (74, .sipush 345, 3, 0, 0, 0, 0), (77, .iaload, 1, 0, 0, 0, 0), (78, .imul, 1, 0, 0, 0, 0), (79, .iadd, 1, 0, 0, 0, 0)],
  [(80, .istore 4, 2, 0, 0, 0, 0), (82, .aload_n 0, 1, 0, 0, 0, 0), (83, .getfield 25, 3, 10, 15, 15, 0), (86, .iload 4, 2, 0, 0, 0, 0), (88, .iload_n 1, 1, 0, 0, 0, 0), (89, .iastore, 1, 0, 0, 0, 0), (90, .aload_n 0, 1, 0, 0, 0, 0), (91, .getfield 25, 3, 10, 15, 15, 0), (94, .iload 4, 2, 0, 0, 0, 0)],
  [(96, .iconst 1, 1, 0, 0, 0, 0), (97, .iadd, 1, 0, 0, 0, 0), (98, .iload_n 2, 1, 0, 0, 0, 0), (99, .iastore, 1, 0, 0, 0, 0), (100, .aload_n 0, 1, 0, 0, 0, 0), (101, .getfield 25, 3, 10, 15, 15, 0), (104, .iload 4, 2, 0, 0, 0, 0), (106, .iconst 2, 1, 0, 0, 0, 0), (107, .iadd, 1, 0, 0, 0, 0), (108, .iload_n 3, 1, 0, 0, 0, 0), (109, .iastore, 1, 0, 0, 0, 0), (110, .aload_n 0, 1, 0, 0, 0, 0), (111, .getfield 25, 3, 10, 15, 15, 0)],
  [(114, .sipush 345, 3, 0, 0, 0, 0), (117, .dup2, 1, 0, 0, 0, 0), (118, .iaload, 1, 0, 0, 0, 0), (119, .iconst 1, 1, 0, 0, 0, 0), (120, .iadd, 1, 0, 0, 0, 0), (121, .iastore, 1, 0, 0, 0, 0), (122, .return_, 1, 0, 0, 0, 0)]]
/-- ClosedRoomsModel.act(IIIIII)I -/
def cd_267 : List (List CE) := [[(0, .aload_n 0, 1, 0, 0, 0, 0), (1, .invokevirtual 433, 3, 240, 1, 10, 0), (4, .aload_n 0, 1, 0, 0, 0, 0), (5, .iload_n 1, 1, 0, 0, 0, 0), (6, .iload_n 2, 1, 0, 0, 0, 0), (7, .iload_n 3, 1, 0, 0, 0, 0), (8, .iload 4, 2, 0, 0, 0, 0), (10, .iload 5, 2, 0, 0, 0, 0), (12, .iload 6, 2, 0, 0, 0, 0), (14, .invokevirtual 436, 3, 265, 7, 10, 0)],
  [(17, .istore 7, 2, 0, 0, 0, 0), (19, .aload_n 0, 1, 0, 0, 0, 0), (20, .iload_n 1, 1, 0, 0, 0, 0), (21, .iload_n 1, 1, 0, 0, 0, 0), (22, .iconst 1, 1, 0, 0, 0, 0), (23, .if_icmp .ne 7, 3, 0, 0, 0, 0), (26, .iconst (-1), 1, 0, 0, 0, 0), (27, .goto 4, 3, 0, 0, 0, 0), (30, .iload_n 2, 1, 0, 0, 0, 0), (31, .iload 7, 2, 0, 0, 0, 0)],
  [(33, .invokevirtual 439, 3, 266, 4, 10, 0), (36, .iload 7, 2, 0, 0, 0, 0), (38, .ireturn, 1, 0, 0, 0, 0)]]
/-- ClosedRoomsModel.hand(IIIIIII)I -/
def cd_268 : List (List CE) := [[(0, .aload_n 0, 1, 0, 0, 0, 0), (1, .iload_n 2, 1, 0, 0, 0, 0), (2, .iload_n 3, 1, 0, 0, 0, 0), (3, .iload 4, 2, 0, 0, 0, 0), (5, .iload 5, 2, 0, 0, 0, 0), (7, .iload 6, 2, 0, 0, 0, 0), (9, .iload 7, 2, 0, 0, 0, 0), (11, .invokevirtual 442, 3, 239, 7, 10, 0), (14, .istore 8, 2, 0, 0, 0, 0)],
  [(16, .iload 8, 2, 0, 0, 0, 0), (18, .iconst (-1), 1, 0, 0, 0, 0), (19, .if_icmp .eq 16, 3, 0, 0, 0, 0), (22, .aload_n 0, 1, 0, 0, 0, 0), (23, .getfield 28, 3, 10, 16, 16, 0), (26, .iload 8, 2, 0, 0, 0, 0), (28, .dup2, 1, 0, 0, 0, 0), (29, .iaload, 1, 0, 0, 0, 0), (30, .iconst 1, 1, 0, 0, 0, 0), (31, .iadd, 1, 0, 0, 0, 0)],
  [(32, .iastore, 1, 0, 0, 0, 0), (33, .iload_n 1, 1, 0, 0, 0, 0), (34, .ireturn, 1, 0, 0, 0, 0), (35, .aload_n 0, 1, 0, 0, 0, 0), (36, .iload_n 2, 1, 0, 0, 0, 0), (37, .iload_n 3, 1, 0, 0, 0, 0), (38, .iload 4, 2, 0, 0, 0, 0), (40, .iload 5, 2, 0, 0, 0, 0), (42, .iload 6, 2, 0, 0, 0, 0), (44, .iload 7, 2, 0, 0, 0, 0), (46, .invokevirtual 445, 3, 267, 7, 10, 0)],
  [(49, .ireturn, 1, 0, 0, 0, 0)]]
/-- ClosedRoomsModel.create(I)I -/
def cd_269 : List (List CE) := [[(0, .aload_n 0, 1, 0, 0, 0, 0), (1, .iconst (-1), 1, 0, 0, 0, 0), (2, .iconst 0, 1, 0, 0, 0, 0), (3, .iload_n 1, 1, 0, 0, 0, 0), (4, .iconst 0, 1, 0, 0, 0, 0), (5, .iconst 0, 1, 0, 0, 0, 0), (6, .iconst 0, 1, 0, 0, 0, 0), (7, .iconst 0, 1, 0, 0, 0, 0), (8, .invokevirtual 448, 3, 268, 8, 10, 0), (11, .ireturn, 1, 0, 0, 0, 0)]]
/-- ClosedRoomsModel.slots()I -/
def cd_270 : List (List CE) := [[(0, .aload_n 0, 1, 0, 0, 0, 0), (1, .iconst (-1), 1, 0, 0, 0, 0), (2, .iconst 1, 1, 0, 0, 0, 0), (3, .iconst 0, 1, 0, 0, 0, 0), (4, .iconst 0, 1, 0, 0, 0, 0), (5, .iconst 0, 1, 0, 0, 0, 0), (6, .iconst 0, 1, 0, 0, 0, 0), (7, .iconst 0, 1, 0, 0, 0, 0), (8, .invokevirtual 448, 3, 268, 8, 10, 0), (11, .ireturn, 1, 0, 0, 0, 0)]]
/-- ClosedRoomsModel.add(IIIII)I -/
def cd_271 : List (List CE) := [[(0, .aload_n 0, 1, 0, 0, 0, 0), (1, .iconst (-1), 1, 0, 0, 0, 0), (2, .iconst 2, 1, 0, 0, 0, 0), (3, .iload_n 1, 1, 0, 0, 0, 0), (4, .iload_n 2, 1, 0, 0, 0, 0), (5, .iload_n 3, 1, 0, 0, 0, 0), (6, .iload 4, 2, 0, 0, 0, 0), (8, .iload 5, 2, 0, 0, 0, 0), (10, .invokevirtual 448, 3, 268, 8, 10, 0), (13, .ireturn, 1, 0, 0, 0, 0)]]
/-- ClosedRoomsModel.extend(II)I -/
def cd_272 : List (List CE) := [[(0, .aload_n 0, 1, 0, 0, 0, 0), (1, .ldc_w 452, 3, 0, 0, 0, (-1000000)), (4, .iconst 3, 1, 0, 0, 0, 0), (5, .iload_n 1, 1, 0, 0, 0, 0), (6, .iload_n 2, 1, 0, 0, 0, 0), (7, .iconst 0, 1, 0, 0, 0, 0), (8, .iconst 0, 1, 0, 0, 0, 0), (9, .iconst 0, 1, 0, 0, 0, 0), (10, .invokevirtual 448, 3, 268, 8, 10, 0), (13, .ireturn, 1, 0, 0, 0, 0)]]
/-- ClosedRoomsModel.seal(II)I -/
def cd_273 : List (List CE) := [[(0, .aload_n 0, 1, 0, 0, 0, 0), (1, .iconst (-1), 1, 0, 0, 0, 0), (2, .iconst 4, 1, 0, 0, 0, 0), (3, .iload_n 1, 1, 0, 0, 0, 0), (4, .iload_n 2, 1, 0, 0, 0, 0), (5, .iconst 0, 1, 0, 0, 0, 0), (6, .iconst 0, 1, 0, 0, 0, 0), (7, .iconst 0, 1, 0, 0, 0, 0), (8, .invokevirtual 448, 3, 268, 8, 10, 0), (11, .ireturn, 1, 0, 0, 0, 0)]]
/-- ClosedRoomsModel.enter(III)I -/
def cd_274 : List (List CE) := [[(0, .aload_n 0, 1, 0, 0, 0, 0), (1, .iconst (-1), 1, 0, 0, 0, 0), (2, .iconst 5, 1, 0, 0, 0, 0), (3, .iload_n 1, 1, 0, 0, 0, 0), (4, .iload_n 2, 1, 0, 0, 0, 0), (5, .iload_n 3, 1, 0, 0, 0, 0), (6, .iconst 0, 1, 0, 0, 0, 0), (7, .iconst 0, 1, 0, 0, 0, 0), (8, .invokevirtual 448, 3, 268, 8, 10, 0), (11, .ireturn, 1, 0, 0, 0, 0)]]
/-- ClosedRoomsModel.leave(I)I -/
def cd_275 : List (List CE) := [[(0, .aload_n 0, 1, 0, 0, 0, 0), (1, .iconst (-1), 1, 0, 0, 0, 0), (2, .bipush 6, 2, 0, 0, 0, 0), (4, .iload_n 1, 1, 0, 0, 0, 0), (5, .iconst 0, 1, 0, 0, 0, 0), (6, .iconst 0, 1, 0, 0, 0, 0), (7, .iconst 0, 1, 0, 0, 0, 0), (8, .iconst 0, 1, 0, 0, 0, 0), (9, .invokevirtual 448, 3, 268, 8, 10, 0), (12, .ireturn, 1, 0, 0, 0, 0)]]
/-- ClosedRoomsModel.trap(I)I -/
def cd_276 : List (List CE) := [[(0, .aload_n 0, 1, 0, 0, 0, 0), (1, .iconst (-1), 1, 0, 0, 0, 0), (2, .bipush 7, 2, 0, 0, 0, 0), (4, .iload_n 1, 1, 0, 0, 0, 0), (5, .iconst 0, 1, 0, 0, 0, 0), (6, .iconst 0, 1, 0, 0, 0, 0), (7, .iconst 0, 1, 0, 0, 0, 0), (8, .iconst 0, 1, 0, 0, 0, 0), (9, .invokevirtual 448, 3, 268, 8, 10, 0), (12, .ireturn, 1, 0, 0, 0, 0)]]
/-- ClosedRoomsModel.resume(III)I -/
def cd_277 : List (List CE) := [[(0, .aload_n 0, 1, 0, 0, 0, 0), (1, .iconst (-1), 1, 0, 0, 0, 0), (2, .bipush 8, 2, 0, 0, 0, 0), (4, .iload_n 1, 1, 0, 0, 0, 0), (5, .iload_n 2, 1, 0, 0, 0, 0), (6, .iload_n 3, 1, 0, 0, 0, 0), (7, .iconst 0, 1, 0, 0, 0, 0), (8, .iconst 0, 1, 0, 0, 0, 0), (9, .invokevirtual 448, 3, 268, 8, 10, 0), (12, .ireturn, 1, 0, 0, 0, 0)]]
/-- ClosedRoomsModel.touch(III)I -/
def cd_278 : List (List CE) := [[(0, .aload_n 0, 1, 0, 0, 0, 0), (1, .iconst (-1), 1, 0, 0, 0, 0), (2, .bipush 9, 2, 0, 0, 0, 0), (4, .iload_n 1, 1, 0, 0, 0, 0), (5, .iload_n 2, 1, 0, 0, 0, 0), (6, .iload_n 3, 1, 0, 0, 0, 0), (7, .iconst 0, 1, 0, 0, 0, 0), (8, .iconst 0, 1, 0, 0, 0, 0), (9, .invokevirtual 448, 3, 268, 8, 10, 0), (12, .ireturn, 1, 0, 0, 0, 0)]]
/-- ClosedRoomsModel.block(I)I -/
def cd_279 : List (List CE) := [[(0, .aload_n 0, 1, 0, 0, 0, 0), (1, .iconst (-1), 1, 0, 0, 0, 0), (2, .bipush 10, 2, 0, 0, 0, 0), (4, .iload_n 1, 1, 0, 0, 0, 0), (5, .iconst 0, 1, 0, 0, 0, 0), (6, .iconst 0, 1, 0, 0, 0, 0), (7, .iconst 0, 1, 0, 0, 0, 0), (8, .iconst 0, 1, 0, 0, 0, 0), (9, .invokevirtual 448, 3, 268, 8, 10, 0), (12, .ireturn, 1, 0, 0, 0, 0)]]
/-- ClosedRoomsModel.track(I)I -/
def cd_280 : List (List CE) := [[(0, .aload_n 0, 1, 0, 0, 0, 0), (1, .iconst (-1), 1, 0, 0, 0, 0), (2, .bipush 11, 2, 0, 0, 0, 0), (4, .iload_n 1, 1, 0, 0, 0, 0), (5, .iconst 0, 1, 0, 0, 0, 0), (6, .iconst 0, 1, 0, 0, 0, 0), (7, .iconst 0, 1, 0, 0, 0, 0), (8, .iconst 0, 1, 0, 0, 0, 0), (9, .invokevirtual 448, 3, 268, 8, 10, 0), (12, .ireturn, 1, 0, 0, 0, 0)]]
/-- ClosedRoomsModel.evict(III)I -/
def cd_281 : List (List CE) := [[(0, .aload_n 0, 1, 0, 0, 0, 0), (1, .iconst (-1), 1, 0, 0, 0, 0), (2, .bipush 12, 2, 0, 0, 0, 0), (4, .iload_n 1, 1, 0, 0, 0, 0), (5, .iload_n 2, 1, 0, 0, 0, 0), (6, .iload_n 3, 1, 0, 0, 0, 0), (7, .iconst 0, 1, 0, 0, 0, 0), (8, .iconst 0, 1, 0, 0, 0, 0), (9, .invokevirtual 448, 3, 268, 8, 10, 0), (12, .ireturn, 1, 0, 0, 0, 0)]]
/-- ClosedRoomsModel.load(III)I -/
def cd_282 : List (List CE) := [[(0, .aload_n 0, 1, 0, 0, 0, 0), (1, .iconst (-1), 1, 0, 0, 0, 0), (2, .bipush 13, 2, 0, 0, 0, 0), (4, .iload_n 1, 1, 0, 0, 0, 0), (5, .iload_n 2, 1, 0, 0, 0, 0), (6, .iload_n 3, 1, 0, 0, 0, 0), (7, .iconst 0, 1, 0, 0, 0, 0), (8, .iconst 0, 1, 0, 0, 0, 0), (9, .invokevirtual 448, 3, 268, 8, 10, 0), (12, .ireturn, 1, 0, 0, 0, 0)]]
/-- ClosedRoomsModel.remove(I)I -/
def cd_283 : List (List CE) := [[(0, .aload_n 0, 1, 0, 0, 0, 0), (1, .iconst (-1), 1, 0, 0, 0, 0), (2, .bipush 14, 2, 0, 0, 0, 0), (4, .iload_n 1, 1, 0, 0, 0, 0), (5, .iconst 0, 1, 0, 0, 0, 0), (6, .iconst 0, 1, 0, 0, 0, 0), (7, .iconst 0, 1, 0, 0, 0, 0), (8, .iconst 0, 1, 0, 0, 0, 0), (9, .invokevirtual 448, 3, 268, 8, 10, 0), (12, .ireturn, 1, 0, 0, 0, 0)]]
/-- ClosedRoomsModel.map(III)I -/
def cd_284 : List (List CE) := [[(0, .aload_n 0, 1, 0, 0, 0, 0), (1, .ldc_w 452, 3, 0, 0, 0, (-1000000)), (4, .bipush 15, 2, 0, 0, 0, 0), (6, .iload_n 1, 1, 0, 0, 0, 0), (7, .iload_n 2, 1, 0, 0, 0, 0), (8, .iload_n 3, 1, 0, 0, 0, 0), (9, .iconst 0, 1, 0, 0, 0, 0), (10, .iconst 0, 1, 0, 0, 0, 0), (11, .invokevirtual 448, 3, 268, 8, 10, 0), (14, .ireturn, 1, 0, 0, 0, 0)]]
/-- ClosedRoomsModel.twice(I)I -/
def cd_285 : List (List CE) := [[(0, .aload_n 0, 1, 0, 0, 0, 0), (1, .iconst (-1), 1, 0, 0, 0, 0), (2, .bipush 16, 2, 0, 0, 0, 0), (4, .iload_n 1, 1, 0, 0, 0, 0), (5, .iconst 0, 1, 0, 0, 0, 0), (6, .iconst 0, 1, 0, 0, 0, 0), (7, .iconst 0, 1, 0, 0, 0, 0), (8, .iconst 0, 1, 0, 0, 0, 0), (9, .invokevirtual 448, 3, 268, 8, 10, 0), (12, .ireturn, 1, 0, 0, 0, 0)]]
/-- ClosedRoomsModel.change(II)I -/
def cd_286 : List (List CE) := [[(0, .aload_n 0, 1, 0, 0, 0, 0), (1, .iconst (-1), 1, 0, 0, 0, 0), (2, .bipush 17, 2, 0, 0, 0, 0), (4, .iload_n 1, 1, 0, 0, 0, 0), (5, .iload_n 2, 1, 0, 0, 0, 0), (6, .iconst 0, 1, 0, 0, 0, 0), (7, .iconst 0, 1, 0, 0, 0, 0), (8, .iconst 0, 1, 0, 0, 0, 0), (9, .invokevirtual 448, 3, 268, 8, 10, 0), (12, .ireturn, 1, 0, 0, 0, 0)]]
/-- ClosedRoomsModel.drop(I)I -/
def cd_287 : List (List CE) := [[(0, .aload_n 0, 1, 0, 0, 0, 0), (1, .iconst (-1), 1, 0, 0, 0, 0), (2, .bipush 18, 2, 0, 0, 0, 0), (4, .iload_n 1, 1, 0, 0, 0, 0), (5, .iconst 0, 1, 0, 0, 0, 0), (6, .iconst 0, 1, 0, 0, 0, 0), (7, .iconst 0, 1, 0, 0, 0, 0), (8, .iconst 0, 1, 0, 0, 0, 0), (9, .invokevirtual 448, 3, 268, 8, 10, 0), (12, .ireturn, 1, 0, 0, 0, 0)]]
/-- ClosedRoomsModel.tell(II)I -/
def cd_288 : List (List CE) := [[(0, .aload_n 0, 1, 0, 0, 0, 0), (1, .iconst (-1), 1, 0, 0, 0, 0), (2, .bipush 19, 2, 0, 0, 0, 0), (4, .iload_n 1, 1, 0, 0, 0, 0), (5, .iload_n 2, 1, 0, 0, 0, 0), (6, .iconst 0, 1, 0, 0, 0, 0), (7, .iconst 0, 1, 0, 0, 0, 0), (8, .iconst 0, 1, 0, 0, 0, 0), (9, .invokevirtual 448, 3, 268, 8, 10, 0), (12, .ireturn, 1, 0, 0, 0, 0)]]
/-- ClosedRoomsModel.status(I)I -/
def cd_289 : List (List CE) := [[(0, .iload_n 1, 1, 0, 0, 0, 0), (1, .iconst 0, 1, 0, 0, 0, 0), (2, .iconst 4, 1, 0, 0, 0, 0), (3, .invokestatic 54, 3, 168, 3, 10, 0), (6, .ifCond .eq 12, 3, 0, 0, 0, 0), (9, .aload_n 0, 1, 0, 0, 0, 0), (10, .getfield 28, 3, 10, 16, 16, 0), (13, .iload_n 1, 1, 0, 0, 0, 0), (14, .iaload, 1, 0, 0, 0, 0), (15, .goto 4, 3, 0, 0, 0, 0)],
  [(18, .iconst (-1), 1, 0, 0, 0, 0), (19, .ireturn, 1, 0, 0, 0, 0)]]
/-- ClosedRoomsModel.undo()I -/
def cd_290 : List (List CE) := [[(0, .aload_n 0, 1, 0, 0, 0, 0), (1, .getfield 228, 3, 10, 18, 18, 0), (4, .ifCond .ne 5, 3, 0, 0, 0, 0), (7, .iconst (-1), 1, 0, 0, 0, 0), (8, .ireturn, 1, 0, 0, 0, 0), (9, .aload_n 0, 1, 0, 0, 0, 0), (10, .dup, 1, 0, 0, 0, 0), (11, .getfield 228, 3, 10, 18, 18, 0), (14, .iconst 1, 1, 0, 0, 0, 0), (15, .isub, 1, 0, 0, 0, 0)],
  [(16, .putfield 228, 3, 10, 18, 18, 0), (19, .iconst 0, 1, 0, 0, 0, 0), (20, .istore_n 1, 1, 0, 0, 0, 0), (21, .iload_n 1, 1, 0, 0, 0, 0), (22, .sipush 526, 3, 0, 0, 0, 0), (25, .if_icmp .ge 30, 3, 0, 0, 0, 0), (28, .aload_n 0, 1, 0, 0, 0, 0), (29, .getfield 25, 3, 10, 15, 15, 0)],
  [(32, .iload_n 1, 1, 0, 0, 0, 0), (33, .aload_n 0, 1, 0, 0, 0, 0), (34, .getfield 31, 3, 10, 17, 17, 0), (37, .sipush 526, 3, 0, 0, 0, 0), (40, .aload_n 0, 1, 0, 0, 0, 0), (41, .getfield 228, 3, 10, 18, 18, 0), (44, .imul, 1, 0, 0, 0, 0), (45, .iload_n 1, 1, 0, 0, 0, 0), (46, .iadd, 1, 0, 0, 0, 0), (47, .iaload, 1, 0, 0, 0, 0)],
  [(48, .iastore, 1, 0, 0, 0, 0), (49, .iinc 1 1, 3, 0, 0, 0, 0), (52, .goto (-31), 3, 0, 0, 0, 0), (55, .aload_n 0, 1, 0, 0, 0, 0), (56, .getfield 228, 3, 10, 18, 18, 0), (59, .ireturn, 1, 0, 0, 0, 0)]]
/-- ClosedRoomsModel.log(II)I -/
def cd_291 : List (List CE) := [[(0, .iload_n 1, 1, 0, 0, 0, 0), (1, .iconst 0, 1, 0, 0, 0, 0), (2, .aload_n 0, 1, 0, 0, 0, 0), (3, .getfield 25, 3, 10, 15, 15, 0), (6, .sipush 345, 3, 0, 0, 0, 0), (9, .iaload, 1, 0, 0, 0, 0), (10, .iconst 1, 1, 0, 0, 0, 0), (11, .isub, 1, 0, 0, 0, 0), (12, .invokestatic 54, 3, 168, 3, 10, 0), (15, .ifCond .eq 40, 3, 0, 0, 0, 0)],
  [(18, .iload_n 2, 1, 0, 0, 0, 0), (19, .iconst 0, 1, 0, 0, 0, 0), (20, .iconst 2, 1, 0, 0, 0, 0), (21, .invokestatic 54, 3, 168, 3, 10, 0), (24, .ifCond .eq 31, 3, 0, 0, 0, 0), (27, .aload_n 0, 1, 0, 0, 0, 0), (28, .getfield 25, 3, 10, 15, 15, 0), (31, .sipush 346, 3, 0, 0, 0, 0)],
  [(34, .iconst 3, 1, 0, 0, 0, 0), (35, .aload_n 0, 1, 0, 0, 0, 0), (36, .getfield 25, 3, 10, 15, 15, 0), (39, .sipush 345, 3, 0, 0, 0, 0), (42, .iaload, 1, 0, 0, 0, 0), (43, .iconst 1, 1, 0, 0, 0, 0), (44, .isub, 1, 0, 0, 0, 0), (45, .iload_n 1, 1, 0, 0, 0, 0), (46, .isub, 1, 0, 0, 0, 0), (47, .imul, 1, 0, 0, 0, 0)],
  [(48, .iadd, 1, 0, 0, 0, 0), (49, .iload_n 2, 1, 0, 0, 0, 0), (50, .iadd, 1, 0, 0, 0, 0), (51, .iaload, 1, 0, 0, 0, 0), (52, .goto 6, 3, 0, 0, 0, 0), (55, .ldc_w 452, 3, 0, 0, 0, (-1000000)), (58, .ireturn, 1, 0, 0, 0, 0)]]
/-- ClosedRoomsModel.rule(I)I -/
def cd_292 : List (List CE) := [[(0, .aload_n 0, 1, 0, 0, 0, 0), (1, .getfield 199, 3, 10, 11, 11, 0), (4, .ifCond .eq 21, 3, 0, 0, 0, 0), (7, .iload_n 1, 1, 0, 0, 0, 0), (8, .iconst 0, 1, 0, 0, 0, 0), (9, .iconst 3, 1, 0, 0, 0, 0), (10, .invokestatic 54, 3, 168, 3, 10, 0), (13, .ifCond .eq 12, 3, 0, 0, 0, 0)],
  [(16, .aload_n 0, 1, 0, 0, 0, 0), (17, .getfield 16, 3, 10, 10, 10, 0), (20, .iload_n 1, 1, 0, 0, 0, 0), (21, .iaload, 1, 0, 0, 0, 0), (22, .goto 4, 3, 0, 0, 0, 0), (25, .iconst (-1), 1, 0, 0, 0, 0), (26, .ireturn, 1, 0, 0, 0, 0)]]
/-- ClosedRoomsModel.page(II)I -/
def cd_293 : List (List CE) := [[(0, .aload_n 0, 1, 0, 0, 0, 0), (1, .iload_n 1, 1, 0, 0, 0, 0), (2, .invokevirtual 203, 3, 211, 2, 10, 0), (5, .ifCond .eq 12, 3, 0, 0, 0, 0), (8, .iload_n 2, 1, 0, 0, 0, 0), (9, .iconst 0, 1, 0, 0, 0, 0), (10, .iconst 5, 1, 0, 0, 0, 0), (11, .invokestatic 54, 3, 168, 3, 10, 0), (14, .ifCond .ne 7, 3, 0, 0, 0, 0)],
  [(17, .ldc_w 452, 3, 0, 0, 0, (-1000000)), (20, .ireturn, 1, 0, 0, 0, 0), (21, .aload_n 0, 1, 0, 0, 0, 0), (22, .iload_n 1, 1, 0, 0, 0, 0), (23, .iconst 0, 1, 0, 0, 0, 0), (24, .invokevirtual 206, 3, 196, 3, 10, 0), (27, .istore_n 3, 1, 0, 0, 0, 0), (28, .iload_n 3, 1, 0, 0, 0, 0), (29, .ifCond .eq 12, 3, 0, 0, 0, 0)],
  [(32, .iload_n 3, 1, 0, 0, 0, 0), (33, .iconst 4, 1, 0, 0, 0, 0), (34, .if_icmp .eq 7, 3, 0, 0, 0, 0), (37, .iconst 1, 1, 0, 0, 0, 0), (38, .goto 4, 3, 0, 0, 0, 0), (41, .iconst 0, 1, 0, 0, 0, 0), (42, .istore 4, 2, 0, 0, 0, 0), (44, .iload_n 2, 1, 0, 0, 0, 0), (45, .tableswitch 92 0 4 #[35, 37, 44, 51, 67], 35, 0, 0, 0, 0)],
  [],
  [],
  [(80, .iload_n 3, 1, 0, 0, 0, 0), (81, .ireturn, 1, 0, 0, 0, 0), (82, .aload_n 0, 1, 0, 0, 0, 0), (83, .iload_n 1, 1, 0, 0, 0, 0), (84, .iconst 1, 1, 0, 0, 0, 0), (85, .invokevirtual 206, 3, 196, 3, 10, 0), (88, .ireturn, 1, 0, 0, 0, 0), (89, .aload_n 0, 1, 0, 0, 0, 0), (90, .iload_n 1, 1, 0, 0, 0, 0), (91, .iconst 2, 1, 0, 0, 0, 0), (92, .invokevirtual 206, 3, 196, 3, 10, 0), (95, .ireturn, 1, 0, 0, 0, 0)],
  [(96, .iload 4, 2, 0, 0, 0, 0), (98, .ifCond .eq 12, 3, 0, 0, 0, 0), (101, .aload_n 0, 1, 0, 0, 0, 0), (102, .iload_n 1, 1, 0, 0, 0, 0), (103, .iconst 3, 1, 0, 0, 0, 0), (104, .invokevirtual 206, 3, 196, 3, 10, 0), (107, .goto 4, 3, 0, 0, 0, 0), (110, .iconst (-1), 1, 0, 0, 0, 0), (111, .ireturn, 1, 0, 0, 0, 0)],
  [(112, .iload 4, 2, 0, 0, 0, 0), (114, .ifCond .ne 7, 3, 0, 0, 0, 0), (117, .iconst (-1), 1, 0, 0, 0, 0), (118, .goto 18, 3, 0, 0, 0, 0), (121, .aload_n 0, 1, 0, 0, 0, 0), (122, .iload_n 1, 1, 0, 0, 0, 0), (123, .iconst 5, 1, 0, 0, 0, 0), (124, .invokevirtual 206, 3, 196, 3, 10, 0), (127, .iconst (-1), 1, 0, 0, 0, 0)],
  [(128, .if_icmp .eq 7, 3, 0, 0, 0, 0), (131, .iconst 1, 1, 0, 0, 0, 0), (132, .goto 4, 3, 0, 0, 0, 0), (135, .iconst 0, 1, 0, 0, 0, 0), (136, .ireturn, 1, 0, 0, 0, 0), (137, .iload_n 3, 1, 0, 0, 0, 0), (138, .iconst 3, 1, 0, 0, 0, 0), (139, .if_icmp .ne 13, 3, 0, 0, 0, 0), (142, .aload_n 0, 1, 0, 0, 0, 0), (143, .iload_n 1, 1, 0, 0, 0, 0)],
  [(144, .bipush 6, 2, 0, 0, 0, 0), (146, .invokevirtual 206, 3, 196, 3, 10, 0), (149, .goto 4, 3, 0, 0, 0, 0), (152, .iconst (-1), 1, 0, 0, 0, 0), (153, .ireturn, 1, 0, 0, 0, 0)]]
/-- ClosedRoomsModel.version(II)I -/
def cd_294 : List (List CE) := [[(0, .aload_n 0, 1, 0, 0, 0, 0), (1, .iload_n 1, 1, 0, 0, 0, 0), (2, .invokevirtual 289, 3, 223, 2, 10, 0), (5, .ifCond .eq 24, 3, 0, 0, 0, 0), (8, .iload_n 2, 1, 0, 0, 0, 0), (9, .iconst 0, 1, 0, 0, 0, 0), (10, .iconst 3, 1, 0, 0, 0, 0), (11, .invokestatic 54, 3, 168, 3, 10, 0), (14, .ifCond .eq 15, 3, 0, 0, 0, 0)],
  [(17, .aload_n 0, 1, 0, 0, 0, 0), (18, .iload_n 1, 1, 0, 0, 0, 0), (19, .bipush 7, 2, 0, 0, 0, 0), (21, .iload_n 2, 1, 0, 0, 0, 0), (22, .iadd, 1, 0, 0, 0, 0), (23, .invokevirtual 206, 3, 196, 3, 10, 0), (26, .goto 4, 3, 0, 0, 0, 0), (29, .iconst (-1), 1, 0, 0, 0, 0), (30, .ireturn, 1, 0, 0, 0, 0)]]
/-- ClosedRoomsModel.addressesBy(II)I -/
def cd_295 : List (List CE) := [[(0, .iconst 0, 1, 0, 0, 0, 0), (1, .istore_n 3, 1, 0, 0, 0, 0), (2, .iconst 0, 1, 0, 0, 0, 0), (3, .istore 4, 2, 0, 0, 0, 0), (5, .iload 4, 2, 0, 0, 0, 0), (7, .bipush 8, 2, 0, 0, 0, 0), (9, .if_icmp .ge 34, 3, 0, 0, 0, 0), (12, .iload_n 3, 1, 0, 0, 0, 0), (13, .aload_n 0, 1, 0, 0, 0, 0), (14, .iload_n 1, 1, 0, 0, 0, 0), (15, .bipush 7, 2, 0, 0, 0, 0)],
  [(17, .iload 4, 2, 0, 0, 0, 0), (19, .iadd, 1, 0, 0, 0, 0), (20, .invokevirtual 209, 3, 198, 3, 10, 0), (23, .iload_n 2, 1, 0, 0, 0, 0), (24, .if_icmp .ne 10, 3, 0, 0, 0, 0), (27, .iconst 1, 1, 0, 0, 0, 0), (28, .iload 4, 2, 0, 0, 0, 0), (30, .ishl, 1, 0, 0, 0, 0), (31, .goto 4, 3, 0, 0, 0, 0)],
  [(34, .iconst 0, 1, 0, 0, 0, 0), (35, .ior, 1, 0, 0, 0, 0), (36, .istore_n 3, 1, 0, 0, 0, 0), (37, .iinc 4 1, 3, 0, 0, 0, 0), (40, .goto (-35), 3, 0, 0, 0, 0), (43, .iload_n 3, 1, 0, 0, 0, 0), (44, .ireturn, 1, 0, 0, 0, 0)]]
/-- ClosedRoomsModel.room(II)I -/
def cd_296 : List (List CE) := [[(0, .aload_n 0, 1, 0, 0, 0, 0), (1, .aload_n 0, 1, 0, 0, 0, 0), (2, .iload_n 1, 1, 0, 0, 0, 0), (3, .invokevirtual 252, 3, 201, 2, 10, 0), (6, .ifCond .eq 17, 3, 0, 0, 0, 0), (9, .iload_n 2, 1, 0, 0, 0, 0), (10, .iconst 0, 1, 0, 0, 0, 0), (11, .bipush 8, 2, 0, 0, 0, 0), (13, .invokestatic 54, 3, 168, 3, 10, 0)],
  [(16, .ifCond .eq 7, 3, 0, 0, 0, 0), (19, .iconst 0, 1, 0, 0, 0, 0), (20, .goto 4, 3, 0, 0, 0, 0), (23, .iconst 1, 1, 0, 0, 0, 0), (24, .putfield 43, 3, 10, 0, 0, 0), (27, .aload_n 0, 1, 0, 0, 0, 0), (28, .getfield 43, 3, 10, 0, 0, 0), (31, .iconst 1, 1, 0, 0, 0, 0)],
  [(32, .if_icmp .ne 5, 3, 0, 0, 0, 0), (35, .iconst 0, 1, 0, 0, 0, 0), (36, .ireturn, 1, 0, 0, 0, 0), (37, .iload_n 2, 1, 0, 0, 0, 0), (38, .tableswitch 58 5 8 #[30, 38, 44, 51], 30, 0, 0, 0, 0)],
  [],
  [(68, .aload_n 0, 1, 0, 0, 0, 0), (69, .iload_n 1, 1, 0, 0, 0, 0), (70, .bipush 6, 2, 0, 0, 0, 0), (72, .invokevirtual 209, 3, 198, 3, 10, 0), (75, .ireturn, 1, 0, 0, 0, 0), (76, .aload_n 0, 1, 0, 0, 0, 0), (77, .iload_n 1, 1, 0, 0, 0, 0), (78, .invokevirtual 310, 3, 234, 2, 10, 0)],
  [(81, .ireturn, 1, 0, 0, 0, 0), (82, .aload_n 0, 1, 0, 0, 0, 0), (83, .iload_n 1, 1, 0, 0, 0, 0), (84, .iconst 1, 1, 0, 0, 0, 0), (85, .invokevirtual 453, 3, 295, 3, 10, 0), (88, .ireturn, 1, 0, 0, 0, 0), (89, .aload_n 0, 1, 0, 0, 0, 0), (90, .iload_n 1, 1, 0, 0, 0, 0), (91, .iconst 2, 1, 0, 0, 0, 0), (92, .invokevirtual 453, 3, 295, 3, 10, 0), (95, .ireturn, 1, 0, 0, 0, 0)],
  [(96, .aload_n 0, 1, 0, 0, 0, 0), (97, .iload_n 1, 1, 0, 0, 0, 0), (98, .iconst 1, 1, 0, 0, 0, 0), (99, .iload_n 2, 1, 0, 0, 0, 0), (100, .iadd, 1, 0, 0, 0, 0), (101, .invokevirtual 209, 3, 198, 3, 10, 0), (104, .ireturn, 1, 0, 0, 0, 0)]]
/-- ClosedRoomsModel.mapped(II)I -/
def cd_297 : List (List CE) := [[(0, .aload_n 0, 1, 0, 0, 0, 0), (1, .iload_n 1, 1, 0, 0, 0, 0), (2, .invokevirtual 252, 3, 201, 2, 10, 0), (5, .ifCond .eq 21, 3, 0, 0, 0, 0), (8, .aload_n 0, 1, 0, 0, 0, 0), (9, .iload_n 1, 1, 0, 0, 0, 0), (10, .iload_n 2, 1, 0, 0, 0, 0), (11, .invokevirtual 255, 3, 202, 3, 10, 0), (14, .ifCond .eq 12, 3, 0, 0, 0, 0)],
  [(17, .aload_n 0, 1, 0, 0, 0, 0), (18, .iload_n 1, 1, 0, 0, 0, 0), (19, .iload_n 2, 1, 0, 0, 0, 0), (20, .invokevirtual 267, 3, 210, 3, 10, 0), (23, .goto 4, 3, 0, 0, 0, 0), (26, .iconst (-1), 1, 0, 0, 0, 0), (27, .ireturn, 1, 0, 0, 0, 0)]]
/-- ClosedRoomsModel.core(II)I -/
def cd_298 : List (List CE) := [[(0, .aload_n 0, 1, 0, 0, 0, 0), (1, .iload_n 1, 1, 0, 0, 0, 0), (2, .invokevirtual 261, 3, 207, 2, 10, 0), (5, .ifCond .eq 21, 3, 0, 0, 0, 0), (8, .iload_n 2, 1, 0, 0, 0, 0), (9, .iconst 0, 1, 0, 0, 0, 0), (10, .iconst 4, 1, 0, 0, 0, 0), (11, .invokestatic 54, 3, 168, 3, 10, 0), (14, .ifCond .eq 12, 3, 0, 0, 0, 0)],
  [(17, .aload_n 0, 1, 0, 0, 0, 0), (18, .iload_n 1, 1, 0, 0, 0, 0), (19, .iload_n 2, 1, 0, 0, 0, 0), (20, .invokevirtual 212, 3, 208, 3, 10, 0), (23, .goto 6, 3, 0, 0, 0, 0), (26, .ldc_w 452, 3, 0, 0, 0, (-1000000)), (29, .ireturn, 1, 0, 0, 0, 0)]]
/-- ClosedRoomsModel.seen(III)I -/
def cd_299 : List (List CE) := [[(0, .aload_n 0, 1, 0, 0, 0, 0), (1, .iload_n 1, 1, 0, 0, 0, 0), (2, .invokevirtual 261, 3, 207, 2, 10, 0), (5, .ifCond .eq 43, 3, 0, 0, 0, 0), (8, .iload_n 2, 1, 0, 0, 0, 0), (9, .iconst 0, 1, 0, 0, 0, 0), (10, .aload_n 0, 1, 0, 0, 0, 0), (11, .iload_n 1, 1, 0, 0, 0, 0), (12, .iconst 4, 1, 0, 0, 0, 0), (13, .invokevirtual 212, 3, 208, 3, 10, 0)],
  [(16, .iconst 1, 1, 0, 0, 0, 0), (17, .isub, 1, 0, 0, 0, 0), (18, .invokestatic 54, 3, 168, 3, 10, 0), (21, .ifCond .eq 27, 3, 0, 0, 0, 0), (24, .iload_n 3, 1, 0, 0, 0, 0), (25, .iconst 0, 1, 0, 0, 0, 0), (26, .iconst 1, 1, 0, 0, 0, 0), (27, .invokestatic 54, 3, 168, 3, 10, 0), (30, .ifCond .eq 18, 3, 0, 0, 0, 0)],
  [(33, .aload_n 0, 1, 0, 0, 0, 0), (34, .iload_n 1, 1, 0, 0, 0, 0), (35, .iconst 5, 1, 0, 0, 0, 0), (36, .iconst 2, 1, 0, 0, 0, 0), (37, .iload_n 2, 1, 0, 0, 0, 0), (38, .imul, 1, 0, 0, 0, 0), (39, .iadd, 1, 0, 0, 0, 0), (40, .iload_n 3, 1, 0, 0, 0, 0), (41, .iadd, 1, 0, 0, 0, 0), (42, .invokevirtual 212, 3, 208, 3, 10, 0), (45, .goto 4, 3, 0, 0, 0, 0)],
  [(48, .iconst (-1), 1, 0, 0, 0, 0), (49, .ireturn, 1, 0, 0, 0, 0)]]
/-- ClosedRoomsModel.copyOf(II)I -/
def cd_300 : List (List CE) := [[(0, .aload_n 0, 1, 0, 0, 0, 0), (1, .iload_n 1, 1, 0, 0, 0, 0), (2, .invokevirtual 301, 3, 229, 2, 10, 0), (5, .ifCond .eq 12, 3, 0, 0, 0, 0), (8, .iload_n 2, 1, 0, 0, 0, 0), (9, .iconst 0, 1, 0, 0, 0, 0), (10, .iconst 5, 1, 0, 0, 0, 0), (11, .invokestatic 54, 3, 168, 3, 10, 0), (14, .ifCond .ne 7, 3, 0, 0, 0, 0)],
  [(17, .ldc_w 452, 3, 0, 0, 0, (-1000000)), (20, .ireturn, 1, 0, 0, 0, 0), (21, .iload_n 2, 1, 0, 0, 0, 0), (22, .iconst 5, 1, 0, 0, 0, 0), (23, .if_icmp .ne 13, 3, 0, 0, 0, 0), (26, .aload_n 0, 1, 0, 0, 0, 0), (27, .iload_n 1, 1, 0, 0, 0, 0), (28, .bipush 8, 2, 0, 0, 0, 0), (30, .invokevirtual 215, 3, 226, 3, 10, 0)],
  [(33, .goto 26, 3, 0, 0, 0, 0), (36, .iload_n 2, 1, 0, 0, 0, 0), (37, .iconst 4, 1, 0, 0, 0, 0), (38, .if_icmp .ne 13, 3, 0, 0, 0, 0), (41, .aload_n 0, 1, 0, 0, 0, 0), (42, .iload_n 1, 1, 0, 0, 0, 0), (43, .bipush 7, 2, 0, 0, 0, 0), (45, .invokevirtual 215, 3, 226, 3, 10, 0)],
  [(48, .goto 11, 3, 0, 0, 0, 0), (51, .aload_n 0, 1, 0, 0, 0, 0), (52, .iload_n 1, 1, 0, 0, 0, 0), (53, .iconst 1, 1, 0, 0, 0, 0), (54, .iload_n 2, 1, 0, 0, 0, 0), (55, .iadd, 1, 0, 0, 0, 0), (56, .invokevirtual 215, 3, 226, 3, 10, 0), (59, .ireturn, 1, 0, 0, 0, 0)]]
/-- ClosedRoomsModel.reported(III)I -/
def cd_301 : List (List CE) := [[(0, .bipush 31, 2, 0, 0, 0, 0), (2, .aload_n 0, 1, 0, 0, 0, 0), (3, .getfield 16, 3, 10, 10, 10, 0), (6, .iconst 3, 1, 0, 0, 0, 0), (7, .iaload, 1, 0, 0, 0, 0), (8, .imul, 1, 0, 0, 0, 0), (9, .aload_n 0, 1, 0, 0, 0, 0), (10, .iload_n 1, 1, 0, 0, 0, 0), (11, .iconst 4, 1, 0, 0, 0, 0), (12, .invokevirtual 209, 3, 198, 3, 10, 0), (15, .iadd, 1, 0, 0, 0, 0)],
  [(16, .istore 4, 2, 0, 0, 0, 0), (18, .bipush 31, 2, 0, 0, 0, 0), (20, .iload 4, 2, 0, 0, 0, 0), (22, .imul, 1, 0, 0, 0, 0), (23, .aload_n 0, 1, 0, 0, 0, 0), (24, .iload_n 2, 1, 0, 0, 0, 0), (25, .iconst 4, 1, 0, 0, 0, 0), (26, .invokevirtual 209, 3, 198, 3, 10, 0), (29, .iadd, 1, 0, 0, 0, 0), (30, .istore 4, 2, 0, 0, 0, 0)],
  [(32, .bipush 31, 2, 0, 0, 0, 0), (34, .iload 4, 2, 0, 0, 0, 0), (36, .imul, 1, 0, 0, 0, 0), (37, .iload_n 3, 1, 0, 0, 0, 0), (38, .iadd, 1, 0, 0, 0, 0), (39, .ireturn, 1, 0, 0, 0, 0)]]
/-- ClosedRoomsModel.report(II)I -/
def cd_302 : List (List CE) := [[(0, .aload_n 0, 1, 0, 0, 0, 0), (1, .iload_n 1, 1, 0, 0, 0, 0), (2, .invokevirtual 261, 3, 207, 2, 10, 0), (5, .ifCond .eq 19, 3, 0, 0, 0, 0), (8, .aload_n 0, 1, 0, 0, 0, 0), (9, .iload_n 2, 1, 0, 0, 0, 0), (10, .invokevirtual 252, 3, 201, 2, 10, 0), (13, .ifCond .eq 11, 3, 0, 0, 0, 0)],
  [(16, .aload_n 0, 1, 0, 0, 0, 0), (17, .iload_n 1, 1, 0, 0, 0, 0), (18, .invokevirtual 264, 3, 209, 2, 10, 0), (21, .ifCond .ne 7, 3, 0, 0, 0, 0), (24, .ldc_w 452, 3, 0, 0, 0, (-1000000)), (27, .ireturn, 1, 0, 0, 0, 0), (28, .aload_n 0, 1, 0, 0, 0, 0), (29, .aload_n 0, 1, 0, 0, 0, 0), (30, .iload_n 1, 1, 0, 0, 0, 0), (31, .iconst 1, 1, 0, 0, 0, 0)],
  [(32, .invokevirtual 212, 3, 208, 3, 10, 0), (35, .iload_n 2, 1, 0, 0, 0, 0), (36, .aload_n 0, 1, 0, 0, 0, 0), (37, .iload_n 1, 1, 0, 0, 0, 0), (38, .iconst 0, 1, 0, 0, 0, 0), (39, .invokevirtual 212, 3, 208, 3, 10, 0), (42, .invokevirtual 456, 3, 301, 4, 10, 0), (45, .ireturn, 1, 0, 0, 0, 0)]]
/-- ClosedRoomsModel.proves(IIII)Z -/
def cd_303 : List (List CE) := [[(0, .aload_n 0, 1, 0, 0, 0, 0), (1, .iload_n 1, 1, 0, 0, 0, 0), (2, .invokevirtual 261, 3, 207, 2, 10, 0), (5, .ifCond .eq 40, 3, 0, 0, 0, 0), (8, .aload_n 0, 1, 0, 0, 0, 0), (9, .iload_n 2, 1, 0, 0, 0, 0), (10, .invokevirtual 252, 3, 201, 2, 10, 0), (13, .ifCond .eq 32, 3, 0, 0, 0, 0)],
  [(16, .aload_n 0, 1, 0, 0, 0, 0), (17, .iload_n 1, 1, 0, 0, 0, 0), (18, .invokevirtual 264, 3, 209, 2, 10, 0), (21, .ifCond .eq 24, 3, 0, 0, 0, 0), (24, .iload 4, 2, 0, 0, 0, 0), (26, .aload_n 0, 1, 0, 0, 0, 0), (27, .iload_n 2, 1, 0, 0, 0, 0), (28, .aload_n 0, 1, 0, 0, 0, 0), (29, .iload_n 1, 1, 0, 0, 0, 0), (30, .iconst 1, 1, 0, 0, 0, 0), (31, .invokevirtual 212, 3, 208, 3, 10, 0)],
  [(34, .iload_n 3, 1, 0, 0, 0, 0), (35, .invokevirtual 456, 3, 301, 4, 10, 0), (38, .if_icmp .ne 7, 3, 0, 0, 0, 0), (41, .iconst 1, 1, 0, 0, 0, 0), (42, .goto 4, 3, 0, 0, 0, 0), (45, .iconst 0, 1, 0, 0, 0, 0), (46, .ireturn, 1, 0, 0, 0, 0)]]
/-- ClosedRoomsModel.isInSlots(I)Z -/
def cd_304 : List (List CE) := [[(0, .iconst 0, 1, 0, 0, 0, 0), (1, .istore_n 2, 1, 0, 0, 0, 0), (2, .iconst 0, 1, 0, 0, 0, 0), (3, .istore_n 3, 1, 0, 0, 0, 0), (4, .iload_n 3, 1, 0, 0, 0, 0), (5, .aload_n 0, 1, 0, 0, 0, 0), (6, .getfield 16, 3, 10, 10, 10, 0), (9, .iconst 0, 1, 0, 0, 0, 0), (10, .iaload, 1, 0, 0, 0, 0), (11, .if_icmp .ge 58, 3, 0, 0, 0, 0), (14, .iconst 0, 1, 0, 0, 0, 0), (15, .istore 4, 2, 0, 0, 0, 0)],
  [(17, .iload 4, 2, 0, 0, 0, 0), (19, .iconst 4, 1, 0, 0, 0, 0), (20, .if_icmp .ge 43, 3, 0, 0, 0, 0), (23, .aload_n 0, 1, 0, 0, 0, 0), (24, .iload_n 3, 1, 0, 0, 0, 0), (25, .iconst 0, 1, 0, 0, 0, 0), (26, .invokevirtual 206, 3, 196, 3, 10, 0), (29, .iconst 4, 1, 0, 0, 0, 0), (30, .if_icmp .ne 33, 3, 0, 0, 0, 0)],
  [(33, .iload_n 2, 1, 0, 0, 0, 0), (34, .ifCond .ne 17, 3, 0, 0, 0, 0), (37, .aload_n 0, 1, 0, 0, 0, 0), (38, .iload_n 3, 1, 0, 0, 0, 0), (39, .bipush 7, 2, 0, 0, 0, 0), (41, .iload 4, 2, 0, 0, 0, 0), (43, .iadd, 1, 0, 0, 0, 0), (44, .invokevirtual 206, 3, 196, 3, 10, 0), (47, .iload_n 1, 1, 0, 0, 0, 0)],
  [(48, .if_icmp .ne 7, 3, 0, 0, 0, 0), (51, .iconst 1, 1, 0, 0, 0, 0), (52, .goto 4, 3, 0, 0, 0, 0), (55, .iconst 0, 1, 0, 0, 0, 0), (56, .istore_n 2, 1, 0, 0, 0, 0), (57, .iinc 4 1, 3, 0, 0, 0, 0), (60, .goto (-43), 3, 0, 0, 0, 0), (63, .iinc 3 1, 3, 0, 0, 0, 0)],
  [(66, .goto (-62), 3, 0, 0, 0, 0), (69, .iload_n 2, 1, 0, 0, 0, 0), (70, .ireturn, 1, 0, 0, 0, 0)]]
/-- ClosedRoomsModel.old()I -/
def cd_305 : List (List CE) := [[(0, .aload_n 0, 1, 0, 0, 0, 0), (1, .getfield 199, 3, 10, 11, 11, 0), (4, .ifCond .ne 5, 3, 0, 0, 0, 0), (7, .iconst (-1), 1, 0, 0, 0, 0), (8, .ireturn, 1, 0, 0, 0, 0), (9, .iconst 0, 1, 0, 0, 0, 0), (10, .istore_n 1, 1, 0, 0, 0, 0), (11, .iconst 0, 1, 0, 0, 0, 0), (12, .istore_n 2, 1, 0, 0, 0, 0), (13, .iload_n 2, 1, 0, 0, 0, 0), (14, .bipush 12, 2, 0, 0, 0, 0)],
  [(16, .if_icmp .ge 76, 3, 0, 0, 0, 0), (19, .aload_n 0, 1, 0, 0, 0, 0), (20, .iload_n 2, 1, 0, 0, 0, 0), (21, .invokevirtual 301, 3, 229, 2, 10, 0), (24, .ifCond .eq 46, 3, 0, 0, 0, 0), (27, .aload_n 0, 1, 0, 0, 0, 0), (28, .aload_n 0, 1, 0, 0, 0, 0), (29, .iload_n 2, 1, 0, 0, 0, 0), (30, .bipush 7, 2, 0, 0, 0, 0)],
  [(32, .invokevirtual 215, 3, 226, 3, 10, 0), (35, .invokevirtual 459, 3, 304, 2, 10, 0), (38, .ifCond .eq 28, 3, 0, 0, 0, 0), (41, .aload_n 0, 1, 0, 0, 0, 0), (42, .iload_n 2, 1, 0, 0, 0, 0), (43, .bipush 8, 2, 0, 0, 0, 0), (45, .invokevirtual 215, 3, 226, 3, 10, 0)],
  [(48, .iconst 1, 1, 0, 0, 0, 0), (49, .if_icmp .eq 17, 3, 0, 0, 0, 0), (52, .aload_n 0, 1, 0, 0, 0, 0), (53, .aload_n 0, 1, 0, 0, 0, 0), (54, .iload_n 2, 1, 0, 0, 0, 0), (55, .iconst 1, 1, 0, 0, 0, 0), (56, .invokevirtual 215, 3, 226, 3, 10, 0), (59, .invokevirtual 298, 3, 230, 2, 10, 0), (62, .iconst (-1), 1, 0, 0, 0, 0), (63, .if_icmp .ne 7, 3, 0, 0, 0, 0)],
  [(66, .iconst 1, 1, 0, 0, 0, 0), (67, .goto 4, 3, 0, 0, 0, 0), (70, .iconst 0, 1, 0, 0, 0, 0), (71, .istore_n 3, 1, 0, 0, 0, 0), (72, .iload_n 1, 1, 0, 0, 0, 0), (73, .iload_n 3, 1, 0, 0, 0, 0), (74, .ifCond .eq 9, 3, 0, 0, 0, 0), (77, .iconst 1, 1, 0, 0, 0, 0), (78, .iload_n 2, 1, 0, 0, 0, 0), (79, .ishl, 1, 0, 0, 0, 0)],
  [(80, .goto 4, 3, 0, 0, 0, 0), (83, .iconst 0, 1, 0, 0, 0, 0), (84, .ior, 1, 0, 0, 0, 0), (85, .istore_n 1, 1, 0, 0, 0, 0), (86, .iinc 2 1, 3, 0, 0, 0, 0), (89, .goto (-76), 3, 0, 0, 0, 0), (92, .iload_n 1, 1, 0, 0, 0, 0), (93, .ireturn, 1, 0, 0, 0, 0)]]
/-- ClosedRoomsModel.twins(I)I -/
def cd_306 : List (List CE) := [[(0, .aload_n 0, 1, 0, 0, 0, 0), (1, .iload_n 1, 1, 0, 0, 0, 0), (2, .invokevirtual 301, 3, 229, 2, 10, 0), (5, .ifCond .ne 5, 3, 0, 0, 0, 0), (8, .iconst (-1), 1, 0, 0, 0, 0), (9, .ireturn, 1, 0, 0, 0, 0), (10, .iconst 0, 1, 0, 0, 0, 0), (11, .istore_n 2, 1, 0, 0, 0, 0), (12, .iconst 0, 1, 0, 0, 0, 0), (13, .istore_n 3, 1, 0, 0, 0, 0), (14, .iload_n 3, 1, 0, 0, 0, 0), (15, .bipush 12, 2, 0, 0, 0, 0)],
  [(17, .if_icmp .ge 49, 3, 0, 0, 0, 0), (20, .iload_n 2, 1, 0, 0, 0, 0), (21, .iload_n 3, 1, 0, 0, 0, 0), (22, .iload_n 1, 1, 0, 0, 0, 0), (23, .if_icmp .eq 34, 3, 0, 0, 0, 0), (26, .aload_n 0, 1, 0, 0, 0, 0), (27, .iload_n 3, 1, 0, 0, 0, 0), (28, .invokevirtual 301, 3, 229, 2, 10, 0), (31, .ifCond .eq 26, 3, 0, 0, 0, 0)],
  [(34, .aload_n 0, 1, 0, 0, 0, 0), (35, .iload_n 3, 1, 0, 0, 0, 0), (36, .bipush 7, 2, 0, 0, 0, 0), (38, .invokevirtual 215, 3, 226, 3, 10, 0), (41, .aload_n 0, 1, 0, 0, 0, 0), (42, .iload_n 1, 1, 0, 0, 0, 0), (43, .bipush 7, 2, 0, 0, 0, 0), (45, .invokevirtual 215, 3, 226, 3, 10, 0)],
  [(48, .if_icmp .ne 9, 3, 0, 0, 0, 0), (51, .iconst 1, 1, 0, 0, 0, 0), (52, .iload_n 3, 1, 0, 0, 0, 0), (53, .ishl, 1, 0, 0, 0, 0), (54, .goto 4, 3, 0, 0, 0, 0), (57, .iconst 0, 1, 0, 0, 0, 0), (58, .ior, 1, 0, 0, 0, 0), (59, .istore_n 2, 1, 0, 0, 0, 0), (60, .iinc 3 1, 3, 0, 0, 0, 0), (63, .goto (-49), 3, 0, 0, 0, 0)],
  [(66, .iload_n 2, 1, 0, 0, 0, 0), (67, .ireturn, 1, 0, 0, 0, 0)]]
/-- ClosedRoomsModel.waits(I)I -/
def cd_307 : List (List CE) := [[(0, .aload_n 0, 1, 0, 0, 0, 0), (1, .iload_n 1, 1, 0, 0, 0, 0), (2, .invokevirtual 203, 3, 211, 2, 10, 0), (5, .ifCond .eq 11, 3, 0, 0, 0, 0), (8, .aload_n 0, 1, 0, 0, 0, 0), (9, .iload_n 1, 1, 0, 0, 0, 0), (10, .invokevirtual 279, 3, 219, 2, 10, 0), (13, .ifCond .ne 5, 3, 0, 0, 0, 0)],
  [(16, .iconst (-1), 1, 0, 0, 0, 0), (17, .ireturn, 1, 0, 0, 0, 0), (18, .aload_n 0, 1, 0, 0, 0, 0), (19, .iload_n 1, 1, 0, 0, 0, 0), (20, .iconst 1, 1, 0, 0, 0, 0), (21, .invokevirtual 206, 3, 196, 3, 10, 0), (24, .istore_n 2, 1, 0, 0, 0, 0), (25, .aload_n 0, 1, 0, 0, 0, 0), (26, .iload_n 2, 1, 0, 0, 0, 0), (27, .aload_n 0, 1, 0, 0, 0, 0), (28, .iload_n 1, 1, 0, 0, 0, 0), (29, .iconst 5, 1, 0, 0, 0, 0), (30, .invokevirtual 206, 3, 196, 3, 10, 0)],
  [(33, .iconst (-1), 1, 0, 0, 0, 0), (34, .if_icmp .ne 12, 3, 0, 0, 0, 0), (37, .aload_n 0, 1, 0, 0, 0, 0), (38, .iload_n 2, 1, 0, 0, 0, 0), (39, .iconst 5, 1, 0, 0, 0, 0), (40, .invokevirtual 209, 3, 198, 3, 10, 0), (43, .goto 9, 3, 0, 0, 0, 0), (46, .aload_n 0, 1, 0, 0, 0, 0), (47, .iload_n 1, 1, 0, 0, 0, 0)],
  [(48, .iconst 5, 1, 0, 0, 0, 0), (49, .invokevirtual 206, 3, 196, 3, 10, 0), (52, .invokevirtual 282, 3, 221, 3, 10, 0), (55, .ireturn, 1, 0, 0, 0, 0)]]
/-- ClosedRoomsModel.leaks(I)I -/
def cd_308 : List (List CE) := [[(0, .aload_n 0, 1, 0, 0, 0, 0), (1, .iload_n 1, 1, 0, 0, 0, 0), (2, .invokevirtual 252, 3, 201, 2, 10, 0), (5, .ifCond .ne 5, 3, 0, 0, 0, 0), (8, .iconst (-1), 1, 0, 0, 0, 0), (9, .ireturn, 1, 0, 0, 0, 0), (10, .iconst 0, 1, 0, 0, 0, 0), (11, .istore_n 2, 1, 0, 0, 0, 0), (12, .iconst 0, 1, 0, 0, 0, 0), (13, .istore_n 3, 1, 0, 0, 0, 0), (14, .iload_n 3, 1, 0, 0, 0, 0), (15, .aload_n 0, 1, 0, 0, 0, 0)],
  [(16, .getfield 16, 3, 10, 10, 10, 0), (19, .iconst 1, 1, 0, 0, 0, 0), (20, .iaload, 1, 0, 0, 0, 0), (21, .if_icmp .ge 81, 3, 0, 0, 0, 0), (24, .iconst 0, 1, 0, 0, 0, 0), (25, .istore 4, 2, 0, 0, 0, 0), (27, .iload 4, 2, 0, 0, 0, 0), (29, .aload_n 0, 1, 0, 0, 0, 0), (30, .iload_n 3, 1, 0, 0, 0, 0), (31, .iconst 4, 1, 0, 0, 0, 0)],
  [(32, .invokevirtual 212, 3, 208, 3, 10, 0), (35, .if_icmp .ge 61, 3, 0, 0, 0, 0), (38, .aload_n 0, 1, 0, 0, 0, 0), (39, .iload_n 3, 1, 0, 0, 0, 0), (40, .iconst 1, 1, 0, 0, 0, 0), (41, .invokevirtual 212, 3, 208, 3, 10, 0), (44, .iload_n 1, 1, 0, 0, 0, 0), (45, .if_icmp .ne 51, 3, 0, 0, 0, 0)],
  [(48, .iload_n 2, 1, 0, 0, 0, 0), (49, .aload_n 0, 1, 0, 0, 0, 0), (50, .aload_n 0, 1, 0, 0, 0, 0), (51, .iload_n 3, 1, 0, 0, 0, 0), (52, .iconst 5, 1, 0, 0, 0, 0), (53, .iconst 2, 1, 0, 0, 0, 0), (54, .iload 4, 2, 0, 0, 0, 0), (56, .imul, 1, 0, 0, 0, 0), (57, .iadd, 1, 0, 0, 0, 0), (58, .iconst 1, 1, 0, 0, 0, 0), (59, .iadd, 1, 0, 0, 0, 0), (60, .invokevirtual 212, 3, 208, 3, 10, 0), (63, .iconst 5, 1, 0, 0, 0, 0)],
  [(64, .invokevirtual 206, 3, 196, 3, 10, 0), (67, .iconst (-1), 1, 0, 0, 0, 0), (68, .if_icmp .eq 19, 3, 0, 0, 0, 0), (71, .iconst 1, 1, 0, 0, 0, 0), (72, .aload_n 0, 1, 0, 0, 0, 0), (73, .iload_n 3, 1, 0, 0, 0, 0), (74, .iconst 5, 1, 0, 0, 0, 0), (75, .iconst 2, 1, 0, 0, 0, 0), (76, .iload 4, 2, 0, 0, 0, 0), (78, .imul, 1, 0, 0, 0, 0), (79, .iadd, 1, 0, 0, 0, 0)],
  [(80, .invokevirtual 212, 3, 208, 3, 10, 0), (83, .ishl, 1, 0, 0, 0, 0), (84, .goto 4, 3, 0, 0, 0, 0), (87, .iconst 0, 1, 0, 0, 0, 0), (88, .ior, 1, 0, 0, 0, 0), (89, .istore_n 2, 1, 0, 0, 0, 0), (90, .iinc 4 1, 3, 0, 0, 0, 0), (93, .goto (-66), 3, 0, 0, 0, 0)],
  [(96, .iinc 3 1, 3, 0, 0, 0, 0), (99, .goto (-85), 3, 0, 0, 0, 0), (102, .iload_n 2, 1, 0, 0, 0, 0), (103, .ireturn, 1, 0, 0, 0, 0)]]
/-- ClosedRoomsModel.lies(I)I -/
def cd_309 : List (List CE) := [[(0, .aload_n 0, 1, 0, 0, 0, 0), (1, .iload_n 1, 1, 0, 0, 0, 0), (2, .invokevirtual 252, 3, 201, 2, 10, 0), (5, .ifCond .ne 5, 3, 0, 0, 0, 0), (8, .iconst (-1), 1, 0, 0, 0, 0), (9, .ireturn, 1, 0, 0, 0, 0), (10, .iconst 0, 1, 0, 0, 0, 0), (11, .istore_n 2, 1, 0, 0, 0, 0), (12, .iconst 0, 1, 0, 0, 0, 0), (13, .istore_n 3, 1, 0, 0, 0, 0), (14, .iload_n 3, 1, 0, 0, 0, 0), (15, .aload_n 0, 1, 0, 0, 0, 0)],
  [(16, .iload_n 1, 1, 0, 0, 0, 0), (17, .iconst 2, 1, 0, 0, 0, 0), (18, .invokevirtual 209, 3, 198, 3, 10, 0), (21, .if_icmp .ge 44, 3, 0, 0, 0, 0), (24, .iload_n 2, 1, 0, 0, 0, 0), (25, .aload_n 0, 1, 0, 0, 0, 0), (26, .iload_n 1, 1, 0, 0, 0, 0), (27, .iload_n 3, 1, 0, 0, 0, 0), (28, .invokevirtual 267, 3, 210, 3, 10, 0), (31, .iconst (-1), 1, 0, 0, 0, 0)],
  [(32, .if_icmp .eq 24, 3, 0, 0, 0, 0), (35, .aload_n 0, 1, 0, 0, 0, 0), (36, .aload_n 0, 1, 0, 0, 0, 0), (37, .iload_n 1, 1, 0, 0, 0, 0), (38, .iload_n 3, 1, 0, 0, 0, 0), (39, .invokevirtual 267, 3, 210, 3, 10, 0), (42, .iload_n 1, 1, 0, 0, 0, 0), (43, .iload_n 3, 1, 0, 0, 0, 0), (44, .invokevirtual 243, 3, 212, 4, 10, 0), (47, .ifCond .ne 9, 3, 0, 0, 0, 0)],
  [(50, .iconst 1, 1, 0, 0, 0, 0), (51, .iload_n 3, 1, 0, 0, 0, 0), (52, .ishl, 1, 0, 0, 0, 0), (53, .goto 4, 3, 0, 0, 0, 0), (56, .iconst 0, 1, 0, 0, 0, 0), (57, .ior, 1, 0, 0, 0, 0), (58, .istore_n 2, 1, 0, 0, 0, 0), (59, .iinc 3 1, 3, 0, 0, 0, 0), (62, .goto (-48), 3, 0, 0, 0, 0)],
  [(65, .iload_n 2, 1, 0, 0, 0, 0), (66, .ireturn, 1, 0, 0, 0, 0)]]
/-- ClosedRoomsModel.rankOf(I)I -/
def cd_310 : List (List CE) := [[(0, .iload_n 0, 1, 0, 0, 0, 0), (1, .iconst 2, 1, 0, 0, 0, 0), (2, .if_icmp .ne 7, 3, 0, 0, 0, 0), (5, .iconst 0, 1, 0, 0, 0, 0), (6, .goto 13, 3, 0, 0, 0, 0), (9, .iload_n 0, 1, 0, 0, 0, 0), (10, .iconst 3, 1, 0, 0, 0, 0), (11, .if_icmp .ne 7, 3, 0, 0, 0, 0), (14, .iconst 1, 1, 0, 0, 0, 0), (15, .goto 4, 3, 0, 0, 0, 0)],
  [(18, .iconst 2, 1, 0, 0, 0, 0), (19, .ireturn, 1, 0, 0, 0, 0)]]
/-- ClosedRoomsModel.victim()I -/
def cd_311 : List (List CE) := [[(0, .aload_n 0, 1, 0, 0, 0, 0), (1, .getfield 199, 3, 10, 11, 11, 0), (4, .ifCond .ne 5, 3, 0, 0, 0, 0), (7, .iconst (-1), 1, 0, 0, 0, 0), (8, .ireturn, 1, 0, 0, 0, 0), (9, .iconst (-1), 1, 0, 0, 0, 0), (10, .istore_n 1, 1, 0, 0, 0, 0), (11, .iconst 0, 1, 0, 0, 0, 0), (12, .istore_n 2, 1, 0, 0, 0, 0), (13, .iload_n 2, 1, 0, 0, 0, 0), (14, .aload_n 0, 1, 0, 0, 0, 0), (15, .getfield 16, 3, 10, 10, 10, 0)],
  [(18, .iconst 0, 1, 0, 0, 0, 0), (19, .iaload, 1, 0, 0, 0, 0), (20, .if_icmp .ge 57, 3, 0, 0, 0, 0), (23, .aload_n 0, 1, 0, 0, 0, 0), (24, .iload_n 2, 1, 0, 0, 0, 0), (25, .invokevirtual 276, 3, 218, 2, 10, 0), (28, .ifCond .eq 43, 3, 0, 0, 0, 0), (31, .aload_n 0, 1, 0, 0, 0, 0)],
  [(32, .iload_n 2, 1, 0, 0, 0, 0), (33, .invokevirtual 292, 3, 225, 2, 10, 0), (36, .ifCond .eq 35, 3, 0, 0, 0, 0), (39, .iload_n 1, 1, 0, 0, 0, 0), (40, .iconst (-1), 1, 0, 0, 0, 0), (41, .if_icmp .eq 24, 3, 0, 0, 0, 0), (44, .aload_n 0, 1, 0, 0, 0, 0), (45, .iload_n 2, 1, 0, 0, 0, 0), (46, .iconst 0, 1, 0, 0, 0, 0), (47, .invokevirtual 206, 3, 196, 3, 10, 0)],
  [(50, .invokestatic 462, 3, 310, 1, 10, 0), (53, .aload_n 0, 1, 0, 0, 0, 0), (54, .iload_n 1, 1, 0, 0, 0, 0), (55, .iconst 0, 1, 0, 0, 0, 0), (56, .invokevirtual 206, 3, 196, 3, 10, 0), (59, .invokestatic 462, 3, 310, 1, 10, 0), (62, .if_icmp .ge 7, 3, 0, 0, 0, 0)],
  [(65, .iload_n 2, 1, 0, 0, 0, 0), (66, .goto 4, 3, 0, 0, 0, 0), (69, .iload_n 1, 1, 0, 0, 0, 0), (70, .istore_n 1, 1, 0, 0, 0, 0), (71, .iinc 2 1, 3, 0, 0, 0, 0), (74, .goto (-61), 3, 0, 0, 0, 0), (77, .iload_n 1, 1, 0, 0, 0, 0), (78, .ireturn, 1, 0, 0, 0, 0)]]
/-- ClosedRoomsModel.isScript(I)Z -/
def cd_312 : List (List CE) := [[(0, .iload_n 1, 1, 0, 0, 0, 0), (1, .iconst 0, 1, 0, 0, 0, 0), (2, .aload_n 0, 1, 0, 0, 0, 0), (3, .getfield 240, 3, 10, 14, 14, 0), (6, .iconst 1, 1, 0, 0, 0, 0), (7, .isub, 1, 0, 0, 0, 0), (8, .invokestatic 54, 3, 168, 3, 10, 0), (11, .ireturn, 1, 0, 0, 0, 0)]]
/-- ClosedRoomsModel.stepOf(III)I -/
def cd_313 : List (List CE) := [[(0, .aload_n 0, 1, 0, 0, 0, 0), (1, .getfield 19, 3, 10, 12, 12, 0), (4, .bipush 6, 2, 0, 0, 0, 0), (6, .bipush 12, 2, 0, 0, 0, 0), (8, .iload_n 1, 1, 0, 0, 0, 0), (9, .imul, 1, 0, 0, 0, 0), (10, .iload_n 2, 1, 0, 0, 0, 0), (11, .iadd, 1, 0, 0, 0, 0), (12, .imul, 1, 0, 0, 0, 0), (13, .iload_n 3, 1, 0, 0, 0, 0), (14, .iadd, 1, 0, 0, 0, 0), (15, .iaload, 1, 0, 0, 0, 0)],
  [(16, .ireturn, 1, 0, 0, 0, 0)]]
/-- ClosedRoomsModel.paper(I)I -/
def cd_314 : List (List CE) := [[(0, .iconst 0, 1, 0, 0, 0, 0), (1, .istore_n 2, 1, 0, 0, 0, 0), (2, .aload_n 0, 1, 0, 0, 0, 0), (3, .iload_n 1, 1, 0, 0, 0, 0), (4, .invokevirtual 465, 3, 312, 2, 10, 0), (7, .ifCond .eq 29, 3, 0, 0, 0, 0), (10, .iload_n 2, 1, 0, 0, 0, 0), (11, .aload_n 0, 1, 0, 0, 0, 0), (12, .getfield 22, 3, 10, 13, 13, 0), (15, .iload_n 1, 1, 0, 0, 0, 0)],
  [(16, .iaload, 1, 0, 0, 0, 0), (17, .if_icmp .ge 19, 3, 0, 0, 0, 0), (20, .aload_n 0, 1, 0, 0, 0, 0), (21, .iload_n 1, 1, 0, 0, 0, 0), (22, .iload_n 2, 1, 0, 0, 0, 0), (23, .iconst 0, 1, 0, 0, 0, 0), (24, .invokevirtual 468, 3, 313, 4, 10, 0), (27, .ifCond .eq 9, 3, 0, 0, 0, 0), (30, .iinc 2 1, 3, 0, 0, 0, 0)],
  [(33, .goto (-31), 3, 0, 0, 0, 0), (36, .aload_n 0, 1, 0, 0, 0, 0), (37, .iload_n 1, 1, 0, 0, 0, 0), (38, .invokevirtual 465, 3, 312, 2, 10, 0), (41, .ifCond .eq 13, 3, 0, 0, 0, 0), (44, .iload_n 2, 1, 0, 0, 0, 0), (45, .aload_n 0, 1, 0, 0, 0, 0), (46, .getfield 22, 3, 10, 13, 13, 0)],
  [(49, .iload_n 1, 1, 0, 0, 0, 0), (50, .iaload, 1, 0, 0, 0, 0), (51, .if_icmp .ne 7, 3, 0, 0, 0, 0), (54, .ldc_w 452, 3, 0, 0, 0, (-1000000)), (57, .ireturn, 1, 0, 0, 0, 0), (58, .iconst 0, 1, 0, 0, 0, 0), (59, .istore_n 3, 1, 0, 0, 0, 0), (60, .iload_n 3, 1, 0, 0, 0, 0), (61, .sipush 999, 3, 0, 0, 0, 0)],
  [(64, .if_icmp .gt 16, 3, 0, 0, 0, 0), (67, .aload_n 0, 1, 0, 0, 0, 0), (68, .getfield 34, 3, 10, 19, 19, 0), (71, .iload_n 3, 1, 0, 0, 0, 0), (72, .iconst 0, 1, 0, 0, 0, 0), (73, .iastore, 1, 0, 0, 0, 0), (74, .iinc 3 1, 3, 0, 0, 0, 0), (77, .goto (-17), 3, 0, 0, 0, 0)],
  [(80, .bipush 7, 2, 0, 0, 0, 0), (82, .aload_n 0, 1, 0, 0, 0, 0), (83, .iload_n 1, 1, 0, 0, 0, 0), (84, .iload_n 2, 1, 0, 0, 0, 0), (85, .iconst 1, 1, 0, 0, 0, 0), (86, .invokevirtual 468, 3, 313, 4, 10, 0), (89, .iadd, 1, 0, 0, 0, 0), (90, .istore_n 3, 1, 0, 0, 0, 0), (91, .iload_n 2, 1, 0, 0, 0, 0), (92, .iconst 1, 1, 0, 0, 0, 0), (93, .iadd, 1, 0, 0, 0, 0), (94, .istore 4, 2, 0, 0, 0, 0)],
  [(96, .iload 4, 2, 0, 0, 0, 0), (98, .aload_n 0, 1, 0, 0, 0, 0), (99, .getfield 22, 3, 10, 13, 13, 0), (102, .iload_n 1, 1, 0, 0, 0, 0), (103, .iaload, 1, 0, 0, 0, 0), (104, .if_icmp .ge 110, 3, 0, 0, 0, 0), (107, .aload_n 0, 1, 0, 0, 0, 0), (108, .iload_n 1, 1, 0, 0, 0, 0), (109, .iload 4, 2, 0, 0, 0, 0), (111, .iconst 2, 1, 0, 0, 0, 0)],
  [(112, .invokevirtual 468, 3, 313, 4, 10, 0), (115, .istore 5, 2, 0, 0, 0, 0), (117, .aload_n 0, 1, 0, 0, 0, 0), (118, .iload_n 1, 1, 0, 0, 0, 0), (119, .iload 4, 2, 0, 0, 0, 0), (121, .iconst 0, 1, 0, 0, 0, 0), (122, .invokevirtual 468, 3, 313, 4, 10, 0), (125, .iconst 2, 1, 0, 0, 0, 0), (126, .if_icmp .ne 53, 3, 0, 0, 0, 0)],
  [(129, .bipush 31, 2, 0, 0, 0, 0), (131, .iload_n 3, 1, 0, 0, 0, 0), (132, .imul, 1, 0, 0, 0, 0), (133, .bipush 64, 2, 0, 0, 0, 0), (135, .iload 5, 2, 0, 0, 0, 0), (137, .imul, 1, 0, 0, 0, 0), (138, .iadd, 1, 0, 0, 0, 0), (139, .bipush 8, 2, 0, 0, 0, 0), (141, .aload_n 0, 1, 0, 0, 0, 0), (142, .iload_n 1, 1, 0, 0, 0, 0), (143, .iload 4, 2, 0, 0, 0, 0)],
  [(145, .iconst 3, 1, 0, 0, 0, 0), (146, .invokevirtual 468, 3, 313, 4, 10, 0), (149, .imul, 1, 0, 0, 0, 0), (150, .iadd, 1, 0, 0, 0, 0), (151, .aload_n 0, 1, 0, 0, 0, 0), (152, .iload_n 1, 1, 0, 0, 0, 0), (153, .iload 4, 2, 0, 0, 0, 0), (155, .iconst 4, 1, 0, 0, 0, 0), (156, .invokevirtual 468, 3, 313, 4, 10, 0), (159, .iadd, 1, 0, 0, 0, 0)],
  [(160, .istore_n 3, 1, 0, 0, 0, 0), (161, .aload_n 0, 1, 0, 0, 0, 0), (162, .getfield 34, 3, 10, 19, 19, 0), (165, .iload 5, 2, 0, 0, 0, 0), (167, .aload_n 0, 1, 0, 0, 0, 0), (168, .iload_n 1, 1, 0, 0, 0, 0), (169, .iload 4, 2, 0, 0, 0, 0), (171, .iconst 5, 1, 0, 0, 0, 0), (172, .invokevirtual 468, 3, 313, 4, 10, 0), (175, .iastore, 1, 0, 0, 0, 0)],
  [(176, .goto 32, 3, 0, 0, 0, 0), (179, .aload_n 0, 1, 0, 0, 0, 0), (180, .iload_n 1, 1, 0, 0, 0, 0), (181, .iload 4, 2, 0, 0, 0, 0), (183, .iconst 0, 1, 0, 0, 0, 0), (184, .invokevirtual 468, 3, 313, 4, 10, 0), (187, .iconst 3, 1, 0, 0, 0, 0), (188, .if_icmp .ne 20, 3, 0, 0, 0, 0), (191, .bipush 31, 2, 0, 0, 0, 0)],
  [(193, .iload_n 3, 1, 0, 0, 0, 0), (194, .imul, 1, 0, 0, 0, 0), (195, .sipush 1000, 3, 0, 0, 0, 0), (198, .iadd, 1, 0, 0, 0, 0), (199, .aload_n 0, 1, 0, 0, 0, 0), (200, .getfield 34, 3, 10, 19, 19, 0), (203, .iload 5, 2, 0, 0, 0, 0), (205, .iaload, 1, 0, 0, 0, 0), (206, .iadd, 1, 0, 0, 0, 0), (207, .istore_n 3, 1, 0, 0, 0, 0)],
  [(208, .iinc 4 1, 3, 0, 0, 0, 0), (211, .goto (-115), 3, 0, 0, 0, 0), (214, .iload_n 3, 1, 0, 0, 0, 0), (215, .ireturn, 1, 0, 0, 0, 0)]]
/-- ClosedRoomsModel.alike(II)Z -/
def cd_315 : List (List CE) := [[(0, .aload_n 0, 1, 0, 0, 0, 0), (1, .iload_n 1, 1, 0, 0, 0, 0), (2, .invokevirtual 252, 3, 201, 2, 10, 0), (5, .ifCond .eq 35, 3, 0, 0, 0, 0), (8, .aload_n 0, 1, 0, 0, 0, 0), (9, .iload_n 2, 1, 0, 0, 0, 0), (10, .invokevirtual 252, 3, 201, 2, 10, 0), (13, .ifCond .eq 27, 3, 0, 0, 0, 0)],
  [(16, .iload_n 1, 1, 0, 0, 0, 0), (17, .iload_n 2, 1, 0, 0, 0, 0), (18, .if_icmp .eq 22, 3, 0, 0, 0, 0), (21, .aload_n 0, 1, 0, 0, 0, 0), (22, .iload_n 1, 1, 0, 0, 0, 0), (23, .iconst 4, 1, 0, 0, 0, 0), (24, .invokevirtual 209, 3, 198, 3, 10, 0), (27, .aload_n 0, 1, 0, 0, 0, 0), (28, .iload_n 2, 1, 0, 0, 0, 0), (29, .iconst 4, 1, 0, 0, 0, 0), (30, .invokevirtual 209, 3, 198, 3, 10, 0)],
  [(33, .if_icmp .ne 7, 3, 0, 0, 0, 0), (36, .iconst 1, 1, 0, 0, 0, 0), (37, .goto 4, 3, 0, 0, 0, 0), (40, .iconst 0, 1, 0, 0, 0, 0), (41, .ireturn, 1, 0, 0, 0, 0)]]
/-- ClosedRoomsModel.byteAt(Ljava/lang/String;I)I -/
def cd_316 : List (List CE) := [[(0, .iload_n 1, 1, 0, 0, 0, 0), (1, .iconst 0, 1, 0, 0, 0, 0), (2, .aload_n 0, 1, 0, 0, 0, 0), (3, .invokevirtual 99, 3, 901, 1, 0, 0), (6, .iconst 1, 1, 0, 0, 0, 0), (7, .isub, 1, 0, 0, 0, 0), (8, .invokestatic 54, 3, 168, 3, 10, 0), (11, .ifCond .eq 11, 3, 0, 0, 0, 0), (14, .aload_n 0, 1, 0, 0, 0, 0), (15, .iload_n 1, 1, 0, 0, 0, 0)],
  [(16, .invokevirtual 104, 3, 902, 2, 0, 0), (19, .goto 4, 3, 0, 0, 0, 0), (22, .iconst (-1), 1, 0, 0, 0, 0), (23, .ireturn, 1, 0, 0, 0, 0)]]
/-- ClosedRoomsModel.spell(II)I -/
def cd_317 : List (List CE) := [[(0, .aload_n 0, 1, 0, 0, 0, 0), (1, .iload_n 1, 1, 0, 0, 0, 0), (2, .invokevirtual 203, 3, 211, 2, 10, 0), (5, .ifCond .ne 5, 3, 0, 0, 0, 0), (8, .iconst (-1), 1, 0, 0, 0, 0), (9, .ireturn, 1, 0, 0, 0, 0), (10, .aload_n 0, 1, 0, 0, 0, 0), (11, .iload_n 1, 1, 0, 0, 0, 0), (12, .iconst 0, 1, 0, 0, 0, 0), (13, .invokevirtual 206, 3, 196, 3, 10, 0)],
  [(16, .istore_n 3, 1, 0, 0, 0, 0), (17, .iload_n 3, 1, 0, 0, 0, 0), (18, .ifCond .eq 12, 3, 0, 0, 0, 0), (21, .iload_n 3, 1, 0, 0, 0, 0), (22, .iconst 4, 1, 0, 0, 0, 0), (23, .if_icmp .eq 7, 3, 0, 0, 0, 0), (26, .iconst 1, 1, 0, 0, 0, 0), (27, .goto 4, 3, 0, 0, 0, 0), (30, .iconst 0, 1, 0, 0, 0, 0), (31, .istore 4, 2, 0, 0, 0, 0)],
  [(33, .iload 4, 2, 0, 0, 0, 0), (35, .ifCond .eq 8, 3, 0, 0, 0, 0), (38, .bipush 13, 2, 0, 0, 0, 0), (40, .goto 14, 3, 0, 0, 0, 0), (43, .iload_n 3, 1, 0, 0, 0, 0), (44, .ifCond .ne 8, 3, 0, 0, 0, 0), (47, .bipush 6, 2, 0, 0, 0, 0)],
  [(49, .goto 5, 3, 0, 0, 0, 0), (52, .bipush 7, 2, 0, 0, 0, 0), (54, .istore 5, 2, 0, 0, 0, 0), (56, .iload_n 2, 1, 0, 0, 0, 0), (57, .iconst (-1), 1, 0, 0, 0, 0), (58, .if_icmp .ne 6, 3, 0, 0, 0, 0), (61, .iload 5, 2, 0, 0, 0, 0), (63, .ireturn, 1, 0, 0, 0, 0)],
  [(64, .iload_n 2, 1, 0, 0, 0, 0), (65, .iload 5, 2, 0, 0, 0, 0), (67, .iconst 1, 1, 0, 0, 0, 0), (68, .isub, 1, 0, 0, 0, 0), (69, .if_icmp .ne 8, 3, 0, 0, 0, 0), (72, .bipush 48, 2, 0, 0, 0, 0), (74, .iload_n 1, 1, 0, 0, 0, 0), (75, .iadd, 1, 0, 0, 0, 0), (76, .ireturn, 1, 0, 0, 0, 0), (77, .iload 4, 2, 0, 0, 0, 0), (79, .ifCond .eq 28, 3, 0, 0, 0, 0)],
  [(82, .iload_n 2, 1, 0, 0, 0, 0), (83, .iconst 5, 1, 0, 0, 0, 0), (84, .if_icmp .ne 15, 3, 0, 0, 0, 0), (87, .bipush 48, 2, 0, 0, 0, 0), (89, .aload_n 0, 1, 0, 0, 0, 0), (90, .iload_n 1, 1, 0, 0, 0, 0), (91, .iconst 1, 1, 0, 0, 0, 0), (92, .invokevirtual 206, 3, 196, 3, 10, 0), (95, .iadd, 1, 0, 0, 0, 0)],
  [(96, .goto 10, 3, 0, 0, 0, 0), (99, .ldc_w 471, 3, 1, 0, 0, 25), (102, .iload_n 2, 1, 0, 0, 0, 0), (103, .invokestatic 473, 3, 316, 2, 10, 0), (106, .ireturn, 1, 0, 0, 0, 0), (107, .iload_n 3, 1, 0, 0, 0, 0), (108, .ifCond .ne 9, 3, 0, 0, 0, 0), (111, .ldc_w 477, 3, 1, 0, 0, 23)],
  [(114, .goto 6, 3, 0, 0, 0, 0), (117, .ldc_w 479, 3, 1, 0, 0, 22), (120, .iload_n 2, 1, 0, 0, 0, 0), (121, .invokestatic 473, 3, 316, 2, 10, 0), (124, .ireturn, 1, 0, 0, 0, 0)]]
/-- ClosedRoomsModel.step(III)I -/
def cd_318 : List (List CE) := [[(0, .aload_n 0, 1, 0, 0, 0, 0), (1, .iload_n 1, 1, 0, 0, 0, 0), (2, .invokevirtual 465, 3, 312, 2, 10, 0), (5, .ifCond .eq 38, 3, 0, 0, 0, 0), (8, .iload_n 2, 1, 0, 0, 0, 0), (9, .iconst 0, 1, 0, 0, 0, 0), (10, .aload_n 0, 1, 0, 0, 0, 0), (11, .getfield 22, 3, 10, 13, 13, 0), (14, .iload_n 1, 1, 0, 0, 0, 0), (15, .iaload, 1, 0, 0, 0, 0)],
  [(16, .iconst 1, 1, 0, 0, 0, 0), (17, .isub, 1, 0, 0, 0, 0), (18, .invokestatic 54, 3, 168, 3, 10, 0), (21, .ifCond .eq 22, 3, 0, 0, 0, 0), (24, .iload_n 3, 1, 0, 0, 0, 0), (25, .iconst 0, 1, 0, 0, 0, 0), (26, .iconst 5, 1, 0, 0, 0, 0), (27, .invokestatic 54, 3, 168, 3, 10, 0), (30, .ifCond .eq 13, 3, 0, 0, 0, 0)],
  [(33, .aload_n 0, 1, 0, 0, 0, 0), (34, .iload_n 1, 1, 0, 0, 0, 0), (35, .iload_n 2, 1, 0, 0, 0, 0), (36, .iload_n 3, 1, 0, 0, 0, 0), (37, .invokevirtual 468, 3, 313, 4, 10, 0), (40, .goto 6, 3, 0, 0, 0, 0), (43, .ldc_w 452, 3, 0, 0, 0, (-1000000)), (46, .ireturn, 1, 0, 0, 0, 0)]]
/-- ClosedRoomsModel.goSteps(IZ)I -/
def cd_319 : List (List CE) := [[(0, .aload_n 0, 1, 0, 0, 0, 0), (1, .iconst (-1), 1, 0, 0, 0, 0), (2, .putfield 481, 3, 10, 20, 20, 0), (5, .iconst 0, 1, 0, 0, 0, 0), (6, .istore_n 3, 1, 0, 0, 0, 0), (7, .iload_n 3, 1, 0, 0, 0, 0), (8, .aload_n 0, 1, 0, 0, 0, 0), (9, .getfield 22, 3, 10, 13, 13, 0), (12, .iload_n 1, 1, 0, 0, 0, 0), (13, .iaload, 1, 0, 0, 0, 0), (14, .if_icmp .ge 177, 3, 0, 0, 0, 0)],
  [(17, .aload_n 0, 1, 0, 0, 0, 0), (18, .iload_n 1, 1, 0, 0, 0, 0), (19, .iload_n 3, 1, 0, 0, 0, 0), (20, .iconst 0, 1, 0, 0, 0, 0), (21, .invokevirtual 468, 3, 313, 4, 10, 0), (24, .istore 4, 2, 0, 0, 0, 0), (26, .aload_n 0, 1, 0, 0, 0, 0), (27, .iload_n 1, 1, 0, 0, 0, 0), (28, .iload_n 3, 1, 0, 0, 0, 0), (29, .iconst 1, 1, 0, 0, 0, 0), (30, .invokevirtual 468, 3, 313, 4, 10, 0)],
  [(33, .istore 5, 2, 0, 0, 0, 0), (35, .iload 4, 2, 0, 0, 0, 0), (37, .iconst 4, 1, 0, 0, 0, 0), (38, .if_icmp .ne 22, 3, 0, 0, 0, 0), (41, .aload_n 0, 1, 0, 0, 0, 0), (42, .iload 5, 2, 0, 0, 0, 0), (44, .invokevirtual 252, 3, 201, 2, 10, 0), (47, .ifCond .eq 13, 3, 0, 0, 0, 0)],
  [(50, .aload_n 0, 1, 0, 0, 0, 0), (51, .iload 5, 2, 0, 0, 0, 0), (53, .iconst 4, 1, 0, 0, 0, 0), (54, .invokevirtual 209, 3, 198, 3, 10, 0), (57, .goto 10, 3, 0, 0, 0, 0), (60, .aload_n 0, 1, 0, 0, 0, 0), (61, .iload_n 1, 1, 0, 0, 0, 0), (62, .iload_n 3, 1, 0, 0, 0, 0), (63, .iconst 2, 1, 0, 0, 0, 0)],
  [(64, .invokevirtual 468, 3, 313, 4, 10, 0), (67, .istore 6, 2, 0, 0, 0, 0), (69, .aload_n 0, 1, 0, 0, 0, 0), (70, .aload_n 0, 1, 0, 0, 0, 0), (71, .iload 4, 2, 0, 0, 0, 0), (73, .iload 5, 2, 0, 0, 0, 0), (75, .iload 6, 2, 0, 0, 0, 0), (77, .aload_n 0, 1, 0, 0, 0, 0), (78, .iload_n 1, 1, 0, 0, 0, 0), (79, .iload_n 3, 1, 0, 0, 0, 0)],
  [(80, .iconst 3, 1, 0, 0, 0, 0), (81, .invokevirtual 468, 3, 313, 4, 10, 0), (84, .aload_n 0, 1, 0, 0, 0, 0), (85, .iload_n 1, 1, 0, 0, 0, 0), (86, .iload_n 3, 1, 0, 0, 0, 0), (87, .iconst 4, 1, 0, 0, 0, 0), (88, .invokevirtual 468, 3, 313, 4, 10, 0), (91, .aload_n 0, 1, 0, 0, 0, 0), (92, .iload_n 1, 1, 0, 0, 0, 0), (93, .iload_n 3, 1, 0, 0, 0, 0), (94, .iconst 5, 1, 0, 0, 0, 0), (95, .invokevirtual 468, 3, 313, 4, 10, 0)],
  [(98, .invokevirtual 442, 3, 239, 7, 10, 0), (101, .putfield 481, 3, 10, 20, 20, 0), (104, .aload_n 0, 1, 0, 0, 0, 0), (105, .getfield 481, 3, 10, 20, 20, 0), (108, .iconst (-1), 1, 0, 0, 0, 0), (109, .if_icmp .eq 5, 3, 0, 0, 0, 0)],
  [(112, .iload_n 3, 1, 0, 0, 0, 0), (113, .ireturn, 1, 0, 0, 0, 0), (114, .iload_n 2, 1, 0, 0, 0, 0), (115, .ifCond .eq 38, 3, 0, 0, 0, 0), (118, .aload_n 0, 1, 0, 0, 0, 0), (119, .iload 4, 2, 0, 0, 0, 0), (121, .iload 5, 2, 0, 0, 0, 0), (123, .iload 6, 2, 0, 0, 0, 0), (125, .aload_n 0, 1, 0, 0, 0, 0), (126, .iload_n 1, 1, 0, 0, 0, 0), (127, .iload_n 3, 1, 0, 0, 0, 0)],
  [(128, .iconst 3, 1, 0, 0, 0, 0), (129, .invokevirtual 468, 3, 313, 4, 10, 0), (132, .aload_n 0, 1, 0, 0, 0, 0), (133, .iload_n 1, 1, 0, 0, 0, 0), (134, .iload_n 3, 1, 0, 0, 0, 0), (135, .iconst 4, 1, 0, 0, 0, 0), (136, .invokevirtual 468, 3, 313, 4, 10, 0), (139, .aload_n 0, 1, 0, 0, 0, 0), (140, .iload_n 1, 1, 0, 0, 0, 0), (141, .iload_n 3, 1, 0, 0, 0, 0), (142, .iconst 5, 1, 0, 0, 0, 0), (143, .invokevirtual 468, 3, 313, 4, 10, 0)],
  [(146, .invokevirtual 445, 3, 267, 7, 10, 0), (149, .pop, 1, 0, 0, 0, 0), (150, .goto 35, 3, 0, 0, 0, 0), (153, .aload_n 0, 1, 0, 0, 0, 0), (154, .iload 4, 2, 0, 0, 0, 0), (156, .iload 5, 2, 0, 0, 0, 0), (158, .iload 6, 2, 0, 0, 0, 0)],
  [(160, .aload_n 0, 1, 0, 0, 0, 0), (161, .iload_n 1, 1, 0, 0, 0, 0), (162, .iload_n 3, 1, 0, 0, 0, 0), (163, .iconst 3, 1, 0, 0, 0, 0), (164, .invokevirtual 468, 3, 313, 4, 10, 0), (167, .aload_n 0, 1, 0, 0, 0, 0), (168, .iload_n 1, 1, 0, 0, 0, 0), (169, .iload_n 3, 1, 0, 0, 0, 0), (170, .iconst 4, 1, 0, 0, 0, 0), (171, .invokevirtual 468, 3, 313, 4, 10, 0), (174, .aload_n 0, 1, 0, 0, 0, 0), (175, .iload_n 1, 1, 0, 0, 0, 0)],
  [(176, .iload_n 3, 1, 0, 0, 0, 0), (177, .iconst 5, 1, 0, 0, 0, 0), (178, .invokevirtual 468, 3, 313, 4, 10, 0), (181, .invokevirtual 436, 3, 265, 7, 10, 0), (184, .pop, 1, 0, 0, 0, 0), (185, .iinc 3 1, 3, 0, 0, 0, 0), (188, .goto (-181), 3, 0, 0, 0, 0), (191, .aload_n 0, 1, 0, 0, 0, 0)],
  [(192, .getfield 22, 3, 10, 13, 13, 0), (195, .iload_n 1, 1, 0, 0, 0, 0), (196, .iaload, 1, 0, 0, 0, 0), (197, .ireturn, 1, 0, 0, 0, 0)]]
/-- ClosedRoomsModel.run(II)I -/
def cd_320 : List (List CE) := [[(0, .aload_n 0, 1, 0, 0, 0, 0), (1, .iload_n 1, 1, 0, 0, 0, 0), (2, .invokevirtual 465, 3, 312, 2, 10, 0), (5, .ifCond .eq 19, 3, 0, 0, 0, 0), (8, .aload_n 0, 1, 0, 0, 0, 0), (9, .getfield 199, 3, 10, 11, 11, 0), (12, .ifCond .eq 12, 3, 0, 0, 0, 0), (15, .iload_n 2, 1, 0, 0, 0, 0)],
  [(16, .iconst 0, 1, 0, 0, 0, 0), (17, .iconst 1, 1, 0, 0, 0, 0), (18, .invokestatic 54, 3, 168, 3, 10, 0), (21, .ifCond .ne 7, 3, 0, 0, 0, 0), (24, .ldc_w 452, 3, 0, 0, 0, (-1000000)), (27, .ireturn, 1, 0, 0, 0, 0), (28, .iconst 0, 1, 0, 0, 0, 0), (29, .istore_n 3, 1, 0, 0, 0, 0), (30, .iload_n 3, 1, 0, 0, 0, 0), (31, .sipush 345, 3, 0, 0, 0, 0)],
  [(34, .if_icmp .ge 21, 3, 0, 0, 0, 0), (37, .aload_n 0, 1, 0, 0, 0, 0), (38, .getfield 37, 3, 10, 21, 21, 0), (41, .iload_n 3, 1, 0, 0, 0, 0), (42, .aload_n 0, 1, 0, 0, 0, 0), (43, .getfield 25, 3, 10, 15, 15, 0), (46, .iload_n 3, 1, 0, 0, 0, 0), (47, .iaload, 1, 0, 0, 0, 0)],
  [(48, .iastore, 1, 0, 0, 0, 0), (49, .iinc 3 1, 3, 0, 0, 0, 0), (52, .goto (-22), 3, 0, 0, 0, 0), (55, .aload_n 0, 1, 0, 0, 0, 0), (56, .iload_n 1, 1, 0, 0, 0, 0), (57, .iconst 0, 1, 0, 0, 0, 0), (58, .invokevirtual 484, 3, 319, 3, 10, 0), (61, .istore_n 3, 1, 0, 0, 0, 0), (62, .iconst 0, 1, 0, 0, 0, 0), (63, .istore 4, 2, 0, 0, 0, 0)],
  [(65, .iload 4, 2, 0, 0, 0, 0), (67, .sipush 345, 3, 0, 0, 0, 0), (70, .if_icmp .ge 23, 3, 0, 0, 0, 0), (73, .aload_n 0, 1, 0, 0, 0, 0), (74, .getfield 25, 3, 10, 15, 15, 0), (77, .iload 4, 2, 0, 0, 0, 0), (79, .aload_n 0, 1, 0, 0, 0, 0)],
  [(80, .getfield 37, 3, 10, 21, 21, 0), (83, .iload 4, 2, 0, 0, 0, 0), (85, .iaload, 1, 0, 0, 0, 0), (86, .iastore, 1, 0, 0, 0, 0), (87, .iinc 4 1, 3, 0, 0, 0, 0), (90, .goto (-25), 3, 0, 0, 0, 0), (93, .iload_n 2, 1, 0, 0, 0, 0), (94, .iconst 1, 1, 0, 0, 0, 0), (95, .if_icmp .ne 10, 3, 0, 0, 0, 0)],
  [(98, .aload_n 0, 1, 0, 0, 0, 0), (99, .getfield 481, 3, 10, 20, 20, 0), (102, .goto 16, 3, 0, 0, 0, 0), (105, .aload_n 0, 1, 0, 0, 0, 0), (106, .getfield 481, 3, 10, 20, 20, 0), (109, .iconst (-1), 1, 0, 0, 0, 0), (110, .if_icmp .ne 7, 3, 0, 0, 0, 0)],
  [(113, .iconst (-1), 1, 0, 0, 0, 0), (114, .goto 4, 3, 0, 0, 0, 0), (117, .iload_n 3, 1, 0, 0, 0, 0), (118, .ireturn, 1, 0, 0, 0, 0)]]
/-- ClosedRoomsModel.perform(I)I -/
def cd_321 : List (List CE) := [[(0, .aload_n 0, 1, 0, 0, 0, 0), (1, .iload_n 1, 1, 0, 0, 0, 0), (2, .invokevirtual 465, 3, 312, 2, 10, 0), (5, .ifCond .eq 19, 3, 0, 0, 0, 0), (8, .aload_n 0, 1, 0, 0, 0, 0), (9, .getfield 199, 3, 10, 11, 11, 0), (12, .ifCond .eq 12, 3, 0, 0, 0, 0), (15, .aload_n 0, 1, 0, 0, 0, 0)],
  [(16, .iload_n 1, 1, 0, 0, 0, 0), (17, .iconst 1, 1, 0, 0, 0, 0), (18, .invokevirtual 484, 3, 319, 3, 10, 0), (21, .goto 4, 3, 0, 0, 0, 0), (24, .iconst (-1), 1, 0, 0, 0, 0), (25, .ireturn, 1, 0, 0, 0, 0)]]
/-- ClosedRoomsModel.freeSet()I -/
def cd_322 : List (List CE) := [[(0, .iconst 0, 1, 0, 0, 0, 0), (1, .istore_n 1, 1, 0, 0, 0, 0), (2, .iconst 0, 1, 0, 0, 0, 0), (3, .istore_n 2, 1, 0, 0, 0, 0), (4, .iload_n 2, 1, 0, 0, 0, 0), (5, .aload_n 0, 1, 0, 0, 0, 0), (6, .getfield 16, 3, 10, 10, 10, 0), (9, .iconst 0, 1, 0, 0, 0, 0), (10, .iaload, 1, 0, 0, 0, 0), (11, .if_icmp .ge 28, 3, 0, 0, 0, 0), (14, .iload_n 1, 1, 0, 0, 0, 0), (15, .aload_n 0, 1, 0, 0, 0, 0)],
  [(16, .iload_n 2, 1, 0, 0, 0, 0), (17, .iconst 0, 1, 0, 0, 0, 0), (18, .invokevirtual 206, 3, 196, 3, 10, 0), (21, .ifCond .ne 9, 3, 0, 0, 0, 0), (24, .iconst 1, 1, 0, 0, 0, 0), (25, .iload_n 2, 1, 0, 0, 0, 0), (26, .ishl, 1, 0, 0, 0, 0), (27, .goto 4, 3, 0, 0, 0, 0), (30, .iconst 0, 1, 0, 0, 0, 0), (31, .ior, 1, 0, 0, 0, 0)],
  [(32, .istore_n 1, 1, 0, 0, 0, 0), (33, .iinc 2 1, 3, 0, 0, 0, 0), (36, .goto (-32), 3, 0, 0, 0, 0), (39, .iload_n 1, 1, 0, 0, 0, 0), (40, .ireturn, 1, 0, 0, 0, 0)]]
/-- ClosedRoomsModel.roomSet()I -/
def cd_323 : List (List CE) := [[(0, .iconst 0, 1, 0, 0, 0, 0), (1, .istore_n 1, 1, 0, 0, 0, 0), (2, .iconst 0, 1, 0, 0, 0, 0), (3, .istore_n 2, 1, 0, 0, 0, 0), (4, .iload_n 2, 1, 0, 0, 0, 0), (5, .iconst 4, 1, 0, 0, 0, 0), (6, .if_icmp .ge 27, 3, 0, 0, 0, 0), (9, .iload_n 1, 1, 0, 0, 0, 0), (10, .aload_n 0, 1, 0, 0, 0, 0), (11, .iload_n 2, 1, 0, 0, 0, 0), (12, .invokevirtual 252, 3, 201, 2, 10, 0), (15, .ifCond .eq 9, 3, 0, 0, 0, 0)],
  [(18, .iconst 1, 1, 0, 0, 0, 0), (19, .iload_n 2, 1, 0, 0, 0, 0), (20, .ishl, 1, 0, 0, 0, 0), (21, .goto 4, 3, 0, 0, 0, 0), (24, .iconst 0, 1, 0, 0, 0, 0), (25, .ior, 1, 0, 0, 0, 0), (26, .istore_n 1, 1, 0, 0, 0, 0), (27, .iinc 2 1, 3, 0, 0, 0, 0), (30, .goto (-26), 3, 0, 0, 0, 0)],
  [(33, .iload_n 1, 1, 0, 0, 0, 0), (34, .ireturn, 1, 0, 0, 0, 0)]]
/-- ClosedRoomsModel.insideSet()I -/
def cd_324 : List (List CE) := [[(0, .iconst 0, 1, 0, 0, 0, 0), (1, .istore_n 1, 1, 0, 0, 0, 0), (2, .iconst 0, 1, 0, 0, 0, 0), (3, .istore_n 2, 1, 0, 0, 0, 0), (4, .iload_n 2, 1, 0, 0, 0, 0), (5, .aload_n 0, 1, 0, 0, 0, 0), (6, .getfield 16, 3, 10, 10, 10, 0), (9, .iconst 1, 1, 0, 0, 0, 0), (10, .iaload, 1, 0, 0, 0, 0), (11, .if_icmp .ge 27, 3, 0, 0, 0, 0), (14, .iload_n 1, 1, 0, 0, 0, 0), (15, .aload_n 0, 1, 0, 0, 0, 0)],
  [(16, .iload_n 2, 1, 0, 0, 0, 0), (17, .invokevirtual 264, 3, 209, 2, 10, 0), (20, .ifCond .eq 9, 3, 0, 0, 0, 0), (23, .iconst 1, 1, 0, 0, 0, 0), (24, .iload_n 2, 1, 0, 0, 0, 0), (25, .ishl, 1, 0, 0, 0, 0), (26, .goto 4, 3, 0, 0, 0, 0), (29, .iconst 0, 1, 0, 0, 0, 0), (30, .ior, 1, 0, 0, 0, 0), (31, .istore_n 1, 1, 0, 0, 0, 0)],
  [(32, .iinc 2 1, 3, 0, 0, 0, 0), (35, .goto (-31), 3, 0, 0, 0, 0), (38, .iload_n 1, 1, 0, 0, 0, 0), (39, .ireturn, 1, 0, 0, 0, 0)]]
/-- ClosedRoomsModel.copySet()I -/
def cd_325 : List (List CE) := [[(0, .iconst 0, 1, 0, 0, 0, 0), (1, .istore_n 1, 1, 0, 0, 0, 0), (2, .iconst 0, 1, 0, 0, 0, 0), (3, .istore_n 2, 1, 0, 0, 0, 0), (4, .iload_n 2, 1, 0, 0, 0, 0), (5, .bipush 12, 2, 0, 0, 0, 0), (7, .if_icmp .ge 27, 3, 0, 0, 0, 0), (10, .iload_n 1, 1, 0, 0, 0, 0), (11, .aload_n 0, 1, 0, 0, 0, 0), (12, .iload_n 2, 1, 0, 0, 0, 0), (13, .invokevirtual 301, 3, 229, 2, 10, 0)],
  [(16, .ifCond .eq 9, 3, 0, 0, 0, 0), (19, .iconst 1, 1, 0, 0, 0, 0), (20, .iload_n 2, 1, 0, 0, 0, 0), (21, .ishl, 1, 0, 0, 0, 0), (22, .goto 4, 3, 0, 0, 0, 0), (25, .iconst 0, 1, 0, 0, 0, 0), (26, .ior, 1, 0, 0, 0, 0), (27, .istore_n 1, 1, 0, 0, 0, 0), (28, .iinc 2 1, 3, 0, 0, 0, 0), (31, .goto (-27), 3, 0, 0, 0, 0)],
  [(34, .iload_n 1, 1, 0, 0, 0, 0), (35, .ireturn, 1, 0, 0, 0, 0)]]
/-- ClosedRoomsModel.emptyOfAll()I -/
def cd_326 : List (List CE) := [[(0, .iconst 0, 1, 0, 0, 0, 0), (1, .istore_n 1, 1, 0, 0, 0, 0), (2, .iconst 0, 1, 0, 0, 0, 0), (3, .istore_n 2, 1, 0, 0, 0, 0), (4, .iload_n 2, 1, 0, 0, 0, 0), (5, .aload_n 0, 1, 0, 0, 0, 0), (6, .getfield 16, 3, 10, 10, 10, 0), (9, .iconst 0, 1, 0, 0, 0, 0), (10, .iaload, 1, 0, 0, 0, 0), (11, .if_icmp .ge 31, 3, 0, 0, 0, 0), (14, .iload_n 1, 1, 0, 0, 0, 0), (15, .aload_n 0, 1, 0, 0, 0, 0)],
  [(16, .iload_n 2, 1, 0, 0, 0, 0), (17, .iconst 0, 1, 0, 0, 0, 0), (18, .invokevirtual 206, 3, 196, 3, 10, 0), (21, .iconst 4, 1, 0, 0, 0, 0), (22, .if_icmp .ne 11, 3, 0, 0, 0, 0), (25, .aload_n 0, 1, 0, 0, 0, 0), (26, .iload_n 2, 1, 0, 0, 0, 0), (27, .invokevirtual 307, 3, 233, 2, 10, 0), (30, .goto 4, 3, 0, 0, 0, 0)],
  [(33, .iconst 0, 1, 0, 0, 0, 0), (34, .iadd, 1, 0, 0, 0, 0), (35, .istore_n 1, 1, 0, 0, 0, 0), (36, .iinc 2 1, 3, 0, 0, 0, 0), (39, .goto (-35), 3, 0, 0, 0, 0), (42, .iload_n 1, 1, 0, 0, 0, 0), (43, .ireturn, 1, 0, 0, 0, 0)]]
/-- ClosedRoomsModel.blockedSet()I -/
def cd_327 : List (List CE) := [[(0, .iconst 0, 1, 0, 0, 0, 0), (1, .istore_n 1, 1, 0, 0, 0, 0), (2, .iconst 0, 1, 0, 0, 0, 0), (3, .istore_n 2, 1, 0, 0, 0, 0), (4, .iload_n 2, 1, 0, 0, 0, 0), (5, .aload_n 0, 1, 0, 0, 0, 0), (6, .getfield 16, 3, 10, 10, 10, 0), (9, .iconst 0, 1, 0, 0, 0, 0), (10, .iaload, 1, 0, 0, 0, 0), (11, .if_icmp .ge 29, 3, 0, 0, 0, 0), (14, .iload_n 1, 1, 0, 0, 0, 0), (15, .aload_n 0, 1, 0, 0, 0, 0)],
  [(16, .iload_n 2, 1, 0, 0, 0, 0), (17, .iconst 5, 1, 0, 0, 0, 0), (18, .invokevirtual 206, 3, 196, 3, 10, 0), (21, .iconst (-1), 1, 0, 0, 0, 0), (22, .if_icmp .eq 9, 3, 0, 0, 0, 0), (25, .iconst 1, 1, 0, 0, 0, 0), (26, .iload_n 2, 1, 0, 0, 0, 0), (27, .ishl, 1, 0, 0, 0, 0), (28, .goto 4, 3, 0, 0, 0, 0), (31, .iconst 0, 1, 0, 0, 0, 0)],
  [(32, .ior, 1, 0, 0, 0, 0), (33, .istore_n 1, 1, 0, 0, 0, 0), (34, .iinc 2 1, 3, 0, 0, 0, 0), (37, .goto (-33), 3, 0, 0, 0, 0), (40, .iload_n 1, 1, 0, 0, 0, 0), (41, .ireturn, 1, 0, 0, 0, 0)]]
/-- ClosedRoomsModel.fullest()I -/
def cd_328 : List (List CE) := [[(0, .iconst (-1), 1, 0, 0, 0, 0), (1, .istore_n 1, 1, 0, 0, 0, 0), (2, .iconst 0, 1, 0, 0, 0, 0), (3, .istore_n 2, 1, 0, 0, 0, 0), (4, .iload_n 2, 1, 0, 0, 0, 0), (5, .iconst 4, 1, 0, 0, 0, 0), (6, .if_icmp .ge 43, 3, 0, 0, 0, 0), (9, .aload_n 0, 1, 0, 0, 0, 0), (10, .iload_n 2, 1, 0, 0, 0, 0), (11, .invokevirtual 252, 3, 201, 2, 10, 0), (14, .ifCond .eq 29, 3, 0, 0, 0, 0)],
  [(17, .iload_n 1, 1, 0, 0, 0, 0), (18, .iconst (-1), 1, 0, 0, 0, 0), (19, .if_icmp .eq 18, 3, 0, 0, 0, 0), (22, .aload_n 0, 1, 0, 0, 0, 0), (23, .iload_n 2, 1, 0, 0, 0, 0), (24, .iconst 1, 1, 0, 0, 0, 0), (25, .invokevirtual 285, 3, 224, 3, 10, 0), (28, .aload_n 0, 1, 0, 0, 0, 0), (29, .iload_n 1, 1, 0, 0, 0, 0), (30, .iconst 1, 1, 0, 0, 0, 0), (31, .invokevirtual 285, 3, 224, 3, 10, 0)],
  [(34, .if_icmp .le 7, 3, 0, 0, 0, 0), (37, .iload_n 2, 1, 0, 0, 0, 0), (38, .goto 4, 3, 0, 0, 0, 0), (41, .iload_n 1, 1, 0, 0, 0, 0), (42, .istore_n 1, 1, 0, 0, 0, 0), (43, .iinc 2 1, 3, 0, 0, 0, 0), (46, .goto (-42), 3, 0, 0, 0, 0)],
  [(49, .iload_n 1, 1, 0, 0, 0, 0), (50, .ireturn, 1, 0, 0, 0, 0)]]
/-- ClosedRoomsModel.all(I)I -/
def cd_329 : List (List CE) := [[(0, .aload_n 0, 1, 0, 0, 0, 0), (1, .getfield 199, 3, 10, 11, 11, 0), (4, .ifCond .eq 13, 3, 0, 0, 0, 0), (7, .iload_n 1, 1, 0, 0, 0, 0), (8, .iconst 0, 1, 0, 0, 0, 0), (9, .bipush 8, 2, 0, 0, 0, 0), (11, .invokestatic 54, 3, 168, 3, 10, 0), (14, .ifCond .ne 7, 3, 0, 0, 0, 0)],
  [(17, .ldc_w 452, 3, 0, 0, 0, (-1000000)), (20, .ireturn, 1, 0, 0, 0, 0), (21, .iload_n 1, 1, 0, 0, 0, 0), (22, .tableswitch 94 0 7 #[46, 51, 56, 61, 66, 75, 84, 89], 46, 0, 0, 0, 0)],
  [],
  [],
  [(68, .aload_n 0, 1, 0, 0, 0, 0), (69, .invokevirtual 487, 3, 322, 1, 10, 0), (72, .ireturn, 1, 0, 0, 0, 0), (73, .aload_n 0, 1, 0, 0, 0, 0), (74, .invokevirtual 490, 3, 323, 1, 10, 0), (77, .ireturn, 1, 0, 0, 0, 0), (78, .aload_n 0, 1, 0, 0, 0, 0), (79, .invokevirtual 493, 3, 324, 1, 10, 0)],
  [(82, .ireturn, 1, 0, 0, 0, 0), (83, .aload_n 0, 1, 0, 0, 0, 0), (84, .invokevirtual 496, 3, 325, 1, 10, 0), (87, .ireturn, 1, 0, 0, 0, 0), (88, .aload_n 0, 1, 0, 0, 0, 0), (89, .getfield 25, 3, 10, 15, 15, 0), (92, .sipush 343, 3, 0, 0, 0, 0), (95, .iaload, 1, 0, 0, 0, 0)],
  [(96, .ireturn, 1, 0, 0, 0, 0), (97, .aload_n 0, 1, 0, 0, 0, 0), (98, .getfield 25, 3, 10, 15, 15, 0), (101, .sipush 344, 3, 0, 0, 0, 0), (104, .iaload, 1, 0, 0, 0, 0), (105, .ireturn, 1, 0, 0, 0, 0), (106, .aload_n 0, 1, 0, 0, 0, 0), (107, .invokevirtual 499, 3, 326, 1, 10, 0), (110, .ireturn, 1, 0, 0, 0, 0), (111, .aload_n 0, 1, 0, 0, 0, 0)],
  [(112, .invokevirtual 502, 3, 327, 1, 10, 0), (115, .ireturn, 1, 0, 0, 0, 0), (116, .aload_n 0, 1, 0, 0, 0, 0), (117, .invokevirtual 505, 3, 328, 1, 10, 0), (120, .ireturn, 1, 0, 0, 0, 0)]]
/-- ClosedRoomsModel.bits(I)I -/
def cd_330 : List (List CE) := [[(0, .iconst 0, 1, 0, 0, 0, 0), (1, .istore_n 1, 1, 0, 0, 0, 0), (2, .iconst 0, 1, 0, 0, 0, 0), (3, .istore_n 2, 1, 0, 0, 0, 0), (4, .iload_n 2, 1, 0, 0, 0, 0), (5, .bipush 12, 2, 0, 0, 0, 0), (7, .if_icmp .ge 17, 3, 0, 0, 0, 0), (10, .iload_n 1, 1, 0, 0, 0, 0), (11, .iload_n 0, 1, 0, 0, 0, 0), (12, .iload_n 2, 1, 0, 0, 0, 0), (13, .ishr, 1, 0, 0, 0, 0), (14, .iconst 1, 1, 0, 0, 0, 0), (15, .iand, 1, 0, 0, 0, 0)],
  [(16, .iadd, 1, 0, 0, 0, 0), (17, .istore_n 1, 1, 0, 0, 0, 0), (18, .iinc 2 1, 3, 0, 0, 0, 0), (21, .goto (-17), 3, 0, 0, 0, 0), (24, .iload_n 1, 1, 0, 0, 0, 0), (25, .ireturn, 1, 0, 0, 0, 0)]]
/-- ClosedRoomsModel.image()I -/
def cd_331 : List (List CE) := [[(0, .aload_n 0, 1, 0, 0, 0, 0), (1, .getfield 199, 3, 10, 11, 11, 0), (4, .ifCond .ne 5, 3, 0, 0, 0, 0), (7, .iconst (-1), 1, 0, 0, 0, 0), (8, .ireturn, 1, 0, 0, 0, 0), (9, .iconst 0, 1, 0, 0, 0, 0), (10, .istore_n 1, 1, 0, 0, 0, 0), (11, .iload_n 1, 1, 0, 0, 0, 0), (12, .sipush 526, 3, 0, 0, 0, 0), (15, .if_icmp .ge 21, 3, 0, 0, 0, 0)],
  [(18, .aload_n 0, 1, 0, 0, 0, 0), (19, .getfield 40, 3, 10, 22, 22, 0), (22, .iload_n 1, 1, 0, 0, 0, 0), (23, .aload_n 0, 1, 0, 0, 0, 0), (24, .getfield 25, 3, 10, 15, 15, 0), (27, .iload_n 1, 1, 0, 0, 0, 0), (28, .iaload, 1, 0, 0, 0, 0), (29, .iastore, 1, 0, 0, 0, 0), (30, .iinc 1 1, 3, 0, 0, 0, 0)],
  [(33, .goto (-22), 3, 0, 0, 0, 0), (36, .aload_n 0, 1, 0, 0, 0, 0), (37, .iconst 1, 1, 0, 0, 0, 0), (38, .putfield 231, 3, 10, 23, 23, 0), (41, .aload_n 0, 1, 0, 0, 0, 0), (42, .invokevirtual 487, 3, 322, 1, 10, 0), (45, .invokestatic 508, 3, 330, 1, 10, 0)],
  [(48, .ireturn, 1, 0, 0, 0, 0)]]
/-- ClosedRoomsModel.back()I -/
def cd_332 : List (List CE) := [[(0, .aload_n 0, 1, 0, 0, 0, 0), (1, .getfield 231, 3, 10, 23, 23, 0), (4, .ifCond .ne 5, 3, 0, 0, 0, 0), (7, .iconst (-1), 1, 0, 0, 0, 0), (8, .ireturn, 1, 0, 0, 0, 0), (9, .iconst 0, 1, 0, 0, 0, 0), (10, .istore_n 1, 1, 0, 0, 0, 0), (11, .iload_n 1, 1, 0, 0, 0, 0), (12, .sipush 526, 3, 0, 0, 0, 0), (15, .if_icmp .ge 21, 3, 0, 0, 0, 0)],
  [(18, .aload_n 0, 1, 0, 0, 0, 0), (19, .getfield 25, 3, 10, 15, 15, 0), (22, .iload_n 1, 1, 0, 0, 0, 0), (23, .aload_n 0, 1, 0, 0, 0, 0), (24, .getfield 40, 3, 10, 22, 22, 0), (27, .iload_n 1, 1, 0, 0, 0, 0), (28, .iaload, 1, 0, 0, 0, 0), (29, .iastore, 1, 0, 0, 0, 0), (30, .iinc 1 1, 3, 0, 0, 0, 0)],
  [(33, .goto (-22), 3, 0, 0, 0, 0), (36, .aload_n 0, 1, 0, 0, 0, 0), (37, .iconst 0, 1, 0, 0, 0, 0), (38, .putfield 228, 3, 10, 18, 18, 0), (41, .aload_n 0, 1, 0, 0, 0, 0), (42, .invokevirtual 487, 3, 322, 1, 10, 0), (45, .invokestatic 508, 3, 330, 1, 10, 0)],
  [(48, .ireturn, 1, 0, 0, 0, 0)]]
/-- ClosedRoomsModel.count(I)I -/
def cd_333 : List (List CE) := [[(0, .iload_n 1, 1, 0, 0, 0, 0), (1, .tableswitch 77 0 4 #[35, 53, 58, 63, 72], 35, 0, 0, 0, 0)],
  [],
  [(36, .aload_n 0, 1, 0, 0, 0, 0), (37, .getfield 199, 3, 10, 11, 11, 0), (40, .ifCond .eq 12, 3, 0, 0, 0, 0), (43, .aload_n 0, 1, 0, 0, 0, 0), (44, .getfield 16, 3, 10, 10, 10, 0), (47, .iconst 0, 1, 0, 0, 0, 0)],
  [(48, .iaload, 1, 0, 0, 0, 0), (49, .goto 4, 3, 0, 0, 0, 0), (52, .iconst 0, 1, 0, 0, 0, 0), (53, .ireturn, 1, 0, 0, 0, 0), (54, .aload_n 0, 1, 0, 0, 0, 0), (55, .getfield 240, 3, 10, 14, 14, 0), (58, .ireturn, 1, 0, 0, 0, 0), (59, .aload_n 0, 1, 0, 0, 0, 0), (60, .getfield 51, 3, 10, 2, 2, 0), (63, .ireturn, 1, 0, 0, 0, 0)],
  [(64, .aload_n 0, 1, 0, 0, 0, 0), (65, .getfield 25, 3, 10, 15, 15, 0), (68, .sipush 345, 3, 0, 0, 0, 0), (71, .iaload, 1, 0, 0, 0, 0), (72, .ireturn, 1, 0, 0, 0, 0), (73, .aload_n 0, 1, 0, 0, 0, 0), (74, .getfield 228, 3, 10, 18, 18, 0), (77, .ireturn, 1, 0, 0, 0, 0), (78, .ldc_w 452, 3, 0, 0, 0, (-1000000))],
  [(81, .ireturn, 1, 0, 0, 0, 0)]]
/-- code, locals, kind of answer -/
def cMT : List (List (List (List CE) × Nat × Nat)) := [[(cd_0, 3, 0), (cd_1, 4, 4), (cd_2, 7, 0), (cd_3, 2, 1), (cd_4, 1, 4), (cd_5, 2, 4), (cd_6, 2, 1), (cd_7, 1, 4), (cd_8, 1, 4), (cd_9, 1, 3), (cd_10, 4, 1), (cd_11, 3, 0), (cd_12, 3, 0), (cd_13, 5, 0), (cd_14, 1, 3), (cd_15, 3, 0)],
  [(cd_16, 2, 1), (cd_17, 3, 4), (cd_18, 3, 4), (cd_19, 6, 0), (cd_20, 4, 0), (cd_21, 2, 0), (cd_22, 4, 4), (cd_23, 1, 4), (cd_24, 1, 4), (cd_25, 1, 4), (cd_26, 5, 4), (cd_27, 1, 0), (cd_28, 2, 4), (cd_29, 1, 0), (cd_30, 2, 0), (cd_31, 2, 0)],
  [(cd_32, 2, 1), (cd_33, 1, 1), (cd_34, 4, 0), (cd_35, 2, 1), (cd_36, 3, 0), (cd_37, 2, 1), (cd_38, 2, 1), (cd_39, 3, 0), (cd_40, 2, 1), (cd_41, 4, 0), (cd_42, 5, 0), (cd_43, 2, 1), (cd_44, 4, 0), (cd_45, 3, 0), (cd_46, 1, 3), (cd_47, 2, 4)],
  [(cd_48, 2, 4), (cd_49, 2, 4), (cd_50, 2, 4), (cd_51, 2, 4), (cd_52, 3, 4), (cd_53, 2, 0), (cd_54, 2, 0), (cd_55, 2, 0), (cd_56, 4, 4), (cd_57, 4, 0), (cd_58, 2, 0), (cd_59, 1, 1), (cd_60, 3, 4), (cd_61, 4, 0), (cd_62, 9, 0), (cd_63, 4, 0)],
  [(cd_64, 2, 0), (cd_65, 5, 0), (cd_66, 4, 0), (cd_67, 4, 1), (cd_68, 4, 4), (cd_69, 9, 0), (cd_70, 2, 1), (cd_71, 3, 0), (cd_72, 5, 0), (cd_73, 3, 0), (cd_74, 2, 4), (cd_75, 4, 4), (cd_76, 9, 0), (cd_77, 2, 1), (cd_78, 1, 1), (cd_79, 3, 0)],
  [(cd_80, 5, 0), (cd_81, 3, 0), (cd_82, 4, 0), (cd_83, 3, 1), (cd_84, 2, 0), (cd_85, 4, 4), (cd_86, 3, 4), (cd_87, 7, 0), (cd_88, 3, 0), (cd_89, 3, 4), (cd_90, 8, 0), (cd_91, 3, 0), (cd_92, 4, 0), (cd_93, 6, 0), (cd_94, 3, 0), (cd_95, 5, 0)],
  [(cd_96, 2, 0), (cd_97, 5, 0), (cd_98, 7, 0), (cd_99, 5, 4), (cd_100, 4, 1), (cd_101, 10, 0), (cd_102, 2, 0), (cd_103, 1, 0), (cd_104, 6, 0), (cd_105, 3, 0), (cd_106, 3, 0), (cd_107, 4, 0), (cd_108, 2, 0), (cd_109, 2, 0), (cd_110, 4, 0), (cd_111, 4, 0)],
  [(cd_112, 2, 0), (cd_113, 2, 0), (cd_114, 4, 0), (cd_115, 4, 0), (cd_116, 2, 0), (cd_117, 4, 0), (cd_118, 2, 0), (cd_119, 3, 0), (cd_120, 2, 0), (cd_121, 3, 0), (cd_122, 2, 0), (cd_123, 5, 0), (cd_124, 4, 0), (cd_125, 5, 1), (cd_126, 2, 0), (cd_127, 1, 0)],
  [(cd_128, 4, 0), (cd_129, 3, 0), (cd_130, 3, 1), (cd_131, 3, 1), (cd_132, 3, 0), (cd_133, 4, 0), (cd_134, 3, 0), (cd_135, 5, 0), (cd_136, 4, 0), (cd_137, 5, 0), (cd_138, 3, 0), (cd_139, 2, 0), (cd_140, 2, 1), (cd_141, 3, 0), (cd_142, 2, 0), (cd_143, 4, 0)],
  [(cd_144, 5, 0), (cd_145, 2, 0), (cd_146, 3, 1), (cd_147, 4, 0), (cd_148, 6, 0), (cd_149, 5, 0), (cd_150, 4, 1), (cd_151, 4, 0), (cd_152, 3, 0), (cd_153, 3, 0), (cd_154, 3, 0), (cd_155, 3, 0), (cd_156, 3, 0), (cd_157, 3, 0), (cd_158, 4, 0), (cd_159, 2, 0)],
  [(cd_160, 1, 0), (cd_161, 1, 0), (cd_162, 1, 0), (cd_163, 2, 0), (cd_164, 4, 0), (cd_165, 1, 0), (cd_166, 7, 0), (cd_167, 9, 0), (cd_168, 3, 1), (cd_169, 2, 1), (cd_170, 1, 0), (cd_171, 1, 0), (cd_172, 1, 1), (cd_173, 1, 1), (cd_174, 2, 0), (cd_175, 3, 4)],
  [(cd_176, 1, 3), (cd_177, 1, 3), (cd_178, 4, 2), (cd_179, 4, 0), (cd_180, 2, 1), (cd_181, 1, 4), (cd_182, 1, 0), (cd_183, 1, 0), (cd_184, 4, 0), (cd_185, 4, 0), (cd_186, 1, 0), (cd_187, 4, 4), (cd_188, 3, 0), (cd_189, 2, 0), (cd_190, 4, 4), (cd_191, 3, 4)],
  [(cd_192, 4, 4), (cd_193, 2, 4), (cd_194, 2, 0), (cd_195, 2, 0), (cd_196, 3, 0), (cd_197, 2, 0), (cd_198, 3, 0), (cd_199, 2, 0), (cd_200, 2, 0), (cd_201, 2, 1), (cd_202, 3, 1), (cd_203, 2, 1), (cd_204, 6, 0), (cd_205, 3, 0), (cd_206, 3, 0), (cd_207, 2, 1)],
  [(cd_208, 3, 0), (cd_209, 2, 1), (cd_210, 3, 0), (cd_211, 2, 1), (cd_212, 4, 1), (cd_213, 6, 0), (cd_214, 2, 0), (cd_215, 4, 0), (cd_216, 4, 0), (cd_217, 6, 0), (cd_218, 2, 1), (cd_219, 2, 1), (cd_220, 2, 0), (cd_221, 5, 0), (cd_222, 2, 0), (cd_223, 2, 1)],
  [(cd_224, 5, 0), (cd_225, 4, 1), (cd_226, 3, 0), (cd_227, 2, 0), (cd_228, 4, 0), (cd_229, 2, 1), (cd_230, 3, 0), (cd_231, 6, 1), (cd_232, 4, 0), (cd_233, 4, 0), (cd_234, 4, 0), (cd_235, 3, 0), (cd_236, 4, 0), (cd_237, 3, 0), (cd_238, 3, 0), (cd_239, 7, 0)],
  [(cd_240, 2, 4), (cd_241, 4, 4), (cd_242, 5, 0), (cd_243, 2, 0), (cd_244, 7, 0), (cd_245, 4, 0), (cd_246, 3, 0), (cd_247, 2, 0), (cd_248, 5, 0), (cd_249, 2, 0), (cd_250, 3, 0), (cd_251, 5, 0), (cd_252, 6, 4), (cd_253, 6, 0), (cd_254, 2, 0), (cd_255, 2, 0)],
  [(cd_256, 4, 4), (cd_257, 6, 0), (cd_258, 6, 0), (cd_259, 4, 0), (cd_260, 5, 0), (cd_261, 4, 0), (cd_262, 4, 0), (cd_263, 2, 0), (cd_264, 4, 0), (cd_265, 7, 0), (cd_266, 5, 4), (cd_267, 8, 0), (cd_268, 9, 0), (cd_269, 2, 0), (cd_270, 1, 0), (cd_271, 6, 0)],
  [(cd_272, 3, 0), (cd_273, 3, 0), (cd_274, 4, 0), (cd_275, 2, 0), (cd_276, 2, 0), (cd_277, 4, 0), (cd_278, 4, 0), (cd_279, 2, 0), (cd_280, 2, 0), (cd_281, 4, 0), (cd_282, 4, 0), (cd_283, 2, 0), (cd_284, 4, 0), (cd_285, 2, 0), (cd_286, 3, 0), (cd_287, 2, 0)],
  [(cd_288, 3, 0), (cd_289, 2, 0), (cd_290, 2, 0), (cd_291, 3, 0), (cd_292, 2, 0), (cd_293, 5, 0), (cd_294, 3, 0), (cd_295, 5, 0), (cd_296, 3, 0), (cd_297, 3, 0), (cd_298, 3, 0), (cd_299, 4, 0), (cd_300, 3, 0), (cd_301, 5, 0), (cd_302, 3, 0), (cd_303, 5, 1)],
  [(cd_304, 5, 1), (cd_305, 4, 0), (cd_306, 4, 0), (cd_307, 3, 0), (cd_308, 5, 0), (cd_309, 4, 0), (cd_310, 1, 0), (cd_311, 3, 0), (cd_312, 2, 1), (cd_313, 4, 0), (cd_314, 6, 0), (cd_315, 3, 1), (cd_316, 2, 0), (cd_317, 6, 0), (cd_318, 4, 0), (cd_319, 7, 0)],
  [(cd_320, 5, 0), (cd_321, 2, 0), (cd_322, 3, 0), (cd_323, 3, 0), (cd_324, 3, 0), (cd_325, 3, 0), (cd_326, 3, 0), (cd_327, 3, 0), (cd_328, 3, 0), (cd_329, 2, 0), (cd_330, 3, 0), (cd_331, 2, 0), (cd_332, 2, 0), (cd_333, 2, 0)]]
def mth (m : Nat) : List (List CE) × Nat × Nat := (cMT.getD (m / 16) []).getD (m % 16) ([], 0, 0)
abbrev m_X_bytesOf : Nat := 0
abbrev m_Tape_append : Nat := 1
abbrev m_X_feed : Nat := 2
abbrev m_X_end : Nat := 3
abbrev m_Script_begin : Nat := 4
abbrev m_Tape_begin : Nat := 5
abbrev m_Tape_stands : Nat := 6
abbrev m_Tape_skipBlanks : Nat := 7
abbrev m_Tape_skipLetters : Nat := 8
abbrev m_Tape_ruleWord : Nat := 9
abbrev m_Tape_isWord : Nat := 10
abbrev m_Tape_ruleOf : Nat := 11
abbrev m_Tape_readNumber : Nat := 12
abbrev m_Tape_readClause : Nat := 13
abbrev m_Tape_stepWord : Nat := 14
abbrev m_Tape_stepOf : Nat := 15
abbrev m_Script_hasStep : Nat := 16
abbrev m_Script_write : Nat := 17
abbrev m_Script_open : Nat := 18
abbrev m_Tape_readStep : Nat := 19
abbrev m_Tape_faultAs : Nat := 20
abbrev m_X_fault : Nat := 21
abbrev m_Page_begin : Nat := 22
abbrev m_Core_goOutside : Nat := 23
abbrev m_Core_begin : Nat := 24
abbrev m_Log_begin : Nat := 25
abbrev m_World_begin : Nat := 26
abbrev m_X_takeMachine : Nat := 27
abbrev m_Script_take : Nat := 28
abbrev m_X_takeScript : Nat := 29
abbrev m_X_text : Nat := 30
abbrev m_X_rule : Nat := 31
abbrev m_World_isPage : Nat := 32
abbrev m_Page_hasRoom : Nat := 33
abbrev m_X_page : Nat := 34
abbrev m_World_isSlots : Nat := 35
abbrev m_X_version : Nat := 36
abbrev m_World_isRoom : Nat := 37
abbrev m_Room_hasAddress : Nat := 38
abbrev m_X_mapped : Nat := 39
abbrev m_World_isCore : Nat := 40
abbrev m_X_core : Nat := 41
abbrev m_X_seen : Nat := 42
abbrev m_World_isCopy : Nat := 43
abbrev m_X_copyOf : Nat := 44
abbrev m_JMath_floorMod : Nat := 45
abbrev m_X_pastRow : Nat := 46
abbrev m_Page_take : Nat := 47
abbrev m_Room_take : Nat := 48
abbrev m_Core_take : Nat := 49
abbrev m_Copy_take : Nat := 50
abbrev m_Log_take : Nat := 51
abbrev m_World_take : Nat := 52
abbrev m_Acts_refuse : Nat := 53
abbrev m_World_lowestFreePage : Nat := 54
abbrev m_World_lowestRoomNotThere : Nat := 55
abbrev m_Room_begin : Nat := 56
abbrev m_Acts_makeRoom : Nat := 57
abbrev m_Acts_makeSlots : Nat := 58
abbrev m_Room_canBeBuilt : Nat := 59
abbrev m_Room_settle : Nat := 60
abbrev m_X_measureWithAdd : Nat := 61
abbrev m_Acts_addPage : Nat := 62
abbrev m_World_pageAt : Nat := 63
abbrev m_X_measureWithExtend : Nat := 64
abbrev m_Acts_extendBy : Nat := 65
abbrev m_Acts_sealRoom : Nat := 66
abbrev m_World_isPageOf : Nat := 67
abbrev m_Core_goInside : Nat := 68
abbrev m_Acts_goIn : Nat := 69
abbrev m_World_isInside : Nat := 70
abbrev m_Acts_goOut : Nat := 71
abbrev m_Acts_goOutInHaste : Nat := 72
abbrev m_Core_pageSeenAt : Nat := 73
abbrev m_Core_forgetLongestSeen : Nat := 74
abbrev m_Core_see : Nat := 75
abbrev m_Acts_touchPage : Nat := 76
abbrev m_World_isFilled : Nat := 77
abbrev m_Page_hasAddress : Nat := 78
abbrev m_Acts_blockPage : Nat := 79
abbrev m_World_coresInside : Nat := 80
abbrev m_Acts_trackRoom : Nat := 81
abbrev m_World_pagesHere : Nat := 82
abbrev m_World_canGo : Nat := 83
abbrev m_World_lowestEmptyPlace : Nat := 84
abbrev m_Copy_keep : Nat := 85
abbrev m_Room_place : Nat := 86
abbrev m_Acts_evictPage : Nat := 87
abbrev m_World_roomOfSerial : Nat := 88
abbrev m_Copy_fill : Nat := 89
abbrev m_Acts_loadCopy : Nat := 90
abbrev m_Page_emptySlots : Nat := 91
abbrev m_Acts_removePage : Nat := 92
abbrev m_Acts_tellMap : Nat := 93
abbrev m_Acts_doubleCopy : Nat := 94
abbrev m_Acts_changeCopy : Nat := 95
abbrev m_Acts_dropCopy : Nat := 96
abbrev m_Acts_tellRegister : Nat := 97
abbrev m_Acts_carryOut : Nat := 98
abbrev m_Log_write : Nat := 99
abbrev m_X_keepsAct : Nat := 100
abbrev m_X_act : Nat := 101
abbrev m_X_create : Nat := 102
abbrev m_X_slots : Nat := 103
abbrev m_X_add : Nat := 104
abbrev m_X_extend : Nat := 105
abbrev m_X_seal : Nat := 106
abbrev m_X_enter : Nat := 107
abbrev m_X_leave : Nat := 108
abbrev m_X_trap : Nat := 109
abbrev m_X_resume : Nat := 110
abbrev m_X_touch : Nat := 111
abbrev m_X_block : Nat := 112
abbrev m_X_track : Nat := 113
abbrev m_X_evict : Nat := 114
abbrev m_X_load : Nat := 115
abbrev m_X_remove : Nat := 116
abbrev m_X_map : Nat := 117
abbrev m_X_twice : Nat := 118
abbrev m_X_change : Nat := 119
abbrev m_X_drop : Nat := 120
abbrev m_X_tell : Nat := 121
abbrev m_World_measureOf : Nat := 122
abbrev m_X_reportFrom : Nat := 123
abbrev m_X_report : Nat := 124
abbrev m_X_proves : Nat := 125
abbrev m_X_status : Nat := 126
abbrev m_X_undo : Nat := 127
abbrev m_Log_told : Nat := 128
abbrev m_X_log : Nat := 129
abbrev m_Page_hasVersion : Nat := 130
abbrev m_World_isOld : Nat := 131
abbrev m_X_old : Nat := 132
abbrev m_X_twins : Nat := 133
abbrev m_X_waits : Nat := 134
abbrev m_World_leaksOf : Nat := 135
abbrev m_X_leaks : Nat := 136
abbrev m_X_lies : Nat := 137
abbrev m_X_victimOf : Nat := 138
abbrev m_X_victim : Nat := 139
abbrev m_X_isScript : Nat := 140
abbrev m_Script_told : Nat := 141
abbrev m_Script_firstCreate : Nat := 142
abbrev m_Script_valueAhead : Nat := 143
abbrev m_Script_paperMeasure : Nat := 144
abbrev m_X_paper : Nat := 145
abbrev m_X_alike : Nat := 146
abbrev m_X_step : Nat := 147
abbrev m_Acts_carryOutStep : Nat := 148
abbrev m_X_run : Nat := 149
abbrev m_X_doesStep : Nat := 150
abbrev m_X_perform : Nat := 151
abbrev m_World_freePages : Nat := 152
abbrev m_World_roomsThere : Nat := 153
abbrev m_World_coresInsideAny : Nat := 154
abbrev m_World_copiesThere : Nat := 155
abbrev m_World_emptySlots : Nat := 156
abbrev m_World_blockedPages : Nat := 157
abbrev m_World_fullestRoom : Nat := 158
abbrev m_X_all : Nat := 159
abbrev m_JInteger_bitCount : Nat := 160
abbrev m_X_image : Nat := 161
abbrev m_X_back : Nat := 162
abbrev m_X_count : Nat := 163
abbrev m_Room_addressesThatAre : Nat := 164
abbrev m_Z_thrown : Nat := 165
abbrev m_Z_byteOf : Nat := 166
abbrev m_Z_feed : Nat := 167
abbrev m_Z_in : Nat := 168
abbrev m_Z_end : Nat := 169
abbrev m_Z_usual : Nat := 170
abbrev m_Z_here : Nat := 171
abbrev m_Z_isLetter : Nat := 172
abbrev m_Z_isDigit : Nat := 173
abbrev m_JMath_min : Nat := 174
abbrev m_Z_next : Nat := 175
abbrev m_Z_stepWord : Nat := 176
abbrev m_Z_machineWord : Nat := 177
abbrev m_Z_spelled : Nat := 178
abbrev m_Z_wordHere : Nat := 179
abbrev m_Z_has : Nat := 180
abbrev m_Z_bad : Nat := 181
abbrev m_Z_lowest : Nat := 182
abbrev m_Z_highest : Nat := 183
abbrev m_Z_number : Nat := 184
abbrev m_Z_readMachine : Nat := 185
abbrev m_Z_manyOf : Nat := 186
abbrev m_Z_readStep : Nat := 187
abbrev m_Z_readScript : Nat := 188
abbrev m_Z_fault : Nat := 189
abbrev m_Z_setPage : Nat := 190
abbrev m_Z_clearPage : Nat := 191
abbrev m_Z_setCore : Nat := 192
abbrev m_Z_putOutside : Nat := 193
abbrev m_Z_takeMachine : Nat := 194
abbrev m_Z_text : Nat := 195
abbrev m_Z_ofPage : Nat := 196
abbrev m_Z_freePage : Nat := 197
abbrev m_Z_ofRoom : Nat := 198
abbrev m_Z_freeRoom : Nat := 199
abbrev m_Z_whyCreate : Nat := 200
abbrev m_Z_isRoom : Nat := 201
abbrev m_Z_isAddress : Nat := 202
abbrev m_Z_isAway : Nat := 203
abbrev m_Z_whyAdd : Nat := 204
abbrev m_Z_whyExtend : Nat := 205
abbrev m_Z_whySeal : Nat := 206
abbrev m_Z_isCore : Nat := 207
abbrev m_Z_ofCore : Nat := 208
abbrev m_Z_isInside : Nat := 209
abbrev m_Z_mapOf : Nat := 210
abbrev m_Z_isPage : Nat := 211
abbrev m_Z_isPageOf : Nat := 212
abbrev m_Z_whyEnter : Nat := 213
abbrev m_Z_whyLeave : Nat := 214
abbrev m_Z_sightOf : Nat := 215
abbrev m_Z_touched : Nat := 216
abbrev m_Z_whyTouch : Nat := 217
abbrev m_Z_isUsed : Nat := 218
abbrev m_Z_isMoving : Nat := 219
abbrev m_Z_whyBlock : Nat := 220
abbrev m_Z_insideSince : Nat := 221
abbrev m_Z_whyTrack : Nat := 222
abbrev m_Z_areSlots : Nat := 223
abbrev m_Z_pagesOf : Nat := 224
abbrev m_Z_canGo : Nat := 225
abbrev m_Z_ofCopy : Nat := 226
abbrev m_Z_freePlace : Nat := 227
abbrev m_Z_whyEvict : Nat := 228
abbrev m_Z_isCopy : Nat := 229
abbrev m_Z_roomBy : Nat := 230
abbrev m_Z_isTrue : Nat := 231
abbrev m_Z_whyLoad : Nat := 232
abbrev m_Z_emptySlots : Nat := 233
abbrev m_Z_insideOf : Nat := 234
abbrev m_Z_whyRemove : Nat := 235
abbrev m_Z_whyMap : Nat := 236
abbrev m_Z_whyChange : Nat := 237
abbrev m_Z_whyTell : Nat := 238
abbrev m_Z_whyNot : Nat := 239
abbrev m_Z_keep : Nat := 240
abbrev m_Z_setRoom : Nat := 241
abbrev m_Z_createNow : Nat := 242
abbrev m_Z_slotsNow : Nat := 243
abbrev m_Z_addNow : Nat := 244
abbrev m_Z_pageAt : Nat := 245
abbrev m_Z_extendNow : Nat := 246
abbrev m_Z_sealNow : Nat := 247
abbrev m_Z_enterNow : Nat := 248
abbrev m_Z_leaveNow : Nat := 249
abbrev m_Z_trapNow : Nat := 250
abbrev m_Z_resumeNow : Nat := 251
abbrev m_Z_sees : Nat := 252
abbrev m_Z_touchNow : Nat := 253
abbrev m_Z_blockNow : Nat := 254
abbrev m_Z_trackNow : Nat := 255
abbrev m_Z_setCopy : Nat := 256
abbrev m_Z_evictNow : Nat := 257
abbrev m_Z_loadNow : Nat := 258
abbrev m_Z_removeNow : Nat := 259
abbrev m_Z_mapNow : Nat := 260
abbrev m_Z_doubleNow : Nat := 261
abbrev m_Z_changeNow : Nat := 262
abbrev m_Z_dropNow : Nat := 263
abbrev m_Z_tellNow : Nat := 264
abbrev m_Z_doNow : Nat := 265
abbrev m_Z_note : Nat := 266
abbrev m_Z_act : Nat := 267
abbrev m_Z_hand : Nat := 268
abbrev m_Z_create : Nat := 269
abbrev m_Z_slots : Nat := 270
abbrev m_Z_add : Nat := 271
abbrev m_Z_extend : Nat := 272
abbrev m_Z_seal : Nat := 273
abbrev m_Z_enter : Nat := 274
abbrev m_Z_leave : Nat := 275
abbrev m_Z_trap : Nat := 276
abbrev m_Z_resume : Nat := 277
abbrev m_Z_touch : Nat := 278
abbrev m_Z_block : Nat := 279
abbrev m_Z_track : Nat := 280
abbrev m_Z_evict : Nat := 281
abbrev m_Z_load : Nat := 282
abbrev m_Z_remove : Nat := 283
abbrev m_Z_map : Nat := 284
abbrev m_Z_twice : Nat := 285
abbrev m_Z_change : Nat := 286
abbrev m_Z_drop : Nat := 287
abbrev m_Z_tell : Nat := 288
abbrev m_Z_status : Nat := 289
abbrev m_Z_undo : Nat := 290
abbrev m_Z_log : Nat := 291
abbrev m_Z_rule : Nat := 292
abbrev m_Z_page : Nat := 293
abbrev m_Z_version : Nat := 294
abbrev m_Z_addressesBy : Nat := 295
abbrev m_Z_room : Nat := 296
abbrev m_Z_mapped : Nat := 297
abbrev m_Z_core : Nat := 298
abbrev m_Z_seen : Nat := 299
abbrev m_Z_copyOf : Nat := 300
abbrev m_Z_reported : Nat := 301
abbrev m_Z_report : Nat := 302
abbrev m_Z_proves : Nat := 303
abbrev m_Z_isInSlots : Nat := 304
abbrev m_Z_old : Nat := 305
abbrev m_Z_twins : Nat := 306
abbrev m_Z_waits : Nat := 307
abbrev m_Z_leaks : Nat := 308
abbrev m_Z_lies : Nat := 309
abbrev m_Z_rankOf : Nat := 310
abbrev m_Z_victim : Nat := 311
abbrev m_Z_isScript : Nat := 312
abbrev m_Z_stepOf : Nat := 313
abbrev m_Z_paper : Nat := 314
abbrev m_Z_alike : Nat := 315
abbrev m_Z_byteAt : Nat := 316
abbrev m_Z_spell : Nat := 317
abbrev m_Z_step : Nat := 318
abbrev m_Z_goSteps : Nat := 319
abbrev m_Z_run : Nat := 320
abbrev m_Z_perform : Nat := 321
abbrev m_Z_freeSet : Nat := 322
abbrev m_Z_roomSet : Nat := 323
abbrev m_Z_insideSet : Nat := 324
abbrev m_Z_copySet : Nat := 325
abbrev m_Z_emptyOfAll : Nat := 326
abbrev m_Z_blockedSet : Nat := 327
abbrev m_Z_fullest : Nat := 328
abbrev m_Z_all : Nat := 329
abbrev m_Z_bits : Nat := 330
abbrev m_Z_image : Nat := 331
abbrev m_Z_back : Nat := 332
abbrev m_Z_count : Nat := 333
