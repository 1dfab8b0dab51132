def Rn0 : String := "PathShelf"
def Tn0 : u_T := fun k => match k with
  | 0 => ("PathShelf", "buffer", "LPathShelf$Row;", true)
  | 1 => ("PathShelf", "typed", "LPathShelf$Path;", true)
  | 2 => ("PathShelf", "store", "LPathShelf$Store;", true)
  | 3 => ("PathShelf", "indexPaths", "[LPathShelf$Path;", true)
  | 4 => ("PathShelf", "conditions", "[LPathShelf$Condition;", true)
  | 5 => ("PathShelf", "conditionTotal", "I", false)
  | 6 => ("PathShelf", "tree", "LPathShelf$Tree;", true)
  | 7 => ("PathShelf", "trail", "LPathShelf$Trail;", true)
  | 8 => ("PathShelf", "editor", "LPathShelf$Editor;", true)
  | 9 => ("PathShelf", "matches", "[I", true)
  | 10 => ("PathShelf", "matchTotal", "I", false)
  | 11 => ("PathShelf", "examinedTotal", "I", false)
  | 12 => ("PathShelf", "foundNumbers", "[I", true)
  | _ => ("PathShelf", "foundTotal", "I", false)
def Rn1 : String := "PathShelf$Condition"
def Tn1 : u_T := fun k => match k with
  | 0 => ("PathShelf$Condition", "path", "LPathShelf$Path;", true)
  | 1 => ("PathShelf$Condition", "operand", "LPathShelf$Row;", true)
  | _ => ("PathShelf$Condition", "form", "I", false)
def Rn2 : String := "PathShelf$Editor"
def Tn2 : u_T := fun k => match k with
  | 0 => ("PathShelf$Editor", "piece", "LPathShelf$Row;", true)
  | 1 => ("PathShelf$Editor", "result", "LPathShelf$Row;", true)
  | 2 => ("PathShelf$Editor", "check", "LPathShelf$Tree;", true)
  | 3 => ("PathShelf$Editor", "opened", "[I", true)
  | 4 => ("PathShelf$Editor", "openedTotal", "I", false)
  | 5 => ("PathShelf$Editor", "nest", "I", false)
  | 6 => ("PathShelf$Editor", "from", "I", false)
  | _ => ("PathShelf$Editor", "to", "I", false)
def Rn3 : String := "PathShelf$Path"
def Tn3 : u_T := fun k => match k with
  | 0 => ("PathShelf$Path", "names", "[I", true)
  | _ => ("PathShelf$Path", "length", "I", false)
def Rn4 : String := "PathShelf$Row"
def Tn4 : u_T := fun k => match k with
  | 0 => ("PathShelf$Row", "cells", "[I", true)
  | _ => ("PathShelf$Row", "length", "I", false)
def Rn5 : String := "PathShelf$Store"
def Tn5 : u_T := fun k => match k with
  | 0 => ("PathShelf$Store", "documents", "[LPathShelf$Row;", true)
  | 1 => ("PathShelf$Store", "numbers", "[I", true)
  | _ => ("PathShelf$Store", "total", "I", false)
def Rn6 : String := "PathShelf$Trail"
def Tn6 : u_T := fun k => match k with
  | 0 => ("PathShelf$Trail", "gone", "[I", true)
  | 1 => ("PathShelf$Trail", "nodes", "[I", true)
  | 2 => ("PathShelf$Trail", "byNames", "[Z", true)
  | _ => ("PathShelf$Trail", "total", "I", false)
def Rn7 : String := "PathShelf$Tree"
def Tn7 : u_T := fun k => match k with
  | 0 => ("PathShelf$Tree", "types", "[I", true)
  | 1 => ("PathShelf$Tree", "names", "[I", true)
  | 2 => ("PathShelf$Tree", "starts", "[I", true)
  | 3 => ("PathShelf$Tree", "places", "[I", true)
  | 4 => ("PathShelf$Tree", "ends", "[I", true)
  | 5 => ("PathShelf$Tree", "parents", "[I", true)
  | 6 => ("PathShelf$Tree", "total", "I", false)
  | 7 => ("PathShelf$Tree", "row", "LPathShelf$Row;", false)
  | 8 => ("PathShelf$Tree", "place", "I", false)
  | 9 => ("PathShelf$Tree", "fault", "I", false)
  | 10 => ("PathShelf$Tree", "open", "I", false)
  | _ => ("PathShelf$Tree", "depth", "I", false)
def Rn8 : String := "PathShelfModel"
def Tn8 : u_T := fun k => match k with
  | 0 => ("PathShelfModel", "m", "[I", false)
  | 1 => ("PathShelfModel", "size", "I", false)
  | 2 => ("PathShelfModel", "documents", "I", false)
  | 3 => ("PathShelfModel", "length", "[I", false)
  | 4 => ("PathShelfModel", "number", "[I", false)
  | 5 => ("PathShelfModel", "names", "[I", false)
  | 6 => ("PathShelfModel", "letters", "[I", false)
  | 7 => ("PathShelfModel", "conditions", "I", false)
  | 8 => ("PathShelfModel", "form", "[I", false)
  | 9 => ("PathShelfModel", "foundCount", "I", false)
  | 10 => ("PathShelfModel", "foundNumber", "[I", false)
  | 11 => ("PathShelfModel", "examinedCount", "I", false)
  | 12 => ("PathShelfModel", "matches", "[Z", false)
  | 13 => ("PathShelfModel", "many", "I", false)
  | 14 => ("PathShelfModel", "type", "[I", false)
  | 15 => ("PathShelfModel", "place", "[I", false)
  | 16 => ("PathShelfModel", "nextType", "[I", false)
  | 17 => ("PathShelfModel", "nextPlace", "[I", false)
  | 18 => ("PathShelfModel", "starts", "[I", false)
  | 19 => ("PathShelfModel", "kinds", "[I", false)
  | 20 => ("PathShelfModel", "fault", "I", false)
  | 21 => ("PathShelfModel", "way", "[I", false)
  | 22 => ("PathShelfModel", "element", "I", false)
  | 23 => ("PathShelfModel", "workSize", "I", false)
  | 24 => ("PathShelfModel", "row", "[I", false)
  | _ => ("PathShelfModel", "rowSize", "I", false)
def Yn0 : Nat → FieldType := fun k => match k with
  | 0 => .object "PathShelf$Row"
  | 1 => .object "PathShelf$Path"
  | 2 => .object "PathShelf$Store"
  | 3 => .array (.object "PathShelf$Path")
  | 4 => .array (.object "PathShelf$Condition")
  | 5 => .int
  | 6 => .object "PathShelf$Tree"
  | 7 => .object "PathShelf$Trail"
  | 8 => .object "PathShelf$Editor"
  | 9 => .array .int
  | 10 => .int
  | 11 => .int
  | 12 => .array .int
  | _ => .int
def Yn1 : Nat → FieldType := fun k => match k with
  | 0 => .object "PathShelf$Path"
  | 1 => .object "PathShelf$Row"
  | _ => .int
def Yn2 : Nat → FieldType := fun k => match k with
  | 0 => .object "PathShelf$Row"
  | 1 => .object "PathShelf$Row"
  | 2 => .object "PathShelf$Tree"
  | 3 => .array .int
  | 4 => .int
  | 5 => .int
  | 6 => .int
  | _ => .int
def Yn3 : Nat → FieldType := fun k => match k with
  | 0 => .array .int
  | _ => .int
def Yn4 : Nat → FieldType := fun k => match k with
  | 0 => .array .int
  | _ => .int
def Yn5 : Nat → FieldType := fun k => match k with
  | 0 => .array (.object "PathShelf$Row")
  | 1 => .array .int
  | _ => .int
def Yn6 : Nat → FieldType := fun k => match k with
  | 0 => .array .int
  | 1 => .array .int
  | 2 => .array .boolean
  | _ => .int
def Yn7 : Nat → FieldType := fun k => match k with
  | 0 => .array .int
  | 1 => .array .int
  | 2 => .array .int
  | 3 => .array .int
  | 4 => .array .int
  | 5 => .array .int
  | 6 => .int
  | 7 => .object "PathShelf$Row"
  | 8 => .int
  | 9 => .int
  | 10 => .int
  | _ => .int
def Yn8 : Nat → FieldType := fun k => match k with
  | 0 => .array .int
  | 1 => .int
  | 2 => .int
  | 3 => .array .int
  | 4 => .array .int
  | 5 => .array .int
  | 6 => .array .int
  | 7 => .int
  | 8 => .array .int
  | 9 => .int
  | 10 => .array .int
  | 11 => .int
  | 12 => .array .boolean
  | 13 => .int
  | 14 => .array .int
  | 15 => .array .int
  | 16 => .array .int
  | 17 => .array .int
  | 18 => .array .int
  | 19 => .array .int
  | 20 => .int
  | 21 => .array .int
  | 22 => .int
  | 23 => .int
  | 24 => .array .int
  | _ => .int
abbrev cls_ : List vw_C := [(Rn0, Tn0, 14), (Rn1, Tn1, 3), (Rn2, Tn2, 8), (Rn3, Tn3, 2), (Rn4, Tn4, 2), (Rn5, Tn5, 3), (Rn6, Tn6, 4), (Rn7, Tn7, 12), (Rn8, Tn8, 26)]
/-- kinds of slots: 0 int, 1 a reference at a fixed distance, 2 another reference -/
def fkL : List (List Nat) := [[1, 1, 1, 1, 1, 0, 1, 1, 1, 1, 0, 0, 1, 0], [1, 1, 0], [1, 1, 1, 1, 0, 0, 0, 0], [1, 0], [1, 0], [1, 1, 0], [1, 1, 1, 0], [1, 1, 1, 1, 1, 1, 0, 2, 0, 0, 0, 0], [1, 0, 0, 1, 1, 1, 1, 0, 1, 0, 1, 0, 1, 0, 1, 1, 1, 1, 1, 1, 0, 1, 0, 0, 1, 0]]
def ofL : List (List Nat) := [[1, 3, 5, 40, 41, 0, 42, 51, 55, 70, 0, 0, 71, 0], [1, 3, 0], [1, 3, 5, 14, 0, 0, 0, 0], [1, 0], [1, 0], [1, 2, 0], [1, 2, 3, 0], [1, 2, 3, 4, 5, 6, 0, 0, 0, 0, 0, 0], [1, 0, 0, 2, 3, 4, 5, 0, 6, 0, 7, 0, 8, 0, 9, 10, 11, 12, 13, 14, 0, 15, 0, 0, 16, 0]]
/-- kinds of arrays of references: their place in the list of array types -/
def kqT (t : Nat) : Option Nat := match t with
  | 3 => some 2
  | 5 => some 3
  | 6 => some 4
  | _ => none
def am_tys (K : Nat → ClassId) : List (ClassId × FieldType) := [(K 0, .int), (K 1, .boolean), (K 3, .object Rn1), (K 5, .object Rn3), (K 6, .object Rn4)]
def fkT (c s : Nat) : Nat := (fkL.getD c []).getD s 0
def ofT (c s : Nat) : Nat := (ofL.getD c []).getD s 0
