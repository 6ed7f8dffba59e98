/-! Names of the classes, their fields; the kinds of objects (a kind and a number in it), where static pointers lead. Printed by wip/gen/gen02.py. -/
/-- the tables' words that hold in every state of the run -/
def xtbl : List Cond := lw_tbl.filter goodWord
theorem xtbl_in {w : Cond} (h : w ∈ xtbl) : w ∈ lw_tbl := (List.mem_filter.mp h).1
theorem xtbl_of {w : Cond} (h : w ∈ lw_tbl) (hg : goodWord w = true) : w ∈ xtbl := List.mem_filter.mpr ⟨h, hg⟩
/-- a word of the tables, by its place (behind the private methods' words) -/
theorem xtbl_at {w : Cond} (i : Nat) (h : lw_tbl[i]? = some w) (hg : goodWord w = true) : w ∈ xtbl := xtbl_of (List.mem_of_getElem? h) hg
def xR_Main : String := "ThreePoints"
def xT_Main : u_T := fun k => match k with
  | 0 => ("ThreePoints", "yard", "LThreePoints$Yard;", true)
  | 1 => ("ThreePoints", "kept", "LThreePoints$Yard;", true)
  | 2 => ("ThreePoints", "hasImage", "Z", false)
  | 3 => ("ThreePoints", "reader", "LThreePoints$Reader;", true)
  | 4 => ("ThreePoints", "texts", "[LThreePoints$Text;", true)
  | 5 => ("ThreePoints", "textCount", "I", false)
  | 6 => ("ThreePoints", "sheets", "[LThreePoints$Sheet;", true)
  | 7 => ("ThreePoints", "ride", "LThreePoints$Ride;", true)
  | _ => ("ThreePoints", "search", "LThreePoints$Search;", true)
def xy_Main : Nat → FieldType := fun k => match k with
  | 0 => .object "ThreePoints$Yard"
  | 1 => .object "ThreePoints$Yard"
  | 2 => .boolean
  | 3 => .object "ThreePoints$Reader"
  | 4 => .array (.object "ThreePoints$Text")
  | 5 => .int
  | 6 => .array (.object "ThreePoints$Sheet")
  | 7 => .object "ThreePoints$Ride"
  | _ => .object "ThreePoints$Search"
theorem xn_Main : ∀ a, a < 9 → ∀ b, b < 9 → a ≠ b → (xT_Main a).2.1 ≠ (xT_Main b).2.1 := by decide +kernel
theorem xy_Main_ok : ∀ k, k < 9 → parseFieldDescriptor (xT_Main k).2.2.1 = some (xy_Main k) := by decide +kernel
theorem xi_Main : ∀ w ∈ u_ws "ThreePoints" xT_Main 9, w ∈ xtbl := fun w h => xtbl_of ((by decide +kernel : ∀ w ∈ u_ws "ThreePoints" xT_Main 9, w ∈ lw_tbl) w h) ((by decide +kernel : ∀ w ∈ u_ws "ThreePoints" xT_Main 9, goodWord w = true) w h)
def xR_Yard : String := "ThreePoints$Yard"
def xT_Yard : u_T := fun k => match k with
  | 0 => ("ThreePoints$Yard", "lane", "LThreePoints$Lane;", true)
  | 1 => ("ThreePoints$Yard", "vehicles", "[LThreePoints$Vehicle;", true)
  | _ => ("ThreePoints$Yard", "count", "I", false)
def xy_Yard : Nat → FieldType := fun k => match k with
  | 0 => .object "ThreePoints$Lane"
  | 1 => .array (.object "ThreePoints$Vehicle")
  | _ => .int
theorem xn_Yard : ∀ a, a < 3 → ∀ b, b < 3 → a ≠ b → (xT_Yard a).2.1 ≠ (xT_Yard b).2.1 := by decide +kernel
theorem xy_Yard_ok : ∀ k, k < 3 → parseFieldDescriptor (xT_Yard k).2.2.1 = some (xy_Yard k) := by decide +kernel
theorem xi_Yard : ∀ w ∈ u_ws "ThreePoints$Yard" xT_Yard 3, w ∈ xtbl := fun w h => xtbl_of ((by decide +kernel : ∀ w ∈ u_ws "ThreePoints$Yard" xT_Yard 3, w ∈ lw_tbl) w h) ((by decide +kernel : ∀ w ∈ u_ws "ThreePoints$Yard" xT_Yard 3, goodWord w = true) w h)
def xR_Lane : String := "ThreePoints$Lane"
def xT_Lane : u_T := fun k => match k with
  | 0 => ("ThreePoints$Lane", "width", "I", false)
  | 1 => ("ThreePoints$Lane", "opening", "I", false)
  | _ => ("ThreePoints$Lane", "law", "I", false)
def xy_Lane : Nat → FieldType := fun k => match k with
  | 0 => .int
  | 1 => .int
  | _ => .int
theorem xn_Lane : ∀ a, a < 3 → ∀ b, b < 3 → a ≠ b → (xT_Lane a).2.1 ≠ (xT_Lane b).2.1 := by decide +kernel
theorem xy_Lane_ok : ∀ k, k < 3 → parseFieldDescriptor (xT_Lane k).2.2.1 = some (xy_Lane k) := by decide +kernel
theorem xi_Lane : ∀ w ∈ u_ws "ThreePoints$Lane" xT_Lane 3, w ∈ xtbl := fun w h => xtbl_of ((by decide +kernel : ∀ w ∈ u_ws "ThreePoints$Lane" xT_Lane 3, w ∈ lw_tbl) w h) ((by decide +kernel : ∀ w ∈ u_ws "ThreePoints$Lane" xT_Lane 3, goodWord w = true) w h)
def xR_Vehicle : String := "ThreePoints$Vehicle"
def xT_Vehicle : u_T := fun k => match k with
  | 0 => ("ThreePoints$Vehicle", "kind", "I", false)
  | 1 => ("ThreePoints$Vehicle", "more", "I", false)
  | 2 => ("ThreePoints$Vehicle", "place", "I", false)
  | 3 => ("ThreePoints$Vehicle", "heading", "I", false)
  | 4 => ("ThreePoints$Vehicle", "points", "I", false)
  | 5 => ("ThreePoints$Vehicle", "wear", "I", false)
  | _ => ("ThreePoints$Vehicle", "last", "I", false)
def xy_Vehicle : Nat → FieldType := fun k => match k with
  | 0 => .int
  | 1 => .int
  | 2 => .int
  | 3 => .int
  | 4 => .int
  | 5 => .int
  | _ => .int
theorem xn_Vehicle : ∀ a, a < 7 → ∀ b, b < 7 → a ≠ b → (xT_Vehicle a).2.1 ≠ (xT_Vehicle b).2.1 := by decide +kernel
theorem xy_Vehicle_ok : ∀ k, k < 7 → parseFieldDescriptor (xT_Vehicle k).2.2.1 = some (xy_Vehicle k) := by decide +kernel
theorem xi_Vehicle : ∀ w ∈ u_ws "ThreePoints$Vehicle" xT_Vehicle 7, w ∈ xtbl := fun w h => xtbl_of ((by decide +kernel : ∀ w ∈ u_ws "ThreePoints$Vehicle" xT_Vehicle 7, w ∈ lw_tbl) w h) ((by decide +kernel : ∀ w ∈ u_ws "ThreePoints$Vehicle" xT_Vehicle 7, goodWord w = true) w h)
def xR_Reader : String := "ThreePoints$Reader"
def xT_Reader : u_T := fun k => match k with
  | 0 => ("ThreePoints$Reader", "tape", "LThreePoints$Tape;", true)
  | 1 => ("ThreePoints$Reader", "draft", "LThreePoints$Text;", true)
  | 2 => ("ThreePoints$Reader", "now", "I", false)
  | 3 => ("ThreePoints$Reader", "token", "I", false)
  | _ => ("ThreePoints$Reader", "open", "I", false)
def xy_Reader : Nat → FieldType := fun k => match k with
  | 0 => .object "ThreePoints$Tape"
  | 1 => .object "ThreePoints$Text"
  | 2 => .int
  | 3 => .int
  | _ => .int
theorem xn_Reader : ∀ a, a < 5 → ∀ b, b < 5 → a ≠ b → (xT_Reader a).2.1 ≠ (xT_Reader b).2.1 := by decide +kernel
theorem xy_Reader_ok : ∀ k, k < 5 → parseFieldDescriptor (xT_Reader k).2.2.1 = some (xy_Reader k) := by decide +kernel
theorem xi_Reader : ∀ w ∈ u_ws "ThreePoints$Reader" xT_Reader 5, w ∈ xtbl := fun w h => xtbl_of ((by decide +kernel : ∀ w ∈ u_ws "ThreePoints$Reader" xT_Reader 5, w ∈ lw_tbl) w h) ((by decide +kernel : ∀ w ∈ u_ws "ThreePoints$Reader" xT_Reader 5, goodWord w = true) w h)
def xR_Tape : String := "ThreePoints$Tape"
def xT_Tape : u_T := fun k => match k with
  | 0 => ("ThreePoints$Tape", "bytes", "[I", true)
  | 1 => ("ThreePoints$Tape", "size", "I", false)
  | 2 => ("ThreePoints$Tape", "kinds", "[I", true)
  | 3 => ("ThreePoints$Tape", "starts", "[I", true)
  | 4 => ("ThreePoints$Tape", "values", "[I", true)
  | _ => ("ThreePoints$Tape", "tokens", "I", false)
def xy_Tape : Nat → FieldType := fun k => match k with
  | 0 => .array .int
  | 1 => .int
  | 2 => .array .int
  | 3 => .array .int
  | 4 => .array .int
  | _ => .int
theorem xn_Tape : ∀ a, a < 6 → ∀ b, b < 6 → a ≠ b → (xT_Tape a).2.1 ≠ (xT_Tape b).2.1 := by decide +kernel
theorem xy_Tape_ok : ∀ k, k < 6 → parseFieldDescriptor (xT_Tape k).2.2.1 = some (xy_Tape k) := by decide +kernel
theorem xi_Tape : ∀ w ∈ u_ws "ThreePoints$Tape" xT_Tape 6, w ∈ xtbl := fun w h => xtbl_of ((by decide +kernel : ∀ w ∈ u_ws "ThreePoints$Tape" xT_Tape 6, w ∈ lw_tbl) w h) ((by decide +kernel : ∀ w ∈ u_ws "ThreePoints$Tape" xT_Tape 6, goodWord w = true) w h)
def xR_Text : String := "ThreePoints$Text"
def xT_Text : u_T := fun k => match k with
  | 0 => ("ThreePoints$Text", "code", "[I", true)
  | 1 => ("ThreePoints$Text", "size", "I", false)
  | 2 => ("ThreePoints$Text", "partEnds", "[I", true)
  | _ => ("ThreePoints$Text", "stack", "[I", true)
def xy_Text : Nat → FieldType := fun k => match k with
  | 0 => .array .int
  | 1 => .int
  | 2 => .array .int
  | _ => .array .int
theorem xn_Text : ∀ a, a < 4 → ∀ b, b < 4 → a ≠ b → (xT_Text a).2.1 ≠ (xT_Text b).2.1 := by decide +kernel
theorem xy_Text_ok : ∀ k, k < 4 → parseFieldDescriptor (xT_Text k).2.2.1 = some (xy_Text k) := by decide +kernel
theorem xi_Text : ∀ w ∈ u_ws "ThreePoints$Text" xT_Text 4, w ∈ xtbl := fun w h => xtbl_of ((by decide +kernel : ∀ w ∈ u_ws "ThreePoints$Text" xT_Text 4, w ∈ lw_tbl) w h) ((by decide +kernel : ∀ w ∈ u_ws "ThreePoints$Text" xT_Text 4, goodWord w = true) w h)
def xR_Sheet : String := "ThreePoints$Sheet"
def xT_Sheet : u_T := fun k => match k with
  | 0 => ("ThreePoints$Sheet", "numbers", "[I", true)
  | 1 => ("ThreePoints$Sheet", "sort", "I", false)
  | _ => ("ThreePoints$Sheet", "size", "I", false)
def xy_Sheet : Nat → FieldType := fun k => match k with
  | 0 => .array .int
  | 1 => .int
  | _ => .int
theorem xn_Sheet : ∀ a, a < 3 → ∀ b, b < 3 → a ≠ b → (xT_Sheet a).2.1 ≠ (xT_Sheet b).2.1 := by decide +kernel
theorem xy_Sheet_ok : ∀ k, k < 3 → parseFieldDescriptor (xT_Sheet k).2.2.1 = some (xy_Sheet k) := by decide +kernel
theorem xi_Sheet : ∀ w ∈ u_ws "ThreePoints$Sheet" xT_Sheet 3, w ∈ xtbl := fun w h => xtbl_of ((by decide +kernel : ∀ w ∈ u_ws "ThreePoints$Sheet" xT_Sheet 3, w ∈ lw_tbl) w h) ((by decide +kernel : ∀ w ∈ u_ws "ThreePoints$Sheet" xT_Sheet 3, goodWord w = true) w h)
def xR_Ride : String := "ThreePoints$Ride"
def xT_Ride : u_T := fun k => match k with
  | 0 => ("ThreePoints$Ride", "lane", "LThreePoints$Lane;", true)
  | 1 => ("ThreePoints$Ride", "vehicle", "LThreePoints$Vehicle;", true)
  | 2 => ("ThreePoints$Ride", "law", "LThreePoints$Text;", false)
  | _ => ("ThreePoints$Ride", "names", "[I", true)
def xy_Ride : Nat → FieldType := fun k => match k with
  | 0 => .object "ThreePoints$Lane"
  | 1 => .object "ThreePoints$Vehicle"
  | 2 => .object "ThreePoints$Text"
  | _ => .array .int
theorem xn_Ride : ∀ a, a < 4 → ∀ b, b < 4 → a ≠ b → (xT_Ride a).2.1 ≠ (xT_Ride b).2.1 := by decide +kernel
theorem xy_Ride_ok : ∀ k, k < 4 → parseFieldDescriptor (xT_Ride k).2.2.1 = some (xy_Ride k) := by decide +kernel
theorem xi_Ride : ∀ w ∈ u_ws "ThreePoints$Ride" xT_Ride 4, w ∈ xtbl := fun w h => xtbl_of ((by decide +kernel : ∀ w ∈ u_ws "ThreePoints$Ride" xT_Ride 4, w ∈ lw_tbl) w h) ((by decide +kernel : ∀ w ∈ u_ws "ThreePoints$Ride" xT_Ride 4, goodWord w = true) w h)
def xR_Search : String := "ThreePoints$Search"
def xT_Search : u_T := fun k => match k with
  | 0 => ("ThreePoints$Search", "goal", "I", false)
  | 1 => ("ThreePoints$Search", "fitting", "[Z", true)
  | 2 => ("ThreePoints$Search", "costs", "[I", true)
  | 3 => ("ThreePoints$Search", "heads", "[I", true)
  | 4 => ("ThreePoints$Search", "nexts", "[I", true)
  | 5 => ("ThreePoints$Search", "previous", "[I", true)
  | 6 => ("ThreePoints$Search", "waiting", "I", false)
  | _ => ("ThreePoints$Search", "firstStep", "I", false)
def xy_Search : Nat → FieldType := fun k => match k with
  | 0 => .int
  | 1 => .array .boolean
  | 2 => .array .int
  | 3 => .array .int
  | 4 => .array .int
  | 5 => .array .int
  | 6 => .int
  | _ => .int
theorem xn_Search : ∀ a, a < 8 → ∀ b, b < 8 → a ≠ b → (xT_Search a).2.1 ≠ (xT_Search b).2.1 := by decide +kernel
theorem xy_Search_ok : ∀ k, k < 8 → parseFieldDescriptor (xT_Search k).2.2.1 = some (xy_Search k) := by decide +kernel
theorem xi_Search : ∀ w ∈ u_ws "ThreePoints$Search" xT_Search 8, w ∈ xtbl := fun w h => xtbl_of ((by decide +kernel : ∀ w ∈ u_ws "ThreePoints$Search" xT_Search 8, w ∈ lw_tbl) w h) ((by decide +kernel : ∀ w ∈ u_ws "ThreePoints$Search" xT_Search 8, goodWord w = true) w h)
def xR_Model : String := "ThreePointsModel"
def xT_Model : u_T := fun k => match k with
  | 0 => ("ThreePointsModel", "across", "[I", true)
  | 1 => ("ThreePointsModel", "width", "I", false)
  | 2 => ("ThreePointsModel", "opening", "I", false)
  | 3 => ("ThreePointsModel", "vehicles", "I", false)
  | 4 => ("ThreePointsModel", "kind", "[I", true)
  | 5 => ("ThreePointsModel", "moreOf", "[I", true)
  | 6 => ("ThreePointsModel", "rows", "[I", true)
  | 7 => ("ThreePointsModel", "tape", "[I", true)
  | 8 => ("ThreePointsModel", "taped", "I", false)
  | 9 => ("ThreePointsModel", "codes", "[I", true)
  | 10 => ("ThreePointsModel", "starts", "[I", true)
  | 11 => ("ThreePointsModel", "texts", "I", false)
  | 12 => ("ThreePointsModel", "rule", "I", false)
  | 13 => ("ThreePointsModel", "hasImage", "Z", false)
  | 14 => ("ThreePointsModel", "imageRows", "[I", true)
  | 15 => ("ThreePointsModel", "imageHeld", "[I", true)
  | 16 => ("ThreePointsModel", "sheetSort", "[I", true)
  | 17 => ("ThreePointsModel", "sheetSize", "[I", true)
  | 18 => ("ThreePointsModel", "cells", "[I", true)
  | 19 => ("ThreePointsModel", "law", "[I", true)
  | 20 => ("ThreePointsModel", "at", "I", false)
  | 21 => ("ThreePointsModel", "begun", "I", false)
  | 22 => ("ThreePointsModel", "token", "I", false)
  | 23 => ("ThreePointsModel", "value", "I", false)
  | 24 => ("ThreePointsModel", "words", "[I", true)
  | 25 => ("ThreePointsModel", "held", "[I", true)
  | 26 => ("ThreePointsModel", "heldMany", "I", false)
  | 27 => ("ThreePointsModel", "opens", "I", false)
  | 28 => ("ThreePointsModel", "out", "I", false)
  | 29 => ("ThreePointsModel", "stack", "[I", true)
  | 30 => ("ThreePointsModel", "named", "[I", true)
  | 31 => ("ThreePointsModel", "fitsIn", "[Z", true)
  | 32 => ("ThreePointsModel", "wearIn", "[I", true)
  | 33 => ("ThreePointsModel", "dist", "[I", true)
  | 34 => ("ThreePointsModel", "queued", "[Z", true)
  | 35 => ("ThreePointsModel", "queue", "[I", true)
  | 36 => ("ThreePointsModel", "kept", "[I", true)
  | 37 => ("ThreePointsModel", "last", "[I", true)
  | _ => ("ThreePointsModel", "hitsIn", "I", false)
def xy_Model : Nat → FieldType := fun k => match k with
  | 0 => .array .int
  | 1 => .int
  | 2 => .int
  | 3 => .int
  | 4 => .array .int
  | 5 => .array .int
  | 6 => .array .int
  | 7 => .array .int
  | 8 => .int
  | 9 => .array .int
  | 10 => .array .int
  | 11 => .int
  | 12 => .int
  | 13 => .boolean
  | 14 => .array .int
  | 15 => .array .int
  | 16 => .array .int
  | 17 => .array .int
  | 18 => .array .int
  | 19 => .array .int
  | 20 => .int
  | 21 => .int
  | 22 => .int
  | 23 => .int
  | 24 => .array .int
  | 25 => .array .int
  | 26 => .int
  | 27 => .int
  | 28 => .int
  | 29 => .array .int
  | 30 => .array .int
  | 31 => .array .boolean
  | 32 => .array .int
  | 33 => .array .int
  | 34 => .array .boolean
  | 35 => .array .int
  | 36 => .array .int
  | 37 => .array .int
  | _ => .int
theorem xn_Model : ∀ a, a < 39 → ∀ b, b < 39 → a ≠ b → (xT_Model a).2.1 ≠ (xT_Model b).2.1 := by decide +kernel
theorem xy_Model_ok : ∀ k, k < 39 → parseFieldDescriptor (xT_Model k).2.2.1 = some (xy_Model k) := by decide +kernel
theorem xi_Model : ∀ w ∈ u_ws "ThreePointsModel" xT_Model 39, w ∈ xtbl := fun w h => xtbl_of ((by decide +kernel : ∀ w ∈ u_ws "ThreePointsModel" xT_Model 39, w ∈ lw_tbl) w h) ((by decide +kernel : ∀ w ∈ u_ws "ThreePointsModel" xT_Model 39, goodWord w = true) w h)
def xcl : List vw_C := [("ThreePoints", xT_Main, 9), ("ThreePoints$Yard", xT_Yard, 3), ("ThreePoints$Lane", xT_Lane, 3), ("ThreePoints$Vehicle", xT_Vehicle, 7), ("ThreePoints$Reader", xT_Reader, 5), ("ThreePoints$Tape", xT_Tape, 6), ("ThreePoints$Text", xT_Text, 4), ("ThreePoints$Sheet", xT_Sheet, 3), ("ThreePoints$Ride", xT_Ride, 4), ("ThreePoints$Search", xT_Search, 8), ("ThreePointsModel", xT_Model, 39)]
/-- what a kind is: 0 an object of class a with n fields, 1 a row of n ints, 2 of n booleans, 3 .. 5 of n references -/
def xsh (kd : Nat) : Nat × Nat × Nat := match kd with
  | 0 => (0, 0, 9)
  | 1 => (0, 1, 3)
  | 2 => (0, 2, 3)
  | 3 => (0, 3, 7)
  | 4 => (3, 0, 4)
  | 5 => (0, 4, 5)
  | 6 => (0, 5, 6)
  | 7 => (1, 0, 160)
  | 8 => (1, 0, 160)
  | 9 => (1, 0, 160)
  | 10 => (1, 0, 160)
  | 11 => (0, 6, 4)
  | 12 => (1, 0, 160)
  | 13 => (1, 0, 3)
  | 14 => (1, 0, 160)
  | 15 => (4, 0, 6)
  | 16 => (0, 7, 3)
  | 17 => (1, 0, 40)
  | 18 => (5, 0, 4)
  | 19 => (0, 8, 4)
  | 20 => (1, 0, 6)
  | 21 => (0, 9, 8)
  | 22 => (2, 0, 976)
  | 23 => (1, 0, 1952)
  | 24 => (1, 0, 128)
  | 25 => (1, 0, 1952)
  | 26 => (1, 0, 1952)
  | 30 => (0, 10, 39)
  | 31 => (1, 0, 16)
  | 32 => (1, 0, 4)
  | 33 => (1, 0, 4)
  | 34 => (1, 0, 20)
  | 35 => (1, 0, 160)
  | 36 => (1, 0, 1200)
  | 37 => (1, 0, 24)
  | 38 => (1, 0, 20)
  | 39 => (1, 0, 4)
  | 40 => (1, 0, 4)
  | 41 => (1, 0, 4)
  | 42 => (1, 0, 160)
  | 43 => (1, 0, 39)
  | 44 => (1, 0, 96)
  | 45 => (1, 0, 200)
  | 46 => (1, 0, 200)
  | 47 => (1, 0, 6)
  | 48 => (2, 0, 976)
  | 49 => (1, 0, 1952)
  | 50 => (1, 0, 2928)
  | 51 => (2, 0, 2928)
  | 52 => (1, 0, 2928)
  | 53 => (1, 0, 5)
  | 54 => (1, 0, 5)
  | _ => (9, 0, 0)
/-- where the final reference in field k of kind kd leads: a kind, and a number by the number -/
def xsp (kd k : Nat) : Option (Nat × (Nat → Nat)) := match kd, k with
  | 0, 0 => some (1, fun _ => 0)
  | 0, 1 => some (1, fun _ => 1)
  | 0, 3 => some (5, fun _ => 0)
  | 0, 4 => some (15, fun _ => 0)
  | 0, 6 => some (18, fun _ => 0)
  | 0, 7 => some (19, fun _ => 0)
  | 0, 8 => some (21, fun _ => 0)
  | 1, 0 => some (2, fun i => i)
  | 1, 1 => some (4, fun i => i)
  | 5, 0 => some (6, fun _ => 0)
  | 5, 1 => some (11, fun _ => 6)
  | 6, 0 => some (7, fun _ => 0)
  | 6, 2 => some (8, fun _ => 0)
  | 6, 3 => some (9, fun _ => 0)
  | 6, 4 => some (10, fun _ => 0)
  | 11, 0 => some (12, fun i => i)
  | 11, 2 => some (13, fun i => i)
  | 11, 3 => some (14, fun i => i)
  | 16, 0 => some (17, fun i => i)
  | 19, 0 => some (2, fun _ => 2)
  | 19, 1 => some (3, fun _ => 8)
  | 19, 3 => some (20, fun _ => 0)
  | 21, 1 => some (22, fun _ => 0)
  | 21, 2 => some (23, fun _ => 0)
  | 21, 3 => some (24, fun _ => 0)
  | 21, 4 => some (25, fun _ => 0)
  | 21, 5 => some (26, fun _ => 0)
  | 30, 0 => some (31, fun _ => 0)
  | 30, 4 => some (32, fun _ => 0)
  | 30, 5 => some (33, fun _ => 0)
  | 30, 6 => some (34, fun _ => 0)
  | 30, 7 => some (35, fun _ => 0)
  | 30, 9 => some (36, fun _ => 0)
  | 30, 10 => some (37, fun _ => 0)
  | 30, 14 => some (38, fun _ => 0)
  | 30, 15 => some (39, fun _ => 0)
  | 30, 16 => some (40, fun _ => 0)
  | 30, 17 => some (41, fun _ => 0)
  | 30, 18 => some (42, fun _ => 0)
  | 30, 19 => some (43, fun _ => 0)
  | 30, 24 => some (44, fun _ => 0)
  | 30, 25 => some (45, fun _ => 0)
  | 30, 29 => some (46, fun _ => 0)
  | 30, 30 => some (47, fun _ => 0)
  | 30, 31 => some (48, fun _ => 0)
  | 30, 32 => some (49, fun _ => 0)
  | 30, 33 => some (50, fun _ => 0)
  | 30, 34 => some (51, fun _ => 0)
  | 30, 35 => some (52, fun _ => 0)
  | 30, 36 => some (53, fun _ => 0)
  | 30, 37 => some (54, fun _ => 0)
  | _, _ => none
/-- the kind of what a row of references holds, and the number at j -/
def xra (kd : Nat) : Nat × (Nat → Nat → Nat) := match kd with
  | 4 => (3, fun i j => 4 * i + j)
  | 15 => (11, fun _ j => j)
  | 18 => (16, fun _ j => j)
  | _ => (99, fun _ j => j)
def xLC : List (Nat × Nat) := [(0, 0), (1, 0), (1, 1), (2, 0), (2, 1), (2, 2), (3, 0), (3, 1), (3, 2), (3, 3), (3, 4), (3, 5), (3, 6), (3, 7), (3, 8), (4, 0), (4, 1), (5, 0), (6, 0), (7, 0), (8, 0), (9, 0), (10, 0), (11, 0), (11, 1), (11, 2), (11, 3), (11, 4), (11, 5), (11, 6), (12, 0), (12, 1), (12, 2), (12, 3), (12, 4), (12, 5), (12, 6), (13, 0), (13, 1), (13, 2), (13, 3), (13, 4), (13, 5), (13, 6), (14, 0), (14, 1), (14, 2), (14, 3), (14, 4), (14, 5), (14, 6), (15, 0), (16, 0), (16, 1), (16, 2), (16, 3), (17, 0), (17, 1), (17, 2), (17, 3), (18, 0), (19, 0), (20, 0), (21, 0), (22, 0), (23, 0), (24, 0), (25, 0), (26, 0)]
def xLM : List (Nat × Nat) := [(30, 0), (31, 0), (32, 0), (33, 0), (34, 0), (35, 0), (36, 0), (37, 0), (38, 0), (39, 0), (40, 0), (41, 0), (42, 0), (43, 0), (44, 0), (45, 0), (46, 0), (47, 0), (48, 0), (49, 0), (50, 0), (51, 0), (52, 0), (53, 0), (54, 0)]
