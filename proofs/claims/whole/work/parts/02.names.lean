/-! ===== NAMES: classes, fields, methods ===== -/
def RX0 : String := "CurveShelf$Curve"
def TX0 : u_T := fun k => match k with
  | 0 => ("CurveShelf$Curve", "index", "I", true)
  | 1 => ("CurveShelf$Curve", "axes", "I", true)
  | 2 => ("CurveShelf$Curve", "base", "I", true)
  | 3 => ("CurveShelf$Curve", "room", "[I", true)
  | 4 => ("CurveShelf$Curve", "order", "[I", true)
  | _ => ("CurveShelf$Curve", "total", "J", true)
def tyX0 : Nat → FieldType := fun k => match k with
  | 0 => .int
  | 1 => .int
  | 2 => .int
  | 3 => .array .int
  | 4 => .array .int
  | _ => .long
theorem nmX0 : ∀ a, a < 6 → ∀ b, b < 6 → a ≠ b → (TX0 a).2.1 ≠ (TX0 b).2.1 := by decide +kernel
theorem tyX0_ok : ∀ k, k < 6 → parseFieldDescriptor (TX0 k).2.2.1 = some (tyX0 k) := by decide +kernel
def RX1 : String := "CurveShelf$Finds"
def TX1 : u_T := fun k => match k with
  | 0 => ("CurveShelf$Finds", "who", "[LCurveShelf$Point;", true)
  | 1 => ("CurveShelf$Finds", "far", "[J", true)
  | 2 => ("CurveShelf$Finds", "many", "I", false)
  | _ => ("CurveShelf$Finds", "reads", "I", false)
def tyX1 : Nat → FieldType := fun k => match k with
  | 0 => .array (.object "CurveShelf$Point")
  | 1 => .array .long
  | 2 => .int
  | _ => .int
theorem nmX1 : ∀ a, a < 4 → ∀ b, b < 4 → a ≠ b → (TX1 a).2.1 ≠ (TX1 b).2.1 := by decide +kernel
theorem tyX1_ok : ∀ k, k < 4 → parseFieldDescriptor (TX1 k).2.2.1 = some (tyX1 k) := by decide +kernel
def RX2 : String := "CurveShelf$Point"
def TX2 : u_T := fun k => match k with
  | 0 => ("CurveShelf$Point", "name", "I", true)
  | 1 => ("CurveShelf$Point", "number", "J", true)
  | 2 => ("CurveShelf$Point", "x", "I", true)
  | 3 => ("CurveShelf$Point", "y", "I", true)
  | 4 => ("CurveShelf$Point", "z", "I", true)
  | _ => ("CurveShelf$Point", "weight", "I", true)
def tyX2 : Nat → FieldType := fun k => match k with
  | 0 => .int
  | 1 => .long
  | 2 => .int
  | 3 => .int
  | 4 => .int
  | _ => .int
theorem nmX2 : ∀ a, a < 6 → ∀ b, b < 6 → a ≠ b → (TX2 a).2.1 ≠ (TX2 b).2.1 := by decide +kernel
theorem tyX2_ok : ∀ k, k < 6 → parseFieldDescriptor (TX2 k).2.2.1 = some (tyX2 k) := by decide +kernel
def RX3 : String := "CurveShelf$Row"
def TX3 : u_T := fun k => match k with
  | 0 => ("CurveShelf$Row", "points", "[LCurveShelf$Point;", true)
  | 1 => ("CurveShelf$Row", "sizes", "[I", true)
  | 2 => ("CurveShelf$Row", "many", "I", false)
  | _ => ("CurveShelf$Row", "pages", "I", false)
def tyX3 : Nat → FieldType := fun k => match k with
  | 0 => .array (.object "CurveShelf$Point")
  | 1 => .array .int
  | 2 => .int
  | _ => .int
theorem nmX3 : ∀ a, a < 4 → ∀ b, b < 4 → a ≠ b → (TX3 a).2.1 ≠ (TX3 b).2.1 := by decide +kernel
theorem tyX3_ok : ∀ k, k < 4 → parseFieldDescriptor (TX3 k).2.2.1 = some (tyX3 k) := by decide +kernel
def RX4 : String := "CurveShelf$Search"
def TX4 : u_T := fun k => match k with
  | 0 => ("CurveShelf$Search", "boxFar", "[J", true)
  | 1 => ("CurveShelf$Search", "isRead", "[Z", true)
  | 2 => ("CurveShelf$Search", "x", "I", false)
  | 3 => ("CurveShelf$Search", "y", "I", false)
  | 4 => ("CurveShelf$Search", "z", "I", false)
  | _ => ("CurveShelf$Search", "way", "I", false)
def tyX4 : Nat → FieldType := fun k => match k with
  | 0 => .array .long
  | 1 => .array .boolean
  | 2 => .int
  | 3 => .int
  | 4 => .int
  | _ => .int
theorem nmX4 : ∀ a, a < 6 → ∀ b, b < 6 → a ≠ b → (TX4 a).2.1 ≠ (TX4 b).2.1 := by decide +kernel
theorem tyX4_ok : ∀ k, k < 6 → parseFieldDescriptor (TX4 k).2.2.1 = some (tyX4 k) := by decide +kernel
def RX5 : String := "CurveShelf$Shelf"
def TX5 : u_T := fun k => match k with
  | 0 => ("CurveShelf$Shelf", "curve", "LCurveShelf$Curve;", false)
  | 1 => ("CurveShelf$Shelf", "row", "LCurveShelf$Row;", false)
  | 2 => ("CurveShelf$Shelf", "past", "[LCurveShelf$Row;", true)
  | _ => ("CurveShelf$Shelf", "left", "I", false)
def tyX5 : Nat → FieldType := fun k => match k with
  | 0 => .object "CurveShelf$Curve"
  | 1 => .object "CurveShelf$Row"
  | 2 => .array (.object "CurveShelf$Row")
  | _ => .int
theorem nmX5 : ∀ a, a < 4 → ∀ b, b < 4 → a ≠ b → (TX5 a).2.1 ≠ (TX5 b).2.1 := by decide +kernel
theorem tyX5_ok : ∀ k, k < 4 → parseFieldDescriptor (TX5 k).2.2.1 = some (tyX5 k) := by decide +kernel
def RX6 : String := "CurveShelf$Snail"
def TX6 : u_T := fun k => match k with
  | 0 => ("CurveShelf$Curve", "index", "I", true)
  | 1 => ("CurveShelf$Curve", "axes", "I", true)
  | 2 => ("CurveShelf$Curve", "base", "I", true)
  | 3 => ("CurveShelf$Curve", "room", "[I", true)
  | 4 => ("CurveShelf$Curve", "order", "[I", true)
  | _ => ("CurveShelf$Curve", "total", "J", true)
def tyX6 : Nat → FieldType := fun k => match k with
  | 0 => .int
  | 1 => .int
  | 2 => .int
  | 3 => .array .int
  | 4 => .array .int
  | _ => .long
theorem nmX6 : ∀ a, a < 6 → ∀ b, b < 6 → a ≠ b → (TX6 a).2.1 ≠ (TX6 b).2.1 := by decide +kernel
theorem tyX6_ok : ∀ k, k < 6 → parseFieldDescriptor (TX6 k).2.2.1 = some (tyX6 k) := by decide +kernel
def RX7 : String := "CurveShelf$Spans"
def TX7 : u_T := fun k => match k with
  | 0 => ("CurveShelf$Spans", "first", "[J", true)
  | 1 => ("CurveShelf$Spans", "last", "[J", true)
  | 2 => ("CurveShelf$Spans", "many", "I", false)
  | _ => ("CurveShelf$Spans", "places", "J", false)
def tyX7 : Nat → FieldType := fun k => match k with
  | 0 => .array .long
  | 1 => .array .long
  | 2 => .int
  | _ => .long
theorem nmX7 : ∀ a, a < 4 → ∀ b, b < 4 → a ≠ b → (TX7 a).2.1 ≠ (TX7 b).2.1 := by decide +kernel
theorem tyX7_ok : ∀ k, k < 4 → parseFieldDescriptor (TX7 k).2.2.1 = some (tyX7 k) := by decide +kernel
def RX8 : String := "CurveShelf$State"
def TX8 : u_T := fun k => match k with
  | 0 => ("CurveShelf$State", "curves", "[LCurveShelf$Curve;", true)
  | 1 => ("CurveShelf$State", "curveCount", "I", false)
  | 2 => ("CurveShelf$State", "shelves", "[LCurveShelf$Shelf;", true)
  | 3 => ("CurveShelf$State", "corners", "[I", true)
  | 4 => ("CurveShelf$State", "told", "LCurveShelf$Spans;", true)
  | 5 => ("CurveShelf$State", "finds", "LCurveShelf$Finds;", true)
  | 6 => ("CurveShelf$State", "rackSort", "[I", true)
  | 7 => ("CurveShelf$State", "rackFirst", "[J", true)
  | _ => ("CurveShelf$State", "rackSecond", "[J", true)
def tyX8 : Nat → FieldType := fun k => match k with
  | 0 => .array (.object "CurveShelf$Curve")
  | 1 => .int
  | 2 => .array (.object "CurveShelf$Shelf")
  | 3 => .array .int
  | 4 => .object "CurveShelf$Spans"
  | 5 => .object "CurveShelf$Finds"
  | 6 => .array .int
  | 7 => .array .long
  | _ => .array .long
theorem nmX8 : ∀ a, a < 9 → ∀ b, b < 9 → a ≠ b → (TX8 a).2.1 ≠ (TX8 b).2.1 := by decide +kernel
theorem tyX8_ok : ∀ k, k < 9 → parseFieldDescriptor (TX8 k).2.2.1 = some (tyX8 k) := by decide +kernel
def RX9 : String := "CurveShelf$Turning"
def TX9 : u_T := fun k => match k with
  | 0 => ("CurveShelf$Curve", "index", "I", true)
  | 1 => ("CurveShelf$Curve", "axes", "I", true)
  | 2 => ("CurveShelf$Curve", "base", "I", true)
  | 3 => ("CurveShelf$Curve", "room", "[I", true)
  | 4 => ("CurveShelf$Curve", "order", "[I", true)
  | _ => ("CurveShelf$Curve", "total", "J", true)
def tyX9 : Nat → FieldType := fun k => match k with
  | 0 => .int
  | 1 => .int
  | 2 => .int
  | 3 => .array .int
  | 4 => .array .int
  | _ => .long
theorem nmX9 : ∀ a, a < 6 → ∀ b, b < 6 → a ≠ b → (TX9 a).2.1 ≠ (TX9 b).2.1 := by decide +kernel
theorem tyX9_ok : ∀ k, k < 6 → parseFieldDescriptor (TX9 k).2.2.1 = some (tyX9 k) := by decide +kernel
def RX10 : String := "CurveShelf$Walk"
def TX10 : u_T := fun k => match k with
  | 0 => ("CurveShelf$Walk", "low", "[[I", true)
  | 1 => ("CurveShelf$Walk", "side", "[[I", true)
  | 2 => ("CurveShelf$Walk", "state", "[I", true)
  | 3 => ("CurveShelf$Walk", "prefix", "[J", true)
  | 4 => ("CurveShelf$Walk", "digit", "[I", true)
  | 5 => ("CurveShelf$Walk", "windowLow", "[I", true)
  | 6 => ("CurveShelf$Walk", "windowHigh", "[I", true)
  | 7 => ("CurveShelf$Walk", "curve", "LCurveShelf$Curve;", false)
  | _ => ("CurveShelf$Walk", "depths", "I", false)
def tyX10 : Nat → FieldType := fun k => match k with
  | 0 => .array (.array .int)
  | 1 => .array (.array .int)
  | 2 => .array .int
  | 3 => .array .long
  | 4 => .array .int
  | 5 => .array .int
  | 6 => .array .int
  | 7 => .object "CurveShelf$Curve"
  | _ => .int
theorem nmX10 : ∀ a, a < 9 → ∀ b, b < 9 → a ≠ b → (TX10 a).2.1 ≠ (TX10 b).2.1 := by decide +kernel
theorem tyX10_ok : ∀ k, k < 9 → parseFieldDescriptor (TX10 k).2.2.1 = some (tyX10 k) := by decide +kernel
def RX11 : String := "CurveShelf"
def TX11 : u_T := fun k => match k with
  | 0 => ("CurveShelf", "now", "LCurveShelf$State;", true)
  | 1 => ("CurveShelf", "images", "[LCurveShelf$State;", true)
  | 2 => ("CurveShelf", "outBytes", "[B", true)
  | 3 => ("CurveShelf", "outLength", "I", false)
  | 4 => ("CurveShelf", "walk", "LCurveShelf$Walk;", true)
  | 5 => ("CurveShelf", "search", "LCurveShelf$Search;", true)
  | 6 => ("CurveShelf", "spareSpans", "LCurveShelf$Spans;", true)
  | 7 => ("CurveShelf", "spareFinds", "LCurveShelf$Finds;", true)
  | _ => ("CurveShelf", "takenNames", "[Z", true)
def tyX11 : Nat → FieldType := fun k => match k with
  | 0 => .object "CurveShelf$State"
  | 1 => .array (.object "CurveShelf$State")
  | 2 => .array .byte
  | 3 => .int
  | 4 => .object "CurveShelf$Walk"
  | 5 => .object "CurveShelf$Search"
  | 6 => .object "CurveShelf$Spans"
  | 7 => .object "CurveShelf$Finds"
  | _ => .array .boolean
theorem nmX11 : ∀ a, a < 9 → ∀ b, b < 9 → a ≠ b → (TX11 a).2.1 ≠ (TX11 b).2.1 := by decide +kernel
theorem tyX11_ok : ∀ k, k < 9 → parseFieldDescriptor (TX11 k).2.2.1 = some (tyX11 k) := by decide +kernel
def RX12 : String := "CurveShelfModel"
def TX12 : u_T := fun k => match k with
  | 0 => ("CurveShelfModel", "s", "[J", true)
  | 1 => ("CurveShelfModel", "images", "[J", true)
  | 2 => ("CurveShelfModel", "imaged", "[Z", true)
  | 3 => ("CurveShelfModel", "base", "I", false)
  | 4 => ("CurveShelfModel", "many", "I", false)
  | 5 => ("CurveShelfModel", "axis", "[I", true)
  | 6 => ("CurveShelfModel", "digits", "[I", true)
  | 7 => ("CurveShelfModel", "low", "[I", true)
  | 8 => ("CurveShelfModel", "high", "[I", true)
  | 9 => ("CurveShelfModel", "sums", "[I", true)
  | 10 => ("CurveShelfModel", "e", "I", false)
  | 11 => ("CurveShelfModel", "t", "I", false)
  | 12 => ("CurveShelfModel", "spans", "[J", true)
  | 13 => ("CurveShelfModel", "o", "I", false)
  | 14 => ("CurveShelfModel", "here", "[I", true)
  | 15 => ("CurveShelfModel", "taken", "[Z", true)
  | 16 => ("CurveShelfModel", "isRead", "[Z", true)
  | 17 => ("CurveShelfModel", "windows", "J", false)
  | 18 => ("CurveShelfModel", "all", "J", false)
  | 19 => ("CurveShelfModel", "out", "[B", true)
  | _ => ("CurveShelfModel", "written", "I", false)
def tyX12 : Nat → FieldType := fun k => match k with
  | 0 => .array .long
  | 1 => .array .long
  | 2 => .array .boolean
  | 3 => .int
  | 4 => .int
  | 5 => .array .int
  | 6 => .array .int
  | 7 => .array .int
  | 8 => .array .int
  | 9 => .array .int
  | 10 => .int
  | 11 => .int
  | 12 => .array .long
  | 13 => .int
  | 14 => .array .int
  | 15 => .array .boolean
  | 16 => .array .boolean
  | 17 => .long
  | 18 => .long
  | 19 => .array .byte
  | _ => .int
theorem nmX12 : ∀ a, a < 21 → ∀ b, b < 21 → a ≠ b → (TX12 a).2.1 ≠ (TX12 b).2.1 := by decide +kernel
theorem tyX12_ok : ∀ k, k < 21 → parseFieldDescriptor (TX12 k).2.2.1 = some (tyX12 k) := by decide +kernel
abbrev q_cl : List vw_C := [(RX0, TX0, 6), (RX1, TX1, 4), (RX2, TX2, 6), (RX3, TX3, 4), (RX4, TX4, 6), (RX5, TX5, 4), (RX6, TX6, 6), (RX7, TX7, 4), (RX8, TX8, 9), (RX9, TX9, 6), (RX10, TX10, 9), (RX11, TX11, 9), (RX12, TX12, 21)]
def q_ow : List String := ["CurveShelf$Curve", "CurveShelf$Finds", "CurveShelf$Point", "CurveShelf$Row", "CurveShelf$Search", "CurveShelf$Shelf", "CurveShelf$Snail", "CurveShelf$Spans", "CurveShelf$State", "CurveShelf$Turning", "CurveShelf$Walk", "CurveShelf", "CurveShelfModel", "java/lang/Integer", "java/lang/Long", "java/lang/Math", "java/lang/System", "java/util/Arrays", "CurveShelfLaw"]
