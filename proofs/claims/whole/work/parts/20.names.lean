/-! ===== names: classes, fields, methods, links (printed by wip/gen; the rows of RX, TX, tyX are those of the printed names) ===== -/
def RX0 : String := "StairRegiment$Book"
def TX0 : u_T := fun k => match k with
  | 0 => ("StairRegiment$Book", "cells", "[I", true)
  | _ => ("StairRegiment$Book", "count", "I", false)
def tyX0 : Nat → FieldType := fun k => match k with
  | 0 => .array .int
  | _ => .int
set_option maxRecDepth 100000 in
theorem nmX0 : ∀ a, a < 2 → ∀ b, b < 2 → a ≠ b → (TX0 a).2.1 ≠ (TX0 b).2.1 := by decide +kernel
set_option maxRecDepth 100000 in
theorem tyX0_ok : ∀ k, k < 2 → parseFieldDescriptor (TX0 k).2.2.1 = some (tyX0 k) := by decide +kernel
def RX1 : String := "StairRegiment$House"
def TX1 : u_T := fun k => match k with
  | 0 => ("StairRegiment$House", "men", "[I", true)
  | 1 => ("StairRegiment$House", "sizes", "[I", true)
  | 2 => ("StairRegiment$House", "flights", "I", false)
  | 3 => ("StairRegiment$House", "salutes", "I", false)
  | 4 => ("StairRegiment$House", "creaked", "I", false)
  | 5 => ("StairRegiment$House", "night", "I", false)
  | _ => ("StairRegiment$House", "draws", "I", false)
def tyX1 : Nat → FieldType := fun k => match k with
  | 0 => .array .int
  | 1 => .array .int
  | 2 => .int
  | 3 => .int
  | 4 => .int
  | 5 => .int
  | _ => .int
set_option maxRecDepth 100000 in
theorem nmX1 : ∀ a, a < 7 → ∀ b, b < 7 → a ≠ b → (TX1 a).2.1 ≠ (TX1 b).2.1 := by decide +kernel
set_option maxRecDepth 100000 in
theorem tyX1_ok : ∀ k, k < 7 → parseFieldDescriptor (TX1 k).2.2.1 = some (tyX1 k) := by decide +kernel
def RX2 : String := "StairRegiment$Law"
def TX2 : u_T := fun k => match k with
  | 0 => ("StairRegiment$Law", "code", "[I", true)
  | 1 => ("StairRegiment$Law", "used", "I", false)
  | 2 => ("StairRegiment$Law", "words", "[I", true)
  | 3 => ("StairRegiment$Law", "starts", "[I", true)
  | 4 => ("StairRegiment$Law", "whens", "[I", true)
  | 5 => ("StairRegiment$Law", "stops", "[I", true)
  | 6 => ("StairRegiment$Law", "count", "I", false)
  | 7 => ("StairRegiment$Law", "facts", "[I", true)
  | _ => ("StairRegiment$Law", "stack", "[I", true)
def tyX2 : Nat → FieldType := fun k => match k with
  | 0 => .array .int
  | 1 => .int
  | 2 => .array .int
  | 3 => .array .int
  | 4 => .array .int
  | 5 => .array .int
  | 6 => .int
  | 7 => .array .int
  | _ => .array .int
set_option maxRecDepth 100000 in
theorem nmX2 : ∀ a, a < 9 → ∀ b, b < 9 → a ≠ b → (TX2 a).2.1 ≠ (TX2 b).2.1 := by decide +kernel
set_option maxRecDepth 100000 in
theorem tyX2_ok : ∀ k, k < 9 → parseFieldDescriptor (TX2 k).2.2.1 = some (tyX2 k) := by decide +kernel
def RX3 : String := "StairRegiment$Lines"
def TX3 : u_T := fun k => match k with
  | 0 => ("StairRegiment$Lines", "cells", "[I", true)
  | _ => ("StairRegiment$Lines", "count", "I", false)
def tyX3 : Nat → FieldType := fun k => match k with
  | 0 => .array .int
  | _ => .int
set_option maxRecDepth 100000 in
theorem nmX3 : ∀ a, a < 2 → ∀ b, b < 2 → a ≠ b → (TX3 a).2.1 ≠ (TX3 b).2.1 := by decide +kernel
set_option maxRecDepth 100000 in
theorem tyX3_ok : ∀ k, k < 2 → parseFieldDescriptor (TX3 k).2.2.1 = some (tyX3 k) := by decide +kernel
def RX4 : String := "StairRegiment$Musing"
def TX4 : u_T := fun k => match k with
  | 0 => ("StairRegiment$Musing", "tried", "LStairRegiment$House;", true)
  | 1 => ("StairRegiment$Musing", "costs", "[I", true)
  | 2 => ("StairRegiment$Musing", "otherCosts", "[I", true)
  | 3 => ("StairRegiment$Musing", "sets", "[I", true)
  | 4 => ("StairRegiment$Musing", "nextSets", "[I", true)
  | 5 => ("StairRegiment$Musing", "beside", "[I", true)
  | 6 => ("StairRegiment$Musing", "queue", "[I", true)
  | _ => ("StairRegiment$Musing", "queued", "I", false)
def tyX4 : Nat → FieldType := fun k => match k with
  | 0 => .object "StairRegiment$House"
  | 1 => .array .int
  | 2 => .array .int
  | 3 => .array .int
  | 4 => .array .int
  | 5 => .array .int
  | 6 => .array .int
  | _ => .int
set_option maxRecDepth 100000 in
theorem nmX4 : ∀ a, a < 8 → ∀ b, b < 8 → a ≠ b → (TX4 a).2.1 ≠ (TX4 b).2.1 := by decide +kernel
set_option maxRecDepth 100000 in
theorem tyX4_ok : ∀ k, k < 8 → parseFieldDescriptor (TX4 k).2.2.1 = some (tyX4 k) := by decide +kernel
def RX5 : String := "StairRegiment$Parser"
def TX5 : u_T := fun k => match k with
  | 0 => ("StairRegiment$Parser", "kinds", "[I", true)
  | 1 => ("StairRegiment$Parser", "values", "[I", true)
  | 2 => ("StairRegiment$Parser", "places", "[I", true)
  | 3 => ("StairRegiment$Parser", "count", "I", false)
  | 4 => ("StairRegiment$Parser", "at", "I", false)
  | 5 => ("StairRegiment$Parser", "number", "I", false)
  | 6 => ("StairRegiment$Parser", "faultKind", "I", false)
  | 7 => ("StairRegiment$Parser", "faultPlace", "I", false)
  | 8 => ("StairRegiment$Parser", "law", "LStairRegiment$Law;", true)
  | _ => ("StairRegiment$Parser", "lines", "LStairRegiment$Lines;", true)
def tyX5 : Nat → FieldType := fun k => match k with
  | 0 => .array .int
  | 1 => .array .int
  | 2 => .array .int
  | 3 => .int
  | 4 => .int
  | 5 => .int
  | 6 => .int
  | 7 => .int
  | 8 => .object "StairRegiment$Law"
  | _ => .object "StairRegiment$Lines"
set_option maxRecDepth 100000 in
theorem nmX5 : ∀ a, a < 10 → ∀ b, b < 10 → a ≠ b → (TX5 a).2.1 ≠ (TX5 b).2.1 := by decide +kernel
set_option maxRecDepth 100000 in
theorem tyX5_ok : ∀ k, k < 10 → parseFieldDescriptor (TX5 k).2.2.1 = some (tyX5 k) := by decide +kernel
def RX6 : String := "StairRegiment$Regiment"
def TX6 : u_T := fun k => match k with
  | 0 => ("StairRegiment$Regiment", "house", "LStairRegiment$House;", true)
  | 1 => ("StairRegiment$Regiment", "book", "LStairRegiment$Book;", true)
  | 2 => ("StairRegiment$Regiment", "law", "LStairRegiment$Law;", true)
  | 3 => ("StairRegiment$Regiment", "orders", "LStairRegiment$Lines;", true)
  | 4 => ("StairRegiment$Regiment", "visits", "LStairRegiment$Lines;", true)
  | 5 => ("StairRegiment$Regiment", "doors", "LStairRegiment$Lines;", true)
  | _ => ("StairRegiment$Regiment", "told", "LStairRegiment$Told;", true)
def tyX6 : Nat → FieldType := fun k => match k with
  | 0 => .object "StairRegiment$House"
  | 1 => .object "StairRegiment$Book"
  | 2 => .object "StairRegiment$Law"
  | 3 => .object "StairRegiment$Lines"
  | 4 => .object "StairRegiment$Lines"
  | 5 => .object "StairRegiment$Lines"
  | _ => .object "StairRegiment$Told"
set_option maxRecDepth 100000 in
theorem nmX6 : ∀ a, a < 7 → ∀ b, b < 7 → a ≠ b → (TX6 a).2.1 ≠ (TX6 b).2.1 := by decide +kernel
set_option maxRecDepth 100000 in
theorem tyX6_ok : ∀ k, k < 7 → parseFieldDescriptor (TX6 k).2.2.1 = some (tyX6 k) := by decide +kernel
def RX7 : String := "StairRegiment$Riddles"
def TX7 : u_T := fun k => match k with
  | 0 => ("StairRegiment$Riddles", "needs", "[I", true)
  | 1 => ("StairRegiment$Riddles", "rolls", "[I", true)
  | 2 => ("StairRegiment$Riddles", "next", "[I", true)
  | _ => ("StairRegiment$Riddles", "amounts", "[I", true)
def tyX7 : Nat → FieldType := fun k => match k with
  | 0 => .array .int
  | 1 => .array .int
  | 2 => .array .int
  | _ => .array .int
set_option maxRecDepth 100000 in
theorem nmX7 : ∀ a, a < 4 → ∀ b, b < 4 → a ≠ b → (TX7 a).2.1 ≠ (TX7 b).2.1 := by decide +kernel
set_option maxRecDepth 100000 in
theorem tyX7_ok : ∀ k, k < 4 → parseFieldDescriptor (TX7 k).2.2.1 = some (tyX7 k) := by decide +kernel
def RX8 : String := "StairRegiment$Row"
def TX8 : u_T := fun k => match k with
  | 0 => ("StairRegiment$Row", "cells", "[I", true)
  | _ => ("StairRegiment$Row", "count", "I", false)
def tyX8 : Nat → FieldType := fun k => match k with
  | 0 => .array .int
  | _ => .int
set_option maxRecDepth 100000 in
theorem nmX8 : ∀ a, a < 2 → ∀ b, b < 2 → a ≠ b → (TX8 a).2.1 ≠ (TX8 b).2.1 := by decide +kernel
set_option maxRecDepth 100000 in
theorem tyX8_ok : ∀ k, k < 2 → parseFieldDescriptor (TX8 k).2.2.1 = some (tyX8 k) := by decide +kernel
def RX9 : String := "StairRegiment$Told"
def TX9 : u_T := fun k => match k with
  | 0 => ("StairRegiment$Told", "weights", "LStairRegiment$Row;", true)
  | 1 => ("StairRegiment$Told", "strides", "LStairRegiment$Row;", true)
  | 2 => ("StairRegiment$Told", "signers", "LStairRegiment$Row;", true)
  | 3 => ("StairRegiment$Told", "numbers", "LStairRegiment$Row;", true)
  | 4 => ("StairRegiment$Told", "lengths", "LStairRegiment$Row;", true)
  | 5 => ("StairRegiment$Told", "walls", "LStairRegiment$Row;", true)
  | 6 => ("StairRegiment$Told", "digits", "LStairRegiment$Row;", true)
  | 7 => ("StairRegiment$Told", "drillRow", "I", false)
  | _ => ("StairRegiment$Told", "purse", "[I", true)
def tyX9 : Nat → FieldType := fun k => match k with
  | 0 => .object "StairRegiment$Row"
  | 1 => .object "StairRegiment$Row"
  | 2 => .object "StairRegiment$Row"
  | 3 => .object "StairRegiment$Row"
  | 4 => .object "StairRegiment$Row"
  | 5 => .object "StairRegiment$Row"
  | 6 => .object "StairRegiment$Row"
  | 7 => .int
  | _ => .array .int
set_option maxRecDepth 100000 in
theorem nmX9 : ∀ a, a < 9 → ∀ b, b < 9 → a ≠ b → (TX9 a).2.1 ≠ (TX9 b).2.1 := by decide +kernel
set_option maxRecDepth 100000 in
theorem tyX9_ok : ∀ k, k < 9 → parseFieldDescriptor (TX9 k).2.2.1 = some (tyX9 k) := by decide +kernel
def RX10 : String := "StairRegiment"
def TX10 : u_T := fun k => match k with
  | 0 => ("StairRegiment", "now", "LStairRegiment$Regiment;", true)
  | 1 => ("StairRegiment", "kept", "LStairRegiment$Regiment;", true)
  | 2 => ("StairRegiment", "isKept", "Z", false)
  | 3 => ("StairRegiment", "before", "[LStairRegiment$House;", true)
  | 4 => ("StairRegiment", "bookBefore", "[I", true)
  | 5 => ("StairRegiment", "undoNext", "I", false)
  | 6 => ("StairRegiment", "undoCount", "I", false)
  | 7 => ("StairRegiment", "tape", "[I", true)
  | 8 => ("StairRegiment", "tapeSize", "I", false)
  | 9 => ("StairRegiment", "parser", "LStairRegiment$Parser;", true)
  | 10 => ("StairRegiment", "faultKind", "I", false)
  | 11 => ("StairRegiment", "faultPlace", "I", false)
  | 12 => ("StairRegiment", "musing", "LStairRegiment$Musing;", true)
  | _ => ("StairRegiment", "riddles", "LStairRegiment$Riddles;", true)
def tyX10 : Nat → FieldType := fun k => match k with
  | 0 => .object "StairRegiment$Regiment"
  | 1 => .object "StairRegiment$Regiment"
  | 2 => .boolean
  | 3 => .array (.object "StairRegiment$House")
  | 4 => .array .int
  | 5 => .int
  | 6 => .int
  | 7 => .array .int
  | 8 => .int
  | 9 => .object "StairRegiment$Parser"
  | 10 => .int
  | 11 => .int
  | 12 => .object "StairRegiment$Musing"
  | _ => .object "StairRegiment$Riddles"
set_option maxRecDepth 100000 in
theorem nmX10 : ∀ a, a < 14 → ∀ b, b < 14 → a ≠ b → (TX10 a).2.1 ≠ (TX10 b).2.1 := by decide +kernel
set_option maxRecDepth 100000 in
theorem tyX10_ok : ∀ k, k < 14 → parseFieldDescriptor (TX10 k).2.2.1 = some (tyX10 k) := by decide +kernel
def RX11 : String := "StairRegimentModel"
def TX11 : u_T := fun k => match k with
  | 0 => ("StairRegimentModel", "told", "I", false)
  | 1 => ("StairRegimentModel", "now", "[I", true)
  | 2 => ("StairRegimentModel", "rows", "[I", true)
  | 3 => ("StairRegimentModel", "undoable", "I", false)
  | 4 => ("StairRegimentModel", "waiting", "[I", true)
  | 5 => ("StairRegimentModel", "isThought", "Z", false)
  | 6 => ("StairRegimentModel", "flights", "I", false)
  | 7 => ("StairRegimentModel", "stepMany", "[I", true)
  | 8 => ("StairRegimentModel", "height", "[I", true)
  | 9 => ("StairRegimentModel", "book", "[I", true)
  | 10 => ("StairRegimentModel", "tape", "[I", true)
  | 11 => ("StairRegimentModel", "taped", "I", false)
  | 12 => ("StairRegimentModel", "spot", "I", false)
  | 13 => ("StairRegimentModel", "from", "I", false)
  | 14 => ("StairRegimentModel", "token", "I", false)
  | 15 => ("StairRegimentModel", "value", "I", false)
  | 16 => ("StairRegimentModel", "words", "[I", true)
  | 17 => ("StairRegimentModel", "lineMany", "[I", true)
  | 18 => ("StairRegimentModel", "lineWord", "[I", true)
  | 19 => ("StairRegimentModel", "lineFrom", "[I", true)
  | 20 => ("StairRegimentModel", "lineWhen", "[I", true)
  | 21 => ("StairRegimentModel", "lineTo", "[I", true)
  | 22 => ("StairRegimentModel", "op", "[I", true)
  | 23 => ("StairRegimentModel", "arg", "[I", true)
  | 24 => ("StairRegimentModel", "which", "I", false)
  | 25 => ("StairRegimentModel", "codes", "I", false)
  | 26 => ("StairRegimentModel", "open", "I", false)
  | 27 => ("StairRegimentModel", "pending", "[I", true)
  | 28 => ("StairRegimentModel", "pendings", "I", false)
  | 29 => ("StairRegimentModel", "readFault", "I", false)
  | 30 => ("StairRegimentModel", "readPlace", "I", false)
  | 31 => ("StairRegimentModel", "faultKind", "I", false)
  | 32 => ("StairRegimentModel", "faultPlace", "I", false)
  | 33 => ("StairRegimentModel", "orderMany", "I", false)
  | 34 => ("StairRegimentModel", "orders", "[I", true)
  | 35 => ("StairRegimentModel", "visitMany", "I", false)
  | 36 => ("StairRegimentModel", "visits", "[I", true)
  | 37 => ("StairRegimentModel", "doorMany", "I", false)
  | 38 => ("StairRegimentModel", "doors", "[I", true)
  | 39 => ("StairRegimentModel", "asked", "[I", true)
  | 40 => ("StairRegimentModel", "stack", "[I", true)
  | 41 => ("StairRegimentModel", "looser", "I", false)
  | 42 => ("StairRegimentModel", "treads", "[I", true)
  | 43 => ("StairRegimentModel", "suspectMany", "I", false)
  | 44 => ("StairRegimentModel", "suspectWeight", "[I", true)
  | 45 => ("StairRegimentModel", "suspectStride", "[I", true)
  | 46 => ("StairRegimentModel", "signerMany", "I", false)
  | 47 => ("StairRegimentModel", "signers", "[I", true)
  | 48 => ("StairRegimentModel", "placeOf", "[I", true)
  | 49 => ("StairRegimentModel", "joinedBy", "[I", true)
  | 50 => ("StairRegimentModel", "mutinous", "[I", true)
  | 51 => ("StairRegimentModel", "drillBut", "I", false)
  | 52 => ("StairRegimentModel", "drillOf", "[I", true)
  | 53 => ("StairRegimentModel", "spiralX", "I", false)
  | 54 => ("StairRegimentModel", "spiralY", "I", false)
  | 55 => ("StairRegimentModel", "callMany", "I", false)
  | 56 => ("StairRegimentModel", "called", "[I", true)
  | 57 => ("StairRegimentModel", "lengthMany", "I", false)
  | 58 => ("StairRegimentModel", "lengths", "[I", true)
  | 59 => ("StairRegimentModel", "usedBy", "[I", true)
  | 60 => ("StairRegimentModel", "rollsBy", "[I", true)
  | 61 => ("StairRegimentModel", "wallMany", "I", false)
  | 62 => ("StairRegimentModel", "walls", "[I", true)
  | 63 => ("StairRegimentModel", "edges", "[I", true)
  | 64 => ("StairRegimentModel", "digitMany", "I", false)
  | 65 => ("StairRegimentModel", "digits", "[I", true)
  | 66 => ("StairRegimentModel", "nextDigits", "[I", true)
  | 67 => ("StairRegimentModel", "manyOf", "[I", true)
  | 68 => ("StairRegimentModel", "coinsOn", "[I", true)
  | 69 => ("StairRegimentModel", "isTaking", "Z", false)
  | 70 => ("StairRegimentModel", "hasImage", "Z", false)
  | 71 => ("StairRegimentModel", "keptAt", "I", false)
  | _ => ("StairRegimentModel", "images", "[I", true)
def tyX11 : Nat → FieldType := fun k => match k with
  | 0 => .int
  | 1 => .array .int
  | 2 => .array .int
  | 3 => .int
  | 4 => .array .int
  | 5 => .boolean
  | 6 => .int
  | 7 => .array .int
  | 8 => .array .int
  | 9 => .array .int
  | 10 => .array .int
  | 11 => .int
  | 12 => .int
  | 13 => .int
  | 14 => .int
  | 15 => .int
  | 16 => .array .int
  | 17 => .array .int
  | 18 => .array .int
  | 19 => .array .int
  | 20 => .array .int
  | 21 => .array .int
  | 22 => .array .int
  | 23 => .array .int
  | 24 => .int
  | 25 => .int
  | 26 => .int
  | 27 => .array .int
  | 28 => .int
  | 29 => .int
  | 30 => .int
  | 31 => .int
  | 32 => .int
  | 33 => .int
  | 34 => .array .int
  | 35 => .int
  | 36 => .array .int
  | 37 => .int
  | 38 => .array .int
  | 39 => .array .int
  | 40 => .array .int
  | 41 => .int
  | 42 => .array .int
  | 43 => .int
  | 44 => .array .int
  | 45 => .array .int
  | 46 => .int
  | 47 => .array .int
  | 48 => .array .int
  | 49 => .array .int
  | 50 => .array .int
  | 51 => .int
  | 52 => .array .int
  | 53 => .int
  | 54 => .int
  | 55 => .int
  | 56 => .array .int
  | 57 => .int
  | 58 => .array .int
  | 59 => .array .int
  | 60 => .array .int
  | 61 => .int
  | 62 => .array .int
  | 63 => .array .int
  | 64 => .int
  | 65 => .array .int
  | 66 => .array .int
  | 67 => .array .int
  | 68 => .array .int
  | 69 => .boolean
  | 70 => .boolean
  | 71 => .int
  | _ => .array .int
set_option maxRecDepth 100000 in
theorem nmX11 : ∀ a, a < 73 → ∀ b, b < 73 → a ≠ b → (TX11 a).2.1 ≠ (TX11 b).2.1 := by decide +kernel
set_option maxRecDepth 100000 in
theorem tyX11_ok : ∀ k, k < 73 → parseFieldDescriptor (TX11 k).2.2.1 = some (tyX11 k) := by decide +kernel
abbrev vwCl : List vw_C := [(RX0, TX0, 2), (RX1, TX1, 7), (RX2, TX2, 9), (RX3, TX3, 2), (RX4, TX4, 8), (RX5, TX5, 10), (RX6, TX6, 7), (RX7, TX7, 4), (RX8, TX8, 2), (RX9, TX9, 9), (RX10, TX10, 14), (RX11, TX11, 73)]
def cRL : List String := ["StairRegiment$Book", "StairRegiment$House", "StairRegiment$Law", "StairRegiment$Lines", "StairRegiment$Musing", "StairRegiment$Parser", "StairRegiment$Regiment", "StairRegiment$Riddles", "StairRegiment$Row", "StairRegiment$Told", "StairRegiment", "StairRegimentModel", "java/lang/Math", "java/lang/Integer", "java/util/Arrays", "java/lang/String", "StairRegimentLaw", "java/lang/StringLatin1", "jdk/internal/util/Preconditions"]
def cR (k : Nat) : String := nth "" cRL k
def cT (k : Nat) : u_T := match k with
  | 0 => TX0
  | 1 => TX1
  | 2 => TX2
  | 3 => TX3
  | 4 => TX4
  | 5 => TX5
  | 6 => TX6
  | 7 => TX7
  | 8 => TX8
  | 9 => TX9
  | 10 => TX10
  | _ => TX11
def cTy (k : Nat) : Nat → FieldType := match k with
  | 0 => tyX0
  | 1 => tyX1
  | 2 => tyX2
  | 3 => tyX3
  | 4 => tyX4
  | 5 => tyX5
  | 6 => tyX6
  | 7 => tyX7
  | 8 => tyX8
  | 9 => tyX9
  | 10 => tyX10
  | _ => tyX11
def cN (k : Nat) : Nat := nth 0 [2, 7, 9, 2, 8, 10, 7, 4, 2, 9, 14, 73] k
/-- 0: a reference, 1: an int, 2: a truth value -/
def fkT : List (List Nat) := [[0, 1],
  [0, 0, 1, 1, 1, 1, 1],
  [0, 1, 0, 0, 0, 0, 1, 0, 0],
  [0, 1],
  [0, 0, 0, 0, 0, 0, 0, 1],
  [0, 0, 0, 1, 1, 1, 1, 1, 0, 0],
  [0, 0, 0, 0, 0, 0, 0],
  [0, 0, 0, 0],
  [0, 1],
  [0, 0, 0, 0, 0, 0, 0, 1, 0],
  [0, 0, 2, 0, 0, 1, 1, 0, 1, 0, 1, 1, 0, 0],
  [1, 0, 0, 1, 0, 2, 1, 0, 0, 0, 0, 1, 1, 1, 1, 1, 0, 0, 0, 0, 0, 0, 0, 0, 1, 1, 1, 0, 1, 1, 1, 1, 1, 1, 0, 1, 0, 1, 0, 0, 0, 1, 0, 1, 0, 0, 1, 0, 0, 0, 0, 1, 0, 1, 1, 1, 0, 1, 0, 0, 0, 1, 0, 0, 1, 0, 0, 0, 0, 2, 2, 1, 0]]
def fk (ci k : Nat) : Nat := nth 0 (nth [] fkT ci) k
def gT : List Cond := lw_tbl.filter goodWord
theorem gT_of {w : Cond} (h : w ∈ lw_tbl) (hg : goodWord w = true) : w ∈ gT := List.mem_filter.mpr ⟨h, hg⟩
theorem gT_good : GoodIn lw_tbl gT := fun w h => ⟨(List.mem_filter.mp h).1, good_of_word (List.mem_filter.mp h).2⟩
theorem gT_self : GoodIn gT gT := fun w h => ⟨h, good_of_word (List.mem_filter.mp h).2⟩
theorem in_T {w : Cond} (h : w ∈ tables_1) : w ∈ lw_tbl := List.mem_append_right _ h
theorem in_t1 {w : Cond} (h : w ∈ tables_1_1) : w ∈ lw_tbl := in_T (List.mem_append_left _ h)
theorem in_t2 {w : Cond} (h : w ∈ tables_1_2) : w ∈ lw_tbl := in_T (List.mem_append_right _ (List.mem_append_left _ h))
theorem in_t3 {w : Cond} (h : w ∈ tables_1_3) : w ∈ lw_tbl := in_T (List.mem_append_right _ (List.mem_append_right _ (List.mem_append_left _ h)))
theorem in_t4 {w : Cond} (h : w ∈ tables_1_4) : w ∈ lw_tbl := in_T (List.mem_append_right _ (List.mem_append_right _ (List.mem_append_right _ (List.mem_append_left _ h))))
theorem in_t5 {w : Cond} (h : w ∈ tables_1_5) : w ∈ lw_tbl := in_T (List.mem_append_right _ (List.mem_append_right _ (List.mem_append_right _ (List.mem_append_right _ (List.mem_append_left _ h)))))
theorem in_t6 {w : Cond} (h : w ∈ tables_1_6) : w ∈ lw_tbl := in_T (List.mem_append_right _ (List.mem_append_right _ (List.mem_append_right _ (List.mem_append_right _ (List.mem_append_right _ (List.mem_append_left _ h))))))
theorem in_t7 {w : Cond} (h : w ∈ tables_1_7) : w ∈ lw_tbl := in_T (List.mem_append_right _ (List.mem_append_right _ (List.mem_append_right _ (List.mem_append_right _ (List.mem_append_right _ (List.mem_append_right _ (List.mem_append_left _ h)))))))
theorem in_t8 {w : Cond} (h : w ∈ tables_1_8) : w ∈ lw_tbl := in_T (List.mem_append_right _ (List.mem_append_right _ (List.mem_append_right _ (List.mem_append_right _ (List.mem_append_right _ (List.mem_append_right _ (List.mem_append_right _ (List.mem_append_left _ h))))))))
theorem in_t9 {w : Cond} (h : w ∈ tables_1_9) : w ∈ lw_tbl := in_T (List.mem_append_right _ (List.mem_append_right _ (List.mem_append_right _ (List.mem_append_right _ (List.mem_append_right _ (List.mem_append_right _ (List.mem_append_right _ (List.mem_append_right _ (h)))))))))
set_option maxRecDepth 1000000 in
theorem cls_in : ∀ ci, ci < 12 → ∀ w ∈ u_ws (cR ci) (cT ci) (cN ci), w ∈ lw_tbl ∧ goodWord w = true := by decide +kernel
theorem cls_ws {ci : Nat} (h : ci < 12) : ∀ w ∈ u_ws (cR ci) (cT ci) (cN ci), w ∈ gT := fun w hw => gT_of (cls_in ci h w hw).1 (cls_in ci h w hw).2
set_option maxRecDepth 1000000 in
theorem cls_own : ∀ ci, ci < 12 → ∀ k, k < cN ci → (cT ci k).1 = cR ci := by decide +kernel
set_option maxRecDepth 1000000 in
theorem cls_fk : ∀ ci, ci < 12 → ∀ k, k < cN ci → (fk ci k = 1 → cTy ci k = .int ∧ (cT ci k).2.2.2 = false) ∧ (fk ci k = 2 → cTy ci k = .boolean ∧ (cT ci k).2.2.2 = false) := by decide +kernel
theorem cls_ty (ci : Nat) (h : ci < 12) : ∀ k, k < cN ci → parseFieldDescriptor (cT ci k).2.2.1 = some (cTy ci k) := by
  match ci, h with
  | 0, _ => exact tyX0_ok
  | 1, _ => exact tyX1_ok
  | 2, _ => exact tyX2_ok
  | 3, _ => exact tyX3_ok
  | 4, _ => exact tyX4_ok
  | 5, _ => exact tyX5_ok
  | 6, _ => exact tyX6_ok
  | 7, _ => exact tyX7_ok
  | 8, _ => exact tyX8_ok
  | 9, _ => exact tyX9_ok
  | 10, _ => exact tyX10_ok
  | 11, _ => exact tyX11_ok
  | n + 12, h => exact absurd h (by omega)
theorem cls_nm (ci : Nat) (h : ci < 12) : ∀ a, a < cN ci → ∀ b, b < cN ci → a ≠ b → (cT ci a).2.1 ≠ (cT ci b).2.1 := by
  match ci, h with
  | 0, _ => exact nmX0
  | 1, _ => exact nmX1
  | 2, _ => exact nmX2
  | 3, _ => exact nmX3
  | 4, _ => exact nmX4
  | 5, _ => exact nmX5
  | 6, _ => exact nmX6
  | 7, _ => exact nmX7
  | 8, _ => exact nmX8
  | 9, _ => exact nmX9
  | 10, _ => exact nmX10
  | 11, _ => exact nmX11
  | n + 12, h => exact absurd h (by omega)
theorem cls_vw (ci : Nat) (h : ci < 12) : vwCl[ci]? = some (cR ci, cT ci, cN ci) := by
  match ci, h with
  | 0, _ => exact rfl
  | 1, _ => exact rfl
  | 2, _ => exact rfl
  | 3, _ => exact rfl
  | 4, _ => exact rfl
  | 5, _ => exact rfl
  | 6, _ => exact rfl
  | 7, _ => exact rfl
  | 8, _ => exact rfl
  | 9, _ => exact rfl
  | 10, _ => exact rfl
  | 11, _ => exact rfl
  | n + 12, h => exact absurd h (by omega)
def I_C_forgetDeeds : MI := ((⟨"StairRegiment", "forgetDeeds", "()V"⟩ : MethodName), prog_1_method_48_code, 1, none, 1, 11)
def I_C_state : MI := ((⟨"StairRegiment", "state", "(I)I"⟩ : MethodName), prog_1_method_2_code, 3, some .int, 2, 11)
def I_C_within : MI := ((⟨"StairRegiment", "within", "(III)Z"⟩ : MethodName), prog_1_method_49_code, 3, some .boolean, 3, 0)
def I_H_isHeight : MI := ((⟨"StairRegiment$House", "isHeight", "(I)Z"⟩ : MethodName), prog_3_method_3_code, 1, some .boolean, 1, 0)
def I_H_put : MI := ((⟨"StairRegiment$House", "put", "(IIII)V"⟩ : MethodName), prog_3_method_11_code, 6, none, 5, 2)
def I_H_build : MI := ((⟨"StairRegiment$House", "build", "(II)I"⟩ : MethodName), prog_3_method_5_code, 5, some .int, 3, 2)
def I_C_flight : MI := ((⟨"StairRegiment", "flight", "(II)I"⟩ : MethodName), prog_1_method_3_code, 4, some .int, 3, 11)
def I_H_has1 : MI := ((⟨"StairRegiment$House", "has", "(I)Z"⟩ : MethodName), prog_3_method_6_code, 2, some .boolean, 2, 2)
def I_H_size : MI := ((⟨"StairRegiment$House", "size", "(I)I"⟩ : MethodName), prog_3_method_9_code, 2, some .int, 2, 2)
def I_H_has2 : MI := ((⟨"StairRegiment$House", "has", "(II)Z"⟩ : MethodName), prog_3_method_7_code, 3, some .boolean, 3, 2)
def I_H_mayBeSet : MI := ((⟨"StairRegiment$House", "mayBeSet", "(II)Z"⟩ : MethodName), prog_3_method_4_code, 2, some .boolean, 2, 0)
def I_C_set : MI := ((⟨"StairRegiment", "set", "(IIII)Z"⟩ : MethodName), prog_1_method_4_code, 5, some .boolean, 5, 11)
def I_JM_floorMod : MI := ((⟨"java/lang/Math", "floorMod", "(II)I"⟩ : MethodName), prog_15_method_50_code, 3, some .int, 2, 0)
def I_H_copyFrom : MI := ((⟨"StairRegiment$House", "copyFrom", "(LStairRegiment$House;)V"⟩ : MethodName), prog_3_method_2_code, 2, none, 2, 2)
def I_JM_min : MI := ((⟨"java/lang/Math", "min", "(II)I"⟩ : MethodName), prog_15_method_69_code, 2, some .int, 2, 0)
def I_C_keepBefore : MI := ((⟨"StairRegiment", "keepBefore", "()V"⟩ : MethodName), prog_1_method_47_code, 3, none, 1, 11)
def I_H_get : MI := ((⟨"StairRegiment$House", "get", "(III)I"⟩ : MethodName), prog_3_method_10_code, 5, some .int, 4, 2)
def I_H_raiseTo : MI := ((⟨"StairRegiment$House", "raiseTo", "(IIIII)V"⟩ : MethodName), prog_3_method_13_code, 6, none, 6, 2)
def I_G_obey : MI := ((⟨"StairRegiment$Regiment", "obey", "(LStairRegiment$House;III)V"⟩ : MethodName), prog_8_method_4_code, 4, none, 4, 0)
def I_C_order : MI := ((⟨"StairRegiment", "order", "(III)Z"⟩ : MethodName), prog_1_method_5_code, 4, some .boolean, 4, 11)
def I_C_isVisitor : MI := ((⟨"StairRegiment", "isVisitor", "(II)Z"⟩ : MethodName), prog_1_method_50_code, 2, some .boolean, 2, 0)
def I_JM_max : MI := ((⟨"java/lang/Math", "max", "(II)I"⟩ : MethodName), prog_15_method_65_code, 2, some .int, 2, 0)
def I_H_isMissing : MI := ((⟨"StairRegiment$House", "isMissing", "(II)Z"⟩ : MethodName), prog_3_method_14_code, 3, some .boolean, 3, 2)
def I_B_write : MI := ((⟨"StairRegiment$Book", "write", "(IIIII)V"⟩ : MethodName), prog_2_method_3_code, 7, none, 6, 1)
def I_G_note : MI := ((⟨"StairRegiment$Regiment", "note", "(LStairRegiment$House;ZIIII)V"⟩ : MethodName), prog_8_method_9_code, 7, none, 7, 7)
def I_L_learn : MI := ((⟨"StairRegiment$Law", "learn", "(LStairRegiment$House;IIII)V"⟩ : MethodName), prog_4_method_10_code, 6, none, 6, 3)
def I_L_part : MI := ((⟨"StairRegiment$Law", "part", "(II)I"⟩ : MethodName), prog_4_method_12_code, 2, some .int, 2, 0)
def I_L_combine : MI := ((⟨"StairRegiment$Law", "combine", "(III)I"⟩ : MethodName), prog_4_method_13_code, 3, some .int, 3, 0)
def I_L_run : MI := ((⟨"StairRegiment$Law", "run", "(II)I"⟩ : MethodName), prog_4_method_11_code, 8, some .int, 3, 3)
def I_L_held : MI := ((⟨"StairRegiment$Law", "held", "(II)I"⟩ : MethodName), prog_4_method_15_code, 3, some .int, 2, 0)
def I_L_unwritten : MI := ((⟨"StairRegiment$Law", "unwritten", "(I)I"⟩ : MethodName), prog_4_method_14_code, 2, some .int, 2, 3)
def I_L_ask : MI := ((⟨"StairRegiment$Law", "ask", "(ILStairRegiment$House;IIII)I"⟩ : MethodName), prog_4_method_9_code, 8, some .int, 7, 3)
def I_H_draw : MI := ((⟨"StairRegiment$House", "draw", "(I)I"⟩ : MethodName), prog_3_method_18_code, 2, some .int, 2, 2)
def I_H_raise : MI := ((⟨"StairRegiment$House", "raise", "(IIII)V"⟩ : MethodName), prog_3_method_12_code, 5, none, 5, 2)
def I_G_treadOne : MI := ((⟨"StairRegiment$Regiment", "treadOne", "(LStairRegiment$House;ZIIII)Z"⟩ : MethodName), prog_8_method_7_code, 10, some .boolean, 7, 7)
def I_G_tread : MI := ((⟨"StairRegiment$Regiment", "tread", "(LStairRegiment$House;ZIZII)I"⟩ : MethodName), prog_8_method_6_code, 12, some .int, 7, 7)
def I_C_visit : MI := ((⟨"StairRegiment", "visit", "(IZII)I"⟩ : MethodName), prog_1_method_6_code, 5, some .int, 5, 11)
def I_N_at : MI := ((⟨"StairRegiment$Lines", "at", "(II)I"⟩ : MethodName), prog_5_method_4_code, 4, some .int, 3, 4)
def I_G_dawn : MI := ((⟨"StairRegiment$Regiment", "dawn", "(LStairRegiment$House;ZII)V"⟩ : MethodName), prog_8_method_8_code, 7, none, 5, 7)
def I_G_passNight : MI := ((⟨"StairRegiment$Regiment", "passNight", "(LStairRegiment$House;Z)I"⟩ : MethodName), prog_8_method_5_code, 6, some .int, 3, 7)
def I_C_nights : MI := ((⟨"StairRegiment", "nights", "(I)I"⟩ : MethodName), prog_1_method_7_code, 4, some .int, 2, 11)
def I_C_putBytes : MI := ((⟨"StairRegiment", "putBytes", "(I)V"⟩ : MethodName), prog_1_method_9_code, 3, none, 2, 11)
def I_C_feed : MI := ((⟨"StairRegiment", "feed", "(IIIII)I"⟩ : MethodName), prog_1_method_8_code, 6, some .int, 6, 11)
def I_C_end : MI := ((⟨"StairRegiment", "end", "(I)Z"⟩ : MethodName), prog_1_method_10_code, 2, some .boolean, 2, 11)
def I_P_isLetter : MI := ((⟨"StairRegiment$Parser", "isLetter", "(I)Z"⟩ : MethodName), prog_7_method_4_code, 1, some .boolean, 1, 0)
def I_JS_length : MI := ((⟨"java/lang/String", "length", "()I"⟩ : MethodName), prog_16_method_54_code, 1, some .int, 1, 77)
def I_JS_charAt : MI := ((⟨"java/lang/String", "charAt", "(I)C"⟩ : MethodName), prog_16_method_56_code, 2, some .char, 2, 77)
def I_P_wordIn : MI := ((⟨"StairRegiment$Parser", "wordIn", "(Ljava/lang/String;[III)I"⟩ : MethodName), prog_7_method_9_code, 9, some .int, 4, 0)
def I_P_keyword : MI := ((⟨"StairRegiment$Parser", "keyword", "([III)I"⟩ : MethodName), prog_7_method_8_code, 4, some .int, 3, 0)
def I_P_addToken : MI := ((⟨"StairRegiment$Parser", "addToken", "(III)V"⟩ : MethodName), prog_7_method_3_code, 4, none, 4, 6)
def I_P_isDigit : MI := ((⟨"StairRegiment$Parser", "isDigit", "(I)Z"⟩ : MethodName), prog_7_method_5_code, 1, some .boolean, 1, 0)
def I_P_valueOf : MI := ((⟨"StairRegiment$Parser", "valueOf", "([III)I"⟩ : MethodName), prog_7_method_7_code, 5, some .int, 3, 0)
def I_P_isSign : MI := ((⟨"StairRegiment$Parser", "isSign", "(I)Z"⟩ : MethodName), prog_7_method_6_code, 1, some .boolean, 1, 0)
def I_P_split : MI := ((⟨"StairRegiment$Parser", "split", "([II)V"⟩ : MethodName), prog_7_method_2_code, 7, none, 3, 6)
def I_L_clear : MI := ((⟨"StairRegiment$Law", "clear", "()V"⟩ : MethodName), prog_4_method_3_code, 1, none, 1, 3)
def I_P_kind : MI := ((⟨"StairRegiment$Parser", "kind", "()I"⟩ : MethodName), prog_7_method_10_code, 1, some .int, 1, 6)
def I_P_fail : MI := ((⟨"StairRegiment$Parser", "fail", "(I)Z"⟩ : MethodName), prog_7_method_11_code, 2, some .boolean, 2, 6)
def I_L_isFull : MI := ((⟨"StairRegiment$Law", "isFull", "()Z"⟩ : MethodName), prog_4_method_4_code, 1, some .boolean, 1, 3)
def I_L_beginLine : MI := ((⟨"StairRegiment$Law", "beginLine", "(I)V"⟩ : MethodName), prog_4_method_5_code, 2, none, 2, 3)
def I_L_put : MI := ((⟨"StairRegiment$Law", "put", "(II)V"⟩ : MethodName), prog_4_method_8_code, 3, none, 3, 3)
def I_P_takeNumber : MI := ((⟨"StairRegiment$Parser", "takeNumber", "(II)Z"⟩ : MethodName), prog_7_method_13_code, 4, some .boolean, 3, 6)
def I_P_readProduct : MI := ((⟨"StairRegiment$Parser", "readProduct", "()Z"⟩ : MethodName), prog_7_method_18_code, 2, some .boolean, 1, 6)
def I_P_readSum : MI := ((⟨"StairRegiment$Parser", "readSum", "()Z"⟩ : MethodName), prog_7_method_17_code, 2, some .boolean, 1, 6)
def I_L_beginWhen : MI := ((⟨"StairRegiment$Law", "beginWhen", "()V"⟩ : MethodName), prog_4_method_6_code, 1, none, 1, 3)
def I_P_take : MI := ((⟨"StairRegiment$Parser", "take", "(I)Z"⟩ : MethodName), prog_7_method_12_code, 2, some .boolean, 2, 6)
def I_P_readComparison : MI := ((⟨"StairRegiment$Parser", "readComparison", "(I)Z"⟩ : MethodName), prog_7_method_16_code, 4, some .boolean, 2, 6)
def I_P_readCondition : MI := ((⟨"StairRegiment$Parser", "readCondition", "(I)Z"⟩ : MethodName), prog_7_method_15_code, 4, some .boolean, 2, 6)
def I_L_endLine : MI := ((⟨"StairRegiment$Law", "endLine", "()V"⟩ : MethodName), prog_4_method_7_code, 1, none, 1, 3)
def I_P_readLaw : MI := ((⟨"StairRegiment$Parser", "readLaw", "()Z"⟩ : MethodName), prog_7_method_14_code, 3, some .boolean, 1, 6)
def I_N_isFull : MI := ((⟨"StairRegiment$Lines", "isFull", "()Z"⟩ : MethodName), prog_5_method_3_code, 1, some .boolean, 1, 4)
def I_N_draft : MI := ((⟨"StairRegiment$Lines", "draft", "(II)V"⟩ : MethodName), prog_5_method_5_code, 4, none, 3, 4)
def I_P_readBounded : MI := ((⟨"StairRegiment$Parser", "readBounded", "(IIII)Z"⟩ : MethodName), prog_7_method_26_code, 5, some .boolean, 5, 6)
def I_P_readNight : MI := ((⟨"StairRegiment$Parser", "readNight", "()Z"⟩ : MethodName), prog_7_method_23_code, 1, some .boolean, 1, 6)
def I_P_readFlight : MI := ((⟨"StairRegiment$Parser", "readFlight", "(ILStairRegiment$House;II)Z"⟩ : MethodName), prog_7_method_24_code, 5, some .boolean, 5, 6)
def I_P_readStep : MI := ((⟨"StairRegiment$Parser", "readStep", "(LStairRegiment$House;I)Z"⟩ : MethodName), prog_7_method_25_code, 3, some .boolean, 3, 6)
def I_P_orderOf : MI := ((⟨"StairRegiment$Parser", "orderOf", "(I)I"⟩ : MethodName), prog_7_method_27_code, 1, some .int, 1, 0)
def I_P_readOrder : MI := ((⟨"StairRegiment$Parser", "readOrder", "(LStairRegiment$House;)Z"⟩ : MethodName), prog_7_method_20_code, 3, some .boolean, 2, 6)
def I_P_readVisit : MI := ((⟨"StairRegiment$Parser", "readVisit", "(LStairRegiment$House;)Z"⟩ : MethodName), prog_7_method_21_code, 2, some .boolean, 2, 6)
def I_P_readDoor : MI := ((⟨"StairRegiment$Parser", "readDoor", "(LStairRegiment$House;)Z"⟩ : MethodName), prog_7_method_22_code, 2, some .boolean, 2, 6)
def I_P_readLines : MI := ((⟨"StairRegiment$Parser", "readLines", "(ILStairRegiment$House;)Z"⟩ : MethodName), prog_7_method_19_code, 5, some .boolean, 3, 6)
def I_L_copyFrom : MI := ((⟨"StairRegiment$Law", "copyFrom", "(LStairRegiment$Law;)V"⟩ : MethodName), prog_4_method_2_code, 2, none, 2, 3)
def I_N_copyFrom : MI := ((⟨"StairRegiment$Lines", "copyFrom", "(LStairRegiment$Lines;)V"⟩ : MethodName), prog_5_method_2_code, 2, none, 2, 4)
def I_C_takeText : MI := ((⟨"StairRegiment", "takeText", "(I)I"⟩ : MethodName), prog_1_method_12_code, 3, some .int, 2, 11)
def I_C_text : MI := ((⟨"StairRegiment", "text", "(I)I"⟩ : MethodName), prog_1_method_11_code, 4, some .int, 2, 11)
def I_C_fault : MI := ((⟨"StairRegiment", "fault", "(I)I"⟩ : MethodName), prog_1_method_13_code, 2, some .int, 2, 11)
def I_G_doorsOf : MI := ((⟨"StairRegiment$Regiment", "doorsOf", "(II)I"⟩ : MethodName), prog_8_method_3_code, 7, some .int, 3, 7)
def I_C_of : MI := ((⟨"StairRegiment", "of", "(III)I"⟩ : MethodName), prog_1_method_14_code, 4, some .int, 4, 11)
def I_C_asked : MI := ((⟨"StairRegiment", "asked", "(IIIII)I"⟩ : MethodName), prog_1_method_17_code, 6, some .int, 6, 11)
def I_C_creaks : MI := ((⟨"StairRegiment", "creaks", "(IIII)I"⟩ : MethodName), prog_1_method_15_code, 5, some .int, 5, 11)
def I_C_wears : MI := ((⟨"StairRegiment", "wears", "(IIII)I"⟩ : MethodName), prog_1_method_16_code, 5, some .int, 5, 11)
def I_B_at : MI := ((⟨"StairRegiment$Book", "at", "(II)I"⟩ : MethodName), prog_2_method_4_code, 3, some .int, 3, 1)
def I_C_book : MI := ((⟨"StairRegiment", "book", "(II)I"⟩ : MethodName), prog_1_method_18_code, 3, some .int, 3, 11)
def I_C_look : MI := ((⟨"StairRegiment", "look", "(I)I"⟩ : MethodName), prog_1_method_19_code, 2, some .int, 2, 11)
def I_H_sum : MI := ((⟨"StairRegiment$House", "sum", "(I)I"⟩ : MethodName), prog_3_method_16_code, 5, some .int, 2, 2)
def I_H_countMissing : MI := ((⟨"StairRegiment$House", "countMissing", "()I"⟩ : MethodName), prog_3_method_17_code, 4, some .int, 1, 2)
def I_U_afterNights : MI := ((⟨"StairRegiment$Musing", "afterNights", "(LStairRegiment$Regiment;II)I"⟩ : MethodName), prog_6_method_2_code, 5, some .int, 4, 5)
def I_C_goes : MI := ((⟨"StairRegiment", "goes", "(II)I"⟩ : MethodName), prog_1_method_20_code, 3, some .int, 3, 11)
def I_U_wouldCreak : MI := ((⟨"StairRegiment$Musing", "wouldCreak", "(LStairRegiment$Regiment;LStairRegiment$House;IIII)Z"⟩ : MethodName), prog_6_method_3_code, 6, some .boolean, 6, 0)
def I_U_strideCost : MI := ((⟨"StairRegiment$Musing", "strideCost", "(LStairRegiment$Regiment;IIII)I"⟩ : MethodName), prog_6_method_5_code, 8, some .int, 6, 5)
def I_U_quietest : MI := ((⟨"StairRegiment$Musing", "quietest", "(LStairRegiment$Regiment;III)I"⟩ : MethodName), prog_6_method_4_code, 8, some .int, 5, 5)
def I_C_unheard : MI := ((⟨"StairRegiment", "unheard", "(IIII)I"⟩ : MethodName), prog_1_method_21_code, 6, some .int, 5, 11)
def I_W_clear : MI := ((⟨"StairRegiment$Row", "clear", "()I"⟩ : MethodName), prog_10_method_3_code, 1, some .int, 1, 9)
def I_W_add : MI := ((⟨"StairRegiment$Row", "add", "(I)I"⟩ : MethodName), prog_10_method_4_code, 2, some .int, 2, 9)
def I_C_suspect : MI := ((⟨"StairRegiment", "suspect", "(II)I"⟩ : MethodName), prog_1_method_22_code, 4, some .int, 3, 11)
def I_H_hasSet : MI := ((⟨"StairRegiment$House", "hasSet", "(II)Z"⟩ : MethodName), prog_3_method_8_code, 3, some .boolean, 3, 2)
def I_W_at : MI := ((⟨"StairRegiment$Row", "at", "(I)I"⟩ : MethodName), prog_10_method_6_code, 2, some .int, 2, 9)
def I_U_makesCreak : MI := ((⟨"StairRegiment$Musing", "makesCreak", "(LStairRegiment$Regiment;LStairRegiment$House;III)Z"⟩ : MethodName), prog_6_method_6_code, 6, some .boolean, 5, 0)
def I_U_fitting : MI := ((⟨"StairRegiment$Musing", "fitting", "(LStairRegiment$Regiment;II)I"⟩ : MethodName), prog_6_method_7_code, 8, some .int, 4, 5)
def I_U_tellingStep : MI := ((⟨"StairRegiment$Musing", "tellingStep", "(LStairRegiment$Regiment;II)I"⟩ : MethodName), prog_6_method_8_code, 8, some .int, 4, 5)
def I_C_who : MI := ((⟨"StairRegiment", "who", "(III)I"⟩ : MethodName), prog_1_method_23_code, 5, some .int, 4, 11)
def I_JA_fill : MI := ((⟨"java/util/Arrays", "fill", "([II)V"⟩ : MethodName), prog_20_method_103_code, 4, none, 2, 0)
def I_JI_bitCount : MI := ((⟨"java/lang/Integer", "bitCount", "(I)I"⟩ : MethodName), prog_14_method_49_code, 1, some .int, 1, 0)
def I_U_betterSet : MI := ((⟨"StairRegiment$Musing", "betterSet", "(II)I"⟩ : MethodName), prog_6_method_10_code, 3, some .int, 2, 0)
def I_U_leaveSet : MI := ((⟨"StairRegiment$Musing", "leaveSet", "(LStairRegiment$House;II)I"⟩ : MethodName), prog_6_method_9_code, 9, some .int, 4, 5)
def I_C_roster : MI := ((⟨"StairRegiment", "roster", "(III)I"⟩ : MethodName), prog_1_method_24_code, 5, some .int, 4, 11)
def I_JM_abs : MI := ((⟨"java/lang/Math", "abs", "(I)I"⟩ : MethodName), prog_15_method_59_code, 1, some .int, 1, 0)
def I_U_joinCost : MI := ((⟨"StairRegiment$Musing", "joinCost", "(LStairRegiment$House;II)I"⟩ : MethodName), prog_6_method_11_code, 10, some .int, 4, 5)
def I_U_commonHeights : MI := ((⟨"StairRegiment$Musing", "commonHeights", "(LStairRegiment$House;II)I"⟩ : MethodName), prog_6_method_12_code, 8, some .int, 3, 0)
def I_C_joined : MI := ((⟨"StairRegiment", "joined", "(III)I"⟩ : MethodName), prog_1_method_25_code, 4, some .int, 4, 11)
def I_U_willOf : MI := ((⟨"StairRegiment$Musing", "willOf", "(LStairRegiment$House;II)I"⟩ : MethodName), prog_6_method_13_code, 3, some .int, 3, 0)
def I_U_fewestToBegin : MI := ((⟨"StairRegiment$Musing", "fewestToBegin", "(LStairRegiment$House;I)I"⟩ : MethodName), prog_6_method_19_code, 9, some .int, 2, 0)
def I_H_anyMissing : MI := ((⟨"StairRegiment$House", "anyMissing", "(II)Z"⟩ : MethodName), prog_3_method_15_code, 4, some .boolean, 3, 2)
def I_U_beginMutiny : MI := ((⟨"StairRegiment$Musing", "beginMutiny", "(I)V"⟩ : MethodName), prog_6_method_15_code, 2, none, 2, 5)
def I_U_urge : MI := ((⟨"StairRegiment$Musing", "urge", "(LStairRegiment$House;II)V"⟩ : MethodName), prog_6_method_16_code, 5, none, 4, 5)
def I_U_doorFrom : MI := ((⟨"StairRegiment$Musing", "doorFrom", "(LStairRegiment$Lines;II)I"⟩ : MethodName), prog_6_method_18_code, 5, some .int, 3, 0)
def I_U_urgeThroughDoors : MI := ((⟨"StairRegiment$Musing", "urgeThroughDoors", "(LStairRegiment$Regiment;II)V"⟩ : MethodName), prog_6_method_17_code, 10, none, 4, 5)
def I_U_mutineers : MI := ((⟨"StairRegiment$Musing", "mutineers", "(LStairRegiment$Regiment;II)I"⟩ : MethodName), prog_6_method_14_code, 8, some .int, 4, 5)
def I_C_mutiny : MI := ((⟨"StairRegiment", "mutiny", "(II)I"⟩ : MethodName), prog_1_method_26_code, 3, some .int, 3, 11)
def I_D_isPermutation : MI := ((⟨"StairRegiment$Riddles", "isPermutation", "(II)Z"⟩ : MethodName), prog_9_method_2_code, 5, some .boolean, 2, 0)
def I_C_signer : MI := ((⟨"StairRegiment", "signer", "(I)I"⟩ : MethodName), prog_1_method_27_code, 2, some .int, 2, 11)
def I_D_placeOf : MI := ((⟨"StairRegiment$Riddles", "placeOf", "(II)I"⟩ : MethodName), prog_9_method_3_code, 4, some .int, 2, 0)
def I_D_before : MI := ((⟨"StairRegiment$Riddles", "before", "(LStairRegiment$Row;II)I"⟩ : MethodName), prog_9_method_4_code, 5, some .int, 3, 0)
def I_D_isAhead : MI := ((⟨"StairRegiment$Riddles", "isAhead", "(LStairRegiment$Row;I)Z"⟩ : MethodName), prog_9_method_5_code, 5, some .boolean, 2, 0)
def I_D_winner : MI := ((⟨"StairRegiment$Riddles", "winner", "(LStairRegiment$Row;)I"⟩ : MethodName), prog_9_method_6_code, 2, some .int, 1, 0)
def I_D_topSet : MI := ((⟨"StairRegiment$Riddles", "topSet", "(LStairRegiment$Row;)I"⟩ : MethodName), prog_9_method_7_code, 4, some .int, 1, 0)
def I_D_agreedCouples : MI := ((⟨"StairRegiment$Riddles", "agreedCouples", "(LStairRegiment$Row;)I"⟩ : MethodName), prog_9_method_8_code, 4, some .int, 1, 0)
def I_C_signs : MI := ((⟨"StairRegiment", "signs", "(I)I"⟩ : MethodName), prog_1_method_28_code, 2, some .int, 2, 11)
def I_C_drill : MI := ((⟨"StairRegiment", "drill", "(I)Z"⟩ : MethodName), prog_1_method_29_code, 2, some .boolean, 2, 11)
def I_D_placeBefore : MI := ((⟨"StairRegiment$Riddles", "placeBefore", "(II)I"⟩ : MethodName), prog_9_method_9_code, 4, some .int, 2, 0)
def I_D_roundOf : MI := ((⟨"StairRegiment$Riddles", "roundOf", "(II)I"⟩ : MethodName), prog_9_method_10_code, 4, some .int, 2, 0)
def I_D_roundsOf : MI := ((⟨"StairRegiment$Riddles", "roundsOf", "(I)I"⟩ : MethodName), prog_9_method_11_code, 6, some .int, 1, 0)
def I_D_standsAt : MI := ((⟨"StairRegiment$Riddles", "standsAt", "(III)I"⟩ : MethodName), prog_9_method_12_code, 6, some .int, 3, 0)
def I_C_drilled : MI := ((⟨"StairRegiment", "drilled", "(II)I"⟩ : MethodName), prog_1_method_30_code, 3, some .int, 3, 11)
def I_D_isFraction : MI := ((⟨"StairRegiment$Riddles", "isFraction", "(I)Z"⟩ : MethodName), prog_9_method_13_code, 1, some .boolean, 1, 0)
def I_D_simplestBetween : MI := ((⟨"StairRegiment$Riddles", "simplestBetween", "(II)I"⟩ : MethodName), prog_9_method_14_code, 8, some .int, 2, 0)
def I_C_between : MI := ((⟨"StairRegiment", "between", "(II)I"⟩ : MethodName), prog_1_method_31_code, 3, some .int, 3, 11)
def I_D_ringStart : MI := ((⟨"StairRegiment$Riddles", "ringStart", "(I)I"⟩ : MethodName), prog_9_method_15_code, 1, some .int, 1, 0)
def I_D_spiralPlace : MI := ((⟨"StairRegiment$Riddles", "spiralPlace", "(II)I"⟩ : MethodName), prog_9_method_16_code, 6, some .int, 2, 0)
def I_C_spiral : MI := ((⟨"StairRegiment", "spiral", "(II)I"⟩ : MethodName), prog_1_method_32_code, 3, some .int, 3, 11)
def I_D_spiralStep : MI := ((⟨"StairRegiment$Riddles", "spiralStep", "(II)I"⟩ : MethodName), prog_9_method_17_code, 4, some .int, 2, 0)
def I_C_winds : MI := ((⟨"StairRegiment", "winds", "(II)I"⟩ : MethodName), prog_1_method_33_code, 3, some .int, 3, 11)
def I_W_tell : MI := ((⟨"StairRegiment$Row", "tell", "(III)I"⟩ : MethodName), prog_10_method_5_code, 4, some .int, 4, 9)
def I_C_calls : MI := ((⟨"StairRegiment", "calls", "(I)I"⟩ : MethodName), prog_1_method_34_code, 2, some .int, 2, 11)
def I_JI_numberOfTrailingZeros : MI := ((⟨"java/lang/Integer", "numberOfTrailingZeros", "(I)I"⟩ : MethodName), prog_14_method_48_code, 2, some .int, 1, 0)
def I_D_leastUntold : MI := ((⟨"StairRegiment$Riddles", "leastUntold", "(LStairRegiment$Row;)I"⟩ : MethodName), prog_9_method_18_code, 3, some .int, 1, 0)
def I_D_onlyOdd : MI := ((⟨"StairRegiment$Riddles", "onlyOdd", "(LStairRegiment$Row;)I"⟩ : MethodName), prog_9_method_19_code, 3, some .int, 1, 0)
def I_C_missing : MI := ((⟨"StairRegiment", "missing", "(I)I"⟩ : MethodName), prog_1_method_35_code, 2, some .int, 2, 11)
def I_C_length : MI := ((⟨"StairRegiment", "length", "(I)I"⟩ : MethodName), prog_1_method_36_code, 2, some .int, 2, 11)
def I_D_weigh : MI := ((⟨"StairRegiment$Riddles", "weigh", "(LStairRegiment$Row;I)V"⟩ : MethodName), prog_9_method_21_code, 6, none, 3, 8)
def I_D_fewestRolls : MI := ((⟨"StairRegiment$Riddles", "fewestRolls", "(II)I"⟩ : MethodName), prog_9_method_22_code, 6, some .int, 3, 8)
def I_D_mostLeft : MI := ((⟨"StairRegiment$Riddles", "mostLeft", "(II)I"⟩ : MethodName), prog_9_method_23_code, 6, some .int, 3, 8)
def I_D_cutRolls : MI := ((⟨"StairRegiment$Riddles", "cutRolls", "(LStairRegiment$Row;II)I"⟩ : MethodName), prog_9_method_20_code, 6, some .int, 4, 8)
def I_C_runner : MI := ((⟨"StairRegiment", "runner", "(II)I"⟩ : MethodName), prog_1_method_37_code, 3, some .int, 3, 11)
def I_C_wall : MI := ((⟨"StairRegiment", "wall", "(I)I"⟩ : MethodName), prog_1_method_38_code, 2, some .int, 2, 11)
def I_D_rampFoot : MI := ((⟨"StairRegiment$Riddles", "rampFoot", "(LStairRegiment$Row;II)I"⟩ : MethodName), prog_9_method_24_code, 4, some .int, 3, 0)
def I_C_ramp : MI := ((⟨"StairRegiment", "ramp", "(II)I"⟩ : MethodName), prog_1_method_39_code, 3, some .int, 3, 11)
def I_D_waysOfSide : MI := ((⟨"StairRegiment$Riddles", "waysOfSide", "(IIII)I"⟩ : MethodName), prog_9_method_26_code, 4, some .int, 4, 0)
def I_D_waysThrough : MI := ((⟨"StairRegiment$Riddles", "waysThrough", "(II)I"⟩ : MethodName), prog_9_method_25_code, 7, some .int, 2, 0)
def I_C_box : MI := ((⟨"StairRegiment", "box", "(III)I"⟩ : MethodName), prog_1_method_40_code, 5, some .int, 4, 11)
def I_C_digit : MI := ((⟨"StairRegiment", "digit", "(I)I"⟩ : MethodName), prog_1_method_41_code, 2, some .int, 2, 11)
def I_D_countDigits : MI := ((⟨"StairRegiment$Riddles", "countDigits", "(LStairRegiment$Row;)V"⟩ : MethodName), prog_9_method_30_code, 4, none, 2, 8)
def I_D_countArranged : MI := ((⟨"StairRegiment$Riddles", "countArranged", "()I"⟩ : MethodName), prog_9_method_31_code, 5, some .int, 1, 8)
def I_D_countRows : MI := ((⟨"StairRegiment$Riddles", "countRows", "(LStairRegiment$Row;)I"⟩ : MethodName), prog_9_method_32_code, 2, some .int, 2, 8)
def I_D_rankOfRow : MI := ((⟨"StairRegiment$Riddles", "rankOfRow", "(LStairRegiment$Row;)I"⟩ : MethodName), prog_9_method_33_code, 6, some .int, 2, 8)
def I_D_swapNext : MI := ((⟨"StairRegiment$Riddles", "swapNext", "(II)V"⟩ : MethodName), prog_9_method_29_code, 4, none, 3, 8)
def I_D_goToNext : MI := ((⟨"StairRegiment$Riddles", "goToNext", "(I)Z"⟩ : MethodName), prog_9_method_28_code, 6, some .boolean, 2, 8)
def I_D_nextDigit : MI := ((⟨"StairRegiment$Riddles", "nextDigit", "(LStairRegiment$Row;I)I"⟩ : MethodName), prog_9_method_27_code, 5, some .int, 3, 8)
def I_C_cellar : MI := ((⟨"StairRegiment", "cellar", "(I)I"⟩ : MethodName), prog_1_method_42_code, 2, some .int, 2, 11)
def I_C_coins : MI := ((⟨"StairRegiment", "coins", "(II)Z"⟩ : MethodName), prog_1_method_43_code, 3, some .boolean, 3, 11)
def I_D_goodMove : MI := ((⟨"StairRegiment$Riddles", "goodMove", "([I)I"⟩ : MethodName), prog_9_method_34_code, 5, some .int, 1, 0)
def I_C_game : MI := ((⟨"StairRegiment", "game", "(I)I"⟩ : MethodName), prog_1_method_44_code, 3, some .int, 2, 11)
def I_C_undo : MI := ((⟨"StairRegiment", "undo", "()Z"⟩ : MethodName), prog_1_method_45_code, 2, some .boolean, 1, 11)
def I_B_copyFrom : MI := ((⟨"StairRegiment$Book", "copyFrom", "(LStairRegiment$Book;)V"⟩ : MethodName), prog_2_method_2_code, 2, none, 2, 1)
def I_W_copyFrom : MI := ((⟨"StairRegiment$Row", "copyFrom", "(LStairRegiment$Row;)V"⟩ : MethodName), prog_10_method_2_code, 2, none, 2, 9)
def I_T_copyFrom : MI := ((⟨"StairRegiment$Told", "copyFrom", "(LStairRegiment$Told;)V"⟩ : MethodName), prog_11_method_2_code, 2, none, 2, 10)
def I_G_copyFrom : MI := ((⟨"StairRegiment$Regiment", "copyFrom", "(LStairRegiment$Regiment;)V"⟩ : MethodName), prog_8_method_2_code, 2, none, 2, 7)
def I_C_image : MI := ((⟨"StairRegiment", "image", "(Z)Z"⟩ : MethodName), prog_1_method_46_code, 2, some .boolean, 2, 11)
def I_R_isIn : MI := ((⟨"StairRegimentModel", "isIn", "(III)Z"⟩ : MethodName), prog_13_method_3_code, 4, some .boolean, 4, 12)
def I_R_held : MI := ((⟨"StairRegimentModel", "held", "(III)I"⟩ : MethodName), prog_13_method_4_code, 4, some .int, 4, 12)
def I_R_greater : MI := ((⟨"StairRegimentModel", "greater", "(II)I"⟩ : MethodName), prog_13_method_5_code, 3, some .int, 3, 12)
def I_R_lesser : MI := ((⟨"StairRegimentModel", "lesser", "(II)I"⟩ : MethodName), prog_13_method_6_code, 3, some .int, 3, 12)
def I_R_apart : MI := ((⟨"StairRegimentModel", "apart", "(II)I"⟩ : MethodName), prog_13_method_7_code, 3, some .int, 3, 12)
def I_R_onesOf : MI := ((⟨"StairRegimentModel", "onesOf", "(I)I"⟩ : MethodName), prog_13_method_8_code, 4, some .int, 2, 12)
def I_R_has : MI := ((⟨"StairRegimentModel", "has", "(II)Z"⟩ : MethodName), prog_13_method_9_code, 3, some .boolean, 3, 12)
def I_R_keepsAhead : MI := ((⟨"StairRegimentModel", "keepsAhead", "()V"⟩ : MethodName), prog_13_method_10_code, 2, none, 1, 12)
def I_R_undo : MI := ((⟨"StairRegimentModel", "undo", "()Z"⟩ : MethodName), prog_13_method_11_code, 2, some .boolean, 1, 12)
def I_R_thinks : MI := ((⟨"StairRegimentModel", "thinks", "()V"⟩ : MethodName), prog_13_method_12_code, 2, none, 1, 12)
def I_R_endsThought : MI := ((⟨"StairRegimentModel", "endsThought", "()V"⟩ : MethodName), prog_13_method_13_code, 2, none, 1, 12)
def I_R_state : MI := ((⟨"StairRegimentModel", "state", "(I)I"⟩ : MethodName), prog_13_method_14_code, 3, some .int, 2, 12)
def I_R_draw : MI := ((⟨"StairRegimentModel", "draw", "(I)I"⟩ : MethodName), prog_13_method_15_code, 2, some .int, 2, 12)
def I_R_isFlight : MI := ((⟨"StairRegimentModel", "isFlight", "(I)Z"⟩ : MethodName), prog_13_method_16_code, 2, some .boolean, 2, 12)
def I_R_isStep : MI := ((⟨"StairRegimentModel", "isStep", "(II)Z"⟩ : MethodName), prog_13_method_17_code, 3, some .boolean, 3, 12)
def I_R_isGone : MI := ((⟨"StairRegimentModel", "isGone", "(I)Z"⟩ : MethodName), prog_13_method_18_code, 2, some .boolean, 2, 12)
def I_R_flight : MI := ((⟨"StairRegimentModel", "flight", "(II)I"⟩ : MethodName), prog_13_method_19_code, 5, some .int, 3, 12)
def I_R_set : MI := ((⟨"StairRegimentModel", "set", "(IIII)Z"⟩ : MethodName), prog_13_method_20_code, 6, some .boolean, 5, 12)
def I_R_types : MI := ((⟨"StairRegimentModel", "types", "(I)V"⟩ : MethodName), prog_13_method_21_code, 3, none, 2, 12)
def I_R_feed : MI := ((⟨"StairRegimentModel", "feed", "(IIIII)I"⟩ : MethodName), prog_13_method_22_code, 6, some .int, 6, 12)
def I_R_end : MI := ((⟨"StairRegimentModel", "end", "(I)Z"⟩ : MethodName), prog_13_method_23_code, 2, some .boolean, 2, 12)
def I_R_raw : MI := ((⟨"StairRegimentModel", "raw", "(I)I"⟩ : MethodName), prog_13_method_24_code, 2, some .int, 2, 12)
def I_R_isLetter : MI := ((⟨"StairRegimentModel", "isLetter", "(I)Z"⟩ : MethodName), prog_13_method_25_code, 2, some .boolean, 2, 12)
def I_R_isDigit : MI := ((⟨"StairRegimentModel", "isDigit", "(I)Z"⟩ : MethodName), prog_13_method_26_code, 2, some .boolean, 2, 12)
def I_R_isMarkSign : MI := ((⟨"StairRegimentModel", "isMarkSign", "(I)Z"⟩ : MethodName), prog_13_method_27_code, 2, some .boolean, 2, 12)
def I_R_wordAt : MI := ((⟨"StairRegimentModel", "wordAt", "(II)I"⟩ : MethodName), prog_13_method_28_code, 6, some .int, 3, 12)
def I_R_reads : MI := ((⟨"StairRegimentModel", "reads", "()V"⟩ : MethodName), prog_13_method_29_code, 2, none, 1, 12)
def I_R_errs : MI := ((⟨"StairRegimentModel", "errs", "(I)I"⟩ : MethodName), prog_13_method_30_code, 2, some .int, 2, 12)
def I_R_isWord : MI := ((⟨"StairRegimentModel", "isWord", "(I)Z"⟩ : MethodName), prog_13_method_31_code, 2, some .boolean, 2, 12)
def I_R_isSign : MI := ((⟨"StairRegimentModel", "isSign", "(I)Z"⟩ : MethodName), prog_13_method_32_code, 2, some .boolean, 2, 12)
def I_R_emits : MI := ((⟨"StairRegimentModel", "emits", "(II)V"⟩ : MethodName), prog_13_method_33_code, 3, none, 3, 12)
def I_R_canAsk : MI := ((⟨"StairRegimentModel", "canAsk", "(I)Z"⟩ : MethodName), prog_13_method_34_code, 2, some .boolean, 2, 12)
def I_R_readUnit : MI := ((⟨"StairRegimentModel", "readUnit", "()I"⟩ : MethodName), prog_13_method_35_code, 2, some .int, 1, 12)
def I_R_readProduct : MI := ((⟨"StairRegimentModel", "readProduct", "()I"⟩ : MethodName), prog_13_method_36_code, 2, some .int, 1, 12)
def I_R_readSum : MI := ((⟨"StairRegimentModel", "readSum", "()I"⟩ : MethodName), prog_13_method_37_code, 2, some .int, 1, 12)
def I_R_readCompared : MI := ((⟨"StairRegimentModel", "readCompared", "()I"⟩ : MethodName), prog_13_method_38_code, 2, some .int, 1, 12)
def I_R_waits : MI := ((⟨"StairRegimentModel", "waits", "(I)V"⟩ : MethodName), prog_13_method_39_code, 2, none, 2, 12)
def I_R_settles : MI := ((⟨"StairRegimentModel", "settles", "(I)V"⟩ : MethodName), prog_13_method_40_code, 2, none, 2, 12)
def I_R_readAny : MI := ((⟨"StairRegimentModel", "readAny", "()I"⟩ : MethodName), prog_13_method_41_code, 4, some .int, 1, 12)
def I_R_isLineWord : MI := ((⟨"StairRegimentModel", "isLineWord", "()Z"⟩ : MethodName), prog_13_method_42_code, 1, some .boolean, 1, 12)
def I_R_readLaw : MI := ((⟨"StairRegimentModel", "readLaw", "()I"⟩ : MethodName), prog_13_method_43_code, 3, some .int, 1, 12)
def I_R_takesLaw : MI := ((⟨"StairRegimentModel", "takesLaw", "(I)V"⟩ : MethodName), prog_13_method_44_code, 3, none, 2, 12)
def I_R_readNumber : MI := ((⟨"StairRegimentModel", "readNumber", "(II)I"⟩ : MethodName), prog_13_method_45_code, 4, some .int, 3, 12)
def I_R_readMark : MI := ((⟨"StairRegimentModel", "readMark", "(I)I"⟩ : MethodName), prog_13_method_46_code, 2, some .int, 2, 12)
def I_R_readTold : MI := ((⟨"StairRegimentModel", "readTold", "(III)I"⟩ : MethodName), prog_13_method_47_code, 4, some .int, 4, 12)
def I_R_readStep : MI := ((⟨"StairRegimentModel", "readStep", "(I)I"⟩ : MethodName), prog_13_method_48_code, 3, some .int, 2, 12)
def I_R_kindOfOrder : MI := ((⟨"StairRegimentModel", "kindOfOrder", "()I"⟩ : MethodName), prog_13_method_49_code, 1, some .int, 1, 12)
def I_R_readOrder : MI := ((⟨"StairRegimentModel", "readOrder", "(I)I"⟩ : MethodName), prog_13_method_50_code, 3, some .int, 2, 12)
def I_R_readOrders : MI := ((⟨"StairRegimentModel", "readOrders", "()I"⟩ : MethodName), prog_13_method_51_code, 2, some .int, 1, 12)
def I_R_readVisit : MI := ((⟨"StairRegimentModel", "readVisit", "(I)I"⟩ : MethodName), prog_13_method_52_code, 2, some .int, 2, 12)
def I_R_readVisits : MI := ((⟨"StairRegimentModel", "readVisits", "()I"⟩ : MethodName), prog_13_method_53_code, 2, some .int, 1, 12)
def I_R_readDoor : MI := ((⟨"StairRegimentModel", "readDoor", "(I)I"⟩ : MethodName), prog_13_method_54_code, 4, some .int, 2, 12)
def I_R_readDoors : MI := ((⟨"StairRegimentModel", "readDoors", "()I"⟩ : MethodName), prog_13_method_55_code, 2, some .int, 1, 12)
def I_R_readsText : MI := ((⟨"StairRegimentModel", "readsText", "(I)I"⟩ : MethodName), prog_13_method_56_code, 2, some .int, 2, 12)
def I_R_takesOther : MI := ((⟨"StairRegimentModel", "takesOther", "(II)V"⟩ : MethodName), prog_13_method_57_code, 4, none, 3, 12)
def I_R_text : MI := ((⟨"StairRegimentModel", "text", "(I)I"⟩ : MethodName), prog_13_method_58_code, 3, some .int, 2, 12)
def I_R_fault : MI := ((⟨"StairRegimentModel", "fault", "(I)I"⟩ : MethodName), prog_13_method_59_code, 2, some .int, 2, 12)
def I_R_twoOf : MI := ((⟨"StairRegimentModel", "twoOf", "(III)I"⟩ : MethodName), prog_13_method_60_code, 4, some .int, 4, 12)
def I_R_runs : MI := ((⟨"StairRegimentModel", "runs", "(III)I"⟩ : MethodName), prog_13_method_61_code, 6, some .int, 4, 12)
def I_R_lineOf : MI := ((⟨"StairRegimentModel", "lineOf", "(I)I"⟩ : MethodName), prog_13_method_62_code, 3, some .int, 2, 12)
def I_R_asks : MI := ((⟨"StairRegimentModel", "asks", "(III)V"⟩ : MethodName), prog_13_method_63_code, 4, none, 4, 12)
def I_R_lawTells : MI := ((⟨"StairRegimentModel", "lawTells", "(III)I"⟩ : MethodName), prog_13_method_64_code, 5, some .int, 4, 12)
def I_R_creaksOf : MI := ((⟨"StairRegimentModel", "creaksOf", "(III)I"⟩ : MethodName), prog_13_method_65_code, 4, some .int, 4, 12)
def I_R_wearsOf : MI := ((⟨"StairRegimentModel", "wearsOf", "(III)I"⟩ : MethodName), prog_13_method_66_code, 4, some .int, 4, 12)
def I_R_risesOf : MI := ((⟨"StairRegimentModel", "risesOf", "(I)I"⟩ : MethodName), prog_13_method_67_code, 2, some .int, 2, 12)
def I_R_notes : MI := ((⟨"StairRegimentModel", "notes", "(III)V"⟩ : MethodName), prog_13_method_68_code, 5, none, 4, 12)
def I_R_isOrdered : MI := ((⟨"StairRegimentModel", "isOrdered", "(II)V"⟩ : MethodName), prog_13_method_69_code, 3, none, 3, 12)
def I_R_order : MI := ((⟨"StairRegimentModel", "order", "(III)Z"⟩ : MethodName), prog_13_method_70_code, 4, some .boolean, 4, 12)
def I_R_isTrodden : MI := ((⟨"StairRegimentModel", "isTrodden", "(III)Z"⟩ : MethodName), prog_13_method_71_code, 7, some .boolean, 4, 12)
def I_R_isVisited : MI := ((⟨"StairRegimentModel", "isVisited", "(IZII)I"⟩ : MethodName), prog_13_method_72_code, 9, some .int, 5, 12)
def I_R_visit : MI := ((⟨"StairRegimentModel", "visit", "(IZII)I"⟩ : MethodName), prog_13_method_73_code, 5, some .int, 5, 12)
def I_R_dawns : MI := ((⟨"StairRegimentModel", "dawns", "(I)V"⟩ : MethodName), prog_13_method_74_code, 2, none, 2, 12)
def I_R_goesBy : MI := ((⟨"StairRegimentModel", "goesBy", "()I"⟩ : MethodName), prog_13_method_75_code, 4, some .int, 1, 12)
def I_R_nights : MI := ((⟨"StairRegimentModel", "nights", "(I)I"⟩ : MethodName), prog_13_method_76_code, 4, some .int, 2, 12)
def I_R_doorsOf : MI := ((⟨"StairRegimentModel", "doorsOf", "(I)I"⟩ : MethodName), prog_13_method_77_code, 4, some .int, 2, 12)
def I_R_of : MI := ((⟨"StairRegimentModel", "of", "(III)I"⟩ : MethodName), prog_13_method_78_code, 5, some .int, 4, 12)
def I_R_canTread : MI := ((⟨"StairRegimentModel", "canTread", "(IIII)Z"⟩ : MethodName), prog_13_method_79_code, 5, some .boolean, 5, 12)
def I_R_creaks : MI := ((⟨"StairRegimentModel", "creaks", "(IIII)I"⟩ : MethodName), prog_13_method_80_code, 5, some .int, 5, 12)
def I_R_wears : MI := ((⟨"StairRegimentModel", "wears", "(IIII)I"⟩ : MethodName), prog_13_method_81_code, 5, some .int, 5, 12)
def I_R_book : MI := ((⟨"StairRegimentModel", "book", "(II)I"⟩ : MethodName), prog_13_method_82_code, 3, some .int, 3, 12)
def I_R_sumOf : MI := ((⟨"StairRegimentModel", "sumOf", "(I)I"⟩ : MethodName), prog_13_method_83_code, 4, some .int, 2, 12)
def I_R_goneMany : MI := ((⟨"StairRegimentModel", "goneMany", "()I"⟩ : MethodName), prog_13_method_84_code, 3, some .int, 1, 12)
def I_R_goes : MI := ((⟨"StairRegimentModel", "goes", "(II)I"⟩ : MethodName), prog_13_method_85_code, 4, some .int, 3, 12)
def I_R_doesCreak : MI := ((⟨"StairRegimentModel", "doesCreak", "(III)Z"⟩ : MethodName), prog_13_method_86_code, 4, some .boolean, 4, 12)
def I_R_unheard : MI := ((⟨"StairRegimentModel", "unheard", "(IIII)I"⟩ : MethodName), prog_13_method_87_code, 10, some .int, 5, 12)
def I_R_suspect : MI := ((⟨"StairRegimentModel", "suspect", "(II)I"⟩ : MethodName), prog_13_method_88_code, 3, some .int, 3, 12)
def I_R_wouldCreak : MI := ((⟨"StairRegimentModel", "wouldCreak", "(III)Z"⟩ : MethodName), prog_13_method_89_code, 4, some .boolean, 4, 12)
def I_R_fittingSet : MI := ((⟨"StairRegimentModel", "fittingSet", "(II)I"⟩ : MethodName), prog_13_method_90_code, 7, some .int, 3, 12)
def I_R_firstLoose : MI := ((⟨"StairRegimentModel", "firstLoose", "(II)I"⟩ : MethodName), prog_13_method_91_code, 6, some .int, 3, 12)
def I_R_who : MI := ((⟨"StairRegimentModel", "who", "(III)I"⟩ : MethodName), prog_13_method_92_code, 5, some .int, 4, 12)
def I_R_presentSet : MI := ((⟨"StairRegimentModel", "presentSet", "(I)I"⟩ : MethodName), prog_13_method_93_code, 4, some .int, 2, 12)
def I_R_isManned : MI := ((⟨"StairRegimentModel", "isManned", "(III)Z"⟩ : MethodName), prog_13_method_94_code, 5, some .boolean, 4, 12)
def I_R_roster : MI := ((⟨"StairRegimentModel", "roster", "(III)I"⟩ : MethodName), prog_13_method_95_code, 8, some .int, 4, 12)
def I_R_signer : MI := ((⟨"StairRegimentModel", "signer", "(I)I"⟩ : MethodName), prog_13_method_96_code, 5, some .int, 2, 12)
def I_R_votesFor : MI := ((⟨"StairRegimentModel", "votesFor", "(II)I"⟩ : MethodName), prog_13_method_97_code, 7, some .int, 3, 12)
def I_R_isBefore : MI := ((⟨"StairRegimentModel", "isBefore", "(II)Z"⟩ : MethodName), prog_13_method_98_code, 3, some .boolean, 3, 12)
def I_R_isTop : MI := ((⟨"StairRegimentModel", "isTop", "(I)Z"⟩ : MethodName), prog_13_method_99_code, 4, some .boolean, 2, 12)
def I_R_signs : MI := ((⟨"StairRegimentModel", "signs", "(I)I"⟩ : MethodName), prog_13_method_100_code, 5, some .int, 2, 12)
def I_R_joinCost : MI := ((⟨"StairRegimentModel", "joinCost", "(IIII)I"⟩ : MethodName), prog_13_method_101_code, 6, some .int, 5, 12)
def I_R_levels : MI := ((⟨"StairRegimentModel", "levels", "(II)I"⟩ : MethodName), prog_13_method_102_code, 8, some .int, 3, 12)
def I_R_joined : MI := ((⟨"StairRegimentModel", "joined", "(III)I"⟩ : MethodName), prog_13_method_103_code, 6, some .int, 4, 12)
def I_R_doorOther : MI := ((⟨"StairRegimentModel", "doorOther", "(II)I"⟩ : MethodName), prog_13_method_104_code, 3, some .int, 3, 12)
def I_R_mutinousBeside : MI := ((⟨"StairRegimentModel", "mutinousBeside", "(I)I"⟩ : MethodName), prog_13_method_105_code, 8, some .int, 2, 12)
def I_R_mutinyFrom : MI := ((⟨"StairRegimentModel", "mutinyFrom", "(II)I"⟩ : MethodName), prog_13_method_106_code, 6, some .int, 3, 12)
def I_R_spreads : MI := ((⟨"StairRegimentModel", "spreads", "(III)I"⟩ : MethodName), prog_13_method_107_code, 8, some .int, 4, 12)
def I_R_fewestBegin : MI := ((⟨"StairRegimentModel", "fewestBegin", "(I)I"⟩ : MethodName), prog_13_method_108_code, 5, some .int, 2, 12)
def I_R_mutiny : MI := ((⟨"StairRegimentModel", "mutiny", "(II)I"⟩ : MethodName), prog_13_method_109_code, 3, some .int, 3, 12)
def I_R_drill : MI := ((⟨"StairRegimentModel", "drill", "(I)Z"⟩ : MethodName), prog_13_method_110_code, 5, some .boolean, 2, 12)
def I_R_roundOf : MI := ((⟨"StairRegimentModel", "roundOf", "(I)I"⟩ : MethodName), prog_13_method_111_code, 4, some .int, 2, 12)
def I_R_common : MI := ((⟨"StairRegimentModel", "common", "(II)I"⟩ : MethodName), prog_13_method_112_code, 6, some .int, 3, 12)
def I_R_drilled : MI := ((⟨"StairRegimentModel", "drilled", "(II)I"⟩ : MethodName), prog_13_method_113_code, 6, some .int, 3, 12)
def I_R_between : MI := ((⟨"StairRegimentModel", "between", "(II)I"⟩ : MethodName), prog_13_method_114_code, 13, some .int, 3, 12)
def I_R_walksSpiral : MI := ((⟨"StairRegimentModel", "walksSpiral", "(III)I"⟩ : MethodName), prog_13_method_115_code, 8, some .int, 4, 12)
def I_R_spiral : MI := ((⟨"StairRegimentModel", "spiral", "(II)I"⟩ : MethodName), prog_13_method_116_code, 3, some .int, 3, 12)
def I_R_winds : MI := ((⟨"StairRegimentModel", "winds", "(II)I"⟩ : MethodName), prog_13_method_117_code, 3, some .int, 3, 12)
def I_R_calls : MI := ((⟨"StairRegimentModel", "calls", "(I)I"⟩ : MethodName), prog_13_method_118_code, 2, some .int, 2, 12)
def I_R_missing : MI := ((⟨"StairRegimentModel", "missing", "(I)I"⟩ : MethodName), prog_13_method_119_code, 5, some .int, 2, 12)
def I_R_length : MI := ((⟨"StairRegimentModel", "length", "(I)I"⟩ : MethodName), prog_13_method_120_code, 2, some .int, 2, 12)
def I_R_usedOf : MI := ((⟨"StairRegimentModel", "usedOf", "(I)I"⟩ : MethodName), prog_13_method_121_code, 4, some .int, 2, 12)
def I_R_findsRolls : MI := ((⟨"StairRegimentModel", "findsRolls", "(I)V"⟩ : MethodName), prog_13_method_122_code, 4, none, 2, 12)
def I_R_runner : MI := ((⟨"StairRegimentModel", "runner", "(II)I"⟩ : MethodName), prog_13_method_123_code, 6, some .int, 3, 12)
def I_R_wall : MI := ((⟨"StairRegimentModel", "wall", "(I)I"⟩ : MethodName), prog_13_method_124_code, 2, some .int, 2, 12)
def I_R_ramp : MI := ((⟨"StairRegimentModel", "ramp", "(II)I"⟩ : MethodName), prog_13_method_125_code, 4, some .int, 3, 12)
def I_R_box : MI := ((⟨"StairRegimentModel", "box", "(III)I"⟩ : MethodName), prog_13_method_126_code, 9, some .int, 4, 12)
def I_R_digit : MI := ((⟨"StairRegimentModel", "digit", "(I)I"⟩ : MethodName), prog_13_method_127_code, 2, some .int, 2, 12)
def I_R_rowsOf : MI := ((⟨"StairRegimentModel", "rowsOf", "()I"⟩ : MethodName), prog_13_method_128_code, 5, some .int, 1, 12)
def I_R_countsFrom : MI := ((⟨"StairRegimentModel", "countsFrom", "(I)V"⟩ : MethodName), prog_13_method_129_code, 3, none, 2, 12)
def I_R_rowNumber : MI := ((⟨"StairRegimentModel", "rowNumber", "()I"⟩ : MethodName), prog_13_method_130_code, 4, some .int, 1, 12)
def I_R_findsNext : MI := ((⟨"StairRegimentModel", "findsNext", "()Z"⟩ : MethodName), prog_13_method_131_code, 6, some .boolean, 1, 12)
def I_R_cellar : MI := ((⟨"StairRegimentModel", "cellar", "(I)I"⟩ : MethodName), prog_13_method_132_code, 2, some .int, 2, 12)
def I_R_coins : MI := ((⟨"StairRegimentModel", "coins", "(II)Z"⟩ : MethodName), prog_13_method_133_code, 3, some .boolean, 3, 12)
def I_R_game : MI := ((⟨"StairRegimentModel", "game", "(I)I"⟩ : MethodName), prog_13_method_134_code, 6, some .int, 2, 12)
def I_R_keeps : MI := ((⟨"StairRegimentModel", "keeps", "(I)I"⟩ : MethodName), prog_13_method_135_code, 2, some .int, 2, 12)
def I_R_keepsLaw : MI := ((⟨"StairRegimentModel", "keepsLaw", "()V"⟩ : MethodName), prog_13_method_136_code, 2, none, 1, 12)
def I_R_keepsMany : MI := ((⟨"StairRegimentModel", "keepsMany", "()V"⟩ : MethodName), prog_13_method_137_code, 1, none, 1, 12)
def I_R_keepsTold : MI := ((⟨"StairRegimentModel", "keepsTold", "()V"⟩ : MethodName), prog_13_method_138_code, 2, none, 1, 12)
def I_R_image : MI := ((⟨"StairRegimentModel", "image", "(Z)Z"⟩ : MethodName), prog_13_method_139_code, 3, some .boolean, 2, 12)
def I_R_look : MI := ((⟨"StairRegimentModel", "look", "(I)I"⟩ : MethodName), prog_13_method_140_code, 2, some .int, 2, 12)
def I_JS_coder : MI := ((⟨"java/lang/String", "coder", "()B"⟩ : MethodName), prog_16_method_152_code, 1, some .byte, 1, 77)
def I_JS_isLatin1 : MI := ((⟨"java/lang/String", "isLatin1", "()Z"⟩ : MethodName), prog_16_method_154_code, 1, some .boolean, 1, 77)
def I_JL_charAt : MI := ((⟨"java/lang/StringLatin1", "charAt", "([BI)C"⟩ : MethodName), prog_17_method_2_code, 2, some .char, 2, 0)
def I_JS_checkIndex : MI := ((⟨"java/lang/String", "checkIndex", "(II)V"⟩ : MethodName), prog_16_method_155_code, 2, none, 2, 0)
def I_JP_checkIndex : MI := ((⟨"jdk/internal/util/Preconditions", "checkIndex", "(IILjava/util/function/BiFunction;)I"⟩ : MethodName), prog_21_method_11_code, 3, some .int, 3, 0)
def mT : List MI := [I_C_forgetDeeds, I_C_state, I_C_within, I_H_isHeight, I_H_put, I_H_build, I_C_flight, I_H_has1, I_H_size, I_H_has2, I_H_mayBeSet, I_C_set, I_JM_floorMod, I_H_copyFrom, I_JM_min, I_C_keepBefore, I_H_get, I_H_raiseTo, I_G_obey, I_C_order, I_C_isVisitor, I_JM_max, I_H_isMissing, I_B_write, I_G_note, I_L_learn, I_L_part, I_L_combine, I_L_run, I_L_held, I_L_unwritten, I_L_ask, I_H_draw, I_H_raise, I_G_treadOne, I_G_tread, I_C_visit, I_N_at, I_G_dawn, I_G_passNight, I_C_nights, I_C_putBytes, I_C_feed, I_C_end, I_P_isLetter, I_JS_length, I_JS_charAt, I_P_wordIn, I_P_keyword, I_P_addToken, I_P_isDigit, I_P_valueOf, I_P_isSign, I_P_split, I_L_clear, I_P_kind, I_P_fail, I_L_isFull, I_L_beginLine, I_L_put, I_P_takeNumber, I_P_readProduct, I_P_readSum, I_L_beginWhen, I_P_take, I_P_readComparison, I_P_readCondition, I_L_endLine, I_P_readLaw, I_N_isFull, I_N_draft, I_P_readBounded, I_P_readNight, I_P_readFlight, I_P_readStep, I_P_orderOf, I_P_readOrder, I_P_readVisit, I_P_readDoor, I_P_readLines, I_L_copyFrom, I_N_copyFrom, I_C_takeText, I_C_text, I_C_fault, I_G_doorsOf, I_C_of, I_C_asked, I_C_creaks, I_C_wears, I_B_at, I_C_book, I_C_look, I_H_sum, I_H_countMissing, I_U_afterNights, I_C_goes, I_U_wouldCreak, I_U_strideCost, I_U_quietest, I_C_unheard, I_W_clear, I_W_add, I_C_suspect, I_H_hasSet, I_W_at, I_U_makesCreak, I_U_fitting, I_U_tellingStep, I_C_who, I_JA_fill, I_JI_bitCount, I_U_betterSet, I_U_leaveSet, I_C_roster, I_JM_abs, I_U_joinCost, I_U_commonHeights, I_C_joined, I_U_willOf, I_U_fewestToBegin, I_H_anyMissing, I_U_beginMutiny, I_U_urge, I_U_doorFrom, I_U_urgeThroughDoors, I_U_mutineers, I_C_mutiny, I_D_isPermutation, I_C_signer, I_D_placeOf, I_D_before, I_D_isAhead, I_D_winner, I_D_topSet, I_D_agreedCouples, I_C_signs, I_C_drill, I_D_placeBefore, I_D_roundOf, I_D_roundsOf, I_D_standsAt, I_C_drilled, I_D_isFraction, I_D_simplestBetween, I_C_between, I_D_ringStart, I_D_spiralPlace, I_C_spiral, I_D_spiralStep, I_C_winds, I_W_tell, I_C_calls, I_JI_numberOfTrailingZeros, I_D_leastUntold, I_D_onlyOdd, I_C_missing, I_C_length, I_D_weigh, I_D_fewestRolls, I_D_mostLeft, I_D_cutRolls, I_C_runner, I_C_wall, I_D_rampFoot, I_C_ramp, I_D_waysOfSide, I_D_waysThrough, I_C_box, I_C_digit, I_D_countDigits, I_D_countArranged, I_D_countRows, I_D_rankOfRow, I_D_swapNext, I_D_goToNext, I_D_nextDigit, I_C_cellar, I_C_coins, I_D_goodMove, I_C_game, I_C_undo, I_B_copyFrom, I_W_copyFrom, I_T_copyFrom, I_G_copyFrom, I_C_image, I_R_isIn, I_R_held, I_R_greater, I_R_lesser, I_R_apart, I_R_onesOf, I_R_has, I_R_keepsAhead, I_R_undo, I_R_thinks, I_R_endsThought, I_R_state, I_R_draw, I_R_isFlight, I_R_isStep, I_R_isGone, I_R_flight, I_R_set, I_R_types, I_R_feed, I_R_end, I_R_raw, I_R_isLetter, I_R_isDigit, I_R_isMarkSign, I_R_wordAt, I_R_reads, I_R_errs, I_R_isWord, I_R_isSign, I_R_emits, I_R_canAsk, I_R_readUnit, I_R_readProduct, I_R_readSum, I_R_readCompared, I_R_waits, I_R_settles, I_R_readAny, I_R_isLineWord, I_R_readLaw, I_R_takesLaw, I_R_readNumber, I_R_readMark, I_R_readTold, I_R_readStep, I_R_kindOfOrder, I_R_readOrder, I_R_readOrders, I_R_readVisit, I_R_readVisits, I_R_readDoor, I_R_readDoors, I_R_readsText, I_R_takesOther, I_R_text, I_R_fault, I_R_twoOf, I_R_runs, I_R_lineOf, I_R_asks, I_R_lawTells, I_R_creaksOf, I_R_wearsOf, I_R_risesOf, I_R_notes, I_R_isOrdered, I_R_order, I_R_isTrodden, I_R_isVisited, I_R_visit, I_R_dawns, I_R_goesBy, I_R_nights, I_R_doorsOf, I_R_of, I_R_canTread, I_R_creaks, I_R_wears, I_R_book, I_R_sumOf, I_R_goneMany, I_R_goes, I_R_doesCreak, I_R_unheard, I_R_suspect, I_R_wouldCreak, I_R_fittingSet, I_R_firstLoose, I_R_who, I_R_presentSet, I_R_isManned, I_R_roster, I_R_signer, I_R_votesFor, I_R_isBefore, I_R_isTop, I_R_signs, I_R_joinCost, I_R_levels, I_R_joined, I_R_doorOther, I_R_mutinousBeside, I_R_mutinyFrom, I_R_spreads, I_R_fewestBegin, I_R_mutiny, I_R_drill, I_R_roundOf, I_R_common, I_R_drilled, I_R_between, I_R_walksSpiral, I_R_spiral, I_R_winds, I_R_calls, I_R_missing, I_R_length, I_R_usedOf, I_R_findsRolls, I_R_runner, I_R_wall, I_R_ramp, I_R_box, I_R_digit, I_R_rowsOf, I_R_countsFrom, I_R_rowNumber, I_R_findsNext, I_R_cellar, I_R_coins, I_R_game, I_R_keeps, I_R_keepsLaw, I_R_keepsMany, I_R_keepsTold, I_R_image, I_R_look]
def mtab (k : Nat) : MI := nth I_C_forgetDeeds mT k
