def RX0 : String := "RowWalks$Acts"
def TX0 : u_T := fun k => match k with
  | 0 => ("RowWalks$Acts", "slots", "[I", true)
  | 1 => ("RowWalks$Acts", "befores", "[I", true)
  | 2 => ("RowWalks$Acts", "afters", "[I", true)
  | 3 => ("RowWalks$Acts", "shifts", "[I", true)
  | 4 => ("RowWalks$Acts", "first", "I", false)
  | 5 => ("RowWalks$Acts", "done", "I", false)
  | _ => ("RowWalks$Acts", "undone", "I", false)
def tyX0 : Nat → FieldType := fun k => match k with
  | 0 => .array .int
  | 1 => .array .int
  | 2 => .array .int
  | 3 => .array .int
  | 4 => .int
  | 5 => .int
  | _ => .int
theorem nmX0 : ∀ a, a < 7 → ∀ b, b < 7 → a ≠ b → (TX0 a).2.1 ≠ (TX0 b).2.1 := by decide +kernel
theorem tyX0_ok : ∀ k, k < 7 → parseFieldDescriptor (TX0 k).2.2.1 = some (tyX0 k) := by decide +kernel
def RX1 : String := "RowWalks$Columns"
def TX1 : u_T := fun k => match k with
  | 0 => ("RowWalks$Columns", "slots", "[I", true)
  | 1 => ("RowWalks$Columns", "rows", "I", false)
  | 2 => ("RowWalks$Columns", "count", "I", false)
  | _ => ("RowWalks$Columns", "stamp", "I", false)
def tyX1 : Nat → FieldType := fun k => match k with
  | 0 => .array .int
  | 1 => .int
  | 2 => .int
  | _ => .int
theorem nmX1 : ∀ a, a < 4 → ∀ b, b < 4 → a ≠ b → (TX1 a).2.1 ≠ (TX1 b).2.1 := by decide +kernel
theorem tyX1_ok : ∀ k, k < 4 → parseFieldDescriptor (TX1 k).2.2.1 = some (tyX1 k) := by decide +kernel
def RX2 : String := "RowWalks$Corners"
def TX2 : u_T := fun k => match k with
  | 0 => ("RowWalks$Corners", "columns", "LRowWalks$Columns;", true)
  | 1 => ("RowWalks$Corners", "cells", "[J", true)
  | 2 => ("RowWalks$Corners", "members", "[I", true)
  | 3 => ("RowWalks$Corners", "uppers", "[J", true)
  | 4 => ("RowWalks$Corners", "size", "I", false)
  | 5 => ("RowWalks$Corners", "divisor", "J", false)
  | 6 => ("RowWalks$Corners", "isKept", "Z", false)
  | 7 => ("RowWalks$Corners", "keptStamp", "I", false)
  | 8 => ("RowWalks$Corners", "corners", "I", false)
  | 9 => ("RowWalks$Corners", "endless", "Z", false)
  | 10 => ("RowWalks$Corners", "set", "I", false)
  | 11 => ("RowWalks$Corners", "upperGain", "J", false)
  | _ => ("RowWalks$Corners", "lower", "J", false)
def tyX2 : Nat → FieldType := fun k => match k with
  | 0 => .object "RowWalks$Columns"
  | 1 => .array .long
  | 2 => .array .int
  | 3 => .array .long
  | 4 => .int
  | 5 => .long
  | 6 => .boolean
  | 7 => .int
  | 8 => .int
  | 9 => .boolean
  | 10 => .int
  | 11 => .long
  | _ => .long
theorem nmX2 : ∀ a, a < 13 → ∀ b, b < 13 → a ≠ b → (TX2 a).2.1 ≠ (TX2 b).2.1 := by decide +kernel
theorem tyX2_ok : ∀ k, k < 13 → parseFieldDescriptor (TX2 k).2.2.1 = some (tyX2 k) := by decide +kernel
def RX3 : String := "RowWalks$Doubling"
def TX3 : u_T := fun k => match k with
  | 0 => ("RowWalks$Doubling", "columns", "LRowWalks$Columns;", true)
  | 1 => ("RowWalks$Doubling", "sizes", "[I", true)
  | 2 => ("RowWalks$Doubling", "low", "[I", true)
  | 3 => ("RowWalks$Doubling", "high", "[I", true)
  | 4 => ("RowWalks$Doubling", "isIn", "[I", true)
  | 5 => ("RowWalks$Doubling", "sums", "[I", true)
  | 6 => ("RowWalks$Doubling", "size", "I", false)
  | 7 => ("RowWalks$Doubling", "isKept", "Z", false)
  | 8 => ("RowWalks$Doubling", "keptStamp", "I", false)
  | 9 => ("RowWalks$Doubling", "keptL", "I", false)
  | 10 => ("RowWalks$Doubling", "keptW", "I", false)
  | _ => ("RowWalks$Doubling", "hasNeed", "Z", false)
def tyX3 : Nat → FieldType := fun k => match k with
  | 0 => .object "RowWalks$Columns"
  | 1 => .array .int
  | 2 => .array .int
  | 3 => .array .int
  | 4 => .array .int
  | 5 => .array .int
  | 6 => .int
  | 7 => .boolean
  | 8 => .int
  | 9 => .int
  | 10 => .int
  | _ => .boolean
theorem nmX3 : ∀ a, a < 12 → ∀ b, b < 12 → a ≠ b → (TX3 a).2.1 ≠ (TX3 b).2.1 := by decide +kernel
theorem tyX3_ok : ∀ k, k < 12 → parseFieldDescriptor (TX3 k).2.2.1 = some (tyX3 k) := by decide +kernel
def RX4 : String := "RowWalks$Exchange"
def TX4 : u_T := fun k => match k with
  | 0 => ("RowWalks$Exchange", "columns", "LRowWalks$Columns;", true)
  | 1 => ("RowWalks$Exchange", "starts", "[I", true)
  | 2 => ("RowWalks$Exchange", "members", "[I", true)
  | 3 => ("RowWalks$Exchange", "keys", "[I", true)
  | 4 => ("RowWalks$Exchange", "gains", "[I", true)
  | 5 => ("RowWalks$Exchange", "isKept", "Z", false)
  | 6 => ("RowWalks$Exchange", "keptStamp", "I", false)
  | 7 => ("RowWalks$Exchange", "keptR", "I", false)
  | 8 => ("RowWalks$Exchange", "gained", "I", false)
  | 9 => ("RowWalks$Exchange", "giving", "I", false)
  | 10 => ("RowWalks$Exchange", "coming", "I", false)
  | 11 => ("RowWalks$Exchange", "away", "I", false)
  | _ => ("RowWalks$Exchange", "others", "I", false)
def tyX4 : Nat → FieldType := fun k => match k with
  | 0 => .object "RowWalks$Columns"
  | 1 => .array .int
  | 2 => .array .int
  | 3 => .array .int
  | 4 => .array .int
  | 5 => .boolean
  | 6 => .int
  | 7 => .int
  | 8 => .int
  | 9 => .int
  | 10 => .int
  | 11 => .int
  | _ => .int
theorem nmX4 : ∀ a, a < 13 → ∀ b, b < 13 → a ≠ b → (TX4 a).2.1 ≠ (TX4 b).2.1 := by decide +kernel
theorem tyX4_ok : ∀ k, k < 13 → parseFieldDescriptor (TX4 k).2.2.1 = some (tyX4 k) := by decide +kernel
def RX5 : String := "RowWalks$Knowledge"
def TX5 : u_T := fun k => match k with
  | 0 => ("RowWalks$Knowledge", "told", "LRowWalks$Columns;", true)
  | 1 => ("RowWalks$Knowledge", "search", "LRowWalks$PlanSearch;", true)
  | 2 => ("RowWalks$Knowledge", "turns", "[I", true)
  | 3 => ("RowWalks$Knowledge", "toldAt", "[I", true)
  | 4 => ("RowWalks$Knowledge", "untoldAt", "[I", true)
  | 5 => ("RowWalks$Knowledge", "reached", "[I", true)
  | 6 => ("RowWalks$Knowledge", "count", "I", false)
  | 7 => ("RowWalks$Knowledge", "time", "I", false)
  | 8 => ("RowWalks$Knowledge", "askFor", "I", false)
  | _ => ("RowWalks$Knowledge", "askLeaves", "I", false)
def tyX5 : Nat → FieldType := fun k => match k with
  | 0 => .object "RowWalks$Columns"
  | 1 => .object "RowWalks$PlanSearch"
  | 2 => .array .int
  | 3 => .array .int
  | 4 => .array .int
  | 5 => .array .int
  | 6 => .int
  | 7 => .int
  | 8 => .int
  | _ => .int
theorem nmX5 : ∀ a, a < 10 → ∀ b, b < 10 → a ≠ b → (TX5 a).2.1 ≠ (TX5 b).2.1 := by decide +kernel
theorem tyX5_ok : ∀ k, k < 10 → parseFieldDescriptor (TX5 k).2.2.1 = some (tyX5 k) := by decide +kernel
def RX6 : String := "RowWalks$Optimum"
def TX6 : u_T := fun k => match k with
  | 0 => ("RowWalks$Optimum", "columns", "LRowWalks$Columns;", true)
  | 1 => ("RowWalks$Optimum", "search", "LRowWalks$PlanSearch;", true)
  | 2 => ("RowWalks$Optimum", "often", "[I", true)
  | 3 => ("RowWalks$Optimum", "strides", "[I", true)
  | 4 => ("RowWalks$Optimum", "walk", "[I", true)
  | 5 => ("RowWalks$Optimum", "sums", "[I", true)
  | 6 => ("RowWalks$Optimum", "strayFrom", "[I", true)
  | 7 => ("RowWalks$Optimum", "parts", "I", false)
  | 8 => ("RowWalks$Optimum", "isKept", "Z", false)
  | 9 => ("RowWalks$Optimum", "keptStamp", "I", false)
  | 10 => ("RowWalks$Optimum", "exists", "Z", false)
  | 11 => ("RowWalks$Optimum", "greatest", "I", false)
  | 12 => ("RowWalks$Optimum", "length", "I", false)
  | 13 => ("RowWalks$Optimum", "leastStray", "I", false)
  | _ => ("RowWalks$Optimum", "sortedStray", "I", false)
def tyX6 : Nat → FieldType := fun k => match k with
  | 0 => .object "RowWalks$Columns"
  | 1 => .object "RowWalks$PlanSearch"
  | 2 => .array .int
  | 3 => .array .int
  | 4 => .array .int
  | 5 => .array .int
  | 6 => .array .int
  | 7 => .int
  | 8 => .boolean
  | 9 => .int
  | 10 => .boolean
  | 11 => .int
  | 12 => .int
  | 13 => .int
  | _ => .int
theorem nmX6 : ∀ a, a < 15 → ∀ b, b < 15 → a ≠ b → (TX6 a).2.1 ≠ (TX6 b).2.1 := by decide +kernel
theorem tyX6_ok : ∀ k, k < 15 → parseFieldDescriptor (TX6 k).2.2.1 = some (tyX6 k) := by decide +kernel
def RX7 : String := "RowWalks$PlanSearch"
def TX7 : u_T := fun k => match k with
  | 0 => ("RowWalks$PlanSearch", "rest", "[I", true)
  | 1 => ("RowWalks$PlanSearch", "often", "[I", true)
  | 2 => ("RowWalks$PlanSearch", "bestOften", "[I", true)
  | 3 => ("RowWalks$PlanSearch", "numbers", "[I", true)
  | 4 => ("RowWalks$PlanSearch", "lowest", "[I", true)
  | 5 => ("RowWalks$PlanSearch", "highest", "[I", true)
  | 6 => ("RowWalks$PlanSearch", "columns", "LRowWalks$Columns;", false)
  | 7 => ("RowWalks$PlanSearch", "enough", "I", false)
  | 8 => ("RowWalks$PlanSearch", "found", "I", false)
  | _ => ("RowWalks$PlanSearch", "greatest", "I", false)
def tyX7 : Nat → FieldType := fun k => match k with
  | 0 => .array .int
  | 1 => .array .int
  | 2 => .array .int
  | 3 => .array .int
  | 4 => .array .int
  | 5 => .array .int
  | 6 => .object "RowWalks$Columns"
  | 7 => .int
  | 8 => .int
  | _ => .int
theorem nmX7 : ∀ a, a < 10 → ∀ b, b < 10 → a ≠ b → (TX7 a).2.1 ≠ (TX7 b).2.1 := by decide +kernel
theorem tyX7_ok : ∀ k, k < 10 → parseFieldDescriptor (TX7 k).2.2.1 = some (tyX7 k) := by decide +kernel
def RX8 : String := "RowWalks$Reader"
def TX8 : u_T := fun k => match k with
  | 0 => ("RowWalks$Reader", "tape", "LRowWalks$Tape;", true)
  | 1 => ("RowWalks$Reader", "draft", "LRowWalks$Columns;", true)
  | 2 => ("RowWalks$Reader", "nameStarts", "[I", true)
  | 3 => ("RowWalks$Reader", "nameStops", "[I", true)
  | 4 => ("RowWalks$Reader", "needTold", "Z", false)
  | 5 => ("RowWalks$Reader", "stepsTold", "Z", false)
  | 6 => ("RowWalks$Reader", "fault", "I", false)
  | _ => ("RowWalks$Reader", "place", "I", false)
def tyX8 : Nat → FieldType := fun k => match k with
  | 0 => .object "RowWalks$Tape"
  | 1 => .object "RowWalks$Columns"
  | 2 => .array .int
  | 3 => .array .int
  | 4 => .boolean
  | 5 => .boolean
  | 6 => .int
  | _ => .int
theorem nmX8 : ∀ a, a < 8 → ∀ b, b < 8 → a ≠ b → (TX8 a).2.1 ≠ (TX8 b).2.1 := by decide +kernel
theorem tyX8_ok : ∀ k, k < 8 → parseFieldDescriptor (TX8 k).2.2.1 = some (tyX8 k) := by decide +kernel
def RX9 : String := "RowWalks$Strip"
def TX9 : u_T := fun k => match k with
  | 0 => ("RowWalks$Strip", "columns", "LRowWalks$Columns;", true)
  | 1 => ("RowWalks$Strip", "low", "[I", true)
  | 2 => ("RowWalks$Strip", "high", "[I", true)
  | 3 => ("RowWalks$Strip", "at", "[I", true)
  | 4 => ("RowWalks$Strip", "side1", "I", false)
  | 5 => ("RowWalks$Strip", "side2", "I", false)
  | 6 => ("RowWalks$Strip", "room", "I", false)
  | 7 => ("RowWalks$Strip", "ways", "[J", false)
  | 8 => ("RowWalks$Strip", "most", "[I", false)
  | 9 => ("RowWalks$Strip", "list", "[I", false)
  | 10 => ("RowWalks$Strip", "choices", "[J", false)
  | 11 => ("RowWalks$Strip", "keptT", "I", false)
  | 12 => ("RowWalks$Strip", "keptW", "I", false)
  | 13 => ("RowWalks$Strip", "keptStamp", "I", false)
  | 14 => ("RowWalks$Strip", "states", "I", false)
  | 15 => ("RowWalks$Strip", "leading", "J", false)
  | _ => ("RowWalks$Strip", "greatest", "I", false)
def tyX9 : Nat → FieldType := fun k => match k with
  | 0 => .object "RowWalks$Columns"
  | 1 => .array .int
  | 2 => .array .int
  | 3 => .array .int
  | 4 => .int
  | 5 => .int
  | 6 => .int
  | 7 => .array .long
  | 8 => .array .int
  | 9 => .array .int
  | 10 => .array .long
  | 11 => .int
  | 12 => .int
  | 13 => .int
  | 14 => .int
  | 15 => .long
  | _ => .int
theorem nmX9 : ∀ a, a < 17 → ∀ b, b < 17 → a ≠ b → (TX9 a).2.1 ≠ (TX9 b).2.1 := by decide +kernel
theorem tyX9_ok : ∀ k, k < 17 → parseFieldDescriptor (TX9 k).2.2.1 = some (tyX9 k) := by decide +kernel
def RX10 : String := "RowWalks$Tape"
def TX10 : u_T := fun k => match k with
  | 0 => ("RowWalks$Tape", "bytes", "[I", true)
  | 1 => ("RowWalks$Tape", "length", "I", false)
  | 2 => ("RowWalks$Tape", "kind", "I", false)
  | 3 => ("RowWalks$Tape", "start", "I", false)
  | _ => ("RowWalks$Tape", "stop", "I", false)
def tyX10 : Nat → FieldType := fun k => match k with
  | 0 => .array .int
  | 1 => .int
  | 2 => .int
  | 3 => .int
  | _ => .int
theorem nmX10 : ∀ a, a < 5 → ∀ b, b < 5 → a ≠ b → (TX10 a).2.1 ≠ (TX10 b).2.1 := by decide +kernel
theorem tyX10_ok : ∀ k, k < 5 → parseFieldDescriptor (TX10 k).2.2.1 = some (tyX10 k) := by decide +kernel
def RX11 : String := "RowWalks"
def TX11 : u_T := fun k => match k with
  | 0 => ("RowWalks", "tape", "LRowWalks$Tape;", true)
  | 1 => ("RowWalks", "told", "LRowWalks$Columns;", true)
  | 2 => ("RowWalks", "now", "LRowWalks$Columns;", true)
  | 3 => ("RowWalks", "reader", "LRowWalks$Reader;", true)
  | 4 => ("RowWalks", "boxes", "[LRowWalks$Columns;", true)
  | 5 => ("RowWalks", "filled", "[Z", true)
  | 6 => ("RowWalks", "acts", "LRowWalks$Acts;", true)
  | 7 => ("RowWalks", "search", "LRowWalks$PlanSearch;", true)
  | 8 => ("RowWalks", "band", "LRowWalks$Strip;", true)
  | 9 => ("RowWalks", "top", "LRowWalks$Optimum;", true)
  | 10 => ("RowWalks", "fractions", "LRowWalks$Corners;", true)
  | 11 => ("RowWalks", "trade", "LRowWalks$Exchange;", true)
  | 12 => ("RowWalks", "doubling", "LRowWalks$Doubling;", true)
  | 13 => ("RowWalks", "known", "LRowWalks$Knowledge;", true)
  | _ => ("RowWalks", "sums", "[I", true)
def tyX11 : Nat → FieldType := fun k => match k with
  | 0 => .object "RowWalks$Tape"
  | 1 => .object "RowWalks$Columns"
  | 2 => .object "RowWalks$Columns"
  | 3 => .object "RowWalks$Reader"
  | 4 => .array (.object "RowWalks$Columns")
  | 5 => .array .boolean
  | 6 => .object "RowWalks$Acts"
  | 7 => .object "RowWalks$PlanSearch"
  | 8 => .object "RowWalks$Strip"
  | 9 => .object "RowWalks$Optimum"
  | 10 => .object "RowWalks$Corners"
  | 11 => .object "RowWalks$Exchange"
  | 12 => .object "RowWalks$Doubling"
  | 13 => .object "RowWalks$Knowledge"
  | _ => .array .int
theorem nmX11 : ∀ a, a < 15 → ∀ b, b < 15 → a ≠ b → (TX11 a).2.1 ≠ (TX11 b).2.1 := by decide +kernel
theorem tyX11_ok : ∀ k, k < 15 → parseFieldDescriptor (TX11 k).2.2.1 = some (tyX11 k) := by decide +kernel
def RX12 : String := "RowWalksModel"
def TX12 : u_T := fun k => match k with
  | 0 => ("RowWalksModel", "tape", "[I", true)
  | 1 => ("RowWalksModel", "taped", "I", false)
  | 2 => ("RowWalksModel", "size", "I", false)
  | 3 => ("RowWalksModel", "at", "I", false)
  | 4 => ("RowWalksModel", "place", "I", false)
  | 5 => ("RowWalksModel", "sort", "I", false)
  | 6 => ("RowWalksModel", "value", "I", false)
  | 7 => ("RowWalksModel", "fault", "I", false)
  | 8 => ("RowWalksModel", "faultPlace", "I", false)
  | 9 => ("RowWalksModel", "toldFault", "I", false)
  | 10 => ("RowWalksModel", "toldPlace", "I", false)
  | 11 => ("RowWalksModel", "word", "J", false)
  | 12 => ("RowWalksModel", "told", "[I", true)
  | 13 => ("RowWalksModel", "toldNow", "[I", true)
  | 14 => ("RowWalksModel", "names", "[J", true)
  | 15 => ("RowWalksModel", "readRows", "I", false)
  | 16 => ("RowWalksModel", "readColumns", "I", false)
  | 17 => ("RowWalksModel", "rows", "I", false)
  | 18 => ("RowWalksModel", "columns", "I", false)
  | 19 => ("RowWalksModel", "hasLine", "Z", false)
  | 20 => ("RowWalksModel", "hasNeed", "Z", false)
  | 21 => ("RowWalksModel", "hasSteps", "Z", false)
  | 22 => ("RowWalksModel", "now", "[I", true)
  | 23 => ("RowWalksModel", "past", "[I", true)
  | 24 => ("RowWalksModel", "acts", "I", false)
  | 25 => ("RowWalksModel", "undone", "I", false)
  | 26 => ("RowWalksModel", "plan", "[I", true)
  | 27 => ("RowWalksModel", "best", "[I", true)
  | 28 => ("RowWalksModel", "bestGain", "I", false)
  | 29 => ("RowWalksModel", "bestSteps", "I", false)
  | 30 => ("RowWalksModel", "straysFrom", "[I", true)
  | 31 => ("RowWalksModel", "weight", "[I", true)
  | 32 => ("RowWalksModel", "sums", "[I", true)
  | 33 => ("RowWalksModel", "key", "[I", true)
  | 34 => ("RowWalksModel", "rest", "[I", true)
  | 35 => ("RowWalksModel", "layer", "[I", true)
  | 36 => ("RowWalksModel", "found", "[I", true)
  | 37 => ("RowWalksModel", "ways", "[J", true)
  | 38 => ("RowWalksModel", "states", "I", false)
  | 39 => ("RowWalksModel", "laidT", "I", false)
  | 40 => ("RowWalksModel", "laidW", "I", false)
  | 41 => ("RowWalksModel", "isLaid", "Z", false)
  | 42 => ("RowWalksModel", "levelSums", "[I", true)
  | 43 => ("RowWalksModel", "levelFrom", "[I", true)
  | 44 => ("RowWalksModel", "levelEnd", "I", false)
  | 45 => ("RowWalksModel", "grid", "[J", true)
  | 46 => ("RowWalksModel", "upper", "[J", true)
  | 47 => ("RowWalksModel", "lower", "[J", true)
  | 48 => ("RowWalksModel", "cornerUpper", "[J", true)
  | 49 => ("RowWalksModel", "cornerLower", "[J", true)
  | 50 => ("RowWalksModel", "chosen", "[I", true)
  | 51 => ("RowWalksModel", "aim", "[I", true)
  | 52 => ("RowWalksModel", "sumUpper", "J", false)
  | 53 => ("RowWalksModel", "sumLower", "J", false)
  | 54 => ("RowWalksModel", "bestUpper", "J", false)
  | 55 => ("RowWalksModel", "bestLower", "J", false)
  | 56 => ("RowWalksModel", "bestSet", "I", false)
  | 57 => ("RowWalksModel", "isEndless", "Z", false)
  | 58 => ("RowWalksModel", "cornerMany", "I", false)
  | 59 => ("RowWalksModel", "gone", "[I", true)
  | 60 => ("RowWalksModel", "out", "[I", true)
  | 61 => ("RowWalksModel", "in", "[I", true)
  | 62 => ("RowWalksModel", "goneSum", "[I", true)
  | 63 => ("RowWalksModel", "exchangeGain", "I", false)
  | 64 => ("RowWalksModel", "outMany", "I", false)
  | 65 => ("RowWalksModel", "inMany", "I", false)
  | 66 => ("RowWalksModel", "drawnStray", "I", false)
  | 67 => ("RowWalksModel", "drawnGain", "I", false)
  | 68 => ("RowWalksModel", "seenSteps", "[I", true)
  | 69 => ("RowWalksModel", "seenSum", "[I", true)
  | 70 => ("RowWalksModel", "seenIs", "[I", true)
  | 71 => ("RowWalksModel", "toldAt", "[I", true)
  | 72 => ("RowWalksModel", "untoldAt", "[I", true)
  | 73 => ("RowWalksModel", "seens", "I", false)
  | 74 => ("RowWalksModel", "time", "I", false)
  | 75 => ("RowWalksModel", "isFit", "[Z", true)
  | 76 => ("RowWalksModel", "hasFirst", "[Z", true)
  | 77 => ("RowWalksModel", "boxes", "[I", true)
  | _ => ("RowWalksModel", "isKept", "[Z", true)
def tyX12 : Nat → FieldType := fun k => match k with
  | 0 => .array .int
  | 1 => .int
  | 2 => .int
  | 3 => .int
  | 4 => .int
  | 5 => .int
  | 6 => .int
  | 7 => .int
  | 8 => .int
  | 9 => .int
  | 10 => .int
  | 11 => .long
  | 12 => .array .int
  | 13 => .array .int
  | 14 => .array .long
  | 15 => .int
  | 16 => .int
  | 17 => .int
  | 18 => .int
  | 19 => .boolean
  | 20 => .boolean
  | 21 => .boolean
  | 22 => .array .int
  | 23 => .array .int
  | 24 => .int
  | 25 => .int
  | 26 => .array .int
  | 27 => .array .int
  | 28 => .int
  | 29 => .int
  | 30 => .array .int
  | 31 => .array .int
  | 32 => .array .int
  | 33 => .array .int
  | 34 => .array .int
  | 35 => .array .int
  | 36 => .array .int
  | 37 => .array .long
  | 38 => .int
  | 39 => .int
  | 40 => .int
  | 41 => .boolean
  | 42 => .array .int
  | 43 => .array .int
  | 44 => .int
  | 45 => .array .long
  | 46 => .array .long
  | 47 => .array .long
  | 48 => .array .long
  | 49 => .array .long
  | 50 => .array .int
  | 51 => .array .int
  | 52 => .long
  | 53 => .long
  | 54 => .long
  | 55 => .long
  | 56 => .int
  | 57 => .boolean
  | 58 => .int
  | 59 => .array .int
  | 60 => .array .int
  | 61 => .array .int
  | 62 => .array .int
  | 63 => .int
  | 64 => .int
  | 65 => .int
  | 66 => .int
  | 67 => .int
  | 68 => .array .int
  | 69 => .array .int
  | 70 => .array .int
  | 71 => .array .int
  | 72 => .array .int
  | 73 => .int
  | 74 => .int
  | 75 => .array .boolean
  | 76 => .array .boolean
  | 77 => .array .int
  | _ => .array .boolean
theorem nmX12 : ∀ a, a < 79 → ∀ b, b < 79 → a ≠ b → (TX12 a).2.1 ≠ (TX12 b).2.1 := by decide +kernel
theorem tyX12_ok : ∀ k, k < 79 → parseFieldDescriptor (TX12 k).2.2.1 = some (tyX12 k) := by decide +kernel
/-- the words that every method carries: those of the tables that stay -/
def TB : List Cond := lw_tbl.filter goodWord
theorem TB_good : ∀ w ∈ TB, (w.onTables && w.keeps) = true ∨ ∃ ty, w = .arrayClass ty := fun w hw => good_of_word (List.mem_filter.mp hw).2
theorem inTB {w : Cond} (i : Nat) (h : lw_tbl[i]? = some w) (g : goodWord w = true) : w ∈ TB := List.mem_filter.mpr ⟨List.mem_of_getElem? h, g⟩
theorem mem_pos {ws : List Cond} (ps : List Nat) (hp : ws = ps.filterMap (fun i => lw_tbl[i]?)) (hg : ws.all goodWord = true) : ∀ w ∈ ws, w ∈ TB := by
  intro w hw
  have g := List.all_eq_true.mp hg w hw
  rw [hp] at hw
  obtain ⟨i, -, hi⟩ := List.mem_filterMap.mp hw
  exact inTB i hi g
abbrev clsT : List vw_C := [(RX0, TX0, 7), (RX1, TX1, 4), (RX2, TX2, 13), (RX3, TX3, 12), (RX4, TX4, 13), (RX5, TX5, 10), (RX6, TX6, 15), (RX7, TX7, 10), (RX8, TX8, 8), (RX9, TX9, 17), (RX10, TX10, 5), (RX11, TX11, 15), (RX12, TX12, 79)]
def tyT (ci k : Nat) : FieldType := match ci with
  | 0 => tyX0 k
  | 1 => tyX1 k
  | 2 => tyX2 k
  | 3 => tyX3 k
  | 4 => tyX4 k
  | 5 => tyX5 k
  | 6 => tyX6 k
  | 7 => tyX7 k
  | 8 => tyX8 k
  | 9 => tyX9 k
  | 10 => tyX10 k
  | 11 => tyX11 k
  | _ => tyX12 k
/-- what is known of a class: its row, its words, its types, its fields' names -/
def clsOK (ci : Nat) (C : String) (T : u_T) (N : Nat) : Prop := clsT[ci]? = some (C, T, N) ∧ (∀ w ∈ u_ws C T N, w ∈ TB) ∧ (∀ k, k < N → parseFieldDescriptor (T k).2.2.1 = some (tyT ci k)) ∧ (∀ a, a < N → ∀ b, b < N → a ≠ b → (T a).2.1 ≠ (T b).2.1)
set_option maxRecDepth 20000 in
theorem ok_0 : clsOK 0 RX0 TX0 7 := ⟨rfl, mem_pos [288, 290, 292, 294, 296, 298, 300] (by decide +kernel) (by decide +kernel), tyX0_ok, nmX0⟩
set_option maxRecDepth 20000 in
theorem ok_1 : clsOK 1 RX1 TX1 4 := ⟨rfl, mem_pos [227, 229, 231, 233] (by decide +kernel) (by decide +kernel), tyX1_ok, nmX1⟩
set_option maxRecDepth 20000 in
theorem ok_2 : clsOK 2 RX2 TX2 13 := ⟨rfl, mem_pos [488, 490, 492, 494, 496, 498, 500, 502, 504, 506, 508, 510, 512] (by decide +kernel) (by decide +kernel), tyX2_ok, nmX2⟩
set_option maxRecDepth 20000 in
theorem ok_3 : clsOK 3 RX3 TX3 12 := ⟨rfl, mem_pos [583, 585, 587, 589, 591, 593, 595, 597, 599, 601, 603, 605] (by decide +kernel) (by decide +kernel), tyX3_ok, nmX3⟩
set_option maxRecDepth 20000 in
theorem ok_4 : clsOK 4 RX4 TX4 13 := ⟨rfl, mem_pos [537, 539, 541, 543, 545, 547, 549, 551, 553, 555, 557, 559, 561] (by decide +kernel) (by decide +kernel), tyX4_ok, nmX4⟩
set_option maxRecDepth 20000 in
theorem ok_5 : clsOK 5 RX5 TX5 10 := ⟨rfl, mem_pos [628, 630, 632, 634, 636, 638, 640, 642, 644, 646] (by decide +kernel) (by decide +kernel), tyX5_ok, nmX5⟩
set_option maxRecDepth 20000 in
theorem ok_6 : clsOK 6 RX6 TX6 15 := ⟨rfl, mem_pos [433, 435, 437, 439, 441, 443, 445, 447, 449, 451, 453, 455, 457, 459, 461] (by decide +kernel) (by decide +kernel), tyX6_ok, nmX6⟩
set_option maxRecDepth 20000 in
theorem ok_7 : clsOK 7 RX7 TX7 10 := ⟨rfl, mem_pos [325, 327, 329, 331, 333, 335, 337, 339, 341, 343] (by decide +kernel) (by decide +kernel), tyX7_ok, nmX7⟩
set_option maxRecDepth 20000 in
theorem ok_8 : clsOK 8 RX8 TX8 8 := ⟨rfl, mem_pos [255, 257, 259, 261, 263, 265, 267, 269] (by decide +kernel) (by decide +kernel), tyX8_ok, nmX8⟩
set_option maxRecDepth 20000 in
theorem ok_9 : clsOK 9 RX9 TX9 17 := ⟨rfl, mem_pos [372, 374, 376, 378, 380, 382, 384, 386, 388, 390, 392, 394, 396, 398, 400, 402, 404] (by decide +kernel) (by decide +kernel), tyX9_ok, nmX9⟩
set_option maxRecDepth 20000 in
theorem ok_10 : clsOK 10 RX10 TX10 5 := ⟨rfl, mem_pos [187, 189, 191, 193, 195] (by decide +kernel) (by decide +kernel), tyX10_ok, nmX10⟩
set_option maxRecDepth 20000 in
theorem ok_11 : clsOK 11 RX11 TX11 15 := ⟨rfl, mem_pos [664, 666, 668, 670, 672, 674, 676, 678, 680, 682, 684, 686, 688, 690, 692] (by decide +kernel) (by decide +kernel), tyX11_ok, nmX11⟩
set_option maxRecDepth 20000 in
theorem ok_12 : clsOK 12 RX12 TX12 79 := ⟨rfl, mem_pos [1604, 1606, 1608, 1610, 1612, 1614, 1616, 1618, 1620, 1622, 1624, 1626, 1628, 1630, 1632, 1634, 1636, 1638, 1640, 1642, 1644, 1646, 1648, 1650, 1652, 1654, 1656, 1658, 1660, 1662, 1664, 1666, 1668, 1670, 1672, 1674, 1676, 1678, 1680, 1682, 1684, 1686, 1688, 1690, 1692, 1694, 1696, 1698, 1700, 1702, 1704, 1706, 1708, 1710, 1712, 1714, 1716, 1718, 1720, 1722, 1724, 1726, 1728, 1730, 1732, 1734, 1736, 1738, 1740, 1742, 1744, 1746, 1748, 1750, 1752, 1754, 1756, 1758, 1760] (by decide +kernel) (by decide +kernel), tyX12_ok, nmX12⟩
abbrev MI : Type := MethodName × ByteArray × Nat × Option FieldType
