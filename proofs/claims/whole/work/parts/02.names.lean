def RX0 : String := "SignSquares$Arranger"
def TX0 : u_T := fun k => match k with
  | 0 => ("SignSquares$Arranger", "kind", "[I", true)
  | 1 => ("SignSquares$Arranger", "first", "[I", true)
  | 2 => ("SignSquares$Arranger", "second", "[I", true)
  | 3 => ("SignSquares$Arranger", "wide", "[I", true)
  | 4 => ("SignSquares$Arranger", "high", "[I", true)
  | 5 => ("SignSquares$Arranger", "digits", "[I", true)
  | 6 => ("SignSquares$Arranger", "text", "[J", true)
  | 7 => ("SignSquares$Arranger", "forms", "I", false)
  | 8 => ("SignSquares$Arranger", "spanFrom", "[I", true)
  | 9 => ("SignSquares$Arranger", "spanTo", "[I", true)
  | 10 => ("SignSquares$Arranger", "known", "LSignSquares$Square;", false)
  | 11 => ("SignSquares$Arranger", "knownSide", "I", false)
  | 12 => ("SignSquares$Arranger", "knownGap", "I", false)
  | _ => ("SignSquares$Arranger", "found", "LSignSquares$Square;", false)
def tyX0 : Nat → FieldType := fun k => match k with
  | 0 => .array .int
  | 1 => .array .int
  | 2 => .array .int
  | 3 => .array .int
  | 4 => .array .int
  | 5 => .array .int
  | 6 => .array .long
  | 7 => .int
  | 8 => .array .int
  | 9 => .array .int
  | 10 => .object "SignSquares$Square"
  | 11 => .int
  | 12 => .int
  | _ => .object "SignSquares$Square"
theorem nmX0 : ∀ a, a < 14 → ∀ b, b < 14 → a ≠ b → (TX0 a).2.1 ≠ (TX0 b).2.1 := by decide +kernel
theorem tyX0_ok : ∀ k, k < 14 → parseFieldDescriptor (TX0 k).2.2.1 = some (tyX0 k) := by decide +kernel
def RX1 : String := "SignSquares$Draft"
def TX1 : u_T := fun k => match k with
  | 0 => ("SignSquares$Draft", "code", "[B", true)
  | _ => ("SignSquares$Draft", "length", "I", false)
def tyX1 : Nat → FieldType := fun k => match k with
  | 0 => .array .byte
  | _ => .int
theorem nmX1 : ∀ a, a < 2 → ∀ b, b < 2 → a ≠ b → (TX1 a).2.1 ≠ (TX1 b).2.1 := by decide +kernel
theorem tyX1_ok : ∀ k, k < 2 → parseFieldDescriptor (TX1 k).2.2.1 = some (tyX1 k) := by decide +kernel
def RX2 : String := "SignSquares$Layout"
def TX2 : u_T := fun k => match k with
  | 0 => ("SignSquares$Layout", "end", "[I", true)
  | 1 => ("SignSquares$Layout", "wide", "[I", true)
  | 2 => ("SignSquares$Layout", "high", "[I", true)
  | 3 => ("SignSquares$Layout", "scale", "[J", true)
  | 4 => ("SignSquares$Layout", "divisor", "[J", true)
  | 5 => ("SignSquares$Layout", "middleX", "[J", true)
  | 6 => ("SignSquares$Layout", "middleY", "[J", true)
  | _ => ("SignSquares$Layout", "length", "I", false)
def tyX2 : Nat → FieldType := fun k => match k with
  | 0 => .array .int
  | 1 => .array .int
  | 2 => .array .int
  | 3 => .array .long
  | 4 => .array .long
  | 5 => .array .long
  | 6 => .array .long
  | _ => .int
theorem nmX2 : ∀ a, a < 8 → ∀ b, b < 8 → a ≠ b → (TX2 a).2.1 ≠ (TX2 b).2.1 := by decide +kernel
theorem tyX2_ok : ∀ k, k < 8 → parseFieldDescriptor (TX2 k).2.2.1 = some (tyX2 k) := by decide +kernel
def RX3 : String := "SignSquares$Line"
def TX3 : u_T := fun k => match k with
  | 0 => ("SignSquares$Line", "squares", "[LSignSquares$Square;", true)
  | _ => ("SignSquares$Line", "left", "Z", true)
def tyX3 : Nat → FieldType := fun k => match k with
  | 0 => .array (.object "SignSquares$Square")
  | _ => .boolean
theorem nmX3 : ∀ a, a < 2 → ∀ b, b < 2 → a ≠ b → (TX3 a).2.1 ≠ (TX3 b).2.1 := by decide +kernel
theorem tyX3_ok : ∀ k, k < 2 → parseFieldDescriptor (TX3 k).2.2.1 = some (tyX3 k) := by decide +kernel
def RX4 : String := "SignSquares$Moment"
def TX4 : u_T := fun k => match k with
  | 0 => ("SignSquares$Moment", "lines", "[LSignSquares$Line;", true)
  | 1 => ("SignSquares$Moment", "side", "I", true)
  | _ => ("SignSquares$Moment", "gap", "I", true)
def tyX4 : Nat → FieldType := fun k => match k with
  | 0 => .array (.object "SignSquares$Line")
  | 1 => .int
  | _ => .int
theorem nmX4 : ∀ a, a < 3 → ∀ b, b < 3 → a ≠ b → (TX4 a).2.1 ≠ (TX4 b).2.1 := by decide +kernel
theorem tyX4_ok : ∀ k, k < 3 → parseFieldDescriptor (TX4 k).2.2.1 = some (tyX4 k) := by decide +kernel
def RX5 : String := "SignSquares$Reader"
def TX5 : u_T := fun k => match k with
  | 0 => ("SignSquares$Reader", "tape", "[B", true)
  | 1 => ("SignSquares$Reader", "taped", "I", false)
  | 2 => ("SignSquares$Reader", "draft", "LSignSquares$Draft;", true)
  | 3 => ("SignSquares$Reader", "squaresRead", "[LSignSquares$Square;", true)
  | 4 => ("SignSquares$Reader", "linesRead", "[LSignSquares$Line;", true)
  | 5 => ("SignSquares$Reader", "length", "I", false)
  | 6 => ("SignSquares$Reader", "at", "I", false)
  | 7 => ("SignSquares$Reader", "table", "LSignSquares$Table;", false)
  | 8 => ("SignSquares$Reader", "lines", "I", false)
  | 9 => ("SignSquares$Reader", "side", "I", false)
  | 10 => ("SignSquares$Reader", "gap", "I", false)
  | _ => ("SignSquares$Reader", "signs", "I", false)
def tyX5 : Nat → FieldType := fun k => match k with
  | 0 => .array .byte
  | 1 => .int
  | 2 => .object "SignSquares$Draft"
  | 3 => .array (.object "SignSquares$Square")
  | 4 => .array (.object "SignSquares$Line")
  | 5 => .int
  | 6 => .int
  | 7 => .object "SignSquares$Table"
  | 8 => .int
  | 9 => .int
  | 10 => .int
  | _ => .int
theorem nmX5 : ∀ a, a < 12 → ∀ b, b < 12 → a ≠ b → (TX5 a).2.1 ≠ (TX5 b).2.1 := by decide +kernel
theorem tyX5_ok : ∀ k, k < 12 → parseFieldDescriptor (TX5 k).2.2.1 = some (tyX5 k) := by decide +kernel
def RX6 : String := "SignSquares$Speller"
def TX6 : u_T := fun k => match k with
  | 0 => ("SignSquares$Speller", "wanted", "I", false)
  | 1 => ("SignSquares$Speller", "found", "I", false)
  | 2 => ("SignSquares$Speller", "length", "I", false)
  | 3 => ("SignSquares$Speller", "behindWord", "Z", false)
  | 4 => ("SignSquares$Speller", "brackets", "I", false)
  | 5 => ("SignSquares$Speller", "open", "I", false)
  | 6 => ("SignSquares$Speller", "deepest", "I", false)
  | 7 => ("SignSquares$Speller", "coresOpen", "I", false)
  | _ => ("SignSquares$Speller", "deepestCores", "I", false)
def tyX6 : Nat → FieldType := fun k => match k with
  | 0 => .int
  | 1 => .int
  | 2 => .int
  | 3 => .boolean
  | 4 => .int
  | 5 => .int
  | 6 => .int
  | 7 => .int
  | _ => .int
theorem nmX6 : ∀ a, a < 9 → ∀ b, b < 9 → a ≠ b → (TX6 a).2.1 ≠ (TX6 b).2.1 := by decide +kernel
theorem tyX6_ok : ∀ k, k < 9 → parseFieldDescriptor (TX6 k).2.2.1 = some (tyX6 k) := by decide +kernel
def RX7 : String := "SignSquares$Square"
def TX7 : u_T := fun k => match k with
  | _ => ("SignSquares$Square", "code", "[B", true)
def tyX7 : Nat → FieldType := fun k => match k with
  | _ => .array .byte
theorem nmX7 : ∀ a, a < 1 → ∀ b, b < 1 → a ≠ b → (TX7 a).2.1 ≠ (TX7 b).2.1 := by decide +kernel
theorem tyX7_ok : ∀ k, k < 1 → parseFieldDescriptor (TX7 k).2.2.1 = some (tyX7 k) := by decide +kernel
def RX8 : String := "SignSquares$Table"
def TX8 : u_T := fun k => match k with
  | 0 => ("SignSquares$Table", "wide", "[B", true)
  | 1 => ("SignSquares$Table", "high", "[B", true)
  | 2 => ("SignSquares$Table", "coreWide", "[B", true)
  | _ => ("SignSquares$Table", "coreHigh", "[B", true)
def tyX8 : Nat → FieldType := fun k => match k with
  | 0 => .array .byte
  | 1 => .array .byte
  | 2 => .array .byte
  | _ => .array .byte
theorem nmX8 : ∀ a, a < 4 → ∀ b, b < 4 → a ≠ b → (TX8 a).2.1 ≠ (TX8 b).2.1 := by decide +kernel
theorem tyX8_ok : ∀ k, k < 4 → parseFieldDescriptor (TX8 k).2.2.1 = some (tyX8 k) := by decide +kernel
def RX9 : String := "SignSquares"
def TX9 : u_T := fun k => match k with
  | 0 => ("SignSquares", "table", "LSignSquares$Table;", false)
  | 1 => ("SignSquares", "now", "LSignSquares$Moment;", false)
  | 2 => ("SignSquares", "past", "[LSignSquares$Moment;", true)
  | 3 => ("SignSquares", "acts", "I", false)
  | 4 => ("SignSquares", "draft", "LSignSquares$Draft;", true)
  | 5 => ("SignSquares", "reader", "LSignSquares$Reader;", true)
  | 6 => ("SignSquares", "layout", "LSignSquares$Layout;", true)
  | 7 => ("SignSquares", "speller", "LSignSquares$Speller;", true)
  | _ => ("SignSquares", "arranger", "LSignSquares$Arranger;", true)
def tyX9 : Nat → FieldType := fun k => match k with
  | 0 => .object "SignSquares$Table"
  | 1 => .object "SignSquares$Moment"
  | 2 => .array (.object "SignSquares$Moment")
  | 3 => .int
  | 4 => .object "SignSquares$Draft"
  | 5 => .object "SignSquares$Reader"
  | 6 => .object "SignSquares$Layout"
  | 7 => .object "SignSquares$Speller"
  | _ => .object "SignSquares$Arranger"
theorem nmX9 : ∀ a, a < 9 → ∀ b, b < 9 → a ≠ b → (TX9 a).2.1 ≠ (TX9 b).2.1 := by decide +kernel
theorem tyX9_ok : ∀ k, k < 9 → parseFieldDescriptor (TX9 k).2.2.1 = some (tyX9 k) := by decide +kernel
def RX10 : String := "SignSquaresModel"
def TX10 : u_T := fun k => match k with
  | 0 => ("SignSquaresModel", "thrown", "I", false)
  | 1 => ("SignSquaresModel", "wide", "[I", true)
  | 2 => ("SignSquaresModel", "high", "[I", true)
  | 3 => ("SignSquaresModel", "coreWide", "[I", true)
  | 4 => ("SignSquaresModel", "coreHigh", "[I", true)
  | 5 => ("SignSquaresModel", "now", "[I", true)
  | 6 => ("SignSquaresModel", "read", "[I", true)
  | 7 => ("SignSquaresModel", "before", "[I", true)
  | 8 => ("SignSquaresModel", "acts", "I", false)
  | 9 => ("SignSquaresModel", "row", "[I", true)
  | 10 => ("SignSquaresModel", "size", "I", false)
  | 11 => ("SignSquaresModel", "own", "[I", true)
  | 12 => ("SignSquaresModel", "ownSize", "I", false)
  | 13 => ("SignSquaresModel", "sizeWide", "[I", true)
  | 14 => ("SignSquaresModel", "sizeHigh", "[I", true)
  | 15 => ("SignSquaresModel", "endAt", "[I", true)
  | 16 => ("SignSquaresModel", "up", "J", false)
  | 17 => ("SignSquaresModel", "down", "J", false)
  | 18 => ("SignSquaresModel", "scaleUp", "[J", true)
  | 19 => ("SignSquaresModel", "scaleDown", "[J", true)
  | 20 => ("SignSquaresModel", "leftUp", "[J", true)
  | 21 => ("SignSquaresModel", "leftDown", "[J", true)
  | 22 => ("SignSquaresModel", "topUp", "[J", true)
  | 23 => ("SignSquaresModel", "topDown", "[J", true)
  | 24 => ("SignSquaresModel", "groupAt", "[I", true)
  | 25 => ("SignSquaresModel", "alongAt", "[I", true)
  | 26 => ("SignSquaresModel", "downAt", "[I", true)
  | 27 => ("SignSquaresModel", "groups", "I", false)
  | 28 => ("SignSquaresModel", "text", "[I", true)
  | 29 => ("SignSquaresModel", "textMany", "I", false)
  | 30 => ("SignSquaresModel", "between", "[I", true)
  | 31 => ("SignSquaresModel", "toCome", "[I", true)
  | 32 => ("SignSquaresModel", "closes", "[I", true)
  | 33 => ("SignSquaresModel", "hasOne", "[Z", true)
  | 34 => ("SignSquaresModel", "forms", "[I", true)
  | 35 => ("SignSquaresModel", "formMany", "[I", true)
  | 36 => ("SignSquaresModel", "formFrom", "[I", true)
  | 37 => ("SignSquaresModel", "base", "[I", true)
  | 38 => ("SignSquaresModel", "itemFrom", "[I", true)
  | 39 => ("SignSquaresModel", "items", "I", false)
  | 40 => ("SignSquaresModel", "bestRow", "[I", true)
  | 41 => ("SignSquaresModel", "bestSize", "I", false)
  | 42 => ("SignSquaresModel", "bestGreatest", "I", false)
  | 43 => ("SignSquaresModel", "bestBrackets", "I", false)
  | 44 => ("SignSquaresModel", "bestText0", "[I", true)
  | 45 => ("SignSquaresModel", "bestMany", "I", false)
  | 46 => ("SignSquaresModel", "tape", "[I", true)
  | 47 => ("SignSquaresModel", "taped", "I", false)
  | 48 => ("SignSquaresModel", "words", "[B", true)
  | 49 => ("SignSquaresModel", "at", "I", false)
  | 50 => ("SignSquaresModel", "token", "I", false)
  | 51 => ("SignSquaresModel", "begun", "I", false)
  | 52 => ("SignSquaresModel", "number", "I", false)
  | 53 => ("SignSquaresModel", "wrong", "Z", false)
  | 54 => ("SignSquaresModel", "readWide", "[I", true)
  | 55 => ("SignSquaresModel", "readHigh", "[I", true)
  | 56 => ("SignSquaresModel", "readCoreWide", "[I", true)
  | 57 => ("SignSquaresModel", "readCoreHigh", "[I", true)
  | 58 => ("SignSquaresModel", "readSigns", "I", false)
  | 59 => ("SignSquaresModel", "sort", "[I", true)
  | 60 => ("SignSquaresModel", "letterIs", "[I", true)
  | 61 => ("SignSquaresModel", "insideIs", "[I", true)
  | 62 => ("SignSquaresModel", "firstIs", "[I", true)
  | 63 => ("SignSquaresModel", "lastIs", "[I", true)
  | 64 => ("SignSquaresModel", "nextIs", "[I", true)
  | 65 => ("SignSquaresModel", "manyIs", "[I", true)
  | 66 => ("SignSquaresModel", "nodes", "I", false)
  | 67 => ("SignSquaresModel", "allRows", "[I", true)
  | 68 => ("SignSquaresModel", "rowNow", "[I", true)
  | 69 => ("SignSquaresModel", "ownerOf", "[I", true)
  | 70 => ("SignSquaresModel", "open", "I", false)
  | 71 => ("SignSquaresModel", "within", "I", false)
  | 72 => ("SignSquaresModel", "signsRead", "I", false)
  | _ => ("SignSquaresModel", "waits", "[I", true)
def tyX10 : Nat → FieldType := fun k => match k with
  | 0 => .int
  | 1 => .array .int
  | 2 => .array .int
  | 3 => .array .int
  | 4 => .array .int
  | 5 => .array .int
  | 6 => .array .int
  | 7 => .array .int
  | 8 => .int
  | 9 => .array .int
  | 10 => .int
  | 11 => .array .int
  | 12 => .int
  | 13 => .array .int
  | 14 => .array .int
  | 15 => .array .int
  | 16 => .long
  | 17 => .long
  | 18 => .array .long
  | 19 => .array .long
  | 20 => .array .long
  | 21 => .array .long
  | 22 => .array .long
  | 23 => .array .long
  | 24 => .array .int
  | 25 => .array .int
  | 26 => .array .int
  | 27 => .int
  | 28 => .array .int
  | 29 => .int
  | 30 => .array .int
  | 31 => .array .int
  | 32 => .array .int
  | 33 => .array .boolean
  | 34 => .array .int
  | 35 => .array .int
  | 36 => .array .int
  | 37 => .array .int
  | 38 => .array .int
  | 39 => .int
  | 40 => .array .int
  | 41 => .int
  | 42 => .int
  | 43 => .int
  | 44 => .array .int
  | 45 => .int
  | 46 => .array .int
  | 47 => .int
  | 48 => .array .byte
  | 49 => .int
  | 50 => .int
  | 51 => .int
  | 52 => .int
  | 53 => .boolean
  | 54 => .array .int
  | 55 => .array .int
  | 56 => .array .int
  | 57 => .array .int
  | 58 => .int
  | 59 => .array .int
  | 60 => .array .int
  | 61 => .array .int
  | 62 => .array .int
  | 63 => .array .int
  | 64 => .array .int
  | 65 => .array .int
  | 66 => .int
  | 67 => .array .int
  | 68 => .array .int
  | 69 => .array .int
  | 70 => .int
  | 71 => .int
  | 72 => .int
  | _ => .array .int
theorem nmX10 : ∀ a, a < 74 → ∀ b, b < 74 → a ≠ b → (TX10 a).2.1 ≠ (TX10 b).2.1 := by decide +kernel
theorem tyX10_ok : ∀ k, k < 74 → parseFieldDescriptor (TX10 k).2.2.1 = some (tyX10 k) := by decide +kernel
abbrev vwCl : List vw_C := [(RX0, TX0, 14), (RX1, TX1, 2), (RX2, TX2, 8), (RX3, TX3, 2), (RX4, TX4, 3), (RX5, TX5, 12), (RX6, TX6, 9), (RX7, TX7, 1), (RX8, TX8, 4), (RX9, TX9, 9), (RX10, TX10, 74)]
theorem inX0 : ∀ w ∈ u_ws RX0 TX0 14, w ∈ lw_tbl := by
  have h : u_ws RX0 TX0 14 = ([367, 369, 371, 373, 375, 377, 379, 381, 383, 385, 387, 389, 391, 393] : List Nat).filterMap (fun i => lw_tbl[i]?) := by decide +kernel
  intro w hw
  rw [h] at hw
  obtain ⟨i, -, hi⟩ := List.mem_filterMap.mp hw
  exact List.mem_of_getElem? hi
theorem inX1 : ∀ w ∈ u_ws RX1 TX1 2, w ∈ lw_tbl := by
  have h : u_ws RX1 TX1 2 = ([218, 220] : List Nat).filterMap (fun i => lw_tbl[i]?) := by decide +kernel
  intro w hw
  rw [h] at hw
  obtain ⟨i, -, hi⟩ := List.mem_filterMap.mp hw
  exact List.mem_of_getElem? hi
theorem inX2 : ∀ w ∈ u_ws RX2 TX2 8, w ∈ lw_tbl := by
  have h : u_ws RX2 TX2 8 = ([290, 292, 294, 296, 298, 300, 302, 304] : List Nat).filterMap (fun i => lw_tbl[i]?) := by decide +kernel
  intro w hw
  rw [h] at hw
  obtain ⟨i, -, hi⟩ := List.mem_filterMap.mp hw
  exact List.mem_of_getElem? hi
theorem inX3 : ∀ w ∈ u_ws RX3 TX3 2, w ∈ lw_tbl := by
  have h : u_ws RX3 TX3 2 = ([674, 676] : List Nat).filterMap (fun i => lw_tbl[i]?) := by decide +kernel
  intro w hw
  rw [h] at hw
  obtain ⟨i, -, hi⟩ := List.mem_filterMap.mp hw
  exact List.mem_of_getElem? hi
theorem inX4 : ∀ w ∈ u_ws RX4 TX4 3, w ∈ lw_tbl := by
  have h : u_ws RX4 TX4 3 = ([201, 203, 205] : List Nat).filterMap (fun i => lw_tbl[i]?) := by decide +kernel
  intro w hw
  rw [h] at hw
  obtain ⟨i, -, hi⟩ := List.mem_filterMap.mp hw
  exact List.mem_of_getElem? hi
theorem inX5 : ∀ w ∈ u_ws RX5 TX5 12, w ∈ lw_tbl := by
  have h : u_ws RX5 TX5 12 = ([251, 253, 255, 257, 259, 261, 263, 265, 267, 269, 271, 273] : List Nat).filterMap (fun i => lw_tbl[i]?) := by decide +kernel
  intro w hw
  rw [h] at hw
  obtain ⟨i, -, hi⟩ := List.mem_filterMap.mp hw
  exact List.mem_of_getElem? hi
theorem inX6 : ∀ w ∈ u_ws RX6 TX6 9, w ∈ lw_tbl := by
  have h : u_ws RX6 TX6 9 = ([327, 329, 331, 333, 335, 337, 339, 341, 343] : List Nat).filterMap (fun i => lw_tbl[i]?) := by decide +kernel
  intro w hw
  rw [h] at hw
  obtain ⟨i, -, hi⟩ := List.mem_filterMap.mp hw
  exact List.mem_of_getElem? hi
theorem inX7 : ∀ w ∈ u_ws RX7 TX7 1, w ∈ lw_tbl := by
  have h : u_ws RX7 TX7 1 = ([656] : List Nat).filterMap (fun i => lw_tbl[i]?) := by decide +kernel
  intro w hw
  rw [h] at hw
  obtain ⟨i, -, hi⟩ := List.mem_filterMap.mp hw
  exact List.mem_of_getElem? hi
theorem inX8 : ∀ w ∈ u_ws RX8 TX8 4, w ∈ lw_tbl := by
  have h : u_ws RX8 TX8 4 = ([172, 174, 176, 178] : List Nat).filterMap (fun i => lw_tbl[i]?) := by decide +kernel
  intro w hw
  rw [h] at hw
  obtain ⟨i, -, hi⟩ := List.mem_filterMap.mp hw
  exact List.mem_of_getElem? hi
theorem inX9 : ∀ w ∈ u_ws RX9 TX9 9, w ∈ lw_tbl := by
  have h : u_ws RX9 TX9 9 = ([405, 407, 409, 411, 413, 415, 417, 419, 421] : List Nat).filterMap (fun i => lw_tbl[i]?) := by decide +kernel
  intro w hw
  rw [h] at hw
  obtain ⟨i, -, hi⟩ := List.mem_filterMap.mp hw
  exact List.mem_of_getElem? hi
theorem inX10 : ∀ w ∈ u_ws RX10 TX10 74, w ∈ lw_tbl := by
  have h : u_ws RX10 TX10 74 = ([1398, 1400, 1402, 1404, 1406, 1408, 1410, 1412, 1414, 1416, 1418, 1420, 1422, 1424, 1426, 1428, 1430, 1432, 1434, 1436, 1438, 1440, 1442, 1444, 1446, 1448, 1450, 1452, 1454, 1456, 1458, 1460, 1462, 1464, 1466, 1468, 1470, 1472, 1474, 1476, 1478, 1480, 1482, 1484, 1486, 1488, 1490, 1492, 1494, 1496, 1498, 1500, 1502, 1504, 1506, 1508, 1510, 1512, 1514, 1516, 1518, 1520, 1522, 1524, 1526, 1528, 1530, 1532, 1534, 1536, 1538, 1540, 1542, 1544] : List Nat).filterMap (fun i => lw_tbl[i]?) := by decide +kernel
  intro w hw
  rw [h] at hw
  obtain ⟨i, -, hi⟩ := List.mem_filterMap.mp hw
  exact List.mem_of_getElem? hi
abbrev MI : Type := MethodName × ByteArray × Nat × Option FieldType
def m_S_init : MI := (⟨"SignSquares", "<init>", "()V"⟩, prog_1_method_1_code, 1, none)
def m_Object_init : MI := (⟨"java/lang/Object", "<init>", "()V"⟩, object_method_1_code, 1, none)
def m_Table_init : MI := (⟨"SignSquares$Table", "<init>", "()V"⟩, prog_10_method_1_code, 1, none)
def m_Moment_init : MI := (⟨"SignSquares$Moment", "<init>", "([LSignSquares$Line;II)V"⟩, prog_6_method_1_code, 4, none)
def m_Draft_init : MI := (⟨"SignSquares$Draft", "<init>", "()V"⟩, prog_3_method_1_code, 1, none)
def m_Reader_init : MI := (⟨"SignSquares$Reader", "<init>", "()V"⟩, prog_7_method_1_code, 1, none)
def m_Layout_init : MI := (⟨"SignSquares$Layout", "<init>", "()V"⟩, prog_4_method_1_code, 1, none)
def m_Speller_init : MI := (⟨"SignSquares$Speller", "<init>", "()V"⟩, prog_8_method_1_code, 1, none)
def m_Arranger_init : MI := (⟨"SignSquares$Arranger", "<init>", "()V"⟩, prog_2_method_1_code, 1, none)
def m_S_feed : MI := (⟨"SignSquares", "feed", "(IIIII)I"⟩, prog_1_method_2_code, 6, (some FieldType.int))
def m_Reader_takeFour : MI := (⟨"SignSquares$Reader", "takeFour", "(I)V"⟩, prog_7_method_2_code, 3, none)
def m_S_back : MI := (⟨"SignSquares", "back", "(I)I"⟩, prog_1_method_3_code, 2, (some FieldType.int))
def m_S_text : MI := (⟨"SignSquares", "text", "()I"⟩, prog_1_method_4_code, 1, (some FieldType.int))
def m_Reader_begin : MI := (⟨"SignSquares$Reader", "begin", "()V"⟩, prog_7_method_3_code, 1, none)
def m_Reader_readAll : MI := (⟨"SignSquares$Reader", "readAll", "()Z"⟩, prog_7_method_5_code, 3, (some FieldType.boolean))
def m_Reader_next : MI := (⟨"SignSquares$Reader", "next", "()I"⟩, prog_7_method_13_code, 1, (some FieldType.int))
def m_Reader_byteAt : MI := (⟨"SignSquares$Reader", "byteAt", "(I)I"⟩, prog_7_method_14_code, 2, (some FieldType.int))
def m_Reader_takeWord : MI := (⟨"SignSquares$Reader", "takeWord", "(Ljava/lang/String;)Z"⟩, prog_7_method_16_code, 3, (some FieldType.boolean))
def m_Reader_isGlued : MI := (⟨"SignSquares$Reader", "isGlued", "()Z"⟩, prog_7_method_20_code, 1, (some FieldType.boolean))
def m_Reader_isSmallLetter : MI := (⟨"SignSquares$Reader", "isSmallLetter", "(I)Z"⟩, prog_7_method_21_code, 1, (some FieldType.boolean))
def m_Reader_isDigit : MI := (⟨"SignSquares$Reader", "isDigit", "(I)Z"⟩, prog_7_method_22_code, 1, (some FieldType.boolean))
def m_Reader_wordEnd : MI := (⟨"SignSquares$Reader", "wordEnd", "()I"⟩, prog_7_method_19_code, 2, (some FieldType.int))
def m_String_length : MI := (⟨"java/lang/String", "length", "()I"⟩, prog_16_method_54_code, 1, (some FieldType.int))
def m_String_coder : MI := (⟨"java/lang/String", "coder", "()B"⟩, prog_16_method_152_code, 1, (some FieldType.byte))
def m_String_charAt : MI := (⟨"java/lang/String", "charAt", "(I)C"⟩, prog_16_method_56_code, 2, (some FieldType.char))
def m_String_isLatin1 : MI := (⟨"java/lang/String", "isLatin1", "()Z"⟩, prog_16_method_154_code, 1, (some FieldType.boolean))
def m_StringLatin1_charAt : MI := (⟨"java/lang/StringLatin1", "charAt", "([BI)C"⟩, prog_17_method_2_code, 2, (some FieldType.char))
def m_String_checkIndex : MI := (⟨"java/lang/String", "checkIndex", "(II)V"⟩, prog_16_method_155_code, 2, none)
def m_Preconditions_checkIndex : MI := (⟨"jdk/internal/util/Preconditions", "checkIndex", "(IILjava/util/function/BiFunction;)I"⟩, prog_21_method_11_code, 3, (some FieldType.int))
def m_StringUTF16_charAt : MI := (⟨"java/lang/StringUTF16", "charAt", "([BI)C"⟩, prog_18_method_83_code, 2, (some FieldType.char))
def m_StringUTF16_checkIndex : MI := (⟨"java/lang/StringUTF16", "checkIndex", "(I[B)V"⟩, prog_18_method_91_code, 2, none)
def m_StringUTF16_length : MI := (⟨"java/lang/StringUTF16", "length", "([B)I"⟩, prog_18_method_6_code, 1, (some FieldType.int))
def m_StringUTF16_getChar : MI := (⟨"java/lang/StringUTF16", "getChar", "([BI)C"⟩, prog_18_method_5_code, 2, (some FieldType.char))
def m_Reader_readNumber : MI := (⟨"SignSquares$Reader", "readNumber", "(II)I"⟩, prog_7_method_18_code, 5, (some FieldType.int))
def m_Math_min : MI := (⟨"java/lang/Math", "min", "(II)I"⟩, prog_15_method_69_code, 2, (some FieldType.int))
def m_Reader_readTold : MI := (⟨"SignSquares$Reader", "readTold", "()Z"⟩, prog_7_method_6_code, 4, (some FieldType.boolean))
def m_Reader_nextLetter : MI := (⟨"SignSquares$Reader", "nextLetter", "()I"⟩, prog_7_method_17_code, 2, (some FieldType.int))
def m_Table_has : MI := (⟨"SignSquares$Table", "has", "(I)Z"⟩, prog_10_method_2_code, 2, (some FieldType.boolean))
def m_Table_sizeIn : MI := (⟨"SignSquares$Table", "sizeIn", "([BI)I"⟩, prog_10_method_13_code, 2, (some FieldType.int))
def m_Table_told : MI := (⟨"SignSquares$Table", "told", "()I"⟩, prog_10_method_10_code, 1, (some FieldType.int))
def m_Table_filled : MI := (⟨"SignSquares$Table", "filled", "([B)I"⟩, prog_10_method_12_code, 6, (some FieldType.int))
def m_Table_tell : MI := (⟨"SignSquares$Table", "tell", "(III)V"⟩, prog_10_method_8_code, 4, none)
def m_Reader_readCore : MI := (⟨"SignSquares$Reader", "readCore", "(III)Z"⟩, prog_7_method_7_code, 6, (some FieldType.boolean))
def m_Table_tellCore : MI := (⟨"SignSquares$Table", "tellCore", "(III)V"⟩, prog_10_method_9_code, 4, none)
def m_Reader_readLine : MI := (⟨"SignSquares$Reader", "readLine", "()Z"⟩, prog_7_method_8_code, 3, (some FieldType.boolean))
def m_Draft_clear : MI := (⟨"SignSquares$Draft", "clear", "()V"⟩, prog_3_method_2_code, 1, none)
def m_Reader_readGroup : MI := (⟨"SignSquares$Reader", "readGroup", "(II)Z"⟩, prog_7_method_10_code, 6, (some FieldType.boolean))
def m_Reader_readPart : MI := (⟨"SignSquares$Reader", "readPart", "(II)Z"⟩, prog_7_method_11_code, 5, (some FieldType.boolean))
def m_Reader_takeOpening : MI := (⟨"SignSquares$Reader", "takeOpening", "(Z)Z"⟩, prog_7_method_12_code, 2, (some FieldType.boolean))
def m_Reader_takeMark : MI := (⟨"SignSquares$Reader", "takeMark", "(I)Z"⟩, prog_7_method_15_code, 2, (some FieldType.boolean))
def m_Draft_put : MI := (⟨"SignSquares$Draft", "put", "(I)V"⟩, prog_3_method_4_code, 2, none)
def m_Draft_putAhead : MI := (⟨"SignSquares$Draft", "putAhead", "(II)V"⟩, prog_3_method_5_code, 4, none)
def m_Draft_change : MI := (⟨"SignSquares$Draft", "change", "(II)V"⟩, prog_3_method_7_code, 3, none)
def m_Table_hasCore : MI := (⟨"SignSquares$Table", "hasCore", "(I)Z"⟩, prog_10_method_3_code, 2, (some FieldType.boolean))
def m_Draft_makeNormal : MI := (⟨"SignSquares$Draft", "makeNormal", "()V"⟩, prog_3_method_8_code, 3, none)
def m_S_isJoint : MI := (⟨"SignSquares", "isJoint", "(I)Z"⟩, prog_1_method_57_code, 1, (some FieldType.boolean))
def m_Draft_openBrackets : MI := (⟨"SignSquares$Draft", "openBrackets", "(I)V"⟩, prog_3_method_9_code, 5, none)
def m_S_endOfPart : MI := (⟨"SignSquares", "endOfPart", "([BII)I"⟩, prog_1_method_60_code, 6, (some FieldType.int))
def m_Math_max : MI := (⟨"java/lang/Math", "max", "(II)I"⟩, prog_15_method_65_code, 2, (some FieldType.int))
def m_S_holds : MI := (⟨"SignSquares", "holds", "(I)Z"⟩, prog_1_method_58_code, 1, (some FieldType.boolean))
def m_Draft_made : MI := (⟨"SignSquares$Draft", "made", "()LSignSquares$Square;"⟩, prog_3_method_10_code, 1, (some (FieldType.object "SignSquares$Square")))
def m_Arrays_copyOf : MI := (⟨"java/util/Arrays", "copyOf", "([BI)[B"⟩, prog_20_method_121_code, 3, (some (FieldType.array FieldType.byte)))
def m_Sq_init : MI := (⟨"SignSquares$Square", "<init>", "([B)V"⟩, prog_9_method_1_code, 2, none)
def m_Reader_keepLine : MI := (⟨"SignSquares$Reader", "keepLine", "(IZ)Z"⟩, prog_7_method_9_code, 5, (some FieldType.boolean))
def m_Line_init : MI := (⟨"SignSquares$Line", "<init>", "([LSignSquares$Square;Z)V"⟩, prog_5_method_1_code, 3, none)
def m_Reader_told : MI := (⟨"SignSquares$Reader", "told", "()LSignSquares$Moment;"⟩, prog_7_method_4_code, 3, (some (FieldType.object "SignSquares$Moment")))
def m_S_forgetActs : MI := (⟨"SignSquares", "forgetActs", "()V"⟩, prog_1_method_45_code, 2, none)
def m_S_exchange : MI := (⟨"SignSquares", "exchange", "(IIII)Z"⟩, prog_1_method_5_code, 8, (some FieldType.boolean))
def m_S_squareAt : MI := (⟨"SignSquares", "squareAt", "(II)LSignSquares$Square;"⟩, prog_1_method_39_code, 4, (some (FieldType.object "SignSquares$Square")))
def m_Moment_get : MI := (⟨"SignSquares$Moment", "get", "(I)LSignSquares$Line;"⟩, prog_6_method_2_code, 2, (some (FieldType.object "SignSquares$Line")))
def m_Line_get : MI := (⟨"SignSquares$Line", "get", "(I)LSignSquares$Square;"⟩, prog_5_method_4_code, 2, (some (FieldType.object "SignSquares$Square")))
def m_Line_has : MI := (⟨"SignSquares$Line", "has", "(I)Z"⟩, prog_5_method_3_code, 2, (some FieldType.boolean))
def m_Sq_placeOf : MI := (⟨"SignSquares$Square", "placeOf", "(I)I"⟩, prog_9_method_7_code, 4, (some FieldType.int))
def m_Sq_symbol : MI := (⟨"SignSquares$Square", "symbol", "(I)I"⟩, prog_9_method_3_code, 2, (some FieldType.int))
def m_S_letterOf : MI := (⟨"SignSquares", "letterOf", "(I)I"⟩, prog_1_method_59_code, 1, (some FieldType.int))
def m_Draft_take : MI := (⟨"SignSquares$Draft", "take", "(LSignSquares$Square;)V"⟩, prog_3_method_3_code, 2, none)
def m_Sq_length : MI := (⟨"SignSquares$Square", "length", "()I"⟩, prog_9_method_2_code, 1, (some FieldType.int))
def m_Draft_putAll : MI := (⟨"SignSquares$Draft", "putAll", "(LSignSquares$Square;II)V"⟩, prog_3_method_6_code, 5, none)
def m_S_become : MI := (⟨"SignSquares", "become", "(IILSignSquares$Square;)Z"⟩, prog_1_method_42_code, 5, (some FieldType.boolean))
def m_S_lineAt : MI := (⟨"SignSquares", "lineAt", "(I)LSignSquares$Line;"⟩, prog_1_method_38_code, 2, (some (FieldType.object "SignSquares$Line")))
def m_Line_with : MI := (⟨"SignSquares$Line", "with", "(ILSignSquares$Square;)LSignSquares$Line;"⟩, prog_5_method_7_code, 5, (some (FieldType.object "SignSquares$Line")))
def m_S_replaceLine : MI := (⟨"SignSquares", "replaceLine", "(ILSignSquares$Line;)Z"⟩, prog_1_method_43_code, 3, (some FieldType.boolean))
def m_Moment_with : MI := (⟨"SignSquares$Moment", "with", "(ILSignSquares$Line;)LSignSquares$Moment;"⟩, prog_6_method_5_code, 5, (some (FieldType.object "SignSquares$Moment")))
def m_S_act : MI := (⟨"SignSquares", "act", "(LSignSquares$Moment;)V"⟩, prog_1_method_44_code, 3, none)
def m_S_turn : MI := (⟨"SignSquares", "turn", "(II)Z"⟩, prog_1_method_6_code, 6, (some FieldType.boolean))
def m_Sq_holderOf : MI := (⟨"SignSquares$Square", "holderOf", "(I)I"⟩, prog_9_method_8_code, 3, (some FieldType.int))
def m_Sq_endOf : MI := (⟨"SignSquares$Square", "endOf", "(I)I"⟩, prog_9_method_4_code, 2, (some FieldType.int))
def m_S_join : MI := (⟨"SignSquares", "join", "(II)Z"⟩, prog_1_method_7_code, 5, (some FieldType.boolean))
def m_S_squareBehind : MI := (⟨"SignSquares", "squareBehind", "(II)LSignSquares$Square;"⟩, prog_1_method_40_code, 4, (some (FieldType.object "SignSquares$Square")))
def m_S_bothJoined : MI := (⟨"SignSquares", "bothJoined", "(LSignSquares$Square;LSignSquares$Square;)LSignSquares$Square;"⟩, prog_1_method_47_code, 3, (some (FieldType.object "SignSquares$Square")))
def m_Sq_signs : MI := (⟨"SignSquares$Square", "signs", "()I"⟩, prog_9_method_5_code, 1, (some FieldType.int))
def m_Sq_numberAt : MI := (⟨"SignSquares$Square", "numberAt", "(I)I"⟩, prog_9_method_6_code, 4, (some FieldType.int))
def m_Line_withoutNext : MI := (⟨"SignSquares$Line", "withoutNext", "(ILSignSquares$Square;)LSignSquares$Line;"⟩, prog_5_method_9_code, 5, (some (FieldType.object "SignSquares$Line")))
def m_S_part : MI := (⟨"SignSquares", "part", "(II)Z"⟩, prog_1_method_8_code, 8, (some FieldType.boolean))
def m_Line_size : MI := (⟨"SignSquares$Line", "size", "()I"⟩, prog_5_method_2_code, 1, (some FieldType.int))
def m_S_slice : MI := (⟨"SignSquares", "slice", "(LSignSquares$Square;II)LSignSquares$Square;"⟩, prog_1_method_46_code, 4, (some (FieldType.object "SignSquares$Square")))
def m_Line_withNext : MI := (⟨"SignSquares$Line", "withNext", "(ILSignSquares$Square;LSignSquares$Square;)LSignSquares$Line;"⟩, prog_5_method_8_code, 6, (some (FieldType.object "SignSquares$Line")))
def m_S_swap : MI := (⟨"SignSquares", "swap", "(IIII)Z"⟩, prog_1_method_9_code, 10, (some FieldType.boolean))
def m_Sq_links : MI := (⟨"SignSquares$Square", "links", "(II)I"⟩, prog_9_method_10_code, 5, (some FieldType.int))
def m_Sq_linkPlace : MI := (⟨"SignSquares$Square", "linkPlace", "(III)I"⟩, prog_9_method_11_code, 6, (some FieldType.int))
def m_S_insert : MI := (⟨"SignSquares", "insert", "(III)Z"⟩, prog_1_method_10_code, 10, (some FieldType.boolean))
def m_S_spelled : MI := (⟨"SignSquares", "spelled", "(LSignSquares$Square;I)LSignSquares$Speller;"⟩, prog_1_method_51_code, 3, (some (FieldType.object "SignSquares$Speller")))
def m_Speller_begin : MI := (⟨"SignSquares$Speller", "begin", "(I)V"⟩, prog_8_method_2_code, 2, none)
def m_Speller_writePart : MI := (⟨"SignSquares$Speller", "writePart", "(LSignSquares$Square;II)I"⟩, prog_8_method_7_code, 8, (some FieldType.int))
def m_Speller_writeSign : MI := (⟨"SignSquares$Speller", "writeSign", "(LSignSquares$Square;I)I"⟩, prog_8_method_8_code, 5, (some FieldType.int))
def m_Speller_writeLetter : MI := (⟨"SignSquares$Speller", "writeLetter", "(I)V"⟩, prog_8_method_13_code, 2, none)
def m_Speller_beginWord : MI := (⟨"SignSquares$Speller", "beginWord", "()V"⟩, prog_8_method_15_code, 1, none)
def m_Speller_put : MI := (⟨"SignSquares$Speller", "put", "(I)V"⟩, prog_8_method_16_code, 2, none)
def m_Speller_writeOpening : MI := (⟨"SignSquares$Speller", "writeOpening", "(I)V"⟩, prog_8_method_9_code, 2, none)
def m_Speller_writeMark : MI := (⟨"SignSquares$Speller", "writeMark", "(I)V"⟩, prog_8_method_11_code, 2, none)
def m_Speller_writeClosing : MI := (⟨"SignSquares$Speller", "writeClosing", "(I)V"⟩, prog_8_method_10_code, 2, none)
def m_S_release : MI := (⟨"SignSquares", "release", "(III)Z"⟩, prog_1_method_11_code, 10, (some FieldType.boolean))
def m_S_move : MI := (⟨"SignSquares", "move", "(III)Z"⟩, prog_1_method_12_code, 5, (some FieldType.boolean))
def m_Line_moved : MI := (⟨"SignSquares$Line", "moved", "(II)LSignSquares$Line;"⟩, prog_5_method_10_code, 6, (some (FieldType.object "SignSquares$Line")))
def m_S_mirror : MI := (⟨"SignSquares", "mirror", "(I)Z"⟩, prog_1_method_13_code, 3, (some FieldType.boolean))
def m_S_arrange : MI := (⟨"SignSquares", "arrange", "(II)Z"⟩, prog_1_method_14_code, 5, (some FieldType.boolean))
def m_S_bestOf : MI := (⟨"SignSquares", "bestOf", "(LSignSquares$Square;)LSignSquares$Square;"⟩, prog_1_method_48_code, 2, (some (FieldType.object "SignSquares$Square")))
def m_Sq_outerSigns : MI := (⟨"SignSquares$Square", "outerSigns", "()I"⟩, prog_9_method_9_code, 4, (some FieldType.int))
def m_Arranger_knows : MI := (⟨"SignSquares$Arranger", "knows", "(LSignSquares$Square;LSignSquares$Moment;)Z"⟩, prog_2_method_3_code, 3, (some FieldType.boolean))
def m_Arranger_find : MI := (⟨"SignSquares$Arranger", "find", "(LSignSquares$Square;LSignSquares$Table;LSignSquares$Moment;LSignSquares$Draft;)V"⟩, prog_2_method_4_code, 8, none)
def m_Arranger_makeSigns : MI := (⟨"SignSquares$Arranger", "makeSigns", "(LSignSquares$Square;LSignSquares$Table;)I"⟩, prog_2_method_5_code, 6, (some FieldType.int))
def m_Arranger_spanOfSigns : MI := (⟨"SignSquares$Arranger", "spanOfSigns", "(II)I"⟩, prog_2_method_6_code, 2, (some FieldType.int))
def m_Arranger_keep : MI := (⟨"SignSquares$Arranger", "keep", "(III)V"⟩, prog_2_method_12_code, 4, none)
def m_Table_wideOf : MI := (⟨"SignSquares$Table", "wideOf", "(I)I"⟩, prog_10_method_4_code, 2, (some FieldType.int))
def m_Table_highOf : MI := (⟨"SignSquares$Table", "highOf", "(I)I"⟩, prog_10_method_5_code, 2, (some FieldType.int))
def m_Arranger_keepSize : MI := (⟨"SignSquares$Arranger", "keepSize", "(II)V"⟩, prog_2_method_13_code, 3, none)
def m_Arranger_keepText : MI := (⟨"SignSquares$Arranger", "keepText", "(JI)V"⟩, prog_2_method_14_code, 4, none)
def m_Arranger_makeSpan : MI := (⟨"SignSquares$Arranger", "makeSpan", "(III)V"⟩, prog_2_method_7_code, 6, none)
def m_Arranger_makePairs : MI := (⟨"SignSquares$Arranger", "makePairs", "(III)V"⟩, prog_2_method_8_code, 6, none)
def m_Arranger_isForm : MI := (⟨"SignSquares$Arranger", "isForm", "(I)Z"⟩, prog_2_method_9_code, 2, (some FieldType.boolean))
def m_Arranger_makeBeside : MI := (⟨"SignSquares$Arranger", "makeBeside", "(III)V"⟩, prog_2_method_10_code, 4, none)
def m_Arranger_partText : MI := (⟨"SignSquares$Arranger", "partText", "(I)J"⟩, prog_2_method_16_code, 2, (some FieldType.long))
def m_Arranger_partDigits : MI := (⟨"SignSquares$Arranger", "partDigits", "(I)I"⟩, prog_2_method_15_code, 2, (some FieldType.int))
def m_Arranger_makeAbove : MI := (⟨"SignSquares$Arranger", "makeAbove", "(III)V"⟩, prog_2_method_11_code, 4, none)
def m_Arranger_bestForm : MI := (⟨"SignSquares$Arranger", "bestForm", "(II)I"⟩, prog_2_method_17_code, 5, (some FieldType.int))
def m_Arranger_isBetter : MI := (⟨"SignSquares$Arranger", "isBetter", "(III)Z"⟩, prog_2_method_18_code, 6, (some FieldType.boolean))
def m_Arranger_write : MI := (⟨"SignSquares$Arranger", "write", "(ILSignSquares$Square;LSignSquares$Draft;I)V"⟩, prog_2_method_19_code, 5, none)
def m_Sq_isLike : MI := (⟨"SignSquares$Square", "isLike", "(LSignSquares$Square;)Z"⟩, prog_9_method_13_code, 3, (some FieldType.boolean))
def m_S_side : MI := (⟨"SignSquares", "side", "(I)I"⟩, prog_1_method_15_code, 3, (some FieldType.int))
def m_S_gap : MI := (⟨"SignSquares", "gap", "(I)I"⟩, prog_1_method_16_code, 3, (some FieldType.int))
def m_S_undo : MI := (⟨"SignSquares", "undo", "()I"⟩, prog_1_method_17_code, 2, (some FieldType.int))
def m_S_sign : MI := (⟨"SignSquares", "sign", "(II)I"⟩, prog_1_method_18_code, 3, (some FieldType.int))
def m_Table_coreWideOf : MI := (⟨"SignSquares$Table", "coreWideOf", "(I)I"⟩, prog_10_method_6_code, 2, (some FieldType.int))
def m_Table_coreHighOf : MI := (⟨"SignSquares$Table", "coreHighOf", "(I)I"⟩, prog_10_method_7_code, 2, (some FieldType.int))
def m_S_timesOf : MI := (⟨"SignSquares", "timesOf", "(I)I"⟩, prog_1_method_41_code, 5, (some FieldType.int))
def m_Line_timesOf : MI := (⟨"SignSquares$Line", "timesOf", "(I)I"⟩, prog_5_method_6_code, 7, (some FieldType.int))
def m_Sq_timesOf : MI := (⟨"SignSquares$Square", "timesOf", "(I)I"⟩, prog_9_method_12_code, 7, (some FieldType.int))
def m_S_line : MI := (⟨"SignSquares", "line", "(II)I"⟩, prog_1_method_19_code, 4, (some FieldType.int))
def m_Line_signs : MI := (⟨"SignSquares$Line", "signs", "()I"⟩, prog_5_method_5_code, 6, (some FieldType.int))
def m_S_square : MI := (⟨"SignSquares", "square", "(III)I"⟩, prog_1_method_20_code, 5, (some FieldType.int))
def m_S_measured : MI := (⟨"SignSquares", "measured", "(LSignSquares$Square;)LSignSquares$Layout;"⟩, prog_1_method_49_code, 2, (some (FieldType.object "SignSquares$Layout")))
def m_Layout_measure : MI := (⟨"SignSquares$Layout", "measure", "(LSignSquares$Square;LSignSquares$Table;I)V"⟩, prog_4_method_5_code, 6, none)
def m_Layout_measureBoth : MI := (⟨"SignSquares$Layout", "measureBoth", "(III)V"⟩, prog_4_method_6_code, 7, none)
def m_Layout_endAt : MI := (⟨"SignSquares$Layout", "endAt", "(I)I"⟩, prog_4_method_7_code, 2, (some FieldType.int))
def m_Layout_wideAt : MI := (⟨"SignSquares$Layout", "wideAt", "(I)I"⟩, prog_4_method_2_code, 2, (some FieldType.int))
def m_Layout_highAt : MI := (⟨"SignSquares$Layout", "highAt", "(I)I"⟩, prog_4_method_3_code, 2, (some FieldType.int))
def m_S_scale : MI := (⟨"SignSquares", "scale", "(III)I"⟩, prog_1_method_21_code, 5, (some FieldType.int))
def m_S_scaleOf : MI := (⟨"SignSquares", "scaleOf", "(LSignSquares$Square;I)I"⟩, prog_1_method_53_code, 3, (some FieldType.int))
def m_S_spanOf : MI := (⟨"SignSquares", "spanOf", "(LSignSquares$Square;)I"⟩, prog_1_method_52_code, 2, (some FieldType.int))
def m_Layout_span : MI := (⟨"SignSquares$Layout", "span", "(I)I"⟩, prog_4_method_4_code, 2, (some FieldType.int))
def m_S_fraction : MI := (⟨"SignSquares", "fraction", "(JJI)J"⟩, prog_1_method_55_code, 7, (some FieldType.long))
def m_S_greatestDivisor : MI := (⟨"SignSquares", "greatestDivisor", "(JJ)J"⟩, prog_1_method_56_code, 11, (some FieldType.long))
def m_Math_abs : MI := (⟨"java/lang/Math", "abs", "(J)J"⟩, prog_15_method_61_code, 2, (some FieldType.long))
def m_S_letter : MI := (⟨"SignSquares", "letter", "(III)I"⟩, prog_1_method_22_code, 6, (some FieldType.int))
def m_S_inside : MI := (⟨"SignSquares", "inside", "(III)I"⟩, prog_1_method_23_code, 7, (some FieldType.int))
def m_S_box : MI := (⟨"SignSquares", "box", "(IIIII)J"⟩, prog_1_method_24_code, 13, (some FieldType.long))
def m_S_laidOut : MI := (⟨"SignSquares", "laidOut", "(LSignSquares$Square;I)LSignSquares$Layout;"⟩, prog_1_method_50_code, 4, (some (FieldType.object "SignSquares$Layout")))
def m_Layout_place : MI := (⟨"SignSquares$Layout", "place", "(LSignSquares$Square;LSignSquares$Table;I)V"⟩, prog_4_method_8_code, 8, none)
def m_Layout_lay : MI := (⟨"SignSquares$Layout", "lay", "(IJJJJ)V"⟩, prog_4_method_11_code, 10, none)
def m_Layout_placeBoth : MI := (⟨"SignSquares$Layout", "placeBoth", "(II)V"⟩, prog_4_method_9_code, 9, none)
def m_Layout_placeInside : MI := (⟨"SignSquares$Layout", "placeInside", "(III)V"⟩, prog_4_method_10_code, 9, none)
def m_Layout_mirrorAll : MI := (⟨"SignSquares$Layout", "mirrorAll", "(I)V"⟩, prog_4_method_12_code, 3, none)
def m_Layout_boxAbove : MI := (⟨"SignSquares$Layout", "boxAbove", "(II)J"⟩, prog_4_method_13_code, 3, (some FieldType.long))
def m_Layout_boxBelow : MI := (⟨"SignSquares$Layout", "boxBelow", "(II)J"⟩, prog_4_method_14_code, 3, (some FieldType.long))
def m_S_at : MI := (⟨"SignSquares", "at", "(IIIII)I"⟩, prog_1_method_25_code, 9, (some FieldType.int))
def m_S_isPoint : MI := (⟨"SignSquares", "isPoint", "(I)Z"⟩, prog_1_method_54_code, 1, (some FieldType.boolean))
def m_Layout_reaches : MI := (⟨"SignSquares$Layout", "reaches", "(IIII)Z"⟩, prog_4_method_15_code, 9, (some FieldType.boolean))
def m_S_column : MI := (⟨"SignSquares", "column", "(II)I"⟩, prog_1_method_26_code, 4, (some FieldType.int))
def m_S_covered : MI := (⟨"SignSquares", "covered", "(III)J"⟩, prog_1_method_27_code, 9, (some FieldType.long))
def m_S_smallest : MI := (⟨"SignSquares", "smallest", "(II)I"⟩, prog_1_method_28_code, 4, (some FieldType.int))
def m_Layout_smallestSigns : MI := (⟨"SignSquares$Layout", "smallestSigns", "(LSignSquares$Square;)I"⟩, prog_4_method_16_code, 6, (some FieldType.int))
def m_Layout_compareScales : MI := (⟨"SignSquares$Layout", "compareScales", "(II)I"⟩, prog_4_method_17_code, 3, (some FieldType.int))
def m_Long_compare : MI := (⟨"java/lang/Long", "compare", "(JJ)I"⟩, prog_14_method_42_code, 4, (some FieldType.int))
def m_S_same : MI := (⟨"SignSquares", "same", "(IIII)I"⟩, prog_1_method_29_code, 7, (some FieldType.int))
def m_S_tightest : MI := (⟨"SignSquares", "tightest", "(I)I"⟩, prog_1_method_30_code, 7, (some FieldType.int))
def m_S_least : MI := (⟨"SignSquares", "least", "(II)I"⟩, prog_1_method_31_code, 4, (some FieldType.int))
def m_S_ways : MI := (⟨"SignSquares", "ways", "(II)I"⟩, prog_1_method_32_code, 4, (some FieldType.int))
def m_Arranger_waysOf : MI := (⟨"SignSquares$Arranger", "waysOf", "(I)I"⟩, prog_2_method_2_code, 1, (some FieldType.int))
def m_S_best : MI := (⟨"SignSquares", "best", "(III)I"⟩, prog_1_method_33_code, 6, (some FieldType.int))
def m_S_bestText : MI := (⟨"SignSquares", "bestText", "(III)I"⟩, prog_1_method_34_code, 6, (some FieldType.int))
def m_Speller_told : MI := (⟨"SignSquares$Speller", "told", "()I"⟩, prog_8_method_3_code, 1, (some FieldType.int))
def m_S_joined : MI := (⟨"SignSquares", "joined", "(III)I"⟩, prog_1_method_35_code, 7, (some FieldType.int))
def m_S_spell : MI := (⟨"SignSquares", "spell", "(III)I"⟩, prog_1_method_36_code, 5, (some FieldType.int))
def m_Speller_writeAll : MI := (⟨"SignSquares$Speller", "writeAll", "(LSignSquares$Table;LSignSquares$Moment;)V"⟩, prog_8_method_4_code, 4, none)
def m_Speller_writeWord : MI := (⟨"SignSquares$Speller", "writeWord", "(Ljava/lang/String;)V"⟩, prog_8_method_12_code, 3, none)
def m_Speller_writeNumber : MI := (⟨"SignSquares$Speller", "writeNumber", "(I)V"⟩, prog_8_method_14_code, 2, none)
def m_Speller_writeTold : MI := (⟨"SignSquares$Speller", "writeTold", "(LSignSquares$Table;I)V"⟩, prog_8_method_5_code, 3, none)
def m_Speller_writeLine : MI := (⟨"SignSquares$Speller", "writeLine", "(LSignSquares$Line;)V"⟩, prog_8_method_6_code, 3, none)
def m_S_count : MI := (⟨"SignSquares", "count", "(I)I"⟩, prog_1_method_37_code, 2, (some FieldType.int))
def m_Moment_squares : MI := (⟨"SignSquares$Moment", "squares", "()I"⟩, prog_6_method_3_code, 6, (some FieldType.int))
def m_Moment_signs : MI := (⟨"SignSquares$Moment", "signs", "()I"⟩, prog_6_method_4_code, 6, (some FieldType.int))
def m_Table_cores : MI := (⟨"SignSquares$Table", "cores", "()I"⟩, prog_10_method_11_code, 1, (some FieldType.int))
def m_M_init : MI := (⟨"SignSquaresModel", "<init>", "()V"⟩, prog_12_method_2_code, 1, none)
def m_M_box : MI := (⟨"SignSquaresModel", "box", "(IIIII)J"⟩, prog_12_method_36_code, 7, (some FieldType.long))
def m_M_takesSign : MI := (⟨"SignSquaresModel", "takesSign", "(III)I"⟩, prog_12_method_25_code, 4, (some FieldType.int))
def m_M_isSquare : MI := (⟨"SignSquaresModel", "isSquare", "(II)Z"⟩, prog_12_method_9_code, 3, (some FieldType.boolean))
def m_M_isLine : MI := (⟨"SignSquaresModel", "isLine", "(I)Z"⟩, prog_12_method_6_code, 2, (some FieldType.boolean))
def m_M_in : MI := (⟨"SignSquaresModel", "in", "(III)Z"⟩, prog_12_method_3_code, 3, (some FieldType.boolean))
def m_M_squaresOf : MI := (⟨"SignSquaresModel", "squaresOf", "(I)I"⟩, prog_12_method_7_code, 2, (some FieldType.int))
def m_M_takes : MI := (⟨"SignSquaresModel", "takes", "(II)V"⟩, prog_12_method_15_code, 5, none)
def m_M_placeOf : MI := (⟨"SignSquaresModel", "placeOf", "(II)I"⟩, prog_12_method_10_code, 2, (some FieldType.int))
def m_M_nodeOf : MI := (⟨"SignSquaresModel", "nodeOf", "(I)I"⟩, prog_12_method_24_code, 4, (some FieldType.int))
def m_M_isSign : MI := (⟨"SignSquaresModel", "isSign", "(I)Z"⟩, prog_12_method_12_code, 1, (some FieldType.boolean))
def m_M_places : MI := (⟨"SignSquaresModel", "places", "()V"⟩, prog_12_method_34_code, 7, none)
def m_M_greatest : MI := (⟨"SignSquaresModel", "greatest", "()I"⟩, prog_12_method_27_code, 2, (some FieldType.int))
def m_M_measures : MI := (⟨"SignSquaresModel", "measures", "()V"⟩, prog_12_method_26_code, 8, none)
def m_M_letterOf : MI := (⟨"SignSquaresModel", "letterOf", "(I)I"⟩, prog_12_method_13_code, 1, (some FieldType.int))
def m_M_partsOf : MI := (⟨"SignSquaresModel", "partsOf", "(I)I"⟩, prog_12_method_11_code, 1, (some FieldType.int))
def m_M_tells : MI := (⟨"SignSquaresModel", "tells", "(JJ)V"⟩, prog_12_method_29_code, 7, none)
def m_M_common : MI := (⟨"SignSquaresModel", "common", "(JJ)J"⟩, prog_12_method_28_code, 10, (some FieldType.long))
def m_M_begins : MI := (⟨"SignSquaresModel", "begins", "(IJJJJ)V"⟩, prog_12_method_32_code, 11, none)
def m_M_plus : MI := (⟨"SignSquaresModel", "plus", "(JJ)V"⟩, prog_12_method_30_code, 7, none)
def m_M_goesInside : MI := (⟨"SignSquaresModel", "goesInside", "(I)V"⟩, prog_12_method_33_code, 12, none)
def m_M_isLeft : MI := (⟨"SignSquaresModel", "isLeft", "(I)Z"⟩, prog_12_method_8_code, 2, (some FieldType.boolean))
def m_M_boxOf : MI := (⟨"SignSquaresModel", "boxOf", "(IIZ)V"⟩, prog_12_method_35_code, 5, none)
def m_M_term : MI := (⟨"SignSquaresModel", "term", "(I)J"⟩, prog_12_method_31_code, 2, (some FieldType.long))
def m_M_at : MI := (⟨"SignSquaresModel", "at", "(IIIII)I"⟩, prog_12_method_38_code, 9, (some FieldType.int))
def m_M_isWithin : MI := (⟨"SignSquaresModel", "isWithin", "(IIZII)Z"⟩, prog_12_method_37_code, 6, (some FieldType.boolean))
def m_M_column : MI := (⟨"SignSquaresModel", "column", "(II)I"⟩, prog_12_method_39_code, 3, (some FieldType.int))
def m_M_scale : MI := (⟨"SignSquaresModel", "scale", "(III)I"⟩, prog_12_method_40_code, 4, (some FieldType.int))
def m_M_covered : MI := (⟨"SignSquaresModel", "covered", "(III)J"⟩, prog_12_method_41_code, 9, (some FieldType.long))
def m_M_smallest : MI := (⟨"SignSquaresModel", "smallest", "(II)I"⟩, prog_12_method_42_code, 7, (some FieldType.int))
def m_M_tightest : MI := (⟨"SignSquaresModel", "tightest", "(I)I"⟩, prog_12_method_44_code, 2, (some FieldType.int))
def m_M_tightestOf : MI := (⟨"SignSquaresModel", "tightestOf", "(I)I"⟩, prog_12_method_43_code, 6, (some FieldType.int))
def m_M_least : MI := (⟨"SignSquaresModel", "least", "(II)I"⟩, prog_12_method_45_code, 3, (some FieldType.int))
def m_M_exchange : MI := (⟨"SignSquaresModel", "exchange", "(IIII)Z"⟩, prog_12_method_46_code, 6, (some FieldType.boolean))
def m_M_isTold : MI := (⟨"SignSquaresModel", "isTold", "(I)Z"⟩, prog_12_method_4_code, 2, (some FieldType.boolean))
def m_M_keeps : MI := (⟨"SignSquaresModel", "keeps", "()V"⟩, prog_12_method_5_code, 2, none)
def m_M_turn : MI := (⟨"SignSquaresModel", "turn", "(II)Z"⟩, prog_12_method_47_code, 5, (some FieldType.boolean))
def m_M_opens : MI := (⟨"SignSquaresModel", "opens", "()V"⟩, prog_12_method_16_code, 1, none)
def m_M_endOf : MI := (⟨"SignSquaresModel", "endOf", "([II)I"⟩, prog_12_method_14_code, 4, (some FieldType.int))
def m_M_addsAll : MI := (⟨"SignSquaresModel", "addsAll", "([III)V"⟩, prog_12_method_18_code, 5, none)
def m_M_adds : MI := (⟨"SignSquaresModel", "adds", "(I)V"⟩, prog_12_method_17_code, 2, none)
def m_M_lays : MI := (⟨"SignSquaresModel", "lays", "(II)V"⟩, prog_12_method_19_code, 5, none)
def m_M_join : MI := (⟨"SignSquaresModel", "join", "(II)Z"⟩, prog_12_method_49_code, 3, (some FieldType.boolean))
def m_M_joins : MI := (⟨"SignSquaresModel", "joins", "(II)Z"⟩, prog_12_method_48_code, 6, (some FieldType.boolean))
def m_M_signsOf : MI := (⟨"SignSquaresModel", "signsOf", "(II)I"⟩, prog_12_method_23_code, 4, (some FieldType.int))
def m_M_signsIn : MI := (⟨"SignSquaresModel", "signsIn", "([III)I"⟩, prog_12_method_22_code, 5, (some FieldType.int))
def m_M_removes : MI := (⟨"SignSquaresModel", "removes", "(II)V"⟩, prog_12_method_21_code, 4, none)
def m_M_part : MI := (⟨"SignSquaresModel", "part", "(II)Z"⟩, prog_12_method_50_code, 4, (some FieldType.boolean))
def m_M_makesRoom : MI := (⟨"SignSquaresModel", "makesRoom", "(II)V"⟩, prog_12_method_20_code, 4, none)
def m_M_swap : MI := (⟨"SignSquaresModel", "swap", "(IIII)Z"⟩, prog_12_method_51_code, 7, (some FieldType.boolean))
def m_M_partAt : MI := (⟨"SignSquaresModel", "partAt", "(I)I"⟩, prog_12_method_52_code, 4, (some FieldType.int))
def m_M_insert : MI := (⟨"SignSquaresModel", "insert", "(III)Z"⟩, prog_12_method_55_code, 7, (some FieldType.boolean))
def m_M_around : MI := (⟨"SignSquaresModel", "around", "([III)I"⟩, prog_12_method_53_code, 5, (some FieldType.int))
def m_M_deepIn : MI := (⟨"SignSquaresModel", "deepIn", "([III)I"⟩, prog_12_method_54_code, 6, (some FieldType.int))
def m_M_release : MI := (⟨"SignSquaresModel", "release", "(III)Z"⟩, prog_12_method_56_code, 6, (some FieldType.boolean))
def m_M_move : MI := (⟨"SignSquaresModel", "move", "(III)Z"⟩, prog_12_method_57_code, 4, (some FieldType.boolean))
def m_M_mirror : MI := (⟨"SignSquaresModel", "mirror", "(I)Z"⟩, prog_12_method_58_code, 2, (some FieldType.boolean))
def m_M_side : MI := (⟨"SignSquaresModel", "side", "(I)I"⟩, prog_12_method_60_code, 2, (some FieldType.int))
def m_M_becomes : MI := (⟨"SignSquaresModel", "becomes", "(II)I"⟩, prog_12_method_59_code, 4, (some FieldType.int))
def m_M_gap : MI := (⟨"SignSquaresModel", "gap", "(I)I"⟩, prog_12_method_61_code, 2, (some FieldType.int))
def m_M_undo : MI := (⟨"SignSquaresModel", "undo", "()I"⟩, prog_12_method_62_code, 2, (some FieldType.int))
def m_M_spell : MI := (⟨"SignSquaresModel", "spell", "(III)I"⟩, prog_12_method_71_code, 4, (some FieldType.int))
def m_M_writesAll : MI := (⟨"SignSquaresModel", "writesAll", "()V"⟩, prog_12_method_69_code, 2, none)
def m_M_writesWord : MI := (⟨"SignSquaresModel", "writesWord", "(I)V"⟩, prog_12_method_65_code, 3, none)
def m_M_wordFrom : MI := (⟨"SignSquaresModel", "wordFrom", "(I)I"⟩, prog_12_method_99_code, 4, (some FieldType.int))
def m_M_writes : MI := (⟨"SignSquaresModel", "writes", "(I)V"⟩, prog_12_method_63_code, 2, none)
def m_M_writesNumber : MI := (⟨"SignSquaresModel", "writesNumber", "(I)V"⟩, prog_12_method_66_code, 2, none)
def m_M_writesLine : MI := (⟨"SignSquaresModel", "writesLine", "(I)V"⟩, prog_12_method_67_code, 3, none)
def m_M_isLetterFirst : MI := (⟨"SignSquaresModel", "isLetterFirst", "()Z"⟩, prog_12_method_68_code, 3, (some FieldType.boolean))
def m_M_writesRow : MI := (⟨"SignSquaresModel", "writesRow", "()V"⟩, prog_12_method_64_code, 5, none)
def m_M_told : MI := (⟨"SignSquaresModel", "told", "(I)I"⟩, prog_12_method_70_code, 2, (some FieldType.int))
def m_M_arrange : MI := (⟨"SignSquaresModel", "arrange", "(II)Z"⟩, prog_12_method_82_code, 5, (some FieldType.boolean))
def m_M_laysBest : MI := (⟨"SignSquaresModel", "laysBest", "(II)Z"⟩, prog_12_method_81_code, 5, (some FieldType.boolean))
def m_M_laysAllForms : MI := (⟨"SignSquaresModel", "laysAllForms", "()V"⟩, prog_12_method_75_code, 5, none)
def m_M_laysForms : MI := (⟨"SignSquaresModel", "laysForms", "(III)V"⟩, prog_12_method_74_code, 9, none)
def m_M_addsForm : MI := (⟨"SignSquaresModel", "addsForm", "(IIIZI)V"⟩, prog_12_method_72_code, 9, none)
def m_M_keepsForm : MI := (⟨"SignSquaresModel", "keepsForm", "(II)V"⟩, prog_12_method_73_code, 5, none)
def m_M_laysItems : MI := (⟨"SignSquaresModel", "laysItems", "()V"⟩, prog_12_method_76_code, 3, none)
def m_M_forms : MI := (⟨"SignSquaresModel", "forms", "(IZ)V"⟩, prog_12_method_77_code, 7, none)
def m_M_compares : MI := (⟨"SignSquaresModel", "compares", "()V"⟩, prog_12_method_80_code, 4, none)
def m_M_bracketsInText : MI := (⟨"SignSquaresModel", "bracketsInText", "()I"⟩, prog_12_method_78_code, 3, (some FieldType.int))
def m_M_isAhead : MI := (⟨"SignSquaresModel", "isAhead", "()Z"⟩, prog_12_method_79_code, 2, (some FieldType.boolean))
def m_M_ways : MI := (⟨"SignSquaresModel", "ways", "(II)I"⟩, prog_12_method_83_code, 3, (some FieldType.int))
def m_M_best : MI := (⟨"SignSquaresModel", "best", "(III)I"⟩, prog_12_method_84_code, 4, (some FieldType.int))
def m_M_bestText : MI := (⟨"SignSquaresModel", "bestText", "(III)I"⟩, prog_12_method_85_code, 4, (some FieldType.int))
def m_M_joined : MI := (⟨"SignSquaresModel", "joined", "(III)I"⟩, prog_12_method_86_code, 5, (some FieldType.int))
def m_M_sign : MI := (⟨"SignSquaresModel", "sign", "(II)I"⟩, prog_12_method_87_code, 3, (some FieldType.int))
def m_M_standing : MI := (⟨"SignSquaresModel", "standing", "(I)I"⟩, prog_12_method_88_code, 6, (some FieldType.int))
def m_M_line : MI := (⟨"SignSquaresModel", "line", "(II)I"⟩, prog_12_method_90_code, 3, (some FieldType.int))
def m_M_signsOfLine : MI := (⟨"SignSquaresModel", "signsOfLine", "(I)I"⟩, prog_12_method_89_code, 4, (some FieldType.int))
def m_M_square : MI := (⟨"SignSquaresModel", "square", "(III)I"⟩, prog_12_method_92_code, 8, (some FieldType.int))
def m_M_deepInText : MI := (⟨"SignSquaresModel", "deepInText", "()I"⟩, prog_12_method_91_code, 4, (some FieldType.int))
def m_M_letter : MI := (⟨"SignSquaresModel", "letter", "(III)I"⟩, prog_12_method_93_code, 5, (some FieldType.int))
def m_M_inside : MI := (⟨"SignSquaresModel", "inside", "(III)I"⟩, prog_12_method_94_code, 8, (some FieldType.int))
def m_M_same : MI := (⟨"SignSquaresModel", "same", "(IIII)I"⟩, prog_12_method_95_code, 8, (some FieldType.int))
def m_M_count : MI := (⟨"SignSquaresModel", "count", "(I)I"⟩, prog_12_method_96_code, 4, (some FieldType.int))
def m_M_feed : MI := (⟨"SignSquaresModel", "feed", "(IIIII)I"⟩, prog_12_method_97_code, 8, (some FieldType.int))
def m_M_back : MI := (⟨"SignSquaresModel", "back", "(I)I"⟩, prog_12_method_98_code, 2, (some FieldType.int))
def m_M_text : MI := (⟨"SignSquaresModel", "text", "()I"⟩, prog_12_method_120_code, 2, (some FieldType.int))
def m_M_goesOn : MI := (⟨"SignSquaresModel", "goesOn", "()V"⟩, prog_12_method_101_code, 5, none)
def m_M_here : MI := (⟨"SignSquaresModel", "here", "()I"⟩, prog_12_method_100_code, 1, (some FieldType.int))
def m_M_readsAll : MI := (⟨"SignSquaresModel", "readsAll", "()V"⟩, prog_12_method_119_code, 1, none)
def m_M_isWord : MI := (⟨"SignSquaresModel", "isWord", "(I)Z"⟩, prog_12_method_102_code, 4, (some FieldType.boolean))
def m_M_needsNumber : MI := (⟨"SignSquaresModel", "needsNumber", "(II)I"⟩, prog_12_method_105_code, 4, (some FieldType.int))
def m_M_needsMark : MI := (⟨"SignSquaresModel", "needsMark", "(I)V"⟩, prog_12_method_106_code, 2, none)
def m_M_isMark : MI := (⟨"SignSquaresModel", "isMark", "(I)Z"⟩, prog_12_method_103_code, 2, (some FieldType.boolean))
def m_M_readsSign : MI := (⟨"SignSquaresModel", "readsSign", "()V"⟩, prog_12_method_107_code, 6, none)
def m_M_letterHere : MI := (⟨"SignSquaresModel", "letterHere", "()I"⟩, prog_12_method_104_code, 1, (some FieldType.int))
def m_M_readsLine : MI := (⟨"SignSquaresModel", "readsLine", "()V"⟩, prog_12_method_118_code, 6, none)
def m_M_readsSquare : MI := (⟨"SignSquaresModel", "readsSquare", "()V"⟩, prog_12_method_117_code, 3, none)
def m_M_opensGroup : MI := (⟨"SignSquaresModel", "opensGroup", "(I)V"⟩, prog_12_method_109_code, 2, none)
def m_M_node : MI := (⟨"SignSquaresModel", "node", "(I)I"⟩, prog_12_method_108_code, 2, (some FieldType.int))
def m_M_beginsPart : MI := (⟨"SignSquaresModel", "beginsPart", "()I"⟩, prog_12_method_114_code, 3, (some FieldType.int))
def m_M_endsPart : MI := (⟨"SignSquaresModel", "endsPart", "(I)Z"⟩, prog_12_method_115_code, 5, (some FieldType.boolean))
def m_M_appends : MI := (⟨"SignSquaresModel", "appends", "(II)V"⟩, prog_12_method_110_code, 5, none)
def m_M_endsRow : MI := (⟨"SignSquaresModel", "endsRow", "()V"⟩, prog_12_method_112_code, 2, none)
def m_M_only : MI := (⟨"SignSquaresModel", "only", "(III)I"⟩, prog_12_method_111_code, 3, (some FieldType.int))
def m_M_endsGroup : MI := (⟨"SignSquaresModel", "endsGroup", "()I"⟩, prog_12_method_113_code, 2, (some FieldType.int))
def m_M_flattens : MI := (⟨"SignSquaresModel", "flattens", "(I)V"⟩, prog_12_method_116_code, 6, none)
