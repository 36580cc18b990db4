def RX0 : String := "ItalicsLean$Guess"
def TX0 : u_T := fun k => match k with
  | 0 => ("ItalicsLean$Guess", "count", "I", false)
  | 1 => ("ItalicsLean$Guess", "pairs", "[I", true)
  | 2 => ("ItalicsLean$Guess", "alike", "[I", true)
  | _ => ("ItalicsLean$Guess", "laws", "LItalicsLean$Laws;", true)
def tyX0 : Nat → FieldType := fun k => match k with
  | 0 => .int
  | 1 => .array .int
  | 2 => .array .int
  | _ => .object "ItalicsLean$Laws"
theorem nmX0 : ∀ a, a < 4 → ∀ b, b < 4 → a ≠ b → (TX0 a).2.1 ≠ (TX0 b).2.1 := by decide +kernel
theorem tyX0_ok : ∀ k, k < 4 → parseFieldDescriptor (TX0 k).2.2.1 = some (tyX0 k) := by decide +kernel
def RX1 : String := "ItalicsLean$Laws"
def TX1 : u_T := fun k => match k with
  | 0 => ("ItalicsLean$Laws", "names", "[I", true)
  | 1 => ("ItalicsLean$Laws", "stack", "[I", true)
  | _ => ("ItalicsLean$Laws", "top", "I", false)
def tyX1 : Nat → FieldType := fun k => match k with
  | 0 => .array .int
  | 1 => .array .int
  | _ => .int
theorem nmX1 : ∀ a, a < 3 → ∀ b, b < 3 → a ≠ b → (TX1 a).2.1 ≠ (TX1 b).2.1 := by decide +kernel
theorem tyX1_ok : ∀ k, k < 3 → parseFieldDescriptor (TX1 k).2.2.1 = some (tyX1 k) := by decide +kernel
def RX2 : String := "ItalicsLean$Odds"
def TX2 : u_T := fun k => match k with
  | 0 => ("ItalicsLean$Odds", "ways", "[J", true)
  | _ => ("ItalicsLean$Odds", "before", "[J", true)
def tyX2 : Nat → FieldType := fun k => match k with
  | 0 => .array .long
  | _ => .array .long
theorem nmX2 : ∀ a, a < 2 → ∀ b, b < 2 → a ≠ b → (TX2 a).2.1 ≠ (TX2 b).2.1 := by decide +kernel
theorem tyX2_ok : ∀ k, k < 2 → parseFieldDescriptor (TX2 k).2.2.1 = some (tyX2 k) := by decide +kernel
def RX3 : String := "ItalicsLean$Page"
def TX3 : u_T := fun k => match k with
  | 0 => ("ItalicsLean$Page", "badness", "[I", true)
  | 1 => ("ItalicsLean$Page", "lines", "[I", true)
  | 2 => ("ItalicsLean$Page", "next", "[I", true)
  | _ => ("ItalicsLean$Page", "words", "I", false)
def tyX3 : Nat → FieldType := fun k => match k with
  | 0 => .array .int
  | 1 => .array .int
  | 2 => .array .int
  | _ => .int
theorem nmX3 : ∀ a, a < 4 → ∀ b, b < 4 → a ≠ b → (TX3 a).2.1 ≠ (TX3 b).2.1 := by decide +kernel
theorem tyX3_ok : ∀ k, k < 4 → parseFieldDescriptor (TX3 k).2.2.1 = some (tyX3 k) := by decide +kernel
def RX4 : String := "ItalicsLean$Reader"
def TX4 : u_T := fun k => match k with
  | 0 => ("ItalicsLean$Reader", "length", "I", false)
  | 1 => ("ItalicsLean$Reader", "hasRead", "Z", false)
  | 2 => ("ItalicsLean$Reader", "fault", "I", false)
  | 3 => ("ItalicsLean$Reader", "place", "I", false)
  | 4 => ("ItalicsLean$Reader", "bytes", "[I", true)
  | 5 => ("ItalicsLean$Reader", "text", "LItalicsLean$Text;", false)
  | 6 => ("ItalicsLean$Reader", "inLeans", "Z", false)
  | 7 => ("ItalicsLean$Reader", "kind", "I", false)
  | 8 => ("ItalicsLean$Reader", "start", "I", false)
  | 9 => ("ItalicsLean$Reader", "stop", "I", false)
  | _ => ("ItalicsLean$Reader", "number", "I", false)
def tyX4 : Nat → FieldType := fun k => match k with
  | 0 => .int
  | 1 => .boolean
  | 2 => .int
  | 3 => .int
  | 4 => .array .int
  | 5 => .object "ItalicsLean$Text"
  | 6 => .boolean
  | 7 => .int
  | 8 => .int
  | 9 => .int
  | _ => .int
theorem nmX4 : ∀ a, a < 11 → ∀ b, b < 11 → a ≠ b → (TX4 a).2.1 ≠ (TX4 b).2.1 := by decide +kernel
theorem tyX4_ok : ∀ k, k < 11 → parseFieldDescriptor (TX4 k).2.2.1 = some (tyX4 k) := by decide +kernel
def RX5 : String := "ItalicsLean$Row"
def TX5 : u_T := fun k => match k with
  | 0 => ("ItalicsLean$Row", "people", "I", false)
  | 1 => ("ItalicsLean$Row", "propped", "I", false)
  | 2 => ("ItalicsLean$Row", "wind", "I", false)
  | 3 => ("ItalicsLean$Row", "year", "I", false)
  | 4 => ("ItalicsLean$Row", "x", "I", false)
  | 5 => ("ItalicsLean$Row", "booked", "I", false)
  | 6 => ("ItalicsLean$Row", "slant", "[I", true)
  | 7 => ("ItalicsLean$Row", "weight", "[I", true)
  | 8 => ("ItalicsLean$Row", "asTold", "[I", true)
  | 9 => ("ItalicsLean$Row", "sitter", "[I", true)
  | _ => ("ItalicsLean$Row", "book", "[I", true)
def tyX5 : Nat → FieldType := fun k => match k with
  | 0 => .int
  | 1 => .int
  | 2 => .int
  | 3 => .int
  | 4 => .int
  | 5 => .int
  | 6 => .array .int
  | 7 => .array .int
  | 8 => .array .int
  | 9 => .array .int
  | _ => .array .int
theorem nmX5 : ∀ a, a < 11 → ∀ b, b < 11 → a ≠ b → (TX5 a).2.1 ≠ (TX5 b).2.1 := by decide +kernel
theorem tyX5_ok : ∀ k, k < 11 → parseFieldDescriptor (TX5 k).2.2.1 = some (tyX5 k) := by decide +kernel
def RX6 : String := "ItalicsLean$Steps"
def TX6 : u_T := fun k => match k with
  | 0 => ("ItalicsLean$Steps", "kept", "I", false)
  | 1 => ("ItalicsLean$Steps", "eldest", "I", false)
  | _ => ("ItalicsLean$Steps", "saved", "[I", true)
def tyX6 : Nat → FieldType := fun k => match k with
  | 0 => .int
  | 1 => .int
  | _ => .array .int
theorem nmX6 : ∀ a, a < 3 → ∀ b, b < 3 → a ≠ b → (TX6 a).2.1 ≠ (TX6 b).2.1 := by decide +kernel
theorem tyX6_ok : ∀ k, k < 3 → parseFieldDescriptor (TX6 k).2.2.1 = some (tyX6 k) := by decide +kernel
def RX7 : String := "ItalicsLean$Text"
def TX7 : u_T := fun k => match k with
  | 0 => ("ItalicsLean$Text", "clauses", "I", false)
  | 1 => ("ItalicsLean$Text", "size", "I", false)
  | 2 => ("ItalicsLean$Text", "leansAt", "I", false)
  | 3 => ("ItalicsLean$Text", "hearsAt", "I", false)
  | 4 => ("ItalicsLean$Text", "kinds", "[I", true)
  | 5 => ("ItalicsLean$Text", "firsts", "[I", true)
  | 6 => ("ItalicsLean$Text", "seconds", "[I", true)
  | _ => ("ItalicsLean$Text", "code", "[I", true)
def tyX7 : Nat → FieldType := fun k => match k with
  | 0 => .int
  | 1 => .int
  | 2 => .int
  | 3 => .int
  | 4 => .array .int
  | 5 => .array .int
  | 6 => .array .int
  | _ => .array .int
theorem nmX7 : ∀ a, a < 8 → ∀ b, b < 8 → a ≠ b → (TX7 a).2.1 ≠ (TX7 b).2.1 := by decide +kernel
theorem tyX7_ok : ∀ k, k < 8 → parseFieldDescriptor (TX7 k).2.2.1 = some (tyX7 k) := by decide +kernel
def RX8 : String := "ItalicsLean$Told"
def TX8 : u_T := fun k => match k with
  | 0 => ("ItalicsLean$Told", "texts", "I", false)
  | 1 => ("ItalicsLean$Told", "ruling", "I", false)
  | 2 => ("ItalicsLean$Told", "barred", "I", false)
  | 3 => ("ItalicsLean$Told", "words", "I", false)
  | 4 => ("ItalicsLean$Told", "heard", "I", false)
  | 5 => ("ItalicsLean$Told", "said", "I", false)
  | 6 => ("ItalicsLean$Told", "racks", "[I", true)
  | 7 => ("ItalicsLean$Told", "widths", "[I", true)
  | 8 => ("ItalicsLean$Told", "heardWho", "[I", true)
  | 9 => ("ItalicsLean$Told", "heardAs", "[I", true)
  | 10 => ("ItalicsLean$Told", "saidWho", "[I", true)
  | _ => ("ItalicsLean$Told", "saidLeans", "[I", true)
def tyX8 : Nat → FieldType := fun k => match k with
  | 0 => .int
  | 1 => .int
  | 2 => .int
  | 3 => .int
  | 4 => .int
  | 5 => .int
  | 6 => .array .int
  | 7 => .array .int
  | 8 => .array .int
  | 9 => .array .int
  | 10 => .array .int
  | _ => .array .int
theorem nmX8 : ∀ a, a < 12 → ∀ b, b < 12 → a ≠ b → (TX8 a).2.1 ≠ (TX8 b).2.1 := by decide +kernel
theorem tyX8_ok : ∀ k, k < 12 → parseFieldDescriptor (TX8 k).2.2.1 = some (tyX8 k) := by decide +kernel
def RX9 : String := "ItalicsLean$Turns"
def TX9 : u_T := fun k => match k with
  | 0 => ("ItalicsLean$Turns", "people", "I", false)
  | 1 => ("ItalicsLean$Turns", "sitting", "[I", true)
  | 2 => ("ItalicsLean$Turns", "orderBehind", "[I", true)
  | 3 => ("ItalicsLean$Turns", "turnedBy", "[I", true)
  | _ => ("ItalicsLean$Turns", "far", "[I", true)
def tyX9 : Nat → FieldType := fun k => match k with
  | 0 => .int
  | 1 => .array .int
  | 2 => .array .int
  | 3 => .array .int
  | _ => .array .int
theorem nmX9 : ∀ a, a < 5 → ∀ b, b < 5 → a ≠ b → (TX9 a).2.1 ≠ (TX9 b).2.1 := by decide +kernel
theorem tyX9_ok : ∀ k, k < 5 → parseFieldDescriptor (TX9 k).2.2.1 = some (tyX9 k) := by decide +kernel
def RX10 : String := "ItalicsLean"
def TX10 : u_T := fun k => match k with
  | 0 => ("ItalicsLean", "row", "LItalicsLean$Row;", true)
  | 1 => ("ItalicsLean", "steps", "LItalicsLean$Steps;", true)
  | 2 => ("ItalicsLean", "told", "LItalicsLean$Told;", true)
  | 3 => ("ItalicsLean", "imageRow", "LItalicsLean$Row;", true)
  | 4 => ("ItalicsLean", "imageSteps", "LItalicsLean$Steps;", true)
  | 5 => ("ItalicsLean", "imageTold", "LItalicsLean$Told;", true)
  | 6 => ("ItalicsLean", "draft", "LItalicsLean$Row;", true)
  | 7 => ("ItalicsLean", "texts", "[LItalicsLean$Text;", true)
  | 8 => ("ItalicsLean", "reader", "LItalicsLean$Reader;", true)
  | 9 => ("ItalicsLean", "laws", "LItalicsLean$Laws;", true)
  | 10 => ("ItalicsLean", "broken", "LItalicsLean$Page;", true)
  | 11 => ("ItalicsLean", "odds", "LItalicsLean$Odds;", true)
  | 12 => ("ItalicsLean", "seen", "[I", true)
  | 13 => ("ItalicsLean", "order", "[I", true)
  | 14 => ("ItalicsLean", "turns", "LItalicsLean$Turns;", false)
  | _ => ("ItalicsLean", "guess", "LItalicsLean$Guess;", false)
def tyX10 : Nat → FieldType := fun k => match k with
  | 0 => .object "ItalicsLean$Row"
  | 1 => .object "ItalicsLean$Steps"
  | 2 => .object "ItalicsLean$Told"
  | 3 => .object "ItalicsLean$Row"
  | 4 => .object "ItalicsLean$Steps"
  | 5 => .object "ItalicsLean$Told"
  | 6 => .object "ItalicsLean$Row"
  | 7 => .array (.object "ItalicsLean$Text")
  | 8 => .object "ItalicsLean$Reader"
  | 9 => .object "ItalicsLean$Laws"
  | 10 => .object "ItalicsLean$Page"
  | 11 => .object "ItalicsLean$Odds"
  | 12 => .array .int
  | 13 => .array .int
  | 14 => .object "ItalicsLean$Turns"
  | _ => .object "ItalicsLean$Guess"
theorem nmX10 : ∀ a, a < 16 → ∀ b, b < 16 → a ≠ b → (TX10 a).2.1 ≠ (TX10 b).2.1 := by decide +kernel
theorem tyX10_ok : ∀ k, k < 16 → parseFieldDescriptor (TX10 k).2.2.1 = some (tyX10 k) := by decide +kernel
def RX11 : String := "ItalicsLeanModel"
def TX11 : u_T := fun k => match k with
  | 0 => ("ItalicsLeanModel", "a", "[I", true)
  | 1 => ("ItalicsLeanModel", "image", "[I", true)
  | 2 => ("ItalicsLeanModel", "texts", "[I", true)
  | 3 => ("ItalicsLeanModel", "tape", "[I", true)
  | 4 => ("ItalicsLeanModel", "taped", "I", false)
  | 5 => ("ItalicsLeanModel", "fault", "I", false)
  | 6 => ("ItalicsLeanModel", "faultPlace", "I", false)
  | 7 => ("ItalicsLeanModel", "at", "I", false)
  | 8 => ("ItalicsLeanModel", "place", "I", false)
  | 9 => ("ItalicsLeanModel", "token", "I", false)
  | 10 => ("ItalicsLeanModel", "number", "I", false)
  | 11 => ("ItalicsLeanModel", "wordRead", "J", false)
  | 12 => ("ItalicsLeanModel", "text0", "I", false)
  | 13 => ("ItalicsLeanModel", "written", "I", false)
  | 14 => ("ItalicsLeanModel", "sort0", "I", false)
  | 15 => ("ItalicsLeanModel", "pile", "[I", true)
  | 16 => ("ItalicsLeanModel", "piled", "I", false)
  | 17 => ("ItalicsLeanModel", "opens", "I", false)
  | 18 => ("ItalicsLeanModel", "isWhole", "Z", false)
  | 19 => ("ItalicsLeanModel", "once", "I", false)
  | 20 => ("ItalicsLeanModel", "named", "[I", true)
  | 21 => ("ItalicsLeanModel", "values", "[J", true)
  | 22 => ("ItalicsLeanModel", "truth", "[Z", true)
  | 23 => ("ItalicsLeanModel", "isWritten", "Z", false)
  | 24 => ("ItalicsLeanModel", "straightened", "I", false)
  | 25 => ("ItalicsLeanModel", "aside", "[I", true)
  | 26 => ("ItalicsLeanModel", "codes", "[I", true)
  | 27 => ("ItalicsLeanModel", "fars", "[I", true)
  | 28 => ("ItalicsLeanModel", "queue", "[I", true)
  | 29 => ("ItalicsLeanModel", "digits", "[I", true)
  | 30 => ("ItalicsLeanModel", "row", "[I", true)
  | 31 => ("ItalicsLeanModel", "bestRow", "[I", true)
  | 32 => ("ItalicsLeanModel", "bads", "[I", true)
  | 33 => ("ItalicsLeanModel", "lines", "[I", true)
  | 34 => ("ItalicsLeanModel", "many", "[I", true)
  | 35 => ("ItalicsLeanModel", "classes", "[I", true)
  | 36 => ("ItalicsLeanModel", "slants", "[J", true)
  | 37 => ("ItalicsLeanModel", "next", "[J", true)
  | _ => ("ItalicsLeanModel", "wins", "[Z", true)
def tyX11 : Nat → FieldType := fun k => match k with
  | 0 => .array .int
  | 1 => .array .int
  | 2 => .array .int
  | 3 => .array .int
  | 4 => .int
  | 5 => .int
  | 6 => .int
  | 7 => .int
  | 8 => .int
  | 9 => .int
  | 10 => .int
  | 11 => .long
  | 12 => .int
  | 13 => .int
  | 14 => .int
  | 15 => .array .int
  | 16 => .int
  | 17 => .int
  | 18 => .boolean
  | 19 => .int
  | 20 => .array .int
  | 21 => .array .long
  | 22 => .array .boolean
  | 23 => .boolean
  | 24 => .int
  | 25 => .array .int
  | 26 => .array .int
  | 27 => .array .int
  | 28 => .array .int
  | 29 => .array .int
  | 30 => .array .int
  | 31 => .array .int
  | 32 => .array .int
  | 33 => .array .int
  | 34 => .array .int
  | 35 => .array .int
  | 36 => .array .long
  | 37 => .array .long
  | _ => .array .boolean
theorem nmX11 : ∀ a, a < 39 → ∀ b, b < 39 → a ≠ b → (TX11 a).2.1 ≠ (TX11 b).2.1 := by decide +kernel
theorem tyX11_ok : ∀ k, k < 39 → parseFieldDescriptor (TX11 k).2.2.1 = some (tyX11 k) := by decide +kernel
def RLW : String := "ItalicsLeanLaw"
def RN : Nat → String := fun k => match k with
  | 0 => RX0
  | 1 => RX1
  | 2 => RX2
  | 3 => RX3
  | 4 => RX4
  | 5 => RX5
  | 6 => RX6
  | 7 => RX7
  | 8 => RX8
  | 9 => RX9
  | 10 => RX10
  | 11 => RX11
  | _ => RLW
def TN : Nat → u_T := fun k => match k with
  | 0 => TX0
  | 1 => TX1
  | 2 => TX2
  | 3 => TX3
  | 4 => TX4
  | 5 => TX5
  | 6 => TX6
  | 7 => TX7
  | 8 => TX8
  | 9 => TX9
  | 10 => TX10
  | _ => TX11
def tyN : Nat → Nat → FieldType := fun k => match k with
  | 0 => tyX0
  | 1 => tyX1
  | 2 => tyX2
  | 3 => tyX3
  | 4 => tyX4
  | 5 => tyX5
  | 6 => tyX6
  | 7 => tyX7
  | 8 => tyX8
  | 9 => tyX9
  | 10 => tyX10
  | _ => tyX11
def NN : Nat → Nat := fun k => match k with
  | 0 => 4
  | 1 => 3
  | 2 => 2
  | 3 => 4
  | 4 => 11
  | 5 => 11
  | 6 => 3
  | 7 => 8
  | 8 => 12
  | 9 => 5
  | 10 => 16
  | _ => 39
/-- kinds of fields: 0 int, 1 long, 2 reference, 3 boolean -/
def KDL : List (List Nat) := [[0, 2, 2, 2], [2, 2, 0], [2, 2], [2, 2, 2, 0], [0, 3, 0, 0, 2, 2, 3, 0, 0, 0, 0], [0, 0, 0, 0, 0, 0, 2, 2, 2, 2, 2], [0, 0, 2], [0, 0, 0, 0, 2, 2, 2, 2], [0, 0, 0, 0, 0, 0, 2, 2, 2, 2, 2, 2], [0, 2, 2, 2, 2], [2, 2, 2, 2, 2, 2, 2, 2, 2, 2, 2, 2, 2, 2, 2, 2], [2, 2, 2, 2, 0, 0, 0, 0, 0, 0, 0, 1, 0, 0, 0, 2, 0, 0, 3, 0, 2, 2, 2, 3, 0, 2, 2, 2, 2, 2, 2, 2, 2, 2, 2, 2, 2, 2, 2]]
def KD (c k : Nat) : Nat := (KDL.getD c []).getD k 0
abbrev CLS : List vw_C := [(RX0, TX0, 4), (RX1, TX1, 3), (RX2, TX2, 2), (RX3, TX3, 4), (RX4, TX4, 11), (RX5, TX5, 11), (RX6, TX6, 3), (RX7, TX7, 8), (RX8, TX8, 12), (RX9, TX9, 5), (RX10, TX10, 16), (RX11, TX11, 39)]
theorem by_places {big ws : List Cond} (ps : List Nat) (h : ws = ps.filterMap (fun i => big[i]?)) : ∀ w ∈ ws, w ∈ big := by
  intro w hw
  rw [h] at hw
  obtain ⟨i, -, hi⟩ := List.mem_filterMap.mp hw
  exact List.mem_of_getElem? hi
set_option maxRecDepth 20000 in
theorem inX0 : ∀ w ∈ u_ws RX0 TX0 4, w ∈ lw_tbl := by_places [1088, 1090, 1092, 1094] (by decide +kernel)
set_option maxRecDepth 20000 in
theorem inX1 : ∀ w ∈ u_ws RX1 TX1 3, w ∈ lw_tbl := by_places [328, 330, 332] (by decide +kernel)
set_option maxRecDepth 20000 in
theorem inX2 : ∀ w ∈ u_ws RX2 TX2 2, w ∈ lw_tbl := by_places [364, 366] (by decide +kernel)
set_option maxRecDepth 20000 in
theorem inX3 : ∀ w ∈ u_ws RX3 TX3 4, w ∈ lw_tbl := by_places [347, 349, 351, 353] (by decide +kernel)
set_option maxRecDepth 20000 in
theorem inX4 : ∀ w ∈ u_ws RX4 TX4 11, w ∈ lw_tbl := by_places [296, 298, 300, 302, 304, 306, 308, 310, 312, 314, 316] (by decide +kernel)
set_option maxRecDepth 20000 in
theorem inX5 : ∀ w ∈ u_ws RX5 TX5 11, w ∈ lw_tbl := by_places [172, 174, 176, 178, 180, 182, 184, 186, 188, 190, 192] (by decide +kernel)
set_option maxRecDepth 20000 in
theorem inX6 : ∀ w ∈ u_ws RX6 TX6 3, w ∈ lw_tbl := by_places [206, 208, 210] (by decide +kernel)
set_option maxRecDepth 20000 in
theorem inX7 : ∀ w ∈ u_ws RX7 TX7 8, w ∈ lw_tbl := by_places [392, 394, 396, 398, 400, 402, 404, 406] (by decide +kernel)
set_option maxRecDepth 20000 in
theorem inX8 : ∀ w ∈ u_ws RX8 TX8 12, w ∈ lw_tbl := by_places [248, 250, 252, 254, 256, 258, 260, 262, 264, 266, 268, 270] (by decide +kernel)
set_option maxRecDepth 20000 in
theorem inX9 : ∀ w ∈ u_ws RX9 TX9 5, w ∈ lw_tbl := by_places [963, 965, 967, 969, 971] (by decide +kernel)
set_option maxRecDepth 20000 in
theorem inX10 : ∀ w ∈ u_ws RX10 TX10 16, w ∈ lw_tbl := by_places [425, 427, 429, 431, 433, 435, 437, 439, 441, 443, 445, 447, 449, 451, 453, 455] (by decide +kernel)
set_option maxRecDepth 20000 in
theorem inX11 : ∀ w ∈ u_ws RX11 TX11 39, w ∈ lw_tbl := by_places [1264, 1266, 1268, 1270, 1272, 1274, 1276, 1278, 1280, 1282, 1284, 1286, 1288, 1290, 1292, 1294, 1296, 1298, 1300, 1302, 1304, 1306, 1308, 1310, 1312, 1314, 1316, 1318, 1320, 1322, 1324, 1326, 1328, 1330, 1332, 1334, 1336, 1338, 1340] (by decide +kernel)
