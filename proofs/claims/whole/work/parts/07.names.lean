/-! The classes' names, fields and types, as printed in the claim's names. -/
def RX0 : String := "PairTree$Box"
def TX0 : u_T := fun k => match k with
  | 0 => ("PairTree$Box", "full", "Z", false)
  | 1 => ("PairTree$Box", "seed", "I", false)
  | _ => ("PairTree$Box", "grids", "[LPairTree$Grid;", true)
def tyX0 : Nat → FieldType := fun k => match k with
  | 0 => .boolean
  | 1 => .int
  | _ => .array (.object "PairTree$Grid")
abbrev wsX00 : List Cond := u_ws RX0 TX0 3
theorem nmX0 : ∀ a, a < 3 → ∀ b, b < 3 → a ≠ b → (TX0 a).2.1 ≠ (TX0 b).2.1 := by decide +kernel
theorem tyX0_ok : ∀ k, k < 3 → parseFieldDescriptor (TX0 k).2.2.1 = some (tyX0 k) := by decide +kernel
def RX1 : String := "PairTree$Formula"
def TX1 : u_T := fun k => match k with
  | 0 => ("PairTree$Formula", "line", "[I", true)
  | 1 => ("PairTree$Formula", "many", "I", false)
  | _ => ("PairTree$Formula", "open", "[I", true)
def tyX1 : Nat → FieldType := fun k => match k with
  | 0 => .array .int
  | 1 => .int
  | _ => .array .int
abbrev wsX10 : List Cond := u_ws RX1 TX1 3
theorem nmX1 : ∀ a, a < 3 → ∀ b, b < 3 → a ≠ b → (TX1 a).2.1 ≠ (TX1 b).2.1 := by decide +kernel
theorem tyX1_ok : ∀ k, k < 3 → parseFieldDescriptor (TX1 k).2.2.1 = some (tyX1 k) := by decide +kernel
def RX2 : String := "PairTree$Grid"
def TX2 : u_T := fun k => match k with
  | 0 => ("PairTree$Grid", "rows", "[I", true)
  | _ => ("PairTree$Grid", "size", "I", false)
def tyX2 : Nat → FieldType := fun k => match k with
  | 0 => .array .int
  | _ => .int
abbrev wsX20 : List Cond := u_ws RX2 TX2 2
theorem nmX2 : ∀ a, a < 2 → ∀ b, b < 2 → a ≠ b → (TX2 a).2.1 ≠ (TX2 b).2.1 := by decide +kernel
theorem tyX2_ok : ∀ k, k < 2 → parseFieldDescriptor (TX2 k).2.2.1 = some (tyX2 k) := by decide +kernel
def RX3 : String := "PairTree$History"
def TX3 : u_T := fun k => match k with
  | 0 => ("PairTree$History", "kept", "I", false)
  | 1 => ("PairTree$History", "done", "I", false)
  | 2 => ("PairTree$History", "oldest", "I", false)
  | 3 => ("PairTree$History", "rels", "[I", true)
  | 4 => ("PairTree$History", "turned", "[[I", true)
  | 5 => ("PairTree$History", "seedsBefore", "[I", true)
  | _ => ("PairTree$History", "seedsAfter", "[I", true)
def tyX3 : Nat → FieldType := fun k => match k with
  | 0 => .int
  | 1 => .int
  | 2 => .int
  | 3 => .array .int
  | 4 => .array (.array .int)
  | 5 => .array .int
  | _ => .array .int
abbrev wsX30 : List Cond := u_ws RX3 TX3 7
theorem nmX3 : ∀ a, a < 7 → ∀ b, b < 7 → a ≠ b → (TX3 a).2.1 ≠ (TX3 b).2.1 := by decide +kernel
theorem tyX3_ok : ∀ k, k < 7 → parseFieldDescriptor (TX3 k).2.2.1 = some (tyX3 k) := by decide +kernel
def RX4 : String := "PairTree$Plan"
def TX4 : u_T := fun k => match k with
  | 0 => ("PairTree$Plan", "levels", "I", false)
  | 1 => ("PairTree$Plan", "relations", "I", false)
  | 2 => ("PairTree$Plan", "told", "I", false)
  | 3 => ("PairTree$Plan", "drift", "I", false)
  | 4 => ("PairTree$Plan", "draw", "I", false)
  | 5 => ("PairTree$Plan", "units", "I", false)
  | 6 => ("PairTree$Plan", "keep", "LPairTree$Formula;", true)
  | 7 => ("PairTree$Plan", "names", "[J", true)
  | 8 => ("PairTree$Plan", "grids", "[LPairTree$Grid;", true)
  | 9 => ("PairTree$Plan", "xParts", "[I", true)
  | _ => ("PairTree$Plan", "xMany", "I", false)
def tyX4 : Nat → FieldType := fun k => match k with
  | 0 => .int
  | 1 => .int
  | 2 => .int
  | 3 => .int
  | 4 => .int
  | 5 => .int
  | 6 => .object "PairTree$Formula"
  | 7 => .array .long
  | 8 => .array (.object "PairTree$Grid")
  | 9 => .array .int
  | _ => .int
abbrev wsX40 : List Cond := u_ws RX4 TX4 11
theorem nmX4 : ∀ a, a < 11 → ∀ b, b < 11 → a ≠ b → (TX4 a).2.1 ≠ (TX4 b).2.1 := by decide +kernel
theorem tyX4_ok : ∀ k, k < 11 → parseFieldDescriptor (TX4 k).2.2.1 = some (tyX4 k) := by decide +kernel
def RX5 : String := "PairTree$Reader"
def TX5 : u_T := fun k => match k with
  | 0 => ("PairTree$Reader", "fault", "I", false)
  | 1 => ("PairTree$Reader", "faultPlace", "I", false)
  | 2 => ("PairTree$Reader", "scanner", "LPairTree$Scanner;", true)
  | 3 => ("PairTree$Reader", "plan", "LPairTree$Plan;", false)
  | 4 => ("PairTree$Reader", "linesTold", "I", false)
  | _ => ("PairTree$Reader", "leaves", "I", false)
def tyX5 : Nat → FieldType := fun k => match k with
  | 0 => .int
  | 1 => .int
  | 2 => .object "PairTree$Scanner"
  | 3 => .object "PairTree$Plan"
  | 4 => .int
  | _ => .int
abbrev wsX50 : List Cond := u_ws RX5 TX5 6
theorem nmX5 : ∀ a, a < 6 → ∀ b, b < 6 → a ≠ b → (TX5 a).2.1 ≠ (TX5 b).2.1 := by decide +kernel
theorem tyX5_ok : ∀ k, k < 6 → parseFieldDescriptor (TX5 k).2.2.1 = some (tyX5 k) := by decide +kernel
def RX6 : String := "PairTree$Relations"
def TX6 : u_T := fun k => match k with
  | 0 => ("PairTree$Relations", "grids", "[LPairTree$Grid;", true)
  | 1 => ("PairTree$Relations", "seed", "I", false)
  | 2 => ("PairTree$Relations", "plan", "LPairTree$Plan;", false)
  | 3 => ("PairTree$Relations", "open", "[LPairTree$Grid;", true)
  | _ => ("PairTree$Relations", "spare", "LPairTree$Grid;", true)
def tyX6 : Nat → FieldType := fun k => match k with
  | 0 => .array (.object "PairTree$Grid")
  | 1 => .int
  | 2 => .object "PairTree$Plan"
  | 3 => .array (.object "PairTree$Grid")
  | _ => .object "PairTree$Grid"
abbrev wsX60 : List Cond := u_ws RX6 TX6 5
theorem nmX6 : ∀ a, a < 5 → ∀ b, b < 5 → a ≠ b → (TX6 a).2.1 ≠ (TX6 b).2.1 := by decide +kernel
theorem tyX6_ok : ∀ k, k < 5 → parseFieldDescriptor (TX6 k).2.2.1 = some (tyX6 k) := by decide +kernel
def RX7 : String := "PairTree$Scanner"
def TX7 : u_T := fun k => match k with
  | 0 => ("PairTree$Scanner", "kind", "I", false)
  | 1 => ("PairTree$Scanner", "place", "I", false)
  | 2 => ("PairTree$Scanner", "number", "I", false)
  | 3 => ("PairTree$Scanner", "name", "J", false)
  | 4 => ("PairTree$Scanner", "words", "[J", true)
  | 5 => ("PairTree$Scanner", "text", "[B", false)
  | 6 => ("PairTree$Scanner", "length", "I", false)
  | 7 => ("PairTree$Scanner", "next", "I", false)
  | _ => ("PairTree$Scanner", "halted", "Z", false)
def tyX7 : Nat → FieldType := fun k => match k with
  | 0 => .int
  | 1 => .int
  | 2 => .int
  | 3 => .long
  | 4 => .array .long
  | 5 => .array .byte
  | 6 => .int
  | 7 => .int
  | _ => .boolean
abbrev wsX70 : List Cond := u_ws RX7 TX7 9
theorem nmX7 : ∀ a, a < 9 → ∀ b, b < 9 → a ≠ b → (TX7 a).2.1 ≠ (TX7 b).2.1 := by decide +kernel
theorem tyX7_ok : ∀ k, k < 9 → parseFieldDescriptor (TX7 k).2.2.1 = some (tyX7 k) := by decide +kernel
def RX8 : String := "PairTree$Sightings"
def TX8 : u_T := fun k => match k with
  | 0 => ("PairTree$Sightings", "time", "I", false)
  | 1 => ("PairTree$Sightings", "many", "I", false)
  | 2 => ("PairTree$Sightings", "open", "Z", false)
  | 3 => ("PairTree$Sightings", "levels", "I", false)
  | 4 => ("PairTree$Sightings", "first", "LPairTree$Grid;", true)
  | 5 => ("PairTree$Sightings", "seenLevels", "[I", true)
  | 6 => ("PairTree$Sightings", "seenBlocks", "[I", true)
  | 7 => ("PairTree$Sightings", "seenPairs", "[I", true)
  | 8 => ("PairTree$Sightings", "pairsAsTold", "[I", true)
  | 9 => ("PairTree$Sightings", "wasSo", "[Z", true)
  | 10 => ("PairTree$Sightings", "toldAt", "[I", true)
  | 11 => ("PairTree$Sightings", "untoldAt", "[I", true)
  | 12 => ("PairTree$Sightings", "noneFits", "Z", false)
  | 13 => ("PairTree$Sightings", "fitting", "LPairTree$Grid;", true)
  | 14 => ("PairTree$Sightings", "takenOut", "LPairTree$Grid;", true)
  | _ => ("PairTree$Sightings", "putIn", "LPairTree$Grid;", true)
def tyX8 : Nat → FieldType := fun k => match k with
  | 0 => .int
  | 1 => .int
  | 2 => .boolean
  | 3 => .int
  | 4 => .object "PairTree$Grid"
  | 5 => .array .int
  | 6 => .array .int
  | 7 => .array .int
  | 8 => .array .int
  | 9 => .array .boolean
  | 10 => .array .int
  | 11 => .array .int
  | 12 => .boolean
  | 13 => .object "PairTree$Grid"
  | 14 => .object "PairTree$Grid"
  | _ => .object "PairTree$Grid"
abbrev wsX80 : List Cond := u_ws RX8 TX8 16
theorem nmX8 : ∀ a, a < 16 → ∀ b, b < 16 → a ≠ b → (TX8 a).2.1 ≠ (TX8 b).2.1 := by decide +kernel
theorem tyX8_ok : ∀ k, k < 16 → parseFieldDescriptor (TX8 k).2.2.1 = some (tyX8 k) := by decide +kernel
def RX9 : String := "PairTree$Steps"
def TX9 : u_T := fun k => match k with
  | 0 => ("PairTree$Steps", "here", "LPairTree$Grid;", true)
  | _ => ("PairTree$Steps", "next", "LPairTree$Grid;", true)
def tyX9 : Nat → FieldType := fun k => match k with
  | 0 => .object "PairTree$Grid"
  | _ => .object "PairTree$Grid"
abbrev wsX90 : List Cond := u_ws RX9 TX9 2
theorem nmX9 : ∀ a, a < 2 → ∀ b, b < 2 → a ≠ b → (TX9 a).2.1 ≠ (TX9 b).2.1 := by decide +kernel
theorem tyX9_ok : ∀ k, k < 2 → parseFieldDescriptor (TX9 k).2.2.1 = some (tyX9 k) := by decide +kernel
def RX10 : String := "PairTree$Tree"
def TX10 : u_T := fun k => match k with
  | 0 => ("PairTree$Tree", "filled", "[LPairTree$Grid;", true)
  | 1 => ("PairTree$Tree", "bitLevels", "[I", true)
  | 2 => ("PairTree$Tree", "bitRows", "[I", true)
  | 3 => ("PairTree$Tree", "bitColumns", "[I", true)
  | 4 => ("PairTree$Tree", "laid", "I", false)
  | _ => ("PairTree$Tree", "levels", "I", false)
def tyX10 : Nat → FieldType := fun k => match k with
  | 0 => .array (.object "PairTree$Grid")
  | 1 => .array .int
  | 2 => .array .int
  | 3 => .array .int
  | 4 => .int
  | _ => .int
abbrev wsX100 : List Cond := u_ws RX10 TX10 6
theorem nmX10 : ∀ a, a < 6 → ∀ b, b < 6 → a ≠ b → (TX10 a).2.1 ≠ (TX10 b).2.1 := by decide +kernel
theorem tyX10_ok : ∀ k, k < 6 → parseFieldDescriptor (TX10 k).2.2.1 = some (tyX10 k) := by decide +kernel
def RX11 : String := "PairTree"
def TX11 : u_T := fun k => match k with
  | 0 => ("PairTree", "tape", "[B", true)
  | 1 => ("PairTree", "taped", "I", false)
  | 2 => ("PairTree", "plan", "LPairTree$Plan;", false)
  | 3 => ("PairTree", "draft", "LPairTree$Plan;", false)
  | 4 => ("PairTree", "reader", "LPairTree$Reader;", true)
  | 5 => ("PairTree", "relations", "LPairTree$Relations;", true)
  | 6 => ("PairTree", "history", "LPairTree$History;", true)
  | 7 => ("PairTree", "boxes", "[LPairTree$Box;", true)
  | 8 => ("PairTree", "sightings", "LPairTree$Sightings;", true)
  | 9 => ("PairTree", "tree", "LPairTree$Tree;", true)
  | 10 => ("PairTree", "otherTree", "LPairTree$Tree;", true)
  | 11 => ("PairTree", "made", "LPairTree$Grid;", true)
  | 12 => ("PairTree", "steps", "LPairTree$Steps;", true)
  | 13 => ("PairTree", "lying", "[I", true)
  | _ => ("PairTree", "lyingMany", "I", false)
def tyX11 : Nat → FieldType := fun k => match k with
  | 0 => .array .byte
  | 1 => .int
  | 2 => .object "PairTree$Plan"
  | 3 => .object "PairTree$Plan"
  | 4 => .object "PairTree$Reader"
  | 5 => .object "PairTree$Relations"
  | 6 => .object "PairTree$History"
  | 7 => .array (.object "PairTree$Box")
  | 8 => .object "PairTree$Sightings"
  | 9 => .object "PairTree$Tree"
  | 10 => .object "PairTree$Tree"
  | 11 => .object "PairTree$Grid"
  | 12 => .object "PairTree$Steps"
  | 13 => .array .int
  | _ => .int
abbrev wsX110 : List Cond := u_ws RX11 TX11 15
theorem nmX11 : ∀ a, a < 15 → ∀ b, b < 15 → a ≠ b → (TX11 a).2.1 ≠ (TX11 b).2.1 := by decide +kernel
theorem tyX11_ok : ∀ k, k < 15 → parseFieldDescriptor (TX11 k).2.2.1 = some (tyX11 k) := by decide +kernel
def RX12 : String := "PairTreeModel"
def TX12 : u_T := fun k => match k with
  | 0 => ("PairTreeModel", "tape", "[I", true)
  | 1 => ("PairTreeModel", "taped", "I", false)
  | 2 => ("PairTreeModel", "size", "I", false)
  | 3 => ("PairTreeModel", "at", "I", false)
  | 4 => ("PairTreeModel", "place", "I", false)
  | 5 => ("PairTreeModel", "sort", "I", false)
  | 6 => ("PairTreeModel", "number", "I", false)
  | 7 => ("PairTreeModel", "fault", "I", false)
  | 8 => ("PairTreeModel", "faultPlace", "I", false)
  | 9 => ("PairTreeModel", "toldFault", "I", false)
  | 10 => ("PairTreeModel", "toldPlace", "I", false)
  | 11 => ("PairTreeModel", "word", "J", false)
  | 12 => ("PairTreeModel", "levels", "[I", true)
  | 13 => ("PairTreeModel", "rels", "[I", true)
  | 14 => ("PairTreeModel", "drifts", "[I", true)
  | 15 => ("PairTreeModel", "draws", "[I", true)
  | 16 => ("PairTreeModel", "keeps", "[I", true)
  | 17 => ("PairTreeModel", "units", "[I", true)
  | 18 => ("PairTreeModel", "names", "[J", true)
  | 19 => ("PairTreeModel", "isTold", "[I", true)
  | 20 => ("PairTreeModel", "codeFrom", "[I", true)
  | 21 => ("PairTreeModel", "codeMany", "[I", true)
  | 22 => ("PairTreeModel", "toldRows", "[I", true)
  | 23 => ("PairTreeModel", "code", "[I", true)
  | 24 => ("PairTreeModel", "keepCode", "[I", true)
  | 25 => ("PairTreeModel", "codes", "I", false)
  | 26 => ("PairTreeModel", "leaves", "I", false)
  | 27 => ("PairTreeModel", "hasLevels", "Z", false)
  | 28 => ("PairTreeModel", "hasKeep", "Z", false)
  | 29 => ("PairTreeModel", "hasDrift", "Z", false)
  | 30 => ("PairTreeModel", "hasDraw", "Z", false)
  | 31 => ("PairTreeModel", "open", "[I", true)
  | 32 => ("PairTreeModel", "opens", "I", false)
  | 33 => ("PairTreeModel", "deep", "I", false)
  | 34 => ("PairTreeModel", "now", "[I", true)
  | 35 => ("PairTreeModel", "past", "[I", true)
  | 36 => ("PairTreeModel", "acts", "I", false)
  | 37 => ("PairTreeModel", "undone", "I", false)
  | 38 => ("PairTreeModel", "all", "[I", true)
  | 39 => ("PairTreeModel", "stack", "[I", true)
  | 40 => ("PairTreeModel", "made", "[I", true)
  | 41 => ("PairTreeModel", "more", "[I", true)
  | 42 => ("PairTreeModel", "top", "I", false)
  | 43 => ("PairTreeModel", "bitLevel", "[I", true)
  | 44 => ("PairTreeModel", "bitRow", "[I", true)
  | 45 => ("PairTreeModel", "bitColumn", "[I", true)
  | 46 => ("PairTreeModel", "bitOn", "[I", true)
  | 47 => ("PairTreeModel", "bits", "I", false)
  | 48 => ("PairTreeModel", "values", "[I", true)
  | 49 => ("PairTreeModel", "lies", "[I", true)
  | 50 => ("PairTreeModel", "lain", "I", false)
  | 51 => ("PairTreeModel", "seenLevel", "[I", true)
  | 52 => ("PairTreeModel", "seenBlock", "[I", true)
  | 53 => ("PairTreeModel", "seenMany", "[I", true)
  | 54 => ("PairTreeModel", "seenIs", "[I", true)
  | 55 => ("PairTreeModel", "toldAt", "[I", true)
  | 56 => ("PairTreeModel", "untoldAt", "[I", true)
  | 57 => ("PairTreeModel", "seens", "I", false)
  | 58 => ("PairTreeModel", "time", "I", false)
  | 59 => ("PairTreeModel", "firstRows", "[I", true)
  | 60 => ("PairTreeModel", "isFit", "[I", true)
  | 61 => ("PairTreeModel", "often", "[I", true)
  | 62 => ("PairTreeModel", "boxes", "[I", true)
  | _ => ("PairTreeModel", "isThere", "[Z", true)
def tyX12 : Nat → FieldType := fun k => match k with
  | 0 => .array .int
  | 1 => .int
  | 2 => .int
  | 3 => .int
  | 4 => .int
  | 5 => .int
  | 6 => .int
  | 7 => .int
  | 8 => .int
  | 9 => .int
  | 10 => .int
  | 11 => .long
  | 12 => .array .int
  | 13 => .array .int
  | 14 => .array .int
  | 15 => .array .int
  | 16 => .array .int
  | 17 => .array .int
  | 18 => .array .long
  | 19 => .array .int
  | 20 => .array .int
  | 21 => .array .int
  | 22 => .array .int
  | 23 => .array .int
  | 24 => .array .int
  | 25 => .int
  | 26 => .int
  | 27 => .boolean
  | 28 => .boolean
  | 29 => .boolean
  | 30 => .boolean
  | 31 => .array .int
  | 32 => .int
  | 33 => .int
  | 34 => .array .int
  | 35 => .array .int
  | 36 => .int
  | 37 => .int
  | 38 => .array .int
  | 39 => .array .int
  | 40 => .array .int
  | 41 => .array .int
  | 42 => .int
  | 43 => .array .int
  | 44 => .array .int
  | 45 => .array .int
  | 46 => .array .int
  | 47 => .int
  | 48 => .array .int
  | 49 => .array .int
  | 50 => .int
  | 51 => .array .int
  | 52 => .array .int
  | 53 => .array .int
  | 54 => .array .int
  | 55 => .array .int
  | 56 => .array .int
  | 57 => .int
  | 58 => .int
  | 59 => .array .int
  | 60 => .array .int
  | 61 => .array .int
  | 62 => .array .int
  | _ => .array .boolean
abbrev wsX120 : List Cond := u_ws RX12 TX12 64
theorem nmX12 : ∀ a, a < 64 → ∀ b, b < 64 → a ≠ b → (TX12 a).2.1 ≠ (TX12 b).2.1 := by decide +kernel
theorem tyX12_ok : ∀ k, k < 64 → parseFieldDescriptor (TX12 k).2.2.1 = some (tyX12 k) := by decide +kernel
abbrev vwCl : List vw_C := [(RX0, TX0, 3), (RX1, TX1, 3), (RX2, TX2, 2), (RX3, TX3, 7), (RX4, TX4, 11), (RX5, TX5, 6), (RX6, TX6, 5), (RX7, TX7, 9), (RX8, TX8, 16), (RX9, TX9, 2), (RX10, TX10, 6), (RX11, TX11, 15), (RX12, TX12, 64)]
