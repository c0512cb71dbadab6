def RX0 : String := "OneEach$Move"
def TX0 : u_T := fun k => match k with
  | 0 => ("OneEach$Move", "kind", "I", false)
  | 1 => ("OneEach$Move", "who", "I", false)
  | 2 => ("OneEach$Move", "other", "I", false)
  | _ => ("OneEach$Move", "to", "I", false)
def tyX0 : Nat → FieldType := fun k => match k with
  | 0 => .int
  | 1 => .int
  | 2 => .int
  | _ => .int
theorem nmX0 : ∀ a, a < 4 → ∀ b, b < 4 → a ≠ b → (TX0 a).2.1 ≠ (TX0 b).2.1 := by decide +kernel
theorem tyX0_ok : ∀ k, k < 4 → parseFieldDescriptor (TX0 k).2.2.1 = some (tyX0 k) := by decide +kernel
def RX1 : String := "OneEach$Placing"
def TX1 : u_T := fun k => match k with
  | 0 => ("OneEach$Placing", "homes", "[I", true)
  | 1 => ("OneEach$Placing", "chosen", "[I", true)
  | 2 => ("OneEach$Placing", "people", "[I", true)
  | 3 => ("OneEach$Placing", "ownLoads", "[I", true)
  | 4 => ("OneEach$Placing", "gains", "[I", true)
  | 5 => ("OneEach$Placing", "hopes", "[I", true)
  | _ => ("OneEach$Placing", "greatest", "I", false)
def tyX1 : Nat → FieldType := fun k => match k with
  | 0 => .array .int
  | 1 => .array .int
  | 2 => .array .int
  | 3 => .array .int
  | 4 => .array .int
  | 5 => .array .int
  | _ => .int
theorem nmX1 : ∀ a, a < 7 → ∀ b, b < 7 → a ≠ b → (TX1 a).2.1 ≠ (TX1 b).2.1 := by decide +kernel
theorem tyX1_ok : ∀ k, k < 7 → parseFieldDescriptor (TX1 k).2.2.1 = some (tyX1 k) := by decide +kernel
def RX2 : String := "OneEach$Shelf"
def TX2 : u_T := fun k => match k with
  | 0 => ("OneEach$Shelf", "holds", "I", false)
  | 1 => ("OneEach$Shelf", "move", "LOneEach$Move;", true)
  | 2 => ("OneEach$Shelf", "sort", "I", false)
  | 3 => ("OneEach$Shelf", "size", "I", false)
  | _ => ("OneEach$Shelf", "elements", "[I", true)
def tyX2 : Nat → FieldType := fun k => match k with
  | 0 => .int
  | 1 => .object "OneEach$Move"
  | 2 => .int
  | 3 => .int
  | _ => .array .int
theorem nmX2 : ∀ a, a < 5 → ∀ b, b < 5 → a ≠ b → (TX2 a).2.1 ≠ (TX2 b).2.1 := by decide +kernel
theorem tyX2_ok : ∀ k, k < 5 → parseFieldDescriptor (TX2 k).2.2.1 = some (tyX2 k) := by decide +kernel
def RX3 : String := "OneEach$Town"
def TX3 : u_T := fun k => match k with
  | 0 => ("OneEach$Town", "streets", "I", false)
  | 1 => ("OneEach$Town", "houses", "[I", true)
  | 2 => ("OneEach$Town", "ways", "[I", true)
  | 3 => ("OneEach$Town", "people", "I", false)
  | 4 => ("OneEach$Town", "crafts", "[I", true)
  | 5 => ("OneEach$Town", "hides", "[I", true)
  | 6 => ("OneEach$Town", "ties", "[I", true)
  | 7 => ("OneEach$Town", "wishes", "[I", true)
  | 8 => ("OneEach$Town", "homes", "[I", true)
  | 9 => ("OneEach$Town", "each", "I", false)
  | 10 => ("OneEach$Town", "near", "I", false)
  | 11 => ("OneEach$Town", "counting", "I", false)
  | _ => ("OneEach$Town", "loads", "[I", true)
def tyX3 : Nat → FieldType := fun k => match k with
  | 0 => .int
  | 1 => .array .int
  | 2 => .array .int
  | 3 => .int
  | 4 => .array .int
  | 5 => .array .int
  | 6 => .array .int
  | 7 => .array .int
  | 8 => .array .int
  | 9 => .int
  | 10 => .int
  | 11 => .int
  | _ => .array .int
theorem nmX3 : ∀ a, a < 13 → ∀ b, b < 13 → a ≠ b → (TX3 a).2.1 ≠ (TX3 b).2.1 := by decide +kernel
theorem tyX3_ok : ∀ k, k < 13 → parseFieldDescriptor (TX3 k).2.2.1 = some (tyX3 k) := by decide +kernel
def RX4 : String := "OneEach$TownText"
def TX4 : u_T := fun k => match k with
  | 0 => ("OneEach$TownText", "bytes", "[I", false)
  | 1 => ("OneEach$TownText", "size", "I", false)
  | 2 => ("OneEach$TownText", "at", "I", false)
  | 3 => ("OneEach$TownText", "letter", "I", false)
  | 4 => ("OneEach$TownText", "first", "I", false)
  | 5 => ("OneEach$TownText", "second", "I", false)
  | 6 => ("OneEach$TownText", "number", "I", false)
  | 7 => ("OneEach$TownText", "set", "I", false)
  | _ => ("OneEach$TownText", "hidden", "I", false)
def tyX4 : Nat → FieldType := fun k => match k with
  | 0 => .array .int
  | 1 => .int
  | 2 => .int
  | 3 => .int
  | 4 => .int
  | 5 => .int
  | 6 => .int
  | 7 => .int
  | _ => .int
theorem nmX4 : ∀ a, a < 9 → ∀ b, b < 9 → a ≠ b → (TX4 a).2.1 ≠ (TX4 b).2.1 := by decide +kernel
theorem tyX4_ok : ∀ k, k < 9 → parseFieldDescriptor (TX4 k).2.2.1 = some (tyX4 k) := by decide +kernel
def RX5 : String := "OneEach$Trials"
def TX5 : u_T := fun k => match k with
  | 0 => ("OneEach$Trials", "mind", "LOneEach$Town;", true)
  | 1 => ("OneEach$Trials", "then", "LOneEach$Town;", true)
  | 2 => ("OneEach$Trials", "tried", "LOneEach$Move;", true)
  | 3 => ("OneEach$Trials", "worths", "[I", true)
  | 4 => ("OneEach$Trials", "steps", "[I", true)
  | 5 => ("OneEach$Trials", "waited", "[I", true)
  | _ => ("OneEach$Trials", "gone", "I", false)
def tyX5 : Nat → FieldType := fun k => match k with
  | 0 => .object "OneEach$Town"
  | 1 => .object "OneEach$Town"
  | 2 => .object "OneEach$Move"
  | 3 => .array .int
  | 4 => .array .int
  | 5 => .array .int
  | _ => .int
theorem nmX5 : ∀ a, a < 7 → ∀ b, b < 7 → a ≠ b → (TX5 a).2.1 ≠ (TX5 b).2.1 := by decide +kernel
theorem tyX5_ok : ∀ k, k < 7 → parseFieldDescriptor (TX5 k).2.2.1 = some (tyX5 k) := by decide +kernel
def RX6 : String := "OneEach"
def TX6 : u_T := fun k => match k with
  | 0 => ("OneEach", "town", "LOneEach$Town;", true)
  | 1 => ("OneEach", "pictured", "LOneEach$Town;", true)
  | 2 => ("OneEach", "draft", "LOneEach$Town;", true)
  | 3 => ("OneEach", "text", "LOneEach$TownText;", true)
  | 4 => ("OneEach", "placing", "LOneEach$Placing;", true)
  | 5 => ("OneEach", "trials", "LOneEach$Trials;", true)
  | 6 => ("OneEach", "shelves", "[LOneEach$Shelf;", true)
  | _ => ("OneEach", "hasPicture", "Z", false)
def tyX6 : Nat → FieldType := fun k => match k with
  | 0 => .object "OneEach$Town"
  | 1 => .object "OneEach$Town"
  | 2 => .object "OneEach$Town"
  | 3 => .object "OneEach$TownText"
  | 4 => .object "OneEach$Placing"
  | 5 => .object "OneEach$Trials"
  | 6 => .array (.object "OneEach$Shelf")
  | _ => .boolean
theorem nmX6 : ∀ a, a < 8 → ∀ b, b < 8 → a ≠ b → (TX6 a).2.1 ≠ (TX6 b).2.1 := by decide +kernel
theorem tyX6_ok : ∀ k, k < 8 → parseFieldDescriptor (TX6 k).2.2.1 = some (tyX6 k) := by decide +kernel
def RX7 : String := "OneEachModel"
def TX7 : u_T := fun k => match k with
  | 0 => ("OneEachModel", "s", "[I", true)
  | 1 => ("OneEachModel", "image", "[I", true)
  | 2 => ("OneEachModel", "read", "[I", true)
  | 3 => ("OneEachModel", "before", "[I", true)
  | 4 => ("OneEachModel", "now", "[I", true)
  | 5 => ("OneEachModel", "after", "[I", true)
  | 6 => ("OneEachModel", "kept", "[I", true)
  | 7 => ("OneEachModel", "sort", "[I", true)
  | 8 => ("OneEachModel", "size", "[I", true)
  | 9 => ("OneEachModel", "element", "[I", true)
  | 10 => ("OneEachModel", "moveKind", "[I", true)
  | 11 => ("OneEachModel", "moveWho", "[I", true)
  | 12 => ("OneEachModel", "moveOther", "[I", true)
  | 13 => ("OneEachModel", "moveTo", "[I", true)
  | 14 => ("OneEachModel", "hasImage", "Z", false)
  | 15 => ("OneEachModel", "thrown", "I", false)
  | 16 => ("OneEachModel", "pos", "I", false)
  | 17 => ("OneEachModel", "base", "I", false)
  | 18 => ("OneEachModel", "end", "I", false)
  | 19 => ("OneEachModel", "told", "I", false)
  | 20 => ("OneEachModel", "crafts", "I", false)
  | 21 => ("OneEachModel", "hidden", "I", false)
  | 22 => ("OneEachModel", "numbers", "[I", true)
  | 23 => ("OneEachModel", "isTied", "Z", false)
  | 24 => ("OneEachModel", "isWanted", "Z", false)
  | 25 => ("OneEachModel", "mayBe", "Z", false)
  | 26 => ("OneEachModel", "changed", "I", false)
  | 27 => ("OneEachModel", "living", "[I", true)
  | 28 => ("OneEachModel", "bestMany", "I", false)
  | 29 => ("OneEachModel", "bestSum", "I", false)
  | 30 => ("OneEachModel", "at", "[I", true)
  | 31 => ("OneEachModel", "tried", "[I", true)
  | 32 => ("OneEachModel", "shortest", "[I", true)
  | 33 => ("OneEachModel", "worthAhead", "[I", true)
  | 34 => ("OneEachModel", "stack", "[I", true)
  | 35 => ("OneEachModel", "wantedMany", "I", false)
  | 36 => ("OneEachModel", "isFound", "Z", false)
  | 37 => ("OneEachModel", "waited", "[I", true)
  | 38 => ("OneEachModel", "went", "I", false)
  | _ => ("OneEachModel", "left", "I", false)
def tyX7 : Nat → FieldType := fun k => match k with
  | 0 => .array .int
  | 1 => .array .int
  | 2 => .array .int
  | 3 => .array .int
  | 4 => .array .int
  | 5 => .array .int
  | 6 => .array .int
  | 7 => .array .int
  | 8 => .array .int
  | 9 => .array .int
  | 10 => .array .int
  | 11 => .array .int
  | 12 => .array .int
  | 13 => .array .int
  | 14 => .boolean
  | 15 => .int
  | 16 => .int
  | 17 => .int
  | 18 => .int
  | 19 => .int
  | 20 => .int
  | 21 => .int
  | 22 => .array .int
  | 23 => .boolean
  | 24 => .boolean
  | 25 => .boolean
  | 26 => .int
  | 27 => .array .int
  | 28 => .int
  | 29 => .int
  | 30 => .array .int
  | 31 => .array .int
  | 32 => .array .int
  | 33 => .array .int
  | 34 => .array .int
  | 35 => .int
  | 36 => .boolean
  | 37 => .array .int
  | 38 => .int
  | _ => .int
theorem nmX7 : ∀ a, a < 40 → ∀ b, b < 40 → a ≠ b → (TX7 a).2.1 ≠ (TX7 b).2.1 := by decide +kernel
theorem tyX7_ok : ∀ k, k < 40 → parseFieldDescriptor (TX7 k).2.2.1 = some (tyX7 k) := by decide +kernel
abbrev vwCl : List vw_C := [(RX0, TX0, 4), (RX1, TX1, 7), (RX2, TX2, 5), (RX3, TX3, 13), (RX4, TX4, 9), (RX5, TX5, 7), (RX6, TX6, 8), (RX7, TX7, 40)]
