/-! NAMES of the held classes, as the claim prints them -/
def RJ6 : String := "java/lang/Integer"
def TJ6 : u_T := fun k => match k with
  | _ => ("java/lang/Integer", "value", "I", true)
def tyJ6 : Nat → FieldType := fun k => match k with
  | _ => .int
abbrev wsJ60 : List Cond := u_ws RJ6 TJ6 1
theorem nmJ6 : ∀ a, a < 1 → ∀ b, b < 1 → a ≠ b → (TJ6 a).2.1 ≠ (TJ6 b).2.1 := by decide +kernel
theorem tyJ6_ok : ∀ k, k < 1 → parseFieldDescriptor (TJ6 k).2.2.1 = some (tyJ6 k) := by decide +kernel
def RJx4a65c : String := "java/util/ArrayList"
def TJx4a65c : u_T := fun k => match k with
  | 0 => ("java/util/AbstractList", "modCount", "I", false)
  | 1 => ("java/util/ArrayList", "elementData", "[Ljava/lang/Object;", false)
  | _ => ("java/util/ArrayList", "size", "I", false)
def tyJx4a65c : Nat → FieldType := fun k => match k with
  | 0 => .int
  | 1 => .array (.object "java/lang/Object")
  | _ => .int
abbrev wsJx4a65c0 : List Cond := u_ws RJx4a65c TJx4a65c 3
theorem nmJx4a65c : ∀ a, a < 3 → ∀ b, b < 3 → a ≠ b → (TJx4a65c a).2.1 ≠ (TJx4a65c b).2.1 := by decide +kernel
theorem tyJx4a65c_ok : ∀ k, k < 3 → parseFieldDescriptor (TJx4a65c k).2.2.1 = some (tyJx4a65c k) := by decide +kernel
def RX0 : String := "ThrowRules$Block"
def TX0 : u_T := fun k => match k with
  | 0 => ("ThrowRules$Block", "place", "I", true)
  | 1 => ("ThrowRules$Block", "first", "LThrowRules$Statement;", false)
  | 2 => ("ThrowRules$Block", "canThrow", "I", false)
  | _ => ("ThrowRules$Block", "left", "Z", false)
def tyX0 : Nat → FieldType := fun k => match k with
  | 0 => .int
  | 1 => .object "ThrowRules$Statement"
  | 2 => .int
  | _ => .boolean
abbrev wsX00 : List Cond := u_ws RX0 TX0 4
theorem nmX0 : ∀ a, a < 4 → ∀ b, b < 4 → a ≠ b → (TX0 a).2.1 ≠ (TX0 b).2.1 := by decide +kernel
theorem tyX0_ok : ∀ k, k < 4 → parseFieldDescriptor (TX0 k).2.2.1 = some (tyX0 k) := by decide +kernel
def RX1 : String := "ThrowRules$Catch"
def TX1 : u_T := fun k => match k with
  | 0 => ("ThrowRules$Catch", "kinds", "LThrowRules$Names;", true)
  | 1 => ("ThrowRules$Catch", "around", "LThrowRules$Catch;", true)
  | 2 => ("ThrowRules$Catch", "lambdas", "I", true)
  | 3 => ("ThrowRules$Catch", "name", "J", false)
  | 4 => ("ThrowRules$Catch", "isSet", "Z", false)
  | 5 => ("ThrowRules$Catch", "block", "LThrowRules$Block;", false)
  | 6 => ("ThrowRules$Catch", "next", "LThrowRules$Catch;", false)
  | 7 => ("ThrowRules$Catch", "inside", "I", false)
  | 8 => ("ThrowRules$Catch", "ahead", "I", false)
  | _ => ("ThrowRules$Catch", "value", "I", false)
def tyX1 : Nat → FieldType := fun k => match k with
  | 0 => .object "ThrowRules$Names"
  | 1 => .object "ThrowRules$Catch"
  | 2 => .int
  | 3 => .long
  | 4 => .boolean
  | 5 => .object "ThrowRules$Block"
  | 6 => .object "ThrowRules$Catch"
  | 7 => .int
  | 8 => .int
  | _ => .int
abbrev wsX10 : List Cond := u_ws RX1 TX1 10
theorem nmX1 : ∀ a, a < 10 → ∀ b, b < 10 → a ≠ b → (TX1 a).2.1 ≠ (TX1 b).2.1 := by decide +kernel
theorem tyX1_ok : ∀ k, k < 10 → parseFieldDescriptor (TX1 k).2.2.1 = some (tyX1 k) := by decide +kernel
def RX2 : String := "ThrowRules$Judge"
def TX2 : u_T := fun k => match k with
  | 0 => ("ThrowRules$Judge", "unit", "LThrowRules$Unit;", true)
  | _ => ("ThrowRules$Judge", "kinds", "LThrowRules$Kinds;", true)
def tyX2 : Nat → FieldType := fun k => match k with
  | 0 => .object "ThrowRules$Unit"
  | _ => .object "ThrowRules$Kinds"
abbrev wsX20 : List Cond := u_ws RX2 TX2 2
theorem nmX2 : ∀ a, a < 2 → ∀ b, b < 2 → a ≠ b → (TX2 a).2.1 ≠ (TX2 b).2.1 := by decide +kernel
theorem tyX2_ok : ∀ k, k < 2 → parseFieldDescriptor (TX2 k).2.2.1 = some (tyX2 k) := by decide +kernel
def RX3 : String := "ThrowRules$Kinds"
def TX3 : u_T := fun k => match k with
  | 0 => ("ThrowRules$Kinds", "names", "[J", true)
  | 1 => ("ThrowRules$Kinds", "parents", "[I", true)
  | 2 => ("ThrowRules$Kinds", "places", "[I", true)
  | 3 => ("ThrowRules$Kinds", "over", "[I", true)
  | 4 => ("ThrowRules$Kinds", "checked", "I", false)
  | _ => ("ThrowRules$Kinds", "count", "I", false)
def tyX3 : Nat → FieldType := fun k => match k with
  | 0 => .array .long
  | 1 => .array .int
  | 2 => .array .int
  | 3 => .array .int
  | 4 => .int
  | _ => .int
abbrev wsX30 : List Cond := u_ws RX3 TX3 6
theorem nmX3 : ∀ a, a < 6 → ∀ b, b < 6 → a ≠ b → (TX3 a).2.1 ≠ (TX3 b).2.1 := by decide +kernel
theorem tyX3_ok : ∀ k, k < 6 → parseFieldDescriptor (TX3 k).2.2.1 = some (tyX3 k) := by decide +kernel
def RX4 : String := "ThrowRules$Names"
def TX4 : u_T := fun k => match k with
  | 0 => ("ThrowRules$Names", "words", "[J", true)
  | 1 => ("ThrowRules$Names", "places", "[I", true)
  | 2 => ("ThrowRules$Names", "meant", "[I", true)
  | _ => ("ThrowRules$Names", "count", "I", false)
def tyX4 : Nat → FieldType := fun k => match k with
  | 0 => .array .long
  | 1 => .array .int
  | 2 => .array .int
  | _ => .int
abbrev wsX40 : List Cond := u_ws RX4 TX4 4
theorem nmX4 : ∀ a, a < 4 → ∀ b, b < 4 → a ≠ b → (TX4 a).2.1 ≠ (TX4 b).2.1 := by decide +kernel
theorem tyX4_ok : ∀ k, k < 4 → parseFieldDescriptor (TX4 k).2.2.1 = some (tyX4 k) := by decide +kernel
def RX5 : String := "ThrowRules$Parser"
def TX5 : u_T := fun k => match k with
  | 0 => ("ThrowRules$Parser", "tape", "LThrowRules$Tape;", true)
  | 1 => ("ThrowRules$Parser", "unit", "LThrowRules$Unit;", true)
  | 2 => ("ThrowRules$Parser", "wrong", "I", false)
  | 3 => ("ThrowRules$Parser", "braces", "I", false)
  | 4 => ("ThrowRules$Parser", "lambdas", "I", false)
  | 5 => ("ThrowRules$Parser", "inLoop", "Z", false)
  | _ => ("ThrowRules$Parser", "scope", "LThrowRules$Catch;", false)
def tyX5 : Nat → FieldType := fun k => match k with
  | 0 => .object "ThrowRules$Tape"
  | 1 => .object "ThrowRules$Unit"
  | 2 => .int
  | 3 => .int
  | 4 => .int
  | 5 => .boolean
  | _ => .object "ThrowRules$Catch"
abbrev wsX50 : List Cond := u_ws RX5 TX5 7
theorem nmX5 : ∀ a, a < 7 → ∀ b, b < 7 → a ≠ b → (TX5 a).2.1 ≠ (TX5 b).2.1 := by decide +kernel
theorem tyX5_ok : ∀ k, k < 7 → parseFieldDescriptor (TX5 k).2.2.1 = some (tyX5 k) := by decide +kernel
def RX6 : String := "ThrowRules$Statement"
def TX6 : u_T := fun k => match k with
  | 0 => ("ThrowRules$Statement", "sort", "I", true)
  | 1 => ("ThrowRules$Statement", "place", "I", true)
  | 2 => ("ThrowRules$Statement", "way", "I", true)
  | 3 => ("ThrowRules$Statement", "lambdas", "I", true)
  | 4 => ("ThrowRules$Statement", "next", "LThrowRules$Statement;", false)
  | 5 => ("ThrowRules$Statement", "name", "J", false)
  | 6 => ("ThrowRules$Statement", "namePlace", "I", false)
  | 7 => ("ThrowRules$Statement", "meant", "I", false)
  | 8 => ("ThrowRules$Statement", "parameter", "LThrowRules$Catch;", false)
  | 9 => ("ThrowRules$Statement", "block", "LThrowRules$Block;", false)
  | 10 => ("ThrowRules$Statement", "other", "LThrowRules$Block;", false)
  | 11 => ("ThrowRules$Statement", "names", "LThrowRules$Names;", false)
  | 12 => ("ThrowRules$Statement", "catches", "LThrowRules$Catch;", false)
  | 13 => ("ThrowRules$Statement", "belongs", "Z", false)
  | 14 => ("ThrowRules$Statement", "canThrow", "I", false)
  | _ => ("ThrowRules$Statement", "left", "Z", false)
def tyX6 : Nat → FieldType := fun k => match k with
  | 0 => .int
  | 1 => .int
  | 2 => .int
  | 3 => .int
  | 4 => .object "ThrowRules$Statement"
  | 5 => .long
  | 6 => .int
  | 7 => .int
  | 8 => .object "ThrowRules$Catch"
  | 9 => .object "ThrowRules$Block"
  | 10 => .object "ThrowRules$Block"
  | 11 => .object "ThrowRules$Names"
  | 12 => .object "ThrowRules$Catch"
  | 13 => .boolean
  | 14 => .int
  | _ => .boolean
abbrev wsX60 : List Cond := u_ws RX6 TX6 16
theorem nmX6 : ∀ a, a < 16 → ∀ b, b < 16 → a ≠ b → (TX6 a).2.1 ≠ (TX6 b).2.1 := by decide +kernel
theorem tyX6_ok : ∀ k, k < 16 → parseFieldDescriptor (TX6 k).2.2.1 = some (tyX6 k) := by decide +kernel
def RX7 : String := "ThrowRules$Tape"
def TX7 : u_T := fun k => match k with
  | 0 => ("ThrowRules$Tape", "bytes", "[B", true)
  | 1 => ("ThrowRules$Tape", "keywords", "[J", true)
  | 2 => ("ThrowRules$Tape", "length", "I", false)
  | 3 => ("ThrowRules$Tape", "position", "I", false)
  | 4 => ("ThrowRules$Tape", "token", "I", false)
  | 5 => ("ThrowRules$Tape", "place", "I", false)
  | _ => ("ThrowRules$Tape", "word", "J", false)
def tyX7 : Nat → FieldType := fun k => match k with
  | 0 => .array .byte
  | 1 => .array .long
  | 2 => .int
  | 3 => .int
  | 4 => .int
  | 5 => .int
  | _ => .long
abbrev wsX70 : List Cond := u_ws RX7 TX7 7
theorem nmX7 : ∀ a, a < 7 → ∀ b, b < 7 → a ≠ b → (TX7 a).2.1 ≠ (TX7 b).2.1 := by decide +kernel
theorem tyX7_ok : ∀ k, k < 7 → parseFieldDescriptor (TX7 k).2.2.1 = some (tyX7 k) := by decide +kernel
def RX8 : String := "ThrowRules$Unit"
def TX8 : u_T := fun k => match k with
  | 0 => ("ThrowRules$Unit", "kinds", "LThrowRules$Kinds;", true)
  | 1 => ("ThrowRules$Unit", "ways", "Ljava/util/ArrayList;", true)
  | 2 => ("ThrowRules$Unit", "statements", "Ljava/util/ArrayList;", true)
  | _ => ("ThrowRules$Unit", "mistakes", "Ljava/util/ArrayList;", true)
def tyX8 : Nat → FieldType := fun k => match k with
  | 0 => .object "ThrowRules$Kinds"
  | 1 => .object "java/util/ArrayList"
  | 2 => .object "java/util/ArrayList"
  | _ => .object "java/util/ArrayList"
abbrev wsX80 : List Cond := u_ws RX8 TX8 4
theorem nmX8 : ∀ a, a < 4 → ∀ b, b < 4 → a ≠ b → (TX8 a).2.1 ≠ (TX8 b).2.1 := by decide +kernel
theorem tyX8_ok : ∀ k, k < 4 → parseFieldDescriptor (TX8 k).2.2.1 = some (tyX8 k) := by decide +kernel
def RX9 : String := "ThrowRules$Walker"
def TX9 : u_T := fun k => match k with
  | 0 => ("ThrowRules$Walker", "unit", "LThrowRules$Unit;", false)
  | 1 => ("ThrowRules$Walker", "drawn", "J", false)
  | _ => ("ThrowRules$Walker", "begun", "I", false)
def tyX9 : Nat → FieldType := fun k => match k with
  | 0 => .object "ThrowRules$Unit"
  | 1 => .long
  | _ => .int
abbrev wsX90 : List Cond := u_ws RX9 TX9 3
theorem nmX9 : ∀ a, a < 3 → ∀ b, b < 3 → a ≠ b → (TX9 a).2.1 ≠ (TX9 b).2.1 := by decide +kernel
theorem tyX9_ok : ∀ k, k < 3 → parseFieldDescriptor (TX9 k).2.2.1 = some (tyX9 k) := by decide +kernel
def RX10 : String := "ThrowRules$Way"
def TX10 : u_T := fun k => match k with
  | 0 => ("ThrowRules$Way", "thrown", "LThrowRules$Names;", true)
  | 1 => ("ThrowRules$Way", "name", "J", false)
  | 2 => ("ThrowRules$Way", "place", "I", false)
  | 3 => ("ThrowRules$Way", "isOver", "Z", false)
  | 4 => ("ThrowRules$Way", "overName", "J", false)
  | 5 => ("ThrowRules$Way", "overPlace", "I", false)
  | 6 => ("ThrowRules$Way", "over", "I", false)
  | 7 => ("ThrowRules$Way", "free", "Z", false)
  | _ => ("ThrowRules$Way", "block", "LThrowRules$Block;", false)
def tyX10 : Nat → FieldType := fun k => match k with
  | 0 => .object "ThrowRules$Names"
  | 1 => .long
  | 2 => .int
  | 3 => .boolean
  | 4 => .long
  | 5 => .int
  | 6 => .int
  | 7 => .boolean
  | _ => .object "ThrowRules$Block"
abbrev wsX100 : List Cond := u_ws RX10 TX10 9
theorem nmX10 : ∀ a, a < 9 → ∀ b, b < 9 → a ≠ b → (TX10 a).2.1 ≠ (TX10 b).2.1 := by decide +kernel
theorem tyX10_ok : ∀ k, k < 9 → parseFieldDescriptor (TX10 k).2.2.1 = some (tyX10 k) := by decide +kernel
def RX11 : String := "ThrowRules"
def TX11 : u_T := fun k => match k with
  | 0 => ("ThrowRules", "tape", "LThrowRules$Tape;", true)
  | 1 => ("ThrowRules", "walker", "LThrowRules$Walker;", true)
  | _ => ("ThrowRules", "unit", "LThrowRules$Unit;", false)
def tyX11 : Nat → FieldType := fun k => match k with
  | 0 => .object "ThrowRules$Tape"
  | 1 => .object "ThrowRules$Walker"
  | _ => .object "ThrowRules$Unit"
abbrev wsX110 : List Cond := u_ws RX11 TX11 3
theorem nmX11 : ∀ a, a < 3 → ∀ b, b < 3 → a ≠ b → (TX11 a).2.1 ≠ (TX11 b).2.1 := by decide +kernel
theorem tyX11_ok : ∀ k, k < 3 → parseFieldDescriptor (TX11 k).2.2.1 = some (tyX11 k) := by decide +kernel
def RX12 : String := "ThrowRulesModel"
def TX12 : u_T := fun k => match k with
  | 0 => ("ThrowRulesModel", "tape", "[I", true)
  | 1 => ("ThrowRulesModel", "size", "I", false)
  | 2 => ("ThrowRulesModel", "w", "I", false)
  | 3 => ("ThrowRulesModel", "kinds", "[I", true)
  | 4 => ("ThrowRulesModel", "kindWord", "[J", true)
  | 5 => ("ThrowRulesModel", "kindAt", "[I", true)
  | 6 => ("ThrowRulesModel", "kindFrom", "[I", true)
  | 7 => ("ThrowRulesModel", "belowWord", "[J", true)
  | 8 => ("ThrowRulesModel", "belowAt", "[I", true)
  | 9 => ("ThrowRulesModel", "methods", "[I", true)
  | 10 => ("ThrowRulesModel", "methodWord", "[J", true)
  | 11 => ("ThrowRulesModel", "methodAt", "[I", true)
  | 12 => ("ThrowRulesModel", "overWord", "[J", true)
  | 13 => ("ThrowRulesModel", "overAt", "[I", true)
  | 14 => ("ThrowRulesModel", "isFree", "[Z", true)
  | 15 => ("ThrowRulesModel", "throwing", "[I", true)
  | 16 => ("ThrowRulesModel", "throwsWord", "[J", true)
  | 17 => ("ThrowRulesModel", "throwsAt", "[I", true)
  | 18 => ("ThrowRulesModel", "methodBlock", "[I", true)
  | 19 => ("ThrowRulesModel", "statements", "[I", true)
  | 20 => ("ThrowRulesModel", "sort", "[I", true)
  | 21 => ("ThrowRulesModel", "place", "[I", true)
  | 22 => ("ThrowRulesModel", "inBlock", "[I", true)
  | 23 => ("ThrowRulesModel", "inMethod", "[I", true)
  | 24 => ("ThrowRulesModel", "next", "[I", true)
  | 25 => ("ThrowRulesModel", "word", "[J", true)
  | 26 => ("ThrowRulesModel", "wordAt", "[I", true)
  | 27 => ("ThrowRulesModel", "block", "[I", true)
  | 28 => ("ThrowRulesModel", "other", "[I", true)
  | 29 => ("ThrowRulesModel", "last", "[I", true)
  | 30 => ("ThrowRulesModel", "names", "[I", true)
  | 31 => ("ThrowRulesModel", "nameWord", "[J", true)
  | 32 => ("ThrowRulesModel", "nameAt", "[I", true)
  | 33 => ("ThrowRulesModel", "catches", "[I", true)
  | 34 => ("ThrowRulesModel", "catchBlock", "[I", true)
  | 35 => ("ThrowRulesModel", "param", "[J", true)
  | 36 => ("ThrowRulesModel", "paramAt", "[I", true)
  | 37 => ("ThrowRulesModel", "caught", "[I", true)
  | 38 => ("ThrowRulesModel", "caughtWord", "[J", true)
  | 39 => ("ThrowRulesModel", "caughtAt", "[I", true)
  | 40 => ("ThrowRulesModel", "blocks", "[I", true)
  | 41 => ("ThrowRulesModel", "role", "[I", true)
  | 42 => ("ThrowRulesModel", "owner", "[I", true)
  | 43 => ("ThrowRulesModel", "which", "[I", true)
  | 44 => ("ThrowRulesModel", "from", "[I", true)
  | 45 => ("ThrowRulesModel", "start", "[I", true)
  | 46 => ("ThrowRulesModel", "end", "[I", true)
  | 47 => ("ThrowRulesModel", "pos", "I", false)
  | 48 => ("ThrowRulesModel", "length", "I", false)
  | 49 => ("ThrowRulesModel", "tokenAt", "I", false)
  | 50 => ("ThrowRulesModel", "tokenWord", "J", false)
  | 51 => ("ThrowRulesModel", "sign", "I", false)
  | 52 => ("ThrowRulesModel", "wrong", "I", false)
  | 53 => ("ThrowRulesModel", "name", "J", false)
  | 54 => ("ThrowRulesModel", "at", "I", false)
  | 55 => ("ThrowRulesModel", "depth", "I", false)
  | 56 => ("ThrowRulesModel", "open", "[I", true)
  | 57 => ("ThrowRulesModel", "passed", "Z", false)
  | 58 => ("ThrowRulesModel", "can", "[I", true)
  | 59 => ("ThrowRulesModel", "left", "[Z", true)
  | 60 => ("ThrowRulesModel", "mistakes", "I", false)
  | 61 => ("ThrowRulesModel", "mistake", "[I", true)
  | 62 => ("ThrowRulesModel", "mistakeAt", "[I", true)
  | 63 => ("ThrowRulesModel", "mistakeKind", "[I", true)
  | 64 => ("ThrowRulesModel", "drawn", "J", false)
  | 65 => ("ThrowRulesModel", "steps", "I", false)
  | 66 => ("ThrowRulesModel", "signal", "I", false)
  | 67 => ("ThrowRulesModel", "what", "I", false)
  | 68 => ("ThrowRulesModel", "endless", "Z", false)
  | 69 => ("ThrowRulesModel", "frames", "I", false)
  | 70 => ("ThrowRulesModel", "frameBlock", "[I", true)
  | 71 => ("ThrowRulesModel", "frameNext", "[I", true)
  | 72 => ("ThrowRulesModel", "frameSignal", "[I", true)
  | 73 => ("ThrowRulesModel", "frameWhat", "[I", true)
  | _ => ("ThrowRulesModel", "value", "[I", true)
def tyX12 : Nat → FieldType := fun k => match k with
  | 0 => .array .int
  | 1 => .int
  | 2 => .int
  | 3 => .array .int
  | 4 => .array .long
  | 5 => .array .int
  | 6 => .array .int
  | 7 => .array .long
  | 8 => .array .int
  | 9 => .array .int
  | 10 => .array .long
  | 11 => .array .int
  | 12 => .array .long
  | 13 => .array .int
  | 14 => .array .boolean
  | 15 => .array .int
  | 16 => .array .long
  | 17 => .array .int
  | 18 => .array .int
  | 19 => .array .int
  | 20 => .array .int
  | 21 => .array .int
  | 22 => .array .int
  | 23 => .array .int
  | 24 => .array .int
  | 25 => .array .long
  | 26 => .array .int
  | 27 => .array .int
  | 28 => .array .int
  | 29 => .array .int
  | 30 => .array .int
  | 31 => .array .long
  | 32 => .array .int
  | 33 => .array .int
  | 34 => .array .int
  | 35 => .array .long
  | 36 => .array .int
  | 37 => .array .int
  | 38 => .array .long
  | 39 => .array .int
  | 40 => .array .int
  | 41 => .array .int
  | 42 => .array .int
  | 43 => .array .int
  | 44 => .array .int
  | 45 => .array .int
  | 46 => .array .int
  | 47 => .int
  | 48 => .int
  | 49 => .int
  | 50 => .long
  | 51 => .int
  | 52 => .int
  | 53 => .long
  | 54 => .int
  | 55 => .int
  | 56 => .array .int
  | 57 => .boolean
  | 58 => .array .int
  | 59 => .array .boolean
  | 60 => .int
  | 61 => .array .int
  | 62 => .array .int
  | 63 => .array .int
  | 64 => .long
  | 65 => .int
  | 66 => .int
  | 67 => .int
  | 68 => .boolean
  | 69 => .int
  | 70 => .array .int
  | 71 => .array .int
  | 72 => .array .int
  | 73 => .array .int
  | _ => .array .int
abbrev wsX120 : List Cond := u_ws RX12 TX12 75
theorem nmX12 : ∀ a, a < 75 → ∀ b, b < 75 → a ≠ b → (TX12 a).2.1 ≠ (TX12 b).2.1 := by decide +kernel
theorem tyX12_ok : ∀ k, k < 75 → parseFieldDescriptor (TX12 k).2.2.1 = some (tyX12 k) := by decide +kernel
abbrev vwCl : List vw_C := [(RJ6, TJ6, 1), (RJx4a65c, TJx4a65c, 3), (RX0, TX0, 4), (RX1, TX1, 10), (RX2, TX2, 2), (RX3, TX3, 6), (RX4, TX4, 4), (RX5, TX5, 7), (RX6, TX6, 16), (RX7, TX7, 7), (RX8, TX8, 4), (RX9, TX9, 3), (RX10, TX10, 9), (RX11, TX11, 3), (RX12, TX12, 75)]
