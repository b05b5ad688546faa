/-! printed by wip/whole/gen.py: classes and fields (out of the claim's names) -/
def RX0 : String := "RowRing$Foresight"
def TX0 : u_T := fun k => match k with
  | 0 => ("RowRing$Foresight", "world", "LRowRing$World;", true)
  | 1 => ("RowRing$Foresight", "mill", "LRowRing$Mill;", true)
  | 2 => ("RowRing$Foresight", "trial", "LRowRing$State;", true)
  | 3 => ("RowRing$Foresight", "fitWide", "[I", true)
  | 4 => ("RowRing$Foresight", "fits", "I", false)
  | _ => ("RowRing$Foresight", "firstFit", "I", false)
def tyX0 : Nat → FieldType := fun k => match k with
  | 0 => .object "RowRing$World"
  | 1 => .object "RowRing$Mill"
  | 2 => .object "RowRing$State"
  | 3 => .array .int
  | 4 => .int
  | _ => .int
theorem nmX0 : ∀ a, a < 6 → ∀ b, b < 6 → a ≠ b → (TX0 a).2.1 ≠ (TX0 b).2.1 := by decide +kernel
theorem tyX0_ok : ∀ k, k < 6 → parseFieldDescriptor (TX0 k).2.2.1 = some (tyX0 k) := by decide +kernel
def RX1 : String := "RowRing$Handiwork"
def TX1 : u_T := fun k => match k with
  | 0 => ("RowRing$Handiwork", "world", "LRowRing$World;", true)
  | 1 => ("RowRing$Handiwork", "fewest", "[I", true)
  | _ => ("RowRing$Handiwork", "bench", "[I", true)
def tyX1 : Nat → FieldType := fun k => match k with
  | 0 => .object "RowRing$World"
  | 1 => .array .int
  | _ => .array .int
theorem nmX1 : ∀ a, a < 3 → ∀ b, b < 3 → a ≠ b → (TX1 a).2.1 ≠ (TX1 b).2.1 := by decide +kernel
theorem tyX1_ok : ∀ k, k < 3 → parseFieldDescriptor (TX1 k).2.2.1 = some (tyX1 k) := by decide +kernel
def RX2 : String := "RowRing$History"
def TX2 : u_T := fun k => match k with
  | 0 => ("RowRing$History", "states", "[LRowRing$State;", true)
  | 1 => ("RowRing$History", "first", "I", false)
  | _ => ("RowRing$History", "size", "I", false)
def tyX2 : Nat → FieldType := fun k => match k with
  | 0 => .array (.object "RowRing$State")
  | 1 => .int
  | _ => .int
theorem nmX2 : ∀ a, a < 3 → ∀ b, b < 3 → a ≠ b → (TX2 a).2.1 ≠ (TX2 b).2.1 := by decide +kernel
theorem tyX2_ok : ∀ k, k < 3 → parseFieldDescriptor (TX2 k).2.2.1 = some (tyX2 k) := by decide +kernel
def RX3 : String := "RowRing$Mill"
def TX3 : u_T := fun k => match k with
  | 0 => ("RowRing$Mill", "smithy", "LRowRing$Smithy;", true)
  | 1 => ("RowRing$Mill", "rules", "[LRowRing$Rule;", true)
  | 2 => ("RowRing$Mill", "words", "[J", true)
  | 3 => ("RowRing$Mill", "stack", "[J", true)
  | 4 => ("RowRing$Mill", "rowSize", "[I", true)
  | 5 => ("RowRing$Mill", "rule", "LRowRing$Rule;", false)
  | 6 => ("RowRing$Mill", "struck", "I", false)
  | _ => ("RowRing$Mill", "atHome", "I", false)
def tyX3 : Nat → FieldType := fun k => match k with
  | 0 => .object "RowRing$Smithy"
  | 1 => .array (.object "RowRing$Rule")
  | 2 => .array .long
  | 3 => .array .long
  | 4 => .array .int
  | 5 => .object "RowRing$Rule"
  | 6 => .int
  | _ => .int
theorem nmX3 : ∀ a, a < 8 → ∀ b, b < 8 → a ≠ b → (TX3 a).2.1 ≠ (TX3 b).2.1 := by decide +kernel
theorem tyX3_ok : ∀ k, k < 8 → parseFieldDescriptor (TX3 k).2.2.1 = some (tyX3 k) := by decide +kernel
def RX4 : String := "RowRing$Rule"
def TX4 : u_T := fun k => match k with
  | 0 => ("RowRing$Rule", "steps", "[I", true)
  | _ => ("RowRing$Rule", "size", "I", false)
def tyX4 : Nat → FieldType := fun k => match k with
  | 0 => .array .int
  | _ => .int
theorem nmX4 : ∀ a, a < 2 → ∀ b, b < 2 → a ≠ b → (TX4 a).2.1 ≠ (TX4 b).2.1 := by decide +kernel
theorem tyX4_ok : ∀ k, k < 2 → parseFieldDescriptor (TX4 k).2.2.1 = some (tyX4 k) := by decide +kernel
def RX5 : String := "RowRing$RuleReader"
def TX5 : u_T := fun k => match k with
  | 0 => ("RowRing$RuleReader", "tape", "LRowRing$Tape;", true)
  | 1 => ("RowRing$RuleReader", "waiting", "[I", true)
  | 2 => ("RowRing$RuleReader", "held", "I", false)
  | 3 => ("RowRing$RuleReader", "deep", "I", false)
  | 4 => ("RowRing$RuleReader", "parts", "I", false)
  | 5 => ("RowRing$RuleReader", "sum", "I", false)
  | _ => ("RowRing$RuleReader", "stage", "I", false)
def tyX5 : Nat → FieldType := fun k => match k with
  | 0 => .object "RowRing$Tape"
  | 1 => .array .int
  | 2 => .int
  | 3 => .int
  | 4 => .int
  | 5 => .int
  | _ => .int
theorem nmX5 : ∀ a, a < 7 → ∀ b, b < 7 → a ≠ b → (TX5 a).2.1 ≠ (TX5 b).2.1 := by decide +kernel
theorem tyX5_ok : ∀ k, k < 7 → parseFieldDescriptor (TX5 k).2.2.1 = some (tyX5 k) := by decide +kernel
def RX6 : String := "RowRing$Smithy"
def TX6 : u_T := fun k => match k with
  | 0 => ("RowRing$Smithy", "told", "Z", false)
  | 1 => ("RowRing$Smithy", "widest", "I", false)
  | 2 => ("RowRing$Smithy", "wear", "I", false)
  | 3 => ("RowRing$Smithy", "pairs", "I", false)
  | 4 => ("RowRing$Smithy", "sayings", "I", false)
  | 5 => ("RowRing$Smithy", "temper", "[I", true)
  | 6 => ("RowRing$Smithy", "breaks", "[I", true)
  | 7 => ("RowRing$Smithy", "near", "[I", true)
  | 8 => ("RowRing$Smithy", "hurt", "[I", true)
  | _ => ("RowRing$Smithy", "more", "[I", true)
def tyX6 : Nat → FieldType := fun k => match k with
  | 0 => .boolean
  | 1 => .int
  | 2 => .int
  | 3 => .int
  | 4 => .int
  | 5 => .array .int
  | 6 => .array .int
  | 7 => .array .int
  | 8 => .array .int
  | _ => .array .int
theorem nmX6 : ∀ a, a < 10 → ∀ b, b < 10 → a ≠ b → (TX6 a).2.1 ≠ (TX6 b).2.1 := by decide +kernel
theorem tyX6_ok : ∀ k, k < 10 → parseFieldDescriptor (TX6 k).2.2.1 = some (tyX6 k) := by decide +kernel
def RX7 : String := "RowRing$State"
def TX7 : u_T := fun k => match k with
  | 0 => ("RowRing$State", "day", "I", false)
  | 1 => ("RowRing$State", "rows", "I", false)
  | 2 => ("RowRing$State", "temper", "[I", true)
  | 3 => ("RowRing$State", "wide", "[I", true)
  | 4 => ("RowRing$State", "size", "[I", true)
  | _ => ("RowRing$State", "said", "[I", true)
def tyX7 : Nat → FieldType := fun k => match k with
  | 0 => .int
  | 1 => .int
  | 2 => .array .int
  | 3 => .array .int
  | 4 => .array .int
  | _ => .array .int
theorem nmX7 : ∀ a, a < 6 → ∀ b, b < 6 → a ≠ b → (TX7 a).2.1 ≠ (TX7 b).2.1 := by decide +kernel
theorem tyX7_ok : ∀ k, k < 6 → parseFieldDescriptor (TX7 k).2.2.1 = some (tyX7 k) := by decide +kernel
def RX8 : String := "RowRing$Tape"
def TX8 : u_T := fun k => match k with
  | 0 => ("RowRing$Tape", "bytes", "[B", true)
  | 1 => ("RowRing$Tape", "length", "I", false)
  | 2 => ("RowRing$Tape", "place", "I", false)
  | _ => ("RowRing$Tape", "fault", "I", false)
def tyX8 : Nat → FieldType := fun k => match k with
  | 0 => .array .byte
  | 1 => .int
  | 2 => .int
  | _ => .int
theorem nmX8 : ∀ a, a < 4 → ∀ b, b < 4 → a ≠ b → (TX8 a).2.1 ≠ (TX8 b).2.1 := by decide +kernel
theorem tyX8_ok : ∀ k, k < 4 → parseFieldDescriptor (TX8 k).2.2.1 = some (tyX8 k) := by decide +kernel
def RX9 : String := "RowRing$World"
def TX9 : u_T := fun k => match k with
  | 0 => ("RowRing$World", "smithy", "LRowRing$Smithy;", true)
  | 1 => ("RowRing$World", "state", "LRowRing$State;", true)
  | 2 => ("RowRing$World", "noteDay", "[I", true)
  | 3 => ("RowRing$World", "notePair", "[I", true)
  | 4 => ("RowRing$World", "noteWide", "[I", true)
  | 5 => ("RowRing$World", "notes", "I", false)
  | 6 => ("RowRing$World", "force", "I", false)
  | 7 => ("RowRing$World", "x", "I", false)
  | _ => ("RowRing$World", "made", "Z", false)
def tyX9 : Nat → FieldType := fun k => match k with
  | 0 => .object "RowRing$Smithy"
  | 1 => .object "RowRing$State"
  | 2 => .array .int
  | 3 => .array .int
  | 4 => .array .int
  | 5 => .int
  | 6 => .int
  | 7 => .int
  | _ => .boolean
theorem nmX9 : ∀ a, a < 9 → ∀ b, b < 9 → a ≠ b → (TX9 a).2.1 ≠ (TX9 b).2.1 := by decide +kernel
theorem tyX9_ok : ∀ k, k < 9 → parseFieldDescriptor (TX9 k).2.2.1 = some (tyX9 k) := by decide +kernel
def RX10 : String := "RowRing"
def TX10 : u_T := fun k => match k with
  | 0 => ("RowRing", "tape", "LRowRing$Tape;", true)
  | 1 => ("RowRing", "world", "LRowRing$World;", true)
  | 2 => ("RowRing", "images", "[LRowRing$World;", true)
  | 3 => ("RowRing", "spare", "LRowRing$Smithy;", true)
  | 4 => ("RowRing", "rules", "[LRowRing$Rule;", true)
  | 5 => ("RowRing", "ruleReader", "LRowRing$RuleReader;", true)
  | 6 => ("RowRing", "history", "LRowRing$History;", true)
  | 7 => ("RowRing", "mill", "LRowRing$Mill;", true)
  | 8 => ("RowRing", "foresight", "LRowRing$Foresight;", true)
  | 9 => ("RowRing", "handiwork", "LRowRing$Handiwork;", true)
  | _ => ("RowRing", "ruleCount", "I", false)
def tyX10 : Nat → FieldType := fun k => match k with
  | 0 => .object "RowRing$Tape"
  | 1 => .object "RowRing$World"
  | 2 => .array (.object "RowRing$World")
  | 3 => .object "RowRing$Smithy"
  | 4 => .array (.object "RowRing$Rule")
  | 5 => .object "RowRing$RuleReader"
  | 6 => .object "RowRing$History"
  | 7 => .object "RowRing$Mill"
  | 8 => .object "RowRing$Foresight"
  | 9 => .object "RowRing$Handiwork"
  | _ => .int
theorem nmX10 : ∀ a, a < 11 → ∀ b, b < 11 → a ≠ b → (TX10 a).2.1 ≠ (TX10 b).2.1 := by decide +kernel
theorem tyX10_ok : ∀ k, k < 11 → parseFieldDescriptor (TX10 k).2.2.1 = some (tyX10 k) := by decide +kernel
def RX11 : String := "RowRingModel"
def TX11 : u_T := fun k => match k with
  | 0 => ("RowRingModel", "tape", "[B", true)
  | 1 => ("RowRingModel", "taped", "I", false)
  | 2 => ("RowRingModel", "rules", "I", false)
  | 3 => ("RowRingModel", "sign", "[I", true)
  | 4 => ("RowRingModel", "length", "[I", true)
  | 5 => ("RowRingModel", "clause", "[I", true)
  | 6 => ("RowRingModel", "clauses", "[I", true)
  | 7 => ("RowRingModel", "read", "[I", true)
  | 8 => ("RowRingModel", "next", "I", false)
  | 9 => ("RowRingModel", "wrong", "I", false)
  | 10 => ("RowRingModel", "number", "I", false)
  | 11 => ("RowRingModel", "text", "I", false)
  | 12 => ("RowRingModel", "made", "I", false)
  | 13 => ("RowRingModel", "deep", "I", false)
  | 14 => ("RowRingModel", "lines", "I", false)
  | 15 => ("RowRingModel", "open", "[I", true)
  | 16 => ("RowRingModel", "opened", "I", false)
  | 17 => ("RowRingModel", "stack", "[J", true)
  | 18 => ("RowRingModel", "top", "I", false)
  | 19 => ("RowRingModel", "word", "[J", true)
  | 20 => ("RowRingModel", "said", "[I", true)
  | 21 => ("RowRingModel", "force", "I", false)
  | 22 => ("RowRingModel", "x", "I", false)
  | 23 => ("RowRingModel", "struck", "I", false)
  | 24 => ("RowRingModel", "home", "I", false)
  | 25 => ("RowRingModel", "rowSize", "[I", true)
  | 26 => ("RowRingModel", "wasSaid", "[I", true)
  | 27 => ("RowRingModel", "undone", "I", false)
  | 28 => ("RowRingModel", "kept", "[I", true)
  | 29 => ("RowRingModel", "needed", "[I", true)
  | 30 => ("RowRingModel", "bench", "[I", true)
  | 31 => ("RowRingModel", "temperIn", "[I", true)
  | 32 => ("RowRingModel", "doneIn", "[I", true)
  | 33 => ("RowRingModel", "bestIn", "[I", true)
  | 34 => ("RowRingModel", "firstDone", "I", false)
  | 35 => ("RowRingModel", "isFit", "[Z", true)
  | 36 => ("RowRingModel", "wideThen", "[I", true)
  | 37 => ("RowRingModel", "drawX", "J", false)
  | 38 => ("RowRingModel", "images", "[I", true)
  | 39 => ("RowRingModel", "imageForce", "[I", true)
  | 40 => ("RowRingModel", "imageX", "[I", true)
  | _ => ("RowRingModel", "isMade", "[Z", true)
def tyX11 : Nat → FieldType := fun k => match k with
  | 0 => .array .byte
  | 1 => .int
  | 2 => .int
  | 3 => .array .int
  | 4 => .array .int
  | 5 => .array .int
  | 6 => .array .int
  | 7 => .array .int
  | 8 => .int
  | 9 => .int
  | 10 => .int
  | 11 => .int
  | 12 => .int
  | 13 => .int
  | 14 => .int
  | 15 => .array .int
  | 16 => .int
  | 17 => .array .long
  | 18 => .int
  | 19 => .array .long
  | 20 => .array .int
  | 21 => .int
  | 22 => .int
  | 23 => .int
  | 24 => .int
  | 25 => .array .int
  | 26 => .array .int
  | 27 => .int
  | 28 => .array .int
  | 29 => .array .int
  | 30 => .array .int
  | 31 => .array .int
  | 32 => .array .int
  | 33 => .array .int
  | 34 => .int
  | 35 => .array .boolean
  | 36 => .array .int
  | 37 => .long
  | 38 => .array .int
  | 39 => .array .int
  | 40 => .array .int
  | _ => .array .boolean
theorem nmX11 : ∀ a, a < 42 → ∀ b, b < 42 → a ≠ b → (TX11 a).2.1 ≠ (TX11 b).2.1 := by decide +kernel
theorem tyX11_ok : ∀ k, k < 42 → parseFieldDescriptor (TX11 k).2.2.1 = some (tyX11 k) := by decide +kernel
abbrev vwCl : List vw_C := [(RX0, TX0, 6), (RX1, TX1, 3), (RX2, TX2, 3), (RX3, TX3, 8), (RX4, TX4, 2), (RX5, TX5, 7), (RX6, TX6, 10), (RX7, TX7, 6), (RX8, TX8, 4), (RX9, TX9, 9), (RX10, TX10, 11), (RX11, TX11, 42)]
def zt_cn (k : Nat) : String := match k with
  | 0 => RX0
  | 1 => RX1
  | 2 => RX2
  | 3 => RX3
  | 4 => RX4
  | 5 => RX5
  | 6 => RX6
  | 7 => RX7
  | 8 => RX8
  | 9 => RX9
  | 10 => RX10
  | 11 => RX11
  | 50 => "java/lang/String"
  | 51 => "java/lang/StringLatin1"
  | 52 => "java/lang/Integer"
  | 54 => "jdk/internal/util/Preconditions"
  | _ => "RowRingLaw"
def zt_nm (k : Nat) : Option String := (vwCl[k]?).map (fun q => q.1)
def zt_df (k : Nat) : List Value := match k with
  | 0 => [.null, .null, .null, .null, .int 0, .int 0]
  | 1 => [.null, .null, .null]
  | 2 => [.null, .int 0, .int 0]
  | 3 => [.null, .null, .null, .null, .null, .null, .int 0, .int 0]
  | 4 => [.null, .int 0]
  | 5 => [.null, .null, .int 0, .int 0, .int 0, .int 0, .int 0]
  | 6 => [.int 0, .int 0, .int 0, .int 0, .int 0, .null, .null, .null, .null, .null]
  | 7 => [.int 0, .int 0, .null, .null, .null, .null]
  | 8 => [.null, .int 0, .int 0, .int 0]
  | 9 => [.null, .null, .null, .null, .null, .int 0, .int 0, .int 0, .int 0]
  | 10 => [.null, .null, .null, .null, .null, .null, .null, .null, .null, .null, .int 0]
  | 11 => [.null, .int 0, .int 0, .null, .null, .null, .null, .null, .int 0, .int 0, .int 0, .int 0, .int 0, .int 0, .int 0, .null, .int 0, .null, .int 0, .null, .null, .int 0, .int 0, .int 0, .int 0, .null, .null, .int 0, .null, .null, .null, .null, .null, .null, .int 0, .null, .null, .long 0, .null, .null, .null, .null]
  | _ => []
def zt_OL : ZO := (["RowRing$World", "RowRing$Rule", "RowRing$State"], [("RowRing", 91, "RowRing$Tape", "length", "I", "RowRing"), ("RowRing$RuleReader", 47, "RowRing$Tape", "place", "I", "RowRing"), ("RowRing$Smithy", 82, "RowRing$Tape", "place", "I", "RowRing"), ("RowRing$RuleReader", 74, "RowRing$Tape", "fault", "I", "RowRing"), ("RowRing", 104, "RowRing$Tape", "fault", "I", "RowRing"), ("RowRing$Smithy", 73, "RowRing$Tape", "fault", "I", "RowRing"), ("RowRing", 197, "RowRing$Smithy", "told", "Z", "RowRing"), ("RowRing", 170, "RowRing$Smithy", "widest", "I", "RowRing"), ("RowRing$Mill", 138, "RowRing$Smithy", "widest", "I", "RowRing"), ("RowRing$Mill", 69, "RowRing$Smithy", "wear", "I", "RowRing"), ("RowRing$Handiwork", 70, "RowRing$Smithy", "wear", "I", "RowRing"), ("RowRing", 173, "RowRing$Smithy", "wear", "I", "RowRing"), ("RowRing$Mill", 41, "RowRing$Smithy", "pairs", "I", "RowRing"), ("RowRing$State", 37, "RowRing$Smithy", "pairs", "I", "RowRing"), ("RowRing", 126, "RowRing$Smithy", "pairs", "I", "RowRing"), ("RowRing$Foresight", 90, "RowRing$Smithy", "pairs", "I", "RowRing"), ("RowRing$Handiwork", 92, "RowRing$Smithy", "pairs", "I", "RowRing"), ("RowRing$Handiwork", 38, "RowRing$Smithy", "sayings", "I", "RowRing"), ("RowRing$Mill", 84, "RowRing$Smithy", "sayings", "I", "RowRing"), ("RowRing$Foresight", 73, "RowRing$Smithy", "sayings", "I", "RowRing"), ("RowRing", 176, "RowRing$Smithy", "sayings", "I", "RowRing"), ("RowRing$State", 42, "RowRing$Smithy", "temper", "[I", "RowRing"), ("RowRing$Handiwork", 61, "RowRing$Smithy", "breaks", "[I", "RowRing"), ("RowRing$Mill", 104, "RowRing$Smithy", "breaks", "[I", "RowRing"), ("RowRing", 144, "RowRing$Smithy", "breaks", "[I", "RowRing"), ("RowRing$Mill", 107, "RowRing$Smithy", "near", "[I", "RowRing"), ("RowRing", 153, "RowRing$Smithy", "near", "[I", "RowRing"), ("RowRing$Handiwork", 103, "RowRing$Smithy", "near", "[I", "RowRing"), ("RowRing$Mill", 119, "RowRing$Smithy", "hurt", "[I", "RowRing"), ("RowRing$Mill", 122, "RowRing$Smithy", "more", "[I", "RowRing"), ("RowRing$Mill", 59, "RowRing$State", "day", "I", "RowRing"), ("RowRing$Foresight", 63, "RowRing$State", "day", "I", "RowRing"), ("RowRing$Handiwork", 76, "RowRing$State", "day", "I", "RowRing"), ("RowRing", 179, "RowRing$State", "day", "I", "RowRing"), ("RowRing$Foresight", 49, "RowRing$State", "rows", "I", "RowRing"), ("RowRing$Mill", 116, "RowRing$State", "rows", "I", "RowRing"), ("RowRing", 186, "RowRing$State", "rows", "I", "RowRing"), ("RowRing$Handiwork", 28, "RowRing$State", "temper", "[I", "RowRing"), ("RowRing$Mill", 66, "RowRing$State", "temper", "[I", "RowRing"), ("RowRing", 140, "RowRing$State", "temper", "[I", "RowRing"), ("RowRing$Foresight", 96, "RowRing$State", "temper", "[I", "RowRing"), ("RowRing$World", 62, "RowRing$State", "wide", "[I", "RowRing"), ("RowRing$Mill", 46, "RowRing$State", "wide", "[I", "RowRing"), ("RowRing$Handiwork", 73, "RowRing$State", "wide", "[I", "RowRing"), ("RowRing", 147, "RowRing$State", "wide", "[I", "RowRing"), ("RowRing$Foresight", 155, "RowRing$State", "wide", "[I", "RowRing"), ("RowRing$Mill", 78, "RowRing$State", "size", "[I", "RowRing"), ("RowRing", 150, "RowRing$State", "size", "[I", "RowRing"), ("RowRing$Mill", 125, "RowRing$State", "said", "[I", "RowRing"), ("RowRing", 167, "RowRing$State", "said", "[I", "RowRing"), ("RowRing", 59, "RowRing$World", "smithy", "LRowRing$Smithy;", "RowRing"), ("RowRing$Handiwork", 34, "RowRing$World", "smithy", "LRowRing$Smithy;", "RowRing"), ("RowRing$Foresight", 69, "RowRing$World", "smithy", "LRowRing$Smithy;", "RowRing"), ("RowRing$Handiwork", 22, "RowRing$World", "state", "LRowRing$State;", "RowRing"), ("RowRing$Foresight", 30, "RowRing$World", "state", "LRowRing$State;", "RowRing"), ("RowRing", 111, "RowRing$World", "state", "LRowRing$State;", "RowRing"), ("RowRing$Foresight", 167, "RowRing$World", "noteDay", "[I", "RowRing"), ("RowRing$Foresight", 170, "RowRing$World", "notePair", "[I", "RowRing"), ("RowRing$Foresight", 173, "RowRing$World", "noteWide", "[I", "RowRing"), ("RowRing", 120, "RowRing$World", "notes", "I", "RowRing"), ("RowRing$Foresight", 164, "RowRing$World", "notes", "I", "RowRing"), ("RowRing$Foresight", 39, "RowRing$World", "force", "I", "RowRing"), ("RowRing", 133, "RowRing$World", "force", "I", "RowRing"), ("RowRing", 194, "RowRing$World", "x", "I", "RowRing"), ("RowRing$Foresight", 106, "RowRing$World", "x", "I", "RowRing"), ("RowRing", 301, "RowRing$World", "made", "Z", "RowRing"), ("RowRing", 192, "RowRing$History", "size", "I", "RowRing"), ("RowRing$Foresight", 66, "RowRing$Mill", "rowSize", "[I", "RowRing"), ("RowRing$Foresight", 87, "RowRing$Mill", "struck", "I", "RowRing"), ("RowRing$Foresight", 93, "RowRing$Mill", "atHome", "I", "RowRing"), ("RowRing", 286, "RowRing$Foresight", "fits", "I", "RowRing"), ("RowRing", 289, "RowRing$Foresight", "firstFit", "I", "RowRing")])
theorem zt_N_0 : Jvm.Cond.fieldLinkNest "RowRing" 91 "RowRing$Tape" "length" "I" "RowRing" ∈ lw_tbl := List.mem_of_getElem? (i := 148) (by decide +kernel)
theorem zt_N_1 : Jvm.Cond.fieldLinkNest "RowRing$RuleReader" 47 "RowRing$Tape" "place" "I" "RowRing" ∈ lw_tbl := List.mem_of_getElem? (i := 150) (by decide +kernel)
theorem zt_N_2 : Jvm.Cond.fieldLinkNest "RowRing$Smithy" 82 "RowRing$Tape" "place" "I" "RowRing" ∈ lw_tbl := List.mem_of_getElem? (i := 152) (by decide +kernel)
theorem zt_N_3 : Jvm.Cond.fieldLinkNest "RowRing$RuleReader" 74 "RowRing$Tape" "fault" "I" "RowRing" ∈ lw_tbl := List.mem_of_getElem? (i := 153) (by decide +kernel)
theorem zt_N_4 : Jvm.Cond.fieldLinkNest "RowRing" 104 "RowRing$Tape" "fault" "I" "RowRing" ∈ lw_tbl := List.mem_of_getElem? (i := 155) (by decide +kernel)
theorem zt_N_5 : Jvm.Cond.fieldLinkNest "RowRing$Smithy" 73 "RowRing$Tape" "fault" "I" "RowRing" ∈ lw_tbl := List.mem_of_getElem? (i := 156) (by decide +kernel)
theorem zt_N_6 : Jvm.Cond.fieldLinkNest "RowRing" 197 "RowRing$Smithy" "told" "Z" "RowRing" ∈ lw_tbl := List.mem_of_getElem? (i := 180) (by decide +kernel)
theorem zt_N_7 : Jvm.Cond.fieldLinkNest "RowRing" 170 "RowRing$Smithy" "widest" "I" "RowRing" ∈ lw_tbl := List.mem_of_getElem? (i := 182) (by decide +kernel)
theorem zt_N_8 : Jvm.Cond.fieldLinkNest "RowRing$Mill" 138 "RowRing$Smithy" "widest" "I" "RowRing" ∈ lw_tbl := List.mem_of_getElem? (i := 183) (by decide +kernel)
theorem zt_N_9 : Jvm.Cond.fieldLinkNest "RowRing$Mill" 69 "RowRing$Smithy" "wear" "I" "RowRing" ∈ lw_tbl := List.mem_of_getElem? (i := 184) (by decide +kernel)
theorem zt_N_10 : Jvm.Cond.fieldLinkNest "RowRing$Handiwork" 70 "RowRing$Smithy" "wear" "I" "RowRing" ∈ lw_tbl := List.mem_of_getElem? (i := 185) (by decide +kernel)
theorem zt_N_11 : Jvm.Cond.fieldLinkNest "RowRing" 173 "RowRing$Smithy" "wear" "I" "RowRing" ∈ lw_tbl := List.mem_of_getElem? (i := 187) (by decide +kernel)
theorem zt_N_12 : Jvm.Cond.fieldLinkNest "RowRing$Mill" 41 "RowRing$Smithy" "pairs" "I" "RowRing" ∈ lw_tbl := List.mem_of_getElem? (i := 189) (by decide +kernel)
theorem zt_N_13 : Jvm.Cond.fieldLinkNest "RowRing$State" 37 "RowRing$Smithy" "pairs" "I" "RowRing" ∈ lw_tbl := List.mem_of_getElem? (i := 190) (by decide +kernel)
theorem zt_N_14 : Jvm.Cond.fieldLinkNest "RowRing" 126 "RowRing$Smithy" "pairs" "I" "RowRing" ∈ lw_tbl := List.mem_of_getElem? (i := 191) (by decide +kernel)
theorem zt_N_15 : Jvm.Cond.fieldLinkNest "RowRing$Foresight" 90 "RowRing$Smithy" "pairs" "I" "RowRing" ∈ lw_tbl := List.mem_of_getElem? (i := 192) (by decide +kernel)
theorem zt_N_16 : Jvm.Cond.fieldLinkNest "RowRing$Handiwork" 92 "RowRing$Smithy" "pairs" "I" "RowRing" ∈ lw_tbl := List.mem_of_getElem? (i := 193) (by decide +kernel)
theorem zt_N_17 : Jvm.Cond.fieldLinkNest "RowRing$Handiwork" 38 "RowRing$Smithy" "sayings" "I" "RowRing" ∈ lw_tbl := List.mem_of_getElem? (i := 194) (by decide +kernel)
theorem zt_N_18 : Jvm.Cond.fieldLinkNest "RowRing$Mill" 84 "RowRing$Smithy" "sayings" "I" "RowRing" ∈ lw_tbl := List.mem_of_getElem? (i := 196) (by decide +kernel)
theorem zt_N_19 : Jvm.Cond.fieldLinkNest "RowRing$Foresight" 73 "RowRing$Smithy" "sayings" "I" "RowRing" ∈ lw_tbl := List.mem_of_getElem? (i := 197) (by decide +kernel)
theorem zt_N_20 : Jvm.Cond.fieldLinkNest "RowRing" 176 "RowRing$Smithy" "sayings" "I" "RowRing" ∈ lw_tbl := List.mem_of_getElem? (i := 198) (by decide +kernel)
theorem zt_N_21 : Jvm.Cond.fieldLinkNest "RowRing$State" 42 "RowRing$Smithy" "temper" "[I" "RowRing" ∈ lw_tbl := List.mem_of_getElem? (i := 200) (by decide +kernel)
theorem zt_N_22 : Jvm.Cond.fieldLinkNest "RowRing$Handiwork" 61 "RowRing$Smithy" "breaks" "[I" "RowRing" ∈ lw_tbl := List.mem_of_getElem? (i := 202) (by decide +kernel)
theorem zt_N_23 : Jvm.Cond.fieldLinkNest "RowRing$Mill" 104 "RowRing$Smithy" "breaks" "[I" "RowRing" ∈ lw_tbl := List.mem_of_getElem? (i := 203) (by decide +kernel)
theorem zt_N_24 : Jvm.Cond.fieldLinkNest "RowRing" 144 "RowRing$Smithy" "breaks" "[I" "RowRing" ∈ lw_tbl := List.mem_of_getElem? (i := 204) (by decide +kernel)
theorem zt_N_25 : Jvm.Cond.fieldLinkNest "RowRing$Mill" 107 "RowRing$Smithy" "near" "[I" "RowRing" ∈ lw_tbl := List.mem_of_getElem? (i := 206) (by decide +kernel)
theorem zt_N_26 : Jvm.Cond.fieldLinkNest "RowRing" 153 "RowRing$Smithy" "near" "[I" "RowRing" ∈ lw_tbl := List.mem_of_getElem? (i := 207) (by decide +kernel)
theorem zt_N_27 : Jvm.Cond.fieldLinkNest "RowRing$Handiwork" 103 "RowRing$Smithy" "near" "[I" "RowRing" ∈ lw_tbl := List.mem_of_getElem? (i := 208) (by decide +kernel)
theorem zt_N_28 : Jvm.Cond.fieldLinkNest "RowRing$Mill" 119 "RowRing$Smithy" "hurt" "[I" "RowRing" ∈ lw_tbl := List.mem_of_getElem? (i := 210) (by decide +kernel)
theorem zt_N_29 : Jvm.Cond.fieldLinkNest "RowRing$Mill" 122 "RowRing$Smithy" "more" "[I" "RowRing" ∈ lw_tbl := List.mem_of_getElem? (i := 212) (by decide +kernel)
theorem zt_N_30 : Jvm.Cond.fieldLinkNest "RowRing$Mill" 59 "RowRing$State" "day" "I" "RowRing" ∈ lw_tbl := List.mem_of_getElem? (i := 242) (by decide +kernel)
theorem zt_N_31 : Jvm.Cond.fieldLinkNest "RowRing$Foresight" 63 "RowRing$State" "day" "I" "RowRing" ∈ lw_tbl := List.mem_of_getElem? (i := 243) (by decide +kernel)
theorem zt_N_32 : Jvm.Cond.fieldLinkNest "RowRing$Handiwork" 76 "RowRing$State" "day" "I" "RowRing" ∈ lw_tbl := List.mem_of_getElem? (i := 244) (by decide +kernel)
theorem zt_N_33 : Jvm.Cond.fieldLinkNest "RowRing" 179 "RowRing$State" "day" "I" "RowRing" ∈ lw_tbl := List.mem_of_getElem? (i := 245) (by decide +kernel)
theorem zt_N_34 : Jvm.Cond.fieldLinkNest "RowRing$Foresight" 49 "RowRing$State" "rows" "I" "RowRing" ∈ lw_tbl := List.mem_of_getElem? (i := 247) (by decide +kernel)
theorem zt_N_35 : Jvm.Cond.fieldLinkNest "RowRing$Mill" 116 "RowRing$State" "rows" "I" "RowRing" ∈ lw_tbl := List.mem_of_getElem? (i := 248) (by decide +kernel)
theorem zt_N_36 : Jvm.Cond.fieldLinkNest "RowRing" 186 "RowRing$State" "rows" "I" "RowRing" ∈ lw_tbl := List.mem_of_getElem? (i := 249) (by decide +kernel)
theorem zt_N_37 : Jvm.Cond.fieldLinkNest "RowRing$Handiwork" 28 "RowRing$State" "temper" "[I" "RowRing" ∈ lw_tbl := List.mem_of_getElem? (i := 251) (by decide +kernel)
theorem zt_N_38 : Jvm.Cond.fieldLinkNest "RowRing$Mill" 66 "RowRing$State" "temper" "[I" "RowRing" ∈ lw_tbl := List.mem_of_getElem? (i := 252) (by decide +kernel)
theorem zt_N_39 : Jvm.Cond.fieldLinkNest "RowRing" 140 "RowRing$State" "temper" "[I" "RowRing" ∈ lw_tbl := List.mem_of_getElem? (i := 253) (by decide +kernel)
theorem zt_N_40 : Jvm.Cond.fieldLinkNest "RowRing$Foresight" 96 "RowRing$State" "temper" "[I" "RowRing" ∈ lw_tbl := List.mem_of_getElem? (i := 254) (by decide +kernel)
theorem zt_N_41 : Jvm.Cond.fieldLinkNest "RowRing$World" 62 "RowRing$State" "wide" "[I" "RowRing" ∈ lw_tbl := List.mem_of_getElem? (i := 256) (by decide +kernel)
theorem zt_N_42 : Jvm.Cond.fieldLinkNest "RowRing$Mill" 46 "RowRing$State" "wide" "[I" "RowRing" ∈ lw_tbl := List.mem_of_getElem? (i := 257) (by decide +kernel)
theorem zt_N_43 : Jvm.Cond.fieldLinkNest "RowRing$Handiwork" 73 "RowRing$State" "wide" "[I" "RowRing" ∈ lw_tbl := List.mem_of_getElem? (i := 258) (by decide +kernel)
theorem zt_N_44 : Jvm.Cond.fieldLinkNest "RowRing" 147 "RowRing$State" "wide" "[I" "RowRing" ∈ lw_tbl := List.mem_of_getElem? (i := 259) (by decide +kernel)
theorem zt_N_45 : Jvm.Cond.fieldLinkNest "RowRing$Foresight" 155 "RowRing$State" "wide" "[I" "RowRing" ∈ lw_tbl := List.mem_of_getElem? (i := 260) (by decide +kernel)
theorem zt_N_46 : Jvm.Cond.fieldLinkNest "RowRing$Mill" 78 "RowRing$State" "size" "[I" "RowRing" ∈ lw_tbl := List.mem_of_getElem? (i := 262) (by decide +kernel)
theorem zt_N_47 : Jvm.Cond.fieldLinkNest "RowRing" 150 "RowRing$State" "size" "[I" "RowRing" ∈ lw_tbl := List.mem_of_getElem? (i := 263) (by decide +kernel)
theorem zt_N_48 : Jvm.Cond.fieldLinkNest "RowRing$Mill" 125 "RowRing$State" "said" "[I" "RowRing" ∈ lw_tbl := List.mem_of_getElem? (i := 265) (by decide +kernel)
theorem zt_N_49 : Jvm.Cond.fieldLinkNest "RowRing" 167 "RowRing$State" "said" "[I" "RowRing" ∈ lw_tbl := List.mem_of_getElem? (i := 266) (by decide +kernel)
theorem zt_N_50 : Jvm.Cond.fieldLinkNest "RowRing" 59 "RowRing$World" "smithy" "LRowRing$Smithy;" "RowRing" ∈ lw_tbl := List.mem_of_getElem? (i := 281) (by decide +kernel)
theorem zt_N_51 : Jvm.Cond.fieldLinkNest "RowRing$Handiwork" 34 "RowRing$World" "smithy" "LRowRing$Smithy;" "RowRing" ∈ lw_tbl := List.mem_of_getElem? (i := 282) (by decide +kernel)
theorem zt_N_52 : Jvm.Cond.fieldLinkNest "RowRing$Foresight" 69 "RowRing$World" "smithy" "LRowRing$Smithy;" "RowRing" ∈ lw_tbl := List.mem_of_getElem? (i := 283) (by decide +kernel)
theorem zt_N_53 : Jvm.Cond.fieldLinkNest "RowRing$Handiwork" 22 "RowRing$World" "state" "LRowRing$State;" "RowRing" ∈ lw_tbl := List.mem_of_getElem? (i := 285) (by decide +kernel)
theorem zt_N_54 : Jvm.Cond.fieldLinkNest "RowRing$Foresight" 30 "RowRing$World" "state" "LRowRing$State;" "RowRing" ∈ lw_tbl := List.mem_of_getElem? (i := 286) (by decide +kernel)
theorem zt_N_55 : Jvm.Cond.fieldLinkNest "RowRing" 111 "RowRing$World" "state" "LRowRing$State;" "RowRing" ∈ lw_tbl := List.mem_of_getElem? (i := 287) (by decide +kernel)
theorem zt_N_56 : Jvm.Cond.fieldLinkNest "RowRing$Foresight" 167 "RowRing$World" "noteDay" "[I" "RowRing" ∈ lw_tbl := List.mem_of_getElem? (i := 289) (by decide +kernel)
theorem zt_N_57 : Jvm.Cond.fieldLinkNest "RowRing$Foresight" 170 "RowRing$World" "notePair" "[I" "RowRing" ∈ lw_tbl := List.mem_of_getElem? (i := 291) (by decide +kernel)
theorem zt_N_58 : Jvm.Cond.fieldLinkNest "RowRing$Foresight" 173 "RowRing$World" "noteWide" "[I" "RowRing" ∈ lw_tbl := List.mem_of_getElem? (i := 293) (by decide +kernel)
theorem zt_N_59 : Jvm.Cond.fieldLinkNest "RowRing" 120 "RowRing$World" "notes" "I" "RowRing" ∈ lw_tbl := List.mem_of_getElem? (i := 295) (by decide +kernel)
theorem zt_N_60 : Jvm.Cond.fieldLinkNest "RowRing$Foresight" 164 "RowRing$World" "notes" "I" "RowRing" ∈ lw_tbl := List.mem_of_getElem? (i := 296) (by decide +kernel)
theorem zt_N_61 : Jvm.Cond.fieldLinkNest "RowRing$Foresight" 39 "RowRing$World" "force" "I" "RowRing" ∈ lw_tbl := List.mem_of_getElem? (i := 298) (by decide +kernel)
theorem zt_N_62 : Jvm.Cond.fieldLinkNest "RowRing" 133 "RowRing$World" "force" "I" "RowRing" ∈ lw_tbl := List.mem_of_getElem? (i := 299) (by decide +kernel)
theorem zt_N_63 : Jvm.Cond.fieldLinkNest "RowRing" 194 "RowRing$World" "x" "I" "RowRing" ∈ lw_tbl := List.mem_of_getElem? (i := 301) (by decide +kernel)
theorem zt_N_64 : Jvm.Cond.fieldLinkNest "RowRing$Foresight" 106 "RowRing$World" "x" "I" "RowRing" ∈ lw_tbl := List.mem_of_getElem? (i := 302) (by decide +kernel)
theorem zt_N_65 : Jvm.Cond.fieldLinkNest "RowRing" 301 "RowRing$World" "made" "Z" "RowRing" ∈ lw_tbl := List.mem_of_getElem? (i := 303) (by decide +kernel)
theorem zt_N_66 : Jvm.Cond.fieldLinkNest "RowRing" 192 "RowRing$History" "size" "I" "RowRing" ∈ lw_tbl := List.mem_of_getElem? (i := 380) (by decide +kernel)
theorem zt_N_67 : Jvm.Cond.fieldLinkNest "RowRing$Foresight" 66 "RowRing$Mill" "rowSize" "[I" "RowRing" ∈ lw_tbl := List.mem_of_getElem? (i := 399) (by decide +kernel)
theorem zt_N_68 : Jvm.Cond.fieldLinkNest "RowRing$Foresight" 87 "RowRing$Mill" "struck" "I" "RowRing" ∈ lw_tbl := List.mem_of_getElem? (i := 402) (by decide +kernel)
theorem zt_N_69 : Jvm.Cond.fieldLinkNest "RowRing$Foresight" 93 "RowRing$Mill" "atHome" "I" "RowRing" ∈ lw_tbl := List.mem_of_getElem? (i := 404) (by decide +kernel)
theorem zt_N_70 : Jvm.Cond.fieldLinkNest "RowRing" 286 "RowRing$Foresight" "fits" "I" "RowRing" ∈ lw_tbl := List.mem_of_getElem? (i := 436) (by decide +kernel)
theorem zt_N_71 : Jvm.Cond.fieldLinkNest "RowRing" 289 "RowRing$Foresight" "firstFit" "I" "RowRing" ∈ lw_tbl := List.mem_of_getElem? (i := 438) (by decide +kernel)
set_option maxRecDepth 20000 in
theorem zt_N_ok : ∀ q ∈ zt_OL.2, Jvm.Cond.fieldLinkNest q.1 q.2.1 q.2.2.1 q.2.2.2.1 q.2.2.2.2.1 q.2.2.2.2.2 ∈ lw_tbl := List.forall_mem_cons.mpr ⟨zt_N_0, List.forall_mem_cons.mpr ⟨zt_N_1, List.forall_mem_cons.mpr ⟨zt_N_2, List.forall_mem_cons.mpr ⟨zt_N_3, List.forall_mem_cons.mpr ⟨zt_N_4, List.forall_mem_cons.mpr ⟨zt_N_5, List.forall_mem_cons.mpr ⟨zt_N_6, List.forall_mem_cons.mpr ⟨zt_N_7, List.forall_mem_cons.mpr ⟨zt_N_8, List.forall_mem_cons.mpr ⟨zt_N_9, List.forall_mem_cons.mpr ⟨zt_N_10, List.forall_mem_cons.mpr ⟨zt_N_11, List.forall_mem_cons.mpr ⟨zt_N_12, List.forall_mem_cons.mpr ⟨zt_N_13, List.forall_mem_cons.mpr ⟨zt_N_14, List.forall_mem_cons.mpr ⟨zt_N_15, List.forall_mem_cons.mpr ⟨zt_N_16, List.forall_mem_cons.mpr ⟨zt_N_17, List.forall_mem_cons.mpr ⟨zt_N_18, List.forall_mem_cons.mpr ⟨zt_N_19, List.forall_mem_cons.mpr ⟨zt_N_20, List.forall_mem_cons.mpr ⟨zt_N_21, List.forall_mem_cons.mpr ⟨zt_N_22, List.forall_mem_cons.mpr ⟨zt_N_23, List.forall_mem_cons.mpr ⟨zt_N_24, List.forall_mem_cons.mpr ⟨zt_N_25, List.forall_mem_cons.mpr ⟨zt_N_26, List.forall_mem_cons.mpr ⟨zt_N_27, List.forall_mem_cons.mpr ⟨zt_N_28, List.forall_mem_cons.mpr ⟨zt_N_29, List.forall_mem_cons.mpr ⟨zt_N_30, List.forall_mem_cons.mpr ⟨zt_N_31, List.forall_mem_cons.mpr ⟨zt_N_32, List.forall_mem_cons.mpr ⟨zt_N_33, List.forall_mem_cons.mpr ⟨zt_N_34, List.forall_mem_cons.mpr ⟨zt_N_35, List.forall_mem_cons.mpr ⟨zt_N_36, List.forall_mem_cons.mpr ⟨zt_N_37, List.forall_mem_cons.mpr ⟨zt_N_38, List.forall_mem_cons.mpr ⟨zt_N_39, List.forall_mem_cons.mpr ⟨zt_N_40, List.forall_mem_cons.mpr ⟨zt_N_41, List.forall_mem_cons.mpr ⟨zt_N_42, List.forall_mem_cons.mpr ⟨zt_N_43, List.forall_mem_cons.mpr ⟨zt_N_44, List.forall_mem_cons.mpr ⟨zt_N_45, List.forall_mem_cons.mpr ⟨zt_N_46, List.forall_mem_cons.mpr ⟨zt_N_47, List.forall_mem_cons.mpr ⟨zt_N_48, List.forall_mem_cons.mpr ⟨zt_N_49, List.forall_mem_cons.mpr ⟨zt_N_50, List.forall_mem_cons.mpr ⟨zt_N_51, List.forall_mem_cons.mpr ⟨zt_N_52, List.forall_mem_cons.mpr ⟨zt_N_53, List.forall_mem_cons.mpr ⟨zt_N_54, List.forall_mem_cons.mpr ⟨zt_N_55, List.forall_mem_cons.mpr ⟨zt_N_56, List.forall_mem_cons.mpr ⟨zt_N_57, List.forall_mem_cons.mpr ⟨zt_N_58, List.forall_mem_cons.mpr ⟨zt_N_59, List.forall_mem_cons.mpr ⟨zt_N_60, List.forall_mem_cons.mpr ⟨zt_N_61, List.forall_mem_cons.mpr ⟨zt_N_62, List.forall_mem_cons.mpr ⟨zt_N_63, List.forall_mem_cons.mpr ⟨zt_N_64, List.forall_mem_cons.mpr ⟨zt_N_65, List.forall_mem_cons.mpr ⟨zt_N_66, List.forall_mem_cons.mpr ⟨zt_N_67, List.forall_mem_cons.mpr ⟨zt_N_68, List.forall_mem_cons.mpr ⟨zt_N_69, List.forall_mem_cons.mpr ⟨zt_N_70, List.forall_mem_cons.mpr ⟨zt_N_71, fun _ h => absurd h List.not_mem_nil⟩⟩⟩⟩⟩⟩⟩⟩⟩⟩⟩⟩⟩⟩⟩⟩⟩⟩⟩⟩⟩⟩⟩⟩⟩⟩⟩⟩⟩⟩⟩⟩⟩⟩⟩⟩⟩⟩⟩⟩⟩⟩⟩⟩⟩⟩⟩⟩⟩⟩⟩⟩⟩⟩⟩⟩⟩⟩⟩⟩⟩⟩⟩⟩⟩⟩⟩⟩⟩⟩⟩⟩
def zt_U : List FieldType := [.int, .long, .byte, .boolean, .object "RowRing$World", .object "RowRing$Rule", .object "RowRing$State"]
def zt_SL : List (String × Nat × String × Nat) := [("RowRing$Smithy", 76, "smith pair saying minds near", 1000010), ("RowRing$RuleReader", 41, "say", 1000011), ("RowRing$RuleReader", 104, "pair saying temper breaks hurt minds said near bands rows day", 1000012), ("RowRing$RuleReader", 112, "not", 1000013), ("RowRing$RuleReader", 134, "if", 1000014), ("RowRing$RuleReader", 143, "or and", 1000015)]
def zt_GL : List (String × String × String × Value) := [("RowRing$RuleReader", "BINDS", "[I", .ref 1000001), ("java/lang/String", "COMPACT_STRINGS", "Z", .int 1), ("jdk/internal/util/Preconditions", "SIOOBE_FORMATTER", "Ljava/util/function/BiFunction;", .ref 1000002)]
def zt_Ts : List Jvm.Cond := lw_tbl.filter goodWord
theorem zt_mem (i : Nat) {w : Jvm.Cond} (h : lw_tbl[i]? = some w) (hg : goodWord w = true) : w ∈ zt_Ts := List.mem_filter.mpr ⟨List.mem_of_getElem? h, hg⟩
theorem zt_uws0 : ∀ w ∈ u_ws RX0 TX0 6, w ∈ zt_Ts := by
  intro w hw
  obtain ⟨k, hk, rfl⟩ := List.mem_map.mp hw
  have hk := List.mem_range.mp hk
  match k, hk with
  | 0, _ => exact zt_mem 439 (by decide +kernel) (by decide +kernel)
  | 1, _ => exact zt_mem 441 (by decide +kernel) (by decide +kernel)
  | 2, _ => exact zt_mem 443 (by decide +kernel) (by decide +kernel)
  | 3, _ => exact zt_mem 445 (by decide +kernel) (by decide +kernel)
  | 4, _ => exact zt_mem 447 (by decide +kernel) (by decide +kernel)
  | 5, _ => exact zt_mem 449 (by decide +kernel) (by decide +kernel)
  | n + 6, h => exact absurd h (by omega)
theorem zt_uws1 : ∀ w ∈ u_ws RX1 TX1 3, w ∈ zt_Ts := by
  intro w hw
  obtain ⟨k, hk, rfl⟩ := List.mem_map.mp hw
  have hk := List.mem_range.mp hk
  match k, hk with
  | 0, _ => exact zt_mem 461 (by decide +kernel) (by decide +kernel)
  | 1, _ => exact zt_mem 463 (by decide +kernel) (by decide +kernel)
  | 2, _ => exact zt_mem 465 (by decide +kernel) (by decide +kernel)
  | n + 3, h => exact absurd h (by omega)
theorem zt_uws2 : ∀ w ∈ u_ws RX2 TX2 3, w ∈ zt_Ts := by
  intro w hw
  obtain ⟨k, hk, rfl⟩ := List.mem_map.mp hw
  have hk := List.mem_range.mp hk
  match k, hk with
  | 0, _ => exact zt_mem 381 (by decide +kernel) (by decide +kernel)
  | 1, _ => exact zt_mem 383 (by decide +kernel) (by decide +kernel)
  | 2, _ => exact zt_mem 385 (by decide +kernel) (by decide +kernel)
  | n + 3, h => exact absurd h (by omega)
theorem zt_uws3 : ∀ w ∈ u_ws RX3 TX3 8, w ∈ zt_Ts := by
  intro w hw
  obtain ⟨k, hk, rfl⟩ := List.mem_map.mp hw
  have hk := List.mem_range.mp hk
  match k, hk with
  | 0, _ => exact zt_mem 405 (by decide +kernel) (by decide +kernel)
  | 1, _ => exact zt_mem 407 (by decide +kernel) (by decide +kernel)
  | 2, _ => exact zt_mem 409 (by decide +kernel) (by decide +kernel)
  | 3, _ => exact zt_mem 411 (by decide +kernel) (by decide +kernel)
  | 4, _ => exact zt_mem 413 (by decide +kernel) (by decide +kernel)
  | 5, _ => exact zt_mem 415 (by decide +kernel) (by decide +kernel)
  | 6, _ => exact zt_mem 417 (by decide +kernel) (by decide +kernel)
  | 7, _ => exact zt_mem 419 (by decide +kernel) (by decide +kernel)
  | n + 8, h => exact absurd h (by omega)
theorem zt_uws4 : ∀ w ∈ u_ws RX4 TX4 2, w ∈ zt_Ts := by
  intro w hw
  obtain ⟨k, hk, rfl⟩ := List.mem_map.mp hw
  have hk := List.mem_range.mp hk
  match k, hk with
  | 0, _ => exact zt_mem 335 (by decide +kernel) (by decide +kernel)
  | 1, _ => exact zt_mem 337 (by decide +kernel) (by decide +kernel)
  | n + 2, h => exact absurd h (by omega)
theorem zt_uws5 : ∀ w ∈ u_ws RX5 TX5 7, w ∈ zt_Ts := by
  intro w hw
  obtain ⟨k, hk, rfl⟩ := List.mem_map.mp hw
  have hk := List.mem_range.mp hk
  match k, hk with
  | 0, _ => exact zt_mem 353 (by decide +kernel) (by decide +kernel)
  | 1, _ => exact zt_mem 355 (by decide +kernel) (by decide +kernel)
  | 2, _ => exact zt_mem 357 (by decide +kernel) (by decide +kernel)
  | 3, _ => exact zt_mem 359 (by decide +kernel) (by decide +kernel)
  | 4, _ => exact zt_mem 361 (by decide +kernel) (by decide +kernel)
  | 5, _ => exact zt_mem 363 (by decide +kernel) (by decide +kernel)
  | 6, _ => exact zt_mem 365 (by decide +kernel) (by decide +kernel)
  | n + 7, h => exact absurd h (by omega)
theorem zt_uws6 : ∀ w ∈ u_ws RX6 TX6 10, w ∈ zt_Ts := by
  intro w hw
  obtain ⟨k, hk, rfl⟩ := List.mem_map.mp hw
  have hk := List.mem_range.mp hk
  match k, hk with
  | 0, _ => exact zt_mem 213 (by decide +kernel) (by decide +kernel)
  | 1, _ => exact zt_mem 215 (by decide +kernel) (by decide +kernel)
  | 2, _ => exact zt_mem 217 (by decide +kernel) (by decide +kernel)
  | 3, _ => exact zt_mem 219 (by decide +kernel) (by decide +kernel)
  | 4, _ => exact zt_mem 221 (by decide +kernel) (by decide +kernel)
  | 5, _ => exact zt_mem 223 (by decide +kernel) (by decide +kernel)
  | 6, _ => exact zt_mem 225 (by decide +kernel) (by decide +kernel)
  | 7, _ => exact zt_mem 227 (by decide +kernel) (by decide +kernel)
  | 8, _ => exact zt_mem 229 (by decide +kernel) (by decide +kernel)
  | 9, _ => exact zt_mem 231 (by decide +kernel) (by decide +kernel)
  | n + 10, h => exact absurd h (by omega)
theorem zt_uws7 : ∀ w ∈ u_ws RX7 TX7 6, w ∈ zt_Ts := by
  intro w hw
  obtain ⟨k, hk, rfl⟩ := List.mem_map.mp hw
  have hk := List.mem_range.mp hk
  match k, hk with
  | 0, _ => exact zt_mem 267 (by decide +kernel) (by decide +kernel)
  | 1, _ => exact zt_mem 269 (by decide +kernel) (by decide +kernel)
  | 2, _ => exact zt_mem 271 (by decide +kernel) (by decide +kernel)
  | 3, _ => exact zt_mem 273 (by decide +kernel) (by decide +kernel)
  | 4, _ => exact zt_mem 275 (by decide +kernel) (by decide +kernel)
  | 5, _ => exact zt_mem 277 (by decide +kernel) (by decide +kernel)
  | n + 6, h => exact absurd h (by omega)
theorem zt_uws8 : ∀ w ∈ u_ws RX8 TX8 4, w ∈ zt_Ts := by
  intro w hw
  obtain ⟨k, hk, rfl⟩ := List.mem_map.mp hw
  have hk := List.mem_range.mp hk
  match k, hk with
  | 0, _ => exact zt_mem 157 (by decide +kernel) (by decide +kernel)
  | 1, _ => exact zt_mem 159 (by decide +kernel) (by decide +kernel)
  | 2, _ => exact zt_mem 161 (by decide +kernel) (by decide +kernel)
  | 3, _ => exact zt_mem 163 (by decide +kernel) (by decide +kernel)
  | n + 4, h => exact absurd h (by omega)
theorem zt_uws9 : ∀ w ∈ u_ws RX9 TX9 9, w ∈ zt_Ts := by
  intro w hw
  obtain ⟨k, hk, rfl⟩ := List.mem_map.mp hw
  have hk := List.mem_range.mp hk
  match k, hk with
  | 0, _ => exact zt_mem 304 (by decide +kernel) (by decide +kernel)
  | 1, _ => exact zt_mem 306 (by decide +kernel) (by decide +kernel)
  | 2, _ => exact zt_mem 308 (by decide +kernel) (by decide +kernel)
  | 3, _ => exact zt_mem 310 (by decide +kernel) (by decide +kernel)
  | 4, _ => exact zt_mem 312 (by decide +kernel) (by decide +kernel)
  | 5, _ => exact zt_mem 314 (by decide +kernel) (by decide +kernel)
  | 6, _ => exact zt_mem 316 (by decide +kernel) (by decide +kernel)
  | 7, _ => exact zt_mem 318 (by decide +kernel) (by decide +kernel)
  | 8, _ => exact zt_mem 320 (by decide +kernel) (by decide +kernel)
  | n + 9, h => exact absurd h (by omega)
theorem zt_uws10 : ∀ w ∈ u_ws RX10 TX10 11, w ∈ zt_Ts := by
  intro w hw
  obtain ⟨k, hk, rfl⟩ := List.mem_map.mp hw
  have hk := List.mem_range.mp hk
  match k, hk with
  | 0, _ => exact zt_mem 479 (by decide +kernel) (by decide +kernel)
  | 1, _ => exact zt_mem 481 (by decide +kernel) (by decide +kernel)
  | 2, _ => exact zt_mem 483 (by decide +kernel) (by decide +kernel)
  | 3, _ => exact zt_mem 485 (by decide +kernel) (by decide +kernel)
  | 4, _ => exact zt_mem 487 (by decide +kernel) (by decide +kernel)
  | 5, _ => exact zt_mem 489 (by decide +kernel) (by decide +kernel)
  | 6, _ => exact zt_mem 491 (by decide +kernel) (by decide +kernel)
  | 7, _ => exact zt_mem 493 (by decide +kernel) (by decide +kernel)
  | 8, _ => exact zt_mem 495 (by decide +kernel) (by decide +kernel)
  | 9, _ => exact zt_mem 497 (by decide +kernel) (by decide +kernel)
  | 10, _ => exact zt_mem 499 (by decide +kernel) (by decide +kernel)
  | n + 11, h => exact absurd h (by omega)
theorem zt_uws11 : ∀ w ∈ u_ws RX11 TX11 42, w ∈ zt_Ts := by
  intro w hw
  obtain ⟨k, hk, rfl⟩ := List.mem_map.mp hw
  have hk := List.mem_range.mp hk
  match k, hk with
  | 0, _ => exact zt_mem 1190 (by decide +kernel) (by decide +kernel)
  | 1, _ => exact zt_mem 1192 (by decide +kernel) (by decide +kernel)
  | 2, _ => exact zt_mem 1194 (by decide +kernel) (by decide +kernel)
  | 3, _ => exact zt_mem 1196 (by decide +kernel) (by decide +kernel)
  | 4, _ => exact zt_mem 1198 (by decide +kernel) (by decide +kernel)
  | 5, _ => exact zt_mem 1200 (by decide +kernel) (by decide +kernel)
  | 6, _ => exact zt_mem 1202 (by decide +kernel) (by decide +kernel)
  | 7, _ => exact zt_mem 1204 (by decide +kernel) (by decide +kernel)
  | 8, _ => exact zt_mem 1206 (by decide +kernel) (by decide +kernel)
  | 9, _ => exact zt_mem 1208 (by decide +kernel) (by decide +kernel)
  | 10, _ => exact zt_mem 1210 (by decide +kernel) (by decide +kernel)
  | 11, _ => exact zt_mem 1212 (by decide +kernel) (by decide +kernel)
  | 12, _ => exact zt_mem 1214 (by decide +kernel) (by decide +kernel)
  | 13, _ => exact zt_mem 1216 (by decide +kernel) (by decide +kernel)
  | 14, _ => exact zt_mem 1218 (by decide +kernel) (by decide +kernel)
  | 15, _ => exact zt_mem 1220 (by decide +kernel) (by decide +kernel)
  | 16, _ => exact zt_mem 1222 (by decide +kernel) (by decide +kernel)
  | 17, _ => exact zt_mem 1224 (by decide +kernel) (by decide +kernel)
  | 18, _ => exact zt_mem 1226 (by decide +kernel) (by decide +kernel)
  | 19, _ => exact zt_mem 1228 (by decide +kernel) (by decide +kernel)
  | 20, _ => exact zt_mem 1230 (by decide +kernel) (by decide +kernel)
  | 21, _ => exact zt_mem 1232 (by decide +kernel) (by decide +kernel)
  | 22, _ => exact zt_mem 1234 (by decide +kernel) (by decide +kernel)
  | 23, _ => exact zt_mem 1236 (by decide +kernel) (by decide +kernel)
  | 24, _ => exact zt_mem 1238 (by decide +kernel) (by decide +kernel)
  | 25, _ => exact zt_mem 1240 (by decide +kernel) (by decide +kernel)
  | 26, _ => exact zt_mem 1242 (by decide +kernel) (by decide +kernel)
  | 27, _ => exact zt_mem 1244 (by decide +kernel) (by decide +kernel)
  | 28, _ => exact zt_mem 1246 (by decide +kernel) (by decide +kernel)
  | 29, _ => exact zt_mem 1248 (by decide +kernel) (by decide +kernel)
  | 30, _ => exact zt_mem 1250 (by decide +kernel) (by decide +kernel)
  | 31, _ => exact zt_mem 1252 (by decide +kernel) (by decide +kernel)
  | 32, _ => exact zt_mem 1254 (by decide +kernel) (by decide +kernel)
  | 33, _ => exact zt_mem 1256 (by decide +kernel) (by decide +kernel)
  | 34, _ => exact zt_mem 1258 (by decide +kernel) (by decide +kernel)
  | 35, _ => exact zt_mem 1260 (by decide +kernel) (by decide +kernel)
  | 36, _ => exact zt_mem 1262 (by decide +kernel) (by decide +kernel)
  | 37, _ => exact zt_mem 1264 (by decide +kernel) (by decide +kernel)
  | 38, _ => exact zt_mem 1266 (by decide +kernel) (by decide +kernel)
  | 39, _ => exact zt_mem 1268 (by decide +kernel) (by decide +kernel)
  | 40, _ => exact zt_mem 1270 (by decide +kernel) (by decide +kernel)
  | 41, _ => exact zt_mem 1272 (by decide +kernel) (by decide +kernel)
  | n + 42, h => exact absurd h (by omega)
