def RX0 : String := "GreenButtons$Crew"
def TX0 : u_T := fun k => match k with
  | 0 => ("GreenButtons$Crew", "ship", "LGreenButtons$Ship;", true)
  | 1 => ("GreenButtons$Crew", "rise", "[I", true)
  | 2 => ("GreenButtons$Crew", "green", "[I", true)
  | 3 => ("GreenButtons$Crew", "place", "[I", true)
  | 4 => ("GreenButtons$Crew", "sucked", "I", false)
  | _ => ("GreenButtons$Crew", "over", "I", false)
def tyX0 : Nat → FieldType := fun k => match k with
  | 0 => .object "GreenButtons$Ship"
  | 1 => .array .int
  | 2 => .array .int
  | 3 => .array .int
  | 4 => .int
  | _ => .int
abbrev wsX00 : List Cond := u_ws RX0 TX0 6
theorem nmX0 : ∀ a, a < 6 → ∀ b, b < 6 → a ≠ b → (TX0 a).2.1 ≠ (TX0 b).2.1 := by decide +kernel
theorem tyX0_ok : ∀ k, k < 6 → parseFieldDescriptor (TX0 k).2.2.1 = some (tyX0 k) := by decide +kernel
def RX1 : String := "GreenButtons$Forecast"
def TX1 : u_T := fun k => match k with
  | 0 => ("GreenButtons$Forecast", "ship", "LGreenButtons$Ship;", true)
  | 1 => ("GreenButtons$Forecast", "now", "LGreenButtons$Crew;", true)
  | 2 => ("GreenButtons$Forecast", "trial", "LGreenButtons$Crew;", true)
  | _ => ("GreenButtons$Forecast", "seed", "J", false)
def tyX1 : Nat → FieldType := fun k => match k with
  | 0 => .object "GreenButtons$Ship"
  | 1 => .object "GreenButtons$Crew"
  | 2 => .object "GreenButtons$Crew"
  | _ => .long
abbrev wsX10 : List Cond := u_ws RX1 TX1 4
theorem nmX1 : ∀ a, a < 4 → ∀ b, b < 4 → a ≠ b → (TX1 a).2.1 ≠ (TX1 b).2.1 := by decide +kernel
theorem tyX1_ok : ∀ k, k < 4 → parseFieldDescriptor (TX1 k).2.2.1 = some (tyX1 k) := by decide +kernel
def RX2 : String := "GreenButtons$Forecast"
def TX2 : u_T := fun k => match k with
  | 0 => ("GreenButtons$Forecast", "ship", "LGreenButtons$Ship;", true)
  | 1 => ("GreenButtons$Forecast", "now", "LGreenButtons$Crew;", true)
  | 2 => ("GreenButtons$Forecast", "trial", "LGreenButtons$Crew;", true)
  | _ => ("GreenButtons$Forecast", "seed", "J", false)
def tyX2 : Nat → FieldType := fun k => match k with
  | 0 => .object "GreenButtons$Ship"
  | 1 => .object "GreenButtons$Crew"
  | 2 => .object "GreenButtons$Crew"
  | _ => .long
abbrev wsX20 : List Cond := u_ws RX2 TX2 4
theorem nmX2 : ∀ a, a < 4 → ∀ b, b < 4 → a ≠ b → (TX2 a).2.1 ≠ (TX2 b).2.1 := by decide +kernel
theorem tyX2_ok : ∀ k, k < 4 → parseFieldDescriptor (TX2 k).2.2.1 = some (tyX2 k) := by decide +kernel
def RX3 : String := "GreenButtons$Law"
def TX3 : u_T := fun k => match k with
  | 0 => ("GreenButtons$Law", "steps", "[I", true)
  | 1 => ("GreenButtons$Law", "stack", "[I", true)
  | 2 => ("GreenButtons$Law", "known", "[I", true)
  | 3 => ("GreenButtons$Law", "size", "I", false)
  | _ => ("GreenButtons$Law", "looksAbove", "Z", false)
def tyX3 : Nat → FieldType := fun k => match k with
  | 0 => .array .int
  | 1 => .array .int
  | 2 => .array .int
  | 3 => .int
  | _ => .boolean
abbrev wsX30 : List Cond := u_ws RX3 TX3 5
theorem nmX3 : ∀ a, a < 5 → ∀ b, b < 5 → a ≠ b → (TX3 a).2.1 ≠ (TX3 b).2.1 := by decide +kernel
theorem tyX3_ok : ∀ k, k < 5 → parseFieldDescriptor (TX3 k).2.2.1 = some (tyX3 k) := by decide +kernel
def RX4 : String := "GreenButtons$Log"
def TX4 : u_T := fun k => match k with
  | 0 => ("GreenButtons$Log", "crew", "LGreenButtons$Crew;", true)
  | 1 => ("GreenButtons$Log", "voyage", "LGreenButtons$Voyage;", true)
  | 2 => ("GreenButtons$Log", "seen", "LGreenButtons$Seen;", true)
  | _ => ("GreenButtons$Log", "laid", "Z", false)
def tyX4 : Nat → FieldType := fun k => match k with
  | 0 => .object "GreenButtons$Crew"
  | 1 => .object "GreenButtons$Voyage"
  | 2 => .object "GreenButtons$Seen"
  | _ => .boolean
abbrev wsX40 : List Cond := u_ws RX4 TX4 4
theorem nmX4 : ∀ a, a < 4 → ∀ b, b < 4 → a ≠ b → (TX4 a).2.1 ≠ (TX4 b).2.1 := by decide +kernel
theorem tyX4_ok : ∀ k, k < 4 → parseFieldDescriptor (TX4 k).2.2.1 = some (tyX4 k) := by decide +kernel
def RX5 : String := "GreenButtons$Seen"
def TX5 : u_T := fun k => match k with
  | 0 => ("GreenButtons$Seen", "man", "[I", true)
  | 1 => ("GreenButtons$Seen", "other", "[I", true)
  | 2 => ("GreenButtons$Seen", "watches", "[I", true)
  | 3 => ("GreenButtons$Seen", "greener", "[I", true)
  | _ => ("GreenButtons$Seen", "size", "I", false)
def tyX5 : Nat → FieldType := fun k => match k with
  | 0 => .array .int
  | 1 => .array .int
  | 2 => .array .int
  | 3 => .array .int
  | _ => .int
abbrev wsX50 : List Cond := u_ws RX5 TX5 5
theorem nmX5 : ∀ a, a < 5 → ∀ b, b < 5 → a ≠ b → (TX5 a).2.1 ≠ (TX5 b).2.1 := by decide +kernel
theorem tyX5_ok : ∀ k, k < 5 → parseFieldDescriptor (TX5 k).2.2.1 = some (tyX5 k) := by decide +kernel
def RX6 : String := "GreenButtons$Ship"
def TX6 : u_T := fun k => match k with
  | 0 => ("GreenButtons$Ship", "kind", "[I", true)
  | 1 => ("GreenButtons$Ship", "green", "[I", true)
  | 2 => ("GreenButtons$Ship", "hands", "[I", true)
  | 3 => ("GreenButtons$Ship", "manName", "[J", true)
  | 4 => ("GreenButtons$Ship", "spray", "[I", true)
  | 5 => ("GreenButtons$Ship", "holds", "[I", true)
  | 6 => ("GreenButtons$Ship", "postName", "[J", true)
  | 7 => ("GreenButtons$Ship", "sea", "[I", true)
  | 8 => ("GreenButtons$Ship", "law", "LGreenButtons$Law;", true)
  | 9 => ("GreenButtons$Ship", "men", "I", false)
  | 10 => ("GreenButtons$Ship", "posts", "I", false)
  | 11 => ("GreenButtons$Ship", "seas", "I", false)
  | 12 => ("GreenButtons$Ship", "shade", "I", false)
  | 13 => ("GreenButtons$Ship", "lemon", "I", false)
  | _ => ("GreenButtons$Ship", "harbour", "I", false)
def tyX6 : Nat → FieldType := fun k => match k with
  | 0 => .array .int
  | 1 => .array .int
  | 2 => .array .int
  | 3 => .array .long
  | 4 => .array .int
  | 5 => .array .int
  | 6 => .array .long
  | 7 => .array .int
  | 8 => .object "GreenButtons$Law"
  | 9 => .int
  | 10 => .int
  | 11 => .int
  | 12 => .int
  | 13 => .int
  | _ => .int
abbrev wsX60 : List Cond := u_ws RX6 TX6 15
theorem nmX6 : ∀ a, a < 15 → ∀ b, b < 15 → a ≠ b → (TX6 a).2.1 ≠ (TX6 b).2.1 := by decide +kernel
theorem tyX6_ok : ∀ k, k < 15 → parseFieldDescriptor (TX6 k).2.2.1 = some (tyX6 k) := by decide +kernel
def RX7 : String := "GreenButtons$ShipReader"
def TX7 : u_T := fun k => match k with
  | 0 => ("GreenButtons$ShipReader", "tokens", "LGreenButtons$Tokens;", true)
  | 1 => ("GreenButtons$ShipReader", "newName", "J", false)
  | 2 => ("GreenButtons$ShipReader", "told", "I", false)
  | _ => ("GreenButtons$ShipReader", "draft", "LGreenButtons$Ship;", true)
def tyX7 : Nat → FieldType := fun k => match k with
  | 0 => .object "GreenButtons$Tokens"
  | 1 => .long
  | 2 => .int
  | _ => .object "GreenButtons$Ship"
abbrev wsX70 : List Cond := u_ws RX7 TX7 4
theorem nmX7 : ∀ a, a < 4 → ∀ b, b < 4 → a ≠ b → (TX7 a).2.1 ≠ (TX7 b).2.1 := by decide +kernel
theorem tyX7_ok : ∀ k, k < 4 → parseFieldDescriptor (TX7 k).2.2.1 = some (tyX7 k) := by decide +kernel
def RX8 : String := "GreenButtons$Stations"
def TX8 : u_T := fun k => match k with
  | 0 => ("GreenButtons$Stations", "ship", "LGreenButtons$Ship;", true)
  | 1 => ("GreenButtons$Stations", "now", "LGreenButtons$Crew;", true)
  | 2 => ("GreenButtons$Stations", "trial", "LGreenButtons$Crew;", true)
  | 3 => ("GreenButtons$Stations", "row", "[I", true)
  | 4 => ("GreenButtons$Stations", "free", "[I", true)
  | 5 => ("GreenButtons$Stations", "target", "I", false)
  | 6 => ("GreenButtons$Stations", "watches", "I", false)
  | 7 => ("GreenButtons$Stations", "bestRow", "[I", true)
  | 8 => ("GreenButtons$Stations", "bestRank", "I", false)
  | _ => ("GreenButtons$Stations", "bestSpray", "I", false)
def tyX8 : Nat → FieldType := fun k => match k with
  | 0 => .object "GreenButtons$Ship"
  | 1 => .object "GreenButtons$Crew"
  | 2 => .object "GreenButtons$Crew"
  | 3 => .array .int
  | 4 => .array .int
  | 5 => .int
  | 6 => .int
  | 7 => .array .int
  | 8 => .int
  | _ => .int
abbrev wsX80 : List Cond := u_ws RX8 TX8 10
theorem nmX8 : ∀ a, a < 10 → ∀ b, b < 10 → a ≠ b → (TX8 a).2.1 ≠ (TX8 b).2.1 := by decide +kernel
theorem tyX8_ok : ∀ k, k < 10 → parseFieldDescriptor (TX8 k).2.2.1 = some (tyX8 k) := by decide +kernel
def RX9 : String := "GreenButtons$Suspects"
def TX9 : u_T := fun k => match k with
  | 0 => ("GreenButtons$Suspects", "ship", "LGreenButtons$Ship;", true)
  | 1 => ("GreenButtons$Suspects", "log", "LGreenButtons$Log;", true)
  | 2 => ("GreenButtons$Suspects", "trial", "LGreenButtons$Crew;", true)
  | _ => ("GreenButtons$Suspects", "says", "[I", true)
def tyX9 : Nat → FieldType := fun k => match k with
  | 0 => .object "GreenButtons$Ship"
  | 1 => .object "GreenButtons$Log"
  | 2 => .object "GreenButtons$Crew"
  | _ => .array .int
abbrev wsX90 : List Cond := u_ws RX9 TX9 4
theorem nmX9 : ∀ a, a < 4 → ∀ b, b < 4 → a ≠ b → (TX9 a).2.1 ≠ (TX9 b).2.1 := by decide +kernel
theorem tyX9_ok : ∀ k, k < 4 → parseFieldDescriptor (TX9 k).2.2.1 = some (tyX9 k) := by decide +kernel
def RX10 : String := "GreenButtons$Tokens"
def TX10 : u_T := fun k => match k with
  | 0 => ("GreenButtons$Tokens", "signs", "[B", true)
  | 1 => ("GreenButtons$Tokens", "kind", "I", false)
  | 2 => ("GreenButtons$Tokens", "start", "I", false)
  | 3 => ("GreenButtons$Tokens", "next", "I", false)
  | 4 => ("GreenButtons$Tokens", "length", "I", false)
  | 5 => ("GreenButtons$Tokens", "number", "I", false)
  | 6 => ("GreenButtons$Tokens", "taken", "I", false)
  | 7 => ("GreenButtons$Tokens", "name", "J", false)
  | _ => ("GreenButtons$Tokens", "fault", "I", false)
def tyX10 : Nat → FieldType := fun k => match k with
  | 0 => .array .byte
  | 1 => .int
  | 2 => .int
  | 3 => .int
  | 4 => .int
  | 5 => .int
  | 6 => .int
  | 7 => .long
  | _ => .int
abbrev wsX100 : List Cond := u_ws RX10 TX10 9
theorem nmX10 : ∀ a, a < 9 → ∀ b, b < 9 → a ≠ b → (TX10 a).2.1 ≠ (TX10 b).2.1 := by decide +kernel
theorem tyX10_ok : ∀ k, k < 9 → parseFieldDescriptor (TX10 k).2.2.1 = some (tyX10 k) := by decide +kernel
def RX11 : String := "GreenButtons$Voyage"
def TX11 : u_T := fun k => match k with
  | 0 => ("GreenButtons$Voyage", "line", "[I", true)
  | _ => ("GreenButtons$Voyage", "lines", "I", false)
def tyX11 : Nat → FieldType := fun k => match k with
  | 0 => .array .int
  | _ => .int
abbrev wsX110 : List Cond := u_ws RX11 TX11 2
theorem nmX11 : ∀ a, a < 2 → ∀ b, b < 2 → a ≠ b → (TX11 a).2.1 ≠ (TX11 b).2.1 := by decide +kernel
theorem tyX11_ok : ∀ k, k < 2 → parseFieldDescriptor (TX11 k).2.2.1 = some (tyX11 k) := by decide +kernel
def RX12 : String := "GreenButtons"
def TX12 : u_T := fun k => match k with
  | 0 => ("GreenButtons", "tape", "LGreenButtons$Tokens;", true)
  | 1 => ("GreenButtons", "ship", "LGreenButtons$Ship;", true)
  | 2 => ("GreenButtons", "shipReader", "LGreenButtons$ShipReader;", true)
  | 3 => ("GreenButtons", "voyageDraft", "LGreenButtons$Voyage;", true)
  | 4 => ("GreenButtons", "log", "LGreenButtons$Log;", true)
  | 5 => ("GreenButtons", "trial", "LGreenButtons$Crew;", true)
  | 6 => ("GreenButtons", "forecast", "LGreenButtons$Forecast;", true)
  | 7 => ("GreenButtons", "deals", "LGreenButtons$Stations;", true)
  | 8 => ("GreenButtons", "suspects", "LGreenButtons$Suspects;", true)
  | 9 => ("GreenButtons", "past", "[LGreenButtons$Crew;", true)
  | 10 => ("GreenButtons", "marks", "[LGreenButtons$Log;", true)
  | 11 => ("GreenButtons", "pastNext", "I", false)
  | _ => ("GreenButtons", "pastCount", "I", false)
def tyX12 : Nat → FieldType := fun k => match k with
  | 0 => .object "GreenButtons$Tokens"
  | 1 => .object "GreenButtons$Ship"
  | 2 => .object "GreenButtons$ShipReader"
  | 3 => .object "GreenButtons$Voyage"
  | 4 => .object "GreenButtons$Log"
  | 5 => .object "GreenButtons$Crew"
  | 6 => .object "GreenButtons$Forecast"
  | 7 => .object "GreenButtons$Stations"
  | 8 => .object "GreenButtons$Suspects"
  | 9 => .array (.object "GreenButtons$Crew")
  | 10 => .array (.object "GreenButtons$Log")
  | 11 => .int
  | _ => .int
abbrev wsX120 : List Cond := u_ws RX12 TX12 13
theorem nmX12 : ∀ a, a < 13 → ∀ b, b < 13 → a ≠ b → (TX12 a).2.1 ≠ (TX12 b).2.1 := by decide +kernel
theorem tyX12_ok : ∀ k, k < 13 → parseFieldDescriptor (TX12 k).2.2.1 = some (tyX12 k) := by decide +kernel
def RX13 : String := "GreenButtonsModel"
def TX13 : u_T := fun k => match k with
  | 0 => ("GreenButtonsModel", "thrown", "I", false)
  | 1 => ("GreenButtonsModel", "taped", "I", false)
  | 2 => ("GreenButtonsModel", "tape", "[I", true)
  | 3 => ("GreenButtonsModel", "size", "I", false)
  | 4 => ("GreenButtonsModel", "place", "I", false)
  | 5 => ("GreenButtonsModel", "begin", "I", false)
  | 6 => ("GreenButtonsModel", "token", "I", false)
  | 7 => ("GreenButtonsModel", "word", "J", false)
  | 8 => ("GreenButtonsModel", "told", "I", false)
  | 9 => ("GreenButtonsModel", "wrong", "I", false)
  | 10 => ("GreenButtonsModel", "ship", "[I", true)
  | 11 => ("GreenButtonsModel", "manName", "[J", true)
  | 12 => ("GreenButtonsModel", "postName", "[J", true)
  | 13 => ("GreenButtonsModel", "kind", "[I", true)
  | 14 => ("GreenButtonsModel", "greenTold", "[I", true)
  | 15 => ("GreenButtonsModel", "hands", "[I", true)
  | 16 => ("GreenButtonsModel", "spray", "[I", true)
  | 17 => ("GreenButtonsModel", "holds", "[I", true)
  | 18 => ("GreenButtonsModel", "sea", "[I", true)
  | 19 => ("GreenButtonsModel", "lineFrom", "[I", true)
  | 20 => ("GreenButtonsModel", "lineTo", "[I", true)
  | 21 => ("GreenButtonsModel", "codes", "[I", true)
  | 22 => ("GreenButtonsModel", "code", "I", false)
  | 23 => ("GreenButtonsModel", "toldLines", "I", false)
  | 24 => ("GreenButtonsModel", "opened", "[I", true)
  | 25 => ("GreenButtonsModel", "compared", "[Z", true)
  | 26 => ("GreenButtonsModel", "kept", "[I", true)
  | 27 => ("GreenButtonsModel", "keptBy", "[I", true)
  | 28 => ("GreenButtonsModel", "ahead", "[I", true)
  | 29 => ("GreenButtonsModel", "against", "[I", true)
  | 30 => ("GreenButtonsModel", "sum", "[I", true)
  | 31 => ("GreenButtonsModel", "sumBy", "[I", true)
  | 32 => ("GreenButtonsModel", "term", "[I", true)
  | 33 => ("GreenButtonsModel", "termBy", "[I", true)
  | 34 => ("GreenButtonsModel", "byNot", "[I", true)
  | 35 => ("GreenButtonsModel", "valueOf", "[I", true)
  | 36 => ("GreenButtonsModel", "given", "I", false)
  | 37 => ("GreenButtonsModel", "fresh", "J", false)
  | 38 => ("GreenButtonsModel", "lines", "[I", true)
  | 39 => ("GreenButtonsModel", "lineWhat", "[I", true)
  | 40 => ("GreenButtonsModel", "lineA", "[I", true)
  | 41 => ("GreenButtonsModel", "lineB", "[I", true)
  | 42 => ("GreenButtonsModel", "seens", "[I", true)
  | 43 => ("GreenButtonsModel", "seenMan", "[I", true)
  | 44 => ("GreenButtonsModel", "seenOther", "[I", true)
  | 45 => ("GreenButtonsModel", "seenAt", "[I", true)
  | 46 => ("GreenButtonsModel", "seenGreener", "[Z", true)
  | 47 => ("GreenButtonsModel", "s", "[I", true)
  | 48 => ("GreenButtonsModel", "aside", "[I", true)
  | 49 => ("GreenButtonsModel", "before", "[I", true)
  | 50 => ("GreenButtonsModel", "marked", "[I", true)
  | 51 => ("GreenButtonsModel", "undone", "[I", true)
  | 52 => ("GreenButtonsModel", "isLaid", "[Z", true)
  | 53 => ("GreenButtonsModel", "done", "I", false)
  | 54 => ("GreenButtonsModel", "odd", "I", false)
  | 55 => ("GreenButtonsModel", "more", "[I", true)
  | 56 => ("GreenButtonsModel", "row", "[I", true)
  | 57 => ("GreenButtonsModel", "bestRow", "[I", true)
  | 58 => ("GreenButtonsModel", "bestRank", "I", false)
  | 59 => ("GreenButtonsModel", "leastSpray", "I", false)
  | 60 => ("GreenButtonsModel", "greenerBy", "[J", true)
  | _ => ("GreenButtonsModel", "g", "J", false)
def tyX13 : Nat → FieldType := fun k => match k with
  | 0 => .int
  | 1 => .int
  | 2 => .array .int
  | 3 => .int
  | 4 => .int
  | 5 => .int
  | 6 => .int
  | 7 => .long
  | 8 => .int
  | 9 => .int
  | 10 => .array .int
  | 11 => .array .long
  | 12 => .array .long
  | 13 => .array .int
  | 14 => .array .int
  | 15 => .array .int
  | 16 => .array .int
  | 17 => .array .int
  | 18 => .array .int
  | 19 => .array .int
  | 20 => .array .int
  | 21 => .array .int
  | 22 => .int
  | 23 => .int
  | 24 => .array .int
  | 25 => .array .boolean
  | 26 => .array .int
  | 27 => .array .int
  | 28 => .array .int
  | 29 => .array .int
  | 30 => .array .int
  | 31 => .array .int
  | 32 => .array .int
  | 33 => .array .int
  | 34 => .array .int
  | 35 => .array .int
  | 36 => .int
  | 37 => .long
  | 38 => .array .int
  | 39 => .array .int
  | 40 => .array .int
  | 41 => .array .int
  | 42 => .array .int
  | 43 => .array .int
  | 44 => .array .int
  | 45 => .array .int
  | 46 => .array .boolean
  | 47 => .array .int
  | 48 => .array .int
  | 49 => .array .int
  | 50 => .array .int
  | 51 => .array .int
  | 52 => .array .boolean
  | 53 => .int
  | 54 => .int
  | 55 => .array .int
  | 56 => .array .int
  | 57 => .array .int
  | 58 => .int
  | 59 => .int
  | 60 => .array .long
  | _ => .long
abbrev wsX130 : List Cond := u_ws RX13 TX13 62
theorem nmX13 : ∀ a, a < 62 → ∀ b, b < 62 → a ≠ b → (TX13 a).2.1 ≠ (TX13 b).2.1 := by decide +kernel
theorem tyX13_ok : ∀ k, k < 62 → parseFieldDescriptor (TX13 k).2.2.1 = some (tyX13 k) := by decide +kernel
