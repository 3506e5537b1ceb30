def RX0 : String := "LostDesk$Colours"
def TX0 : u_T := fun k => match k with
  | _ => ("LostDesk$Colours", "nearTo", "[I", true)
def tyX0 : Nat → FieldType := fun k => match k with
  | _ => .array .int
theorem nmX0 : ∀ a, a < 1 → ∀ b, b < 1 → a ≠ b → (TX0 a).2.1 ≠ (TX0 b).2.1 := by decide +kernel
theorem tyX0_ok : ∀ k, k < 1 → parseFieldDescriptor (TX0 k).2.2.1 = some (tyX0 k) := by decide +kernel
def RX1 : String := "LostDesk$Finds"
def TX1 : u_T := fun k => match k with
  | 0 => ("LostDesk$Finds", "kindOf", "[I", true)
  | 1 => ("LostDesk$Finds", "colourOf", "[I", true)
  | 2 => ("LostDesk$Finds", "marksOf", "[I", true)
  | 3 => ("LostDesk$Finds", "placeOf", "[I", true)
  | 4 => ("LostDesk$Finds", "tickOf", "[I", true)
  | 5 => ("LostDesk$Finds", "stateOf", "[I", true)
  | 6 => ("LostDesk$Finds", "handedTo", "[I", true)
  | 7 => ("LostDesk$Finds", "bagOf", "[I", true)
  | _ => ("LostDesk$Finds", "count", "I", false)
def tyX1 : Nat → FieldType := fun k => match k with
  | 0 => .array .int
  | 1 => .array .int
  | 2 => .array .int
  | 3 => .array .int
  | 4 => .array .int
  | 5 => .array .int
  | 6 => .array .int
  | 7 => .array .int
  | _ => .int
theorem nmX1 : ∀ a, a < 9 → ∀ b, b < 9 → a ≠ b → (TX1 a).2.1 ≠ (TX1 b).2.1 := by decide +kernel
theorem tyX1_ok : ∀ k, k < 9 → parseFieldDescriptor (TX1 k).2.2.1 = some (tyX1 k) := by decide +kernel
def RX2 : String := "LostDesk$Kinds"
def TX2 : u_T := fun k => match k with
  | 0 => ("LostDesk$Kinds", "aboveOf", "[I", true)
  | 1 => ("LostDesk$Kinds", "lineOf", "[J", true)
  | 2 => ("LostDesk$Kinds", "daysOf", "[I", true)
  | _ => ("LostDesk$Kinds", "count", "I", false)
def tyX2 : Nat → FieldType := fun k => match k with
  | 0 => .array .int
  | 1 => .array .long
  | 2 => .array .int
  | _ => .int
theorem nmX2 : ∀ a, a < 4 → ∀ b, b < 4 → a ≠ b → (TX2 a).2.1 ≠ (TX2 b).2.1 := by decide +kernel
theorem tyX2_ok : ∀ k, k < 4 → parseFieldDescriptor (TX2 k).2.2.1 = some (tyX2 k) := by decide +kernel
def RX3 : String := "LostDesk$Losses"
def TX3 : u_T := fun k => match k with
  | 0 => ("LostDesk$Losses", "kindOf", "[I", true)
  | 1 => ("LostDesk$Losses", "colourOf", "[I", true)
  | 2 => ("LostDesk$Losses", "marksOf", "[I", true)
  | 3 => ("LostDesk$Losses", "placeOf", "[I", true)
  | 4 => ("LostDesk$Losses", "fromOf", "[I", true)
  | 5 => ("LostDesk$Losses", "toOf", "[I", true)
  | 6 => ("LostDesk$Losses", "isHanded", "[Z", true)
  | _ => ("LostDesk$Losses", "count", "I", false)
def tyX3 : Nat → FieldType := fun k => match k with
  | 0 => .array .int
  | 1 => .array .int
  | 2 => .array .int
  | 3 => .array .int
  | 4 => .array .int
  | 5 => .array .int
  | 6 => .array .boolean
  | _ => .int
theorem nmX3 : ∀ a, a < 8 → ∀ b, b < 8 → a ≠ b → (TX3 a).2.1 ≠ (TX3 b).2.1 := by decide +kernel
theorem tyX3_ok : ∀ k, k < 8 → parseFieldDescriptor (TX3 k).2.2.1 = some (tyX3 k) := by decide +kernel
def RX4 : String := "LostDesk$MarkSearch"
def TX4 : u_T := fun k => match k with
  | 0 => ("LostDesk$MarkSearch", "partedBy", "[I", true)
  | 1 => ("LostDesk$MarkSearch", "partedBelow", "[I", true)
  | 2 => ("LostDesk$MarkSearch", "count", "I", false)
  | 3 => ("LostDesk$MarkSearch", "need", "I", false)
  | _ => ("LostDesk$MarkSearch", "mostByOne", "I", false)
def tyX4 : Nat → FieldType := fun k => match k with
  | 0 => .array .int
  | 1 => .array .int
  | 2 => .int
  | 3 => .int
  | _ => .int
theorem nmX4 : ∀ a, a < 5 → ∀ b, b < 5 → a ≠ b → (TX4 a).2.1 ≠ (TX4 b).2.1 := by decide +kernel
theorem tyX4_ok : ∀ k, k < 5 → parseFieldDescriptor (TX4 k).2.2.1 = some (tyX4 k) := by decide +kernel
def RX5 : String := "LostDesk$Matcher"
def TX5 : u_T := fun k => match k with
  | 0 => ("LostDesk$Matcher", "priceOf", "[[I", true)
  | 1 => ("LostDesk$Matcher", "isOpen", "[Z", true)
  | 2 => ("LostDesk$Matcher", "bestFindOf", "[I", true)
  | 3 => ("LostDesk$Matcher", "seatOf", "[I", true)
  | 4 => ("LostDesk$Matcher", "sitterOf", "[I", true)
  | 5 => ("LostDesk$Matcher", "lossDue", "[I", true)
  | 6 => ("LostDesk$Matcher", "seatDue", "[I", true)
  | 7 => ("LostDesk$Matcher", "slackOf", "[I", true)
  | 8 => ("LostDesk$Matcher", "seatBefore", "[I", true)
  | 9 => ("LostDesk$Matcher", "moverOf", "[I", true)
  | 10 => ("LostDesk$Matcher", "seatAfter", "[I", true)
  | 11 => ("LostDesk$Matcher", "queue", "[I", true)
  | 12 => ("LostDesk$Matcher", "lossCount", "I", false)
  | 13 => ("LostDesk$Matcher", "bench", "I", false)
  | _ => ("LostDesk$Matcher", "bestCost", "I", false)
def tyX5 : Nat → FieldType := fun k => match k with
  | 0 => .array (.array .int)
  | 1 => .array .boolean
  | 2 => .array .int
  | 3 => .array .int
  | 4 => .array .int
  | 5 => .array .int
  | 6 => .array .int
  | 7 => .array .int
  | 8 => .array .int
  | 9 => .array .int
  | 10 => .array .int
  | 11 => .array .int
  | 12 => .int
  | 13 => .int
  | _ => .int
theorem nmX5 : ∀ a, a < 15 → ∀ b, b < 15 → a ≠ b → (TX5 a).2.1 ≠ (TX5 b).2.1 := by decide +kernel
theorem tyX5_ok : ∀ k, k < 15 → parseFieldDescriptor (TX5 k).2.2.1 = some (tyX5 k) := by decide +kernel
def RX6 : String := "LostDesk$Places"
def TX6 : u_T := fun k => match k with
  | 0 => ("LostDesk$Places", "ticksOf", "[[I", true)
  | 1 => ("LostDesk$Places", "farOf", "[[I", true)
  | 2 => ("LostDesk$Places", "isMeasured", "[Z", true)
  | _ => ("LostDesk$Places", "count", "I", false)
def tyX6 : Nat → FieldType := fun k => match k with
  | 0 => .array (.array .int)
  | 1 => .array (.array .int)
  | 2 => .array .boolean
  | _ => .int
theorem nmX6 : ∀ a, a < 4 → ∀ b, b < 4 → a ≠ b → (TX6 a).2.1 ≠ (TX6 b).2.1 := by decide +kernel
theorem tyX6_ok : ∀ k, k < 4 → parseFieldDescriptor (TX6 k).2.2.1 = some (tyX6 k) := by decide +kernel
def RX7 : String := "LostDesk"
def TX7 : u_T := fun k => match k with
  | 0 => ("LostDesk", "kinds", "LLostDesk$Kinds;", true)
  | 1 => ("LostDesk", "colours", "LLostDesk$Colours;", true)
  | 2 => ("LostDesk", "places", "LLostDesk$Places;", true)
  | 3 => ("LostDesk", "finds", "LLostDesk$Finds;", true)
  | 4 => ("LostDesk", "losses", "LLostDesk$Losses;", true)
  | 5 => ("LostDesk", "matcher", "LLostDesk$Matcher;", true)
  | 6 => ("LostDesk", "markSearch", "LLostDesk$MarkSearch;", true)
  | 7 => ("LostDesk", "claims", "[[I", true)
  | 8 => ("LostDesk", "shares", "[I", true)
  | 9 => ("LostDesk", "out", "[I", true)
  | 10 => ("LostDesk", "outCount", "I", false)
  | 11 => ("LostDesk", "status", "I", false)
  | 12 => ("LostDesk", "now", "I", false)
  | 13 => ("LostDesk", "gap", "I", false)
  | _ => ("LostDesk", "bestIsOld", "Z", false)
def tyX7 : Nat → FieldType := fun k => match k with
  | 0 => .object "LostDesk$Kinds"
  | 1 => .object "LostDesk$Colours"
  | 2 => .object "LostDesk$Places"
  | 3 => .object "LostDesk$Finds"
  | 4 => .object "LostDesk$Losses"
  | 5 => .object "LostDesk$Matcher"
  | 6 => .object "LostDesk$MarkSearch"
  | 7 => .array (.array .int)
  | 8 => .array .int
  | 9 => .array .int
  | 10 => .int
  | 11 => .int
  | 12 => .int
  | 13 => .int
  | _ => .boolean
theorem nmX7 : ∀ a, a < 15 → ∀ b, b < 15 → a ≠ b → (TX7 a).2.1 ≠ (TX7 b).2.1 := by decide +kernel
theorem tyX7_ok : ∀ k, k < 15 → parseFieldDescriptor (TX7 k).2.2.1 = some (tyX7 k) := by decide +kernel
def RX8 : String := "LostDeskModel"
def TX8 : u_T := fun k => match k with
  | 0 => ("LostDeskModel", "status", "I", false)
  | 1 => ("LostDeskModel", "thrown", "I", false)
  | 2 => ("LostDeskModel", "kinds", "I", false)
  | 3 => ("LostDeskModel", "places", "I", false)
  | 4 => ("LostDeskModel", "finds", "I", false)
  | 5 => ("LostDeskModel", "losses", "I", false)
  | 6 => ("LostDeskModel", "gap", "I", false)
  | 7 => ("LostDeskModel", "now", "I", false)
  | 8 => ("LostDeskModel", "above", "[I", true)
  | 9 => ("LostDeskModel", "keep", "[I", true)
  | 10 => ("LostDeskModel", "isNear", "[Z", true)
  | 11 => ("LostDeskModel", "way", "[I", true)
  | 12 => ("LostDeskModel", "far", "[I", true)
  | 13 => ("LostDeskModel", "findKind", "[I", true)
  | 14 => ("LostDeskModel", "findColour", "[I", true)
  | 15 => ("LostDeskModel", "findMarks", "[I", true)
  | 16 => ("LostDeskModel", "findPlace", "[I", true)
  | 17 => ("LostDeskModel", "findTick", "[I", true)
  | 18 => ("LostDeskModel", "state", "[I", true)
  | 19 => ("LostDeskModel", "handedTo", "[I", true)
  | 20 => ("LostDeskModel", "bag", "[I", true)
  | 21 => ("LostDeskModel", "lossKind", "[I", true)
  | 22 => ("LostDeskModel", "lossColour", "[I", true)
  | 23 => ("LostDeskModel", "lossMarks", "[I", true)
  | 24 => ("LostDeskModel", "lossPlace", "[I", true)
  | 25 => ("LostDeskModel", "lossFrom", "[I", true)
  | 26 => ("LostDeskModel", "lossTo", "[I", true)
  | 27 => ("LostDeskModel", "isHanded", "[Z", true)
  | 28 => ("LostDeskModel", "claimed", "[Z", true)
  | 29 => ("LostDeskModel", "right", "[I", true)
  | 30 => ("LostDeskModel", "lossOf", "[I", true)
  | 31 => ("LostDeskModel", "findOf", "[I", true)
  | 32 => ("LostDeskModel", "best", "[I", true)
  | 33 => ("LostDeskModel", "lossMany", "I", false)
  | 34 => ("LostDeskModel", "findMany", "I", false)
  | 35 => ("LostDeskModel", "price", "[I", true)
  | 36 => ("LostDeskModel", "kept", "[I", true)
  | 37 => ("LostDeskModel", "rise", "[I", true)
  | 38 => ("LostDeskModel", "fall", "[I", true)
  | 39 => ("LostDeskModel", "taken", "[I", true)
  | 40 => ("LostDeskModel", "from", "[I", true)
  | 41 => ("LostDeskModel", "least", "[I", true)
  | 42 => ("LostDeskModel", "seen", "[Z", true)
  | 43 => ("LostDeskModel", "out", "[I", true)
  | 44 => ("LostDeskModel", "outs", "I", false)
  | 45 => ("LostDeskModel", "kin", "[I", true)
  | _ => ("LostDeskModel", "kinMany", "I", false)
def tyX8 : Nat → FieldType := fun k => match k with
  | 0 => .int
  | 1 => .int
  | 2 => .int
  | 3 => .int
  | 4 => .int
  | 5 => .int
  | 6 => .int
  | 7 => .int
  | 8 => .array .int
  | 9 => .array .int
  | 10 => .array .boolean
  | 11 => .array .int
  | 12 => .array .int
  | 13 => .array .int
  | 14 => .array .int
  | 15 => .array .int
  | 16 => .array .int
  | 17 => .array .int
  | 18 => .array .int
  | 19 => .array .int
  | 20 => .array .int
  | 21 => .array .int
  | 22 => .array .int
  | 23 => .array .int
  | 24 => .array .int
  | 25 => .array .int
  | 26 => .array .int
  | 27 => .array .boolean
  | 28 => .array .boolean
  | 29 => .array .int
  | 30 => .array .int
  | 31 => .array .int
  | 32 => .array .int
  | 33 => .int
  | 34 => .int
  | 35 => .array .int
  | 36 => .array .int
  | 37 => .array .int
  | 38 => .array .int
  | 39 => .array .int
  | 40 => .array .int
  | 41 => .array .int
  | 42 => .array .boolean
  | 43 => .array .int
  | 44 => .int
  | 45 => .array .int
  | _ => .int
theorem nmX8 : ∀ a, a < 47 → ∀ b, b < 47 → a ≠ b → (TX8 a).2.1 ≠ (TX8 b).2.1 := by decide +kernel
theorem tyX8_ok : ∀ k, k < 47 → parseFieldDescriptor (TX8 k).2.2.1 = some (tyX8 k) := by decide +kernel
abbrev vwCl : List vw_C := [(RX0, TX0, 1), (RX1, TX1, 9), (RX2, TX2, 4), (RX3, TX3, 8), (RX4, TX4, 5), (RX5, TX5, 15), (RX6, TX6, 4), (RX7, TX7, 15), (RX8, TX8, 47)]
/-- the places: kind, length, width, first row, fields -/
def ab_sh (k : Nat) : Nat × Nat × Nat × Nat × List (Option Nat) := if k < 41 then (if k < 20 then (if k < 10 then (if k < 5 then (if k < 2 then (if k < 1 then ((11, 0, 0, 0, [some 1, some 2, some 3, some 4, some 5, some 6, some 7, some 9, some 10, some 11, none, none, none, none, none])) else ((6, 0, 0, 0, [some 12, some 13, some 14, none]))) else (if k < 3 then ((4, 0, 0, 0, [some 15])) else (if k < 4 then ((10, 0, 0, 0, [some 16, some 17, some 18, none])) else ((5, 0, 0, 0, [some 19, some 20, some 21, some 22, some 23, some 24, some 25, some 26, none]))))) else (if k < 7 then (if k < 6 then ((7, 0, 0, 0, [some 27, some 28, some 29, some 30, some 31, some 32, some 33, none])) else ((9, 0, 0, 0, [some 34, some 35, some 36, some 37, some 38, some 39, some 40, some 41, some 42, some 43, some 44, some 45, none, none, none]))) else (if k < 8 then ((8, 0, 0, 0, [some 46, some 47, none, none, none])) else (if k < 9 then ((12, 0, 0, 0, [none, none, none, none, none, none, none, none, some 48, some 49, some 50, some 51, some 52, some 53, some 54, some 55, some 56, some 57, some 58, some 59, some 60, some 61, some 62, some 63, some 64, some 65, some 66, some 67, some 68, some 69, some 70, some 71, some 72, none, none, some 73, some 74, some 75, some 76, some 77, some 78, some 79, some 80, some 81, none, some 82, none])) else ((3, 24, 24, 0, [])))))) else (if k < 15 then (if k < 12 then (if k < 11 then ((0, 8, 0, 0, [])) else ((0, 8, 0, 0, []))) else (if k < 13 then ((0, 40, 0, 0, [])) else (if k < 14 then ((2, 40, 0, 0, [])) else ((0, 40, 0, 0, []))))) else (if k < 17 then (if k < 16 then ((0, 12, 0, 0, [])) else ((3, 20, 20, 24, []))) else (if k < 18 then ((3, 20, 20, 44, [])) else (if k < 19 then ((1, 20, 0, 0, [])) else ((0, 24, 0, 0, []))))))) else (if k < 30 then (if k < 25 then (if k < 22 then (if k < 21 then ((0, 24, 0, 0, [])) else ((0, 24, 0, 0, []))) else (if k < 23 then ((0, 24, 0, 0, [])) else (if k < 24 then ((0, 24, 0, 0, [])) else ((0, 24, 0, 0, []))))) else (if k < 27 then (if k < 26 then ((0, 24, 0, 0, [])) else ((0, 24, 0, 0, []))) else (if k < 28 then ((0, 24, 0, 0, [])) else (if k < 29 then ((0, 24, 0, 0, [])) else ((0, 24, 0, 0, [])))))) else (if k < 35 then (if k < 32 then (if k < 31 then ((0, 24, 0, 0, [])) else ((0, 24, 0, 0, []))) else (if k < 33 then ((0, 24, 0, 0, [])) else (if k < 34 then ((1, 24, 0, 0, [])) else ((3, 24, 25, 64, []))))) else (if k < 38 then (if k < 36 then ((1, 24, 0, 0, [])) else (if k < 37 then ((0, 24, 0, 0, [])) else ((0, 24, 0, 0, [])))) else (if k < 39 then ((0, 24, 0, 0, [])) else (if k < 40 then ((0, 24, 0, 0, [])) else ((0, 25, 0, 0, [])))))))) else (if k < 62 then (if k < 51 then (if k < 46 then (if k < 43 then (if k < 42 then ((0, 25, 0, 0, [])) else ((0, 25, 0, 0, []))) else (if k < 44 then ((0, 25, 0, 0, [])) else (if k < 45 then ((0, 25, 0, 0, [])) else ((0, 25, 0, 0, []))))) else (if k < 48 then (if k < 47 then ((0, 16, 0, 0, [])) else ((0, 17, 0, 0, []))) else (if k < 49 then ((0, 40, 0, 0, [])) else (if k < 50 then ((0, 40, 0, 0, [])) else ((1, 144, 0, 0, [])))))) else (if k < 56 then (if k < 53 then (if k < 52 then ((0, 400, 0, 0, [])) else ((0, 400, 0, 0, []))) else (if k < 54 then ((0, 24, 0, 0, [])) else (if k < 55 then ((0, 24, 0, 0, [])) else ((0, 24, 0, 0, []))))) else (if k < 59 then (if k < 57 then ((0, 24, 0, 0, [])) else (if k < 58 then ((0, 24, 0, 0, [])) else ((0, 24, 0, 0, [])))) else (if k < 60 then ((0, 24, 0, 0, [])) else (if k < 61 then ((0, 24, 0, 0, [])) else ((0, 24, 0, 0, []))))))) else (if k < 72 then (if k < 67 then (if k < 64 then (if k < 63 then ((0, 24, 0, 0, [])) else ((0, 24, 0, 0, []))) else (if k < 65 then ((0, 24, 0, 0, [])) else (if k < 66 then ((0, 24, 0, 0, [])) else ((0, 24, 0, 0, []))))) else (if k < 69 then (if k < 68 then ((1, 24, 0, 0, [])) else ((1, 576, 0, 0, []))) else (if k < 70 then ((0, 576, 0, 0, [])) else (if k < 71 then ((0, 24, 0, 0, [])) else ((0, 24, 0, 0, [])))))) else (if k < 77 then (if k < 74 then (if k < 73 then ((0, 24, 0, 0, [])) else ((0, 1152, 0, 0, []))) else (if k < 75 then ((0, 1152, 0, 0, [])) else (if k < 76 then ((0, 25, 0, 0, [])) else ((0, 49, 0, 0, []))))) else (if k < 80 then (if k < 78 then ((0, 49, 0, 0, [])) else (if k < 79 then ((0, 49, 0, 0, [])) else ((0, 49, 0, 0, [])))) else (if k < 81 then ((1, 49, 0, 0, [])) else (if k < 82 then ((0, 8, 0, 0, [])) else ((0, 24, 0, 0, []))))))))
/-- row r: its array, its number there, its width -/
def ab_rw (r : Nat) : Nat × Nat × Nat := if r < 24 then (9, r - 0, 24) else (if r < 44 then (16, r - 24, 20) else (if r < 64 then (17, r - 44, 20) else ((34, r - 64, 25))))
def ab_NP : Nat := 83
def ab_NR : Nat := 88
def ab_NM : Nat := 148
def ab_mY (k : Nat) : MethodName := if k < 74 then (if k < 37 then (if k < 18 then (if k < 9 then (if k < 4 then (if k < 2 then (if k < 1 then (⟨"LostDesk$Colours", "areNear", "(II)Z"⟩) else (⟨"LostDesk$Colours", "turn", "(II)V"⟩)) else (if k < 3 then (⟨"LostDesk$Colours", "shades", "(II)I"⟩) else (⟨"LostDesk$Finds", "has", "(I)Z"⟩))) else (if k < 6 then (if k < 5 then (⟨"LostDesk$Finds", "isFull", "()Z"⟩) else (⟨"LostDesk$Finds", "add", "(IIIII)I"⟩)) else (if k < 7 then (⟨"LostDesk$Finds", "isKept", "(I)Z"⟩) else (if k < 8 then (⟨"LostDesk$Finds", "joinBags", "(II)V"⟩) else (⟨"LostDesk$Finds", "handBag", "(II)V"⟩))))) else (if k < 13 then (if k < 11 then (if k < 10 then (⟨"LostDesk$Finds", "dropBag", "(I)I"⟩) else (⟨"LostDesk$Kinds", "has", "(I)Z"⟩)) else (if k < 12 then (⟨"LostDesk$Kinds", "isFull", "()Z"⟩) else (⟨"LostDesk$Kinds", "canBeAbove", "(I)Z"⟩))) else (if k < 15 then (if k < 14 then (⟨"LostDesk$Kinds", "add", "(I)I"⟩) else (⟨"LostDesk$Kinds", "steps", "(II)I"⟩)) else (if k < 16 then (⟨"LostDesk$Kinds", "keepingOf", "(I)I"⟩) else (if k < 17 then (⟨"LostDesk$Losses", "has", "(I)Z"⟩) else (⟨"LostDesk$Losses", "isFull", "()Z"⟩)))))) else (if k < 27 then (if k < 22 then (if k < 20 then (if k < 19 then (⟨"LostDesk$Losses", "add", "(IIIIII)I"⟩) else (⟨"LostDesk$MarkSearch", "clear", "()V"⟩)) else (if k < 21 then (⟨"LostDesk$MarkSearch", "add", "(II)V"⟩) else (⟨"LostDesk$MarkSearch", "fewestMarks", "(I)I"⟩))) else (if k < 24 then (if k < 23 then (⟨"LostDesk$MarkSearch", "sumUp", "()V"⟩) else (⟨"LostDesk$MarkSearch", "leastSum", "(III)I"⟩)) else (if k < 25 then (⟨"LostDesk$Matcher", "begin", "(II)V"⟩) else (if k < 26 then (⟨"LostDesk$Matcher", "setLoss", "(IZI)V"⟩) else (⟨"LostDesk$Matcher", "setPrice", "(III)V"⟩))))) else (if k < 32 then (if k < 29 then (if k < 28 then (⟨"LostDesk$Matcher", "findBest", "()V"⟩) else (⟨"LostDesk$Matcher", "leastCostWithout", "(II)I"⟩)) else (if k < 30 then (⟨"LostDesk$Matcher", "seatAll", "()V"⟩) else (if k < 31 then (⟨"LostDesk$Matcher", "seatingCost", "()I"⟩) else (⟨"LostDesk$Matcher", "slack", "(II)I"⟩)))) else (if k < 34 then (if k < 33 then (⟨"LostDesk$Matcher", "isEmpty", "(I)Z"⟩) else (⟨"LostDesk$Matcher", "sit", "(II)V"⟩)) else (if k < 35 then (⟨"LostDesk$Matcher", "leaveEmpty", "(I)V"⟩) else (if k < 36 then (⟨"LostDesk$Matcher", "seatOne", "(I)V"⟩) else (⟨"LostDesk$Matcher", "nextSeat", "(III)I"⟩))))))) else (if k < 55 then (if k < 46 then (if k < 41 then (if k < 39 then (if k < 38 then (⟨"LostDesk$Matcher", "raiseDues", "(III)V"⟩) else (⟨"LostDesk$Matcher", "moveUp", "(II)V"⟩)) else (if k < 40 then (⟨"LostDesk$Matcher", "settle", "(I)V"⟩) else (⟨"LostDesk$Matcher", "leastSeat", "(III)I"⟩))) else (if k < 43 then (if k < 42 then (⟨"LostDesk$Matcher", "seatsThatLead", "(II)I"⟩) else (⟨"LostDesk$Matcher", "freeMover", "(III)I"⟩)) else (if k < 44 then (⟨"LostDesk$Matcher", "moveRound", "(III)V"⟩) else (if k < 45 then (⟨"LostDesk$Places", "has", "(I)Z"⟩) else (⟨"LostDesk$Places", "isFull", "()Z"⟩))))) else (if k < 50 then (if k < 48 then (if k < 47 then (⟨"LostDesk$Places", "add", "()I"⟩) else (⟨"LostDesk$Places", "hasWay", "(II)Z"⟩)) else (if k < 49 then (⟨"LostDesk$Places", "setWay", "(III)V"⟩) else (⟨"LostDesk$Places", "distance", "(II)I"⟩))) else (if k < 52 then (if k < 51 then (⟨"LostDesk$Places", "forgetFar", "()V"⟩) else (⟨"LostDesk$Places", "measureFrom", "(I)V"⟩)) else (if k < 53 then (⟨"LostDesk$Places", "nearest", "([II)I"⟩) else (if k < 54 then (⟨"LostDesk$Places", "lookFrom", "(I[I)V"⟩) else (⟨"LostDesk", "status", "()I"⟩)))))) else (if k < 64 then (if k < 59 then (if k < 57 then (if k < 56 then (⟨"LostDesk", "kind", "(I)I"⟩) else (⟨"LostDesk", "near", "(IIZ)Z"⟩)) else (if k < 58 then (⟨"LostDesk", "place", "()I"⟩) else (⟨"LostDesk", "way", "(III)Z"⟩))) else (if k < 61 then (if k < 60 then (⟨"LostDesk", "far", "(II)I"⟩) else (⟨"LostDesk", "found", "(IIIII)I"⟩)) else (if k < 62 then (⟨"LostDesk", "lost", "(IIIIII)I"⟩) else (if k < 63 then (⟨"LostDesk", "told", "(II)I"⟩) else (⟨"LostDesk", "cost", "(II)I"⟩))))) else (if k < 69 then (if k < 66 then (if k < 65 then (⟨"LostDesk", "gap", "(I)Z"⟩) else (⟨"LostDesk", "match", "()I"⟩)) else (if k < 67 then (⟨"LostDesk", "matched", "(I)I"⟩) else (if k < 68 then (⟨"LostDesk", "sure", "(II)I"⟩) else (⟨"LostDesk", "alike", "(II)I"⟩)))) else (if k < 71 then (if k < 70 then (⟨"LostDesk", "questions", "(II)I"⟩) else (⟨"LostDesk", "claim", "(IIII)I"⟩)) else (if k < 72 then (⟨"LostDesk", "hand", "(II)Z"⟩) else (if k < 73 then (⟨"LostDesk", "bag", "(II)Z"⟩) else (⟨"LostDesk", "keeping", "(II)Z"⟩)))))))) else (if k < 111 then (if k < 92 then (if k < 83 then (if k < 78 then (if k < 76 then (if k < 75 then (⟨"LostDesk", "due", "(I)I"⟩) else (⟨"LostDesk", "tick", "(I)I"⟩)) else (if k < 77 then (⟨"LostDesk", "reward", "(IIII)I"⟩) else (⟨"LostDesk", "out", "(I)I"⟩))) else (if k < 80 then (if k < 79 then (⟨"LostDesk", "answer", "(I)I"⟩) else (⟨"LostDesk", "refuse", "(I)I"⟩)) else (if k < 81 then (⟨"LostDesk", "grant", "()Z"⟩) else (if k < 82 then (⟨"LostDesk", "deny", "(I)Z"⟩) else (⟨"LostDesk", "isWithin", "(III)Z"⟩))))) else (if k < 87 then (if k < 85 then (if k < 84 then (⟨"LostDesk", "isColour", "(I)Z"⟩) else (⟨"LostDesk", "isColourOrNone", "(I)Z"⟩)) else (if k < 86 then (⟨"LostDesk", "areMarks", "(I)Z"⟩) else (⟨"LostDesk", "pairCost", "(II)I"⟩))) else (if k < 89 then (if k < 88 then (⟨"LostDesk", "freshenBest", "()V"⟩) else (⟨"LostDesk", "differingMarks", "(II)I"⟩)) else (if k < 90 then (⟨"LostDesk", "isKeptInLine", "(II)Z"⟩) else (if k < 91 then (⟨"LostDesk", "hasRival", "(II)Z"⟩) else (⟨"LostDesk", "bagDue", "(I)I"⟩)))))) else (if k < 101 then (if k < 96 then (if k < 94 then (if k < 93 then (⟨"LostDesk", "readShares", "(II)I"⟩) else (⟨"LostDesk", "partPennies", "(II)V"⟩)) else (if k < 95 then (⟨"LostDeskModel", "status", "()I"⟩) else (⟨"LostDeskModel", "refuse", "(I)I"⟩))) else (if k < 98 then (if k < 97 then (⟨"LostDeskModel", "no", "(I)Z"⟩) else (⟨"LostDeskModel", "isKind", "(I)Z"⟩)) else (if k < 99 then (⟨"LostDeskModel", "isPlace", "(I)Z"⟩) else (if k < 100 then (⟨"LostDeskModel", "isFind", "(I)Z"⟩) else (⟨"LostDeskModel", "isLoss", "(I)Z"⟩))))) else (if k < 106 then (if k < 103 then (if k < 102 then (⟨"LostDeskModel", "isColour", "(I)Z"⟩) else (⟨"LostDeskModel", "kind", "(I)I"⟩)) else (if k < 104 then (⟨"LostDeskModel", "near", "(IIZ)Z"⟩) else (if k < 105 then (⟨"LostDeskModel", "place", "()I"⟩) else (⟨"LostDeskModel", "way", "(III)Z"⟩)))) else (if k < 108 then (if k < 107 then (⟨"LostDeskModel", "ways", "()V"⟩) else (⟨"LostDeskModel", "far", "(II)I"⟩)) else (if k < 109 then (⟨"LostDeskModel", "areMarks", "(I)Z"⟩) else (if k < 110 then (⟨"LostDeskModel", "isTick", "(I)Z"⟩) else (⟨"LostDeskModel", "found", "(IIIII)I"⟩))))))) else (if k < 129 then (if k < 120 then (if k < 115 then (if k < 113 then (if k < 112 then (⟨"LostDeskModel", "lost", "(IIIIII)I"⟩) else (⟨"LostDeskModel", "told", "(II)I"⟩)) else (if k < 114 then (⟨"LostDeskModel", "below", "(II)I"⟩) else (⟨"LostDeskModel", "costOf", "(II)I"⟩))) else (if k < 117 then (if k < 116 then (⟨"LostDeskModel", "cost", "(II)I"⟩) else (⟨"LostDeskModel", "gap", "(I)Z"⟩)) else (if k < 118 then (⟨"LostDeskModel", "columns", "()I"⟩) else (if k < 119 then (⟨"LostDeskModel", "gather", "()V"⟩) else (⟨"LostDeskModel", "solve", "()I"⟩))))) else (if k < 124 then (if k < 122 then (if k < 121 then (⟨"LostDeskModel", "step", "(II)I"⟩) else (⟨"LostDeskModel", "only", "(II)V"⟩)) else (if k < 123 then (⟨"LostDeskModel", "matches", "()I"⟩) else (⟨"LostDeskModel", "match", "()I"⟩))) else (if k < 126 then (if k < 125 then (⟨"LostDeskModel", "matched", "(I)I"⟩) else (⟨"LostDeskModel", "sure", "(II)I"⟩)) else (if k < 127 then (⟨"LostDeskModel", "areKin", "(II)Z"⟩) else (if k < 128 then (⟨"LostDeskModel", "kins", "(I)V"⟩) else (⟨"LostDeskModel", "alikes", "(II)I"⟩)))))) else (if k < 138 then (if k < 133 then (if k < 131 then (if k < 130 then (⟨"LostDeskModel", "alike", "(II)I"⟩) else (⟨"LostDeskModel", "questions", "(II)I"⟩)) else (if k < 132 then (⟨"LostDeskModel", "claim", "(IIII)I"⟩) else (⟨"LostDeskModel", "hand", "(II)Z"⟩))) else (if k < 135 then (if k < 134 then (⟨"LostDeskModel", "bag", "(II)Z"⟩) else (⟨"LostDeskModel", "keeping", "(II)Z"⟩)) else (if k < 136 then (⟨"LostDeskModel", "dueOf", "(I)I"⟩) else (if k < 137 then (⟨"LostDeskModel", "due", "(I)I"⟩) else (⟨"LostDeskModel", "tick", "(I)I"⟩))))) else (if k < 143 then (if k < 140 then (if k < 139 then (⟨"LostDeskModel", "share", "(III)I"⟩) else (⟨"LostDeskModel", "reward", "(IIII)I"⟩)) else (if k < 141 then (⟨"LostDeskModel", "out", "(I)I"⟩) else (if k < 142 then (⟨"java/lang/Integer", "bitCount", "(I)I"⟩) else (⟨"java/lang/Long", "bitCount", "(J)I"⟩)))) else (if k < 145 then (if k < 144 then (⟨"java/lang/Math", "abs", "(I)I"⟩) else (⟨"java/lang/Math", "max", "(II)I"⟩)) else (if k < 146 then (⟨"java/lang/Math", "min", "(II)I"⟩) else (if k < 147 then (⟨"java/util/Arrays", "fill", "([II)V"⟩) else (⟨"LostDeskLaw", "law", "([I)Z"⟩))))))))
def ab_mB (k : Nat) : ByteArray := if k < 74 then (if k < 37 then (if k < 18 then (if k < 9 then (if k < 4 then (if k < 2 then (if k < 1 then (prog_2_method_2_code) else (prog_2_method_3_code)) else (if k < 3 then (prog_2_method_4_code) else (prog_3_method_2_code))) else (if k < 6 then (if k < 5 then (prog_3_method_3_code) else (prog_3_method_4_code)) else (if k < 7 then (prog_3_method_5_code) else (if k < 8 then (prog_3_method_6_code) else (prog_3_method_7_code))))) else (if k < 13 then (if k < 11 then (if k < 10 then (prog_3_method_8_code) else (prog_4_method_2_code)) else (if k < 12 then (prog_4_method_3_code) else (prog_4_method_4_code))) else (if k < 15 then (if k < 14 then (prog_4_method_5_code) else (prog_4_method_6_code)) else (if k < 16 then (prog_4_method_7_code) else (if k < 17 then (prog_5_method_2_code) else (prog_5_method_3_code)))))) else (if k < 27 then (if k < 22 then (if k < 20 then (if k < 19 then (prog_5_method_4_code) else (prog_6_method_2_code)) else (if k < 21 then (prog_6_method_3_code) else (prog_6_method_4_code))) else (if k < 24 then (if k < 23 then (prog_6_method_5_code) else (prog_6_method_6_code)) else (if k < 25 then (prog_7_method_2_code) else (if k < 26 then (prog_7_method_3_code) else (prog_7_method_4_code))))) else (if k < 32 then (if k < 29 then (if k < 28 then (prog_7_method_5_code) else (prog_7_method_6_code)) else (if k < 30 then (prog_7_method_7_code) else (if k < 31 then (prog_7_method_8_code) else (prog_7_method_9_code)))) else (if k < 34 then (if k < 33 then (prog_7_method_10_code) else (prog_7_method_11_code)) else (if k < 35 then (prog_7_method_12_code) else (if k < 36 then (prog_7_method_13_code) else (prog_7_method_14_code))))))) else (if k < 55 then (if k < 46 then (if k < 41 then (if k < 39 then (if k < 38 then (prog_7_method_15_code) else (prog_7_method_16_code)) else (if k < 40 then (prog_7_method_17_code) else (prog_7_method_18_code))) else (if k < 43 then (if k < 42 then (prog_7_method_19_code) else (prog_7_method_20_code)) else (if k < 44 then (prog_7_method_21_code) else (if k < 45 then (prog_8_method_2_code) else (prog_8_method_3_code))))) else (if k < 50 then (if k < 48 then (if k < 47 then (prog_8_method_4_code) else (prog_8_method_5_code)) else (if k < 49 then (prog_8_method_6_code) else (prog_8_method_7_code))) else (if k < 52 then (if k < 51 then (prog_8_method_8_code) else (prog_8_method_9_code)) else (if k < 53 then (prog_8_method_10_code) else (if k < 54 then (prog_8_method_11_code) else (prog_1_method_2_code)))))) else (if k < 64 then (if k < 59 then (if k < 57 then (if k < 56 then (prog_1_method_3_code) else (prog_1_method_4_code)) else (if k < 58 then (prog_1_method_5_code) else (prog_1_method_6_code))) else (if k < 61 then (if k < 60 then (prog_1_method_7_code) else (prog_1_method_8_code)) else (if k < 62 then (prog_1_method_9_code) else (if k < 63 then (prog_1_method_10_code) else (prog_1_method_11_code))))) else (if k < 69 then (if k < 66 then (if k < 65 then (prog_1_method_12_code) else (prog_1_method_13_code)) else (if k < 67 then (prog_1_method_14_code) else (if k < 68 then (prog_1_method_15_code) else (prog_1_method_16_code)))) else (if k < 71 then (if k < 70 then (prog_1_method_17_code) else (prog_1_method_18_code)) else (if k < 72 then (prog_1_method_19_code) else (if k < 73 then (prog_1_method_20_code) else (prog_1_method_21_code)))))))) else (if k < 111 then (if k < 92 then (if k < 83 then (if k < 78 then (if k < 76 then (if k < 75 then (prog_1_method_22_code) else (prog_1_method_23_code)) else (if k < 77 then (prog_1_method_24_code) else (prog_1_method_25_code))) else (if k < 80 then (if k < 79 then (prog_1_method_26_code) else (prog_1_method_27_code)) else (if k < 81 then (prog_1_method_28_code) else (if k < 82 then (prog_1_method_29_code) else (prog_1_method_30_code))))) else (if k < 87 then (if k < 85 then (if k < 84 then (prog_1_method_31_code) else (prog_1_method_32_code)) else (if k < 86 then (prog_1_method_33_code) else (prog_1_method_34_code))) else (if k < 89 then (if k < 88 then (prog_1_method_35_code) else (prog_1_method_36_code)) else (if k < 90 then (prog_1_method_37_code) else (if k < 91 then (prog_1_method_38_code) else (prog_1_method_39_code)))))) else (if k < 101 then (if k < 96 then (if k < 94 then (if k < 93 then (prog_1_method_40_code) else (prog_1_method_41_code)) else (if k < 95 then (prog_10_method_3_code) else (prog_10_method_4_code))) else (if k < 98 then (if k < 97 then (prog_10_method_5_code) else (prog_10_method_6_code)) else (if k < 99 then (prog_10_method_7_code) else (if k < 100 then (prog_10_method_8_code) else (prog_10_method_9_code))))) else (if k < 106 then (if k < 103 then (if k < 102 then (prog_10_method_10_code) else (prog_10_method_11_code)) else (if k < 104 then (prog_10_method_12_code) else (if k < 105 then (prog_10_method_13_code) else (prog_10_method_14_code)))) else (if k < 108 then (if k < 107 then (prog_10_method_15_code) else (prog_10_method_16_code)) else (if k < 109 then (prog_10_method_17_code) else (if k < 110 then (prog_10_method_18_code) else (prog_10_method_19_code))))))) else (if k < 129 then (if k < 120 then (if k < 115 then (if k < 113 then (if k < 112 then (prog_10_method_20_code) else (prog_10_method_21_code)) else (if k < 114 then (prog_10_method_22_code) else (prog_10_method_23_code))) else (if k < 117 then (if k < 116 then (prog_10_method_24_code) else (prog_10_method_25_code)) else (if k < 118 then (prog_10_method_26_code) else (if k < 119 then (prog_10_method_27_code) else (prog_10_method_28_code))))) else (if k < 124 then (if k < 122 then (if k < 121 then (prog_10_method_29_code) else (prog_10_method_30_code)) else (if k < 123 then (prog_10_method_31_code) else (prog_10_method_32_code))) else (if k < 126 then (if k < 125 then (prog_10_method_33_code) else (prog_10_method_34_code)) else (if k < 127 then (prog_10_method_35_code) else (if k < 128 then (prog_10_method_36_code) else (prog_10_method_37_code)))))) else (if k < 138 then (if k < 133 then (if k < 131 then (if k < 130 then (prog_10_method_38_code) else (prog_10_method_39_code)) else (if k < 132 then (prog_10_method_40_code) else (prog_10_method_41_code))) else (if k < 135 then (if k < 134 then (prog_10_method_42_code) else (prog_10_method_43_code)) else (if k < 136 then (prog_10_method_44_code) else (if k < 137 then (prog_10_method_45_code) else (prog_10_method_46_code))))) else (if k < 143 then (if k < 140 then (if k < 139 then (prog_10_method_47_code) else (prog_10_method_48_code)) else (if k < 141 then (prog_10_method_49_code) else (if k < 142 then (prog_11_method_49_code) else (prog_12_method_50_code)))) else (if k < 145 then (if k < 144 then (prog_13_method_59_code) else (prog_13_method_65_code)) else (if k < 146 then (prog_13_method_69_code) else (if k < 147 then (prog_14_method_103_code) else (code))))))))
/-- of a method: maxLocals, what it returns, how many values it takes (its object too), its class (99: none of the places) -/
def ab_mI (k : Nat) : Nat × Option FieldType × Nat × Nat := if k < 74 then (if k < 37 then (if k < 18 then (if k < 9 then (if k < 4 then (if k < 2 then (if k < 1 then ((3, (some .boolean), 3, 0)) else ((3, none, 3, 0))) else (if k < 3 then ((3, (some .int), 3, 0)) else ((2, (some .boolean), 2, 1)))) else (if k < 6 then (if k < 5 then ((1, (some .boolean), 1, 1)) else ((7, (some .int), 6, 1))) else (if k < 7 then ((2, (some .boolean), 2, 1)) else (if k < 8 then ((6, none, 3, 1)) else ((4, none, 3, 1)))))) else (if k < 13 then (if k < 11 then (if k < 10 then ((4, (some .int), 2, 1)) else ((2, (some .boolean), 2, 2))) else (if k < 12 then ((1, (some .boolean), 1, 2)) else ((2, (some .boolean), 2, 2)))) else (if k < 15 then (if k < 14 then ((5, (some .int), 2, 2)) else ((4, (some .int), 3, 2))) else (if k < 16 then ((4, (some .int), 2, 2)) else (if k < 17 then ((2, (some .boolean), 2, 3)) else ((1, (some .boolean), 1, 3))))))) else (if k < 27 then (if k < 22 then (if k < 20 then (if k < 19 then ((8, (some .int), 7, 3)) else ((1, none, 1, 4))) else (if k < 21 then ((4, none, 3, 4)) else ((4, (some .int), 2, 4)))) else (if k < 24 then (if k < 23 then ((2, none, 1, 4)) else ((7, (some .int), 4, 4))) else (if k < 25 then ((3, none, 3, 5)) else (if k < 26 then ((4, none, 4, 5)) else ((4, none, 4, 5)))))) else (if k < 32 then (if k < 29 then (if k < 28 then ((2, none, 1, 5)) else ((4, (some .int), 3, 5))) else (if k < 30 then ((2, none, 1, 5)) else (if k < 31 then ((4, (some .int), 1, 5)) else ((3, (some .int), 3, 5))))) else (if k < 34 then (if k < 33 then ((2, (some .boolean), 2, 5)) else ((3, none, 3, 5))) else (if k < 35 then ((2, none, 2, 5)) else (if k < 36 then ((6, none, 2, 5)) else ((7, (some .int), 4, 5)))))))) else (if k < 55 then (if k < 46 then (if k < 41 then (if k < 39 then (if k < 38 then ((6, none, 4, 5)) else ((6, none, 3, 5))) else (if k < 40 then ((5, none, 2, 5)) else ((5, (some .int), 4, 5)))) else (if k < 43 then (if k < 42 then ((8, (some .int), 3, 5)) else ((5, (some .int), 4, 5))) else (if k < 44 then ((7, none, 4, 5)) else (if k < 45 then ((2, (some .boolean), 2, 6)) else ((1, (some .boolean), 1, 6)))))) else (if k < 50 then (if k < 48 then (if k < 47 then ((2, (some .int), 1, 6)) else ((3, (some .boolean), 3, 6))) else (if k < 49 then ((4, none, 4, 6)) else ((3, (some .int), 3, 6)))) else (if k < 52 then (if k < 51 then ((2, none, 1, 6)) else ((6, none, 2, 6))) else (if k < 53 then ((6, (some .int), 3, 6)) else (if k < 54 then ((5, none, 3, 6)) else ((1, (some .int), 1, 7))))))) else (if k < 64 then (if k < 59 then (if k < 57 then (if k < 56 then ((2, (some .int), 2, 7)) else ((4, (some .boolean), 4, 7))) else (if k < 58 then ((1, (some .int), 1, 7)) else ((4, (some .boolean), 4, 7)))) else (if k < 61 then (if k < 60 then ((4, (some .int), 3, 7)) else ((6, (some .int), 6, 7))) else (if k < 62 then ((7, (some .int), 7, 7)) else (if k < 63 then ((3, (some .int), 3, 7)) else ((4, (some .int), 3, 7)))))) else (if k < 69 then (if k < 66 then (if k < 65 then ((2, (some .boolean), 2, 7)) else ((1, (some .int), 1, 7))) else (if k < 67 then ((3, (some .int), 2, 7)) else (if k < 68 then ((4, (some .int), 3, 7)) else ((6, (some .int), 3, 7))))) else (if k < 71 then (if k < 70 then ((4, (some .int), 3, 7)) else ((6, (some .int), 5, 7))) else (if k < 72 then ((3, (some .boolean), 3, 7)) else (if k < 73 then ((3, (some .boolean), 3, 7)) else ((3, (some .boolean), 3, 7))))))))) else (if k < 111 then (if k < 92 then (if k < 83 then (if k < 78 then (if k < 76 then (if k < 75 then ((2, (some .int), 2, 7)) else ((5, (some .int), 2, 7))) else (if k < 77 then ((6, (some .int), 5, 7)) else ((2, (some .int), 2, 7)))) else (if k < 80 then (if k < 79 then ((2, (some .int), 2, 7)) else ((2, (some .int), 2, 7))) else (if k < 81 then ((1, (some .boolean), 1, 7)) else (if k < 82 then ((2, (some .boolean), 2, 7)) else ((3, (some .boolean), 3, 7)))))) else (if k < 87 then (if k < 85 then (if k < 84 then ((1, (some .boolean), 1, 7)) else ((1, (some .boolean), 1, 7))) else (if k < 86 then ((1, (some .boolean), 1, 7)) else ((9, (some .int), 3, 7)))) else (if k < 89 then (if k < 88 then ((5, none, 1, 7)) else ((3, (some .int), 3, 7))) else (if k < 90 then ((3, (some .boolean), 3, 7)) else (if k < 91 then ((5, (some .boolean), 3, 7)) else ((5, (some .int), 2, 7))))))) else (if k < 101 then (if k < 96 then (if k < 94 then (if k < 93 then ((8, (some .int), 3, 7)) else ((6, none, 3, 7))) else (if k < 95 then ((1, (some .int), 1, 8)) else ((2, (some .int), 2, 8)))) else (if k < 98 then (if k < 97 then ((2, (some .boolean), 2, 8)) else ((2, (some .boolean), 2, 8))) else (if k < 99 then ((2, (some .boolean), 2, 8)) else (if k < 100 then ((2, (some .boolean), 2, 8)) else ((2, (some .boolean), 2, 8)))))) else (if k < 106 then (if k < 103 then (if k < 102 then ((1, (some .boolean), 1, 8)) else ((2, (some .int), 2, 8))) else (if k < 104 then ((4, (some .boolean), 4, 8)) else (if k < 105 then ((2, (some .int), 1, 8)) else ((4, (some .boolean), 4, 8))))) else (if k < 108 then (if k < 107 then ((4, none, 1, 8)) else ((3, (some .int), 3, 8))) else (if k < 109 then ((1, (some .boolean), 1, 8)) else (if k < 110 then ((1, (some .boolean), 1, 8)) else ((6, (some .int), 6, 8)))))))) else (if k < 129 then (if k < 120 then (if k < 115 then (if k < 113 then (if k < 112 then ((7, (some .int), 7, 8)) else ((3, (some .int), 3, 8))) else (if k < 114 then ((5, (some .int), 3, 8)) else ((8, (some .int), 3, 8)))) else (if k < 117 then (if k < 116 then ((4, (some .int), 3, 8)) else ((2, (some .boolean), 2, 8))) else (if k < 118 then ((1, (some .int), 1, 8)) else (if k < 119 then ((4, none, 1, 8)) else ((6, (some .int), 1, 8)))))) else (if k < 124 then (if k < 122 then (if k < 121 then ((8, (some .int), 3, 8)) else ((4, none, 3, 8))) else (if k < 123 then ((4, (some .int), 1, 8)) else ((1, (some .int), 1, 8)))) else (if k < 126 then (if k < 125 then ((2, (some .int), 2, 8)) else ((6, (some .int), 3, 8))) else (if k < 127 then ((3, (some .boolean), 3, 8)) else (if k < 128 then ((3, none, 2, 8)) else ((5, (some .int), 3, 8))))))) else (if k < 138 then (if k < 133 then (if k < 131 then (if k < 130 then ((3, (some .int), 3, 8)) else ((6, (some .int), 3, 8))) else (if k < 132 then ((6, (some .int), 5, 8)) else ((5, (some .boolean), 3, 8)))) else (if k < 135 then (if k < 134 then ((6, (some .boolean), 3, 8)) else ((3, (some .boolean), 3, 8))) else (if k < 136 then ((5, (some .int), 2, 8)) else (if k < 137 then ((2, (some .int), 2, 8)) else ((4, (some .int), 2, 8)))))) else (if k < 143 then (if k < 140 then (if k < 139 then ((3, (some .int), 3, 8)) else ((9, (some .int), 5, 8))) else (if k < 141 then ((2, (some .int), 2, 8)) else (if k < 142 then ((1, (some .int), 1, 99)) else ((2, (some .int), 1, 99))))) else (if k < 145 then (if k < 144 then ((1, (some .int), 1, 99)) else ((2, (some .int), 2, 99))) else (if k < 146 then ((2, (some .int), 2, 99)) else (if k < 147 then ((4, none, 2, 99)) else ((4, (some .boolean), 1, 99)))))))))
/-- where its words stand in the tables: code, instance or static, selects, initialized; whether it is static -/
def ab_mJ (k : Nat) : Nat × Nat × Nat × Nat × Bool := if k < 74 then (if k < 37 then (if k < 18 then (if k < 9 then (if k < 4 then (if k < 2 then (if k < 1 then ((386, 384, 385, 55, false)) else ((390, 388, 389, 55, false))) else (if k < 3 then ((518, 516, 517, 55, false)) else ((489, 487, 488, 57, false)))) else (if k < 6 then (if k < 5 then ((465, 463, 464, 57, false)) else ((469, 467, 468, 57, false))) else (if k < 7 then ((552, 550, 551, 57, false)) else (if k < 8 then ((697, 695, 696, 57, false)) else ((689, 687, 688, 57, false)))))) else (if k < 13 then (if k < 11 then (if k < 10 then ((726, 724, 725, 57, false)) else ((352, 350, 351, 54, false))) else (if k < 12 then ((360, 358, 359, 54, false)) else ((348, 346, 347, 54, false)))) else (if k < 15 then (if k < 14 then ((364, 362, 363, 54, false)) else ((505, 503, 504, 54, false))) else (if k < 16 then ((717, 715, 716, 54, false)) else (if k < 17 then ((497, 495, 496, 58, false)) else ((477, 475, 476, 58, false))))))) else (if k < 27 then (if k < 22 then (if k < 20 then (if k < 19 then ((481, 479, 480, 58, false)) else ((654, 652, 653, 60, false))) else (if k < 21 then ((659, 657, 658, 60, false)) else ((663, 661, 662, 60, false)))) else (if k < 24 then (if k < 23 then ((667, 666, 27, 60, false)) else ((673, 672, 28, 60, false))) else (if k < 25 then ((544, 542, 543, 59, false)) else (if k < 26 then ((548, 546, 547, 59, false)) else ((556, 554, 555, 59, false)))))) else (if k < 32 then (if k < 29 then (if k < 28 then ((561, 559, 560, 59, false)) else ((634, 632, 633, 59, false))) else (if k < 30 then ((565, 564, 10, 59, false)) else (if k < 31 then ((622, 621, 24, 59, false)) else ((578, 577, 13, 59, false))))) else (if k < 34 then (if k < 33 then ((586, 585, 15, 59, false)) else ((594, 593, 17, 59, false))) else (if k < 35 then ((618, 617, 23, 59, false)) else (if k < 36 then ((570, 569, 11, 59, false)) else ((574, 573, 12, 59, false)))))))) else (if k < 55 then (if k < 46 then (if k < 41 then (if k < 39 then (if k < 38 then ((582, 581, 14, 59, false)) else ((590, 589, 16, 59, false))) else (if k < 40 then ((598, 597, 18, 59, false)) else ((602, 601, 19, 59, false)))) else (if k < 43 then (if k < 42 then ((606, 605, 20, 59, false)) else ((610, 609, 21, 59, false))) else (if k < 44 then ((614, 613, 22, 59, false)) else (if k < 45 then ((415, 413, 414, 56, false)) else ((402, 400, 401, 56, false)))))) else (if k < 50 then (if k < 48 then (if k < 47 then ((406, 404, 405, 56, false)) else ((419, 417, 418, 56, false))) else (if k < 49 then ((423, 421, 422, 56, false)) else ((435, 433, 434, 56, false)))) else (if k < 52 then (if k < 51 then ((427, 426, 4, 56, false)) else ((439, 438, 5, 56, false))) else (if k < 53 then ((443, 442, 6, 56, false)) else (if k < 54 then ((447, 446, 7, 56, false)) else ((340, 338, 339, 53, false))))))) else (if k < 64 then (if k < 59 then (if k < 57 then (if k < 56 then ((344, 342, 343, 53, false)) else ((372, 370, 371, 53, false))) else (if k < 58 then ((398, 396, 397, 53, false)) else ((411, 409, 410, 53, false)))) else (if k < 61 then (if k < 60 then ((431, 429, 430, 53, false)) else ((452, 450, 451, 53, false))) else (if k < 62 then ((473, 471, 472, 53, false)) else (if k < 63 then ((485, 483, 484, 53, false)) else ((493, 491, 492, 53, false)))))) else (if k < 69 then (if k < 66 then (if k < 65 then ((532, 530, 531, 53, false)) else ((536, 534, 535, 53, false))) else (if k < 67 then ((626, 624, 625, 53, false)) else (if k < 68 then ((630, 628, 629, 53, false)) else ((638, 636, 637, 53, false))))) else (if k < 71 then (if k < 70 then ((650, 648, 649, 53, false)) else ((677, 675, 676, 53, false))) else (if k < 72 then ((681, 679, 680, 53, false)) else (if k < 73 then ((693, 691, 692, 53, false)) else ((705, 703, 704, 53, false))))))))) else (if k < 111 then (if k < 92 then (if k < 83 then (if k < 78 then (if k < 76 then (if k < 75 then ((709, 707, 708, 53, false)) else ((721, 719, 720, 53, false))) else (if k < 77 then ((730, 728, 729, 53, false)) else ((743, 741, 742, 53, false)))) else (if k < 80 then (if k < 79 then ((368, 367, 1, 53, false)) else ((356, 355, 0, 53, false))) else (if k < 81 then ((394, 393, 3, 53, false)) else (if k < 82 then ((382, 381, 2, 53, false)) else ((378, 377, 0, 53, true)))))) else (if k < 87 then (if k < 85 then (if k < 84 then ((375, 374, 0, 53, true)) else ((456, 455, 0, 53, true))) else (if k < 86 then ((459, 458, 0, 53, true)) else ((501, 500, 8, 53, false)))) else (if k < 89 then (if k < 88 then ((540, 539, 9, 53, false)) else ((642, 641, 25, 53, false))) else (if k < 90 then ((646, 645, 26, 53, false)) else (if k < 91 then ((685, 684, 29, 53, false)) else ((713, 712, 30, 53, false))))))) else (if k < 101 then (if k < 96 then (if k < 94 then (if k < 93 then ((735, 734, 31, 53, false)) else ((739, 738, 32, 53, false))) else (if k < 95 then ((895, 893, 894, 62, false)) else ((907, 906, 34, 62, false)))) else (if k < 98 then (if k < 97 then ((918, 917, 35, 62, false)) else ((903, 902, 33, 62, false))) else (if k < 99 then ((931, 930, 36, 62, false)) else (if k < 100 then ((964, 963, 38, 62, false)) else ((972, 971, 39, 62, false)))))) else (if k < 106 then (if k < 103 then (if k < 102 then ((914, 913, 0, 62, true)) else ((899, 897, 898, 62, false))) else (if k < 104 then ((911, 909, 910, 62, false)) else (if k < 105 then ((922, 920, 921, 62, false)) else ((927, 925, 926, 62, false))))) else (if k < 108 then (if k < 107 then ((939, 938, 37, 62, false)) else ((935, 933, 934, 62, false))) else (if k < 109 then ((947, 946, 0, 62, true)) else (if k < 110 then ((951, 950, 0, 62, true)) else ((944, 942, 943, 62, false)))))))) else (if k < 129 then (if k < 120 then (if k < 115 then (if k < 113 then (if k < 112 then ((956, 954, 955, 62, false)) else ((960, 958, 959, 62, false))) else (if k < 114 then ((980, 979, 41, 62, false)) else ((976, 975, 40, 62, false)))) else (if k < 117 then (if k < 116 then ((968, 966, 967, 62, false)) else ((986, 984, 985, 62, false))) else (if k < 118 then ((998, 997, 43, 62, false)) else (if k < 119 then ((994, 993, 42, 62, false)) else ((1003, 1002, 44, 62, false)))))) else (if k < 124 then (if k < 122 then (if k < 121 then ((1008, 1007, 45, 62, false)) else ((1020, 1019, 47, 62, false))) else (if k < 123 then ((1016, 1015, 46, 62, false)) else ((990, 988, 989, 62, false)))) else (if k < 126 then (if k < 125 then ((1012, 1010, 1011, 62, false)) else ((1024, 1022, 1023, 62, false))) else (if k < 127 then ((1036, 1035, 49, 62, false)) else (if k < 128 then ((1032, 1031, 48, 62, false)) else ((1040, 1039, 50, 62, false))))))) else (if k < 138 then (if k < 133 then (if k < 131 then (if k < 130 then ((1028, 1026, 1027, 62, false)) else ((1044, 1042, 1043, 62, false))) else (if k < 132 then ((1048, 1046, 1047, 62, false)) else ((1052, 1050, 1051, 62, false)))) else (if k < 135 then (if k < 134 then ((1056, 1054, 1055, 62, false)) else ((1060, 1058, 1059, 62, false))) else (if k < 136 then ((1068, 1067, 51, 62, false)) else (if k < 137 then ((1064, 1062, 1063, 62, false)) else ((1072, 1070, 1071, 62, false)))))) else (if k < 143 then (if k < 140 then (if k < 139 then ((1080, 1079, 0, 62, true)) else ((1077, 1075, 1076, 62, false))) else (if k < 141 then ((1085, 1083, 1084, 62, false)) else (if k < 142 then ((522, 521, 0, 65, true)) else ((508, 507, 0, 64, true))))) else (if k < 145 then (if k < 144 then ((514, 513, 0, 63, true)) else ((528, 527, 0, 63, true))) else (if k < 146 then ((700, 699, 0, 63, true)) else (if k < 147 then ((290, 289, 0, 61, true)) else ((0, 0, 0, 0, true)))))))))
def ab_lc (k : Nat) : Int64 := if k < 2 then (if k < 1 then (0) else (1)) else (if k < 3 then (6148914691236517205) else (if k < 4 then (3689348814741910323) else (1085102592571150095)))
