def RX0 : String := "ThreePhases$Assembly"
def TX0 : u_T := fun k => match k with
  | 0 => ("ThreePhases$Assembly", "views", "[LThreePhases$Merged;", true)
  | 1 => ("ThreePhases$Assembly", "council", "LThreePhases$Council;", true)
  | 2 => ("ThreePhases$Assembly", "members", "[LThreePhases$Member;", true)
  | 3 => ("ThreePhases$Assembly", "sums", "LThreePhases$Sums;", true)
  | 4 => ("ThreePhases$Assembly", "seats", "I", false)
  | 5 => ("ThreePhases$Assembly", "quorumSize", "I", false)
  | _ => ("ThreePhases$Assembly", "draws", "I", false)
def tyX0 : Nat → FieldType := fun k => match k with
  | 0 => .array (.object "ThreePhases$Merged")
  | 1 => .object "ThreePhases$Council"
  | 2 => .array (.object "ThreePhases$Member")
  | 3 => .object "ThreePhases$Sums"
  | 4 => .int
  | 5 => .int
  | _ => .int
abbrev wsX00 : List Cond := u_ws RX0 TX0 7
theorem nmX0 : ∀ a, a < 7 → ∀ b, b < 7 → a ≠ b → (TX0 a).2.1 ≠ (TX0 b).2.1 := by decide +kernel
theorem tyX0_ok : ∀ k, k < 7 → parseFieldDescriptor (TX0 k).2.2.1 = some (tyX0 k) := by decide +kernel
def RX1 : String := "ThreePhases$Council"
def TX1 : u_T := fun k => match k with
  | 0 => ("ThreePhases$Council", "faults", "I", false)
  | 1 => ("ThreePhases$Council", "window", "I", false)
  | 2 => ("ThreePhases$Council", "step", "I", false)
  | 3 => ("ThreePhases$Council", "liars", "I", false)
  | 4 => ("ThreePhases$Council", "orders", "I", false)
  | 5 => ("ThreePhases$Council", "accounts", "[I", true)
  | 6 => ("ThreePhases$Council", "orderAccounts", "[I", true)
  | 7 => ("ThreePhases$Council", "orderPlus", "[I", true)
  | _ => ("ThreePhases$Council", "delays", "[[I", true)
def tyX1 : Nat → FieldType := fun k => match k with
  | 0 => .int
  | 1 => .int
  | 2 => .int
  | 3 => .int
  | 4 => .int
  | 5 => .array .int
  | 6 => .array .int
  | 7 => .array .int
  | _ => .array (.array .int)
abbrev wsX10 : List Cond := u_ws RX1 TX1 9
theorem nmX1 : ∀ a, a < 9 → ∀ b, b < 9 → a ≠ b → (TX1 a).2.1 ≠ (TX1 b).2.1 := by decide +kernel
theorem tyX1_ok : ∀ k, k < 9 → parseFieldDescriptor (TX1 k).2.2.1 = some (tyX1 k) := by decide +kernel
def RX2 : String := "ThreePhases$Member"
def TX2 : u_T := fun k => match k with
  | 0 => ("ThreePhases$Member", "view", "I", false)
  | 1 => ("ThreePhases$Member", "active", "Z", false)
  | 2 => ("ThreePhases$Member", "low", "I", false)
  | 3 => ("ThreePhases$Member", "ran", "I", false)
  | 4 => ("ThreePhases$Member", "asked", "I", false)
  | 5 => ("ThreePhases$Member", "checkpoint", "I", false)
  | 6 => ("ThreePhases$Member", "quorumSize", "I", false)
  | 7 => ("ThreePhases$Member", "window", "I", false)
  | 8 => ("ThreePhases$Member", "accounts", "[I", true)
  | 9 => ("ThreePhases$Member", "savedAccounts", "[I", true)
  | 10 => ("ThreePhases$Member", "accepted", "[I", true)
  | 11 => ("ThreePhases$Member", "prepares", "[I", true)
  | 12 => ("ThreePhases$Member", "commits", "[I", true)
  | 13 => ("ThreePhases$Member", "proofViews", "[I", true)
  | 14 => ("ThreePhases$Member", "proofOrders", "[I", true)
  | 15 => ("ThreePhases$Member", "ranOrders", "[I", true)
  | 16 => ("ThreePhases$Member", "votePlaces", "[I", true)
  | _ => ("ThreePhases$Member", "voteRoots", "[I", true)
def tyX2 : Nat → FieldType := fun k => match k with
  | 0 => .int
  | 1 => .boolean
  | 2 => .int
  | 3 => .int
  | 4 => .int
  | 5 => .int
  | 6 => .int
  | 7 => .int
  | 8 => .array .int
  | 9 => .array .int
  | 10 => .array .int
  | 11 => .array .int
  | 12 => .array .int
  | 13 => .array .int
  | 14 => .array .int
  | 15 => .array .int
  | 16 => .array .int
  | _ => .array .int
abbrev wsX20 : List Cond := u_ws RX2 TX2 18
theorem nmX2 : ∀ a, a < 18 → ∀ b, b < 18 → a ≠ b → (TX2 a).2.1 ≠ (TX2 b).2.1 := by decide +kernel
theorem tyX2_ok : ∀ k, k < 18 → parseFieldDescriptor (TX2 k).2.2.1 = some (tyX2 k) := by decide +kernel
def RX3 : String := "ThreePhases$Merged"
def TX3 : u_T := fun k => match k with
  | 0 => ("ThreePhases$Merged", "done", "Z", false)
  | 1 => ("ThreePhases$Merged", "from", "I", false)
  | 2 => ("ThreePhases$Merged", "upto", "I", false)
  | 3 => ("ThreePhases$Merged", "orders", "[I", true)
  | _ => ("ThreePhases$Merged", "proofViews", "[I", true)
def tyX3 : Nat → FieldType := fun k => match k with
  | 0 => .boolean
  | 1 => .int
  | 2 => .int
  | 3 => .array .int
  | _ => .array .int
abbrev wsX30 : List Cond := u_ws RX3 TX3 5
theorem nmX3 : ∀ a, a < 5 → ∀ b, b < 5 → a ≠ b → (TX3 a).2.1 ≠ (TX3 b).2.1 := by decide +kernel
theorem tyX3_ok : ∀ k, k < 5 → parseFieldDescriptor (TX3 k).2.2.1 = some (tyX3 k) := by decide +kernel
def RX4 : String := "ThreePhases$Reader"
def TX4 : u_T := fun k => match k with
  | 0 => ("ThreePhases$Reader", "council", "LThreePhases$Council;", true)
  | 1 => ("ThreePhases$Reader", "run", "LThreePhases$Run;", true)
  | 2 => ("ThreePhases$Reader", "replies", "LThreePhases$Replies;", true)
  | 3 => ("ThreePhases$Reader", "fault", "I", false)
  | 4 => ("ThreePhases$Reader", "faultPlace", "I", false)
  | 5 => ("ThreePhases$Reader", "bytes", "[B", true)
  | 6 => ("ThreePhases$Reader", "length", "I", false)
  | 7 => ("ThreePhases$Reader", "token", "I", false)
  | 8 => ("ThreePhases$Reader", "from", "I", false)
  | 9 => ("ThreePhases$Reader", "to", "I", false)
  | 10 => ("ThreePhases$Reader", "value", "I", false)
  | 11 => ("ThreePhases$Reader", "greatestMember", "I", false)
  | _ => ("ThreePhases$Reader", "numbers", "[I", true)
def tyX4 : Nat → FieldType := fun k => match k with
  | 0 => .object "ThreePhases$Council"
  | 1 => .object "ThreePhases$Run"
  | 2 => .object "ThreePhases$Replies"
  | 3 => .int
  | 4 => .int
  | 5 => .array .byte
  | 6 => .int
  | 7 => .int
  | 8 => .int
  | 9 => .int
  | 10 => .int
  | 11 => .int
  | _ => .array .int
abbrev wsX40 : List Cond := u_ws RX4 TX4 13
theorem nmX4 : ∀ a, a < 13 → ∀ b, b < 13 → a ≠ b → (TX4 a).2.1 ≠ (TX4 b).2.1 := by decide +kernel
theorem tyX4_ok : ∀ k, k < 13 → parseFieldDescriptor (TX4 k).2.2.1 = some (tyX4 k) := by decide +kernel
def RX5 : String := "ThreePhases$Replies"
def TX5 : u_T := fun k => match k with
  | 0 => ("ThreePhases$Replies", "size", "I", false)
  | 1 => ("ThreePhases$Replies", "members", "[I", true)
  | 2 => ("ThreePhases$Replies", "views", "[I", true)
  | _ => ("ThreePhases$Replies", "results", "[I", true)
def tyX5 : Nat → FieldType := fun k => match k with
  | 0 => .int
  | 1 => .array .int
  | 2 => .array .int
  | _ => .array .int
abbrev wsX50 : List Cond := u_ws RX5 TX5 4
theorem nmX5 : ∀ a, a < 4 → ∀ b, b < 4 → a ≠ b → (TX5 a).2.1 ≠ (TX5 b).2.1 := by decide +kernel
theorem tyX5_ok : ∀ k, k < 4 → parseFieldDescriptor (TX5 k).2.2.1 = some (tyX5 k) := by decide +kernel
def RX6 : String := "ThreePhases$Run"
def TX6 : u_T := fun k => match k with
  | 0 => ("ThreePhases$Run", "size", "I", false)
  | 1 => ("ThreePhases$Run", "kinds", "[I", true)
  | 2 => ("ThreePhases$Run", "first", "[I", true)
  | 3 => ("ThreePhases$Run", "second", "[I", true)
  | _ => ("ThreePhases$Run", "third", "[I", true)
def tyX6 : Nat → FieldType := fun k => match k with
  | 0 => .int
  | 1 => .array .int
  | 2 => .array .int
  | 3 => .array .int
  | _ => .array .int
abbrev wsX60 : List Cond := u_ws RX6 TX6 5
theorem nmX6 : ∀ a, a < 5 → ∀ b, b < 5 → a ≠ b → (TX6 a).2.1 ≠ (TX6 b).2.1 := by decide +kernel
theorem tyX6_ok : ∀ k, k < 5 → parseFieldDescriptor (TX6 k).2.2.1 = some (tyX6 k) := by decide +kernel
def RX7 : String := "ThreePhases$Sums"
def TX7 : u_T := fun k => match k with
  | 0 => ("ThreePhases$Sums", "own", "[I", true)
  | 1 => ("ThreePhases$Sums", "other", "[I", true)
  | 2 => ("ThreePhases$Sums", "asked", "I", false)
  | _ => ("ThreePhases$Sums", "taken", "I", false)
def tyX7 : Nat → FieldType := fun k => match k with
  | 0 => .array .int
  | 1 => .array .int
  | 2 => .int
  | _ => .int
abbrev wsX70 : List Cond := u_ws RX7 TX7 4
theorem nmX7 : ∀ a, a < 4 → ∀ b, b < 4 → a ≠ b → (TX7 a).2.1 ≠ (TX7 b).2.1 := by decide +kernel
theorem tyX7_ok : ∀ k, k < 4 → parseFieldDescriptor (TX7 k).2.2.1 = some (tyX7 k) := by decide +kernel
def RX8 : String := "ThreePhases$Tally"
def TX8 : u_T := fun k => match k with
  | 0 => ("ThreePhases$Tally", "matchReply", "I", false)
  | 1 => ("ThreePhases$Tally", "matchResult", "I", false)
  | 2 => ("ThreePhases$Tally", "matchView", "I", false)
  | 3 => ("ThreePhases$Tally", "fickle", "I", false)
  | 4 => ("ThreePhases$Tally", "faults", "I", false)
  | 5 => ("ThreePhases$Tally", "seats", "I", false)
  | 6 => ("ThreePhases$Tally", "views", "[I", true)
  | _ => ("ThreePhases$Tally", "results", "[I", true)
def tyX8 : Nat → FieldType := fun k => match k with
  | 0 => .int
  | 1 => .int
  | 2 => .int
  | 3 => .int
  | 4 => .int
  | 5 => .int
  | 6 => .array .int
  | _ => .array .int
abbrev wsX80 : List Cond := u_ws RX8 TX8 8
theorem nmX8 : ∀ a, a < 8 → ∀ b, b < 8 → a ≠ b → (TX8 a).2.1 ≠ (TX8 b).2.1 := by decide +kernel
theorem tyX8_ok : ∀ k, k < 8 → parseFieldDescriptor (TX8 k).2.2.1 = some (tyX8 k) := by decide +kernel
def RX9 : String := "ThreePhases$Timetable"
def TX9 : u_T := fun k => match k with
  | 0 => ("ThreePhases$Timetable", "ran", "[[I", true)
  | 1 => ("ThreePhases$Timetable", "sent", "I", false)
  | 2 => ("ThreePhases$Timetable", "quiet", "I", false)
  | 3 => ("ThreePhases$Timetable", "accepted", "[[I", true)
  | 4 => ("ThreePhases$Timetable", "prepared", "[[I", true)
  | 5 => ("ThreePhases$Timetable", "cut", "[[I", true)
  | 6 => ("ThreePhases$Timetable", "row", "[I", true)
  | _ => ("ThreePhases$Timetable", "council", "LThreePhases$Council;", true)
def tyX9 : Nat → FieldType := fun k => match k with
  | 0 => .array (.array .int)
  | 1 => .int
  | 2 => .int
  | 3 => .array (.array .int)
  | 4 => .array (.array .int)
  | 5 => .array (.array .int)
  | 6 => .array .int
  | _ => .object "ThreePhases$Council"
abbrev wsX90 : List Cond := u_ws RX9 TX9 8
theorem nmX9 : ∀ a, a < 8 → ∀ b, b < 8 → a ≠ b → (TX9 a).2.1 ≠ (TX9 b).2.1 := by decide +kernel
theorem tyX9_ok : ∀ k, k < 8 → parseFieldDescriptor (TX9 k).2.2.1 = some (tyX9 k) := by decide +kernel
def RX10 : String := "ThreePhases$Told"
def TX10 : u_T := fun k => match k with
  | 0 => ("ThreePhases$Told", "tape", "[B", true)
  | 1 => ("ThreePhases$Told", "length", "I", false)
  | 2 => ("ThreePhases$Told", "fault", "I", false)
  | 3 => ("ThreePhases$Told", "faultPlace", "I", false)
  | 4 => ("ThreePhases$Told", "sizes", "[I", true)
  | 5 => ("ThreePhases$Told", "councils", "[LThreePhases$Council;", true)
  | 6 => ("ThreePhases$Told", "runs", "[LThreePhases$Run;", true)
  | _ => ("ThreePhases$Told", "replies", "[LThreePhases$Replies;", true)
def tyX10 : Nat → FieldType := fun k => match k with
  | 0 => .array .byte
  | 1 => .int
  | 2 => .int
  | 3 => .int
  | 4 => .array .int
  | 5 => .array (.object "ThreePhases$Council")
  | 6 => .array (.object "ThreePhases$Run")
  | _ => .array (.object "ThreePhases$Replies")
abbrev wsX100 : List Cond := u_ws RX10 TX10 8
theorem nmX10 : ∀ a, a < 8 → ∀ b, b < 8 → a ≠ b → (TX10 a).2.1 ≠ (TX10 b).2.1 := by decide +kernel
theorem tyX10_ok : ∀ k, k < 8 → parseFieldDescriptor (TX10 k).2.2.1 = some (tyX10 k) := by decide +kernel
def RX11 : String := "ThreePhases"
def TX11 : u_T := fun k => match k with
  | 0 => ("ThreePhases", "told", "LThreePhases$Told;", true)
  | 1 => ("ThreePhases", "images", "[LThreePhases$Told;", true)
  | 2 => ("ThreePhases", "imaged", "[I", true)
  | 3 => ("ThreePhases", "reader", "LThreePhases$Reader;", true)
  | 4 => ("ThreePhases", "assembly", "LThreePhases$Assembly;", true)
  | 5 => ("ThreePhases", "timetable", "LThreePhases$Timetable;", true)
  | 6 => ("ThreePhases", "tally", "LThreePhases$Tally;", true)
  | 7 => ("ThreePhases", "sums", "LThreePhases$Sums;", true)
  | 8 => ("ThreePhases", "merger", "LThreePhases$Merged;", true)
  | _ => ("ThreePhases", "purse", "[I", true)
def tyX11 : Nat → FieldType := fun k => match k with
  | 0 => .object "ThreePhases$Told"
  | 1 => .array (.object "ThreePhases$Told")
  | 2 => .array .int
  | 3 => .object "ThreePhases$Reader"
  | 4 => .object "ThreePhases$Assembly"
  | 5 => .object "ThreePhases$Timetable"
  | 6 => .object "ThreePhases$Tally"
  | 7 => .object "ThreePhases$Sums"
  | 8 => .object "ThreePhases$Merged"
  | _ => .array .int
abbrev wsX110 : List Cond := u_ws RX11 TX11 10
theorem nmX11 : ∀ a, a < 10 → ∀ b, b < 10 → a ≠ b → (TX11 a).2.1 ≠ (TX11 b).2.1 := by decide +kernel
theorem tyX11_ok : ∀ k, k < 10 → parseFieldDescriptor (TX11 k).2.2.1 = some (tyX11 k) := by decide +kernel
def RX12 : String := "ThreePhasesModel"
def TX12 : u_T := fun k => match k with
  | 0 => ("ThreePhasesModel", "all", "[I", true)
  | 1 => ("ThreePhasesModel", "has", "[Z", true)
  | 2 => ("ThreePhasesModel", "size", "I", false)
  | 3 => ("ThreePhasesModel", "next", "I", false)
  | 4 => ("ThreePhasesModel", "where", "I", false)
  | 5 => ("ThreePhasesModel", "token", "I", false)
  | 6 => ("ThreePhasesModel", "number", "I", false)
  | 7 => ("ThreePhasesModel", "word", "I", false)
  | 8 => ("ThreePhasesModel", "wrong", "Z", false)
  | 9 => ("ThreePhasesModel", "farMember", "I", false)
  | 10 => ("ThreePhasesModel", "read", "[I", true)
  | 11 => ("ThreePhasesModel", "c0", "I", false)
  | 12 => ("ThreePhasesModel", "faults", "I", false)
  | 13 => ("ThreePhasesModel", "members", "I", false)
  | 14 => ("ThreePhasesModel", "quorum", "I", false)
  | 15 => ("ThreePhasesModel", "window", "I", false)
  | 16 => ("ThreePhasesModel", "step", "I", false)
  | 17 => ("ThreePhasesModel", "liars", "I", false)
  | 18 => ("ThreePhasesModel", "orders", "I", false)
  | 19 => ("ThreePhasesModel", "sums", "[I", true)
  | 20 => ("ThreePhasesModel", "otherSums", "[I", true)
  | 21 => ("ThreePhasesModel", "askedFor", "I", false)
  | 22 => ("ThreePhasesModel", "takenSet", "I", false)
  | 23 => ("ThreePhasesModel", "view", "[I", true)
  | 24 => ("ThreePhasesModel", "active", "[Z", true)
  | 25 => ("ThreePhasesModel", "low", "[I", true)
  | 26 => ("ThreePhasesModel", "ran", "[I", true)
  | 27 => ("ThreePhasesModel", "asked", "[I", true)
  | 28 => ("ThreePhasesModel", "mark", "[I", true)
  | 29 => ("ThreePhasesModel", "accounts", "[I", true)
  | 30 => ("ThreePhasesModel", "markAccounts", "[I", true)
  | 31 => ("ThreePhasesModel", "accepted", "[I", true)
  | 32 => ("ThreePhasesModel", "prepares", "[I", true)
  | 33 => ("ThreePhasesModel", "commits", "[I", true)
  | 34 => ("ThreePhasesModel", "proofView", "[I", true)
  | 35 => ("ThreePhasesModel", "proofOrder", "[I", true)
  | 36 => ("ThreePhasesModel", "ranOrder", "[I", true)
  | 37 => ("ThreePhasesModel", "votePlace", "[I", true)
  | 38 => ("ThreePhasesModel", "voteRoot", "[I", true)
  | 39 => ("ThreePhasesModel", "made", "[Z", true)
  | 40 => ("ThreePhasesModel", "from", "[I", true)
  | 41 => ("ThreePhasesModel", "upto", "[I", true)
  | 42 => ("ThreePhasesModel", "madeOrder", "[I", true)
  | 43 => ("ThreePhasesModel", "done", "I", false)
  | 44 => ("ThreePhasesModel", "mergedFrom", "I", false)
  | 45 => ("ThreePhasesModel", "mergedUpto", "I", false)
  | 46 => ("ThreePhasesModel", "mergedOrder", "[I", true)
  | 47 => ("ThreePhasesModel", "d0", "I", false)
  | 48 => ("ThreePhasesModel", "whenAccepted", "[I", true)
  | 49 => ("ThreePhasesModel", "whenPrepared", "[I", true)
  | 50 => ("ThreePhasesModel", "whenRan", "[I", true)
  | 51 => ("ThreePhasesModel", "whenLow", "[I", true)
  | 52 => ("ThreePhasesModel", "comes", "[I", true)
  | 53 => ("ThreePhasesModel", "sentMany", "I", false)
  | 54 => ("ThreePhasesModel", "lastComes", "I", false)
  | 55 => ("ThreePhasesModel", "sheet", "[I", true)
  | 56 => ("ThreePhasesModel", "r0", "I", false)
  | 57 => ("ThreePhasesModel", "lastResult", "[I", true)
  | 58 => ("ThreePhasesModel", "lastView", "[I", true)
  | 59 => ("ThreePhasesModel", "fickle", "I", false)
  | _ => ("ThreePhasesModel", "x0", "I", false)
def tyX12 : Nat → FieldType := fun k => match k with
  | 0 => .array .int
  | 1 => .array .boolean
  | 2 => .int
  | 3 => .int
  | 4 => .int
  | 5 => .int
  | 6 => .int
  | 7 => .int
  | 8 => .boolean
  | 9 => .int
  | 10 => .array .int
  | 11 => .int
  | 12 => .int
  | 13 => .int
  | 14 => .int
  | 15 => .int
  | 16 => .int
  | 17 => .int
  | 18 => .int
  | 19 => .array .int
  | 20 => .array .int
  | 21 => .int
  | 22 => .int
  | 23 => .array .int
  | 24 => .array .boolean
  | 25 => .array .int
  | 26 => .array .int
  | 27 => .array .int
  | 28 => .array .int
  | 29 => .array .int
  | 30 => .array .int
  | 31 => .array .int
  | 32 => .array .int
  | 33 => .array .int
  | 34 => .array .int
  | 35 => .array .int
  | 36 => .array .int
  | 37 => .array .int
  | 38 => .array .int
  | 39 => .array .boolean
  | 40 => .array .int
  | 41 => .array .int
  | 42 => .array .int
  | 43 => .int
  | 44 => .int
  | 45 => .int
  | 46 => .array .int
  | 47 => .int
  | 48 => .array .int
  | 49 => .array .int
  | 50 => .array .int
  | 51 => .array .int
  | 52 => .array .int
  | 53 => .int
  | 54 => .int
  | 55 => .array .int
  | 56 => .int
  | 57 => .array .int
  | 58 => .array .int
  | 59 => .int
  | _ => .int
abbrev wsX120 : List Cond := u_ws RX12 TX12 61
theorem nmX12 : ∀ a, a < 61 → ∀ b, b < 61 → a ≠ b → (TX12 a).2.1 ≠ (TX12 b).2.1 := by decide +kernel
theorem tyX12_ok : ∀ k, k < 61 → parseFieldDescriptor (TX12 k).2.2.1 = some (tyX12 k) := by decide +kernel
