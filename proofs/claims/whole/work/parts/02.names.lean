def RX0 : String := "LyingBeacons$Council"
def TX0 : u_T := fun k => match k with
  | 0 => ("LyingBeacons$Council", "bestMark", "I", false)
  | 1 => ("LyingBeacons$Council", "bestMinute", "I", false)
  | 2 => ("LyingBeacons$Council", "ear", "I", false)
  | 3 => ("LyingBeacons$Council", "heads", "I", false)
  | 4 => ("LyingBeacons$Council", "folk", "I", false)
  | 5 => ("LyingBeacons$Council", "sees", "[I", true)
  | 6 => ("LyingBeacons$Council", "needs", "[I", true)
  | 7 => ("LyingBeacons$Council", "span", "[I", true)
  | 8 => ("LyingBeacons$Council", "lit", "[I", true)
  | _ => ("LyingBeacons$Council", "lastMinute", "I", false)
def tyX0 : Nat → FieldType := fun k => match k with
  | 0 => .int
  | 1 => .int
  | 2 => .int
  | 3 => .int
  | 4 => .int
  | 5 => .array .int
  | 6 => .array .int
  | 7 => .array .int
  | 8 => .array .int
  | _ => .int
theorem nmX0 : ∀ a, a < 10 → ∀ b, b < 10 → a ≠ b → (TX0 a).2.1 ≠ (TX0 b).2.1 := by decide +kernel
theorem tyX0_ok : ∀ k, k < 10 → parseFieldDescriptor (TX0 k).2.2.1 = some (tyX0 k) := by decide +kernel
theorem inX0 : ∀ w ∈ u_ws RX0 TX0 10, w ∈ lw_tbl := by decide +kernel
def RX1 : String := "LyingBeacons$King"
def TX1 : u_T := fun k => match k with
  | _ => ("LyingBeacons$King", "costs", "[I", true)
def tyX1 : Nat → FieldType := fun k => match k with
  | _ => .array .int
theorem nmX1 : ∀ a, a < 1 → ∀ b, b < 1 → a ≠ b → (TX1 a).2.1 ≠ (TX1 b).2.1 := by decide +kernel
theorem tyX1_ok : ∀ k, k < 1 → parseFieldDescriptor (TX1 k).2.2.1 = some (tyX1 k) := by decide +kernel
theorem inX1 : ∀ w ∈ u_ws RX1 TX1 1, w ∈ lw_tbl := by decide +kernel
def RX3 : String := "LyingBeacons$Net"
def TX3 : u_T := fun k => match k with
  | 0 => ("LyingBeacons$Net", "hills", "I", false)
  | 1 => ("LyingBeacons$Net", "kind", "[I", true)
  | 2 => ("LyingBeacons$Net", "sees", "[I", true)
  | 3 => ("LyingBeacons$Net", "needs", "[I", true)
  | 4 => ("LyingBeacons$Net", "span", "[I", true)
  | 5 => ("LyingBeacons$Net", "stock", "[I", true)
  | 6 => ("LyingBeacons$Net", "logged", "[I", true)
  | 7 => ("LyingBeacons$Net", "asleep", "[J", true)
  | 8 => ("LyingBeacons$Net", "lies", "[J", true)
  | 9 => ("LyingBeacons$Net", "mist", "[J", true)
  | 10 => ("LyingBeacons$Net", "shipHeads", "I", false)
  | _ => ("LyingBeacons$Net", "shipMinutes", "J", false)
def tyX3 : Nat → FieldType := fun k => match k with
  | 0 => .int
  | 1 => .array .int
  | 2 => .array .int
  | 3 => .array .int
  | 4 => .array .int
  | 5 => .array .int
  | 6 => .array .int
  | 7 => .array .long
  | 8 => .array .long
  | 9 => .array .long
  | 10 => .int
  | _ => .long
theorem nmX3 : ∀ a, a < 12 → ∀ b, b < 12 → a ≠ b → (TX3 a).2.1 ≠ (TX3 b).2.1 := by decide +kernel
theorem tyX3_ok : ∀ k, k < 12 → parseFieldDescriptor (TX3 k).2.2.1 = some (tyX3 k) := by decide +kernel
theorem inX3 : ∀ w ∈ u_ws RX3 TX3 12, w ∈ lw_tbl := by decide +kernel
def RX4 : String := "LyingBeacons$Night"
def TX4 : u_T := fun k => match k with
  | 0 => ("LyingBeacons$Night", "left", "[I", true)
  | 1 => ("LyingBeacons$Night", "firstAlarm", "I", false)
  | _ => ("LyingBeacons$Night", "lit", "[J", true)
def tyX4 : Nat → FieldType := fun k => match k with
  | 0 => .array .int
  | 1 => .int
  | _ => .array .long
theorem nmX4 : ∀ a, a < 3 → ∀ b, b < 3 → a ≠ b → (TX4 a).2.1 ≠ (TX4 b).2.1 := by decide +kernel
theorem tyX4_ok : ∀ k, k < 3 → parseFieldDescriptor (TX4 k).2.2.1 = some (tyX4 k) := by decide +kernel
theorem inX4 : ∀ w ∈ u_ws RX4 TX4 3, w ∈ lw_tbl := by decide +kernel
def RX5 : String := "LyingBeacons$Reader"
def TX5 : u_T := fun k => match k with
  | 0 => ("LyingBeacons$Reader", "numbers", "[I", true)
  | 1 => ("LyingBeacons$Reader", "numbersRead", "I", false)
  | 2 => ("LyingBeacons$Reader", "place", "I", false)
  | 3 => ("LyingBeacons$Reader", "letter", "I", false)
  | 4 => ("LyingBeacons$Reader", "onlyHillsYet", "Z", false)
  | 5 => ("LyingBeacons$Reader", "ruled", "I", false)
  | _ => ("LyingBeacons$Reader", "stocked", "I", false)
def tyX5 : Nat → FieldType := fun k => match k with
  | 0 => .array .int
  | 1 => .int
  | 2 => .int
  | 3 => .int
  | 4 => .boolean
  | 5 => .int
  | _ => .int
theorem nmX5 : ∀ a, a < 7 → ∀ b, b < 7 → a ≠ b → (TX5 a).2.1 ≠ (TX5 b).2.1 := by decide +kernel
theorem tyX5_ok : ∀ k, k < 7 → parseFieldDescriptor (TX5 k).2.2.1 = some (tyX5 k) := by decide +kernel
theorem inX5 : ∀ w ∈ u_ws RX5 TX5 7, w ∈ lw_tbl := by decide +kernel
def RX6 : String := "LyingBeacons$Signs"
def TX6 : u_T := fun k => match k with
  | _ => ("LyingBeacons$Signs", "fires", "[I", true)
def tyX6 : Nat → FieldType := fun k => match k with
  | _ => .array .int
theorem nmX6 : ∀ a, a < 1 → ∀ b, b < 1 → a ≠ b → (TX6 a).2.1 ≠ (TX6 b).2.1 := by decide +kernel
theorem tyX6_ok : ∀ k, k < 1 → parseFieldDescriptor (TX6 k).2.2.1 = some (tyX6 k) := by decide +kernel
theorem inX6 : ∀ w ∈ u_ws RX6 TX6 1, w ∈ lw_tbl := by decide +kernel
def RX7 : String := "LyingBeacons$Watchmen"
def TX7 : u_T := fun k => match k with
  | _ => ("LyingBeacons$Watchmen", "hours", "[I", true)
def tyX7 : Nat → FieldType := fun k => match k with
  | _ => .array .int
theorem nmX7 : ∀ a, a < 1 → ∀ b, b < 1 → a ≠ b → (TX7 a).2.1 ≠ (TX7 b).2.1 := by decide +kernel
theorem tyX7_ok : ∀ k, k < 1 → parseFieldDescriptor (TX7 k).2.2.1 = some (tyX7 k) := by decide +kernel
theorem inX7 : ∀ w ∈ u_ws RX7 TX7 1, w ∈ lw_tbl := by decide +kernel
def RX8 : String := "LyingBeacons"
def TX8 : u_T := fun k => match k with
  | 0 => ("LyingBeacons", "text", "[B", true)
  | 1 => ("LyingBeacons", "length", "I", false)
  | 2 => ("LyingBeacons", "reader", "LLyingBeacons$Reader;", true)
  | 3 => ("LyingBeacons", "draft", "LLyingBeacons$Net;", true)
  | 4 => ("LyingBeacons", "net", "LLyingBeacons$Net;", true)
  | 5 => ("LyingBeacons", "firstKept", "LLyingBeacons$Net;", true)
  | 6 => ("LyingBeacons", "secondKept", "LLyingBeacons$Net;", true)
  | 7 => ("LyingBeacons", "kept", "I", false)
  | 8 => ("LyingBeacons", "night", "LLyingBeacons$Night;", true)
  | 9 => ("LyingBeacons", "nightPlayed", "Z", false)
  | 10 => ("LyingBeacons", "council", "LLyingBeacons$Council;", true)
  | 11 => ("LyingBeacons", "signs", "LLyingBeacons$Signs;", true)
  | 12 => ("LyingBeacons", "watchmen", "LLyingBeacons$Watchmen;", true)
  | _ => ("LyingBeacons", "king", "LLyingBeacons$King;", true)
def tyX8 : Nat → FieldType := fun k => match k with
  | 0 => .array .byte
  | 1 => .int
  | 2 => .object "LyingBeacons$Reader"
  | 3 => .object "LyingBeacons$Net"
  | 4 => .object "LyingBeacons$Net"
  | 5 => .object "LyingBeacons$Net"
  | 6 => .object "LyingBeacons$Net"
  | 7 => .int
  | 8 => .object "LyingBeacons$Night"
  | 9 => .boolean
  | 10 => .object "LyingBeacons$Council"
  | 11 => .object "LyingBeacons$Signs"
  | 12 => .object "LyingBeacons$Watchmen"
  | _ => .object "LyingBeacons$King"
theorem nmX8 : ∀ a, a < 14 → ∀ b, b < 14 → a ≠ b → (TX8 a).2.1 ≠ (TX8 b).2.1 := by decide +kernel
theorem tyX8_ok : ∀ k, k < 14 → parseFieldDescriptor (TX8 k).2.2.1 = some (tyX8 k) := by decide +kernel
theorem inX8 : ∀ w ∈ u_ws RX8 TX8 14, w ∈ lw_tbl := by decide +kernel
def RX9 : String := "LyingBeaconsModel"
def TX9 : u_T := fun k => match k with
  | 0 => ("LyingBeaconsModel", "length", "I", false)
  | 1 => ("LyingBeaconsModel", "text", "[I", true)
  | 2 => ("LyingBeaconsModel", "hillMany", "[I", true)
  | 3 => ("LyingBeaconsModel", "kinds", "[I", true)
  | 4 => ("LyingBeaconsModel", "sees", "[I", true)
  | 5 => ("LyingBeaconsModel", "ks", "[I", true)
  | 6 => ("LyingBeaconsModel", "ms", "[I", true)
  | 7 => ("LyingBeaconsModel", "woods", "[I", true)
  | 8 => ("LyingBeaconsModel", "spanMany", "[I", true)
  | 9 => ("LyingBeaconsModel", "spans", "[I", true)
  | 10 => ("LyingBeaconsModel", "ships", "[I", true)
  | 11 => ("LyingBeaconsModel", "logged", "[I", true)
  | 12 => ("LyingBeaconsModel", "keptMany", "I", false)
  | 13 => ("LyingBeaconsModel", "signs", "[I", true)
  | 14 => ("LyingBeaconsModel", "costs", "[I", true)
  | 15 => ("LyingBeaconsModel", "at", "I", false)
  | 16 => ("LyingBeaconsModel", "told", "[I", true)
  | 17 => ("LyingBeaconsModel", "ruled", "I", false)
  | 18 => ("LyingBeaconsModel", "wooded", "I", false)
  | 19 => ("LyingBeaconsModel", "isBegun", "Z", false)
  | 20 => ("LyingBeaconsModel", "fires", "[I", true)
  | 21 => ("LyingBeaconsModel", "left", "[I", true)
  | 22 => ("LyingBeaconsModel", "manned", "I", false)
  | 23 => ("LyingBeaconsModel", "allK", "I", false)
  | 24 => ("LyingBeaconsModel", "allM", "I", false)
  | 25 => ("LyingBeaconsModel", "goneA", "I", false)
  | 26 => ("LyingBeaconsModel", "goneB", "I", false)
  | 27 => ("LyingBeaconsModel", "since", "[I", true)
  | 28 => ("LyingBeaconsModel", "row", "[I", true)
  | _ => ("LyingBeaconsModel", "hours", "[I", true)
def tyX9 : Nat → FieldType := fun k => match k with
  | 0 => .int
  | 1 => .array .int
  | 2 => .array .int
  | 3 => .array .int
  | 4 => .array .int
  | 5 => .array .int
  | 6 => .array .int
  | 7 => .array .int
  | 8 => .array .int
  | 9 => .array .int
  | 10 => .array .int
  | 11 => .array .int
  | 12 => .int
  | 13 => .array .int
  | 14 => .array .int
  | 15 => .int
  | 16 => .array .int
  | 17 => .int
  | 18 => .int
  | 19 => .boolean
  | 20 => .array .int
  | 21 => .array .int
  | 22 => .int
  | 23 => .int
  | 24 => .int
  | 25 => .int
  | 26 => .int
  | 27 => .array .int
  | 28 => .array .int
  | _ => .array .int
theorem nmX9 : ∀ a, a < 30 → ∀ b, b < 30 → a ≠ b → (TX9 a).2.1 ≠ (TX9 b).2.1 := by decide +kernel
theorem tyX9_ok : ∀ k, k < 30 → parseFieldDescriptor (TX9 k).2.2.1 = some (tyX9 k) := by decide +kernel
theorem inX9 : ∀ w ∈ u_ws RX9 TX9 30, w ∈ lw_tbl := by decide +kernel
abbrev vwCl : List vw_C := [(RX0, TX0, 10), (RX1, TX1, 1), (RX3, TX3, 12), (RX4, TX4, 3), (RX5, TX5, 7), (RX6, TX6, 1), (RX7, TX7, 1), (RX8, TX8, 14), (RX9, TX9, 30)]
def jm_fts (ci : Nat) : List FieldType := match ci with
  | 0 => [.int, .int, .int, .int, .int, .array .int, .array .int, .array .int, .array .int, .int]
  | 1 => [.array .int]
  | 2 => [.int, .array .int, .array .int, .array .int, .array .int, .array .int, .array .int, .array .long, .array .long, .array .long, .int, .long]
  | 3 => [.array .int, .int, .array .long]
  | 4 => [.array .int, .int, .int, .int, .boolean, .int, .int]
  | 5 => [.array .int]
  | 6 => [.array .int]
  | 7 => [.array .byte, .int, .object "LyingBeacons$Reader", .object "LyingBeacons$Net", .object "LyingBeacons$Net", .object "LyingBeacons$Net", .object "LyingBeacons$Net", .int, .object "LyingBeacons$Night", .boolean, .object "LyingBeacons$Council", .object "LyingBeacons$Signs", .object "LyingBeacons$Watchmen", .object "LyingBeacons$King"]
  | 8 => [.int, .array .int, .array .int, .array .int, .array .int, .array .int, .array .int, .array .int, .array .int, .array .int, .array .int, .array .int, .int, .array .int, .array .int, .int, .array .int, .int, .int, .boolean, .array .int, .array .int, .int, .int, .int, .int, .int, .array .int, .array .int, .array .int]
  | _ => []
def jm_tbl : List Cond := lw_tbl.filter goodWord
theorem jm_in {w : Cond} (h : w ∈ lw_tbl) (g : goodWord w = true) : w ∈ jm_tbl := List.mem_filter.mpr ⟨h, g⟩
theorem jm_good : GoodIn jm_tbl jm_tbl := fun w h => ⟨h, good_of_word (List.mem_filter.mp h).2⟩
theorem inY0 : ∀ w ∈ u_ws RX0 TX0 10, w ∈ jm_tbl := fun w h => jm_in (inX0 w h) (List.all_eq_true.mp (show (u_ws RX0 TX0 10).all goodWord = true by decide +kernel) w h)
theorem inY1 : ∀ w ∈ u_ws RX1 TX1 1, w ∈ jm_tbl := fun w h => jm_in (inX1 w h) (List.all_eq_true.mp (show (u_ws RX1 TX1 1).all goodWord = true by decide +kernel) w h)
theorem inY3 : ∀ w ∈ u_ws RX3 TX3 12, w ∈ jm_tbl := fun w h => jm_in (inX3 w h) (List.all_eq_true.mp (show (u_ws RX3 TX3 12).all goodWord = true by decide +kernel) w h)
theorem inY4 : ∀ w ∈ u_ws RX4 TX4 3, w ∈ jm_tbl := fun w h => jm_in (inX4 w h) (List.all_eq_true.mp (show (u_ws RX4 TX4 3).all goodWord = true by decide +kernel) w h)
theorem inY5 : ∀ w ∈ u_ws RX5 TX5 7, w ∈ jm_tbl := fun w h => jm_in (inX5 w h) (List.all_eq_true.mp (show (u_ws RX5 TX5 7).all goodWord = true by decide +kernel) w h)
theorem inY6 : ∀ w ∈ u_ws RX6 TX6 1, w ∈ jm_tbl := fun w h => jm_in (inX6 w h) (List.all_eq_true.mp (show (u_ws RX6 TX6 1).all goodWord = true by decide +kernel) w h)
theorem inY7 : ∀ w ∈ u_ws RX7 TX7 1, w ∈ jm_tbl := fun w h => jm_in (inX7 w h) (List.all_eq_true.mp (show (u_ws RX7 TX7 1).all goodWord = true by decide +kernel) w h)
theorem inY8 : ∀ w ∈ u_ws RX8 TX8 14, w ∈ jm_tbl := fun w h => jm_in (inX8 w h) (List.all_eq_true.mp (show (u_ws RX8 TX8 14).all goodWord = true by decide +kernel) w h)
theorem inY9 : ∀ w ∈ u_ws RX9 TX9 30, w ∈ jm_tbl := fun w h => jm_in (inX9 w h) (List.all_eq_true.mp (show (u_ws RX9 TX9 30).all goodWord = true by decide +kernel) w h)
def jm_nest : List (String × Nat × MethodName × String) := [("LyingBeacons$Reader", 124, ⟨"LyingBeacons", "isMinute", "(I)Z"⟩, "LyingBeacons"), ("LyingBeacons$Reader", 113, ⟨"LyingBeacons", "minutesFrom", "(II)J"⟩, "LyingBeacons"), ("LyingBeacons$Night", 23, ⟨"LyingBeacons", "isMinute", "(I)Z"⟩, "LyingBeacons"), ("LyingBeacons$Night", 73, ⟨"LyingBeacons", "minutesFrom", "(II)J"⟩, "LyingBeacons"), ("LyingBeacons$Signs", 15, ⟨"LyingBeacons", "isSign", "(I)Z"⟩, "LyingBeacons")]
theorem jm_nest_in : ∀ q ∈ jm_nest, Cond.methodLinkNest q.1 q.2.1 q.2.2.1 q.2.2.2 ∈ lw_tbl := by decide +kernel
