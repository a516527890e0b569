def RX0 : String := "StraightTax$Beggar"
def TX0 : u_T := fun k => match k with
  | _ => ("", "", "", false)
def tyX0 : Nat → FieldType := fun k => match k with
  | _ => .int
abbrev wsX00 : List Cond := u_ws RX0 TX0 0
theorem nmX0 : ∀ a, a < 0 → ∀ b, b < 0 → a ≠ b → (TX0 a).2.1 ≠ (TX0 b).2.1 := by decide +kernel
theorem tyX0_ok : ∀ k, k < 0 → parseFieldDescriptor (TX0 k).2.2.1 = some (tyX0 k) := by decide +kernel
def RX1 : String := "StraightTax$Courtier"
def TX1 : u_T := fun k => match k with
  | _ => ("", "", "", false)
def tyX1 : Nat → FieldType := fun k => match k with
  | _ => .int
abbrev wsX10 : List Cond := u_ws RX1 TX1 0
theorem nmX1 : ∀ a, a < 0 → ∀ b, b < 0 → a ≠ b → (TX1 a).2.1 ≠ (TX1 b).2.1 := by decide +kernel
theorem tyX1_ok : ∀ k, k < 0 → parseFieldDescriptor (TX1 k).2.2.1 = some (tyX1 k) := by decide +kernel
def RX2 : String := "StraightTax$Dancer"
def TX2 : u_T := fun k => match k with
  | _ => ("", "", "", false)
def tyX2 : Nat → FieldType := fun k => match k with
  | _ => .int
abbrev wsX20 : List Cond := u_ws RX2 TX2 0
theorem nmX2 : ∀ a, a < 0 → ∀ b, b < 0 → a ≠ b → (TX2 a).2.1 ≠ (TX2 b).2.1 := by decide +kernel
theorem tyX2_ok : ∀ k, k < 0 → parseFieldDescriptor (TX2 k).2.2.1 = some (tyX2 k) := by decide +kernel
def RX3 : String := "StraightTax$Drover"
def TX3 : u_T := fun k => match k with
  | _ => ("", "", "", false)
def tyX3 : Nat → FieldType := fun k => match k with
  | _ => .int
abbrev wsX30 : List Cond := u_ws RX3 TX3 0
theorem nmX3 : ∀ a, a < 0 → ∀ b, b < 0 → a ≠ b → (TX3 a).2.1 ≠ (TX3 b).2.1 := by decide +kernel
theorem tyX3_ok : ∀ k, k < 0 → parseFieldDescriptor (TX3 k).2.2.1 = some (tyX3 k) := by decide +kernel
def RX4 : String := "StraightTax$Errands"
def TX4 : u_T := fun k => match k with
  | 0 => ("StraightTax$Errands", "many", "I", false)
  | 1 => ("StraightTax$Errands", "from", "[I", true)
  | 2 => ("StraightTax$Errands", "to", "[I", true)
  | 3 => ("StraightTax$Errands", "direct", "[I", true)
  | _ => ("StraightTax$Errands", "rests", "[I", true)
def tyX4 : Nat → FieldType := fun k => match k with
  | 0 => .int
  | 1 => .array .int
  | 2 => .array .int
  | 3 => .array .int
  | _ => .array .int
abbrev wsX40 : List Cond := u_ws RX4 TX4 5
theorem nmX4 : ∀ a, a < 5 → ∀ b, b < 5 → a ≠ b → (TX4 a).2.1 ≠ (TX4 b).2.1 := by decide +kernel
theorem tyX4_ok : ∀ k, k < 5 → parseFieldDescriptor (TX4 k).2.2.1 = some (tyX4 k) := by decide +kernel
def RX5 : String := "StraightTax$Lawyer"
def TX5 : u_T := fun k => match k with
  | _ => ("", "", "", false)
def tyX5 : Nat → FieldType := fun k => match k with
  | _ => .int
abbrev wsX50 : List Cond := u_ws RX5 TX5 0
theorem nmX5 : ∀ a, a < 0 → ∀ b, b < 0 → a ≠ b → (TX5 a).2.1 ≠ (TX5 b).2.1 := by decide +kernel
theorem tyX5_ok : ∀ k, k < 0 → parseFieldDescriptor (TX5 k).2.2.1 = some (tyX5 k) := by decide +kernel
def RX6 : String := "StraightTax$Text"
def TX6 : u_T := fun k => match k with
  | 0 => ("StraightTax$Text", "length", "I", false)
  | 1 => ("StraightTax$Text", "bytes", "[B", true)
  | 2 => ("StraightTax$Text", "at", "I", false)
  | 3 => ("StraightTax$Text", "place", "I", false)
  | 4 => ("StraightTax$Text", "token", "I", false)
  | 5 => ("StraightTax$Text", "value", "I", false)
  | 6 => ("StraightTax$Text", "toldTax", "Z", false)
  | 7 => ("StraightTax$Text", "toldDouble", "Z", false)
  | _ => ("StraightTax$Text", "toldHaste", "Z", false)
def tyX6 : Nat → FieldType := fun k => match k with
  | 0 => .int
  | 1 => .array .byte
  | 2 => .int
  | 3 => .int
  | 4 => .int
  | 5 => .int
  | 6 => .boolean
  | 7 => .boolean
  | _ => .boolean
abbrev wsX60 : List Cond := u_ws RX6 TX6 9
theorem nmX6 : ∀ a, a < 9 → ∀ b, b < 9 → a ≠ b → (TX6 a).2.1 ≠ (TX6 b).2.1 := by decide +kernel
theorem tyX6_ok : ∀ k, k < 9 → parseFieldDescriptor (TX6 k).2.2.1 = some (tyX6 k) := by decide +kernel
def RX7 : String := "StraightTax$Town"
def TX7 : u_T := fun k => match k with
  | 0 => ("StraightTax$Town", "wide", "I", false)
  | 1 => ("StraightTax$Town", "high", "I", false)
  | 2 => ("StraightTax$Town", "free", "I", false)
  | 3 => ("StraightTax$Town", "rate", "I", false)
  | 4 => ("StraightTax$Town", "form", "I", false)
  | 5 => ("StraightTax$Town", "doubled", "Z", false)
  | 6 => ("StraightTax$Town", "haste", "I", false)
  | 7 => ("StraightTax$Town", "things", "[I", true)
  | _ => ("StraightTax$Town", "next", "[I", true)
def tyX7 : Nat → FieldType := fun k => match k with
  | 0 => .int
  | 1 => .int
  | 2 => .int
  | 3 => .int
  | 4 => .int
  | 5 => .boolean
  | 6 => .int
  | 7 => .array .int
  | _ => .array .int
abbrev wsX70 : List Cond := u_ws RX7 TX7 9
theorem nmX7 : ∀ a, a < 9 → ∀ b, b < 9 → a ≠ b → (TX7 a).2.1 ≠ (TX7 b).2.1 := by decide +kernel
theorem tyX7_ok : ∀ k, k < 9 → parseFieldDescriptor (TX7 k).2.2.1 = some (tyX7 k) := by decide +kernel
def RX8 : String := "StraightTax$Walk"
def TX8 : u_T := fun k => match k with
  | 0 => ("StraightTax$Walk", "at", "I", false)
  | 1 => ("StraightTax$Walk", "paid", "I", false)
  | 2 => ("StraightTax$Walk", "steps", "I", false)
  | 3 => ("StraightTax$Walk", "night", "Z", false)
  | 4 => ("StraightTax$Walk", "froms", "[I", true)
  | 5 => ("StraightTax$Walk", "directions", "[I", true)
  | 6 => ("StraightTax$Walk", "runs", "[I", true)
  | _ => ("StraightTax$Walk", "fares", "[I", true)
def tyX8 : Nat → FieldType := fun k => match k with
  | 0 => .int
  | 1 => .int
  | 2 => .int
  | 3 => .boolean
  | 4 => .array .int
  | 5 => .array .int
  | 6 => .array .int
  | _ => .array .int
abbrev wsX80 : List Cond := u_ws RX8 TX8 8
theorem nmX8 : ∀ a, a < 8 → ∀ b, b < 8 → a ≠ b → (TX8 a).2.1 ≠ (TX8 b).2.1 := by decide +kernel
theorem tyX8_ok : ∀ k, k < 8 → parseFieldDescriptor (TX8 k).2.2.1 = some (tyX8 k) := by decide +kernel
def RX9 : String := "StraightTax$Walker"
def TX9 : u_T := fun k => match k with
  | _ => ("", "", "", false)
def tyX9 : Nat → FieldType := fun k => match k with
  | _ => .int
abbrev wsX90 : List Cond := u_ws RX9 TX9 0
theorem nmX9 : ∀ a, a < 0 → ∀ b, b < 0 → a ≠ b → (TX9 a).2.1 ≠ (TX9 b).2.1 := by decide +kernel
theorem tyX9_ok : ∀ k, k < 0 → parseFieldDescriptor (TX9 k).2.2.1 = some (tyX9 k) := by decide +kernel
def RX10 : String := "StraightTax$Ways"
def TX10 : u_T := fun k => match k with
  | 0 => ("StraightTax$Ways", "town", "LStraightTax$Town;", false)
  | 1 => ("StraightTax$Ways", "night", "Z", false)
  | 2 => ("StraightTax$Ways", "goal", "I", false)
  | 3 => ("StraightTax$Ways", "sums", "[I", true)
  | 4 => ("StraightTax$Ways", "weights", "[I", true)
  | 5 => ("StraightTax$Ways", "outward", "[I", true)
  | 6 => ("StraightTax$Ways", "onward", "[I", true)
  | 7 => ("StraightTax$Ways", "inward", "[I", true)
  | 8 => ("StraightTax$Ways", "near", "[I", true)
  | 9 => ("StraightTax$Ways", "stops", "[I", true)
  | _ => ("StraightTax$Ways", "legs", "[I", true)
def tyX10 : Nat → FieldType := fun k => match k with
  | 0 => .object "StraightTax$Town"
  | 1 => .boolean
  | 2 => .int
  | 3 => .array .int
  | 4 => .array .int
  | 5 => .array .int
  | 6 => .array .int
  | 7 => .array .int
  | 8 => .array .int
  | 9 => .array .int
  | _ => .array .int
abbrev wsX100 : List Cond := u_ws RX10 TX10 11
theorem nmX10 : ∀ a, a < 11 → ∀ b, b < 11 → a ≠ b → (TX10 a).2.1 ≠ (TX10 b).2.1 := by decide +kernel
theorem tyX10_ok : ∀ k, k < 11 → parseFieldDescriptor (TX10 k).2.2.1 = some (tyX10 k) := by decide +kernel
def RX11 : String := "StraightTax"
def TX11 : u_T := fun k => match k with
  | 0 => ("StraightTax", "text", "LStraightTax$Text;", true)
  | 1 => ("StraightTax", "now", "LStraightTax$Walk;", true)
  | 2 => ("StraightTax", "images", "[LStraightTax$Walk;", true)
  | 3 => ("StraightTax", "kept", "[Z", true)
  | 4 => ("StraightTax", "errands", "LStraightTax$Errands;", true)
  | 5 => ("StraightTax", "kinds", "[LStraightTax$Walker;", true)
  | 6 => ("StraightTax", "ways", "LStraightTax$Ways;", true)
  | 7 => ("StraightTax", "here", "LStraightTax$Town;", false)
  | 8 => ("StraightTax", "spare", "LStraightTax$Town;", false)
  | _ => ("StraightTax", "marks", "J", false)
def tyX11 : Nat → FieldType := fun k => match k with
  | 0 => .object "StraightTax$Text"
  | 1 => .object "StraightTax$Walk"
  | 2 => .array (.object "StraightTax$Walk")
  | 3 => .array .boolean
  | 4 => .object "StraightTax$Errands"
  | 5 => .array (.object "StraightTax$Walker")
  | 6 => .object "StraightTax$Ways"
  | 7 => .object "StraightTax$Town"
  | 8 => .object "StraightTax$Town"
  | _ => .long
abbrev wsX110 : List Cond := u_ws RX11 TX11 10
theorem nmX11 : ∀ a, a < 10 → ∀ b, b < 10 → a ≠ b → (TX11 a).2.1 ≠ (TX11 b).2.1 := by decide +kernel
theorem tyX11_ok : ∀ k, k < 10 → parseFieldDescriptor (TX11 k).2.2.1 = some (tyX11 k) := by decide +kernel
def RX12 : String := "StraightTaxModel"
def TX12 : u_T := fun k => match k with
  | 0 => ("StraightTaxModel", "wide", "I", false)
  | 1 => ("StraightTaxModel", "high", "I", false)
  | 2 => ("StraightTaxModel", "houses", "I", false)
  | 3 => ("StraightTaxModel", "elbows", "I", false)
  | 4 => ("StraightTaxModel", "free", "I", false)
  | 5 => ("StraightTaxModel", "rate", "I", false)
  | 6 => ("StraightTaxModel", "form", "I", false)
  | 7 => ("StraightTaxModel", "doubled", "I", false)
  | 8 => ("StraightTaxModel", "haste", "I", false)
  | 9 => ("StraightTaxModel", "text", "[I", true)
  | 10 => ("StraightTaxModel", "texted", "I", false)
  | 11 => ("StraightTaxModel", "w", "[I", true)
  | 12 => ("StraightTaxModel", "isKept", "[Z", true)
  | 13 => ("StraightTaxModel", "errands", "I", false)
  | 14 => ("StraightTaxModel", "froms", "[I", true)
  | 15 => ("StraightTaxModel", "tos", "[I", true)
  | 16 => ("StraightTaxModel", "trace", "J", false)
  | 17 => ("StraightTaxModel", "readWide", "I", false)
  | 18 => ("StraightTaxModel", "readHigh", "I", false)
  | 19 => ("StraightTaxModel", "readHouses", "I", false)
  | 20 => ("StraightTaxModel", "readElbows", "I", false)
  | 21 => ("StraightTaxModel", "readTax", "[I", true)
  | 22 => ("StraightTaxModel", "toldOnce", "I", false)
  | 23 => ("StraightTaxModel", "items", "I", false)
  | 24 => ("StraightTaxModel", "at", "I", false)
  | 25 => ("StraightTaxModel", "fault", "I", false)
  | 26 => ("StraightTaxModel", "rest", "[I", true)
  | 27 => ("StraightTaxModel", "then", "[I", true)
  | 28 => ("StraightTaxModel", "least", "[I", true)
  | 29 => ("StraightTaxModel", "places", "[I", true)
  | 30 => ("StraightTaxModel", "between", "[I", true)
  | 31 => ("StraightTaxModel", "rounds", "[I", true)
  | 32 => ("StraightTaxModel", "ways", "[I", true)
  | 33 => ("StraightTaxModel", "states", "[I", true)
  | _ => ("StraightTaxModel", "sums", "[I", true)
def tyX12 : Nat → FieldType := fun k => match k with
  | 0 => .int
  | 1 => .int
  | 2 => .int
  | 3 => .int
  | 4 => .int
  | 5 => .int
  | 6 => .int
  | 7 => .int
  | 8 => .int
  | 9 => .array .int
  | 10 => .int
  | 11 => .array .int
  | 12 => .array .boolean
  | 13 => .int
  | 14 => .array .int
  | 15 => .array .int
  | 16 => .long
  | 17 => .int
  | 18 => .int
  | 19 => .int
  | 20 => .int
  | 21 => .array .int
  | 22 => .int
  | 23 => .int
  | 24 => .int
  | 25 => .int
  | 26 => .array .int
  | 27 => .array .int
  | 28 => .array .int
  | 29 => .array .int
  | 30 => .array .int
  | 31 => .array .int
  | 32 => .array .int
  | 33 => .array .int
  | _ => .array .int
abbrev wsX120 : List Cond := u_ws RX12 TX12 35
theorem nmX12 : ∀ a, a < 35 → ∀ b, b < 35 → a ≠ b → (TX12 a).2.1 ≠ (TX12 b).2.1 := by decide +kernel
theorem tyX12_ok : ∀ k, k < 35 → parseFieldDescriptor (TX12 k).2.2.1 = some (tyX12 k) := by decide +kernel
abbrev vwCl : List vw_C := [(RX0, TX0, 0), (RX1, TX1, 0), (RX2, TX2, 0), (RX3, TX3, 0), (RX4, TX4, 5), (RX5, TX5, 0), (RX6, TX6, 9), (RX7, TX7, 9), (RX8, TX8, 8), (RX9, TX9, 0), (RX10, TX10, 11), (RX11, TX11, 10), (RX12, TX12, 35)]
theorem qinX : ∀ (ci : Nat) (q : vw_C), vwCl[ci]? = some q → ∀ w ∈ u_ws q.1 q.2.1 q.2.2, w ∈ lw_tbl ∧ goodWord w = true := by
  intro ci q h
  match ci, h with
  | 0, h => cases h; decide +kernel
  | 1, h => cases h; decide +kernel
  | 2, h => cases h; decide +kernel
  | 3, h => cases h; decide +kernel
  | 4, h => cases h; decide +kernel
  | 5, h => cases h; decide +kernel
  | 6, h => cases h; decide +kernel
  | 7, h => cases h; decide +kernel
  | 8, h => cases h; decide +kernel
  | 9, h => cases h; decide +kernel
  | 10, h => cases h; decide +kernel
  | 11, h => cases h; decide +kernel
  | 12, h => cases h; decide +kernel
  | n + 13, h => simp [vwCl] at h
