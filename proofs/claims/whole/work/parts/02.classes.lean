def RX0 : String := "GladBasket$Basket"
def TX0 : u_T := fun k => match k with
  | 0 => ("GladBasket$Basket", "goods", "I", false)
  | 1 => ("GladBasket$Basket", "traits", "[I", true)
  | 2 => ("GladBasket$Basket", "people", "I", false)
  | 3 => ("GladBasket$Basket", "owns", "[I", true)
  | 4 => ("GladBasket$Basket", "heardCount", "I", false)
  | 5 => ("GladBasket$Basket", "heard", "[I", true)
  | 6 => ("GladBasket$Basket", "terms", "[I", true)
  | 7 => ("GladBasket$Basket", "lawCount", "I", false)
  | 8 => ("GladBasket$Basket", "laws", "[LGladBasket$Program;", true)
  | _ => ("GladBasket$Basket", "force", "I", false)
def tyX0 : Nat → FieldType := fun k => match k with
  | 0 => .int
  | 1 => .array .int
  | 2 => .int
  | 3 => .array .int
  | 4 => .int
  | 5 => .array .int
  | 6 => .array .int
  | 7 => .int
  | 8 => .array (.object "GladBasket$Program")
  | _ => .int
theorem nmX0 : ∀ a, a < 10 → ∀ b, b < 10 → a ≠ b → (TX0 a).2.1 ≠ (TX0 b).2.1 := by decide +kernel
theorem tyX0_ok : ∀ k, k < 10 → parseFieldDescriptor (TX0 k).2.2.1 = some (tyX0 k) := by decide +kernel
def RX1 : String := "GladBasket$Figures"
def TX1 : u_T := fun k => match k with
  | 0 => ("GladBasket$Figures", "judge", "LGladBasket$Judge;", true)
  | 1 => ("GladBasket$Figures", "goods", "I", false)
  | 2 => ("GladBasket$Figures", "bases", "[I", true)
  | 3 => ("GladBasket$Figures", "nows", "[I", true)
  | 4 => ("GladBasket$Figures", "counts", "[I", true)
  | 5 => ("GladBasket$Figures", "plain", "LGladBasket$Fraction;", true)
  | _ => ("GladBasket$Figures", "changed", "LGladBasket$Fraction;", true)
def tyX1 : Nat → FieldType := fun k => match k with
  | 0 => .object "GladBasket$Judge"
  | 1 => .int
  | 2 => .array .int
  | 3 => .array .int
  | 4 => .array .int
  | 5 => .object "GladBasket$Fraction"
  | _ => .object "GladBasket$Fraction"
theorem nmX1 : ∀ a, a < 7 → ∀ b, b < 7 → a ≠ b → (TX1 a).2.1 ≠ (TX1 b).2.1 := by decide +kernel
theorem tyX1_ok : ∀ k, k < 7 → parseFieldDescriptor (TX1 k).2.2.1 = some (tyX1 k) := by decide +kernel
def RX2 : String := "GladBasket$Fraction"
def TX2 : u_T := fun k => match k with
  | 0 => ("GladBasket$Fraction", "above", "J", false)
  | _ => ("GladBasket$Fraction", "below", "J", false)
def tyX2 : Nat → FieldType := fun k => match k with
  | 0 => .long
  | _ => .long
theorem nmX2 : ∀ a, a < 2 → ∀ b, b < 2 → a ≠ b → (TX2 a).2.1 ≠ (TX2 b).2.1 := by decide +kernel
theorem tyX2_ok : ∀ k, k < 2 → parseFieldDescriptor (TX2 k).2.2.1 = some (tyX2 k) := by decide +kernel
def RX3 : String := "GladBasket$History"
def TX3 : u_T := fun k => match k with
  | 0 => ("GladBasket$History", "size", "I", false)
  | 1 => ("GladBasket$History", "kinds", "[I", true)
  | 2 => ("GladBasket$History", "goods", "[I", true)
  | 3 => ("GladBasket$History", "weights", "[I", true)
  | _ => ("GladBasket$History", "prices", "[I", true)
def tyX3 : Nat → FieldType := fun k => match k with
  | 0 => .int
  | 1 => .array .int
  | 2 => .array .int
  | 3 => .array .int
  | _ => .array .int
theorem nmX3 : ∀ a, a < 5 → ∀ b, b < 5 → a ≠ b → (TX3 a).2.1 ≠ (TX3 b).2.1 := by decide +kernel
theorem tyX3_ok : ∀ k, k < 5 → parseFieldDescriptor (TX3 k).2.2.1 = some (tyX3 k) := by decide +kernel
def RX4 : String := "GladBasket$Judge"
def TX4 : u_T := fun k => match k with
  | 0 => ("GladBasket$Judge", "machine", "LGladBasket$Machine;", true)
  | 1 => ("GladBasket$Judge", "words", "[I", true)
  | _ => ("GladBasket$Judge", "moves", "[I", true)
def tyX4 : Nat → FieldType := fun k => match k with
  | 0 => .object "GladBasket$Machine"
  | 1 => .array .int
  | _ => .array .int
theorem nmX4 : ∀ a, a < 3 → ∀ b, b < 3 → a ≠ b → (TX4 a).2.1 ≠ (TX4 b).2.1 := by decide +kernel
theorem tyX4_ok : ∀ k, k < 3 → parseFieldDescriptor (TX4 k).2.2.1 = some (tyX4 k) := by decide +kernel
def RX5 : String := "GladBasket$Machine"
def TX5 : u_T := fun k => match k with
  | _ => ("GladBasket$Machine", "stack", "[I", true)
def tyX5 : Nat → FieldType := fun k => match k with
  | _ => .array .int
theorem nmX5 : ∀ a, a < 1 → ∀ b, b < 1 → a ≠ b → (TX5 a).2.1 ≠ (TX5 b).2.1 := by decide +kernel
theorem tyX5_ok : ∀ k, k < 1 → parseFieldDescriptor (TX5 k).2.2.1 = some (tyX5 k) := by decide +kernel
def RX6 : String := "GladBasket$Paper"
def TX6 : u_T := fun k => match k with
  | 0 => ("GladBasket$Paper", "judge", "LGladBasket$Judge;", true)
  | 1 => ("GladBasket$Paper", "figures", "LGladBasket$Figures;", true)
  | 2 => ("GladBasket$Paper", "least", "[I", true)
  | 3 => ("GladBasket$Paper", "amounts", "[I", true)
  | 4 => ("GladBasket$Paper", "nows", "[I", true)
  | 5 => ("GladBasket$Paper", "glads", "[I", true)
  | 6 => ("GladBasket$Paper", "mosts", "[I", true)
  | 7 => ("GladBasket$Paper", "stepsLeft", "[I", true)
  | 8 => ("GladBasket$Paper", "places", "[I", true)
  | 9 => ("GladBasket$Paper", "walked", "[I", true)
  | 10 => ("GladBasket$Paper", "walkedCount", "I", false)
  | 11 => ("GladBasket$Paper", "sets", "[I", true)
  | 12 => ("GladBasket$Paper", "setCount", "I", false)
  | 13 => ("GladBasket$Paper", "chances", "[J", true)
  | _ => ("GladBasket$Paper", "line", "LGladBasket$Fraction;", true)
def tyX6 : Nat → FieldType := fun k => match k with
  | 0 => .object "GladBasket$Judge"
  | 1 => .object "GladBasket$Figures"
  | 2 => .array .int
  | 3 => .array .int
  | 4 => .array .int
  | 5 => .array .int
  | 6 => .array .int
  | 7 => .array .int
  | 8 => .array .int
  | 9 => .array .int
  | 10 => .int
  | 11 => .array .int
  | 12 => .int
  | 13 => .array .long
  | _ => .object "GladBasket$Fraction"
theorem nmX6 : ∀ a, a < 15 → ∀ b, b < 15 → a ≠ b → (TX6 a).2.1 ≠ (TX6 b).2.1 := by decide +kernel
theorem tyX6_ok : ∀ k, k < 15 → parseFieldDescriptor (TX6 k).2.2.1 = some (tyX6 k) := by decide +kernel
def RX7 : String := "GladBasket$Program"
def TX7 : u_T := fun k => match k with
  | 0 => ("GladBasket$Program", "size", "I", false)
  | 1 => ("GladBasket$Program", "ops", "[I", true)
  | 2 => ("GladBasket$Program", "args", "[I", true)
  | 3 => ("GladBasket$Program", "clauses", "I", false)
  | 4 => ("GladBasket$Program", "kinds", "[I", true)
  | 5 => ("GladBasket$Program", "times", "[I", true)
  | 6 => ("GladBasket$Program", "bounds", "[I", true)
  | _ => ("GladBasket$Program", "asksFigure", "Z", false)
def tyX7 : Nat → FieldType := fun k => match k with
  | 0 => .int
  | 1 => .array .int
  | 2 => .array .int
  | 3 => .int
  | 4 => .array .int
  | 5 => .array .int
  | 6 => .array .int
  | _ => .boolean
theorem nmX7 : ∀ a, a < 8 → ∀ b, b < 8 → a ≠ b → (TX7 a).2.1 ≠ (TX7 b).2.1 := by decide +kernel
theorem tyX7_ok : ∀ k, k < 8 → parseFieldDescriptor (TX7 k).2.2.1 = some (tyX7 k) := by decide +kernel
def RX8 : String := "GladBasket$Reader"
def TX8 : u_T := fun k => match k with
  | 0 => ("GladBasket$Reader", "tape", "LGladBasket$Tape;", true)
  | 1 => ("GladBasket$Reader", "program", "LGladBasket$Program;", true)
  | 2 => ("GladBasket$Reader", "asOrders", "Z", false)
  | _ => ("GladBasket$Reader", "parts", "I", false)
def tyX8 : Nat → FieldType := fun k => match k with
  | 0 => .object "GladBasket$Tape"
  | 1 => .object "GladBasket$Program"
  | 2 => .boolean
  | _ => .int
theorem nmX8 : ∀ a, a < 4 → ∀ b, b < 4 → a ≠ b → (TX8 a).2.1 ≠ (TX8 b).2.1 := by decide +kernel
theorem tyX8_ok : ∀ k, k < 4 → parseFieldDescriptor (TX8 k).2.2.1 = some (tyX8 k) := by decide +kernel
def RX9 : String := "GladBasket$Tape"
def TX9 : u_T := fun k => match k with
  | 0 => ("GladBasket$Tape", "bytes", "[I", true)
  | 1 => ("GladBasket$Tape", "length", "I", false)
  | 2 => ("GladBasket$Tape", "start", "I", false)
  | 3 => ("GladBasket$Tape", "stop", "I", false)
  | _ => ("GladBasket$Tape", "kind", "I", false)
def tyX9 : Nat → FieldType := fun k => match k with
  | 0 => .array .int
  | 1 => .int
  | 2 => .int
  | 3 => .int
  | _ => .int
theorem nmX9 : ∀ a, a < 5 → ∀ b, b < 5 → a ≠ b → (TX9 a).2.1 ≠ (TX9 b).2.1 := by decide +kernel
theorem tyX9_ok : ∀ k, k < 5 → parseFieldDescriptor (TX9 k).2.2.1 = some (tyX9 k) := by decide +kernel
def RX10 : String := "GladBasket"
def TX10 : u_T := fun k => match k with
  | 0 => ("GladBasket", "basket", "LGladBasket$Basket;", true)
  | 1 => ("GladBasket", "before", "LGladBasket$Basket;", true)
  | 2 => ("GladBasket", "drawnYears", "LGladBasket$Basket;", true)
  | 3 => ("GladBasket", "images", "[LGladBasket$Basket;", true)
  | 4 => ("GladBasket", "imageKept", "[I", true)
  | 5 => ("GladBasket", "history", "LGladBasket$History;", true)
  | 6 => ("GladBasket", "historyBefore", "LGladBasket$History;", true)
  | 7 => ("GladBasket", "tape", "LGladBasket$Tape;", true)
  | 8 => ("GladBasket", "reader", "LGladBasket$Reader;", true)
  | 9 => ("GladBasket", "machine", "LGladBasket$Machine;", true)
  | 10 => ("GladBasket", "judge", "LGladBasket$Judge;", true)
  | 11 => ("GladBasket", "figures", "LGladBasket$Figures;", true)
  | 12 => ("GladBasket", "paper", "LGladBasket$Paper;", true)
  | 13 => ("GladBasket", "orderWords", "[I", true)
  | 14 => ("GladBasket", "refused", "[I", true)
  | 15 => ("GladBasket", "faultPlace", "I", false)
  | 16 => ("GladBasket", "commaCount", "I", false)
  | 17 => ("GladBasket", "stoppedAt", "I", false)
  | _ => ("GladBasket", "latestStatus", "I", false)
def tyX10 : Nat → FieldType := fun k => match k with
  | 0 => .object "GladBasket$Basket"
  | 1 => .object "GladBasket$Basket"
  | 2 => .object "GladBasket$Basket"
  | 3 => .array (.object "GladBasket$Basket")
  | 4 => .array .int
  | 5 => .object "GladBasket$History"
  | 6 => .object "GladBasket$History"
  | 7 => .object "GladBasket$Tape"
  | 8 => .object "GladBasket$Reader"
  | 9 => .object "GladBasket$Machine"
  | 10 => .object "GladBasket$Judge"
  | 11 => .object "GladBasket$Figures"
  | 12 => .object "GladBasket$Paper"
  | 13 => .array .int
  | 14 => .array .int
  | 15 => .int
  | 16 => .int
  | 17 => .int
  | _ => .int
theorem nmX10 : ∀ a, a < 19 → ∀ b, b < 19 → a ≠ b → (TX10 a).2.1 ≠ (TX10 b).2.1 := by decide +kernel
theorem tyX10_ok : ∀ k, k < 19 → parseFieldDescriptor (TX10 k).2.2.1 = some (tyX10 k) := by decide +kernel
def RX11 : String := "GladBasketModel"
def TX11 : u_T := fun k => match k with
  | 0 => ("GladBasketModel", "thrown", "I", false)
  | 1 => ("GladBasketModel", "status", "I", false)
  | 2 => ("GladBasketModel", "refusals", "[I", true)
  | 3 => ("GladBasketModel", "row", "[I", true)
  | 4 => ("GladBasketModel", "images", "[I", true)
  | 5 => ("GladBasketModel", "isKept", "[Z", true)
  | 6 => ("GladBasketModel", "undos", "[I", true)
  | 7 => ("GladBasketModel", "sorts", "[I", true)
  | 8 => ("GladBasketModel", "nUndo", "I", false)
  | 9 => ("GladBasketModel", "undosBefore", "[I", true)
  | 10 => ("GladBasketModel", "sortsBefore", "[I", true)
  | 11 => ("GladBasketModel", "commas", "I", false)
  | 12 => ("GladBasketModel", "tape", "[I", true)
  | 13 => ("GladBasketModel", "taped", "I", false)
  | 14 => ("GladBasketModel", "from", "I", false)
  | 15 => ("GladBasketModel", "to", "I", false)
  | 16 => ("GladBasketModel", "sort", "I", false)
  | 17 => ("GladBasketModel", "worth", "J", false)
  | 18 => ("GladBasketModel", "fault", "I", false)
  | 19 => ("GladBasketModel", "bad", "Z", false)
  | 20 => ("GladBasketModel", "ordered", "Z", false)
  | 21 => ("GladBasketModel", "nClauses", "I", false)
  | 22 => ("GladBasketModel", "nClause", "[I", true)
  | 23 => ("GladBasketModel", "nCode", "I", false)
  | 24 => ("GladBasketModel", "nOp", "[I", true)
  | 25 => ("GladBasketModel", "nArg", "[I", true)
  | 26 => ("GladBasketModel", "nLeaves", "I", false)
  | 27 => ("GladBasketModel", "pile", "[I", true)
  | 28 => ("GladBasketModel", "pileAt", "[I", true)
  | 29 => ("GladBasketModel", "piled", "I", false)
  | 30 => ("GladBasketModel", "opened", "I", false)
  | 31 => ("GladBasketModel", "words", "[J", true)
  | 32 => ("GladBasketModel", "orderWords", "[J", true)
  | 33 => ("GladBasketModel", "heads", "[J", true)
  | 34 => ("GladBasketModel", "law", "I", false)
  | 35 => ("GladBasketModel", "set", "[J", true)
  | 36 => ("GladBasketModel", "now", "[J", true)
  | 37 => ("GladBasketModel", "rest", "[J", true)
  | 38 => ("GladBasketModel", "broken", "Z", false)
  | 39 => ("GladBasketModel", "value", "J", false)
  | 40 => ("GladBasketModel", "sum", "J", false)
  | 41 => ("GladBasketModel", "above", "J", false)
  | 42 => ("GladBasketModel", "below", "J", false)
  | 43 => ("GladBasketModel", "least", "[I", true)
  | 44 => ("GladBasketModel", "fewest", "[I", true)
  | 45 => ("GladBasketModel", "with1", "[I", true)
  | 46 => ("GladBasketModel", "parts", "[J", true)
  | 47 => ("GladBasketModel", "acts", "[J", true)
  | 48 => ("GladBasketModel", "nOrder", "[I", true)
  | 49 => ("GladBasketModel", "done", "I", false)
  | 50 => ("GladBasketModel", "latest", "I", false)
  | 51 => ("GladBasketModel", "stopped", "I", false)
  | 52 => ("GladBasketModel", "off", "Z", false)
  | 53 => ("GladBasketModel", "state", "J", false)
  | 54 => ("GladBasketModel", "drawn", "[I", true)
  | _ => ("GladBasketModel", "nDrawn", "I", false)
def tyX11 : Nat → FieldType := fun k => match k with
  | 0 => .int
  | 1 => .int
  | 2 => .array .int
  | 3 => .array .int
  | 4 => .array .int
  | 5 => .array .boolean
  | 6 => .array .int
  | 7 => .array .int
  | 8 => .int
  | 9 => .array .int
  | 10 => .array .int
  | 11 => .int
  | 12 => .array .int
  | 13 => .int
  | 14 => .int
  | 15 => .int
  | 16 => .int
  | 17 => .long
  | 18 => .int
  | 19 => .boolean
  | 20 => .boolean
  | 21 => .int
  | 22 => .array .int
  | 23 => .int
  | 24 => .array .int
  | 25 => .array .int
  | 26 => .int
  | 27 => .array .int
  | 28 => .array .int
  | 29 => .int
  | 30 => .int
  | 31 => .array .long
  | 32 => .array .long
  | 33 => .array .long
  | 34 => .int
  | 35 => .array .long
  | 36 => .array .long
  | 37 => .array .long
  | 38 => .boolean
  | 39 => .long
  | 40 => .long
  | 41 => .long
  | 42 => .long
  | 43 => .array .int
  | 44 => .array .int
  | 45 => .array .int
  | 46 => .array .long
  | 47 => .array .long
  | 48 => .array .int
  | 49 => .int
  | 50 => .int
  | 51 => .int
  | 52 => .boolean
  | 53 => .long
  | 54 => .array .int
  | _ => .int
theorem nmX11 : ∀ a, a < 56 → ∀ b, b < 56 → a ≠ b → (TX11 a).2.1 ≠ (TX11 b).2.1 := by decide +kernel
theorem tyX11_ok : ∀ k, k < 56 → parseFieldDescriptor (TX11 k).2.2.1 = some (tyX11 k) := by decide +kernel
abbrev vwCl : List vw_C := [(RX0, TX0, 10), (RX1, TX1, 7), (RX2, TX2, 2), (RX3, TX3, 5), (RX4, TX4, 3), (RX5, TX5, 1), (RX6, TX6, 15), (RX7, TX7, 8), (RX8, TX8, 4), (RX9, TX9, 5), (RX10, TX10, 19), (RX11, TX11, 56)]
theorem inX0 : ∀ w ∈ u_ws RX0 TX0 10, w ∈ lw_tbl := by decide +kernel
theorem inX1 : ∀ w ∈ u_ws RX1 TX1 7, w ∈ lw_tbl := by decide +kernel
theorem inX2 : ∀ w ∈ u_ws RX2 TX2 2, w ∈ lw_tbl := by decide +kernel
theorem inX3 : ∀ w ∈ u_ws RX3 TX3 5, w ∈ lw_tbl := by decide +kernel
theorem inX4 : ∀ w ∈ u_ws RX4 TX4 3, w ∈ lw_tbl := by decide +kernel
theorem inX5 : ∀ w ∈ u_ws RX5 TX5 1, w ∈ lw_tbl := by decide +kernel
theorem inX6 : ∀ w ∈ u_ws RX6 TX6 15, w ∈ lw_tbl := by decide +kernel
theorem inX7 : ∀ w ∈ u_ws RX7 TX7 8, w ∈ lw_tbl := by decide +kernel
theorem inX8 : ∀ w ∈ u_ws RX8 TX8 4, w ∈ lw_tbl := by decide +kernel
theorem inX9 : ∀ w ∈ u_ws RX9 TX9 5, w ∈ lw_tbl := by decide +kernel
theorem inX10 : ∀ w ∈ u_ws RX10 TX10 19, w ∈ lw_tbl := by decide +kernel
theorem inX11 : ∀ w ∈ u_ws RX11 TX11 56, w ∈ lw_tbl := by decide +kernel
