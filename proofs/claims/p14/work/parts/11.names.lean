/-! names of the classes and fields: out of claim/NAMES.whole, by program -/
def RX0 : String := "GoalsInAQueue$Draws"
def TX0 : u_T := fun k => match k with
  | _ => ("GoalsInAQueue$Draws", "z", "I", false)
def tyX0 : Nat → FieldType := fun k => match k with
  | _ => .int
theorem nmX0 : ∀ a, a < 1 → ∀ b, b < 1 → a ≠ b → (TX0 a).2.1 ≠ (TX0 b).2.1 := by decide +kernel
theorem tyX0_ok : ∀ k, k < 1 → parseFieldDescriptor (TX0 k).2.2.1 = some (tyX0 k) := by decide +kernel
def RX1 : String := "GoalsInAQueue$Reader"
def TX1 : u_T := fun k => match k with
  | 0 => ("GoalsInAQueue$Reader", "into", "LGoalsInAQueue$Script;", true)
  | 1 => ("GoalsInAQueue$Reader", "due", "[I", true)
  | 2 => ("GoalsInAQueue$Reader", "owner", "[I", true)
  | 3 => ("GoalsInAQueue$Reader", "place", "[I", true)
  | 4 => ("GoalsInAQueue$Reader", "top", "I", false)
  | 5 => ("GoalsInAQueue$Reader", "goals", "I", false)
  | 6 => ("GoalsInAQueue$Reader", "terms", "I", false)
  | _ => ("GoalsInAQueue$Reader", "excess", "I", false)
def tyX1 : Nat → FieldType := fun k => match k with
  | 0 => .object "GoalsInAQueue$Script"
  | 1 => .array .int
  | 2 => .array .int
  | 3 => .array .int
  | 4 => .int
  | 5 => .int
  | 6 => .int
  | _ => .int
theorem nmX1 : ∀ a, a < 8 → ∀ b, b < 8 → a ≠ b → (TX1 a).2.1 ≠ (TX1 b).2.1 := by decide +kernel
theorem tyX1_ok : ∀ k, k < 8 → parseFieldDescriptor (TX1 k).2.2.1 = some (tyX1 k) := by decide +kernel
def RX2 : String := "GoalsInAQueue$Row"
def TX2 : u_T := fun k => match k with
  | 0 => ("GoalsInAQueue$Row", "held", "[I", true)
  | _ => ("GoalsInAQueue$Row", "size", "I", false)
def tyX2 : Nat → FieldType := fun k => match k with
  | 0 => .array .int
  | _ => .int
theorem nmX2 : ∀ a, a < 2 → ∀ b, b < 2 → a ≠ b → (TX2 a).2.1 ≠ (TX2 b).2.1 := by decide +kernel
theorem tyX2_ok : ∀ k, k < 2 → parseFieldDescriptor (TX2 k).2.2.1 = some (tyX2 k) := by decide +kernel
def RX3 : String := "GoalsInAQueue$Script"
def TX3 : u_T := fun k => match k with
  | 0 => ("GoalsInAQueue$Script", "kinds", "[I", true)
  | 1 => ("GoalsInAQueue$Script", "parts", "[I", true)
  | 2 => ("GoalsInAQueue$Script", "halves", "[I", true)
  | 3 => ("GoalsInAQueue$Script", "goals", "I", false)
  | 4 => ("GoalsInAQueue$Script", "pairs", "I", false)
  | 5 => ("GoalsInAQueue$Script", "top", "I", false)
  | 6 => ("GoalsInAQueue$Script", "toldGoals", "I", false)
  | 7 => ("GoalsInAQueue$Script", "toldPairs", "I", false)
  | _ => ("GoalsInAQueue$Script", "toldTerms", "I", false)
def tyX3 : Nat → FieldType := fun k => match k with
  | 0 => .array .int
  | 1 => .array .int
  | 2 => .array .int
  | 3 => .int
  | 4 => .int
  | 5 => .int
  | 6 => .int
  | 7 => .int
  | _ => .int
theorem nmX3 : ∀ a, a < 9 → ∀ b, b < 9 → a ≠ b → (TX3 a).2.1 ≠ (TX3 b).2.1 := by decide +kernel
theorem tyX3_ok : ∀ k, k < 9 → parseFieldDescriptor (TX3 k).2.2.1 = some (tyX3 k) := by decide +kernel
def RX4 : String := "GoalsInAQueue$Search"
def TX4 : u_T := fun k => match k with
  | 0 => ("GoalsInAQueue$Search", "script", "LGoalsInAQueue$Script;", true)
  | 1 => ("GoalsInAQueue$Search", "unifier", "LGoalsInAQueue$Unifier;", true)
  | 2 => ("GoalsInAQueue$Search", "waiting", "[LGoalsInAQueue$State;", true)
  | 3 => ("GoalsInAQueue$Search", "answered", "[LGoalsInAQueue$State;", true)
  | 4 => ("GoalsInAQueue$Search", "answeredAt", "[I", true)
  | 5 => ("GoalsInAQueue$Search", "now", "LGoalsInAQueue$State;", true)
  | 6 => ("GoalsInAQueue$Search", "branch", "LGoalsInAQueue$State;", true)
  | 7 => ("GoalsInAQueue$Search", "head", "I", false)
  | 8 => ("GoalsInAQueue$Search", "size", "I", false)
  | 9 => ("GoalsInAQueue$Search", "step", "I", false)
  | 10 => ("GoalsInAQueue$Search", "found", "I", false)
  | 11 => ("GoalsInAQueue$Search", "lost", "I", false)
  | _ => ("GoalsInAQueue$Search", "most", "I", false)
def tyX4 : Nat → FieldType := fun k => match k with
  | 0 => .object "GoalsInAQueue$Script"
  | 1 => .object "GoalsInAQueue$Unifier"
  | 2 => .array (.object "GoalsInAQueue$State")
  | 3 => .array (.object "GoalsInAQueue$State")
  | 4 => .array .int
  | 5 => .object "GoalsInAQueue$State"
  | 6 => .object "GoalsInAQueue$State"
  | 7 => .int
  | 8 => .int
  | 9 => .int
  | 10 => .int
  | 11 => .int
  | _ => .int
theorem nmX4 : ∀ a, a < 13 → ∀ b, b < 13 → a ≠ b → (TX4 a).2.1 ≠ (TX4 b).2.1 := by decide +kernel
theorem tyX4_ok : ∀ k, k < 13 → parseFieldDescriptor (TX4 k).2.2.1 = some (tyX4 k) := by decide +kernel
def RX5 : String := "GoalsInAQueue$State"
def TX5 : u_T := fun k => match k with
  | 0 => ("GoalsInAQueue$State", "bindings", "[I", true)
  | 1 => ("GoalsInAQueue$State", "todo", "[I", true)
  | 2 => ("GoalsInAQueue$State", "variables", "I", false)
  | 3 => ("GoalsInAQueue$State", "todos", "I", false)
  | _ => ("GoalsInAQueue$State", "kept", "I", false)
def tyX5 : Nat → FieldType := fun k => match k with
  | 0 => .array .int
  | 1 => .array .int
  | 2 => .int
  | 3 => .int
  | _ => .int
theorem nmX5 : ∀ a, a < 5 → ∀ b, b < 5 → a ≠ b → (TX5 a).2.1 ≠ (TX5 b).2.1 := by decide +kernel
theorem tyX5_ok : ∀ k, k < 5 → parseFieldDescriptor (TX5 k).2.2.1 = some (tyX5 k) := by decide +kernel
def RX6 : String := "GoalsInAQueue$Teller"
def TX6 : u_T := fun k => match k with
  | 0 => ("GoalsInAQueue$Teller", "signs", "[I", true)
  | 1 => ("GoalsInAQueue$Teller", "waiting", "[I", true)
  | 2 => ("GoalsInAQueue$Teller", "names", "[I", true)
  | 3 => ("GoalsInAQueue$Teller", "size", "I", false)
  | 4 => ("GoalsInAQueue$Teller", "waits", "I", false)
  | _ => ("GoalsInAQueue$Teller", "opens", "I", false)
def tyX6 : Nat → FieldType := fun k => match k with
  | 0 => .array .int
  | 1 => .array .int
  | 2 => .array .int
  | 3 => .int
  | 4 => .int
  | _ => .int
theorem nmX6 : ∀ a, a < 6 → ∀ b, b < 6 → a ≠ b → (TX6 a).2.1 ≠ (TX6 b).2.1 := by decide +kernel
theorem tyX6_ok : ∀ k, k < 6 → parseFieldDescriptor (TX6 k).2.2.1 = some (tyX6 k) := by decide +kernel
def RX7 : String := "GoalsInAQueue$Unifier"
def TX7 : u_T := fun k => match k with
  | 0 => ("GoalsInAQueue$Unifier", "waiting", "[I", true)
  | 1 => ("GoalsInAQueue$Unifier", "seeking", "[I", true)
  | 2 => ("GoalsInAQueue$Unifier", "bound", "[I", true)
  | 3 => ("GoalsInAQueue$Unifier", "seen", "[I", true)
  | 4 => ("GoalsInAQueue$Unifier", "looks", "I", false)
  | 5 => ("GoalsInAQueue$Unifier", "waits", "I", false)
  | _ => ("GoalsInAQueue$Unifier", "bounds", "I", false)
def tyX7 : Nat → FieldType := fun k => match k with
  | 0 => .array .int
  | 1 => .array .int
  | 2 => .array .int
  | 3 => .array .int
  | 4 => .int
  | 5 => .int
  | _ => .int
theorem nmX7 : ∀ a, a < 7 → ∀ b, b < 7 → a ≠ b → (TX7 a).2.1 ≠ (TX7 b).2.1 := by decide +kernel
theorem tyX7_ok : ∀ k, k < 7 → parseFieldDescriptor (TX7 k).2.2.1 = some (tyX7 k) := by decide +kernel
def RX8 : String := "GoalsInAQueue"
def TX8 : u_T := fun k => match k with
  | 0 => ("GoalsInAQueue", "search", "LGoalsInAQueue$Search;", true)
  | 1 => ("GoalsInAQueue", "mind", "LGoalsInAQueue$Search;", true)
  | 2 => ("GoalsInAQueue", "taken", "LGoalsInAQueue$Search;", true)
  | 3 => ("GoalsInAQueue", "unifier", "LGoalsInAQueue$Unifier;", true)
  | 4 => ("GoalsInAQueue", "reader", "LGoalsInAQueue$Reader;", true)
  | 5 => ("GoalsInAQueue", "teller", "LGoalsInAQueue$Teller;", true)
  | 6 => ("GoalsInAQueue", "draws", "LGoalsInAQueue$Draws;", true)
  | 7 => ("GoalsInAQueue", "letters", "LGoalsInAQueue$Row;", true)
  | 8 => ("GoalsInAQueue", "numbers", "LGoalsInAQueue$Row;", true)
  | 9 => ("GoalsInAQueue", "refusals", "[I", true)
  | 10 => ("GoalsInAQueue", "bothBindings", "[I", true)
  | 11 => ("GoalsInAQueue", "texts", "[[I", true)
  | 12 => ("GoalsInAQueue", "textSizes", "[I", true)
  | _ => ("GoalsInAQueue", "isTaken", "Z", false)
def tyX8 : Nat → FieldType := fun k => match k with
  | 0 => .object "GoalsInAQueue$Search"
  | 1 => .object "GoalsInAQueue$Search"
  | 2 => .object "GoalsInAQueue$Search"
  | 3 => .object "GoalsInAQueue$Unifier"
  | 4 => .object "GoalsInAQueue$Reader"
  | 5 => .object "GoalsInAQueue$Teller"
  | 6 => .object "GoalsInAQueue$Draws"
  | 7 => .object "GoalsInAQueue$Row"
  | 8 => .object "GoalsInAQueue$Row"
  | 9 => .array .int
  | 10 => .array .int
  | 11 => .array (.array .int)
  | 12 => .array .int
  | _ => .boolean
theorem nmX8 : ∀ a, a < 14 → ∀ b, b < 14 → a ≠ b → (TX8 a).2.1 ≠ (TX8 b).2.1 := by decide +kernel
theorem tyX8_ok : ∀ k, k < 14 → parseFieldDescriptor (TX8 k).2.2.1 = some (tyX8 k) := by decide +kernel
def RX9 : String := "GoalsInAQueueModel"
def TX9 : u_T := fun k => match k with
  | 0 => ("GoalsInAQueueModel", "refused", "[I", true)
  | 1 => ("GoalsInAQueueModel", "left", "[I", true)
  | 2 => ("GoalsInAQueueModel", "right", "[I", true)
  | 3 => ("GoalsInAQueueModel", "sign", "[I", true)
  | 4 => ("GoalsInAQueueModel", "one", "[I", true)
  | 5 => ("GoalsInAQueueModel", "two", "[I", true)
  | 6 => ("GoalsInAQueueModel", "three", "[I", true)
  | 7 => ("GoalsInAQueueModel", "first", "[I", true)
  | 8 => ("GoalsInAQueueModel", "second", "[I", true)
  | 9 => ("GoalsInAQueueModel", "rest", "[I", true)
  | 10 => ("GoalsInAQueueModel", "terms", "I", false)
  | 11 => ("GoalsInAQueueModel", "goals", "I", false)
  | 12 => ("GoalsInAQueueModel", "lists", "I", false)
  | 13 => ("GoalsInAQueueModel", "bound", "[I", true)
  | 14 => ("GoalsInAQueueModel", "trail", "[I", true)
  | 15 => ("GoalsInAQueueModel", "pile", "[I", true)
  | 16 => ("GoalsInAQueueModel", "trails", "I", false)
  | 17 => ("GoalsInAQueueModel", "piled", "I", false)
  | 18 => ("GoalsInAQueueModel", "toDo", "I", false)
  | 19 => ("GoalsInAQueueModel", "keeps", "I", false)
  | 20 => ("GoalsInAQueueModel", "fresh", "I", false)
  | 21 => ("GoalsInAQueueModel", "search", "I", false)
  | 22 => ("GoalsInAQueueModel", "slotBound", "[I", true)
  | 23 => ("GoalsInAQueueModel", "slotDo", "[I", true)
  | 24 => ("GoalsInAQueueModel", "slotKeeps", "[I", true)
  | 25 => ("GoalsInAQueueModel", "slotFresh", "[I", true)
  | 26 => ("GoalsInAQueueModel", "answerBound", "[I", true)
  | 27 => ("GoalsInAQueueModel", "answerWhen", "[I", true)
  | 28 => ("GoalsInAQueueModel", "answerKeeps", "[I", true)
  | 29 => ("GoalsInAQueueModel", "head", "[I", true)
  | 30 => ("GoalsInAQueueModel", "waiting", "[I", true)
  | 31 => ("GoalsInAQueueModel", "answers", "[I", true)
  | 32 => ("GoalsInAQueueModel", "step", "[I", true)
  | 33 => ("GoalsInAQueueModel", "lost", "[I", true)
  | 34 => ("GoalsInAQueueModel", "most", "[I", true)
  | 35 => ("GoalsInAQueueModel", "tape", "[I", true)
  | 36 => ("GoalsInAQueueModel", "goalText", "[I", true)
  | 37 => ("GoalsInAQueueModel", "imageText", "[I", true)
  | 38 => ("GoalsInAQueueModel", "awaited", "[I", true)
  | 39 => ("GoalsInAQueueModel", "taped", "I", false)
  | 40 => ("GoalsInAQueueModel", "goalMany", "I", false)
  | 41 => ("GoalsInAQueueModel", "imageMany", "I", false)
  | 42 => ("GoalsInAQueueModel", "imageStep", "I", false)
  | 43 => ("GoalsInAQueueModel", "reading", "I", false)
  | 44 => ("GoalsInAQueueModel", "badAt", "I", false)
  | 45 => ("GoalsInAQueueModel", "goalsTold", "I", false)
  | 46 => ("GoalsInAQueueModel", "termsTold", "I", false)
  | 47 => ("GoalsInAQueueModel", "theGoal", "I", false)
  | 48 => ("GoalsInAQueueModel", "hasImage", "Z", false)
  | 49 => ("GoalsInAQueueModel", "text", "[I", true)
  | 50 => ("GoalsInAQueueModel", "named", "[I", true)
  | 51 => ("GoalsInAQueueModel", "written", "I", false)
  | 52 => ("GoalsInAQueueModel", "names", "I", false)
  | 53 => ("GoalsInAQueueModel", "other", "[I", true)
  | 54 => ("GoalsInAQueueModel", "termsWere", "I", false)
  | 55 => ("GoalsInAQueueModel", "goalsWere", "I", false)
  | 56 => ("GoalsInAQueueModel", "listsWere", "I", false)
  | 57 => ("GoalsInAQueueModel", "row", "[I", true)
  | 58 => ("GoalsInAQueueModel", "rowMany", "I", false)
  | _ => ("GoalsInAQueueModel", "lots", "I", false)
def tyX9 : Nat → FieldType := fun k => match k with
  | 0 => .array .int
  | 1 => .array .int
  | 2 => .array .int
  | 3 => .array .int
  | 4 => .array .int
  | 5 => .array .int
  | 6 => .array .int
  | 7 => .array .int
  | 8 => .array .int
  | 9 => .array .int
  | 10 => .int
  | 11 => .int
  | 12 => .int
  | 13 => .array .int
  | 14 => .array .int
  | 15 => .array .int
  | 16 => .int
  | 17 => .int
  | 18 => .int
  | 19 => .int
  | 20 => .int
  | 21 => .int
  | 22 => .array .int
  | 23 => .array .int
  | 24 => .array .int
  | 25 => .array .int
  | 26 => .array .int
  | 27 => .array .int
  | 28 => .array .int
  | 29 => .array .int
  | 30 => .array .int
  | 31 => .array .int
  | 32 => .array .int
  | 33 => .array .int
  | 34 => .array .int
  | 35 => .array .int
  | 36 => .array .int
  | 37 => .array .int
  | 38 => .array .int
  | 39 => .int
  | 40 => .int
  | 41 => .int
  | 42 => .int
  | 43 => .int
  | 44 => .int
  | 45 => .int
  | 46 => .int
  | 47 => .int
  | 48 => .boolean
  | 49 => .array .int
  | 50 => .array .int
  | 51 => .int
  | 52 => .int
  | 53 => .array .int
  | 54 => .int
  | 55 => .int
  | 56 => .int
  | 57 => .array .int
  | 58 => .int
  | _ => .int
theorem nmX9 : ∀ a, a < 60 → ∀ b, b < 60 → a ≠ b → (TX9 a).2.1 ≠ (TX9 b).2.1 := by decide +kernel
theorem tyX9_ok : ∀ k, k < 60 → parseFieldDescriptor (TX9 k).2.2.1 = some (tyX9 k) := by decide +kernel
abbrev rCl : List vw_C := [(RX0, TX0, 1), (RX1, TX1, 8), (RX2, TX2, 2), (RX3, TX3, 9), (RX4, TX4, 13), (RX5, TX5, 5), (RX6, TX6, 6), (RX7, TX7, 7), (RX8, TX8, 14), (RX9, TX9, 60)]
def rCn (n : Nat) : String := (["GoalsInAQueue$Draws", "GoalsInAQueue$Reader", "GoalsInAQueue$Row", "GoalsInAQueue$Script", "GoalsInAQueue$Search", "GoalsInAQueue$State", "GoalsInAQueue$Teller", "GoalsInAQueue$Unifier", "GoalsInAQueue", "GoalsInAQueueModel", "GoalsInAQueueLaw", "java/lang/Integer", "java/lang/Math", "java/util/Arrays", "java/lang/System"] : List String).getD n ""
