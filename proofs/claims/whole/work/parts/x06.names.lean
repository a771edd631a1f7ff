/-! NAMES: the classes, their fields (out of claim/NAMES.whole.lean.txt); the methods by number (written by wip/tools/gennames.py) -/
def RX0 : String := "BestMenDuel$Bout"
def TX0 : u_T := fun k => match k with
  | 0 => ("BestMenDuel$Bout", "life", "[I", true)
  | 1 => ("BestMenDuel$Bout", "spared", "[I", true)
  | 2 => ("BestMenDuel$Bout", "most", "[I", true)
  | 3 => ("BestMenDuel$Bout", "strength", "[I", true)
  | 4 => ("BestMenDuel$Bout", "reach", "[I", true)
  | 5 => ("BestMenDuel$Bout", "weight", "[I", true)
  | 6 => ("BestMenDuel$Bout", "bears", "[I", true)
  | 7 => ("BestMenDuel$Bout", "cell", "[I", true)
  | 8 => ("BestMenDuel$Bout", "length", "I", false)
  | 9 => ("BestMenDuel$Bout", "sun", "I", false)
  | 10 => ("BestMenDuel$Bout", "glare", "I", false)
  | 11 => ("BestMenDuel$Bout", "time", "I", false)
  | _ => ("BestMenDuel$Bout", "took", "I", false)
def tyX0 : Nat → FieldType := fun k => match k with
  | 0 => .array .int
  | 1 => .array .int
  | 2 => .array .int
  | 3 => .array .int
  | 4 => .array .int
  | 5 => .array .int
  | 6 => .array .int
  | 7 => .array .int
  | 8 => .int
  | 9 => .int
  | 10 => .int
  | 11 => .int
  | _ => .int
abbrev wsX00 : List Cond := u_ws RX0 TX0 13
theorem nmX0 : ∀ a, a < 13 → ∀ b, b < 13 → a ≠ b → (TX0 a).2.1 ≠ (TX0 b).2.1 := by decide +kernel
theorem tyX0_ok : ∀ k, k < 13 → parseFieldDescriptor (TX0 k).2.2.1 = some (tyX0 k) := by decide +kernel
def RX1 : String := "BestMenDuel$Dawn"
def TX1 : u_T := fun k => match k with
  | 0 => ("BestMenDuel$Dawn", "things", "I", false)
  | 1 => ("BestMenDuel$Dawn", "men", "I", false)
  | 2 => ("BestMenDuel$Dawn", "rules", "[I", true)
  | 3 => ("BestMenDuel$Dawn", "reach", "[I", true)
  | 4 => ("BestMenDuel$Dawn", "weight", "[I", true)
  | 5 => ("BestMenDuel$Dawn", "breaks", "[I", true)
  | 6 => ("BestMenDuel$Dawn", "worn", "[I", true)
  | 7 => ("BestMenDuel$Dawn", "strength", "[I", true)
  | 8 => ("BestMenDuel$Dawn", "life", "[I", true)
  | 9 => ("BestMenDuel$Dawn", "most", "[I", true)
  | 10 => ("BestMenDuel$Dawn", "held", "[I", true)
  | 11 => ("BestMenDuel$Dawn", "wins", "[I", true)
  | 12 => ("BestMenDuel$Dawn", "thingNames", "[J", true)
  | 13 => ("BestMenDuel$Dawn", "manNames", "[J", true)
  | 14 => ("BestMenDuel$Dawn", "first", "I", false)
  | 15 => ("BestMenDuel$Dawn", "second", "I", false)
  | 16 => ("BestMenDuel$Dawn", "firstCell", "I", false)
  | 17 => ("BestMenDuel$Dawn", "secondCell", "I", false)
  | 18 => ("BestMenDuel$Dawn", "time", "I", false)
  | _ => ("BestMenDuel$Dawn", "years", "LBestMenDuel$Years;", true)
def tyX1 : Nat → FieldType := fun k => match k with
  | 0 => .int
  | 1 => .int
  | 2 => .array .int
  | 3 => .array .int
  | 4 => .array .int
  | 5 => .array .int
  | 6 => .array .int
  | 7 => .array .int
  | 8 => .array .int
  | 9 => .array .int
  | 10 => .array .int
  | 11 => .array .int
  | 12 => .array .long
  | 13 => .array .long
  | 14 => .int
  | 15 => .int
  | 16 => .int
  | 17 => .int
  | 18 => .int
  | _ => .object "BestMenDuel$Years"
abbrev wsX10 : List Cond := u_ws RX1 TX1 20
theorem nmX1 : ∀ a, a < 20 → ∀ b, b < 20 → a ≠ b → (TX1 a).2.1 ≠ (TX1 b).2.1 := by decide +kernel
theorem tyX1_ok : ∀ k, k < 20 → parseFieldDescriptor (TX1 k).2.2.1 = some (tyX1 k) := by decide +kernel
def RX2 : String := "BestMenDuel$DawnReader"
def TX2 : u_T := fun k => match k with
  | 0 => ("BestMenDuel$DawnReader", "tokens", "LBestMenDuel$Tokens;", true)
  | 1 => ("BestMenDuel$DawnReader", "dawn", "LBestMenDuel$Dawn;", false)
  | _ => ("BestMenDuel$DawnReader", "rulesTold", "I", false)
def tyX2 : Nat → FieldType := fun k => match k with
  | 0 => .object "BestMenDuel$Tokens"
  | 1 => .object "BestMenDuel$Dawn"
  | _ => .int
abbrev wsX20 : List Cond := u_ws RX2 TX2 3
theorem nmX2 : ∀ a, a < 3 → ∀ b, b < 3 → a ≠ b → (TX2 a).2.1 ≠ (TX2 b).2.1 := by decide +kernel
theorem tyX2_ok : ∀ k, k < 3 → parseFieldDescriptor (TX2 k).2.2.1 = some (tyX2 k) := by decide +kernel
def RX3 : String := "BestMenDuel$Gifts"
def TX3 : u_T := fun k => match k with
  | 0 => ("BestMenDuel$Gifts", "best", "[I", true)
  | 1 => ("BestMenDuel$Gifts", "fewest", "I", false)
  | 2 => ("BestMenDuel$Gifts", "tried", "[I", true)
  | 3 => ("BestMenDuel$Gifts", "blows", "[I", true)
  | 4 => ("BestMenDuel$Gifts", "men", "I", false)
  | 5 => ("BestMenDuel$Gifts", "things", "I", false)
  | _ => ("BestMenDuel$Gifts", "set", "I", false)
def tyX3 : Nat → FieldType := fun k => match k with
  | 0 => .array .int
  | 1 => .int
  | 2 => .array .int
  | 3 => .array .int
  | 4 => .int
  | 5 => .int
  | _ => .int
abbrev wsX30 : List Cond := u_ws RX3 TX3 7
theorem nmX3 : ∀ a, a < 7 → ∀ b, b < 7 → a ≠ b → (TX3 a).2.1 ≠ (TX3 b).2.1 := by decide +kernel
theorem tyX3_ok : ∀ k, k < 7 → parseFieldDescriptor (TX3 k).2.2.1 = some (tyX3 k) := by decide +kernel
def RX4 : String := "BestMenDuel$Living"
def TX4 : u_T := fun k => match k with
  | 0 => ("BestMenDuel$Living", "bout", "LBestMenDuel$Bout;", true)
  | 1 => ("BestMenDuel$Living", "chance", "I", false)
  | 2 => ("BestMenDuel$Living", "ran", "Z", false)
  | 3 => ("BestMenDuel$Living", "steps", "I", false)
  | 4 => ("BestMenDuel$Living", "missed", "I", false)
  | 5 => ("BestMenDuel$Living", "acted", "I", false)
  | 6 => ("BestMenDuel$Living", "fell", "I", false)
  | 7 => ("BestMenDuel$Living", "taken", "I", false)
  | _ => ("BestMenDuel$Living", "cut", "Z", false)
def tyX4 : Nat → FieldType := fun k => match k with
  | 0 => .object "BestMenDuel$Bout"
  | 1 => .int
  | 2 => .boolean
  | 3 => .int
  | 4 => .int
  | 5 => .int
  | 6 => .int
  | 7 => .int
  | _ => .boolean
abbrev wsX40 : List Cond := u_ws RX4 TX4 9
theorem nmX4 : ∀ a, a < 9 → ∀ b, b < 9 → a ≠ b → (TX4 a).2.1 ≠ (TX4 b).2.1 := by decide +kernel
theorem tyX4_ok : ∀ k, k < 9 → parseFieldDescriptor (TX4 k).2.2.1 = some (tyX4 k) := by decide +kernel
def RX5 : String := "BestMenDuel$Order"
def TX5 : u_T := fun k => match k with
  | 0 => ("BestMenDuel$Order", "best", "[I", true)
  | 1 => ("BestMenDuel$Order", "fewest", "I", false)
  | _ => ("BestMenDuel$Order", "tried", "[I", true)
def tyX5 : Nat → FieldType := fun k => match k with
  | 0 => .array .int
  | 1 => .int
  | _ => .array .int
abbrev wsX50 : List Cond := u_ws RX5 TX5 3
theorem nmX5 : ∀ a, a < 3 → ∀ b, b < 3 → a ≠ b → (TX5 a).2.1 ≠ (TX5 b).2.1 := by decide +kernel
theorem tyX5_ok : ∀ k, k < 3 → parseFieldDescriptor (TX5 k).2.2.1 = some (tyX5 k) := by decide +kernel
def RX7 : String := "BestMenDuel$Tokens"
def TX7 : u_T := fun k => match k with
  | 0 => ("BestMenDuel$Tokens", "text", "[B", true)
  | 1 => ("BestMenDuel$Tokens", "reserved", "[J", true)
  | 2 => ("BestMenDuel$Tokens", "kinds", "[B", true)
  | 3 => ("BestMenDuel$Tokens", "starts", "[S", true)
  | 4 => ("BestMenDuel$Tokens", "values", "[J", true)
  | 5 => ("BestMenDuel$Tokens", "length", "I", false)
  | 6 => ("BestMenDuel$Tokens", "many", "I", false)
  | 7 => ("BestMenDuel$Tokens", "next", "I", false)
  | 8 => ("BestMenDuel$Tokens", "start", "I", false)
  | 9 => ("BestMenDuel$Tokens", "kind", "I", false)
  | 10 => ("BestMenDuel$Tokens", "word", "I", false)
  | 11 => ("BestMenDuel$Tokens", "value", "J", false)
  | 12 => ("BestMenDuel$Tokens", "fault", "I", false)
  | _ => ("BestMenDuel$Tokens", "place", "I", false)
def tyX7 : Nat → FieldType := fun k => match k with
  | 0 => .array .byte
  | 1 => .array .long
  | 2 => .array .byte
  | 3 => .array .short
  | 4 => .array .long
  | 5 => .int
  | 6 => .int
  | 7 => .int
  | 8 => .int
  | 9 => .int
  | 10 => .int
  | 11 => .long
  | 12 => .int
  | _ => .int
abbrev wsX70 : List Cond := u_ws RX7 TX7 14
theorem nmX7 : ∀ a, a < 14 → ∀ b, b < 14 → a ≠ b → (TX7 a).2.1 ≠ (TX7 b).2.1 := by decide +kernel
theorem tyX7_ok : ∀ k, k < 14 → parseFieldDescriptor (TX7 k).2.2.1 = some (tyX7 k) := by decide +kernel
def RX8 : String := "BestMenDuel$Trays"
def TX8 : u_T := fun k => match k with
  | 0 => ("BestMenDuel$Trays", "rows", "[[J", true)
  | 1 => ("BestMenDuel$Trays", "sorts", "[I", true)
  | _ => ("BestMenDuel$Trays", "sizes", "[I", true)
def tyX8 : Nat → FieldType := fun k => match k with
  | 0 => .array (.array .long)
  | 1 => .array .int
  | _ => .array .int
abbrev wsX80 : List Cond := u_ws RX8 TX8 3
theorem nmX8 : ∀ a, a < 3 → ∀ b, b < 3 → a ≠ b → (TX8 a).2.1 ≠ (TX8 b).2.1 := by decide +kernel
theorem tyX8_ok : ∀ k, k < 3 → parseFieldDescriptor (TX8 k).2.2.1 = some (tyX8 k) := by decide +kernel
def RX9 : String := "BestMenDuel$Years"
def TX9 : u_T := fun k => match k with
  | 0 => ("BestMenDuel$Years", "there", "Z", false)
  | 1 => ("BestMenDuel$Years", "steps", "I", false)
  | 2 => ("BestMenDuel$Years", "word", "[I", true)
  | 3 => ("BestMenDuel$Years", "test", "[I", true)
  | 4 => ("BestMenDuel$Years", "compare", "[I", true)
  | 5 => ("BestMenDuel$Years", "who", "[I", true)
  | 6 => ("BestMenDuel$Years", "other", "[I", true)
  | 7 => ("BestMenDuel$Years", "number", "[I", true)
  | _ => ("BestMenDuel$Years", "behind", "[I", true)
def tyX9 : Nat → FieldType := fun k => match k with
  | 0 => .boolean
  | 1 => .int
  | 2 => .array .int
  | 3 => .array .int
  | 4 => .array .int
  | 5 => .array .int
  | 6 => .array .int
  | 7 => .array .int
  | _ => .array .int
abbrev wsX90 : List Cond := u_ws RX9 TX9 9
theorem nmX9 : ∀ a, a < 9 → ∀ b, b < 9 → a ≠ b → (TX9 a).2.1 ≠ (TX9 b).2.1 := by decide +kernel
theorem tyX9_ok : ∀ k, k < 9 → parseFieldDescriptor (TX9 k).2.2.1 = some (tyX9 k) := by decide +kernel
def RX10 : String := "BestMenDuel$YearsReader"
def TX10 : u_T := fun k => match k with
  | 0 => ("BestMenDuel$YearsReader", "tokens", "LBestMenDuel$Tokens;", true)
  | 1 => ("BestMenDuel$YearsReader", "opened", "[I", true)
  | 2 => ("BestMenDuel$YearsReader", "dawn", "LBestMenDuel$Dawn;", false)
  | 3 => ("BestMenDuel$YearsReader", "years", "LBestMenDuel$Years;", false)
  | _ => ("BestMenDuel$YearsReader", "depth", "I", false)
def tyX10 : Nat → FieldType := fun k => match k with
  | 0 => .object "BestMenDuel$Tokens"
  | 1 => .array .int
  | 2 => .object "BestMenDuel$Dawn"
  | 3 => .object "BestMenDuel$Years"
  | _ => .int
abbrev wsX100 : List Cond := u_ws RX10 TX10 5
theorem nmX10 : ∀ a, a < 5 → ∀ b, b < 5 → a ≠ b → (TX10 a).2.1 ≠ (TX10 b).2.1 := by decide +kernel
theorem tyX10_ok : ∀ k, k < 5 → parseFieldDescriptor (TX10 k).2.2.1 = some (tyX10 k) := by decide +kernel
def RX11 : String := "BestMenDuel"
def TX11 : u_T := fun k => match k with
  | 0 => ("BestMenDuel", "trays", "LBestMenDuel$Trays;", true)
  | 1 => ("BestMenDuel", "tape", "[B", true)
  | 2 => ("BestMenDuel", "tokens", "LBestMenDuel$Tokens;", true)
  | 3 => ("BestMenDuel", "dawnReader", "LBestMenDuel$DawnReader;", true)
  | 4 => ("BestMenDuel", "yearsReader", "LBestMenDuel$YearsReader;", true)
  | 5 => ("BestMenDuel", "dawn", "LBestMenDuel$Dawn;", true)
  | 6 => ("BestMenDuel", "draft", "LBestMenDuel$Dawn;", true)
  | 7 => ("BestMenDuel", "marks", "[LBestMenDuel$Dawn;", true)
  | 8 => ("BestMenDuel", "bout", "LBestMenDuel$Bout;", true)
  | 9 => ("BestMenDuel", "gifts", "LBestMenDuel$Gifts;", true)
  | 10 => ("BestMenDuel", "leastOrder", "LBestMenDuel$Order;", true)
  | 11 => ("BestMenDuel", "latest", "LBestMenDuel$Living;", true)
  | 12 => ("BestMenDuel", "trial", "LBestMenDuel$Living;", true)
  | 13 => ("BestMenDuel", "marked", "I", false)
  | 14 => ("BestMenDuel", "taped", "I", false)
  | 15 => ("BestMenDuel", "status", "I", false)
  | 16 => ("BestMenDuel", "fault", "I", false)
  | 17 => ("BestMenDuel", "faultPlace", "I", false)
  | 18 => ("BestMenDuel", "top", "J", false)
  | _ => ("BestMenDuel", "bottom", "J", false)
def tyX11 : Nat → FieldType := fun k => match k with
  | 0 => .object "BestMenDuel$Trays"
  | 1 => .array .byte
  | 2 => .object "BestMenDuel$Tokens"
  | 3 => .object "BestMenDuel$DawnReader"
  | 4 => .object "BestMenDuel$YearsReader"
  | 5 => .object "BestMenDuel$Dawn"
  | 6 => .object "BestMenDuel$Dawn"
  | 7 => .array (.object "BestMenDuel$Dawn")
  | 8 => .object "BestMenDuel$Bout"
  | 9 => .object "BestMenDuel$Gifts"
  | 10 => .object "BestMenDuel$Order"
  | 11 => .object "BestMenDuel$Living"
  | 12 => .object "BestMenDuel$Living"
  | 13 => .int
  | 14 => .int
  | 15 => .int
  | 16 => .int
  | 17 => .int
  | 18 => .long
  | _ => .long
abbrev wsX110 : List Cond := u_ws RX11 TX11 20
theorem nmX11 : ∀ a, a < 20 → ∀ b, b < 20 → a ≠ b → (TX11 a).2.1 ≠ (TX11 b).2.1 := by decide +kernel
theorem tyX11_ok : ∀ k, k < 20 → parseFieldDescriptor (TX11 k).2.2.1 = some (tyX11 k) := by decide +kernel
def RX12 : String := "BestMenDuelModel"
def TX12 : u_T := fun k => match k with
  | 0 => ("BestMenDuelModel", "at", "[I", true)
  | 1 => ("BestMenDuelModel", "names", "[J", true)
  | 2 => ("BestMenDuelModel", "status", "I", false)
  | 3 => ("BestMenDuelModel", "top", "J", false)
  | 4 => ("BestMenDuelModel", "bottom", "J", false)
  | 5 => ("BestMenDuelModel", "sort", "[I", true)
  | 6 => ("BestMenDuelModel", "trayMany", "[I", true)
  | 7 => ("BestMenDuelModel", "trays", "[J", true)
  | 8 => ("BestMenDuelModel", "tape", "[B", true)
  | 9 => ("BestMenDuelModel", "text", "[B", true)
  | 10 => ("BestMenDuelModel", "taped", "I", false)
  | 11 => ("BestMenDuelModel", "size", "I", false)
  | 12 => ("BestMenDuelModel", "token", "I", false)
  | 13 => ("BestMenDuelModel", "from", "I", false)
  | 14 => ("BestMenDuelModel", "end", "I", false)
  | 15 => ("BestMenDuelModel", "value", "I", false)
  | 16 => ("BestMenDuelModel", "faultKind", "I", false)
  | 17 => ("BestMenDuelModel", "faultPlace", "I", false)
  | 18 => ("BestMenDuelModel", "faults", "I", false)
  | 19 => ("BestMenDuelModel", "seen", "I", false)
  | 20 => ("BestMenDuelModel", "toldParts", "I", false)
  | 21 => ("BestMenDuelModel", "opened", "[I", true)
  | 22 => ("BestMenDuelModel", "depth", "I", false)
  | 23 => ("BestMenDuelModel", "counted", "I", false)
  | 24 => ("BestMenDuelModel", "tried", "[I", true)
  | 25 => ("BestMenDuelModel", "best", "[I", true)
  | 26 => ("BestMenDuelModel", "bestAct", "[I", true)
  | 27 => ("BestMenDuelModel", "fairest", "[I", true)
  | 28 => ("BestMenDuelModel", "leastFrom", "[I", true)
  | 29 => ("BestMenDuelModel", "hitsBy", "[J", true)
  | 30 => ("BestMenDuelModel", "heldBy", "[I", true)
  | 31 => ("BestMenDuelModel", "fell", "I", false)
  | 32 => ("BestMenDuelModel", "hurtsBy", "[I", true)
  | 33 => ("BestMenDuelModel", "drawn", "I", false)
  | 34 => ("BestMenDuelModel", "ranSteps", "I", false)
  | 35 => ("BestMenDuelModel", "loops", "[I", true)
  | 36 => ("BestMenDuelModel", "ran", "[I", true)
  | 37 => ("BestMenDuelModel", "told1", "[I", true)
  | 38 => ("BestMenDuelModel", "isTold", "Z", false)
  | _ => ("BestMenDuelModel", "marks", "I", false)
def tyX12 : Nat → FieldType := fun k => match k with
  | 0 => .array .int
  | 1 => .array .long
  | 2 => .int
  | 3 => .long
  | 4 => .long
  | 5 => .array .int
  | 6 => .array .int
  | 7 => .array .long
  | 8 => .array .byte
  | 9 => .array .byte
  | 10 => .int
  | 11 => .int
  | 12 => .int
  | 13 => .int
  | 14 => .int
  | 15 => .int
  | 16 => .int
  | 17 => .int
  | 18 => .int
  | 19 => .int
  | 20 => .int
  | 21 => .array .int
  | 22 => .int
  | 23 => .int
  | 24 => .array .int
  | 25 => .array .int
  | 26 => .array .int
  | 27 => .array .int
  | 28 => .array .int
  | 29 => .array .long
  | 30 => .array .int
  | 31 => .int
  | 32 => .array .int
  | 33 => .int
  | 34 => .int
  | 35 => .array .int
  | 36 => .array .int
  | 37 => .array .int
  | 38 => .boolean
  | _ => .int
abbrev wsX120 : List Cond := u_ws RX12 TX12 40
theorem nmX12 : ∀ a, a < 40 → ∀ b, b < 40 → a ≠ b → (TX12 a).2.1 ≠ (TX12 b).2.1 := by decide +kernel
theorem tyX12_ok : ∀ k, k < 40 → parseFieldDescriptor (TX12 k).2.2.1 = some (tyX12 k) := by decide +kernel
abbrev vwCl : List vw_C := [(RX0, TX0, 13), (RX1, TX1, 20), (RX2, TX2, 3), (RX3, TX3, 7), (RX4, TX4, 9), (RX5, TX5, 3), (RX7, TX7, 14), (RX8, TX8, 3), (RX9, TX9, 9), (RX10, TX10, 5), (RX11, TX11, 20), (RX12, TX12, 40)]
abbrev MD : Type := MethodName × ByteArray × Nat × Option FieldType
def metas_0 : List MD := [(⟨"BestMenDuel$Bout", "<init>", "()V"⟩, prog_2_method_1_code, 1, (Option.none : Option Jvm.ClassFile.FieldType)),
  (⟨"BestMenDuel$Bout", "open", "(LBestMenDuel$Dawn;II)V"⟩, prog_2_method_2_code, 4, (Option.none : Option Jvm.ClassFile.FieldType)),
  (⟨"BestMenDuel$Bout", "resume", "(LBestMenDuel$Dawn;)V"⟩, prog_2_method_3_code, 2, (Option.none : Option Jvm.ClassFile.FieldType)),
  (⟨"BestMenDuel$Bout", "enter", "(LBestMenDuel$Dawn;II)V"⟩, prog_2_method_4_code, 7, (Option.none : Option Jvm.ClassFile.FieldType)),
  (⟨"BestMenDuel$Bout", "actsIn", "(LBestMenDuel$Dawn;I)Z"⟩, prog_2_method_5_code, 3, (Option.some Jvm.ClassFile.FieldType.boolean)),
  (⟨"BestMenDuel$Bout", "putBack", "(ILBestMenDuel$Dawn;I)V"⟩, prog_2_method_6_code, 5, (Option.none : Option Jvm.ClassFile.FieldType)),
  (⟨"BestMenDuel$Bout", "mover", "()I"⟩, prog_2_method_7_code, 1, (Option.some Jvm.ClassFile.FieldType.int)),
  (⟨"BestMenDuel$Bout", "over", "()Z"⟩, prog_2_method_8_code, 1, (Option.some Jvm.ClassFile.FieldType.boolean)),
  (⟨"BestMenDuel$Bout", "apart", "()I"⟩, prog_2_method_9_code, 1, (Option.some Jvm.ClassFile.FieldType.int)),
  (⟨"BestMenDuel$Bout", "reachNow", "(I)I"⟩, prog_2_method_10_code, 2, (Option.some Jvm.ClassFile.FieldType.int)),
  (⟨"BestMenDuel$Bout", "hurtBy", "(I)I"⟩, prog_2_method_11_code, 4, (Option.some Jvm.ClassFile.FieldType.int)),
  (⟨"BestMenDuel$Bout", "can", "(I)Z"⟩, prog_2_method_12_code, 3, (Option.some Jvm.ClassFile.FieldType.boolean)),
  (⟨"BestMenDuel$Bout", "countSpared", "(I)V"⟩, prog_2_method_13_code, 2, (Option.none : Option Jvm.ClassFile.FieldType)),
  (⟨"BestMenDuel$Bout", "play", "(I)V"⟩, prog_2_method_14_code, 4, (Option.none : Option Jvm.ClassFile.FieldType)),
  (⟨"BestMenDuel$Bout", "hit", "(I)V"⟩, prog_2_method_15_code, 3, (Option.none : Option Jvm.ClassFile.FieldType)),
  (⟨"BestMenDuel$Bout", "packed", "()J"⟩, prog_2_method_16_code, 3, (Option.some Jvm.ClassFile.FieldType.long)),
  (⟨"BestMenDuel$Bout", "unpack", "(J)V"⟩, prog_2_method_17_code, 3, (Option.none : Option Jvm.ClassFile.FieldType)),
  (⟨"BestMenDuel$Dawn", "<init>", "()V"⟩, prog_3_method_1_code, 1, (Option.none : Option Jvm.ClassFile.FieldType)),
  (⟨"BestMenDuel$Dawn", "clear", "()V"⟩, prog_3_method_2_code, 2, (Option.none : Option Jvm.ClassFile.FieldType)),
  (⟨"BestMenDuel$Dawn", "take", "(LBestMenDuel$Dawn;)V"⟩, prog_3_method_3_code, 2, (Option.none : Option Jvm.ClassFile.FieldType)),
  (⟨"BestMenDuel$Dawn", "addThing", "(JIII)I"⟩, prog_3_method_4_code, 7, (Option.some Jvm.ClassFile.FieldType.int)),
  (⟨"BestMenDuel$Dawn", "addMan", "(JII)I"⟩, prog_3_method_5_code, 6, (Option.some Jvm.ClassFile.FieldType.int)),
  (⟨"BestMenDuel$Dawn", "isThing", "(I)Z"⟩, prog_3_method_6_code, 2, (Option.some Jvm.ClassFile.FieldType.boolean)),
  (⟨"BestMenDuel$Dawn", "isMan", "(I)Z"⟩, prog_3_method_7_code, 2, (Option.some Jvm.ClassFile.FieldType.boolean)),
  (⟨"BestMenDuel$Dawn", "isPair", "(II)Z"⟩, prog_3_method_8_code, 3, (Option.some Jvm.ClassFile.FieldType.boolean)),
  (⟨"BestMenDuel$Dawn", "thingNamed", "(J)I"⟩, prog_3_method_9_code, 4, (Option.some Jvm.ClassFile.FieldType.int)),
  (⟨"BestMenDuel$Dawn", "manNamed", "(J)I"⟩, prog_3_method_10_code, 4, (Option.some Jvm.ClassFile.FieldType.int)),
  (⟨"BestMenDuel$Dawn", "holderOf", "(I)I"⟩, prog_3_method_11_code, 3, (Option.some Jvm.ClassFile.FieldType.int)),
  (⟨"BestMenDuel$Dawn", "isBroken", "(I)Z"⟩, prog_3_method_12_code, 2, (Option.some Jvm.ClassFile.FieldType.boolean)),
  (⟨"BestMenDuel$Dawn", "bearsYet", "(I)I"⟩, prog_3_method_13_code, 2, (Option.some Jvm.ClassFile.FieldType.int)),
  (⟨"BestMenDuel$Dawn", "reachOf", "(I)I"⟩, prog_3_method_14_code, 3, (Option.some Jvm.ClassFile.FieldType.int)),
  (⟨"BestMenDuel$Dawn", "blowOf", "(I)I"⟩, prog_3_method_15_code, 3, (Option.some Jvm.ClassFile.FieldType.int)),
  (⟨"BestMenDuel$Dawn", "brokenSet", "()I"⟩, prog_3_method_16_code, 3, (Option.some Jvm.ClassFile.FieldType.int)),
  (⟨"BestMenDuel$Dawn", "unheldSet", "()I"⟩, prog_3_method_17_code, 3, (Option.some Jvm.ClassFile.FieldType.int)),
  (⟨"BestMenDuel$Dawn", "livingSet", "()I"⟩, prog_3_method_18_code, 3, (Option.some Jvm.ClassFile.FieldType.int)),
  (⟨"BestMenDuel$Dawn", "wonAgainst", "(II)I"⟩, prog_3_method_19_code, 3, (Option.some Jvm.ClassFile.FieldType.int)),
  (⟨"BestMenDuel$Dawn", "addWin", "(Z)V"⟩, prog_3_method_20_code, 4, (Option.none : Option Jvm.ClassFile.FieldType)),
  (⟨"BestMenDuel$Dawn", "wonBy", "(I)I"⟩, prog_3_method_21_code, 4, (Option.some Jvm.ClassFile.FieldType.int)),
  (⟨"BestMenDuel$Dawn", "lostBy", "(I)I"⟩, prog_3_method_22_code, 4, (Option.some Jvm.ClassFile.FieldType.int)),
  (⟨"BestMenDuel$Dawn", "wonInAll", "()I"⟩, prog_3_method_23_code, 3, (Option.some Jvm.ClassFile.FieldType.int)),
  (⟨"BestMenDuel$Dawn", "fighting", "()Z"⟩, prog_3_method_24_code, 1, (Option.some Jvm.ClassFile.FieldType.boolean)),
  (⟨"BestMenDuel$Dawn", "nearness", "()I"⟩, prog_3_method_25_code, 1, (Option.some Jvm.ClassFile.FieldType.int)),
  (⟨"BestMenDuel$Dawn", "begins", "(II)Z"⟩, prog_3_method_26_code, 3, (Option.some Jvm.ClassFile.FieldType.boolean)),
  (⟨"BestMenDuel$Dawn", "endDuel", "()V"⟩, prog_3_method_27_code, 1, (Option.none : Option Jvm.ClassFile.FieldType)),
  (⟨"BestMenDuel$Dawn", "cures", "(II)Z"⟩, prog_3_method_28_code, 3, (Option.some Jvm.ClassFile.FieldType.boolean)),
  (⟨"BestMenDuel$DawnReader", "<init>", "(LBestMenDuel$Tokens;)V"⟩, prog_4_method_1_code, 2, (Option.none : Option Jvm.ClassFile.FieldType)),
  (⟨"BestMenDuel$DawnReader", "takes", "(LBestMenDuel$Dawn;I)Z"⟩, prog_4_method_2_code, 4, (Option.some Jvm.ClassFile.FieldType.boolean)),
  (⟨"BestMenDuel$DawnReader", "takesPart", "()Z"⟩, prog_4_method_3_code, 2, (Option.some Jvm.ClassFile.FieldType.boolean)),
  (⟨"BestMenDuel$DawnReader", "takesRule", "(I)Z"⟩, prog_4_method_4_code, 3, (Option.some Jvm.ClassFile.FieldType.boolean)),
  (⟨"BestMenDuel$DawnReader", "takesThing", "()Z"⟩, prog_4_method_5_code, 6, (Option.some Jvm.ClassFile.FieldType.boolean))]
def metas_1 : List MD := [(⟨"BestMenDuel$DawnReader", "takesMan", "()Z"⟩, prog_4_method_6_code, 6, (Option.some Jvm.ClassFile.FieldType.boolean)),
  (⟨"BestMenDuel$DawnReader", "takesNumber", "(III)I"⟩, prog_4_method_7_code, 4, (Option.some Jvm.ClassFile.FieldType.int)),
  (⟨"BestMenDuel$DawnReader", "takesNewName", "()Z"⟩, prog_4_method_8_code, 4, (Option.some Jvm.ClassFile.FieldType.boolean)),
  (⟨"BestMenDuel$DawnReader", "takesHeld", "(I)Z"⟩, prog_4_method_9_code, 3, (Option.some Jvm.ClassFile.FieldType.boolean)),
  (⟨"BestMenDuel$Gifts", "<init>", "()V"⟩, prog_5_method_1_code, 1, (Option.none : Option Jvm.ClassFile.FieldType)),
  (⟨"BestMenDuel$Gifts", "blowsNeeded", "(LBestMenDuel$Dawn;III)I"⟩, prog_5_method_2_code, 9, (Option.some Jvm.ClassFile.FieldType.int)),
  (⟨"BestMenDuel$Gifts", "bestThing", "(LBestMenDuel$Dawn;II)I"⟩, prog_5_method_3_code, 7, (Option.some Jvm.ClassFile.FieldType.int)),
  (⟨"BestMenDuel$Gifts", "soonestMan", "(LBestMenDuel$Dawn;I)I"⟩, prog_5_method_4_code, 6, (Option.some Jvm.ClassFile.FieldType.int)),
  (⟨"BestMenDuel$Gifts", "fairest", "(LBestMenDuel$Dawn;II)I"⟩, prog_5_method_5_code, 9, (Option.some Jvm.ClassFile.FieldType.int)),
  (⟨"BestMenDuel$Gifts", "differenceOf", "(I)I"⟩, prog_5_method_6_code, 1, (Option.some Jvm.ClassFile.FieldType.int)),
  (⟨"BestMenDuel$Gifts", "firstOf", "(I)I"⟩, prog_5_method_7_code, 1, (Option.some Jvm.ClassFile.FieldType.int)),
  (⟨"BestMenDuel$Gifts", "secondOf", "(I)I"⟩, prog_5_method_8_code, 1, (Option.some Jvm.ClassFile.FieldType.int)),
  (⟨"BestMenDuel$Gifts", "fasterWays", "(LBestMenDuel$Dawn;III)I"⟩, prog_5_method_9_code, 9, (Option.some Jvm.ClassFile.FieldType.int)),
  (⟨"BestMenDuel$Gifts", "waysToHit", "(III)J"⟩, prog_5_method_10_code, 8, (Option.some Jvm.ClassFile.FieldType.long)),
  (⟨"BestMenDuel$Gifts", "power", "(II)J"⟩, prog_5_method_11_code, 5, (Option.some Jvm.ClassFile.FieldType.long)),
  (⟨"BestMenDuel$Gifts", "seekArms", "(LBestMenDuel$Dawn;II)V"⟩, prog_5_method_12_code, 6, (Option.none : Option Jvm.ClassFile.FieldType)),
  (⟨"BestMenDuel$Gifts", "arm", "(LBestMenDuel$Gifts;III)V"⟩, prog_5_method_13_code, 6, (Option.none : Option Jvm.ClassFile.FieldType)),
  (⟨"BestMenDuel$Living", "<init>", "(LBestMenDuel$Bout;)V"⟩, prog_6_method_1_code, 2, (Option.none : Option Jvm.ClassFile.FieldType)),
  (⟨"BestMenDuel$Living", "goThrough", "(LBestMenDuel$Dawn;I)V"⟩, prog_6_method_2_code, 3, (Option.none : Option Jvm.ClassFile.FieldType)),
  (⟨"BestMenDuel$Living", "walk", "(LBestMenDuel$Living;LBestMenDuel$Dawn;III)Z"⟩, prog_6_method_3_code, 11, (Option.some Jvm.ClassFile.FieldType.boolean)),
  (⟨"BestMenDuel$Living", "timesInside", "(LBestMenDuel$Dawn;I)I"⟩, prog_6_method_4_code, 4, (Option.some Jvm.ClassFile.FieldType.int)),
  (⟨"BestMenDuel$Living", "holdsTrue", "(LBestMenDuel$Dawn;I)Z"⟩, prog_6_method_5_code, 4, (Option.some Jvm.ClassFile.FieldType.boolean)),
  (⟨"BestMenDuel$Living", "compares", "(III)Z"⟩, prog_6_method_6_code, 3, (Option.some Jvm.ClassFile.FieldType.boolean)),
  (⟨"BestMenDuel$Living", "step", "(LBestMenDuel$Dawn;I)V"⟩, prog_6_method_7_code, 6, (Option.none : Option Jvm.ClassFile.FieldType)),
  (⟨"BestMenDuel$Living", "countAct", "(Z)V"⟩, prog_6_method_8_code, 2, (Option.none : Option Jvm.ClassFile.FieldType)),
  (⟨"BestMenDuel$Living", "drawnAct", "()I"⟩, prog_6_method_9_code, 1, (Option.some Jvm.ClassFile.FieldType.int)),
  (⟨"BestMenDuel$Order", "<init>", "()V"⟩, prog_7_method_1_code, 1, (Option.none : Option Jvm.ClassFile.FieldType)),
  (⟨"BestMenDuel$Order", "seek", "(LBestMenDuel$Dawn;)V"⟩, prog_7_method_2_code, 2, (Option.none : Option Jvm.ClassFile.FieldType)),
  (⟨"BestMenDuel$Order", "stand", "(LBestMenDuel$Order;LBestMenDuel$Dawn;III)V"⟩, prog_7_method_3_code, 7, (Option.none : Option Jvm.ClassFile.FieldType)),
  (⟨"BestMenDuel$Order", "hurtsAtEnd", "(LBestMenDuel$Dawn;I)I"⟩, prog_7_method_4_code, 5, (Option.some Jvm.ClassFile.FieldType.int)),
  (⟨"BestMenDuel$Search", "worth", "(LBestMenDuel$Bout;I)I"⟩, prog_8_method_2_code, 2, (Option.some Jvm.ClassFile.FieldType.int)),
  (⟨"BestMenDuel$Search", "choice", "(LBestMenDuel$Bout;I)I"⟩, prog_8_method_3_code, 10, (Option.some Jvm.ClassFile.FieldType.int)),
  (⟨"BestMenDuel$Search", "best", "(LBestMenDuel$Bout;III)I"⟩, prog_8_method_4_code, 10, (Option.some Jvm.ClassFile.FieldType.int)),
  (⟨"BestMenDuel$Search", "fewestTurns", "(LBestMenDuel$Bout;)I"⟩, prog_8_method_5_code, 3, (Option.some Jvm.ClassFile.FieldType.int)),
  (⟨"BestMenDuel$Search", "fells", "(LBestMenDuel$Bout;II)Z"⟩, prog_8_method_6_code, 8, (Option.some Jvm.ClassFile.FieldType.boolean)),
  (⟨"BestMenDuel$Tokens", "<init>", "([B)V"⟩, prog_9_method_1_code, 5, (Option.none : Option Jvm.ClassFile.FieldType)),
  (⟨"BestMenDuel$Tokens", "split", "(I)V"⟩, prog_9_method_2_code, 4, (Option.none : Option Jvm.ClassFile.FieldType)),
  (⟨"BestMenDuel$Tokens", "splitOne", "(I)I"⟩, prog_9_method_3_code, 5, (Option.some Jvm.ClassFile.FieldType.int)),
  (⟨"BestMenDuel$Tokens", "endOfWord", "(I)I"⟩, prog_9_method_4_code, 3, (Option.some Jvm.ClassFile.FieldType.int)),
  (⟨"BestMenDuel$Tokens", "endOfNumber", "(I)I"⟩, prog_9_method_5_code, 3, (Option.some Jvm.ClassFile.FieldType.int)),
  (⟨"BestMenDuel$Tokens", "lettersOf", "(II)J"⟩, prog_9_method_6_code, 6, (Option.some Jvm.ClassFile.FieldType.long)),
  (⟨"BestMenDuel$Tokens", "numberOf", "(II)I"⟩, prog_9_method_7_code, 5, (Option.some Jvm.ClassFile.FieldType.int)),
  (⟨"BestMenDuel$Tokens", "advance", "()V"⟩, prog_9_method_8_code, 3, (Option.none : Option Jvm.ClassFile.FieldType)),
  (⟨"BestMenDuel$Tokens", "fails", "(I)Z"⟩, prog_9_method_9_code, 2, (Option.some Jvm.ClassFile.FieldType.boolean)),
  (⟨"BestMenDuel$Tokens", "isSign", "(I)Z"⟩, prog_9_method_10_code, 2, (Option.some Jvm.ClassFile.FieldType.boolean)),
  (⟨"BestMenDuel$Tokens", "wantsStop", "()Z"⟩, prog_9_method_11_code, 1, (Option.some Jvm.ClassFile.FieldType.boolean)),
  (⟨"BestMenDuel$Tokens", "wantsWord", "(I)Z"⟩, prog_9_method_12_code, 2, (Option.some Jvm.ClassFile.FieldType.boolean)),
  (⟨"BestMenDuel$Tokens", "wantsNumber", "(II)I"⟩, prog_9_method_13_code, 3, (Option.some Jvm.ClassFile.FieldType.int)),
  (⟨"BestMenDuel$Tokens", "wantsName", "()Z"⟩, prog_9_method_14_code, 1, (Option.some Jvm.ClassFile.FieldType.boolean)),
  (⟨"BestMenDuel$Tokens", "isBlank", "(I)Z"⟩, prog_9_method_15_code, 1, (Option.some Jvm.ClassFile.FieldType.boolean))]
def metas_2 : List MD := [(⟨"BestMenDuel$Tokens", "isLetter", "(I)Z"⟩, prog_9_method_16_code, 1, (Option.some Jvm.ClassFile.FieldType.boolean)),
  (⟨"BestMenDuel$Tokens", "isDigit", "(I)Z"⟩, prog_9_method_17_code, 1, (Option.some Jvm.ClassFile.FieldType.boolean)),
  (⟨"BestMenDuel$Trays", "<init>", "()V"⟩, prog_10_method_1_code, 2, (Option.none : Option Jvm.ClassFile.FieldType)),
  (⟨"BestMenDuel$Trays", "isTray", "(I)Z"⟩, prog_10_method_2_code, 2, (Option.some Jvm.ClassFile.FieldType.boolean)),
  (⟨"BestMenDuel$Trays", "isMissing", "(I)Z"⟩, prog_10_method_3_code, 2, (Option.some Jvm.ClassFile.FieldType.boolean)),
  (⟨"BestMenDuel$Trays", "areAlike", "(II)Z"⟩, prog_10_method_4_code, 3, (Option.some Jvm.ClassFile.FieldType.boolean)),
  (⟨"BestMenDuel$Trays", "hasRun", "(III)Z"⟩, prog_10_method_5_code, 4, (Option.some Jvm.ClassFile.FieldType.boolean)),
  (⟨"BestMenDuel$Trays", "whyNot", "(II)I"⟩, prog_10_method_6_code, 3, (Option.some Jvm.ClassFile.FieldType.int)),
  (⟨"BestMenDuel$Trays", "lay", "(III)V"⟩, prog_10_method_7_code, 5, (Option.none : Option Jvm.ClassFile.FieldType)),
  (⟨"BestMenDuel$Trays", "put", "(IIJ)V"⟩, prog_10_method_8_code, 5, (Option.none : Option Jvm.ClassFile.FieldType)),
  (⟨"BestMenDuel$Trays", "at", "(II)J"⟩, prog_10_method_9_code, 3, (Option.some Jvm.ClassFile.FieldType.long)),
  (⟨"BestMenDuel$Trays", "carry", "(IIIII)V"⟩, prog_10_method_10_code, 6, (Option.none : Option Jvm.ClassFile.FieldType)),
  (⟨"BestMenDuel$Trays", "cut", "(IJ)J"⟩, prog_10_method_11_code, 3, (Option.some Jvm.ClassFile.FieldType.long)),
  (⟨"BestMenDuel$Years", "<init>", "()V"⟩, prog_11_method_1_code, 1, (Option.none : Option Jvm.ClassFile.FieldType)),
  (⟨"BestMenDuel$Years", "clear", "()V"⟩, prog_11_method_2_code, 1, (Option.none : Option Jvm.ClassFile.FieldType)),
  (⟨"BestMenDuel$Years", "addStep", "(I)I"⟩, prog_11_method_3_code, 3, (Option.some Jvm.ClassFile.FieldType.int)),
  (⟨"BestMenDuel$Years", "take", "(LBestMenDuel$Years;)V"⟩, prog_11_method_4_code, 2, (Option.none : Option Jvm.ClassFile.FieldType)),
  (⟨"BestMenDuel$YearsReader", "<init>", "(LBestMenDuel$Tokens;)V"⟩, prog_12_method_1_code, 2, (Option.none : Option Jvm.ClassFile.FieldType)),
  (⟨"BestMenDuel$YearsReader", "takes", "(LBestMenDuel$Dawn;LBestMenDuel$Years;I)Z"⟩, prog_12_method_2_code, 5, (Option.some Jvm.ClassFile.FieldType.boolean)),
  (⟨"BestMenDuel$YearsReader", "takesStep", "(I)Z"⟩, prog_12_method_3_code, 4, (Option.some Jvm.ClassFile.FieldType.boolean)),
  (⟨"BestMenDuel$YearsReader", "isStep", "(I)Z"⟩, prog_12_method_4_code, 1, (Option.some Jvm.ClassFile.FieldType.boolean)),
  (⟨"BestMenDuel$YearsReader", "takesRestOf", "(I)Z"⟩, prog_12_method_5_code, 2, (Option.some Jvm.ClassFile.FieldType.boolean)),
  (⟨"BestMenDuel$YearsReader", "takesTest", "(II)Z"⟩, prog_12_method_6_code, 3, (Option.some Jvm.ClassFile.FieldType.boolean)),
  (⟨"BestMenDuel$YearsReader", "takesCompare", "(I)Z"⟩, prog_12_method_7_code, 2, (Option.some Jvm.ClassFile.FieldType.boolean)),
  (⟨"BestMenDuel$YearsReader", "takesNumber", "(III)Z"⟩, prog_12_method_8_code, 4, (Option.some Jvm.ClassFile.FieldType.boolean)),
  (⟨"BestMenDuel$YearsReader", "takesMan", "()I"⟩, prog_12_method_9_code, 2, (Option.some Jvm.ClassFile.FieldType.int)),
  (⟨"BestMenDuel$YearsReader", "takesThing", "()I"⟩, prog_12_method_10_code, 2, (Option.some Jvm.ClassFile.FieldType.int)),
  (⟨"BestMenDuel", "<init>", "()V"⟩, prog_1_method_1_code, 2, (Option.none : Option Jvm.ClassFile.FieldType)),
  (⟨"BestMenDuel", "status", "()I"⟩, prog_1_method_2_code, 1, (Option.some Jvm.ClassFile.FieldType.int)),
  (⟨"BestMenDuel", "top", "()J"⟩, prog_1_method_3_code, 1, (Option.some Jvm.ClassFile.FieldType.long)),
  (⟨"BestMenDuel", "bottom", "()J"⟩, prog_1_method_4_code, 1, (Option.some Jvm.ClassFile.FieldType.long)),
  (⟨"BestMenDuel", "tray", "(III)Z"⟩, prog_1_method_5_code, 4, (Option.some Jvm.ClassFile.FieldType.boolean)),
  (⟨"BestMenDuel", "write", "(IIJ)Z"⟩, prog_1_method_6_code, 6, (Option.some Jvm.ClassFile.FieldType.boolean)),
  (⟨"BestMenDuel", "read", "(II)J"⟩, prog_1_method_7_code, 4, (Option.some Jvm.ClassFile.FieldType.long)),
  (⟨"BestMenDuel", "pour", "(IIIII)Z"⟩, prog_1_method_8_code, 6, (Option.some Jvm.ClassFile.FieldType.boolean)),
  (⟨"BestMenDuel", "feed", "(IIIII)I"⟩, prog_1_method_9_code, 6, (Option.some Jvm.ClassFile.FieldType.int)),
  (⟨"BestMenDuel", "dawn", "(I)I"⟩, prog_1_method_10_code, 3, (Option.some Jvm.ClassFile.FieldType.int)),
  (⟨"BestMenDuel", "years", "(I)I"⟩, prog_1_method_11_code, 3, (Option.some Jvm.ClassFile.FieldType.int)),
  (⟨"BestMenDuel", "fault", "(I)I"⟩, prog_1_method_12_code, 2, (Option.some Jvm.ClassFile.FieldType.int)),
  (⟨"BestMenDuel", "told", "(I)I"⟩, prog_1_method_13_code, 2, (Option.some Jvm.ClassFile.FieldType.int)),
  (⟨"BestMenDuel", "thing", "(II)I"⟩, prog_1_method_14_code, 3, (Option.some Jvm.ClassFile.FieldType.int)),
  (⟨"BestMenDuel", "holder", "(I)I"⟩, prog_1_method_15_code, 2, (Option.some Jvm.ClassFile.FieldType.int)),
  (⟨"BestMenDuel", "man", "(II)I"⟩, prog_1_method_16_code, 3, (Option.some Jvm.ClassFile.FieldType.int)),
  (⟨"BestMenDuel", "holds", "(I)I"⟩, prog_1_method_17_code, 2, (Option.some Jvm.ClassFile.FieldType.int)),
  (⟨"BestMenDuel", "won", "(II)I"⟩, prog_1_method_18_code, 3, (Option.some Jvm.ClassFile.FieldType.int)),
  (⟨"BestMenDuel", "duel", "(I)I"⟩, prog_1_method_19_code, 2, (Option.some Jvm.ClassFile.FieldType.int)),
  (⟨"BestMenDuel", "meet", "(II)I"⟩, prog_1_method_20_code, 3, (Option.some Jvm.ClassFile.FieldType.int)),
  (⟨"BestMenDuel", "act", "(I)I"⟩, prog_1_method_21_code, 2, (Option.some Jvm.ClassFile.FieldType.int)),
  (⟨"BestMenDuel", "part", "()I"⟩, prog_1_method_22_code, 2, (Option.some Jvm.ClassFile.FieldType.int)),
  (⟨"BestMenDuel", "give", "(II)Z"⟩, prog_1_method_23_code, 5, (Option.some Jvm.ClassFile.FieldType.boolean))]
def metas_3 : List MD := [(⟨"BestMenDuel", "mend", "(I)I"⟩, prog_1_method_24_code, 3, (Option.some Jvm.ClassFile.FieldType.int)),
  (⟨"BestMenDuel", "heal", "(II)I"⟩, prog_1_method_25_code, 3, (Option.some Jvm.ClassFile.FieldType.int)),
  (⟨"BestMenDuel", "train", "(II)Z"⟩, prog_1_method_26_code, 3, (Option.some Jvm.ClassFile.FieldType.boolean)),
  (⟨"BestMenDuel", "forge", "(III)I"⟩, prog_1_method_27_code, 4, (Option.some Jvm.ClassFile.FieldType.int)),
  (⟨"BestMenDuel", "rule", "(II)Z"⟩, prog_1_method_28_code, 4, (Option.some Jvm.ClassFile.FieldType.boolean)),
  (⟨"BestMenDuel", "acts", "()I"⟩, prog_1_method_29_code, 3, (Option.some Jvm.ClassFile.FieldType.int)),
  (⟨"BestMenDuel", "wound", "()I"⟩, prog_1_method_30_code, 1, (Option.some Jvm.ClassFile.FieldType.int)),
  (⟨"BestMenDuel", "value", "(I)I"⟩, prog_1_method_31_code, 2, (Option.some Jvm.ClassFile.FieldType.int)),
  (⟨"BestMenDuel", "move", "(I)I"⟩, prog_1_method_32_code, 2, (Option.some Jvm.ClassFile.FieldType.int)),
  (⟨"BestMenDuel", "forced", "()I"⟩, prog_1_method_33_code, 1, (Option.some Jvm.ClassFile.FieldType.int)),
  (⟨"BestMenDuel", "reached", "()I"⟩, prog_1_method_34_code, 2, (Option.some Jvm.ClassFile.FieldType.int)),
  (⟨"BestMenDuel", "needs", "(II)I"⟩, prog_1_method_35_code, 3, (Option.some Jvm.ClassFile.FieldType.int)),
  (⟨"BestMenDuel", "needsWith", "(III)I"⟩, prog_1_method_36_code, 4, (Option.some Jvm.ClassFile.FieldType.int)),
  (⟨"BestMenDuel", "gift", "(II)I"⟩, prog_1_method_37_code, 3, (Option.some Jvm.ClassFile.FieldType.int)),
  (⟨"BestMenDuel", "fair", "(III)I"⟩, prog_1_method_38_code, 5, (Option.some Jvm.ClassFile.FieldType.int)),
  (⟨"BestMenDuel", "arms", "(II)I"⟩, prog_1_method_39_code, 3, (Option.some Jvm.ClassFile.FieldType.int)),
  (⟨"BestMenDuel", "armOf", "(III)I"⟩, prog_1_method_40_code, 4, (Option.some Jvm.ClassFile.FieldType.int)),
  (⟨"BestMenDuel", "faster", "(III)Z"⟩, prog_1_method_41_code, 6, (Option.some Jvm.ClassFile.FieldType.boolean)),
  (⟨"BestMenDuel", "enough", "(III)Z"⟩, prog_1_method_42_code, 8, (Option.some Jvm.ClassFile.FieldType.boolean)),
  (⟨"BestMenDuel", "champion", "(I)I"⟩, prog_1_method_43_code, 2, (Option.some Jvm.ClassFile.FieldType.int)),
  (⟨"BestMenDuel", "heldBack", "(IIIII)I"⟩, prog_1_method_44_code, 7, (Option.some Jvm.ClassFile.FieldType.int)),
  (⟨"BestMenDuel", "fallen", "(IIII)I"⟩, prog_1_method_45_code, 6, (Option.some Jvm.ClassFile.FieldType.int)),
  (⟨"BestMenDuel", "hurts", "(I)I"⟩, prog_1_method_46_code, 6, (Option.some Jvm.ClassFile.FieldType.int)),
  (⟨"BestMenDuel", "least", "()I"⟩, prog_1_method_47_code, 1, (Option.some Jvm.ClassFile.FieldType.int)),
  (⟨"BestMenDuel", "leastAt", "(I)I"⟩, prog_1_method_48_code, 2, (Option.some Jvm.ClassFile.FieldType.int)),
  (⟨"BestMenDuel", "copyLife", "(I)I"⟩, prog_1_method_49_code, 3, (Option.some Jvm.ClassFile.FieldType.int)),
  (⟨"BestMenDuel", "live", "(I)I"⟩, prog_1_method_50_code, 2, (Option.some Jvm.ClassFile.FieldType.int)),
  (⟨"BestMenDuel", "lived", "(I)I"⟩, prog_1_method_51_code, 2, (Option.some Jvm.ClassFile.FieldType.int)),
  (⟨"BestMenDuel", "mean", "(II)Z"⟩, prog_1_method_52_code, 6, (Option.some Jvm.ClassFile.FieldType.boolean)),
  (⟨"BestMenDuel", "mark", "()I"⟩, prog_1_method_53_code, 1, (Option.some Jvm.ClassFile.FieldType.int)),
  (⟨"BestMenDuel", "undo", "()I"⟩, prog_1_method_54_code, 1, (Option.some Jvm.ClassFile.FieldType.int)),
  (⟨"BestMenDuel", "tell", "(I)I"⟩, prog_1_method_55_code, 2, (Option.some Jvm.ClassFile.FieldType.int)),
  (⟨"BestMenDuel", "tellFound", "(I)I"⟩, prog_1_method_56_code, 2, (Option.some Jvm.ClassFile.FieldType.int)),
  (⟨"BestMenDuel", "refuse", "(I)I"⟩, prog_1_method_57_code, 2, (Option.some Jvm.ClassFile.FieldType.int)),
  (⟨"BestMenDuel", "grant", "()Z"⟩, prog_1_method_58_code, 1, (Option.some Jvm.ClassFile.FieldType.boolean)),
  (⟨"BestMenDuel", "deny", "(I)Z"⟩, prog_1_method_59_code, 2, (Option.some Jvm.ClassFile.FieldType.boolean)),
  (⟨"BestMenDuel", "tellFraction", "(JJ)V"⟩, prog_1_method_60_code, 12, (Option.none : Option Jvm.ClassFile.FieldType)),
  (⟨"BestMenDuel", "putOnTape", "(I)V"⟩, prog_1_method_61_code, 3, (Option.none : Option Jvm.ClassFile.FieldType)),
  (⟨"BestMenDuel", "keepFault", "()V"⟩, prog_1_method_62_code, 1, (Option.none : Option Jvm.ClassFile.FieldType)),
  (⟨"BestMenDuel", "isThingOrNone", "(I)Z"⟩, prog_1_method_63_code, 2, (Option.some Jvm.ClassFile.FieldType.boolean)),
  (⟨"BestMenDuel", "asHeld", "(I)I"⟩, prog_1_method_64_code, 1, (Option.some Jvm.ClassFile.FieldType.int)),
  (⟨"BestMenDuel", "isSetOf", "(II)Z"⟩, prog_1_method_65_code, 2, (Option.some Jvm.ClassFile.FieldType.boolean)),
  (⟨"BestMenDuel", "isSetWithout", "(II)Z"⟩, prog_1_method_66_code, 3, (Option.some Jvm.ClassFile.FieldType.boolean)),
  (⟨"BestMenDuel", "hurtsOfTray", "(I)I"⟩, prog_1_method_67_code, 5, (Option.some Jvm.ClassFile.FieldType.int)),
  (⟨"BestMenDuel", "replay", "(IIII)I"⟩, prog_1_method_68_code, 8, (Option.some Jvm.ClassFile.FieldType.int)),
  (⟨"BestMenDuelModel", "<init>", "()V"⟩, prog_14_method_1_code, 1, (Option.none : Option Jvm.ClassFile.FieldType)),
  (⟨"BestMenDuelModel", "plain", "(I)V"⟩, prog_14_method_2_code, 3, (Option.none : Option Jvm.ClassFile.FieldType)),
  (⟨"BestMenDuelModel", "status", "()I"⟩, prog_14_method_3_code, 1, (Option.some Jvm.ClassFile.FieldType.int)),
  (⟨"BestMenDuelModel", "top", "()J"⟩, prog_14_method_4_code, 1, (Option.some Jvm.ClassFile.FieldType.long)),
  (⟨"BestMenDuelModel", "bottom", "()J"⟩, prog_14_method_5_code, 1, (Option.some Jvm.ClassFile.FieldType.long))]
def metas_4 : List MD := [(⟨"BestMenDuelModel", "is", "(I)Z"⟩, prog_14_method_6_code, 2, (Option.some Jvm.ClassFile.FieldType.boolean)),
  (⟨"BestMenDuelModel", "refuse", "(I)I"⟩, prog_14_method_7_code, 2, (Option.some Jvm.ClassFile.FieldType.int)),
  (⟨"BestMenDuelModel", "gives", "(I)I"⟩, prog_14_method_8_code, 2, (Option.some Jvm.ClassFile.FieldType.int)),
  (⟨"BestMenDuelModel", "orNone", "(I)I"⟩, prog_14_method_9_code, 2, (Option.some Jvm.ClassFile.FieldType.int)),
  (⟨"BestMenDuelModel", "tellsBy", "(JJ)Z"⟩, prog_14_method_10_code, 11, (Option.some Jvm.ClassFile.FieldType.boolean)),
  (⟨"BestMenDuelModel", "isTray", "(I)Z"⟩, prog_14_method_11_code, 1, (Option.some Jvm.ClassFile.FieldType.boolean)),
  (⟨"BestMenDuelModel", "cut", "(JI)J"⟩, prog_14_method_12_code, 3, (Option.some Jvm.ClassFile.FieldType.long)),
  (⟨"BestMenDuelModel", "tray", "(III)Z"⟩, prog_14_method_13_code, 5, (Option.some Jvm.ClassFile.FieldType.boolean)),
  (⟨"BestMenDuelModel", "wrongPlace", "(II)I"⟩, prog_14_method_14_code, 3, (Option.some Jvm.ClassFile.FieldType.int)),
  (⟨"BestMenDuelModel", "write", "(IIJ)Z"⟩, prog_14_method_15_code, 6, (Option.some Jvm.ClassFile.FieldType.boolean)),
  (⟨"BestMenDuelModel", "read", "(II)J"⟩, prog_14_method_16_code, 3, (Option.some Jvm.ClassFile.FieldType.long)),
  (⟨"BestMenDuelModel", "pour", "(IIIII)Z"⟩, prog_14_method_17_code, 8, (Option.some Jvm.ClassFile.FieldType.boolean)),
  (⟨"BestMenDuelModel", "isFrom", "(JJJ)Z"⟩, prog_14_method_18_code, 6, (Option.some Jvm.ClassFile.FieldType.boolean)),
  (⟨"BestMenDuelModel", "feed", "(IIIII)I"⟩, prog_14_method_19_code, 6, (Option.some Jvm.ClassFile.FieldType.int)),
  (⟨"BestMenDuelModel", "four", "(I)V"⟩, prog_14_method_20_code, 3, (Option.none : Option Jvm.ClassFile.FieldType)),
  (⟨"BestMenDuelModel", "byteAt", "(I)I"⟩, prog_14_method_21_code, 2, (Option.some Jvm.ClassFile.FieldType.int)),
  (⟨"BestMenDuelModel", "isSmall", "(I)Z"⟩, prog_14_method_22_code, 1, (Option.some Jvm.ClassFile.FieldType.boolean)),
  (⟨"BestMenDuelModel", "isDigit", "(I)Z"⟩, prog_14_method_23_code, 1, (Option.some Jvm.ClassFile.FieldType.boolean)),
  (⟨"BestMenDuelModel", "ahead", "()V"⟩, prog_14_method_24_code, 2, (Option.none : Option Jvm.ClassFile.FieldType)),
  (⟨"BestMenDuelModel", "isSign", "(I)Z"⟩, prog_14_method_25_code, 2, (Option.some Jvm.ClassFile.FieldType.boolean)),
  (⟨"BestMenDuelModel", "inWords", "(Ljava/lang/String;)I"⟩, prog_14_method_26_code, 7, (Option.some Jvm.ClassFile.FieldType.int)),
  (⟨"BestMenDuelModel", "fails", "(I)Z"⟩, prog_14_method_27_code, 2, (Option.some Jvm.ClassFile.FieldType.boolean)),
  (⟨"BestMenDuelModel", "begins", "(II)Z"⟩, prog_14_method_28_code, 4, (Option.some Jvm.ClassFile.FieldType.boolean)),
  (⟨"BestMenDuelModel", "wantSign", "(I)Z"⟩, prog_14_method_29_code, 2, (Option.some Jvm.ClassFile.FieldType.boolean)),
  (⟨"BestMenDuelModel", "wantWord", "(Ljava/lang/String;I)Z"⟩, prog_14_method_30_code, 3, (Option.some Jvm.ClassFile.FieldType.boolean)),
  (⟨"BestMenDuelModel", "number", "(III)Z"⟩, prog_14_method_31_code, 4, (Option.some Jvm.ClassFile.FieldType.boolean)),
  (⟨"BestMenDuelModel", "isName", "(Ljava/lang/String;)Z"⟩, prog_14_method_32_code, 2, (Option.some Jvm.ClassFile.FieldType.boolean)),
  (⟨"BestMenDuelModel", "nameHere", "()J"⟩, prog_14_method_33_code, 4, (Option.some Jvm.ClassFile.FieldType.long)),
  (⟨"BestMenDuelModel", "findHere", "(II)I"⟩, prog_14_method_34_code, 4, (Option.some Jvm.ClassFile.FieldType.int)),
  (⟨"BestMenDuelModel", "fault", "(I)I"⟩, prog_14_method_35_code, 2, (Option.some Jvm.ClassFile.FieldType.int)),
  (⟨"BestMenDuelModel", "taken", "(I)I"⟩, prog_14_method_36_code, 2, (Option.some Jvm.ClassFile.FieldType.int)),
  (⟨"BestMenDuelModel", "thingRow", "(I)I"⟩, prog_14_method_37_code, 1, (Option.some Jvm.ClassFile.FieldType.int)),
  (⟨"BestMenDuelModel", "manRow", "(I)I"⟩, prog_14_method_38_code, 1, (Option.some Jvm.ClassFile.FieldType.int)),
  (⟨"BestMenDuelModel", "isThere", "(I)Z"⟩, prog_14_method_39_code, 2, (Option.some Jvm.ClassFile.FieldType.boolean)),
  (⟨"BestMenDuelModel", "newOne", "(III)Z"⟩, prog_14_method_40_code, 4, (Option.some Jvm.ClassFile.FieldType.boolean)),
  (⟨"BestMenDuelModel", "oldOne", "(III)Z"⟩, prog_14_method_41_code, 4, (Option.some Jvm.ClassFile.FieldType.boolean)),
  (⟨"BestMenDuelModel", "aThing", "()Z"⟩, prog_14_method_42_code, 2, (Option.some Jvm.ClassFile.FieldType.boolean)),
  (⟨"BestMenDuelModel", "newHolding", "(I)Z"⟩, prog_14_method_43_code, 4, (Option.some Jvm.ClassFile.FieldType.boolean)),
  (⟨"BestMenDuelModel", "aMan", "()Z"⟩, prog_14_method_44_code, 2, (Option.some Jvm.ClassFile.FieldType.boolean)),
  (⟨"BestMenDuelModel", "dawnPart", "()Z"⟩, prog_14_method_45_code, 3, (Option.some Jvm.ClassFile.FieldType.boolean)),
  (⟨"BestMenDuelModel", "dawn", "(I)I"⟩, prog_14_method_46_code, 4, (Option.some Jvm.ClassFile.FieldType.int)),
  (⟨"BestMenDuelModel", "manTo", "(I)Z"⟩, prog_14_method_47_code, 2, (Option.some Jvm.ClassFile.FieldType.boolean)),
  (⟨"BestMenDuelModel", "test", "(I)Z"⟩, prog_14_method_48_code, 3, (Option.some Jvm.ClassFile.FieldType.boolean)),
  (⟨"BestMenDuelModel", "yearOrder", "(II)Z"⟩, prog_14_method_49_code, 3, (Option.some Jvm.ClassFile.FieldType.boolean)),
  (⟨"BestMenDuelModel", "yearStep", "()Z"⟩, prog_14_method_50_code, 6, (Option.some Jvm.ClassFile.FieldType.boolean)),
  (⟨"BestMenDuelModel", "years", "(I)I"⟩, prog_14_method_51_code, 4, (Option.some Jvm.ClassFile.FieldType.int)),
  (⟨"BestMenDuelModel", "isThing", "(I)Z"⟩, prog_14_method_52_code, 2, (Option.some Jvm.ClassFile.FieldType.boolean)),
  (⟨"BestMenDuelModel", "isMan", "(I)Z"⟩, prog_14_method_53_code, 2, (Option.some Jvm.ClassFile.FieldType.boolean)),
  (⟨"BestMenDuelModel", "areTwo", "(II)Z"⟩, prog_14_method_54_code, 3, (Option.some Jvm.ClassFile.FieldType.boolean)),
  (⟨"BestMenDuelModel", "areMen", "(I)Z"⟩, prog_14_method_55_code, 2, (Option.some Jvm.ClassFile.FieldType.boolean))]
def metas_5 : List MD := [(⟨"BestMenDuelModel", "isIn", "(II)Z"⟩, prog_14_method_56_code, 3, (Option.some Jvm.ClassFile.FieldType.boolean)),
  (⟨"BestMenDuelModel", "thingOf", "(II)I"⟩, prog_14_method_57_code, 3, (Option.some Jvm.ClassFile.FieldType.int)),
  (⟨"BestMenDuelModel", "manOf", "(II)I"⟩, prog_14_method_58_code, 3, (Option.some Jvm.ClassFile.FieldType.int)),
  (⟨"BestMenDuelModel", "isBroken", "(I)Z"⟩, prog_14_method_59_code, 2, (Option.some Jvm.ClassFile.FieldType.boolean)),
  (⟨"BestMenDuelModel", "isArmed", "(I)Z"⟩, prog_14_method_60_code, 2, (Option.some Jvm.ClassFile.FieldType.boolean)),
  (⟨"BestMenDuelModel", "reachOf", "(I)I"⟩, prog_14_method_61_code, 2, (Option.some Jvm.ClassFile.FieldType.int)),
  (⟨"BestMenDuelModel", "blowOf", "(I)I"⟩, prog_14_method_62_code, 2, (Option.some Jvm.ClassFile.FieldType.int)),
  (⟨"BestMenDuelModel", "holderOf", "(I)I"⟩, prog_14_method_63_code, 3, (Option.some Jvm.ClassFile.FieldType.int)),
  (⟨"BestMenDuelModel", "wonBy", "(I)I"⟩, prog_14_method_64_code, 4, (Option.some Jvm.ClassFile.FieldType.int)),
  (⟨"BestMenDuelModel", "wonAgainst", "(I)I"⟩, prog_14_method_65_code, 4, (Option.some Jvm.ClassFile.FieldType.int)),
  (⟨"BestMenDuelModel", "allWon", "()I"⟩, prog_14_method_66_code, 3, (Option.some Jvm.ClassFile.FieldType.int)),
  (⟨"BestMenDuelModel", "setOf", "(I)I"⟩, prog_14_method_67_code, 5, (Option.some Jvm.ClassFile.FieldType.int)),
  (⟨"BestMenDuelModel", "told", "(I)I"⟩, prog_14_method_68_code, 2, (Option.some Jvm.ClassFile.FieldType.int)),
  (⟨"BestMenDuelModel", "thing", "(II)I"⟩, prog_14_method_69_code, 3, (Option.some Jvm.ClassFile.FieldType.int)),
  (⟨"BestMenDuelModel", "holder", "(I)I"⟩, prog_14_method_70_code, 2, (Option.some Jvm.ClassFile.FieldType.int)),
  (⟨"BestMenDuelModel", "man", "(II)I"⟩, prog_14_method_71_code, 3, (Option.some Jvm.ClassFile.FieldType.int)),
  (⟨"BestMenDuelModel", "holds", "(I)I"⟩, prog_14_method_72_code, 2, (Option.some Jvm.ClassFile.FieldType.int)),
  (⟨"BestMenDuelModel", "won", "(II)I"⟩, prog_14_method_73_code, 3, (Option.some Jvm.ClassFile.FieldType.int)),
  (⟨"BestMenDuelModel", "isDuel", "()Z"⟩, prog_14_method_74_code, 1, (Option.some Jvm.ClassFile.FieldType.boolean)),
  (⟨"BestMenDuelModel", "near", "()I"⟩, prog_14_method_75_code, 1, (Option.some Jvm.ClassFile.FieldType.int)),
  (⟨"BestMenDuelModel", "turn", "()I"⟩, prog_14_method_76_code, 1, (Option.some Jvm.ClassFile.FieldType.int)),
  (⟨"BestMenDuelModel", "actor", "()I"⟩, prog_14_method_77_code, 1, (Option.some Jvm.ClassFile.FieldType.int)),
  (⟨"BestMenDuelModel", "duel", "(I)I"⟩, prog_14_method_78_code, 2, (Option.some Jvm.ClassFile.FieldType.int)),
  (⟨"BestMenDuelModel", "meets", "(II)Z"⟩, prog_14_method_79_code, 3, (Option.some Jvm.ClassFile.FieldType.boolean)),
  (⟨"BestMenDuelModel", "meet", "(II)I"⟩, prog_14_method_80_code, 3, (Option.some Jvm.ClassFile.FieldType.int)),
  (⟨"BestMenDuelModel", "canAct", "(I)Z"⟩, prog_14_method_81_code, 2, (Option.some Jvm.ClassFile.FieldType.boolean)),
  (⟨"BestMenDuelModel", "woundNow", "()I"⟩, prog_14_method_82_code, 1, (Option.some Jvm.ClassFile.FieldType.int)),
  (⟨"BestMenDuelModel", "strikes", "()I"⟩, prog_14_method_83_code, 4, (Option.some Jvm.ClassFile.FieldType.int)),
  (⟨"BestMenDuelModel", "ends", "()V"⟩, prog_14_method_84_code, 1, (Option.none : Option Jvm.ClassFile.FieldType)),
  (⟨"BestMenDuelModel", "acts0", "(I)I"⟩, prog_14_method_85_code, 6, (Option.some Jvm.ClassFile.FieldType.int)),
  (⟨"BestMenDuelModel", "act", "(I)I"⟩, prog_14_method_86_code, 3, (Option.some Jvm.ClassFile.FieldType.int)),
  (⟨"BestMenDuelModel", "part", "()I"⟩, prog_14_method_87_code, 1, (Option.some Jvm.ClassFile.FieldType.int)),
  (⟨"BestMenDuelModel", "acts", "()I"⟩, prog_14_method_88_code, 3, (Option.some Jvm.ClassFile.FieldType.int)),
  (⟨"BestMenDuelModel", "wound", "()I"⟩, prog_14_method_89_code, 1, (Option.some Jvm.ClassFile.FieldType.int)),
  (⟨"BestMenDuelModel", "give", "(II)Z"⟩, prog_14_method_90_code, 4, (Option.some Jvm.ClassFile.FieldType.boolean)),
  (⟨"BestMenDuelModel", "mend", "(I)I"⟩, prog_14_method_91_code, 3, (Option.some Jvm.ClassFile.FieldType.int)),
  (⟨"BestMenDuelModel", "heals", "(II)Z"⟩, prog_14_method_92_code, 4, (Option.some Jvm.ClassFile.FieldType.boolean)),
  (⟨"BestMenDuelModel", "heal", "(II)I"⟩, prog_14_method_93_code, 3, (Option.some Jvm.ClassFile.FieldType.int)),
  (⟨"BestMenDuelModel", "train", "(II)Z"⟩, prog_14_method_94_code, 3, (Option.some Jvm.ClassFile.FieldType.boolean)),
  (⟨"BestMenDuelModel", "forge", "(III)I"⟩, prog_14_method_95_code, 5, (Option.some Jvm.ClassFile.FieldType.int)),
  (⟨"BestMenDuelModel", "rule", "(II)Z"⟩, prog_14_method_96_code, 3, (Option.some Jvm.ClassFile.FieldType.boolean)),
  (⟨"BestMenDuelModel", "keeps", "(I)V"⟩, prog_14_method_97_code, 3, (Option.none : Option Jvm.ClassFile.FieldType)),
  (⟨"BestMenDuelModel", "restores", "(I)V"⟩, prog_14_method_98_code, 3, (Option.none : Option Jvm.ClassFile.FieldType)),
  (⟨"BestMenDuelModel", "levelAt", "(I)I"⟩, prog_14_method_99_code, 1, (Option.some Jvm.ClassFile.FieldType.int)),
  (⟨"BestMenDuelModel", "settles", "(IIZ)V"⟩, prog_14_method_100_code, 4, (Option.none : Option Jvm.ClassFile.FieldType)),
  (⟨"BestMenDuelModel", "plays", "(IZ)I"⟩, prog_14_method_101_code, 9, (Option.some Jvm.ClassFile.FieldType.int)),
  (⟨"BestMenDuelModel", "value", "(I)I"⟩, prog_14_method_102_code, 2, (Option.some Jvm.ClassFile.FieldType.int)),
  (⟨"BestMenDuelModel", "move", "(I)I"⟩, prog_14_method_103_code, 2, (Option.some Jvm.ClassFile.FieldType.int)),
  (⟨"BestMenDuelModel", "forced", "()I"⟩, prog_14_method_104_code, 2, (Option.some Jvm.ClassFile.FieldType.int)),
  (⟨"BestMenDuelModel", "reached", "()I"⟩, prog_14_method_105_code, 3, (Option.some Jvm.ClassFile.FieldType.int))]
def metas_6 : List MD := [(⟨"BestMenDuelModel", "needsBy", "(III)I"⟩, prog_14_method_106_code, 9, (Option.some Jvm.ClassFile.FieldType.int)),
  (⟨"BestMenDuelModel", "needsNow", "(II)I"⟩, prog_14_method_107_code, 3, (Option.some Jvm.ClassFile.FieldType.int)),
  (⟨"BestMenDuelModel", "orNever", "(I)I"⟩, prog_14_method_108_code, 2, (Option.some Jvm.ClassFile.FieldType.int)),
  (⟨"BestMenDuelModel", "needs", "(II)I"⟩, prog_14_method_109_code, 3, (Option.some Jvm.ClassFile.FieldType.int)),
  (⟨"BestMenDuelModel", "needsWith", "(III)I"⟩, prog_14_method_110_code, 4, (Option.some Jvm.ClassFile.FieldType.int)),
  (⟨"BestMenDuelModel", "gift", "(II)I"⟩, prog_14_method_111_code, 7, (Option.some Jvm.ClassFile.FieldType.int)),
  (⟨"BestMenDuelModel", "laysFair", "(II)V"⟩, prog_14_method_112_code, 8, (Option.none : Option Jvm.ClassFile.FieldType)),
  (⟨"BestMenDuelModel", "fair", "(III)I"⟩, prog_14_method_113_code, 4, (Option.some Jvm.ClassFile.FieldType.int)),
  (⟨"BestMenDuelModel", "bestArms", "(IIII)I"⟩, prog_14_method_114_code, 7, (Option.some Jvm.ClassFile.FieldType.int)),
  (⟨"BestMenDuelModel", "laysArms", "(II)I"⟩, prog_14_method_115_code, 6, (Option.some Jvm.ClassFile.FieldType.int)),
  (⟨"BestMenDuelModel", "areArmed", "(II)Z"⟩, prog_14_method_116_code, 3, (Option.some Jvm.ClassFile.FieldType.boolean)),
  (⟨"BestMenDuelModel", "arms", "(II)I"⟩, prog_14_method_117_code, 3, (Option.some Jvm.ClassFile.FieldType.int)),
  (⟨"BestMenDuelModel", "armOf", "(III)I"⟩, prog_14_method_118_code, 7, (Option.some Jvm.ClassFile.FieldType.int)),
  (⟨"BestMenDuelModel", "faster", "(III)Z"⟩, prog_14_method_119_code, 8, (Option.some Jvm.ClassFile.FieldType.boolean)),
  (⟨"BestMenDuelModel", "enough", "(III)Z"⟩, prog_14_method_120_code, 9, (Option.some Jvm.ClassFile.FieldType.boolean)),
  (⟨"BestMenDuelModel", "champion", "(I)I"⟩, prog_14_method_121_code, 5, (Option.some Jvm.ClassFile.FieldType.int)),
  (⟨"BestMenDuelModel", "wrongActs", "(II)I"⟩, prog_14_method_122_code, 4, (Option.some Jvm.ClassFile.FieldType.int)),
  (⟨"BestMenDuelModel", "goesThrough", "(IIII)Z"⟩, prog_14_method_123_code, 8, (Option.some Jvm.ClassFile.FieldType.boolean)),
  (⟨"BestMenDuelModel", "heldBack", "(IIIII)I"⟩, prog_14_method_124_code, 7, (Option.some Jvm.ClassFile.FieldType.int)),
  (⟨"BestMenDuelModel", "fallen", "(IIII)I"⟩, prog_14_method_125_code, 6, (Option.some Jvm.ClassFile.FieldType.int)),
  (⟨"BestMenDuelModel", "hurts", "(I)I"⟩, prog_14_method_126_code, 7, (Option.some Jvm.ClassFile.FieldType.int)),
  (⟨"BestMenDuelModel", "hurtsOf", "(II)I"⟩, prog_14_method_127_code, 5, (Option.some Jvm.ClassFile.FieldType.int)),
  (⟨"BestMenDuelModel", "laysLeast", "()V"⟩, prog_14_method_128_code, 4, (Option.none : Option Jvm.ClassFile.FieldType)),
  (⟨"BestMenDuelModel", "least", "()I"⟩, prog_14_method_129_code, 1, (Option.some Jvm.ClassFile.FieldType.int)),
  (⟨"BestMenDuelModel", "leastAt", "(I)I"⟩, prog_14_method_130_code, 5, (Option.some Jvm.ClassFile.FieldType.int)),
  (⟨"BestMenDuelModel", "copyLife", "(I)I"⟩, prog_14_method_131_code, 3, (Option.some Jvm.ClassFile.FieldType.int)),
  (⟨"BestMenDuelModel", "draw", "(I)I"⟩, prog_14_method_132_code, 2, (Option.some Jvm.ClassFile.FieldType.int)),
  (⟨"BestMenDuelModel", "actsBy", "(I)Z"⟩, prog_14_method_133_code, 2, (Option.some Jvm.ClassFile.FieldType.boolean)),
  (⟨"BestMenDuelModel", "does", "(I)Z"⟩, prog_14_method_134_code, 3, (Option.some Jvm.ClassFile.FieldType.boolean)),
  (⟨"BestMenDuelModel", "isSo", "(I)Z"⟩, prog_14_method_135_code, 4, (Option.some Jvm.ClassFile.FieldType.boolean)),
  (⟨"BestMenDuelModel", "behindEnds", "(I)I"⟩, prog_14_method_136_code, 5, (Option.some Jvm.ClassFile.FieldType.int)),
  (⟨"BestMenDuelModel", "lives", "(I)V"⟩, prog_14_method_137_code, 4, (Option.none : Option Jvm.ClassFile.FieldType)),
  (⟨"BestMenDuelModel", "live", "(I)I"⟩, prog_14_method_138_code, 3, (Option.some Jvm.ClassFile.FieldType.int)),
  (⟨"BestMenDuelModel", "lived", "(I)I"⟩, prog_14_method_139_code, 2, (Option.some Jvm.ClassFile.FieldType.int)),
  (⟨"BestMenDuelModel", "mean", "(II)Z"⟩, prog_14_method_140_code, 6, (Option.some Jvm.ClassFile.FieldType.boolean)),
  (⟨"BestMenDuelModel", "copies", "(II)V"⟩, prog_14_method_141_code, 4, (Option.none : Option Jvm.ClassFile.FieldType)),
  (⟨"BestMenDuelModel", "mark", "()I"⟩, prog_14_method_142_code, 1, (Option.some Jvm.ClassFile.FieldType.int)),
  (⟨"BestMenDuelModel", "undo", "()I"⟩, prog_14_method_143_code, 1, (Option.some Jvm.ClassFile.FieldType.int)),
  (⟨"BestMenDuelLaw", "law", "([I)Z"⟩, code, 4, (Option.some Jvm.ClassFile.FieldType.boolean)),
  (⟨"java/lang/Integer", "bitCount", "(I)I"⟩, prog_15_method_49_code, 1, (Option.some Jvm.ClassFile.FieldType.int)),
  (⟨"java/lang/String", "length", "()I"⟩, prog_17_method_54_code, 1, (Option.some Jvm.ClassFile.FieldType.int)),
  (⟨"java/lang/String", "charAt", "(I)C"⟩, prog_17_method_56_code, 2, (Option.some Jvm.ClassFile.FieldType.char)),
  (⟨"java/lang/String", "coder", "()B"⟩, prog_17_method_152_code, 1, (Option.some Jvm.ClassFile.FieldType.byte)),
  (⟨"java/lang/String", "isLatin1", "()Z"⟩, prog_17_method_154_code, 1, (Option.some Jvm.ClassFile.FieldType.boolean)),
  (⟨"java/lang/String", "checkIndex", "(II)V"⟩, prog_17_method_155_code, 2, (Option.none : Option Jvm.ClassFile.FieldType)),
  (⟨"java/lang/StringLatin1", "charAt", "([BI)C"⟩, prog_18_method_2_code, 2, (Option.some Jvm.ClassFile.FieldType.char)),
  (⟨"jdk/internal/util/Preconditions", "checkIndex", "(IILjava/util/function/BiFunction;)I"⟩, prog_21_method_11_code, 3, (Option.some Jvm.ClassFile.FieldType.int))]
def metas : List MD := metas_0 ++ (metas_1 ++ (metas_2 ++ (metas_3 ++ (metas_4 ++ (metas_5 ++ (metas_6))))))
