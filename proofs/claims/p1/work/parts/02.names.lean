def RX0 : String := "FrostHouse$Grammar"
def TX0 : u_T := fun k => match k with
  | 0 => ("FrostHouse$Grammar", "tokens", "LFrostHouse$Tokens;", true)
  | 1 => ("FrostHouse$Grammar", "className", "[I", true)
  | 2 => ("FrostHouse$Grammar", "classRes", "[Z", true)
  | 3 => ("FrostHouse$Grammar", "memberKind", "[I", true)
  | 4 => ("FrostHouse$Grammar", "memberClass", "[I", true)
  | 5 => ("FrostHouse$Grammar", "memberName", "[I", true)
  | 6 => ("FrostHouse$Grammar", "memberType", "[I", true)
  | 7 => ("FrostHouse$Grammar", "memberNumber", "[I", true)
  | 8 => ("FrostHouse$Grammar", "memberParameters", "[I", true)
  | 9 => ("FrostHouse$Grammar", "memberStatic", "[Z", true)
  | 10 => ("FrostHouse$Grammar", "classes", "I", false)
  | 11 => ("FrostHouse$Grammar", "members", "I", false)
  | 12 => ("FrostHouse$Grammar", "methods", "I", false)
  | 13 => ("FrostHouse$Grammar", "statics", "I", false)
  | 14 => ("FrostHouse$Grammar", "badPlace", "I", false)
  | 15 => ("FrostHouse$Grammar", "fields", "I", false)
  | 16 => ("FrostHouse$Grammar", "at", "I", false)
  | _ => ("FrostHouse$Grammar", "depth", "I", false)
def tyX0 : Nat → FieldType := fun k => match k with
  | 0 => .object "FrostHouse$Tokens"
  | 1 => .array .int
  | 2 => .array .boolean
  | 3 => .array .int
  | 4 => .array .int
  | 5 => .array .int
  | 6 => .array .int
  | 7 => .array .int
  | 8 => .array .int
  | 9 => .array .boolean
  | 10 => .int
  | 11 => .int
  | 12 => .int
  | 13 => .int
  | 14 => .int
  | 15 => .int
  | 16 => .int
  | _ => .int
abbrev wsX00 : List Cond := u_ws RX0 TX0 18
theorem nmX0 : ∀ a, a < 18 → ∀ b, b < 18 → a ≠ b → (TX0 a).2.1 ≠ (TX0 b).2.1 := by decide +kernel
theorem tyX0_ok : ∀ k, k < 18 → parseFieldDescriptor (TX0 k).2.2.1 = some (tyX0 k) := by decide +kernel
def RX1 : String := "FrostHouse$Heap"
def TX1 : u_T := fun k => match k with
  | 0 => ("FrostHouse$Heap", "kind", "[I", true)
  | 1 => ("FrostHouse$Heap", "hash", "[I", true)
  | 2 => ("FrostHouse$Heap", "size", "[I", true)
  | 3 => ("FrostHouse$Heap", "cell", "[I", true)
  | 4 => ("FrostHouse$Heap", "owner", "[I", true)
  | 5 => ("FrostHouse$Heap", "often", "[I", true)
  | 6 => ("FrostHouse$Heap", "number", "[I", true)
  | 7 => ("FrostHouse$Heap", "order", "[I", true)
  | 8 => ("FrostHouse$Heap", "interned", "[I", true)
  | 9 => ("FrostHouse$Heap", "registered", "[I", true)
  | 10 => ("FrostHouse$Heap", "list", "[I", true)
  | 11 => ("FrostHouse$Heap", "statics", "[I", true)
  | 12 => ("FrostHouse$Heap", "seed", "I", false)
  | 13 => ("FrostHouse$Heap", "reached", "I", false)
  | 14 => ("FrostHouse$Heap", "internedCount", "I", false)
  | 15 => ("FrostHouse$Heap", "registeredCount", "I", false)
  | 16 => ("FrostHouse$Heap", "listCount", "I", false)
  | _ => ("FrostHouse$Heap", "lastMade", "I", false)
def tyX1 : Nat → FieldType := fun k => match k with
  | 0 => .array .int
  | 1 => .array .int
  | 2 => .array .int
  | 3 => .array .int
  | 4 => .array .int
  | 5 => .array .int
  | 6 => .array .int
  | 7 => .array .int
  | 8 => .array .int
  | 9 => .array .int
  | 10 => .array .int
  | 11 => .array .int
  | 12 => .int
  | 13 => .int
  | 14 => .int
  | 15 => .int
  | 16 => .int
  | _ => .int
abbrev wsX10 : List Cond := u_ws RX1 TX1 18
theorem nmX1 : ∀ a, a < 18 → ∀ b, b < 18 → a ≠ b → (TX1 a).2.1 ≠ (TX1 b).2.1 := by decide +kernel
theorem tyX1_ok : ∀ k, k < 18 → parseFieldDescriptor (TX1 k).2.2.1 = some (tyX1 k) := by decide +kernel
def RX2 : String := "FrostHouse$Machine"
def TX2 : u_T := fun k => match k with
  | 0 => ("FrostHouse$Machine", "program", "LFrostHouse$Program;", true)
  | 1 => ("FrostHouse$Machine", "heap", "LFrostHouse$Heap;", true)
  | 2 => ("FrostHouse$Machine", "threads", "LFrostHouse$Threads;", true)
  | 3 => ("FrostHouse$Machine", "out", "[B", true)
  | 4 => ("FrostHouse$Machine", "classState", "[I", true)
  | 5 => ("FrostHouse$Machine", "classThread", "[I", true)
  | 6 => ("FrostHouse$Machine", "failures", "[I", true)
  | 7 => ("FrostHouse$Machine", "status", "I", false)
  | 8 => ("FrostHouse$Machine", "outCount", "I", false)
  | 9 => ("FrostHouse$Machine", "failureCount", "I", false)
  | 10 => ("FrostHouse$Machine", "handles", "I", false)
  | 11 => ("FrostHouse$Machine", "quantum", "I", false)
  | 12 => ("FrostHouse$Machine", "hand", "I", false)
  | 13 => ("FrostHouse$Machine", "steps", "I", false)
  | 14 => ("FrostHouse$Machine", "arg", "I", false)
  | 15 => ("FrostHouse$Machine", "clock", "J", false)
  | 16 => ("FrostHouse$Machine", "pointThread", "I", false)
  | 17 => ("FrostHouse$Machine", "pointFrame", "I", false)
  | 18 => ("FrostHouse$Machine", "pointPhase", "I", false)
  | _ => ("FrostHouse$Machine", "pointCalled", "I", false)
def tyX2 : Nat → FieldType := fun k => match k with
  | 0 => .object "FrostHouse$Program"
  | 1 => .object "FrostHouse$Heap"
  | 2 => .object "FrostHouse$Threads"
  | 3 => .array .byte
  | 4 => .array .int
  | 5 => .array .int
  | 6 => .array .int
  | 7 => .int
  | 8 => .int
  | 9 => .int
  | 10 => .int
  | 11 => .int
  | 12 => .int
  | 13 => .int
  | 14 => .int
  | 15 => .long
  | 16 => .int
  | 17 => .int
  | 18 => .int
  | _ => .int
abbrev wsX20 : List Cond := u_ws RX2 TX2 20
theorem nmX2 : ∀ a, a < 20 → ∀ b, b < 20 → a ≠ b → (TX2 a).2.1 ≠ (TX2 b).2.1 := by decide +kernel
theorem tyX2_ok : ∀ k, k < 20 → parseFieldDescriptor (TX2 k).2.2.1 = some (tyX2 k) := by decide +kernel
def RX3 : String := "FrostHouse$Maker"
def TX3 : u_T := fun k => match k with
  | 0 => ("FrostHouse$Maker", "tokens", "LFrostHouse$Tokens;", true)
  | 1 => ("FrostHouse$Maker", "grammar", "LFrostHouse$Grammar;", true)
  | 2 => ("FrostHouse$Maker", "faults", "[I", true)
  | 3 => ("FrostHouse$Maker", "variableName", "[I", true)
  | 4 => ("FrostHouse$Maker", "variableType", "[I", true)
  | 5 => ("FrostHouse$Maker", "stackType", "[I", true)
  | 6 => ("FrostHouse$Maker", "program", "LFrostHouse$Program;", false)
  | 7 => ("FrostHouse$Maker", "at", "I", false)
  | 8 => ("FrostHouse$Maker", "member", "I", false)
  | 9 => ("FrostHouse$Maker", "start", "I", false)
  | 10 => ("FrostHouse$Maker", "inClass", "I", false)
  | 11 => ("FrostHouse$Maker", "count", "I", false)
  | 12 => ("FrostHouse$Maker", "variables", "I", false)
  | 13 => ("FrostHouse$Maker", "mostVariables", "I", false)
  | 14 => ("FrostHouse$Maker", "stack", "I", false)
  | 15 => ("FrostHouse$Maker", "mostStack", "I", false)
  | 16 => ("FrostHouse$Maker", "syncs", "I", false)
  | 17 => ("FrostHouse$Maker", "form", "I", false)
  | 18 => ("FrostHouse$Maker", "formNumber", "I", false)
  | _ => ("FrostHouse$Maker", "voidPlace", "I", false)
def tyX3 : Nat → FieldType := fun k => match k with
  | 0 => .object "FrostHouse$Tokens"
  | 1 => .object "FrostHouse$Grammar"
  | 2 => .array .int
  | 3 => .array .int
  | 4 => .array .int
  | 5 => .array .int
  | 6 => .object "FrostHouse$Program"
  | 7 => .int
  | 8 => .int
  | 9 => .int
  | 10 => .int
  | 11 => .int
  | 12 => .int
  | 13 => .int
  | 14 => .int
  | 15 => .int
  | 16 => .int
  | 17 => .int
  | 18 => .int
  | _ => .int
abbrev wsX30 : List Cond := u_ws RX3 TX3 20
theorem nmX3 : ∀ a, a < 20 → ∀ b, b < 20 → a ≠ b → (TX3 a).2.1 ≠ (TX3 b).2.1 := by decide +kernel
theorem tyX3_ok : ∀ k, k < 20 → parseFieldDescriptor (TX3 k).2.2.1 = some (tyX3 k) := by decide +kernel
def RX4 : String := "FrostHouse$Program"
def TX4 : u_T := fun k => match k with
  | 0 => ("FrostHouse$Program", "text", "[B", true)
  | 1 => ("FrostHouse$Program", "methodFacts", "[I", true)
  | 2 => ("FrostHouse$Program", "classFacts", "[I", true)
  | 3 => ("FrostHouse$Program", "fieldType", "[I", true)
  | 4 => ("FrostHouse$Program", "staticType", "[I", true)
  | 5 => ("FrostHouse$Program", "staticClass", "[I", true)
  | 6 => ("FrostHouse$Program", "stringPlace", "[I", true)
  | 7 => ("FrostHouse$Program", "stringSize", "[I", true)
  | 8 => ("FrostHouse$Program", "code", "[I", true)
  | 9 => ("FrostHouse$Program", "number", "[I", true)
  | 10 => ("FrostHouse$Program", "handler", "[I", true)
  | 11 => ("FrostHouse$Program", "stand", "[I", true)
  | 12 => ("FrostHouse$Program", "variableTypes", "[J", true)
  | 13 => ("FrostHouse$Program", "stackTypes", "[J", true)
  | 14 => ("FrostHouse$Program", "length", "I", false)
  | 15 => ("FrostHouse$Program", "classes", "I", false)
  | 16 => ("FrostHouse$Program", "methods", "I", false)
  | 17 => ("FrostHouse$Program", "statics", "I", false)
  | _ => ("FrostHouse$Program", "mainMethod", "I", false)
def tyX4 : Nat → FieldType := fun k => match k with
  | 0 => .array .byte
  | 1 => .array .int
  | 2 => .array .int
  | 3 => .array .int
  | 4 => .array .int
  | 5 => .array .int
  | 6 => .array .int
  | 7 => .array .int
  | 8 => .array .int
  | 9 => .array .int
  | 10 => .array .int
  | 11 => .array .int
  | 12 => .array .long
  | 13 => .array .long
  | 14 => .int
  | 15 => .int
  | 16 => .int
  | 17 => .int
  | _ => .int
abbrev wsX40 : List Cond := u_ws RX4 TX4 19
theorem nmX4 : ∀ a, a < 19 → ∀ b, b < 19 → a ≠ b → (TX4 a).2.1 ≠ (TX4 b).2.1 := by decide +kernel
theorem tyX4_ok : ∀ k, k < 19 → parseFieldDescriptor (TX4 k).2.2.1 = some (tyX4 k) := by decide +kernel
def RX5 : String := "FrostHouse$Reader"
def TX5 : u_T := fun k => match k with
  | 0 => ("FrostHouse$Reader", "monitorObject", "[I", true)
  | 1 => ("FrostHouse$Reader", "monitorOwner", "[I", true)
  | 2 => ("FrostHouse$Reader", "monitorOften", "[I", true)
  | 3 => ("FrostHouse$Reader", "queueSize", "[I", true)
  | 4 => ("FrostHouse$Reader", "queue", "[I", true)
  | 5 => ("FrostHouse$Reader", "waiterSize", "[I", true)
  | 6 => ("FrostHouse$Reader", "waiter", "[I", true)
  | 7 => ("FrostHouse$Reader", "monitors", "I", false)
  | 8 => ("FrostHouse$Reader", "objects", "I", false)
  | 9 => ("FrostHouse$Reader", "start", "[I", true)
  | 10 => ("FrostHouse$Reader", "stop", "[I", true)
  | 11 => ("FrostHouse$Reader", "tape", "[B", false)
  | 12 => ("FrostHouse$Reader", "at", "I", false)
  | 13 => ("FrostHouse$Reader", "end", "I", false)
  | 14 => ("FrostHouse$Reader", "badPlace", "I", false)
  | 15 => ("FrostHouse$Reader", "machine", "LFrostHouse$Machine;", false)
  | 16 => ("FrostHouse$Reader", "program", "LFrostHouse$Program;", false)
  | 17 => ("FrostHouse$Reader", "heap", "LFrostHouse$Heap;", false)
  | _ => ("FrostHouse$Reader", "threads", "LFrostHouse$Threads;", false)
def tyX5 : Nat → FieldType := fun k => match k with
  | 0 => .array .int
  | 1 => .array .int
  | 2 => .array .int
  | 3 => .array .int
  | 4 => .array .int
  | 5 => .array .int
  | 6 => .array .int
  | 7 => .int
  | 8 => .int
  | 9 => .array .int
  | 10 => .array .int
  | 11 => .array .byte
  | 12 => .int
  | 13 => .int
  | 14 => .int
  | 15 => .object "FrostHouse$Machine"
  | 16 => .object "FrostHouse$Program"
  | 17 => .object "FrostHouse$Heap"
  | _ => .object "FrostHouse$Threads"
abbrev wsX50 : List Cond := u_ws RX5 TX5 19
theorem nmX5 : ∀ a, a < 19 → ∀ b, b < 19 → a ≠ b → (TX5 a).2.1 ≠ (TX5 b).2.1 := by decide +kernel
theorem tyX5_ok : ∀ k, k < 19 → parseFieldDescriptor (TX5 k).2.2.1 = some (tyX5 k) := by decide +kernel
def RX6 : String := "FrostHouse$Rules"
def TX6 : u_T := fun k => match k with
  | 0 => ("FrostHouse$Rules", "reader", "LFrostHouse$Reader;", false)
  | 1 => ("FrostHouse$Rules", "machine", "LFrostHouse$Machine;", false)
  | 2 => ("FrostHouse$Rules", "program", "LFrostHouse$Program;", false)
  | 3 => ("FrostHouse$Rules", "heap", "LFrostHouse$Heap;", false)
  | _ => ("FrostHouse$Rules", "threads", "LFrostHouse$Threads;", false)
def tyX6 : Nat → FieldType := fun k => match k with
  | 0 => .object "FrostHouse$Reader"
  | 1 => .object "FrostHouse$Machine"
  | 2 => .object "FrostHouse$Program"
  | 3 => .object "FrostHouse$Heap"
  | _ => .object "FrostHouse$Threads"
abbrev wsX60 : List Cond := u_ws RX6 TX6 5
theorem nmX6 : ∀ a, a < 5 → ∀ b, b < 5 → a ≠ b → (TX6 a).2.1 ≠ (TX6 b).2.1 := by decide +kernel
theorem tyX6_ok : ∀ k, k < 5 → parseFieldDescriptor (TX6 k).2.2.1 = some (tyX6 k) := by decide +kernel
def RX7 : String := "FrostHouse$Runner"
def TX7 : u_T := fun k => match k with
  | 0 => ("FrostHouse$Runner", "digits", "[I", true)
  | 1 => ("FrostHouse$Runner", "machine", "LFrostHouse$Machine;", false)
  | 2 => ("FrostHouse$Runner", "program", "LFrostHouse$Program;", false)
  | 3 => ("FrostHouse$Runner", "heap", "LFrostHouse$Heap;", false)
  | 4 => ("FrostHouse$Runner", "threads", "LFrostHouse$Threads;", false)
  | 5 => ("FrostHouse$Runner", "isThrown", "Z", false)
  | _ => ("FrostHouse$Runner", "thrownValue", "I", false)
def tyX7 : Nat → FieldType := fun k => match k with
  | 0 => .array .int
  | 1 => .object "FrostHouse$Machine"
  | 2 => .object "FrostHouse$Program"
  | 3 => .object "FrostHouse$Heap"
  | 4 => .object "FrostHouse$Threads"
  | 5 => .boolean
  | _ => .int
abbrev wsX70 : List Cond := u_ws RX7 TX7 7
theorem nmX7 : ∀ a, a < 7 → ∀ b, b < 7 → a ≠ b → (TX7 a).2.1 ≠ (TX7 b).2.1 := by decide +kernel
theorem tyX7_ok : ∀ k, k < 7 → parseFieldDescriptor (TX7 k).2.2.1 = some (tyX7 k) := by decide +kernel
def RX8 : String := "FrostHouse$Threads"
def TX8 : u_T := fun k => match k with
  | 0 => ("FrostHouse$Threads", "state", "[I", true)
  | 1 => ("FrostHouse$Threads", "interrupted", "[Z", true)
  | 2 => ("FrostHouse$Threads", "deadBy", "[I", true)
  | 3 => ("FrostHouse$Threads", "time", "[J", true)
  | 4 => ("FrostHouse$Threads", "object", "[I", true)
  | 5 => ("FrostHouse$Threads", "had", "[I", true)
  | 6 => ("FrostHouse$Threads", "outcome", "[I", true)
  | 7 => ("FrostHouse$Threads", "joined", "[I", true)
  | 8 => ("FrostHouse$Threads", "wanted", "[I", true)
  | 9 => ("FrostHouse$Threads", "stamp", "[I", true)
  | 10 => ("FrostHouse$Threads", "frames", "[I", true)
  | 11 => ("FrostHouse$Threads", "method", "[I", true)
  | 12 => ("FrostHouse$Threads", "pc", "[I", true)
  | 13 => ("FrostHouse$Threads", "stackSize", "[I", true)
  | 14 => ("FrostHouse$Threads", "heldSize", "[I", true)
  | 15 => ("FrostHouse$Threads", "variable", "[I", true)
  | 16 => ("FrostHouse$Threads", "stack", "[I", true)
  | 17 => ("FrostHouse$Threads", "held", "[I", true)
  | 18 => ("FrostHouse$Threads", "count", "I", false)
  | _ => ("FrostHouse$Threads", "latestStamp", "I", false)
def tyX8 : Nat → FieldType := fun k => match k with
  | 0 => .array .int
  | 1 => .array .boolean
  | 2 => .array .int
  | 3 => .array .long
  | 4 => .array .int
  | 5 => .array .int
  | 6 => .array .int
  | 7 => .array .int
  | 8 => .array .int
  | 9 => .array .int
  | 10 => .array .int
  | 11 => .array .int
  | 12 => .array .int
  | 13 => .array .int
  | 14 => .array .int
  | 15 => .array .int
  | 16 => .array .int
  | 17 => .array .int
  | 18 => .int
  | _ => .int
abbrev wsX80 : List Cond := u_ws RX8 TX8 20
theorem nmX8 : ∀ a, a < 20 → ∀ b, b < 20 → a ≠ b → (TX8 a).2.1 ≠ (TX8 b).2.1 := by decide +kernel
theorem tyX8_ok : ∀ k, k < 20 → parseFieldDescriptor (TX8 k).2.2.1 = some (tyX8 k) := by decide +kernel
def RX9 : String := "FrostHouse$Tokens"
def TX9 : u_T := fun k => match k with
  | 0 => ("FrostHouse$Tokens", "kind", "[I", true)
  | 1 => ("FrostHouse$Tokens", "place", "[I", true)
  | 2 => ("FrostHouse$Tokens", "size", "[I", true)
  | 3 => ("FrostHouse$Tokens", "value", "[I", true)
  | 4 => ("FrostHouse$Tokens", "typed", "[I", true)
  | 5 => ("FrostHouse$Tokens", "spelling", "[I", true)
  | 6 => ("FrostHouse$Tokens", "spellingMix", "[I", true)
  | 7 => ("FrostHouse$Tokens", "spellings", "I", false)
  | 8 => ("FrostHouse$Tokens", "text", "[B", false)
  | 9 => ("FrostHouse$Tokens", "length", "I", false)
  | 10 => ("FrostHouse$Tokens", "count", "I", false)
  | _ => ("FrostHouse$Tokens", "strings", "I", false)
def tyX9 : Nat → FieldType := fun k => match k with
  | 0 => .array .int
  | 1 => .array .int
  | 2 => .array .int
  | 3 => .array .int
  | 4 => .array .int
  | 5 => .array .int
  | 6 => .array .int
  | 7 => .int
  | 8 => .array .byte
  | 9 => .int
  | 10 => .int
  | _ => .int
abbrev wsX90 : List Cond := u_ws RX9 TX9 12
theorem nmX9 : ∀ a, a < 12 → ∀ b, b < 12 → a ≠ b → (TX9 a).2.1 ≠ (TX9 b).2.1 := by decide +kernel
theorem tyX9_ok : ∀ k, k < 12 → parseFieldDescriptor (TX9 k).2.2.1 = some (tyX9 k) := by decide +kernel
def RX10 : String := "FrostHouse$Writer"
def TX10 : u_T := fun k => match k with
  | 0 => ("FrostHouse$Writer", "row", "[B", false)
  | 1 => ("FrostHouse$Writer", "length", "I", false)
  | 2 => ("FrostHouse$Writer", "at", "I", false)
  | 3 => ("FrostHouse$Writer", "isHeldAgainst", "Z", false)
  | 4 => ("FrostHouse$Writer", "otherPlace", "I", false)
  | 5 => ("FrostHouse$Writer", "machine", "LFrostHouse$Machine;", false)
  | 6 => ("FrostHouse$Writer", "program", "LFrostHouse$Program;", false)
  | 7 => ("FrostHouse$Writer", "heap", "LFrostHouse$Heap;", false)
  | _ => ("FrostHouse$Writer", "threads", "LFrostHouse$Threads;", false)
def tyX10 : Nat → FieldType := fun k => match k with
  | 0 => .array .byte
  | 1 => .int
  | 2 => .int
  | 3 => .boolean
  | 4 => .int
  | 5 => .object "FrostHouse$Machine"
  | 6 => .object "FrostHouse$Program"
  | 7 => .object "FrostHouse$Heap"
  | _ => .object "FrostHouse$Threads"
abbrev wsX100 : List Cond := u_ws RX10 TX10 9
theorem nmX10 : ∀ a, a < 9 → ∀ b, b < 9 → a ≠ b → (TX10 a).2.1 ≠ (TX10 b).2.1 := by decide +kernel
theorem tyX10_ok : ∀ k, k < 9 → parseFieldDescriptor (TX10 k).2.2.1 = some (tyX10 k) := by decide +kernel
def RX11 : String := "FrostHouse"
def TX11 : u_T := fun k => match k with
  | 0 => ("FrostHouse", "tape", "[B", true)
  | 1 => ("FrostHouse", "image", "[B", true)
  | 2 => ("FrostHouse", "maker", "LFrostHouse$Maker;", true)
  | 3 => ("FrostHouse", "runner", "LFrostHouse$Runner;", true)
  | 4 => ("FrostHouse", "writer", "LFrostHouse$Writer;", true)
  | 5 => ("FrostHouse", "reader", "LFrostHouse$Reader;", true)
  | 6 => ("FrostHouse", "rules", "LFrostHouse$Rules;", true)
  | 7 => ("FrostHouse", "machine", "LFrostHouse$Machine;", false)
  | 8 => ("FrostHouse", "spare", "LFrostHouse$Machine;", false)
  | 9 => ("FrostHouse", "tapeLength", "I", false)
  | 10 => ("FrostHouse", "imageLength", "I", false)
  | 11 => ("FrostHouse", "loadKind", "I", false)
  | 12 => ("FrostHouse", "loadPlace", "I", false)
  | 13 => ("FrostHouse", "restoreKind", "I", false)
  | _ => ("FrostHouse", "restorePlace", "I", false)
def tyX11 : Nat → FieldType := fun k => match k with
  | 0 => .array .byte
  | 1 => .array .byte
  | 2 => .object "FrostHouse$Maker"
  | 3 => .object "FrostHouse$Runner"
  | 4 => .object "FrostHouse$Writer"
  | 5 => .object "FrostHouse$Reader"
  | 6 => .object "FrostHouse$Rules"
  | 7 => .object "FrostHouse$Machine"
  | 8 => .object "FrostHouse$Machine"
  | 9 => .int
  | 10 => .int
  | 11 => .int
  | 12 => .int
  | 13 => .int
  | _ => .int
abbrev wsX110 : List Cond := u_ws RX11 TX11 15
theorem nmX11 : ∀ a, a < 15 → ∀ b, b < 15 → a ≠ b → (TX11 a).2.1 ≠ (TX11 b).2.1 := by decide +kernel
theorem tyX11_ok : ∀ k, k < 15 → parseFieldDescriptor (TX11 k).2.2.1 = some (tyX11 k) := by decide +kernel
def RX12 : String := "FrostHouseModel"
def TX12 : u_T := fun k => match k with
  | 0 => ("FrostHouseModel", "text", "[B", true)
  | 1 => ("FrostHouseModel", "length", "I", false)
  | 2 => ("FrostHouseModel", "sort", "[I", true)
  | 3 => ("FrostHouseModel", "place", "[I", true)
  | 4 => ("FrostHouseModel", "value", "[I", true)
  | 5 => ("FrostHouseModel", "size", "[I", true)
  | 6 => ("FrostHouseModel", "stringNumber", "[I", true)
  | 7 => ("FrostHouseModel", "tokens", "I", false)
  | 8 => ("FrostHouseModel", "at", "I", false)
  | 9 => ("FrostHouseModel", "strings", "I", false)
  | 10 => ("FrostHouseModel", "least", "[I", true)
  | 11 => ("FrostHouseModel", "opened", "I", false)
  | 12 => ("FrostHouseModel", "sure", "Z", false)
  | 13 => ("FrostHouseModel", "classes", "I", false)
  | 14 => ("FrostHouseModel", "methods", "I", false)
  | 15 => ("FrostHouseModel", "fields", "I", false)
  | 16 => ("FrostHouseModel", "statics", "I", false)
  | 17 => ("FrostHouseModel", "className", "[I", true)
  | 18 => ("FrostHouseModel", "classRes", "[I", true)
  | 19 => ("FrostHouseModel", "fieldClass", "[I", true)
  | 20 => ("FrostHouseModel", "fieldName", "[I", true)
  | 21 => ("FrostHouseModel", "fieldType", "[I", true)
  | 22 => ("FrostHouseModel", "staticClass", "[I", true)
  | 23 => ("FrostHouseModel", "staticName", "[I", true)
  | 24 => ("FrostHouseModel", "staticType", "[I", true)
  | 25 => ("FrostHouseModel", "staticValue", "[I", true)
  | 26 => ("FrostHouseModel", "methodClass", "[I", true)
  | 27 => ("FrostHouseModel", "methodName", "[I", true)
  | 28 => ("FrostHouseModel", "methodType", "[I", true)
  | 29 => ("FrostHouseModel", "methodParams", "[I", true)
  | 30 => ("FrostHouseModel", "methodBody", "[I", true)
  | 31 => ("FrostHouseModel", "paramFrom", "[I", true)
  | 32 => ("FrostHouseModel", "methodStatic", "[Z", true)
  | 33 => ("FrostHouseModel", "paramName", "[I", true)
  | 34 => ("FrostHouseModel", "paramType", "[I", true)
  | 35 => ("FrostHouseModel", "params", "I", false)
  | 36 => ("FrostHouseModel", "code", "[I", true)
  | 37 => ("FrostHouseModel", "number", "[I", true)
  | 38 => ("FrostHouseModel", "sights", "[I", true)
  | 39 => ("FrostHouseModel", "stacks", "[I", true)
  | 40 => ("FrostHouseModel", "syncs", "[I", true)
  | 41 => ("FrostHouseModel", "tries", "[I", true)
  | 42 => ("FrostHouseModel", "sightType", "[I", true)
  | 43 => ("FrostHouseModel", "stackType", "[I", true)
  | 44 => ("FrostHouseModel", "begin", "[I", true)
  | 45 => ("FrostHouseModel", "count", "[I", true)
  | 46 => ("FrostHouseModel", "most", "[I", true)
  | 47 => ("FrostHouseModel", "deepest", "[I", true)
  | 48 => ("FrostHouseModel", "codes", "I", false)
  | 49 => ("FrostHouseModel", "base", "I", false)
  | 50 => ("FrostHouseModel", "tryAround", "[I", true)
  | 51 => ("FrostHouseModel", "tryAt", "[I", true)
  | 52 => ("FrostHouseModel", "trys", "I", false)
  | 53 => ("FrostHouseModel", "tryNow", "I", false)
  | 54 => ("FrostHouseModel", "own", "I", false)
  | 55 => ("FrostHouseModel", "inSight", "I", false)
  | 56 => ("FrostHouseModel", "deep", "I", false)
  | 57 => ("FrostHouseModel", "sync", "I", false)
  | 58 => ("FrostHouseModel", "top", "I", false)
  | 59 => ("FrostHouseModel", "inStatic", "Z", false)
  | 60 => ("FrostHouseModel", "gives", "I", false)
  | 61 => ("FrostHouseModel", "varName", "[I", true)
  | 62 => ("FrostHouseModel", "varType", "[I", true)
  | 63 => ("FrostHouseModel", "stack", "[I", true)
  | 64 => ("FrostHouseModel", "settable", "I", false)
  | 65 => ("FrostHouseModel", "setType", "I", false)
  | 66 => ("FrostHouseModel", "setDeep", "I", false)
  | 67 => ("FrostHouseModel", "setA", "I", false)
  | 68 => ("FrostHouseModel", "setB", "I", false)
  | 69 => ("FrostHouseModel", "callName", "I", false)
  | 70 => ("FrostHouseModel", "callMethod", "I", false)
  | 71 => ("FrostHouseModel", "isCall", "Z", false)
  | 72 => ("FrostHouseModel", "state", "I", false)
  | 73 => ("FrostHouseModel", "quantum", "I", false)
  | 74 => ("FrostHouseModel", "atHand", "I", false)
  | 75 => ("FrostHouseModel", "did", "I", false)
  | 76 => ("FrostHouseModel", "arg", "I", false)
  | 77 => ("FrostHouseModel", "seed", "I", false)
  | 78 => ("FrostHouseModel", "handles", "I", false)
  | 79 => ("FrostHouseModel", "outs", "I", false)
  | 80 => ("FrostHouseModel", "threads", "I", false)
  | 81 => ("FrostHouseModel", "order", "I", false)
  | 82 => ("FrostHouseModel", "clock", "J", false)
  | 83 => ("FrostHouseModel", "out", "[B", true)
  | 84 => ("FrostHouseModel", "classState", "[I", true)
  | 85 => ("FrostHouseModel", "classThread", "[I", true)
  | 86 => ("FrostHouseModel", "statValue", "[I", true)
  | 87 => ("FrostHouseModel", "tState", "[I", true)
  | 88 => ("FrostHouseModel", "tFlag", "[I", true)
  | 89 => ("FrostHouseModel", "tDead", "[I", true)
  | 90 => ("FrostHouseModel", "tThing", "[I", true)
  | 91 => ("FrostHouseModel", "tHad", "[I", true)
  | 92 => ("FrostHouseModel", "tHow", "[I", true)
  | 93 => ("FrostHouseModel", "tJoin", "[I", true)
  | 94 => ("FrostHouseModel", "tClass", "[I", true)
  | 95 => ("FrostHouseModel", "tFrames", "[I", true)
  | 96 => ("FrostHouseModel", "tOrder", "[I", true)
  | 97 => ("FrostHouseModel", "tTime", "[J", true)
  | 98 => ("FrostHouseModel", "fMethod", "[I", true)
  | 99 => ("FrostHouseModel", "fAt", "[I", true)
  | 100 => ("FrostHouseModel", "fDeep", "[I", true)
  | 101 => ("FrostHouseModel", "fHelds", "[I", true)
  | 102 => ("FrostHouseModel", "fVar", "[I", true)
  | 103 => ("FrostHouseModel", "fStack", "[I", true)
  | 104 => ("FrostHouseModel", "fHeld", "[I", true)
  | 105 => ("FrostHouseModel", "oKind", "[I", true)
  | 106 => ("FrostHouseModel", "oHash", "[I", true)
  | 107 => ("FrostHouseModel", "oSize", "[I", true)
  | 108 => ("FrostHouseModel", "oOwner", "[I", true)
  | 109 => ("FrostHouseModel", "oTimes", "[I", true)
  | 110 => ("FrostHouseModel", "oValue", "[I", true)
  | 111 => ("FrostHouseModel", "oByte", "[B", true)
  | 112 => ("FrostHouseModel", "oUsed", "[Z", true)
  | 113 => ("FrostHouseModel", "oMark", "[Z", true)
  | 114 => ("FrostHouseModel", "things", "I", false)
  | 115 => ("FrostHouseModel", "interned", "[I", true)
  | 116 => ("FrostHouseModel", "registered", "[I", true)
  | 117 => ("FrostHouseModel", "list", "[I", true)
  | 118 => ("FrostHouseModel", "failure", "[I", true)
  | 119 => ("FrostHouseModel", "interns", "I", false)
  | 120 => ("FrostHouseModel", "registers", "I", false)
  | 121 => ("FrostHouseModel", "listed", "I", false)
  | 122 => ("FrostHouseModel", "failures", "I", false)
  | 123 => ("FrostHouseModel", "cThread", "I", false)
  | 124 => ("FrostHouseModel", "cFrame", "I", false)
  | 125 => ("FrostHouseModel", "cPhase", "I", false)
  | 126 => ("FrostHouseModel", "cCalled", "I", false)
  | 127 => ("FrostHouseModel", "t", "I", false)
  | 128 => ("FrostHouseModel", "f", "I", false)
  | 129 => ("FrostHouseModel", "in", "I", false)
  | 130 => ("FrostHouseModel", "joined", "[B", true)
  | 131 => ("FrostHouseModel", "joinedSize", "I", false)
  | 132 => ("FrostHouseModel", "image", "[B", true)
  | 133 => ("FrostHouseModel", "other", "[B", true)
  | 134 => ("FrostHouseModel", "to", "[B", false)
  | 135 => ("FrostHouseModel", "imageSize", "I", false)
  | 136 => ("FrostHouseModel", "size2", "I", false)
  | 137 => ("FrostHouseModel", "numberOf", "[I", true)
  | 138 => ("FrostHouseModel", "thingAt", "[I", true)
  | 139 => ("FrostHouseModel", "numbered", "I", false)
  | 140 => ("FrostHouseModel", "tape", "[B", true)
  | 141 => ("FrostHouseModel", "fed", "I", false)
  | 142 => ("FrostHouseModel", "p", "I", false)
  | 143 => ("FrostHouseModel", "end", "I", false)
  | 144 => ("FrostHouseModel", "refused", "I", false)
  | 145 => ("FrostHouseModel", "refusedAt", "I", false)
  | 146 => ("FrostHouseModel", "section", "[I", true)
  | 147 => ("FrostHouseModel", "head", "[I", true)
  | 148 => ("FrostHouseModel", "many", "I", false)
  | 149 => ("FrostHouseModel", "monitored", "I", false)
  | 150 => ("FrostHouseModel", "monitor", "[I", true)
  | 151 => ("FrostHouseModel", "queues", "[I", true)
  | 152 => ("FrostHouseModel", "queued", "[I", true)
  | 153 => ("FrostHouseModel", "sleepers", "[I", true)
  | 154 => ("FrostHouseModel", "asleep", "[I", true)
  | 155 => ("FrostHouseModel", "numbers", "[I", true)
  | 156 => ("FrostHouseModel", "rows", "[[I", true)
  | 157 => ("FrostHouseModel", "kept", "[[I", true)
  | 158 => ("FrostHouseModel", "keptTime", "[J", true)
  | 159 => ("FrostHouseModel", "keptUsed", "[Z", true)
  | 160 => ("FrostHouseModel", "keptByte", "[B", true)
  | 161 => ("FrostHouseModel", "keptText", "[B", true)
  | 162 => ("FrostHouseModel", "keptLength", "I", false)
  | 163 => ("FrostHouseModel", "keptClock", "J", false)
  | 164 => ("FrostHouseModel", "loadKind", "I", false)
  | 165 => ("FrostHouseModel", "loadAt", "I", false)
  | 166 => ("FrostHouseModel", "wrongKind", "I", false)
  | _ => ("FrostHouseModel", "wrongAt", "I", false)
def tyX12 : Nat → FieldType := fun k => match k with
  | 0 => .array .byte
  | 1 => .int
  | 2 => .array .int
  | 3 => .array .int
  | 4 => .array .int
  | 5 => .array .int
  | 6 => .array .int
  | 7 => .int
  | 8 => .int
  | 9 => .int
  | 10 => .array .int
  | 11 => .int
  | 12 => .boolean
  | 13 => .int
  | 14 => .int
  | 15 => .int
  | 16 => .int
  | 17 => .array .int
  | 18 => .array .int
  | 19 => .array .int
  | 20 => .array .int
  | 21 => .array .int
  | 22 => .array .int
  | 23 => .array .int
  | 24 => .array .int
  | 25 => .array .int
  | 26 => .array .int
  | 27 => .array .int
  | 28 => .array .int
  | 29 => .array .int
  | 30 => .array .int
  | 31 => .array .int
  | 32 => .array .boolean
  | 33 => .array .int
  | 34 => .array .int
  | 35 => .int
  | 36 => .array .int
  | 37 => .array .int
  | 38 => .array .int
  | 39 => .array .int
  | 40 => .array .int
  | 41 => .array .int
  | 42 => .array .int
  | 43 => .array .int
  | 44 => .array .int
  | 45 => .array .int
  | 46 => .array .int
  | 47 => .array .int
  | 48 => .int
  | 49 => .int
  | 50 => .array .int
  | 51 => .array .int
  | 52 => .int
  | 53 => .int
  | 54 => .int
  | 55 => .int
  | 56 => .int
  | 57 => .int
  | 58 => .int
  | 59 => .boolean
  | 60 => .int
  | 61 => .array .int
  | 62 => .array .int
  | 63 => .array .int
  | 64 => .int
  | 65 => .int
  | 66 => .int
  | 67 => .int
  | 68 => .int
  | 69 => .int
  | 70 => .int
  | 71 => .boolean
  | 72 => .int
  | 73 => .int
  | 74 => .int
  | 75 => .int
  | 76 => .int
  | 77 => .int
  | 78 => .int
  | 79 => .int
  | 80 => .int
  | 81 => .int
  | 82 => .long
  | 83 => .array .byte
  | 84 => .array .int
  | 85 => .array .int
  | 86 => .array .int
  | 87 => .array .int
  | 88 => .array .int
  | 89 => .array .int
  | 90 => .array .int
  | 91 => .array .int
  | 92 => .array .int
  | 93 => .array .int
  | 94 => .array .int
  | 95 => .array .int
  | 96 => .array .int
  | 97 => .array .long
  | 98 => .array .int
  | 99 => .array .int
  | 100 => .array .int
  | 101 => .array .int
  | 102 => .array .int
  | 103 => .array .int
  | 104 => .array .int
  | 105 => .array .int
  | 106 => .array .int
  | 107 => .array .int
  | 108 => .array .int
  | 109 => .array .int
  | 110 => .array .int
  | 111 => .array .byte
  | 112 => .array .boolean
  | 113 => .array .boolean
  | 114 => .int
  | 115 => .array .int
  | 116 => .array .int
  | 117 => .array .int
  | 118 => .array .int
  | 119 => .int
  | 120 => .int
  | 121 => .int
  | 122 => .int
  | 123 => .int
  | 124 => .int
  | 125 => .int
  | 126 => .int
  | 127 => .int
  | 128 => .int
  | 129 => .int
  | 130 => .array .byte
  | 131 => .int
  | 132 => .array .byte
  | 133 => .array .byte
  | 134 => .array .byte
  | 135 => .int
  | 136 => .int
  | 137 => .array .int
  | 138 => .array .int
  | 139 => .int
  | 140 => .array .byte
  | 141 => .int
  | 142 => .int
  | 143 => .int
  | 144 => .int
  | 145 => .int
  | 146 => .array .int
  | 147 => .array .int
  | 148 => .int
  | 149 => .int
  | 150 => .array .int
  | 151 => .array .int
  | 152 => .array .int
  | 153 => .array .int
  | 154 => .array .int
  | 155 => .array .int
  | 156 => .array (.array .int)
  | 157 => .array (.array .int)
  | 158 => .array .long
  | 159 => .array .boolean
  | 160 => .array .byte
  | 161 => .array .byte
  | 162 => .int
  | 163 => .long
  | 164 => .int
  | 165 => .int
  | 166 => .int
  | _ => .int
abbrev wsX120 : List Cond := u_ws RX12 TX12 168
theorem nmX12 : ∀ a, a < 168 → ∀ b, b < 168 → a ≠ b → (TX12 a).2.1 ≠ (TX12 b).2.1 := by decide +kernel
theorem tyX12_ok : ∀ k, k < 168 → parseFieldDescriptor (TX12 k).2.2.1 = some (tyX12 k) := by decide +kernel
def RJ11 : String := "java/lang/Character"
def RJ6 : String := "java/lang/Integer"
def RJ9 : String := "java/lang/Math"
def RJ0 : String := "java/lang/String"
def RJ1 : String := "java/lang/StringLatin1"
def RJ2 : String := "java/lang/StringUTF16"
def RJ10 : String := "java/lang/System"
def RJ7 : String := "java/util/Arrays"
def RJ3 : String := "jdk/internal/util/Preconditions"
def RL : String := "FrostHouseLaw"
abbrev vwCl : List vw_C := [(RX0, TX0, 18), (RX1, TX1, 18), (RX2, TX2, 20), (RX3, TX3, 20), (RX4, TX4, 19), (RX5, TX5, 19), (RX6, TX6, 5), (RX7, TX7, 7), (RX8, TX8, 20), (RX9, TX9, 12), (RX10, TX10, 9), (RX11, TX11, 15), (RX12, TX12, 168)]
abbrev fsX0 : List Value := [.null, .null, .null, .null, .null, .null, .null, .null, .null, .null, .int 0, .int 0, .int 0, .int 0, .int 0, .int 0, .int 0, .int 0]
set_option maxRecDepth 100000 in
theorem fsX0_ok : ∀ j, j < 18 → defaultValue (tyX0 j) = vp_V fsX0 j := fun j hj => by
  have h : ∀ k ∈ List.range 18, defaultValue (tyX0 k) = vp_V fsX0 k := by
    simp only [show List.range 18 = [0, 1, 2, 3, 4, 5, 6, 7, 8, 9, 10, 11, 12, 13, 14, 15, 16, 17] from rfl]
    exact List.forall_mem_cons.mpr ⟨rfl, List.forall_mem_cons.mpr ⟨rfl, List.forall_mem_cons.mpr ⟨rfl, List.forall_mem_cons.mpr ⟨rfl, List.forall_mem_cons.mpr ⟨rfl, List.forall_mem_cons.mpr ⟨rfl, List.forall_mem_cons.mpr ⟨rfl, List.forall_mem_cons.mpr ⟨rfl, List.forall_mem_cons.mpr ⟨rfl, List.forall_mem_cons.mpr ⟨rfl, List.forall_mem_cons.mpr ⟨rfl, List.forall_mem_cons.mpr ⟨rfl, List.forall_mem_cons.mpr ⟨rfl, List.forall_mem_cons.mpr ⟨rfl, List.forall_mem_cons.mpr ⟨rfl, List.forall_mem_cons.mpr ⟨rfl, List.forall_mem_cons.mpr ⟨rfl, List.forall_mem_cons.mpr ⟨rfl, List.forall_mem_nil _⟩⟩⟩⟩⟩⟩⟩⟩⟩⟩⟩⟩⟩⟩⟩⟩⟩⟩
  exact h j (List.mem_range.mpr hj)
set_option maxRecDepth 100000 in
theorem iX0 : ∀ w ∈ u_ws RX0 TX0 18, w ∈ wB := by
  have h : u_ws RX0 TX0 18 = ([130, 132, 134, 136, 138, 140, 142, 144, 146, 148, 150, 152, 154, 156, 158, 160, 162, 164]).filterMap (fun i => tables_1[i]?) := by decide +kernel
  intro w hw
  have hg : goodWord w = true := by
    obtain ⟨k, -, rfl⟩ := List.mem_map.mp hw
    unfold u_lay; split <;> rfl
  rw [h] at hw
  obtain ⟨i, -, hi⟩ := List.mem_filterMap.mp hw
  exact wB_t (List.mem_of_getElem? hi) hg
abbrev fsX1 : List Value := [.null, .null, .null, .null, .null, .null, .null, .null, .null, .null, .null, .null, .int 0, .int 0, .int 0, .int 0, .int 0, .int 0]
set_option maxRecDepth 100000 in
theorem fsX1_ok : ∀ j, j < 18 → defaultValue (tyX1 j) = vp_V fsX1 j := fun j hj => by
  have h : ∀ k ∈ List.range 18, defaultValue (tyX1 k) = vp_V fsX1 k := by
    simp only [show List.range 18 = [0, 1, 2, 3, 4, 5, 6, 7, 8, 9, 10, 11, 12, 13, 14, 15, 16, 17] from rfl]
    exact List.forall_mem_cons.mpr ⟨rfl, List.forall_mem_cons.mpr ⟨rfl, List.forall_mem_cons.mpr ⟨rfl, List.forall_mem_cons.mpr ⟨rfl, List.forall_mem_cons.mpr ⟨rfl, List.forall_mem_cons.mpr ⟨rfl, List.forall_mem_cons.mpr ⟨rfl, List.forall_mem_cons.mpr ⟨rfl, List.forall_mem_cons.mpr ⟨rfl, List.forall_mem_cons.mpr ⟨rfl, List.forall_mem_cons.mpr ⟨rfl, List.forall_mem_cons.mpr ⟨rfl, List.forall_mem_cons.mpr ⟨rfl, List.forall_mem_cons.mpr ⟨rfl, List.forall_mem_cons.mpr ⟨rfl, List.forall_mem_cons.mpr ⟨rfl, List.forall_mem_cons.mpr ⟨rfl, List.forall_mem_cons.mpr ⟨rfl, List.forall_mem_nil _⟩⟩⟩⟩⟩⟩⟩⟩⟩⟩⟩⟩⟩⟩⟩⟩⟩⟩
  exact h j (List.mem_range.mpr hj)
set_option maxRecDepth 100000 in
theorem iX1 : ∀ w ∈ u_ws RX1 TX1 18, w ∈ wB := by
  have h : u_ws RX1 TX1 18 = ([597, 599, 601, 603, 605, 607, 609, 611, 613, 615, 617, 619, 621, 623, 625, 627, 629, 631]).filterMap (fun i => tables_1[i]?) := by decide +kernel
  intro w hw
  have hg : goodWord w = true := by
    obtain ⟨k, -, rfl⟩ := List.mem_map.mp hw
    unfold u_lay; split <;> rfl
  rw [h] at hw
  obtain ⟨i, -, hi⟩ := List.mem_filterMap.mp hw
  exact wB_t (List.mem_of_getElem? hi) hg
abbrev fsX2 : List Value := [.null, .null, .null, .null, .null, .null, .null, .int 0, .int 0, .int 0, .int 0, .int 0, .int 0, .int 0, .int 0, .long 0, .int 0, .int 0, .int 0, .int 0]
set_option maxRecDepth 100000 in
theorem fsX2_ok : ∀ j, j < 20 → defaultValue (tyX2 j) = vp_V fsX2 j := fun j hj => by
  have h : ∀ k ∈ List.range 20, defaultValue (tyX2 k) = vp_V fsX2 k := by
    simp only [show List.range 20 = [0, 1, 2, 3, 4, 5, 6, 7, 8, 9, 10, 11, 12, 13, 14, 15, 16, 17, 18, 19] from rfl]
    exact List.forall_mem_cons.mpr ⟨rfl, List.forall_mem_cons.mpr ⟨rfl, List.forall_mem_cons.mpr ⟨rfl, List.forall_mem_cons.mpr ⟨rfl, List.forall_mem_cons.mpr ⟨rfl, List.forall_mem_cons.mpr ⟨rfl, List.forall_mem_cons.mpr ⟨rfl, List.forall_mem_cons.mpr ⟨rfl, List.forall_mem_cons.mpr ⟨rfl, List.forall_mem_cons.mpr ⟨rfl, List.forall_mem_cons.mpr ⟨rfl, List.forall_mem_cons.mpr ⟨rfl, List.forall_mem_cons.mpr ⟨rfl, List.forall_mem_cons.mpr ⟨rfl, List.forall_mem_cons.mpr ⟨rfl, List.forall_mem_cons.mpr ⟨rfl, List.forall_mem_cons.mpr ⟨rfl, List.forall_mem_cons.mpr ⟨rfl, List.forall_mem_cons.mpr ⟨rfl, List.forall_mem_cons.mpr ⟨rfl, List.forall_mem_nil _⟩⟩⟩⟩⟩⟩⟩⟩⟩⟩⟩⟩⟩⟩⟩⟩⟩⟩⟩⟩
  exact h j (List.mem_range.mpr hj)
set_option maxRecDepth 100000 in
theorem iX2 : ∀ w ∈ u_ws RX2 TX2 20, w ∈ wB := by
  have h : u_ws RX2 TX2 20 = ([872, 874, 876, 878, 880, 882, 884, 886, 888, 890, 892, 894, 896, 898, 900, 902, 904, 906, 908, 910]).filterMap (fun i => tables_1[i]?) := by decide +kernel
  intro w hw
  have hg : goodWord w = true := by
    obtain ⟨k, -, rfl⟩ := List.mem_map.mp hw
    unfold u_lay; split <;> rfl
  rw [h] at hw
  obtain ⟨i, -, hi⟩ := List.mem_filterMap.mp hw
  exact wB_t (List.mem_of_getElem? hi) hg
abbrev fsX3 : List Value := [.null, .null, .null, .null, .null, .null, .null, .int 0, .int 0, .int 0, .int 0, .int 0, .int 0, .int 0, .int 0, .int 0, .int 0, .int 0, .int 0, .int 0]
set_option maxRecDepth 100000 in
theorem fsX3_ok : ∀ j, j < 20 → defaultValue (tyX3 j) = vp_V fsX3 j := fun j hj => by
  have h : ∀ k ∈ List.range 20, defaultValue (tyX3 k) = vp_V fsX3 k := by
    simp only [show List.range 20 = [0, 1, 2, 3, 4, 5, 6, 7, 8, 9, 10, 11, 12, 13, 14, 15, 16, 17, 18, 19] from rfl]
    exact List.forall_mem_cons.mpr ⟨rfl, List.forall_mem_cons.mpr ⟨rfl, List.forall_mem_cons.mpr ⟨rfl, List.forall_mem_cons.mpr ⟨rfl, List.forall_mem_cons.mpr ⟨rfl, List.forall_mem_cons.mpr ⟨rfl, List.forall_mem_cons.mpr ⟨rfl, List.forall_mem_cons.mpr ⟨rfl, List.forall_mem_cons.mpr ⟨rfl, List.forall_mem_cons.mpr ⟨rfl, List.forall_mem_cons.mpr ⟨rfl, List.forall_mem_cons.mpr ⟨rfl, List.forall_mem_cons.mpr ⟨rfl, List.forall_mem_cons.mpr ⟨rfl, List.forall_mem_cons.mpr ⟨rfl, List.forall_mem_cons.mpr ⟨rfl, List.forall_mem_cons.mpr ⟨rfl, List.forall_mem_cons.mpr ⟨rfl, List.forall_mem_cons.mpr ⟨rfl, List.forall_mem_cons.mpr ⟨rfl, List.forall_mem_nil _⟩⟩⟩⟩⟩⟩⟩⟩⟩⟩⟩⟩⟩⟩⟩⟩⟩⟩⟩⟩
  exact h j (List.mem_range.mpr hj)
set_option maxRecDepth 100000 in
theorem iX3 : ∀ w ∈ u_ws RX3 TX3 20, w ∈ wB := by
  have h : u_ws RX3 TX3 20 = ([188, 190, 192, 194, 196, 198, 200, 202, 204, 206, 208, 210, 212, 214, 216, 218, 220, 222, 224, 226]).filterMap (fun i => tables_1[i]?) := by decide +kernel
  intro w hw
  have hg : goodWord w = true := by
    obtain ⟨k, -, rfl⟩ := List.mem_map.mp hw
    unfold u_lay; split <;> rfl
  rw [h] at hw
  obtain ⟨i, -, hi⟩ := List.mem_filterMap.mp hw
  exact wB_t (List.mem_of_getElem? hi) hg
abbrev fsX4 : List Value := [.null, .null, .null, .null, .null, .null, .null, .null, .null, .null, .null, .null, .null, .null, .int 0, .int 0, .int 0, .int 0, .int 0]
set_option maxRecDepth 100000 in
theorem fsX4_ok : ∀ j, j < 19 → defaultValue (tyX4 j) = vp_V fsX4 j := fun j hj => by
  have h : ∀ k ∈ List.range 19, defaultValue (tyX4 k) = vp_V fsX4 k := by
    simp only [show List.range 19 = [0, 1, 2, 3, 4, 5, 6, 7, 8, 9, 10, 11, 12, 13, 14, 15, 16, 17, 18] from rfl]
    exact List.forall_mem_cons.mpr ⟨rfl, List.forall_mem_cons.mpr ⟨rfl, List.forall_mem_cons.mpr ⟨rfl, List.forall_mem_cons.mpr ⟨rfl, List.forall_mem_cons.mpr ⟨rfl, List.forall_mem_cons.mpr ⟨rfl, List.forall_mem_cons.mpr ⟨rfl, List.forall_mem_cons.mpr ⟨rfl, List.forall_mem_cons.mpr ⟨rfl, List.forall_mem_cons.mpr ⟨rfl, List.forall_mem_cons.mpr ⟨rfl, List.forall_mem_cons.mpr ⟨rfl, List.forall_mem_cons.mpr ⟨rfl, List.forall_mem_cons.mpr ⟨rfl, List.forall_mem_cons.mpr ⟨rfl, List.forall_mem_cons.mpr ⟨rfl, List.forall_mem_cons.mpr ⟨rfl, List.forall_mem_cons.mpr ⟨rfl, List.forall_mem_cons.mpr ⟨rfl, List.forall_mem_nil _⟩⟩⟩⟩⟩⟩⟩⟩⟩⟩⟩⟩⟩⟩⟩⟩⟩⟩⟩
  exact h j (List.mem_range.mpr hj)
set_option maxRecDepth 100000 in
theorem iX4 : ∀ w ∈ u_ws RX4 TX4 19, w ∈ wB := by
  have h : u_ws RX4 TX4 19 = ([469, 471, 473, 475, 477, 479, 481, 483, 485, 487, 489, 491, 493, 495, 497, 499, 501, 503, 505]).filterMap (fun i => tables_1[i]?) := by decide +kernel
  intro w hw
  have hg : goodWord w = true := by
    obtain ⟨k, -, rfl⟩ := List.mem_map.mp hw
    unfold u_lay; split <;> rfl
  rw [h] at hw
  obtain ⟨i, -, hi⟩ := List.mem_filterMap.mp hw
  exact wB_t (List.mem_of_getElem? hi) hg
abbrev fsX5 : List Value := [.null, .null, .null, .null, .null, .null, .null, .int 0, .int 0, .null, .null, .null, .int 0, .int 0, .int 0, .null, .null, .null, .null]
set_option maxRecDepth 100000 in
theorem fsX5_ok : ∀ j, j < 19 → defaultValue (tyX5 j) = vp_V fsX5 j := fun j hj => by
  have h : ∀ k ∈ List.range 19, defaultValue (tyX5 k) = vp_V fsX5 k := by
    simp only [show List.range 19 = [0, 1, 2, 3, 4, 5, 6, 7, 8, 9, 10, 11, 12, 13, 14, 15, 16, 17, 18] from rfl]
    exact List.forall_mem_cons.mpr ⟨rfl, List.forall_mem_cons.mpr ⟨rfl, List.forall_mem_cons.mpr ⟨rfl, List.forall_mem_cons.mpr ⟨rfl, List.forall_mem_cons.mpr ⟨rfl, List.forall_mem_cons.mpr ⟨rfl, List.forall_mem_cons.mpr ⟨rfl, List.forall_mem_cons.mpr ⟨rfl, List.forall_mem_cons.mpr ⟨rfl, List.forall_mem_cons.mpr ⟨rfl, List.forall_mem_cons.mpr ⟨rfl, List.forall_mem_cons.mpr ⟨rfl, List.forall_mem_cons.mpr ⟨rfl, List.forall_mem_cons.mpr ⟨rfl, List.forall_mem_cons.mpr ⟨rfl, List.forall_mem_cons.mpr ⟨rfl, List.forall_mem_cons.mpr ⟨rfl, List.forall_mem_cons.mpr ⟨rfl, List.forall_mem_cons.mpr ⟨rfl, List.forall_mem_nil _⟩⟩⟩⟩⟩⟩⟩⟩⟩⟩⟩⟩⟩⟩⟩⟩⟩⟩⟩
  exact h j (List.mem_range.mpr hj)
set_option maxRecDepth 100000 in
theorem iX5 : ∀ w ∈ u_ws RX5 TX5 19, w ∈ wB := by
  have h : u_ws RX5 TX5 19 = ([325, 327, 329, 331, 333, 335, 337, 339, 341, 343, 345, 347, 349, 351, 353, 355, 357, 359, 361]).filterMap (fun i => tables_1[i]?) := by decide +kernel
  intro w hw
  have hg : goodWord w = true := by
    obtain ⟨k, -, rfl⟩ := List.mem_map.mp hw
    unfold u_lay; split <;> rfl
  rw [h] at hw
  obtain ⟨i, -, hi⟩ := List.mem_filterMap.mp hw
  exact wB_t (List.mem_of_getElem? hi) hg
abbrev fsX6 : List Value := [.null, .null, .null, .null, .null]
set_option maxRecDepth 100000 in
theorem fsX6_ok : ∀ j, j < 5 → defaultValue (tyX6 j) = vp_V fsX6 j := fun j hj => by
  have h : ∀ k ∈ List.range 5, defaultValue (tyX6 k) = vp_V fsX6 k := by
    simp only [show List.range 5 = [0, 1, 2, 3, 4] from rfl]
    exact List.forall_mem_cons.mpr ⟨rfl, List.forall_mem_cons.mpr ⟨rfl, List.forall_mem_cons.mpr ⟨rfl, List.forall_mem_cons.mpr ⟨rfl, List.forall_mem_cons.mpr ⟨rfl, List.forall_mem_nil _⟩⟩⟩⟩⟩
  exact h j (List.mem_range.mpr hj)
set_option maxRecDepth 100000 in
theorem iX6 : ∀ w ∈ u_ws RX6 TX6 5, w ∈ wB := by
  have h : u_ws RX6 TX6 5 = ([375, 377, 379, 381, 383]).filterMap (fun i => tables_1[i]?) := by decide +kernel
  intro w hw
  have hg : goodWord w = true := by
    obtain ⟨k, -, rfl⟩ := List.mem_map.mp hw
    unfold u_lay; split <;> rfl
  rw [h] at hw
  obtain ⟨i, -, hi⟩ := List.mem_filterMap.mp hw
  exact wB_t (List.mem_of_getElem? hi) hg
abbrev fsX7 : List Value := [.null, .null, .null, .null, .null, .int 0, .int 0]
set_option maxRecDepth 100000 in
theorem fsX7_ok : ∀ j, j < 7 → defaultValue (tyX7 j) = vp_V fsX7 j := fun j hj => by
  have h : ∀ k ∈ List.range 7, defaultValue (tyX7 k) = vp_V fsX7 k := by
    simp only [show List.range 7 = [0, 1, 2, 3, 4, 5, 6] from rfl]
    exact List.forall_mem_cons.mpr ⟨rfl, List.forall_mem_cons.mpr ⟨rfl, List.forall_mem_cons.mpr ⟨rfl, List.forall_mem_cons.mpr ⟨rfl, List.forall_mem_cons.mpr ⟨rfl, List.forall_mem_cons.mpr ⟨rfl, List.forall_mem_cons.mpr ⟨rfl, List.forall_mem_nil _⟩⟩⟩⟩⟩⟩⟩
  exact h j (List.mem_range.mpr hj)
set_option maxRecDepth 100000 in
theorem iX7 : ∀ w ∈ u_ws RX7 TX7 7, w ∈ wB := by
  have h : u_ws RX7 TX7 7 = ([242, 244, 246, 248, 250, 252, 254]).filterMap (fun i => tables_1[i]?) := by decide +kernel
  intro w hw
  have hg : goodWord w = true := by
    obtain ⟨k, -, rfl⟩ := List.mem_map.mp hw
    unfold u_lay; split <;> rfl
  rw [h] at hw
  obtain ⟨i, -, hi⟩ := List.mem_filterMap.mp hw
  exact wB_t (List.mem_of_getElem? hi) hg
abbrev fsX8 : List Value := [.null, .null, .null, .null, .null, .null, .null, .null, .null, .null, .null, .null, .null, .null, .null, .null, .null, .null, .int 0, .int 0]
set_option maxRecDepth 100000 in
theorem fsX8_ok : ∀ j, j < 20 → defaultValue (tyX8 j) = vp_V fsX8 j := fun j hj => by
  have h : ∀ k ∈ List.range 20, defaultValue (tyX8 k) = vp_V fsX8 k := by
    simp only [show List.range 20 = [0, 1, 2, 3, 4, 5, 6, 7, 8, 9, 10, 11, 12, 13, 14, 15, 16, 17, 18, 19] from rfl]
    exact List.forall_mem_cons.mpr ⟨rfl, List.forall_mem_cons.mpr ⟨rfl, List.forall_mem_cons.mpr ⟨rfl, List.forall_mem_cons.mpr ⟨rfl, List.forall_mem_cons.mpr ⟨rfl, List.forall_mem_cons.mpr ⟨rfl, List.forall_mem_cons.mpr ⟨rfl, List.forall_mem_cons.mpr ⟨rfl, List.forall_mem_cons.mpr ⟨rfl, List.forall_mem_cons.mpr ⟨rfl, List.forall_mem_cons.mpr ⟨rfl, List.forall_mem_cons.mpr ⟨rfl, List.forall_mem_cons.mpr ⟨rfl, List.forall_mem_cons.mpr ⟨rfl, List.forall_mem_cons.mpr ⟨rfl, List.forall_mem_cons.mpr ⟨rfl, List.forall_mem_cons.mpr ⟨rfl, List.forall_mem_cons.mpr ⟨rfl, List.forall_mem_cons.mpr ⟨rfl, List.forall_mem_cons.mpr ⟨rfl, List.forall_mem_nil _⟩⟩⟩⟩⟩⟩⟩⟩⟩⟩⟩⟩⟩⟩⟩⟩⟩⟩⟩⟩
  exact h j (List.mem_range.mpr hj)
set_option maxRecDepth 100000 in
theorem iX8 : ∀ w ∈ u_ws RX8 TX8 20, w ∈ wB := by
  have h : u_ws RX8 TX8 20 = ([745, 747, 749, 751, 753, 755, 757, 759, 761, 763, 765, 767, 769, 771, 773, 775, 777, 779, 781, 783]).filterMap (fun i => tables_1[i]?) := by decide +kernel
  intro w hw
  have hg : goodWord w = true := by
    obtain ⟨k, -, rfl⟩ := List.mem_map.mp hw
    unfold u_lay; split <;> rfl
  rw [h] at hw
  obtain ⟨i, -, hi⟩ := List.mem_filterMap.mp hw
  exact wB_t (List.mem_of_getElem? hi) hg
abbrev fsX9 : List Value := [.null, .null, .null, .null, .null, .null, .null, .int 0, .null, .int 0, .int 0, .int 0]
set_option maxRecDepth 100000 in
theorem fsX9_ok : ∀ j, j < 12 → defaultValue (tyX9 j) = vp_V fsX9 j := fun j hj => by
  have h : ∀ k ∈ List.range 12, defaultValue (tyX9 k) = vp_V fsX9 k := by
    simp only [show List.range 12 = [0, 1, 2, 3, 4, 5, 6, 7, 8, 9, 10, 11] from rfl]
    exact List.forall_mem_cons.mpr ⟨rfl, List.forall_mem_cons.mpr ⟨rfl, List.forall_mem_cons.mpr ⟨rfl, List.forall_mem_cons.mpr ⟨rfl, List.forall_mem_cons.mpr ⟨rfl, List.forall_mem_cons.mpr ⟨rfl, List.forall_mem_cons.mpr ⟨rfl, List.forall_mem_cons.mpr ⟨rfl, List.forall_mem_cons.mpr ⟨rfl, List.forall_mem_cons.mpr ⟨rfl, List.forall_mem_cons.mpr ⟨rfl, List.forall_mem_cons.mpr ⟨rfl, List.forall_mem_nil _⟩⟩⟩⟩⟩⟩⟩⟩⟩⟩⟩⟩
  exact h j (List.mem_range.mpr hj)
set_option maxRecDepth 100000 in
theorem iX9 : ∀ w ∈ u_ws RX9 TX9 12, w ∈ wB := by
  have h : u_ws RX9 TX9 12 = ([65, 67, 69, 71, 73, 75, 77, 79, 81, 83, 85, 87]).filterMap (fun i => tables_1[i]?) := by decide +kernel
  intro w hw
  have hg : goodWord w = true := by
    obtain ⟨k, -, rfl⟩ := List.mem_map.mp hw
    unfold u_lay; split <;> rfl
  rw [h] at hw
  obtain ⟨i, -, hi⟩ := List.mem_filterMap.mp hw
  exact wB_t (List.mem_of_getElem? hi) hg
abbrev fsX10 : List Value := [.null, .int 0, .int 0, .int 0, .int 0, .null, .null, .null, .null]
set_option maxRecDepth 100000 in
theorem fsX10_ok : ∀ j, j < 9 → defaultValue (tyX10 j) = vp_V fsX10 j := fun j hj => by
  have h : ∀ k ∈ List.range 9, defaultValue (tyX10 k) = vp_V fsX10 k := by
    simp only [show List.range 9 = [0, 1, 2, 3, 4, 5, 6, 7, 8] from rfl]
    exact List.forall_mem_cons.mpr ⟨rfl, List.forall_mem_cons.mpr ⟨rfl, List.forall_mem_cons.mpr ⟨rfl, List.forall_mem_cons.mpr ⟨rfl, List.forall_mem_cons.mpr ⟨rfl, List.forall_mem_cons.mpr ⟨rfl, List.forall_mem_cons.mpr ⟨rfl, List.forall_mem_cons.mpr ⟨rfl, List.forall_mem_cons.mpr ⟨rfl, List.forall_mem_nil _⟩⟩⟩⟩⟩⟩⟩⟩⟩
  exact h j (List.mem_range.mpr hj)
set_option maxRecDepth 100000 in
theorem iX10 : ∀ w ∈ u_ws RX10 TX10 9, w ∈ wB := by
  have h : u_ws RX10 TX10 9 = ([272, 274, 276, 278, 280, 282, 284, 286, 288]).filterMap (fun i => tables_1[i]?) := by decide +kernel
  intro w hw
  have hg : goodWord w = true := by
    obtain ⟨k, -, rfl⟩ := List.mem_map.mp hw
    unfold u_lay; split <;> rfl
  rw [h] at hw
  obtain ⟨i, -, hi⟩ := List.mem_filterMap.mp hw
  exact wB_t (List.mem_of_getElem? hi) hg
abbrev fsX11 : List Value := [.null, .null, .null, .null, .null, .null, .null, .null, .null, .int 0, .int 0, .int 0, .int 0, .int 0, .int 0]
set_option maxRecDepth 100000 in
theorem fsX11_ok : ∀ j, j < 15 → defaultValue (tyX11 j) = vp_V fsX11 j := fun j hj => by
  have h : ∀ k ∈ List.range 15, defaultValue (tyX11 k) = vp_V fsX11 k := by
    simp only [show List.range 15 = [0, 1, 2, 3, 4, 5, 6, 7, 8, 9, 10, 11, 12, 13, 14] from rfl]
    exact List.forall_mem_cons.mpr ⟨rfl, List.forall_mem_cons.mpr ⟨rfl, List.forall_mem_cons.mpr ⟨rfl, List.forall_mem_cons.mpr ⟨rfl, List.forall_mem_cons.mpr ⟨rfl, List.forall_mem_cons.mpr ⟨rfl, List.forall_mem_cons.mpr ⟨rfl, List.forall_mem_cons.mpr ⟨rfl, List.forall_mem_cons.mpr ⟨rfl, List.forall_mem_cons.mpr ⟨rfl, List.forall_mem_cons.mpr ⟨rfl, List.forall_mem_cons.mpr ⟨rfl, List.forall_mem_cons.mpr ⟨rfl, List.forall_mem_cons.mpr ⟨rfl, List.forall_mem_cons.mpr ⟨rfl, List.forall_mem_nil _⟩⟩⟩⟩⟩⟩⟩⟩⟩⟩⟩⟩⟩⟩⟩
  exact h j (List.mem_range.mpr hj)
set_option maxRecDepth 100000 in
theorem iX11 : ∀ w ∈ u_ws RX11 TX11 15, w ∈ wB := by
  have h : u_ws RX11 TX11 15 = ([928, 930, 932, 934, 936, 938, 940, 942, 944, 946, 948, 950, 952, 954, 956]).filterMap (fun i => tables_1[i]?) := by decide +kernel
  intro w hw
  have hg : goodWord w = true := by
    obtain ⟨k, -, rfl⟩ := List.mem_map.mp hw
    unfold u_lay; split <;> rfl
  rw [h] at hw
  obtain ⟨i, -, hi⟩ := List.mem_filterMap.mp hw
  exact wB_t (List.mem_of_getElem? hi) hg
abbrev fsX12 : List Value := [.null, .int 0, .null, .null, .null, .null, .null, .int 0, .int 0, .int 0, .null, .int 0, .int 0, .int 0, .int 0, .int 0, .int 0, .null, .null, .null, .null, .null, .null, .null, .null, .null, .null, .null, .null, .null, .null, .null, .null, .null, .null, .int 0, .null, .null, .null, .null, .null, .null, .null, .null, .null, .null, .null, .null, .int 0, .int 0, .null, .null, .int 0, .int 0, .int 0, .int 0, .int 0, .int 0, .int 0, .int 0, .int 0, .null, .null, .null, .int 0, .int 0, .int 0, .int 0, .int 0, .int 0, .int 0, .int 0, .int 0, .int 0, .int 0, .int 0, .int 0, .int 0, .int 0, .int 0, .int 0, .int 0, .long 0, .null, .null, .null, .null, .null, .null, .null, .null, .null, .null, .null, .null, .null, .null, .null, .null, .null, .null, .null, .null, .null, .null, .null, .null, .null, .null, .null, .null, .null, .null, .null, .int 0, .null, .null, .null, .null, .int 0, .int 0, .int 0, .int 0, .int 0, .int 0, .int 0, .int 0, .int 0, .int 0, .int 0, .null, .int 0, .null, .null, .null, .int 0, .int 0, .null, .null, .int 0, .null, .int 0, .int 0, .int 0, .int 0, .int 0, .null, .null, .int 0, .int 0, .null, .null, .null, .null, .null, .null, .null, .null, .null, .null, .null, .null, .int 0, .long 0, .int 0, .int 0, .int 0, .int 0]
set_option maxRecDepth 100000 in
theorem fsX12_ok : ∀ j, j < 168 → defaultValue (tyX12 j) = vp_V fsX12 j := fun j hj => by
  have h : ∀ k ∈ List.range 168, defaultValue (tyX12 k) = vp_V fsX12 k := by
    simp only [show List.range 168 = [0, 1, 2, 3, 4, 5, 6, 7, 8, 9, 10, 11, 12, 13, 14, 15, 16, 17, 18, 19, 20, 21, 22, 23, 24, 25, 26, 27, 28, 29, 30, 31, 32, 33, 34, 35, 36, 37, 38, 39, 40, 41, 42, 43, 44, 45, 46, 47, 48, 49, 50, 51, 52, 53, 54, 55, 56, 57, 58, 59, 60, 61, 62, 63, 64, 65, 66, 67, 68, 69, 70, 71, 72, 73, 74, 75, 76, 77, 78, 79, 80, 81, 82, 83, 84, 85, 86, 87, 88, 89, 90, 91, 92, 93, 94, 95, 96, 97, 98, 99, 100, 101, 102, 103, 104, 105, 106, 107, 108, 109, 110, 111, 112, 113, 114, 115, 116, 117, 118, 119, 120, 121, 122, 123, 124, 125, 126, 127, 128, 129, 130, 131, 132, 133, 134, 135, 136, 137, 138, 139, 140, 141, 142, 143, 144, 145, 146, 147, 148, 149, 150, 151, 152, 153, 154, 155, 156, 157, 158, 159, 160, 161, 162, 163, 164, 165, 166, 167] from rfl]
    exact List.forall_mem_cons.mpr ⟨rfl, List.forall_mem_cons.mpr ⟨rfl, List.forall_mem_cons.mpr ⟨rfl, List.forall_mem_cons.mpr ⟨rfl, List.forall_mem_cons.mpr ⟨rfl, List.forall_mem_cons.mpr ⟨rfl, List.forall_mem_cons.mpr ⟨rfl, List.forall_mem_cons.mpr ⟨rfl, List.forall_mem_cons.mpr ⟨rfl, List.forall_mem_cons.mpr ⟨rfl, List.forall_mem_cons.mpr ⟨rfl, List.forall_mem_cons.mpr ⟨rfl, List.forall_mem_cons.mpr ⟨rfl, List.forall_mem_cons.mpr ⟨rfl, List.forall_mem_cons.mpr ⟨rfl, List.forall_mem_cons.mpr ⟨rfl, List.forall_mem_cons.mpr ⟨rfl, List.forall_mem_cons.mpr ⟨rfl, List.forall_mem_cons.mpr ⟨rfl, List.forall_mem_cons.mpr ⟨rfl, List.forall_mem_cons.mpr ⟨rfl, List.forall_mem_cons.mpr ⟨rfl, List.forall_mem_cons.mpr ⟨rfl, List.forall_mem_cons.mpr ⟨rfl, List.forall_mem_cons.mpr ⟨rfl, List.forall_mem_cons.mpr ⟨rfl, List.forall_mem_cons.mpr ⟨rfl, List.forall_mem_cons.mpr ⟨rfl, List.forall_mem_cons.mpr ⟨rfl, List.forall_mem_cons.mpr ⟨rfl, List.forall_mem_cons.mpr ⟨rfl, List.forall_mem_cons.mpr ⟨rfl, List.forall_mem_cons.mpr ⟨rfl, List.forall_mem_cons.mpr ⟨rfl, List.forall_mem_cons.mpr ⟨rfl, List.forall_mem_cons.mpr ⟨rfl, List.forall_mem_cons.mpr ⟨rfl, List.forall_mem_cons.mpr ⟨rfl, List.forall_mem_cons.mpr ⟨rfl, List.forall_mem_cons.mpr ⟨rfl, List.forall_mem_cons.mpr ⟨rfl, List.forall_mem_cons.mpr ⟨rfl, List.forall_mem_cons.mpr ⟨rfl, List.forall_mem_cons.mpr ⟨rfl, List.forall_mem_cons.mpr ⟨rfl, List.forall_mem_cons.mpr ⟨rfl, List.forall_mem_cons.mpr ⟨rfl, List.forall_mem_cons.mpr ⟨rfl, List.forall_mem_cons.mpr ⟨rfl, List.forall_mem_cons.mpr ⟨rfl, List.forall_mem_cons.mpr ⟨rfl, List.forall_mem_cons.mpr ⟨rfl, List.forall_mem_cons.mpr ⟨rfl, List.forall_mem_cons.mpr ⟨rfl, List.forall_mem_cons.mpr ⟨rfl, List.forall_mem_cons.mpr ⟨rfl, List.forall_mem_cons.mpr ⟨rfl, List.forall_mem_cons.mpr ⟨rfl, List.forall_mem_cons.mpr ⟨rfl, List.forall_mem_cons.mpr ⟨rfl, List.forall_mem_cons.mpr ⟨rfl, List.forall_mem_cons.mpr ⟨rfl, List.forall_mem_cons.mpr ⟨rfl, List.forall_mem_cons.mpr ⟨rfl, List.forall_mem_cons.mpr ⟨rfl, List.forall_mem_cons.mpr ⟨rfl, List.forall_mem_cons.mpr ⟨rfl, List.forall_mem_cons.mpr ⟨rfl, List.forall_mem_cons.mpr ⟨rfl, List.forall_mem_cons.mpr ⟨rfl, List.forall_mem_cons.mpr ⟨rfl, List.forall_mem_cons.mpr ⟨rfl, List.forall_mem_cons.mpr ⟨rfl, List.forall_mem_cons.mpr ⟨rfl, List.forall_mem_cons.mpr ⟨rfl, List.forall_mem_cons.mpr ⟨rfl, List.forall_mem_cons.mpr ⟨rfl, List.forall_mem_cons.mpr ⟨rfl, List.forall_mem_cons.mpr ⟨rfl, List.forall_mem_cons.mpr ⟨rfl, List.forall_mem_cons.mpr ⟨rfl, List.forall_mem_cons.mpr ⟨rfl, List.forall_mem_cons.mpr ⟨rfl, List.forall_mem_cons.mpr ⟨rfl, List.forall_mem_cons.mpr ⟨rfl, List.forall_mem_cons.mpr ⟨rfl, List.forall_mem_cons.mpr ⟨rfl, List.forall_mem_cons.mpr ⟨rfl, List.forall_mem_cons.mpr ⟨rfl, List.forall_mem_cons.mpr ⟨rfl, List.forall_mem_cons.mpr ⟨rfl, List.forall_mem_cons.mpr ⟨rfl, List.forall_mem_cons.mpr ⟨rfl, List.forall_mem_cons.mpr ⟨rfl, List.forall_mem_cons.mpr ⟨rfl, List.forall_mem_cons.mpr ⟨rfl, List.forall_mem_cons.mpr ⟨rfl, List.forall_mem_cons.mpr ⟨rfl, List.forall_mem_cons.mpr ⟨rfl, List.forall_mem_cons.mpr ⟨rfl, List.forall_mem_cons.mpr ⟨rfl, List.forall_mem_cons.mpr ⟨rfl, List.forall_mem_cons.mpr ⟨rfl, List.forall_mem_cons.mpr ⟨rfl, List.forall_mem_cons.mpr ⟨rfl, List.forall_mem_cons.mpr ⟨rfl, List.forall_mem_cons.mpr ⟨rfl, List.forall_mem_cons.mpr ⟨rfl, List.forall_mem_cons.mpr ⟨rfl, List.forall_mem_cons.mpr ⟨rfl, List.forall_mem_cons.mpr ⟨rfl, List.forall_mem_cons.mpr ⟨rfl, List.forall_mem_cons.mpr ⟨rfl, List.forall_mem_cons.mpr ⟨rfl, List.forall_mem_cons.mpr ⟨rfl, List.forall_mem_cons.mpr ⟨rfl, List.forall_mem_cons.mpr ⟨rfl, List.forall_mem_cons.mpr ⟨rfl, List.forall_mem_cons.mpr ⟨rfl, List.forall_mem_cons.mpr ⟨rfl, List.forall_mem_cons.mpr ⟨rfl, List.forall_mem_cons.mpr ⟨rfl, List.forall_mem_cons.mpr ⟨rfl, List.forall_mem_cons.mpr ⟨rfl, List.forall_mem_cons.mpr ⟨rfl, List.forall_mem_cons.mpr ⟨rfl, List.forall_mem_cons.mpr ⟨rfl, List.forall_mem_cons.mpr ⟨rfl, List.forall_mem_cons.mpr ⟨rfl, List.forall_mem_cons.mpr ⟨rfl, List.forall_mem_cons.mpr ⟨rfl, List.forall_mem_cons.mpr ⟨rfl, List.forall_mem_cons.mpr ⟨rfl, List.forall_mem_cons.mpr ⟨rfl, List.forall_mem_cons.mpr ⟨rfl, List.forall_mem_cons.mpr ⟨rfl, List.forall_mem_cons.mpr ⟨rfl, List.forall_mem_cons.mpr ⟨rfl, List.forall_mem_cons.mpr ⟨rfl, List.forall_mem_cons.mpr ⟨rfl, List.forall_mem_cons.mpr ⟨rfl, List.forall_mem_cons.mpr ⟨rfl, List.forall_mem_cons.mpr ⟨rfl, List.forall_mem_cons.mpr ⟨rfl, List.forall_mem_cons.mpr ⟨rfl, List.forall_mem_cons.mpr ⟨rfl, List.forall_mem_cons.mpr ⟨rfl, List.forall_mem_cons.mpr ⟨rfl, List.forall_mem_cons.mpr ⟨rfl, List.forall_mem_cons.mpr ⟨rfl, List.forall_mem_cons.mpr ⟨rfl, List.forall_mem_cons.mpr ⟨rfl, List.forall_mem_cons.mpr ⟨rfl, List.forall_mem_cons.mpr ⟨rfl, List.forall_mem_cons.mpr ⟨rfl, List.forall_mem_cons.mpr ⟨rfl, List.forall_mem_cons.mpr ⟨rfl, List.forall_mem_cons.mpr ⟨rfl, List.forall_mem_cons.mpr ⟨rfl, List.forall_mem_cons.mpr ⟨rfl, List.forall_mem_cons.mpr ⟨rfl, List.forall_mem_cons.mpr ⟨rfl, List.forall_mem_cons.mpr ⟨rfl, List.forall_mem_cons.mpr ⟨rfl, List.forall_mem_cons.mpr ⟨rfl, List.forall_mem_cons.mpr ⟨rfl, List.forall_mem_cons.mpr ⟨rfl, List.forall_mem_cons.mpr ⟨rfl, List.forall_mem_nil _⟩⟩⟩⟩⟩⟩⟩⟩⟩⟩⟩⟩⟩⟩⟩⟩⟩⟩⟩⟩⟩⟩⟩⟩⟩⟩⟩⟩⟩⟩⟩⟩⟩⟩⟩⟩⟩⟩⟩⟩⟩⟩⟩⟩⟩⟩⟩⟩⟩⟩⟩⟩⟩⟩⟩⟩⟩⟩⟩⟩⟩⟩⟩⟩⟩⟩⟩⟩⟩⟩⟩⟩⟩⟩⟩⟩⟩⟩⟩⟩⟩⟩⟩⟩⟩⟩⟩⟩⟩⟩⟩⟩⟩⟩⟩⟩⟩⟩⟩⟩⟩⟩⟩⟩⟩⟩⟩⟩⟩⟩⟩⟩⟩⟩⟩⟩⟩⟩⟩⟩⟩⟩⟩⟩⟩⟩⟩⟩⟩⟩⟩⟩⟩⟩⟩⟩⟩⟩⟩⟩⟩⟩⟩⟩⟩⟩⟩⟩⟩⟩⟩⟩⟩⟩⟩⟩⟩⟩⟩⟩⟩⟩⟩⟩⟩⟩⟩⟩
  exact h j (List.mem_range.mpr hj)
set_option maxRecDepth 100000 in
theorem iX12 : ∀ w ∈ u_ws RX12 TX12 168, w ∈ wB := by
  have h : u_ws RX12 TX12 168 = ([2580, 2582, 2584, 2586, 2588, 2590, 2592, 2594, 2596, 2598, 2600, 2602, 2604, 2606, 2608, 2610, 2612, 2614, 2616, 2618, 2620, 2622, 2624, 2626, 2628, 2630, 2632, 2634, 2636, 2638, 2640, 2642, 2644, 2646, 2648, 2650, 2652, 2654, 2656, 2658, 2660, 2662, 2664, 2666, 2668, 2670, 2672, 2674, 2676, 2678, 2680, 2682, 2684, 2686, 2688, 2690, 2692, 2694, 2696, 2698, 2700, 2702, 2704, 2706, 2708, 2710, 2712, 2714, 2716, 2718, 2720, 2722, 2724, 2726, 2728, 2730, 2732, 2734, 2736, 2738, 2740, 2742, 2744, 2746, 2748, 2750, 2752, 2754, 2756, 2758, 2760, 2762, 2764, 2766, 2768, 2770, 2772, 2774, 2776, 2778, 2780, 2782, 2784, 2786, 2788, 2790, 2792, 2794, 2796, 2798, 2800, 2802, 2804, 2806, 2808, 2810, 2812, 2814, 2816, 2818, 2820, 2822, 2824, 2826, 2828, 2830, 2832, 2834, 2836, 2838, 2840, 2842, 2844, 2846, 2848, 2850, 2852, 2854, 2856, 2858, 2860, 2862, 2864, 2866, 2868, 2870, 2872, 2874, 2876, 2878, 2880, 2882, 2884, 2886, 2888, 2890, 2892, 2894, 2896, 2898, 2900, 2902, 2904, 2906, 2908, 2910, 2912, 2914]).filterMap (fun i => tables_1[i]?) := by decide +kernel
  intro w hw
  have hg : goodWord w = true := by
    obtain ⟨k, -, rfl⟩ := List.mem_map.mp hw
    unfold u_lay; split <;> rfl
  rw [h] at hw
  obtain ⟨i, -, hi⟩ := List.mem_filterMap.mp hw
  exact wB_t (List.mem_of_getElem? hi) hg
abbrev cX0_init : ByteArray := prog_2_method_1_code
def yX0_init : MethodName := ⟨RX0, "<init>", "(LFrostHouse$Tokens;)V"⟩
abbrev cX0_readProgram : ByteArray := prog_2_method_2_code
def yX0_readProgram : MethodName := ⟨RX0, "readProgram", "()V"⟩
abbrev cX0_readClassHead : ByteArray := prog_2_method_3_code
def yX0_readClassHead : MethodName := ⟨RX0, "readClassHead", "()V"⟩
abbrev cX0_isGood : ByteArray := prog_2_method_21_code
def yX0_isGood : MethodName := ⟨RX0, "isGood", "()Z"⟩
abbrev cX0_accept : ByteArray := prog_2_method_23_code
def yX0_accept : MethodName := ⟨RX0, "accept", "(I)Z"⟩
abbrev cX0_need : ByteArray := prog_2_method_24_code
def yX0_need : MethodName := ⟨RX0, "need", "(I)V"⟩
abbrev cX1_init : ByteArray := prog_3_method_1_code
def yX1_init : MethodName := ⟨RX1, "<init>", "()V"⟩
abbrev cX2_init : ByteArray := prog_4_method_1_code
def yX2_init : MethodName := ⟨RX2, "<init>", "()V"⟩
abbrev cX3_init : ByteArray := prog_5_method_1_code
def yX3_init : MethodName := ⟨RX3, "<init>", "()V"⟩
abbrev cX3_make : ByteArray := prog_5_method_2_code
def yX3_make : MethodName := ⟨RX3, "make", "(LFrostHouse$Program;)I"⟩
abbrev cX3_faultPlace : ByteArray := prog_5_method_3_code
def yX3_faultPlace : MethodName := ⟨RX3, "faultPlace", "(I)I"⟩
abbrev cX3_note : ByteArray := prog_5_method_5_code
def yX3_note : MethodName := ⟨RX3, "note", "(II)V"⟩
abbrev cX4_init : ByteArray := prog_6_method_1_code
def yX4_init : MethodName := ⟨RX4, "<init>", "()V"⟩
abbrev cX4_setText : ByteArray := prog_6_method_2_code
def yX4_setText : MethodName := ⟨RX4, "setText", "([BII)V"⟩
abbrev cX5_init : ByteArray := prog_7_method_1_code
def yX5_init : MethodName := ⟨RX5, "<init>", "()V"⟩
abbrev cX5_layoutFault : ByteArray := prog_7_method_3_code
def yX5_layoutFault : MethodName := ⟨RX5, "layoutFault", "([BI)I"⟩
abbrev cX6_init : ByteArray := prog_8_method_1_code
def yX6_init : MethodName := ⟨RX6, "<init>", "()V"⟩
abbrev cX7_init : ByteArray := prog_9_method_1_code
def yX7_init : MethodName := ⟨RX7, "<init>", "()V"⟩
abbrev cX8_init : ByteArray := prog_10_method_1_code
def yX8_init : MethodName := ⟨RX8, "<init>", "()V"⟩
abbrev cX9_init : ByteArray := prog_11_method_1_code
def yX9_init : MethodName := ⟨RX9, "<init>", "()V"⟩
abbrev cX9_readAll : ByteArray := prog_11_method_2_code
def yX9_readAll : MethodName := ⟨RX9, "readAll", "([BI)V"⟩
abbrev cX9_add : ByteArray := prog_11_method_11_code
def yX9_add : MethodName := ⟨RX9, "add", "(IIII)V"⟩
abbrev cX10_init : ByteArray := prog_12_method_1_code
def yX10_init : MethodName := ⟨RX10, "<init>", "()V"⟩
abbrev cX11_init : ByteArray := prog_1_method_1_code
def yX11_init : MethodName := ⟨RX11, "<init>", "()V"⟩
abbrev cX11_feed : ByteArray := prog_1_method_2_code
def yX11_feed : MethodName := ⟨RX11, "feed", "(IIIII)I"⟩
abbrev cX11_end : ByteArray := prog_1_method_3_code
def yX11_end : MethodName := ⟨RX11, "end", "(I)Z"⟩
abbrev cX11_load : ByteArray := prog_1_method_4_code
def yX11_load : MethodName := ⟨RX11, "load", "(I)I"⟩
abbrev cX11_fault : ByteArray := prog_1_method_5_code
def yX11_fault : MethodName := ⟨RX11, "fault", "(I)I"⟩
abbrev cX11_run : ByteArray := prog_1_method_6_code
def yX11_run : MethodName := ⟨RX11, "run", "(I)I"⟩
abbrev cX11_about : ByteArray := prog_1_method_7_code
def yX11_about : MethodName := ⟨RX11, "about", "(I)I"⟩
abbrev cX11_clock : ByteArray := prog_1_method_8_code
def yX11_clock : MethodName := ⟨RX11, "clock", "()J"⟩
abbrev cX11_out : ByteArray := prog_1_method_9_code
def yX11_out : MethodName := ⟨RX11, "out", "(I)I"⟩
abbrev cX11_freeze : ByteArray := prog_1_method_10_code
def yX11_freeze : MethodName := ⟨RX11, "freeze", "()I"⟩
abbrev cX11_image : ByteArray := prog_1_method_11_code
def yX11_image : MethodName := ⟨RX11, "image", "(I)I"⟩
abbrev cX11_take : ByteArray := prog_1_method_12_code
def yX11_take : MethodName := ⟨RX11, "take", "()I"⟩
abbrev cX11_patch : ByteArray := prog_1_method_13_code
def yX11_patch : MethodName := ⟨RX11, "patch", "(II)Z"⟩
abbrev cX11_seal : ByteArray := prog_1_method_14_code
def yX11_seal : MethodName := ⟨RX11, "seal", "()Z"⟩
abbrev cX11_restore : ByteArray := prog_1_method_15_code
def yX11_restore : MethodName := ⟨RX11, "restore", "(JI)I"⟩
abbrev cX11_thaw : ByteArray := prog_1_method_16_code
def yX11_thaw : MethodName := ⟨RX11, "thaw", "()Z"⟩
abbrev cX11_thread : ByteArray := prog_1_method_17_code
def yX11_thread : MethodName := ⟨RX11, "thread", "(II)I"⟩
abbrev cX11_method : ByteArray := prog_1_method_18_code
def yX11_method : MethodName := ⟨RX11, "method", "(II)I"⟩
abbrev cX11_klass : ByteArray := prog_1_method_19_code
def yX11_klass : MethodName := ⟨RX11, "klass", "(II)I"⟩
abbrev cX11_refuse : ByteArray := prog_1_method_21_code
def yX11_refuse : MethodName := ⟨RX11, "refuse", "(II)I"⟩
abbrev cX11_setFour : ByteArray := prog_1_method_22_code
def yX11_setFour : MethodName := ⟨RX11, "setFour", "([BII)V"⟩
abbrev cX11_fourAt : ByteArray := prog_1_method_23_code
def yX11_fourAt : MethodName := ⟨RX11, "fourAt", "([BI)I"⟩
abbrev cX11_crcOf : ByteArray := prog_1_method_24_code
def yX11_crcOf : MethodName := ⟨RX11, "crcOf", "([BI)I"⟩
abbrev cX12_good : ByteArray := prog_14_method_1_code
def yX12_good : MethodName := ⟨RX12, "good", "()Z"⟩
abbrev cX12_wrong : ByteArray := prog_14_method_2_code
def yX12_wrong : MethodName := ⟨RX12, "wrong", "(II)V"⟩
abbrev cX12_readTokens : ByteArray := prog_14_method_8_code
def yX12_readTokens : MethodName := ⟨RX12, "readTokens", "()V"⟩
abbrev cX12_isWord : ByteArray := prog_14_method_13_code
def yX12_isWord : MethodName := ⟨RX12, "isWord", "(I)Z"⟩
abbrev cX12_bad : ByteArray := prog_14_method_16_code
def yX12_bad : MethodName := ⟨RX12, "bad", "()V"⟩
abbrev cX12_next : ByteArray := prog_14_method_17_code
def yX12_next : MethodName := ⟨RX12, "next", "()V"⟩
abbrev cX12_need : ByteArray := prog_14_method_18_code
def yX12_need : MethodName := ⟨RX12, "need", "(I)V"⟩
abbrev cX12_needName : ByteArray := prog_14_method_19_code
def yX12_needName : MethodName := ⟨RX12, "needName", "()I"⟩
abbrev cX12_open : ByteArray := prog_14_method_20_code
def yX12_open : MethodName := ⟨RX12, "open", "()V"⟩
abbrev cX12_close : ByteArray := prog_14_method_21_code
def yX12_close : MethodName := ⟨RX12, "close", "()V"⟩
abbrev cX12_needOpen : ByteArray := prog_14_method_22_code
def yX12_needOpen : MethodName := ⟨RX12, "needOpen", "(I)V"⟩
abbrev cX12_needClose : ByteArray := prog_14_method_23_code
def yX12_needClose : MethodName := ⟨RX12, "needClose", "(I)V"⟩
abbrev cX12_program : ByteArray := prog_14_method_24_code
def yX12_program : MethodName := ⟨RX12, "program", "()V"⟩
abbrev cX12_classHead : ByteArray := prog_14_method_25_code
def yX12_classHead : MethodName := ⟨RX12, "classHead", "()V"⟩
abbrev cX12_compile : ByteArray := prog_14_method_82_code
def yX12_compile : MethodName := ⟨RX12, "compile", "()Z"⟩
abbrev cX12_faultKind : ByteArray := prog_14_method_83_code
def yX12_faultKind : MethodName := ⟨RX12, "faultKind", "()I"⟩
abbrev cX12_no : ByteArray := prog_14_method_172_code
def yX12_no : MethodName := ⟨RX12, "no", "(II)Z"⟩
abbrev cX12_isFramed : ByteArray := prog_14_method_174_code
def yX12_isFramed : MethodName := ⟨RX12, "isFramed", "()Z"⟩
abbrev cX12_init : ByteArray := prog_14_method_208_code
def yX12_init : MethodName := ⟨RX12, "<init>", "()V"⟩
abbrev cX12_programIs : ByteArray := prog_14_method_210_code
def yX12_programIs : MethodName := ⟨RX12, "programIs", "(II)Z"⟩
abbrev cX12_again : ByteArray := prog_14_method_211_code
def yX12_again : MethodName := ⟨RX12, "again", "()V"⟩
abbrev cX12_feed : ByteArray := prog_14_method_213_code
def yX12_feed : MethodName := ⟨RX12, "feed", "(IIIII)I"⟩
abbrev cX12_end : ByteArray := prog_14_method_214_code
def yX12_end : MethodName := ⟨RX12, "end", "(I)Z"⟩
abbrev cX12_load : ByteArray := prog_14_method_215_code
def yX12_load : MethodName := ⟨RX12, "load", "(I)I"⟩
abbrev cX12_fault : ByteArray := prog_14_method_216_code
def yX12_fault : MethodName := ⟨RX12, "fault", "(I)I"⟩
abbrev cX12_run : ByteArray := prog_14_method_217_code
def yX12_run : MethodName := ⟨RX12, "run", "(I)I"⟩
abbrev cX12_about : ByteArray := prog_14_method_218_code
def yX12_about : MethodName := ⟨RX12, "about", "(I)I"⟩
abbrev cX12_clock : ByteArray := prog_14_method_219_code
def yX12_clock : MethodName := ⟨RX12, "clock", "()J"⟩
abbrev cX12_out : ByteArray := prog_14_method_220_code
def yX12_out : MethodName := ⟨RX12, "out", "(I)I"⟩
abbrev cX12_freeze : ByteArray := prog_14_method_221_code
def yX12_freeze : MethodName := ⟨RX12, "freeze", "()I"⟩
abbrev cX12_image_ : ByteArray := prog_14_method_222_code
def yX12_image_ : MethodName := ⟨RX12, "image", "(I)I"⟩
abbrev cX12_take : ByteArray := prog_14_method_223_code
def yX12_take : MethodName := ⟨RX12, "take", "()I"⟩
abbrev cX12_patch : ByteArray := prog_14_method_224_code
def yX12_patch : MethodName := ⟨RX12, "patch", "(II)Z"⟩
abbrev cX12_seal : ByteArray := prog_14_method_225_code
def yX12_seal : MethodName := ⟨RX12, "seal", "()Z"⟩
abbrev cX12_restore : ByteArray := prog_14_method_226_code
def yX12_restore : MethodName := ⟨RX12, "restore", "(JI)I"⟩
abbrev cX12_thaw : ByteArray := prog_14_method_229_code
def yX12_thaw : MethodName := ⟨RX12, "thaw", "()Z"⟩
abbrev cX12_thread_ : ByteArray := prog_14_method_230_code
def yX12_thread_ : MethodName := ⟨RX12, "thread", "(II)I"⟩
abbrev cX12_method_ : ByteArray := prog_14_method_231_code
def yX12_method_ : MethodName := ⟨RX12, "method", "(II)I"⟩
abbrev cX12_klass : ByteArray := prog_14_method_232_code
def yX12_klass : MethodName := ⟨RX12, "klass", "(II)I"⟩
abbrev cJ9_max_7cf53 : ByteArray := prog_17_method_65_code
def yJ9_max_7cf53 : MethodName := ⟨RJ9, "max", "(II)I"⟩
abbrev cJ9_min_7cf53 : ByteArray := prog_17_method_69_code
def yJ9_min_7cf53 : MethodName := ⟨RJ9, "min", "(II)I"⟩
abbrev cJ7_fill_53178 : ByteArray := prog_22_method_103_code
def yJ7_fill_53178 : MethodName := ⟨RJ7, "fill", "([II)V"⟩
abbrev cL_law : ByteArray := code
def yL_law : MethodName := ⟨RL, "law", "([I)Z"⟩
def aoI (U : State) : Prop := (Cond.arrayOver (.array .int)).before #[] U = true
theorem aoI.use {A : Array Value} {U : State} (h : aoI U) : (Cond.arrayOver (.array .int)).before A U = true := h
theorem aoI.moved {u U : State} (hvm : u.vm.Alike U.vm) (h : aoI u) : aoI U := by
  obtain ⟨comp, c, k, h1, h2, h3, h4, h5⟩ := arrayOverA_spec h
  obtain ⟨k', hk', he⟩ := hvm.2.2 _ _ h3
  have hi0 := (va_idx_bare U.vm comp).symm
  rw [show U.vm.bare = u.vm.bare from (by first | exact hvm.bare_eq | exact hvm.bare_eq.symm)] at hi0
  have hi := hi0.trans ((va_idx_bare u.vm comp).trans h2)
  have hkind : k'.kind = .array comp (.array .int) := by rw [he]; exact h4
  have f1 : U.vm.findClass (FieldType.array .int).toString = some comp := by rw [hvm.findClass]; exact h1
  have f2 : U.vm.findClass ("[" ++ (FieldType.array .int).toString) = some c := by rw [hvm.findClass]; exact h5
  unfold aoI Cond.before Cond.holds
  simp only [Cond.value]
  rw [f1, Option.bind_some]
  refine (congrArg (fun o : Option Nat => (o.bind (fun c => (U.vm.classes[c]?).map fun (k : Class) => match k.kind with | .array _ ty => decide (ty = FieldType.array .int) && decide (U.vm.findClass ("[" ++ (FieldType.array .int).toString) = some c) | _ => false) == some true)) hi).trans ?_
  simp [hk', hkind, f2]
def nw (U : State) : Prop := va_Nw (.methodLinkNest RX11 19 yX3_init "FrostHouse") U ∧ va_Nw (.methodLinkNest RX11 26 yX7_init "FrostHouse") U ∧ va_Nw (.methodLinkNest RX11 47 yX6_init "FrostHouse") U ∧ va_Nw (.methodLinkNest RX2 11 yX4_init "FrostHouse") U ∧ va_Nw (.methodLinkNest RX2 20 yX1_init "FrostHouse") U ∧ va_Nw (.methodLinkNest RX2 27 yX8_init "FrostHouse") U ∧ va_Nw (.methodLinkNest RX5 49 yX11_fourAt "FrostHouse") U ∧ va_Nw (.methodLinkNest RX10 71 yX11_crcOf "FrostHouse") U ∧ aoI U
theorem nw_same {u U : State} (h : u.vm = U.vm) (hN : nw u) : nw U := by
  obtain ⟨h0, h1, h2, h3, h4, h5, h6, h7, h8⟩ := hN
  exact ⟨va_Nw.same rfl h h0, va_Nw.same rfl h h1, va_Nw.same rfl h h2, va_Nw.same rfl h h3, va_Nw.same rfl h h4, va_Nw.same rfl h h5, va_Nw.same rfl h h6, va_Nw.same rfl h h7, h8.moved (by rw [h]; exact Vm.Alike.refl _)⟩
theorem nw_warm {s U : State} (hW : s.WarmedH U.vm) (hN : nw s) : nw U := by
  obtain ⟨h0, h1, h2, h3, h4, h5, h6, h7, h8⟩ := hN
  exact ⟨va_Nw.warmM hW h0, va_Nw.warmM hW h1, va_Nw.warmM hW h2, va_Nw.warmM hW h3, va_Nw.warmM hW h4, va_Nw.warmM hW h5, va_Nw.warmM hW h6, va_Nw.warmM hW h7, h8.moved hW.alike⟩
theorem nw_a {U : State} (hN : nw U) : aoI U := hN.2.2.2.2.2.2.2.2
theorem nw_0 {U : State} (hN : nw U) : va_Nw (.methodLinkNest RX11 19 yX3_init "FrostHouse") U := hN.1
theorem nw_1 {U : State} (hN : nw U) : va_Nw (.methodLinkNest RX11 26 yX7_init "FrostHouse") U := hN.2.1
theorem nw_2 {U : State} (hN : nw U) : va_Nw (.methodLinkNest RX11 47 yX6_init "FrostHouse") U := hN.2.2.1
theorem nw_3 {U : State} (hN : nw U) : va_Nw (.methodLinkNest RX2 11 yX4_init "FrostHouse") U := hN.2.2.2.1
theorem nw_4 {U : State} (hN : nw U) : va_Nw (.methodLinkNest RX2 20 yX1_init "FrostHouse") U := hN.2.2.2.2.1
theorem nw_5 {U : State} (hN : nw U) : va_Nw (.methodLinkNest RX2 27 yX8_init "FrostHouse") U := hN.2.2.2.2.2.1
theorem nw_6 {U : State} (hN : nw U) : va_Nw (.methodLinkNest RX5 49 yX11_fourAt "FrostHouse") U := hN.2.2.2.2.2.2.1
theorem nw_7 {U : State} (hN : nw U) : va_Nw (.methodLinkNest RX10 71 yX11_crcOf "FrostHouse") U := hN.2.2.2.2.2.2.2.1
