/-! names: my own tables over the printed names; the words are taken by their places in lw_tbl -/
abbrev Mt : Type := MethodName × ByteArray × Nat × Option FieldType
def TBL : List Cond := lw_tbl.filter goodWord
theorem TBL_in {w : Cond} (i : Nat) (h : lw_tbl[i]? = some w) (hg : goodWord w = true) : w ∈ TBL := List.mem_filter.mpr ⟨List.mem_of_getElem? h, hg⟩
theorem TBL_ps {ws : List Cond} (ps : List Nat) (hp : ws = ps.filterMap (fun i => lw_tbl[i]?)) (hg : ws.all goodWord = true) : ∀ w ∈ ws, w ∈ TBL := by
  intro w hw
  have h1 := List.all_eq_true.mp hg w hw
  rw [hp] at hw
  obtain ⟨i, -, hi⟩ := List.mem_filterMap.mp hw
  exact TBL_in i hi h1
theorem TBL_good : GoodIn TBL TBL := fun _ h => ⟨h, good_of_word (List.mem_filter.mp h).2⟩
abbrev wsM (M : Mt) : List Cond := Cond.code M.1 M.2.1 M.2.2.1 M.2.2.2 :: TBL
/-- a method's own words (an instance method, a static one) -/
def MKV (M : Mt) (n : Nat) : Prop := Cond.instanceMethod M.1 ∈ TBL ∧ Cond.selects M.1.cls M.1 M.1 ∈ TBL ∧ Cond.initialized M.1.cls ∈ TBL ∧ Cond.code M.1 M.2.1 M.2.2.1 M.2.2.2 ∈ TBL ∧ (M.1.cls ≠ "java/lang/invoke/MethodHandle" ∧ M.1.cls ≠ "java/lang/invoke/VarHandle" ∧ (parseMethodDescriptor M.1.desc).map (fun d => d.parameters.length) = some n) ∧ plainName M.1.cls = true
def MKS (M : Mt) (n : Nat) : Prop := Cond.static M.1 ∈ TBL ∧ Cond.initialized M.1.cls ∈ TBL ∧ Cond.code M.1 M.2.1 M.2.2.1 M.2.2.2 ∈ TBL ∧ (M.1.cls ≠ "java/lang/invoke/MethodHandle" ∧ M.1.cls ≠ "java/lang/invoke/VarHandle" ∧ (parseMethodDescriptor M.1.desc).map (fun d => d.parameters.length) = some n)
def RX0 : String := "MicrocodeOptimizer$Fields"
def TX0 : u_T := fun k => match k with
  | 0 => ("MicrocodeOptimizer$Fields", "isKnown", "Z", false)
  | 1 => ("MicrocodeOptimizer$Fields", "count", "I", false)
  | 2 => ("MicrocodeOptimizer$Fields", "bits", "I", false)
  | 3 => ("MicrocodeOptimizer$Fields", "numbers", "[I", true)
  | 4 => ("MicrocodeOptimizer$Fields", "codes", "[I", true)
  | 5 => ("MicrocodeOptimizer$Fields", "shifts", "[I", true)
  | 6 => ("MicrocodeOptimizer$Fields", "together", "[I", true)
  | 7 => ("MicrocodeOptimizer$Fields", "costs", "[I", true)
  | _ => ("MicrocodeOptimizer$Fields", "firstFields", "[I", true)
def tyX0 : Nat → FieldType := fun k => match k with
  | 0 => .boolean
  | 1 => .int
  | 2 => .int
  | 3 => .array .int
  | 4 => .array .int
  | 5 => .array .int
  | 6 => .array .int
  | 7 => .array .int
  | _ => .array .int
theorem nmX0 : ∀ a, a < 9 → ∀ b, b < 9 → a ≠ b → (TX0 a).2.1 ≠ (TX0 b).2.1 := by decide +kernel
theorem tyX0_ok : ∀ k, k < 9 → parseFieldDescriptor (TX0 k).2.2.1 = some (tyX0 k) := by decide +kernel
def RX1 : String := "MicrocodeOptimizer$History"
def TX1 : u_T := fun k => match k with
  | 0 => ("MicrocodeOptimizer$History", "positions", "[I", true)
  | 1 => ("MicrocodeOptimizer$History", "formers", "[I", true)
  | _ => ("MicrocodeOptimizer$History", "size", "I", false)
def tyX1 : Nat → FieldType := fun k => match k with
  | 0 => .array .int
  | 1 => .array .int
  | _ => .int
theorem nmX1 : ∀ a, a < 3 → ∀ b, b < 3 → a ≠ b → (TX1 a).2.1 ≠ (TX1 b).2.1 := by decide +kernel
theorem tyX1_ok : ∀ k, k < 3 → parseFieldDescriptor (TX1 k).2.2.1 = some (tyX1 k) := by decide +kernel
def RX2 : String := "MicrocodeOptimizer$Input"
def TX2 : u_T := fun k => match k with
  | 0 => ("MicrocodeOptimizer$Input", "size", "I", false)
  | 1 => ("MicrocodeOptimizer$Input", "text", "[B", true)
  | 2 => ("MicrocodeOptimizer$Input", "at", "I", false)
  | 3 => ("MicrocodeOptimizer$Input", "token", "I", false)
  | 4 => ("MicrocodeOptimizer$Input", "offset", "I", false)
  | 5 => ("MicrocodeOptimizer$Input", "name", "J", false)
  | 6 => ("MicrocodeOptimizer$Input", "number", "I", false)
  | _ => ("MicrocodeOptimizer$Input", "error", "I", false)
def tyX2 : Nat → FieldType := fun k => match k with
  | 0 => .int
  | 1 => .array .byte
  | 2 => .int
  | 3 => .int
  | 4 => .int
  | 5 => .long
  | 6 => .int
  | _ => .int
theorem nmX2 : ∀ a, a < 8 → ∀ b, b < 8 → a ≠ b → (TX2 a).2.1 ≠ (TX2 b).2.1 := by decide +kernel
theorem tyX2_ok : ∀ k, k < 8 → parseFieldDescriptor (TX2 k).2.2.1 = some (tyX2 k) := by decide +kernel
def RX3 : String := "MicrocodeOptimizer$Output"
def TX3 : u_T := fun k => match k with
  | 0 => ("MicrocodeOptimizer$Output", "bytes", "[B", true)
  | _ => ("MicrocodeOptimizer$Output", "size", "I", false)
def tyX3 : Nat → FieldType := fun k => match k with
  | 0 => .array .byte
  | _ => .int
theorem nmX3 : ∀ a, a < 2 → ∀ b, b < 2 → a ≠ b → (TX3 a).2.1 ≠ (TX3 b).2.1 := by decide +kernel
theorem tyX3_ok : ∀ k, k < 2 → parseFieldDescriptor (TX3 k).2.2.1 = some (tyX3 k) := by decide +kernel
def RX4 : String := "MicrocodeOptimizer$Packer"
def TX4 : u_T := fun k => match k with
  | 0 => ("MicrocodeOptimizer$Packer", "packing", "[I", true)
  | 1 => ("MicrocodeOptimizer$Packer", "count", "I", false)
  | 2 => ("MicrocodeOptimizer$Packer", "depth", "I", false)
  | 3 => ("MicrocodeOptimizer$Packer", "size", "I", false)
  | 4 => ("MicrocodeOptimizer$Packer", "unitOf", "[I", true)
  | 5 => ("MicrocodeOptimizer$Packer", "strict", "[I", true)
  | 6 => ("MicrocodeOptimizer$Packer", "weak", "[I", true)
  | 7 => ("MicrocodeOptimizer$Packer", "heights", "[I", true)
  | 8 => ("MicrocodeOptimizer$Packer", "ofUnit", "[I", true)
  | 9 => ("MicrocodeOptimizer$Packer", "tooFew", "[I", true)
  | 10 => ("MicrocodeOptimizer$Packer", "search", "I", false)
  | _ => ("MicrocodeOptimizer$Packer", "wanted", "I", false)
def tyX4 : Nat → FieldType := fun k => match k with
  | 0 => .array .int
  | 1 => .int
  | 2 => .int
  | 3 => .int
  | 4 => .array .int
  | 5 => .array .int
  | 6 => .array .int
  | 7 => .array .int
  | 8 => .array .int
  | 9 => .array .int
  | 10 => .int
  | _ => .int
theorem nmX4 : ∀ a, a < 12 → ∀ b, b < 12 → a ≠ b → (TX4 a).2.1 ≠ (TX4 b).2.1 := by decide +kernel
theorem tyX4_ok : ∀ k, k < 12 → parseFieldDescriptor (TX4 k).2.2.1 = some (tyX4 k) := by decide +kernel
def RX5 : String := "MicrocodeOptimizer$Processor"
def TX5 : u_T := fun k => match k with
  | 0 => ("MicrocodeOptimizer$Processor", "registers", "[I", true)
  | 1 => ("MicrocodeOptimizer$Processor", "address", "I", false)
  | 2 => ("MicrocodeOptimizer$Processor", "values", "[I", true)
  | 3 => ("MicrocodeOptimizer$Processor", "fromSource", "[I", true)
  | _ => ("MicrocodeOptimizer$Processor", "fromStore", "[I", true)
def tyX5 : Nat → FieldType := fun k => match k with
  | 0 => .array .int
  | 1 => .int
  | 2 => .array .int
  | 3 => .array .int
  | _ => .array .int
theorem nmX5 : ∀ a, a < 5 → ∀ b, b < 5 → a ≠ b → (TX5 a).2.1 ≠ (TX5 b).2.1 := by decide +kernel
theorem tyX5_ok : ∀ k, k < 5 → parseFieldDescriptor (TX5 k).2.2.1 = some (tyX5 k) := by decide +kernel
def RX6 : String := "MicrocodeOptimizer$Source"
def TX6 : u_T := fun k => match k with
  | 0 => ("MicrocodeOptimizer$Source", "operations", "I", false)
  | 1 => ("MicrocodeOptimizer$Source", "operationNames", "[J", true)
  | 2 => ("MicrocodeOptimizer$Source", "units", "[I", true)
  | 3 => ("MicrocodeOptimizer$Source", "targets", "[I", true)
  | 4 => ("MicrocodeOptimizer$Source", "kinds", "[I", true)
  | 5 => ("MicrocodeOptimizer$Source", "firsts", "[I", true)
  | 6 => ("MicrocodeOptimizer$Source", "seconds", "[I", true)
  | 7 => ("MicrocodeOptimizer$Source", "reads", "[I", true)
  | 8 => ("MicrocodeOptimizer$Source", "instructions", "I", false)
  | 9 => ("MicrocodeOptimizer$Source", "instructionNames", "[J", true)
  | 10 => ("MicrocodeOptimizer$Source", "lengths", "[I", true)
  | 11 => ("MicrocodeOptimizer$Source", "sequence", "[I", true)
  | _ => ("MicrocodeOptimizer$Source", "marks", "[Z", true)
def tyX6 : Nat → FieldType := fun k => match k with
  | 0 => .int
  | 1 => .array .long
  | 2 => .array .int
  | 3 => .array .int
  | 4 => .array .int
  | 5 => .array .int
  | 6 => .array .int
  | 7 => .array .int
  | 8 => .int
  | 9 => .array .long
  | 10 => .array .int
  | 11 => .array .int
  | _ => .array .boolean
theorem nmX6 : ∀ a, a < 13 → ∀ b, b < 13 → a ≠ b → (TX6 a).2.1 ≠ (TX6 b).2.1 := by decide +kernel
theorem tyX6_ok : ∀ k, k < 13 → parseFieldDescriptor (TX6 k).2.2.1 = some (tyX6 k) := by decide +kernel
def RX7 : String := "MicrocodeOptimizer$Store"
def TX7 : u_T := fun k => match k with
  | 0 => ("MicrocodeOptimizer$Store", "sets", "[I", true)
  | 1 => ("MicrocodeOptimizer$Store", "safe", "[Z", true)
  | 2 => ("MicrocodeOptimizer$Store", "next", "[I", true)
  | 3 => ("MicrocodeOptimizer$Store", "entries", "[I", true)
  | _ => ("MicrocodeOptimizer$Store", "size", "I", false)
def tyX7 : Nat → FieldType := fun k => match k with
  | 0 => .array .int
  | 1 => .array .boolean
  | 2 => .array .int
  | 3 => .array .int
  | _ => .int
theorem nmX7 : ∀ a, a < 5 → ∀ b, b < 5 → a ≠ b → (TX7 a).2.1 ≠ (TX7 b).2.1 := by decide +kernel
theorem tyX7_ok : ∀ k, k < 5 → parseFieldDescriptor (TX7 k).2.2.1 = some (tyX7 k) := by decide +kernel
def RX8 : String := "MicrocodeOptimizer$Words"
def TX8 : u_T := fun k => match k with
  | 0 => ("MicrocodeOptimizer$Words", "counts", "[I", true)
  | 1 => ("MicrocodeOptimizer$Words", "chains", "[I", true)
  | 2 => ("MicrocodeOptimizer$Words", "latencies", "[I", true)
  | 3 => ("MicrocodeOptimizer$Words", "sets", "[I", true)
  | _ => ("MicrocodeOptimizer$Words", "safe", "[Z", true)
def tyX8 : Nat → FieldType := fun k => match k with
  | 0 => .array .int
  | 1 => .array .int
  | 2 => .array .int
  | 3 => .array .int
  | _ => .array .boolean
theorem nmX8 : ∀ a, a < 5 → ∀ b, b < 5 → a ≠ b → (TX8 a).2.1 ≠ (TX8 b).2.1 := by decide +kernel
theorem tyX8_ok : ∀ k, k < 5 → parseFieldDescriptor (TX8 k).2.2.1 = some (tyX8 k) := by decide +kernel
def RX9 : String := "MicrocodeOptimizer"
def TX9 : u_T := fun k => match k with
  | 0 => ("MicrocodeOptimizer", "input", "LMicrocodeOptimizer$Input;", true)
  | 1 => ("MicrocodeOptimizer", "output", "LMicrocodeOptimizer$Output;", true)
  | 2 => ("MicrocodeOptimizer", "source", "LMicrocodeOptimizer$Source;", false)
  | 3 => ("MicrocodeOptimizer", "spare", "LMicrocodeOptimizer$Source;", false)
  | 4 => ("MicrocodeOptimizer", "history", "LMicrocodeOptimizer$History;", true)
  | 5 => ("MicrocodeOptimizer", "packer", "LMicrocodeOptimizer$Packer;", true)
  | 6 => ("MicrocodeOptimizer", "words", "LMicrocodeOptimizer$Words;", true)
  | 7 => ("MicrocodeOptimizer", "store", "LMicrocodeOptimizer$Store;", true)
  | 8 => ("MicrocodeOptimizer", "fields", "LMicrocodeOptimizer$Fields;", true)
  | 9 => ("MicrocodeOptimizer", "processor", "LMicrocodeOptimizer$Processor;", true)
  | _ => ("MicrocodeOptimizer", "mode", "I", false)
def tyX9 : Nat → FieldType := fun k => match k with
  | 0 => .object "MicrocodeOptimizer$Input"
  | 1 => .object "MicrocodeOptimizer$Output"
  | 2 => .object "MicrocodeOptimizer$Source"
  | 3 => .object "MicrocodeOptimizer$Source"
  | 4 => .object "MicrocodeOptimizer$History"
  | 5 => .object "MicrocodeOptimizer$Packer"
  | 6 => .object "MicrocodeOptimizer$Words"
  | 7 => .object "MicrocodeOptimizer$Store"
  | 8 => .object "MicrocodeOptimizer$Fields"
  | 9 => .object "MicrocodeOptimizer$Processor"
  | _ => .int
theorem nmX9 : ∀ a, a < 11 → ∀ b, b < 11 → a ≠ b → (TX9 a).2.1 ≠ (TX9 b).2.1 := by decide +kernel
theorem tyX9_ok : ∀ k, k < 11 → parseFieldDescriptor (TX9 k).2.2.1 = some (tyX9 k) := by decide +kernel
def RX10 : String := "MicrocodeOptimizerModel"
def TX10 : u_T := fun k => match k with
  | 0 => ("MicrocodeOptimizerModel", "thrown", "I", false)
  | 1 => ("MicrocodeOptimizerModel", "operations", "I", false)
  | 2 => ("MicrocodeOptimizerModel", "instructions", "I", false)
  | 3 => ("MicrocodeOptimizerModel", "operation", "[I", true)
  | 4 => ("MicrocodeOptimizerModel", "names", "[I", true)
  | 5 => ("MicrocodeOptimizerModel", "lengths", "[I", true)
  | 6 => ("MicrocodeOptimizerModel", "rows", "[I", true)
  | 7 => ("MicrocodeOptimizerModel", "state", "[I", true)
  | 8 => ("MicrocodeOptimizerModel", "instruction", "I", false)
  | 9 => ("MicrocodeOptimizerModel", "from", "I", false)
  | 10 => ("MicrocodeOptimizerModel", "size", "I", false)
  | 11 => ("MicrocodeOptimizerModel", "strict", "[I", true)
  | 12 => ("MicrocodeOptimizerModel", "weak", "[I", true)
  | 13 => ("MicrocodeOptimizerModel", "unit", "[I", true)
  | 14 => ("MicrocodeOptimizerModel", "least", "[I", true)
  | 15 => ("MicrocodeOptimizerModel", "units", "[I", true)
  | 16 => ("MicrocodeOptimizerModel", "words", "[I", true)
  | 17 => ("MicrocodeOptimizerModel", "safes", "[I", true)
  | 18 => ("MicrocodeOptimizerModel", "firstWord", "[I", true)
  | 19 => ("MicrocodeOptimizerModel", "longest", "[I", true)
  | 20 => ("MicrocodeOptimizerModel", "chains", "[I", true)
  | 21 => ("MicrocodeOptimizerModel", "wordMany", "I", false)
  | 22 => ("MicrocodeOptimizerModel", "stored", "[I", true)
  | 23 => ("MicrocodeOptimizerModel", "storedSafe", "[I", true)
  | 24 => ("MicrocodeOptimizerModel", "next", "[I", true)
  | 25 => ("MicrocodeOptimizerModel", "entries", "[I", true)
  | 26 => ("MicrocodeOptimizerModel", "storeMany", "I", false)
  | 27 => ("MicrocodeOptimizerModel", "isField", "[Z", true)
  | 28 => ("MicrocodeOptimizerModel", "cost", "[I", true)
  | 29 => ("MicrocodeOptimizerModel", "fields", "[I", true)
  | 30 => ("MicrocodeOptimizerModel", "fieldMany", "I", false)
  | 31 => ("MicrocodeOptimizerModel", "bits", "I", false)
  | 32 => ("MicrocodeOptimizerModel", "kept", "[I", true)
  | 33 => ("MicrocodeOptimizerModel", "keptMany", "I", false)
  | 34 => ("MicrocodeOptimizerModel", "register", "[I", true)
  | 35 => ("MicrocodeOptimizerModel", "fresh", "[I", true)
  | 36 => ("MicrocodeOptimizerModel", "aside", "[I", true)
  | 37 => ("MicrocodeOptimizerModel", "other", "[I", true)
  | 38 => ("MicrocodeOptimizerModel", "pending", "I", false)
  | 39 => ("MicrocodeOptimizerModel", "buffer", "[B", true)
  | 40 => ("MicrocodeOptimizerModel", "out", "[B", true)
  | 41 => ("MicrocodeOptimizerModel", "length", "I", false)
  | 42 => ("MicrocodeOptimizerModel", "total", "I", false)
  | 43 => ("MicrocodeOptimizerModel", "outLength", "I", false)
  | 44 => ("MicrocodeOptimizerModel", "place", "I", false)
  | 45 => ("MicrocodeOptimizerModel", "following", "I", false)
  | 46 => ("MicrocodeOptimizerModel", "token", "I", false)
  | 47 => ("MicrocodeOptimizerModel", "value", "I", false)
  | 48 => ("MicrocodeOptimizerModel", "error", "I", false)
  | 49 => ("MicrocodeOptimizerModel", "errorAt", "I", false)
  | 50 => ("MicrocodeOptimizerModel", "keptOperation", "[I", true)
  | 51 => ("MicrocodeOptimizerModel", "keptNames", "[I", true)
  | 52 => ("MicrocodeOptimizerModel", "keptLengths", "[I", true)
  | 53 => ("MicrocodeOptimizerModel", "keptRows", "[I", true)
  | _ => ("MicrocodeOptimizerModel", "keptState", "[I", true)
def tyX10 : Nat → FieldType := fun k => match k with
  | 0 => .int
  | 1 => .int
  | 2 => .int
  | 3 => .array .int
  | 4 => .array .int
  | 5 => .array .int
  | 6 => .array .int
  | 7 => .array .int
  | 8 => .int
  | 9 => .int
  | 10 => .int
  | 11 => .array .int
  | 12 => .array .int
  | 13 => .array .int
  | 14 => .array .int
  | 15 => .array .int
  | 16 => .array .int
  | 17 => .array .int
  | 18 => .array .int
  | 19 => .array .int
  | 20 => .array .int
  | 21 => .int
  | 22 => .array .int
  | 23 => .array .int
  | 24 => .array .int
  | 25 => .array .int
  | 26 => .int
  | 27 => .array .boolean
  | 28 => .array .int
  | 29 => .array .int
  | 30 => .int
  | 31 => .int
  | 32 => .array .int
  | 33 => .int
  | 34 => .array .int
  | 35 => .array .int
  | 36 => .array .int
  | 37 => .array .int
  | 38 => .int
  | 39 => .array .byte
  | 40 => .array .byte
  | 41 => .int
  | 42 => .int
  | 43 => .int
  | 44 => .int
  | 45 => .int
  | 46 => .int
  | 47 => .int
  | 48 => .int
  | 49 => .int
  | 50 => .array .int
  | 51 => .array .int
  | 52 => .array .int
  | 53 => .array .int
  | _ => .array .int
theorem nmX10 : ∀ a, a < 55 → ∀ b, b < 55 → a ≠ b → (TX10 a).2.1 ≠ (TX10 b).2.1 := by decide +kernel
theorem tyX10_ok : ∀ k, k < 55 → parseFieldDescriptor (TX10 k).2.2.1 = some (tyX10 k) := by decide +kernel
abbrev vwCl : List vw_C := [(RX0, TX0, 9), (RX1, TX1, 3), (RX2, TX2, 8), (RX3, TX3, 2), (RX4, TX4, 12), (RX5, TX5, 5), (RX6, TX6, 13), (RX7, TX7, 5), (RX8, TX8, 5), (RX9, TX9, 11), (RX10, TX10, 55)]
def KC (ci : Nat) (C : String) (T : u_T) (N : Nat) (ty : Nat → FieldType) : Prop := vwCl[ci]? = some (C, T, N) ∧ (∀ w ∈ u_ws C T N, w ∈ TBL) ∧ (∀ k, k < N → parseFieldDescriptor (T k).2.2.1 = some (ty k)) ∧ (∀ a, a < N → ∀ b, b < N → a ≠ b → (T a).2.1 ≠ (T b).2.1)
set_option maxRecDepth 20000 in
theorem kc0 : KC 0 RX0 TX0 9 tyX0 := ⟨rfl, TBL_ps [437, 439, 441, 443, 445, 447, 449, 451, 453] (by decide +kernel) (by decide +kernel), tyX0_ok, nmX0⟩
set_option maxRecDepth 20000 in
theorem kc1 : KC 1 RX1 TX1 3 tyX1 := ⟨rfl, TBL_ps [302, 304, 306] (by decide +kernel) (by decide +kernel), tyX1_ok, nmX1⟩
set_option maxRecDepth 20000 in
theorem kc2 : KC 2 RX2 TX2 8 tyX2 := ⟨rfl, TBL_ps [164, 166, 168, 170, 172, 174, 176, 178] (by decide +kernel) (by decide +kernel), tyX2_ok, nmX2⟩
set_option maxRecDepth 20000 in
theorem kc3 : KC 3 RX3 TX3 2 tyX3 := ⟨rfl, TBL_ps [192, 194] (by decide +kernel) (by decide +kernel), tyX3_ok, nmX3⟩
set_option maxRecDepth 20000 in
theorem kc4 : KC 4 RX4 TX4 12 tyX4 := ⟨rfl, TBL_ps [330, 332, 334, 336, 338, 340, 342, 344, 346, 348, 350, 352] (by decide +kernel) (by decide +kernel), tyX4_ok, nmX4⟩
set_option maxRecDepth 20000 in
theorem kc5 : KC 5 RX5 TX5 5 tyX5 := ⟨rfl, TBL_ps [469, 471, 473, 475, 477] (by decide +kernel) (by decide +kernel), tyX5_ok, nmX5⟩
set_option maxRecDepth 20000 in
theorem kc6 : KC 6 RX6 TX6 13 tyX6 := ⟨rfl, TBL_ps [260, 262, 264, 266, 268, 270, 272, 274, 276, 278, 280, 282, 284] (by decide +kernel) (by decide +kernel), tyX6_ok, nmX6⟩
set_option maxRecDepth 20000 in
theorem kc7 : KC 7 RX7 TX7 5 tyX7 := ⟨rfl, TBL_ps [406, 408, 410, 412, 414] (by decide +kernel) (by decide +kernel), tyX7_ok, nmX7⟩
set_option maxRecDepth 20000 in
theorem kc8 : KC 8 RX8 TX8 5 tyX8 := ⟨rfl, TBL_ps [373, 375, 377, 379, 381] (by decide +kernel) (by decide +kernel), tyX8_ok, nmX8⟩
set_option maxRecDepth 20000 in
theorem kc9 : KC 9 RX9 TX9 11 tyX9 := ⟨rfl, TBL_ps [491, 493, 495, 497, 499, 501, 503, 505, 507, 509, 511] (by decide +kernel) (by decide +kernel), tyX9_ok, nmX9⟩
set_option maxRecDepth 20000 in
theorem kc10 : KC 10 RX10 TX10 55 tyX10 := ⟨rfl, TBL_ps [1385, 1387, 1389, 1391, 1393, 1395, 1397, 1399, 1401, 1403, 1405, 1407, 1409, 1411, 1413, 1415, 1417, 1419, 1421, 1423, 1425, 1427, 1429, 1431, 1433, 1435, 1437, 1439, 1441, 1443, 1445, 1447, 1449, 1451, 1453, 1455, 1457, 1459, 1461, 1463, 1465, 1467, 1469, 1471, 1473, 1475, 1477, 1479, 1481, 1483, 1485, 1487, 1489, 1491, 1493] (by decide +kernel) (by decide +kernel), tyX10_ok, nmX10⟩
def FL (own : String) (idx ci k : Nat) (fty : FieldType) (fin : Bool) : Prop := ∃ (C : String) (T : u_T) (N : Nat) (ty : Nat → FieldType), KC ci C T N ty ∧ k < N ∧ Cond.fieldLink own idx (T k).1 (T k).2.1 (T k).2.2.1 ∈ TBL ∧ ty k = fty ∧ (T k).2.2.2 = fin
def RL : String := "MicrocodeOptimizerLaw"
def RJ0 : String := "java/lang/String"
def RJ1 : String := "java/lang/StringLatin1"
def RJ11 : String := "java/lang/Character"
def RJ2 : String := "java/lang/StringUTF16"
def RJ3 : String := "jdk/internal/util/Preconditions"
def RJ6 : String := "java/lang/Integer"
def RJ7 : String := "java/util/Arrays"
def RJ9 : String := "java/lang/Math"
abbrev cX0_init : ByteArray := prog_2_method_1_code
def yX0_init : MethodName := ⟨RX0, "<init>", "()V"⟩
abbrev MX0_init : Mt := (yX0_init, cX0_init, 1, none)
abbrev cX0_know : ByteArray := prog_2_method_2_code
def yX0_know : MethodName := ⟨RX0, "know", "(LMicrocodeOptimizer$Store;)V"⟩
abbrev MX0_know : Mt := (yX0_know, cX0_know, 3, none)
abbrev cX0_collect : ByteArray := prog_2_method_3_code
def yX0_collect : MethodName := ⟨RX0, "collect", "(LMicrocodeOptimizer$Store;)I"⟩
abbrev MX0_collect : Mt := (yX0_collect, cX0_collect, 6, (some .int))
abbrev cX0_divide : ByteArray := prog_2_method_4_code
def yX0_divide : MethodName := ⟨RX0, "divide", "(I)V"⟩
abbrev MX0_divide : Mt := (yX0_divide, cX0_divide, 5, none)
abbrev cX0_addField : ByteArray := prog_2_method_5_code
def yX0_addField : MethodName := ⟨RX0, "addField", "(I)V"⟩
abbrev MX0_addField : Mt := (yX0_addField, cX0_addField, 4, none)
abbrev cX0_search : ByteArray := prog_2_method_6_code
def yX0_search : MethodName := ⟨RX0, "search", "(I)V"⟩
abbrev MX0_search : Mt := (yX0_search, cX0_search, 5, none)
abbrev cX0_costWithin : ByteArray := prog_2_method_7_code
def yX0_costWithin : MethodName := ⟨RX0, "costWithin", "(III)I"⟩
abbrev MX0_costWithin : Mt := (yX0_costWithin, cX0_costWithin, 7, (some .int))
abbrev cX0_growField : ByteArray := prog_2_method_8_code
def yX0_growField : MethodName := ⟨RX0, "growField", "(IIIII)I"⟩
abbrev MX0_growField : Mt := (yX0_growField, cX0_growField, 11, (some .int))
abbrev cX0_isField : ByteArray := prog_2_method_9_code
def yX0_isField : MethodName := ⟨RX0, "isField", "(I)Z"⟩
abbrev MX0_isField : Mt := (yX0_isField, cX0_isField, 3, (some .boolean))
abbrev cX0_costOf : ByteArray := prog_2_method_10_code
def yX0_costOf : MethodName := ⟨RX0, "costOf", "(I)I"⟩
abbrev MX0_costOf : Mt := (yX0_costOf, cX0_costOf, 1, (some .int))
abbrev cX0_costAtLeast : ByteArray := prog_2_method_11_code
def yX0_costAtLeast : MethodName := ⟨RX0, "costAtLeast", "(I)I"⟩
abbrev MX0_costAtLeast : Mt := (yX0_costAtLeast, cX0_costAtLeast, 2, (some .int))
abbrev cX0_encode : ByteArray := prog_2_method_12_code
def yX0_encode : MethodName := ⟨RX0, "encode", "(IZ)J"⟩
abbrev MX0_encode : Mt := (yX0_encode, cX0_encode, 6, (some .long))
abbrev cX1_init : ByteArray := prog_3_method_1_code
def yX1_init : MethodName := ⟨RX1, "<init>", "()V"⟩
abbrev MX1_init : Mt := (yX1_init, cX1_init, 1, none)
abbrev cX1_forget : ByteArray := prog_3_method_2_code
def yX1_forget : MethodName := ⟨RX1, "forget", "()V"⟩
abbrev MX1_forget : Mt := (yX1_forget, cX1_forget, 1, none)
abbrev cX1_remember : ByteArray := prog_3_method_3_code
def yX1_remember : MethodName := ⟨RX1, "remember", "(II)V"⟩
abbrev MX1_remember : Mt := (yX1_remember, cX1_remember, 4, none)
abbrev cX2_init : ByteArray := prog_4_method_1_code
def yX2_init : MethodName := ⟨RX2, "<init>", "()V"⟩
abbrev MX2_init : Mt := (yX2_init, cX2_init, 1, none)
abbrev cX2_put : ByteArray := prog_4_method_2_code
def yX2_put : MethodName := ⟨RX2, "put", "(I)V"⟩
abbrev MX2_put : Mt := (yX2_put, cX2_put, 3, none)
abbrev cX2_wholeName : ByteArray := prog_4_method_3_code
def yX2_wholeName : MethodName := ⟨RX2, "wholeName", "()J"⟩
abbrev MX2_wholeName : Mt := (yX2_wholeName, cX2_wholeName, 4, (some .long))
abbrev cX2_isLetter : ByteArray := prog_4_method_4_code
def yX2_isLetter : MethodName := ⟨RX2, "isLetter", "(I)Z"⟩
abbrev MX2_isLetter : Mt := (yX2_isLetter, cX2_isLetter, 1, (some .boolean))
abbrev cX2_isDigit : ByteArray := prog_4_method_5_code
def yX2_isDigit : MethodName := ⟨RX2, "isDigit", "(I)Z"⟩
abbrev MX2_isDigit : Mt := (yX2_isDigit, cX2_isDigit, 1, (some .boolean))
abbrev cX2_read : ByteArray := prog_4_method_6_code
def yX2_read : MethodName := ⟨RX2, "read", "(LMicrocodeOptimizer$Source;)I"⟩
abbrev MX2_read : Mt := (yX2_read, cX2_read, 4, (some .int))
abbrev cX2_readOperation : ByteArray := prog_4_method_7_code
def yX2_readOperation : MethodName := ⟨RX2, "readOperation", "(LMicrocodeOptimizer$Source;)Z"⟩
abbrev MX2_readOperation : Mt := (yX2_readOperation, cX2_readOperation, 3, (some .boolean))
abbrev cX2_isNewName : ByteArray := prog_4_method_8_code
def yX2_isNewName : MethodName := ⟨RX2, "isNewName", "(LMicrocodeOptimizer$Source;)Z"⟩
abbrev MX2_isNewName : Mt := (yX2_isNewName, cX2_isNewName, 2, (some .boolean))
abbrev cX2_readUnit : ByteArray := prog_4_method_9_code
def yX2_readUnit : MethodName := ⟨RX2, "readUnit", "(LMicrocodeOptimizer$Source;)Z"⟩
abbrev MX2_readUnit : Mt := (yX2_readUnit, cX2_readUnit, 2, (some .boolean))
abbrev cX2_readTarget : ByteArray := prog_4_method_10_code
def yX2_readTarget : MethodName := ⟨RX2, "readTarget", "(LMicrocodeOptimizer$Source;)Z"⟩
abbrev MX2_readTarget : Mt := (yX2_readTarget, cX2_readTarget, 2, (some .boolean))
abbrev cX2_readValue : ByteArray := prog_4_method_11_code
def yX2_readValue : MethodName := ⟨RX2, "readValue", "(LMicrocodeOptimizer$Source;)Z"⟩
abbrev MX2_readValue : Mt := (yX2_readValue, cX2_readValue, 4, (some .boolean))
abbrev cX2_isOperand : ByteArray := prog_4_method_12_code
def yX2_isOperand : MethodName := ⟨RX2, "isOperand", "()Z"⟩
abbrev MX2_isOperand : Mt := (yX2_isOperand, cX2_isOperand, 1, (some .boolean))
abbrev cX2_operand : ByteArray := prog_4_method_13_code
def yX2_operand : MethodName := ⟨RX2, "operand", "()I"⟩
abbrev MX2_operand : Mt := (yX2_operand, cX2_operand, 1, (some .int))
abbrev cX2_operandReads : ByteArray := prog_4_method_14_code
def yX2_operandReads : MethodName := ⟨RX2, "operandReads", "()I"⟩
abbrev MX2_operandReads : Mt := (yX2_operandReads, cX2_operandReads, 1, (some .int))
abbrev cX2_readInstruction : ByteArray := prog_4_method_15_code
def yX2_readInstruction : MethodName := ⟨RX2, "readInstruction", "(LMicrocodeOptimizer$Source;)Z"⟩
abbrev MX2_readInstruction : Mt := (yX2_readInstruction, cX2_readInstruction, 3, (some .boolean))
abbrev cX2_readSequence : ByteArray := prog_4_method_16_code
def yX2_readSequence : MethodName := ⟨RX2, "readSequence", "(LMicrocodeOptimizer$Source;)Z"⟩
abbrev MX2_readSequence : Mt := (yX2_readSequence, cX2_readSequence, 6, (some .boolean))
abbrev cX2_take : ByteArray := prog_4_method_17_code
def yX2_take : MethodName := ⟨RX2, "take", "(I)Z"⟩
abbrev MX2_take : Mt := (yX2_take, cX2_take, 2, (some .boolean))
abbrev cX2_fail : ByteArray := prog_4_method_18_code
def yX2_fail : MethodName := ⟨RX2, "fail", "(I)Z"⟩
abbrev MX2_fail : Mt := (yX2_fail, cX2_fail, 2, (some .boolean))
abbrev cX2_advance : ByteArray := prog_4_method_19_code
def yX2_advance : MethodName := ⟨RX2, "advance", "()V"⟩
abbrev MX2_advance : Mt := (yX2_advance, cX2_advance, 1, none)
abbrev cX2_takeWord : ByteArray := prog_4_method_20_code
def yX2_takeWord : MethodName := ⟨RX2, "takeWord", "()V"⟩
abbrev MX2_takeWord : Mt := (yX2_takeWord, cX2_takeWord, 1, none)
abbrev cX2_takeNumber : ByteArray := prog_4_method_21_code
def yX2_takeNumber : MethodName := ⟨RX2, "takeNumber", "()V"⟩
abbrev MX2_takeNumber : Mt := (yX2_takeNumber, cX2_takeNumber, 1, none)
abbrev cX3_init : ByteArray := prog_5_method_1_code
def yX3_init : MethodName := ⟨RX3, "<init>", "()V"⟩
abbrev MX3_init : Mt := (yX3_init, cX3_init, 1, none)
abbrev cX3_putSource : ByteArray := prog_5_method_2_code
def yX3_putSource : MethodName := ⟨RX3, "putSource", "(LMicrocodeOptimizer$Source;)V"⟩
abbrev MX3_putSource : Mt := (yX3_putSource, cX3_putSource, 3, none)
abbrev cX3_putOperation : ByteArray := prog_5_method_3_code
def yX3_putOperation : MethodName := ⟨RX3, "putOperation", "(LMicrocodeOptimizer$Source;I)V"⟩
abbrev MX3_putOperation : Mt := (yX3_putOperation, cX3_putOperation, 4, none)
abbrev cX3_putInstruction : ByteArray := prog_5_method_4_code
def yX3_putInstruction : MethodName := ⟨RX3, "putInstruction", "(LMicrocodeOptimizer$Source;I)V"⟩
abbrev MX3_putInstruction : Mt := (yX3_putInstruction, cX3_putInstruction, 5, none)
abbrev cX3_putOperand : ByteArray := prog_5_method_5_code
def yX3_putOperand : MethodName := ⟨RX3, "putOperand", "(I)V"⟩
abbrev MX3_putOperand : Mt := (yX3_putOperand, cX3_putOperand, 2, none)
abbrev cX3_putNumber : ByteArray := prog_5_method_6_code
def yX3_putNumber : MethodName := ⟨RX3, "putNumber", "(I)V"⟩
abbrev MX3_putNumber : Mt := (yX3_putNumber, cX3_putNumber, 3, none)
abbrev cX3_putName : ByteArray := prog_5_method_7_code
def yX3_putName : MethodName := ⟨RX3, "putName", "(J)V"⟩
abbrev MX3_putName : Mt := (yX3_putName, cX3_putName, 5, none)
abbrev cX3_putText : ByteArray := prog_5_method_8_code
def yX3_putText : MethodName := ⟨RX3, "putText", "(Ljava/lang/String;)V"⟩
abbrev MX3_putText : Mt := (yX3_putText, cX3_putText, 3, none)
abbrev cX3_put : ByteArray := prog_5_method_9_code
def yX3_put : MethodName := ⟨RX3, "put", "(I)V"⟩
abbrev MX3_put : Mt := (yX3_put, cX3_put, 2, none)
abbrev cX4_init : ByteArray := prog_6_method_1_code
def yX4_init : MethodName := ⟨RX4, "<init>", "()V"⟩
abbrev MX4_init : Mt := (yX4_init, cX4_init, 1, none)
abbrev cX4_pack : ByteArray := prog_6_method_2_code
def yX4_pack : MethodName := ⟨RX4, "pack", "(LMicrocodeOptimizer$Source;III)V"⟩
abbrev MX4_pack : Mt := (yX4_pack, cX4_pack, 5, none)
abbrev cX4_prepareUnits : ByteArray := prog_6_method_3_code
def yX4_prepareUnits : MethodName := ⟨RX4, "prepareUnits", "(LMicrocodeOptimizer$Source;I)V"⟩
abbrev MX4_prepareUnits : Mt := (yX4_prepareUnits, cX4_prepareUnits, 5, none)
abbrev cX4_prepareTies : ByteArray := prog_6_method_4_code
def yX4_prepareTies : MethodName := ⟨RX4, "prepareTies", "(LMicrocodeOptimizer$Source;I)V"⟩
abbrev MX4_prepareTies : Mt := (yX4_prepareTies, cX4_prepareTies, 6, none)
abbrev cX4_prepareHeights : ByteArray := prog_6_method_5_code
def yX4_prepareHeights : MethodName := ⟨RX4, "prepareHeights", "()V"⟩
abbrev MX4_prepareHeights : Mt := (yX4_prepareHeights, cX4_prepareHeights, 4, none)
abbrev cX4_packOneByOne : ByteArray := prog_6_method_6_code
def yX4_packOneByOne : MethodName := ⟨RX4, "packOneByOne", "()V"⟩
abbrev MX4_packOneByOne : Mt := (yX4_packOneByOne, cX4_packOneByOne, 2, none)
abbrev cX4_packByList : ByteArray := prog_6_method_7_code
def yX4_packByList : MethodName := ⟨RX4, "packByList", "()V"⟩
abbrev MX4_packByList : Mt := (yX4_packByList, cX4_packByList, 6, none)
abbrev cX4_mayEnter : ByteArray := prog_6_method_8_code
def yX4_mayEnter : MethodName := ⟨RX4, "mayEnter", "(III)Z"⟩
abbrev MX4_mayEnter : Mt := (yX4_mayEnter, cX4_mayEnter, 4, (some .boolean))
abbrev cX4_packFewest : ByteArray := prog_6_method_9_code
def yX4_packFewest : MethodName := ⟨RX4, "packFewest", "()V"⟩
abbrev MX4_packFewest : Mt := (yX4_packFewest, cX4_packFewest, 2, none)
abbrev cX4_fits : ByteArray := prog_6_method_10_code
def yX4_fits : MethodName := ⟨RX4, "fits", "(II)Z"⟩
abbrev MX4_fits : Mt := (yX4_fits, cX4_fits, 5, (some .boolean))
abbrev cX4_extend : ByteArray := prog_6_method_11_code
def yX4_extend : MethodName := ⟨RX4, "extend", "(IIIII)Z"⟩
abbrev MX4_extend : Mt := (yX4_extend, cX4_extend, 9, (some .boolean))
abbrev cX4_wordsNeeded : ByteArray := prog_6_method_12_code
def yX4_wordsNeeded : MethodName := ⟨RX4, "wordsNeeded", "(I)I"⟩
abbrev MX4_wordsNeeded : Mt := (yX4_wordsNeeded, cX4_wordsNeeded, 4, (some .int))
abbrev cX4_urgent : ByteArray := prog_6_method_13_code
def yX4_urgent : MethodName := ⟨RX4, "urgent", "(II)I"⟩
abbrev MX4_urgent : Mt := (yX4_urgent, cX4_urgent, 5, (some .int))
abbrev cX5_init : ByteArray := prog_7_method_1_code
def yX5_init : MethodName := ⟨RX5, "<init>", "()V"⟩
abbrev MX5_init : Mt := (yX5_init, cX5_init, 1, none)
abbrev cX5_runSequence : ByteArray := prog_7_method_2_code
def yX5_runSequence : MethodName := ⟨RX5, "runSequence", "(LMicrocodeOptimizer$Source;I[I)V"⟩
abbrev MX5_runSequence : Mt := (yX5_runSequence, cX5_runSequence, 7, none)
abbrev cX5_runWords : ByteArray := prog_7_method_3_code
def yX5_runWords : MethodName := ⟨RX5, "runWords", "(LMicrocodeOptimizer$Source;LMicrocodeOptimizer$Store;I)I"⟩
abbrev MX5_runWords : Mt := (yX5_runWords, cX5_runWords, 7, (some .int))
abbrev cX5_agreesOn : ByteArray := prog_7_method_4_code
def yX5_agreesOn : MethodName := ⟨RX5, "agreesOn", "(LMicrocodeOptimizer$Source;LMicrocodeOptimizer$Store;I)Z"⟩
abbrev MX5_agreesOn : Mt := (yX5_agreesOn, cX5_agreesOn, 6, (some .boolean))
abbrev cX5_execute : ByteArray := prog_7_method_5_code
def yX5_execute : MethodName := ⟨RX5, "execute", "(LMicrocodeOptimizer$Source;I[I)V"⟩
abbrev MX5_execute : Mt := (yX5_execute, cX5_execute, 5, none)
abbrev cX5_valueOf : ByteArray := prog_7_method_6_code
def yX5_valueOf : MethodName := ⟨RX5, "valueOf", "(LMicrocodeOptimizer$Source;I[I)I"⟩
abbrev MX5_valueOf : Mt := (yX5_valueOf, cX5_valueOf, 5, (some .int))
abbrev cX5_operandValue : ByteArray := prog_7_method_7_code
def yX5_operandValue : MethodName := ⟨RX5, "operandValue", "(I[I)I"⟩
abbrev MX5_operandValue : Mt := (yX5_operandValue, cX5_operandValue, 2, (some .int))
abbrev cX6_init : ByteArray := prog_8_method_1_code
def yX6_init : MethodName := ⟨RX6, "<init>", "()V"⟩
abbrev MX6_init : Mt := (yX6_init, cX6_init, 1, none)
abbrev cX6_operationNamed : ByteArray := prog_8_method_2_code
def yX6_operationNamed : MethodName := ⟨RX6, "operationNamed", "(J)I"⟩
abbrev MX6_operationNamed : Mt := (yX6_operationNamed, cX6_operationNamed, 3, (some .int))
abbrev cX6_instructionNamed : ByteArray := prog_8_method_3_code
def yX6_instructionNamed : MethodName := ⟨RX6, "instructionNamed", "(J)I"⟩
abbrev MX6_instructionNamed : Mt := (yX6_instructionNamed, cX6_instructionNamed, 3, (some .int))
abbrev cX6_indexOf : ByteArray := prog_8_method_4_code
def yX6_indexOf : MethodName := ⟨RX6, "indexOf", "(J[JI)I"⟩
abbrev MX6_indexOf : Mt := (yX6_indexOf, cX6_indexOf, 5, (some .int))
abbrev cX6_occurrences : ByteArray := prog_8_method_5_code
def yX6_occurrences : MethodName := ⟨RX6, "occurrences", "(I)I"⟩
abbrev MX6_occurrences : Mt := (yX6_occurrences, cX6_occurrences, 6, (some .int))
abbrev cX6_tie : ByteArray := prog_8_method_6_code
def yX6_tie : MethodName := ⟨RX6, "tie", "(II)I"⟩
abbrev MX6_tie : Mt := (yX6_tie, cX6_tie, 3, (some .int))
abbrev cX6_segmentEnd : ByteArray := prog_8_method_7_code
def yX6_segmentEnd : MethodName := ⟨RX6, "segmentEnd", "(II)I"⟩
abbrev MX6_segmentEnd : Mt := (yX6_segmentEnd, cX6_segmentEnd, 6, (some .int))
abbrev cX6_joinedLength : ByteArray := prog_8_method_8_code
def yX6_joinedLength : MethodName := ⟨RX6, "joinedLength", "(II)I"⟩
abbrev MX6_joinedLength : Mt := (yX6_joinedLength, cX6_joinedLength, 6, (some .int))
abbrev cX7_init : ByteArray := prog_9_method_1_code
def yX7_init : MethodName := ⟨RX7, "<init>", "()V"⟩
abbrev MX7_init : Mt := (yX7_init, cX7_init, 1, none)
abbrev cX7_place : ByteArray := prog_9_method_2_code
def yX7_place : MethodName := ⟨RX7, "place", "(ILMicrocodeOptimizer$Words;)V"⟩
abbrev MX7_place : Mt := (yX7_place, cX7_place, 8, none)
abbrev cX7_equalBefore : ByteArray := prog_9_method_3_code
def yX7_equalBefore : MethodName := ⟨RX7, "equalBefore", "(IIZ)I"⟩
abbrev MX7_equalBefore : Mt := (yX7_equalBefore, cX7_equalBefore, 5, (some .int))
abbrev cX7_users : ByteArray := prog_9_method_4_code
def yX7_users : MethodName := ⟨RX7, "users", "(II)I"⟩
abbrev MX7_users : Mt := (yX7_users, cX7_users, 7, (some .int))
abbrev cX8_init : ByteArray := prog_10_method_1_code
def yX8_init : MethodName := ⟨RX8, "<init>", "()V"⟩
abbrev MX8_init : Mt := (yX8_init, cX8_init, 1, none)
abbrev cX8_pack : ByteArray := prog_10_method_2_code
def yX8_pack : MethodName := ⟨RX8, "pack", "(LMicrocodeOptimizer$Source;IILMicrocodeOptimizer$Packer;)V"⟩
abbrev MX8_pack : Mt := (yX8_pack, cX8_pack, 9, none)
abbrev cX8_addSegment : ByteArray := prog_10_method_3_code
def yX8_addSegment : MethodName := ⟨RX8, "addSegment", "(LMicrocodeOptimizer$Source;IILMicrocodeOptimizer$Packer;)V"⟩
abbrev MX8_addSegment : Mt := (yX8_addSegment, cX8_addSegment, 7, none)
abbrev cX8_operationsOf : ByteArray := prog_10_method_4_code
def yX8_operationsOf : MethodName := ⟨RX8, "operationsOf", "(LMicrocodeOptimizer$Source;II)I"⟩
abbrev MX8_operationsOf : Mt := (yX8_operationsOf, cX8_operationsOf, 5, (some .int))
abbrev cX9_init : ByteArray := prog_1_method_1_code
def yX9_init : MethodName := ⟨RX9, "<init>", "()V"⟩
abbrev MX9_init : Mt := (yX9_init, cX9_init, 1, none)
abbrev cX9_append : ByteArray := prog_1_method_2_code
def yX9_append : MethodName := ⟨RX9, "append", "(IIIII)I"⟩
abbrev MX9_append : Mt := (yX9_append, cX9_append, 6, (some .int))
abbrev cX9_truncate : ByteArray := prog_1_method_3_code
def yX9_truncate : MethodName := ⟨RX9, "truncate", "(I)Z"⟩
abbrev MX9_truncate : Mt := (yX9_truncate, cX9_truncate, 2, (some .boolean))
abbrev cX9_bufferLength : ByteArray := prog_1_method_4_code
def yX9_bufferLength : MethodName := ⟨RX9, "bufferLength", "()I"⟩
abbrev MX9_bufferLength : Mt := (yX9_bufferLength, cX9_bufferLength, 1, (some .int))
abbrev cX9_load : ByteArray := prog_1_method_5_code
def yX9_load : MethodName := ⟨RX9, "load", "()I"⟩
abbrev MX9_load : Mt := (yX9_load, cX9_load, 3, (some .int))
abbrev cX9_find : ByteArray := prog_1_method_6_code
def yX9_find : MethodName := ⟨RX9, "find", "()I"⟩
abbrev MX9_find : Mt := (yX9_find, cX9_find, 5, (some .int))
abbrev cX9_write : ByteArray := prog_1_method_7_code
def yX9_write : MethodName := ⟨RX9, "write", "()I"⟩
abbrev MX9_write : Mt := (yX9_write, cX9_write, 1, (some .int))
abbrev cX9_outputByte : ByteArray := prog_1_method_8_code
def yX9_outputByte : MethodName := ⟨RX9, "outputByte", "(I)I"⟩
abbrev MX9_outputByte : Mt := (yX9_outputByte, cX9_outputByte, 2, (some .int))
abbrev cX9_operationCount : ByteArray := prog_1_method_9_code
def yX9_operationCount : MethodName := ⟨RX9, "operationCount", "()I"⟩
abbrev MX9_operationCount : Mt := (yX9_operationCount, cX9_operationCount, 1, (some .int))
abbrev cX9_instructionCount : ByteArray := prog_1_method_10_code
def yX9_instructionCount : MethodName := ⟨RX9, "instructionCount", "()I"⟩
abbrev MX9_instructionCount : Mt := (yX9_instructionCount, cX9_instructionCount, 1, (some .int))
abbrev cX9_operation : ByteArray := prog_1_method_11_code
def yX9_operation : MethodName := ⟨RX9, "operation", "(II)I"⟩
abbrev MX9_operation : Mt := (yX9_operation, cX9_operation, 3, (some .int))
abbrev cX9_length : ByteArray := prog_1_method_12_code
def yX9_length : MethodName := ⟨RX9, "length", "(I)I"⟩
abbrev MX9_length : Mt := (yX9_length, cX9_length, 2, (some .int))
abbrev cX9_operationAt : ByteArray := prog_1_method_13_code
def yX9_operationAt : MethodName := ⟨RX9, "operationAt", "(II)I"⟩
abbrev MX9_operationAt : Mt := (yX9_operationAt, cX9_operationAt, 3, (some .int))
abbrev cX9_hasMark : ByteArray := prog_1_method_14_code
def yX9_hasMark : MethodName := ⟨RX9, "hasMark", "(II)Z"⟩
abbrev MX9_hasMark : Mt := (yX9_hasMark, cX9_hasMark, 3, (some .boolean))
abbrev cX9_dependence : ByteArray := prog_1_method_15_code
def yX9_dependence : MethodName := ⟨RX9, "dependence", "(III)I"⟩
abbrev MX9_dependence : Mt := (yX9_dependence, cX9_dependence, 5, (some .int))
abbrev cX9_checkOperation : ByteArray := prog_1_method_16_code
def yX9_checkOperation : MethodName := ⟨RX9, "checkOperation", "(I)V"⟩
abbrev MX9_checkOperation : Mt := (yX9_checkOperation, cX9_checkOperation, 2, none)
abbrev cX9_checkInstruction : ByteArray := prog_1_method_17_code
def yX9_checkInstruction : MethodName := ⟨RX9, "checkInstruction", "(I)V"⟩
abbrev MX9_checkInstruction : Mt := (yX9_checkInstruction, cX9_checkInstruction, 2, none)
abbrev cX9_checkPosition : ByteArray := prog_1_method_18_code
def yX9_checkPosition : MethodName := ⟨RX9, "checkPosition", "(II)V"⟩
abbrev MX9_checkPosition : Mt := (yX9_checkPosition, cX9_checkPosition, 3, none)
abbrev cX9_setMode : ByteArray := prog_1_method_19_code
def yX9_setMode : MethodName := ⟨RX9, "setMode", "(I)I"⟩
abbrev MX9_setMode : Mt := (yX9_setMode, cX9_setMode, 2, (some .int))
abbrev cX9_mode : ByteArray := prog_1_method_20_code
def yX9_mode : MethodName := ⟨RX9, "mode", "()I"⟩
abbrev MX9_mode : Mt := (yX9_mode, cX9_mode, 1, (some .int))
abbrev cX9_setMark : ByteArray := prog_1_method_21_code
def yX9_setMark : MethodName := ⟨RX9, "setMark", "(IIZ)I"⟩
abbrev MX9_setMark : Mt := (yX9_setMark, cX9_setMark, 5, (some .int))
abbrev cX9_undo : ByteArray := prog_1_method_22_code
def yX9_undo : MethodName := ⟨RX9, "undo", "()I"⟩
abbrev MX9_undo : Mt := (yX9_undo, cX9_undo, 4, (some .int))
abbrev cX9_changeMark : ByteArray := prog_1_method_23_code
def yX9_changeMark : MethodName := ⟨RX9, "changeMark", "(IZ)V"⟩
abbrev MX9_changeMark : Mt := (yX9_changeMark, cX9_changeMark, 3, none)
abbrev cX9_packAll : ByteArray := prog_1_method_24_code
def yX9_packAll : MethodName := ⟨RX9, "packAll", "()V"⟩
abbrev MX9_packAll : Mt := (yX9_packAll, cX9_packAll, 2, none)
abbrev cX9_fillStore : ByteArray := prog_1_method_25_code
def yX9_fillStore : MethodName := ⟨RX9, "fillStore", "()V"⟩
abbrev MX9_fillStore : Mt := (yX9_fillStore, cX9_fillStore, 2, none)
abbrev cX9_wordCount : ByteArray := prog_1_method_26_code
def yX9_wordCount : MethodName := ⟨RX9, "wordCount", "(I)I"⟩
abbrev MX9_wordCount : Mt := (yX9_wordCount, cX9_wordCount, 2, (some .int))
abbrev cX9_word : ByteArray := prog_1_method_27_code
def yX9_word : MethodName := ⟨RX9, "word", "(II)I"⟩
abbrev MX9_word : Mt := (yX9_word, cX9_word, 3, (some .int))
abbrev cX9_chain : ByteArray := prog_1_method_28_code
def yX9_chain : MethodName := ⟨RX9, "chain", "(I)I"⟩
abbrev MX9_chain : Mt := (yX9_chain, cX9_chain, 2, (some .int))
abbrev cX9_latency : ByteArray := prog_1_method_29_code
def yX9_latency : MethodName := ⟨RX9, "latency", "(I)I"⟩
abbrev MX9_latency : Mt := (yX9_latency, cX9_latency, 2, (some .int))
abbrev cX9_storeSize : ByteArray := prog_1_method_30_code
def yX9_storeSize : MethodName := ⟨RX9, "storeSize", "()I"⟩
abbrev MX9_storeSize : Mt := (yX9_storeSize, cX9_storeSize, 1, (some .int))
abbrev cX9_entry : ByteArray := prog_1_method_31_code
def yX9_entry : MethodName := ⟨RX9, "entry", "(I)I"⟩
abbrev MX9_entry : Mt := (yX9_entry, cX9_entry, 2, (some .int))
abbrev cX9_store : ByteArray := prog_1_method_32_code
def yX9_store : MethodName := ⟨RX9, "store", "(II)I"⟩
abbrev MX9_store : Mt := (yX9_store, cX9_store, 3, (some .int))
abbrev cX9_checkAddress : ByteArray := prog_1_method_33_code
def yX9_checkAddress : MethodName := ⟨RX9, "checkAddress", "(I)V"⟩
abbrev MX9_checkAddress : Mt := (yX9_checkAddress, cX9_checkAddress, 2, none)
abbrev cX9_fieldCount : ByteArray := prog_1_method_34_code
def yX9_fieldCount : MethodName := ⟨RX9, "fieldCount", "()I"⟩
abbrev MX9_fieldCount : Mt := (yX9_fieldCount, cX9_fieldCount, 1, (some .int))
abbrev cX9_fieldBits : ByteArray := prog_1_method_35_code
def yX9_fieldBits : MethodName := ⟨RX9, "fieldBits", "()I"⟩
abbrev MX9_fieldBits : Mt := (yX9_fieldBits, cX9_fieldBits, 1, (some .int))
abbrev cX9_fieldOf : ByteArray := prog_1_method_36_code
def yX9_fieldOf : MethodName := ⟨RX9, "fieldOf", "(I)I"⟩
abbrev MX9_fieldOf : Mt := (yX9_fieldOf, cX9_fieldOf, 2, (some .int))
abbrev cX9_codeOf : ByteArray := prog_1_method_37_code
def yX9_codeOf : MethodName := ⟨RX9, "codeOf", "(I)I"⟩
abbrev MX9_codeOf : Mt := (yX9_codeOf, cX9_codeOf, 2, (some .int))
abbrev cX9_control : ByteArray := prog_1_method_38_code
def yX9_control : MethodName := ⟨RX9, "control", "(I)J"⟩
abbrev MX9_control : Mt := (yX9_control, cX9_control, 2, (some .long))
abbrev cX9_setRegister : ByteArray := prog_1_method_39_code
def yX9_setRegister : MethodName := ⟨RX9, "setRegister", "(II)I"⟩
abbrev MX9_setRegister : Mt := (yX9_setRegister, cX9_setRegister, 4, (some .int))
abbrev cX9_register : ByteArray := prog_1_method_40_code
def yX9_register : MethodName := ⟨RX9, "register", "(I)I"⟩
abbrev MX9_register : Mt := (yX9_register, cX9_register, 2, (some .int))
abbrev cX9_checkRegister : ByteArray := prog_1_method_41_code
def yX9_checkRegister : MethodName := ⟨RX9, "checkRegister", "(I)V"⟩
abbrev MX9_checkRegister : Mt := (yX9_checkRegister, cX9_checkRegister, 2, none)
abbrev cX9_runSource : ByteArray := prog_1_method_42_code
def yX9_runSource : MethodName := ⟨RX9, "runSource", "(I)I"⟩
abbrev MX9_runSource : Mt := (yX9_runSource, cX9_runSource, 2, (some .int))
abbrev cX9_start : ByteArray := prog_1_method_43_code
def yX9_start : MethodName := ⟨RX9, "start", "(II)I"⟩
abbrev MX9_start : Mt := (yX9_start, cX9_start, 3, (some .int))
abbrev cX9_resume : ByteArray := prog_1_method_44_code
def yX9_resume : MethodName := ⟨RX9, "resume", "()I"⟩
abbrev MX9_resume : Mt := (yX9_resume, cX9_resume, 1, (some .int))
abbrev cX9_checkIdle : ByteArray := prog_1_method_45_code
def yX9_checkIdle : MethodName := ⟨RX9, "checkIdle", "()V"⟩
abbrev MX9_checkIdle : Mt := (yX9_checkIdle, cX9_checkIdle, 1, none)
abbrev cX9_address : ByteArray := prog_1_method_46_code
def yX9_address : MethodName := ⟨RX9, "address", "()I"⟩
abbrev MX9_address : Mt := (yX9_address, cX9_address, 1, (some .int))
abbrev cX9_agrees : ByteArray := prog_1_method_47_code
def yX9_agrees : MethodName := ⟨RX9, "agrees", "(I)Z"⟩
abbrev MX9_agrees : Mt := (yX9_agrees, cX9_agrees, 2, (some .boolean))
abbrev cX10_init : ByteArray := prog_12_method_1_code
def yX10_init : MethodName := ⟨RX10, "<init>", "()V"⟩
abbrev MX10_init : Mt := (yX10_init, cX10_init, 1, none)
abbrev cX10_thrown : ByteArray := prog_12_method_2_code
def yX10_thrown : MethodName := ⟨RX10, "thrown", "()I"⟩
abbrev MX10_thrown : Mt := (yX10_thrown, cX10_thrown, 1, (some .int))
abbrev cX10_throwsAs : ByteArray := prog_12_method_3_code
def yX10_throwsAs : MethodName := ⟨RX10, "throwsAs", "(I)Z"⟩
abbrev MX10_throwsAs : Mt := (yX10_throwsAs, cX10_throwsAs, 2, (some .boolean))
abbrev cX10_isIn : ByteArray := prog_12_method_4_code
def yX10_isIn : MethodName := ⟨RX10, "isIn", "(III)Z"⟩
abbrev MX10_isIn : Mt := (yX10_isIn, cX10_isIn, 3, (some .boolean))
abbrev cX10_of : ByteArray := prog_12_method_5_code
def yX10_of : MethodName := ⟨RX10, "of", "(II)I"⟩
abbrev MX10_of : Mt := (yX10_of, cX10_of, 3, (some .int))
abbrev cX10_at : ByteArray := prog_12_method_6_code
def yX10_at : MethodName := ⟨RX10, "at", "(II)I"⟩
abbrev MX10_at : Mt := (yX10_at, cX10_at, 3, (some .int))
abbrev cX10_isMarked : ByteArray := prog_12_method_7_code
def yX10_isMarked : MethodName := ⟨RX10, "isMarked", "(II)Z"⟩
abbrev MX10_isMarked : Mt := (yX10_isMarked, cX10_isMarked, 3, (some .boolean))
abbrev cX10_isInstruction : ByteArray := prog_12_method_8_code
def yX10_isInstruction : MethodName := ⟨RX10, "isInstruction", "(I)Z"⟩
abbrev MX10_isInstruction : Mt := (yX10_isInstruction, cX10_isInstruction, 2, (some .boolean))
abbrev cX10_isAt : ByteArray := prog_12_method_9_code
def yX10_isAt : MethodName := ⟨RX10, "isAt", "(II)Z"⟩
abbrev MX10_isAt : Mt := (yX10_isAt, cX10_isAt, 3, (some .boolean))
abbrev cX10_reads : ByteArray := prog_12_method_10_code
def yX10_reads : MethodName := ⟨RX10, "reads", "(I)I"⟩
abbrev MX10_reads : Mt := (yX10_reads, cX10_reads, 3, (some .int))
abbrev cX10_isStrict : ByteArray := prog_12_method_11_code
def yX10_isStrict : MethodName := ⟨RX10, "isStrict", "(II)Z"⟩
abbrev MX10_isStrict : Mt := (yX10_isStrict, cX10_isStrict, 3, (some .boolean))
abbrev cX10_isWeak : ByteArray := prog_12_method_12_code
def yX10_isWeak : MethodName := ⟨RX10, "isWeak", "(II)Z"⟩
abbrev MX10_isWeak : Mt := (yX10_isWeak, cX10_isWeak, 3, (some .boolean))
abbrev cX10_operationCount : ByteArray := prog_12_method_13_code
def yX10_operationCount : MethodName := ⟨RX10, "operationCount", "()I"⟩
abbrev MX10_operationCount : Mt := (yX10_operationCount, cX10_operationCount, 1, (some .int))
abbrev cX10_instructionCount : ByteArray := prog_12_method_14_code
def yX10_instructionCount : MethodName := ⟨RX10, "instructionCount", "()I"⟩
abbrev MX10_instructionCount : Mt := (yX10_instructionCount, cX10_instructionCount, 1, (some .int))
abbrev cX10_operation : ByteArray := prog_12_method_15_code
def yX10_operation : MethodName := ⟨RX10, "operation", "(II)I"⟩
abbrev MX10_operation : Mt := (yX10_operation, cX10_operation, 6, (some .int))
abbrev cX10_length : ByteArray := prog_12_method_16_code
def yX10_length : MethodName := ⟨RX10, "length", "(I)I"⟩
abbrev MX10_length : Mt := (yX10_length, cX10_length, 2, (some .int))
abbrev cX10_operationAt : ByteArray := prog_12_method_17_code
def yX10_operationAt : MethodName := ⟨RX10, "operationAt", "(II)I"⟩
abbrev MX10_operationAt : Mt := (yX10_operationAt, cX10_operationAt, 3, (some .int))
abbrev cX10_hasMark : ByteArray := prog_12_method_18_code
def yX10_hasMark : MethodName := ⟨RX10, "hasMark", "(II)Z"⟩
abbrev MX10_hasMark : Mt := (yX10_hasMark, cX10_hasMark, 3, (some .boolean))
abbrev cX10_dependence : ByteArray := prog_12_method_19_code
def yX10_dependence : MethodName := ⟨RX10, "dependence", "(III)I"⟩
abbrev MX10_dependence : Mt := (yX10_dependence, cX10_dependence, 5, (some .int))
abbrev cX10_behind : ByteArray := prog_12_method_20_code
def yX10_behind : MethodName := ⟨RX10, "behind", "(II)I"⟩
abbrev MX10_behind : Mt := (yX10_behind, cX10_behind, 4, (some .int))
abbrev cX10_laysSegment : ByteArray := prog_12_method_21_code
def yX10_laysSegment : MethodName := ⟨RX10, "laysSegment", "(II)V"⟩
abbrev MX10_laysSegment : Mt := (yX10_laysSegment, cX10_laysSegment, 5, none)
abbrev cX10_laysWord : ByteArray := prog_12_method_22_code
def yX10_laysWord : MethodName := ⟨RX10, "laysWord", "(I)V"⟩
abbrev MX10_laysWord : Mt := (yX10_laysWord, cX10_laysWord, 4, none)
abbrev cX10_packsByList : ByteArray := prog_12_method_23_code
def yX10_packsByList : MethodName := ⟨RX10, "packsByList", "()V"⟩
abbrev MX10_packsByList : Mt := (yX10_packsByList, cX10_packsByList, 6, none)
abbrev cX10_mayBe : ByteArray := prog_12_method_24_code
def yX10_mayBe : MethodName := ⟨RX10, "mayBe", "(II)Z"⟩
abbrev MX10_mayBe : Mt := (yX10_mayBe, cX10_mayBe, 5, (some .boolean))
abbrev cX10_bestWord : ByteArray := prog_12_method_25_code
def yX10_bestWord : MethodName := ⟨RX10, "bestWord", "(I)I"⟩
abbrev MX10_bestWord : Mt := (yX10_bestWord, cX10_bestWord, 5, (some .int))
abbrev cX10_packsBest : ByteArray := prog_12_method_26_code
def yX10_packsBest : MethodName := ⟨RX10, "packsBest", "()V"⟩
abbrev MX10_packsBest : Mt := (yX10_packsBest, cX10_packsBest, 4, none)
abbrev cX10_chainOf : ByteArray := prog_12_method_27_code
def yX10_chainOf : MethodName := ⟨RX10, "chainOf", "()I"⟩
abbrev MX10_chainOf : Mt := (yX10_chainOf, cX10_chainOf, 4, (some .int))
abbrev cX10_packs : ByteArray := prog_12_method_28_code
def yX10_packs : MethodName := ⟨RX10, "packs", "(I)V"⟩
abbrev MX10_packs : Mt := (yX10_packs, cX10_packs, 5, none)
abbrev cX10_wordsOf : ByteArray := prog_12_method_29_code
def yX10_wordsOf : MethodName := ⟨RX10, "wordsOf", "(I)I"⟩
abbrev MX10_wordsOf : Mt := (yX10_wordsOf, cX10_wordsOf, 2, (some .int))
abbrev cX10_isEnd : ByteArray := prog_12_method_30_code
def yX10_isEnd : MethodName := ⟨RX10, "isEnd", "(III)Z"⟩
abbrev MX10_isEnd : Mt := (yX10_isEnd, cX10_isEnd, 6, (some .boolean))
abbrev cX10_addressOfEnd : ByteArray := prog_12_method_31_code
def yX10_addressOfEnd : MethodName := ⟨RX10, "addressOfEnd", "(II)I"⟩
abbrev MX10_addressOfEnd : Mt := (yX10_addressOfEnd, cX10_addressOfEnd, 4, (some .int))
abbrev cX10_stores : ByteArray := prog_12_method_32_code
def yX10_stores : MethodName := ⟨RX10, "stores", "(I)V"⟩
abbrev MX10_stores : Mt := (yX10_stores, cX10_stores, 6, none)
abbrev cX10_ones : ByteArray := prog_12_method_33_code
def yX10_ones : MethodName := ⟨RX10, "ones", "(I)I"⟩
abbrev MX10_ones : Mt := (yX10_ones, cX10_ones, 3, (some .int))
abbrev cX10_bitsFor : ByteArray := prog_12_method_34_code
def yX10_bitsFor : MethodName := ⟨RX10, "bitsFor", "(I)I"⟩
abbrev MX10_bitsFor : Mt := (yX10_bitsFor, cX10_bitsFor, 2, (some .int))
abbrev cX10_laysTogether : ByteArray := prog_12_method_35_code
def yX10_laysTogether : MethodName := ⟨RX10, "laysTogether", "()V"⟩
abbrev MX10_laysTogether : Mt := (yX10_laysTogether, cX10_laysTogether, 3, none)
abbrev cX10_bestField : ByteArray := prog_12_method_36_code
def yX10_bestField : MethodName := ⟨RX10, "bestField", "(I)I"⟩
abbrev MX10_bestField : Mt := (yX10_bestField, cX10_bestField, 9, (some .int))
abbrev cX10_laysFields : ByteArray := prog_12_method_37_code
def yX10_laysFields : MethodName := ⟨RX10, "laysFields", "()V"⟩
abbrev MX10_laysFields : Mt := (yX10_laysFields, cX10_laysFields, 3, none)
abbrev cX10_laysCost : ByteArray := prog_12_method_38_code
def yX10_laysCost : MethodName := ⟨RX10, "laysCost", "(I)V"⟩
abbrev MX10_laysCost : Mt := (yX10_laysCost, cX10_laysCost, 3, none)
abbrev cX10_laysAll : ByteArray := prog_12_method_39_code
def yX10_laysAll : MethodName := ⟨RX10, "laysAll", "()V"⟩
abbrev MX10_laysAll : Mt := (yX10_laysAll, cX10_laysAll, 2, none)
abbrev cX10_keeps : ByteArray := prog_12_method_40_code
def yX10_keeps : MethodName := ⟨RX10, "keeps", "()V"⟩
abbrev MX10_keeps : Mt := (yX10_keeps, cX10_keeps, 2, none)
abbrev cX10_setMode : ByteArray := prog_12_method_41_code
def yX10_setMode : MethodName := ⟨RX10, "setMode", "(I)I"⟩
abbrev MX10_setMode : Mt := (yX10_setMode, cX10_setMode, 2, (some .int))
abbrev cX10_mode : ByteArray := prog_12_method_42_code
def yX10_mode : MethodName := ⟨RX10, "mode", "()I"⟩
abbrev MX10_mode : Mt := (yX10_mode, cX10_mode, 1, (some .int))
abbrev cX10_longestSegment : ByteArray := prog_12_method_43_code
def yX10_longestSegment : MethodName := ⟨RX10, "longestSegment", "(I)I"⟩
abbrev MX10_longestSegment : Mt := (yX10_longestSegment, cX10_longestSegment, 4, (some .int))
abbrev cX10_setMark : ByteArray := prog_12_method_44_code
def yX10_setMark : MethodName := ⟨RX10, "setMark", "(IIZ)I"⟩
abbrev MX10_setMark : Mt := (yX10_setMark, cX10_setMark, 7, (some .int))
abbrev cX10_undo : ByteArray := prog_12_method_45_code
def yX10_undo : MethodName := ⟨RX10, "undo", "()I"⟩
abbrev MX10_undo : Mt := (yX10_undo, cX10_undo, 2, (some .int))
abbrev cX10_wordCount : ByteArray := prog_12_method_46_code
def yX10_wordCount : MethodName := ⟨RX10, "wordCount", "(I)I"⟩
abbrev MX10_wordCount : Mt := (yX10_wordCount, cX10_wordCount, 2, (some .int))
abbrev cX10_word : ByteArray := prog_12_method_47_code
def yX10_word : MethodName := ⟨RX10, "word", "(II)I"⟩
abbrev MX10_word : Mt := (yX10_word, cX10_word, 3, (some .int))
abbrev cX10_chain : ByteArray := prog_12_method_48_code
def yX10_chain : MethodName := ⟨RX10, "chain", "(I)I"⟩
abbrev MX10_chain : Mt := (yX10_chain, cX10_chain, 2, (some .int))
abbrev cX10_latency : ByteArray := prog_12_method_49_code
def yX10_latency : MethodName := ⟨RX10, "latency", "(I)I"⟩
abbrev MX10_latency : Mt := (yX10_latency, cX10_latency, 2, (some .int))
abbrev cX10_storeSize : ByteArray := prog_12_method_50_code
def yX10_storeSize : MethodName := ⟨RX10, "storeSize", "()I"⟩
abbrev MX10_storeSize : Mt := (yX10_storeSize, cX10_storeSize, 1, (some .int))
abbrev cX10_entry : ByteArray := prog_12_method_51_code
def yX10_entry : MethodName := ⟨RX10, "entry", "(I)I"⟩
abbrev MX10_entry : Mt := (yX10_entry, cX10_entry, 2, (some .int))
abbrev cX10_usersOf : ByteArray := prog_12_method_52_code
def yX10_usersOf : MethodName := ⟨RX10, "usersOf", "(I)I"⟩
abbrev MX10_usersOf : Mt := (yX10_usersOf, cX10_usersOf, 5, (some .int))
abbrev cX10_isAddress : ByteArray := prog_12_method_53_code
def yX10_isAddress : MethodName := ⟨RX10, "isAddress", "(I)Z"⟩
abbrev MX10_isAddress : Mt := (yX10_isAddress, cX10_isAddress, 2, (some .boolean))
abbrev cX10_store : ByteArray := prog_12_method_54_code
def yX10_store : MethodName := ⟨RX10, "store", "(II)I"⟩
abbrev MX10_store : Mt := (yX10_store, cX10_store, 3, (some .int))
abbrev cX10_fieldCount : ByteArray := prog_12_method_55_code
def yX10_fieldCount : MethodName := ⟨RX10, "fieldCount", "()I"⟩
abbrev MX10_fieldCount : Mt := (yX10_fieldCount, cX10_fieldCount, 1, (some .int))
abbrev cX10_fieldBits : ByteArray := prog_12_method_56_code
def yX10_fieldBits : MethodName := ⟨RX10, "fieldBits", "()I"⟩
abbrev MX10_fieldBits : Mt := (yX10_fieldBits, cX10_fieldBits, 1, (some .int))
abbrev cX10_fieldWith : ByteArray := prog_12_method_57_code
def yX10_fieldWith : MethodName := ⟨RX10, "fieldWith", "(I)I"⟩
abbrev MX10_fieldWith : Mt := (yX10_fieldWith, cX10_fieldWith, 3, (some .int))
abbrev cX10_code : ByteArray := prog_12_method_58_code
def yX10_code : MethodName := ⟨RX10, "code", "(I)I"⟩
abbrev MX10_code : Mt := (yX10_code, cX10_code, 2, (some .int))
abbrev cX10_fieldOf : ByteArray := prog_12_method_59_code
def yX10_fieldOf : MethodName := ⟨RX10, "fieldOf", "(I)I"⟩
abbrev MX10_fieldOf : Mt := (yX10_fieldOf, cX10_fieldOf, 2, (some .int))
abbrev cX10_codeOf : ByteArray := prog_12_method_60_code
def yX10_codeOf : MethodName := ⟨RX10, "codeOf", "(I)I"⟩
abbrev MX10_codeOf : Mt := (yX10_codeOf, cX10_codeOf, 2, (some .int))
abbrev cX10_control : ByteArray := prog_12_method_61_code
def yX10_control : MethodName := ⟨RX10, "control", "(I)J"⟩
abbrev MX10_control : Mt := (yX10_control, cX10_control, 7, (some .long))
abbrev cX10_setRegister : ByteArray := prog_12_method_62_code
def yX10_setRegister : MethodName := ⟨RX10, "setRegister", "(II)I"⟩
abbrev MX10_setRegister : Mt := (yX10_setRegister, cX10_setRegister, 4, (some .int))
abbrev cX10_register : ByteArray := prog_12_method_63_code
def yX10_register : MethodName := ⟨RX10, "register", "(I)I"⟩
abbrev MX10_register : Mt := (yX10_register, cX10_register, 2, (some .int))
abbrev cX10_operand : ByteArray := prog_12_method_64_code
def yX10_operand : MethodName := ⟨RX10, "operand", "(I)I"⟩
abbrev MX10_operand : Mt := (yX10_operand, cX10_operand, 2, (some .int))
abbrev cX10_valueOf : ByteArray := prog_12_method_65_code
def yX10_valueOf : MethodName := ⟨RX10, "valueOf", "(I)I"⟩
abbrev MX10_valueOf : Mt := (yX10_valueOf, cX10_valueOf, 4, (some .int))
abbrev cX10_copies : ByteArray := prog_12_method_66_code
def yX10_copies : MethodName := ⟨RX10, "copies", "([I[I)V"⟩
abbrev MX10_copies : Mt := (yX10_copies, cX10_copies, 3, none)
abbrev cX10_does : ByteArray := prog_12_method_67_code
def yX10_does : MethodName := ⟨RX10, "does", "(I)V"⟩
abbrev MX10_does : Mt := (yX10_does, cX10_does, 3, none)
abbrev cX10_doesSource : ByteArray := prog_12_method_68_code
def yX10_doesSource : MethodName := ⟨RX10, "doesSource", "(I)V"⟩
abbrev MX10_doesSource : Mt := (yX10_doesSource, cX10_doesSource, 3, none)
abbrev cX10_runSource : ByteArray := prog_12_method_69_code
def yX10_runSource : MethodName := ⟨RX10, "runSource", "(I)I"⟩
abbrev MX10_runSource : Mt := (yX10_runSource, cX10_runSource, 2, (some .int))
abbrev cX10_goesOn : ByteArray := prog_12_method_70_code
def yX10_goesOn : MethodName := ⟨RX10, "goesOn", "(II)I"⟩
abbrev MX10_goesOn : Mt := (yX10_goesOn, cX10_goesOn, 5, (some .int))
abbrev cX10_start : ByteArray := prog_12_method_71_code
def yX10_start : MethodName := ⟨RX10, "start", "(II)I"⟩
abbrev MX10_start : Mt := (yX10_start, cX10_start, 3, (some .int))
abbrev cX10_resume : ByteArray := prog_12_method_72_code
def yX10_resume : MethodName := ⟨RX10, "resume", "()I"⟩
abbrev MX10_resume : Mt := (yX10_resume, cX10_resume, 1, (some .int))
abbrev cX10_address : ByteArray := prog_12_method_73_code
def yX10_address : MethodName := ⟨RX10, "address", "()I"⟩
abbrev MX10_address : Mt := (yX10_address, cX10_address, 1, (some .int))
abbrev cX10_agrees : ByteArray := prog_12_method_74_code
def yX10_agrees : MethodName := ⟨RX10, "agrees", "(I)Z"⟩
abbrev MX10_agrees : Mt := (yX10_agrees, cX10_agrees, 6, (some .boolean))
abbrev cX10_puts : ByteArray := prog_12_method_75_code
def yX10_puts : MethodName := ⟨RX10, "puts", "(I)V"⟩
abbrev MX10_puts : Mt := (yX10_puts, cX10_puts, 3, none)
abbrev cX10_append : ByteArray := prog_12_method_76_code
def yX10_append : MethodName := ⟨RX10, "append", "(IIIII)I"⟩
abbrev MX10_append : Mt := (yX10_append, cX10_append, 6, (some .int))
abbrev cX10_truncate : ByteArray := prog_12_method_77_code
def yX10_truncate : MethodName := ⟨RX10, "truncate", "(I)Z"⟩
abbrev MX10_truncate : Mt := (yX10_truncate, cX10_truncate, 2, (some .boolean))
abbrev cX10_bufferLength : ByteArray := prog_12_method_78_code
def yX10_bufferLength : MethodName := ⟨RX10, "bufferLength", "()I"⟩
abbrev MX10_bufferLength : Mt := (yX10_bufferLength, cX10_bufferLength, 1, (some .int))
abbrev cX10_byteAt : ByteArray := prog_12_method_79_code
def yX10_byteAt : MethodName := ⟨RX10, "byteAt", "(I)I"⟩
abbrev MX10_byteAt : Mt := (yX10_byteAt, cX10_byteAt, 2, (some .int))
abbrev cX10_isLetter : ByteArray := prog_12_method_80_code
def yX10_isLetter : MethodName := ⟨RX10, "isLetter", "(I)Z"⟩
abbrev MX10_isLetter : Mt := (yX10_isLetter, cX10_isLetter, 1, (some .boolean))
abbrev cX10_isDigit : ByteArray := prog_12_method_81_code
def yX10_isDigit : MethodName := ⟨RX10, "isDigit", "(I)Z"⟩
abbrev MX10_isDigit : Mt := (yX10_isDigit, cX10_isDigit, 1, (some .boolean))
abbrev cX10_signOf : ByteArray := prog_12_method_82_code
def yX10_signOf : MethodName := ⟨RX10, "signOf", "(I)I"⟩
abbrev MX10_signOf : Mt := (yX10_signOf, cX10_signOf, 1, (some .int))
abbrev cX10_step : ByteArray := prog_12_method_83_code
def yX10_step : MethodName := ⟨RX10, "step", "()V"⟩
abbrev MX10_step : Mt := (yX10_step, cX10_step, 2, none)
abbrev cX10_bad : ByteArray := prog_12_method_84_code
def yX10_bad : MethodName := ⟨RX10, "bad", "(I)Z"⟩
abbrev MX10_bad : Mt := (yX10_bad, cX10_bad, 2, (some .boolean))
abbrev cX10_isSign : ByteArray := prog_12_method_85_code
def yX10_isSign : MethodName := ⟨RX10, "isSign", "(I)Z"⟩
abbrev MX10_isSign : Mt := (yX10_isSign, cX10_isSign, 2, (some .boolean))
abbrev cX10_takesSign : ByteArray := prog_12_method_86_code
def yX10_takesSign : MethodName := ⟨RX10, "takesSign", "(I)Z"⟩
abbrev MX10_takesSign : Mt := (yX10_takesSign, cX10_takesSign, 2, (some .boolean))
abbrev cX10_isWord : ByteArray := prog_12_method_87_code
def yX10_isWord : MethodName := ⟨RX10, "isWord", "(Ljava/lang/String;)Z"⟩
abbrev MX10_isWord : Mt := (yX10_isWord, cX10_isWord, 3, (some .boolean))
abbrev cX10_registerHere : ByteArray := prog_12_method_88_code
def yX10_registerHere : MethodName := ⟨RX10, "registerHere", "()I"⟩
abbrev MX10_registerHere : Mt := (yX10_registerHere, cX10_registerHere, 1, (some .int))
abbrev cX10_isName : ByteArray := prog_12_method_89_code
def yX10_isName : MethodName := ⟨RX10, "isName", "()Z"⟩
abbrev MX10_isName : Mt := (yX10_isName, cX10_isName, 1, (some .boolean))
abbrev cX10_letterHere : ByteArray := prog_12_method_90_code
def yX10_letterHere : MethodName := ⟨RX10, "letterHere", "(I)I"⟩
abbrev MX10_letterHere : Mt := (yX10_letterHere, cX10_letterHere, 2, (some .int))
abbrev cX10_named : ByteArray := prog_12_method_91_code
def yX10_named : MethodName := ⟨RX10, "named", "()I"⟩
abbrev MX10_named : Mt := (yX10_named, cX10_named, 4, (some .int))
abbrev cX10_takesNewName : ByteArray := prog_12_method_92_code
def yX10_takesNewName : MethodName := ⟨RX10, "takesNewName", "(I)Z"⟩
abbrev MX10_takesNewName : Mt := (yX10_takesNewName, cX10_takesNewName, 3, (some .boolean))
abbrev cX10_takesOperand : ByteArray := prog_12_method_93_code
def yX10_takesOperand : MethodName := ⟨RX10, "takesOperand", "(I)Z"⟩
abbrev MX10_takesOperand : Mt := (yX10_takesOperand, cX10_takesOperand, 2, (some .boolean))
abbrev cX10_takesOperation : ByteArray := prog_12_method_94_code
def yX10_takesOperation : MethodName := ⟨RX10, "takesOperation", "()Z"⟩
abbrev MX10_takesOperation : Mt := (yX10_takesOperation, cX10_takesOperation, 2, (some .boolean))
abbrev cX10_takesInstruction : ByteArray := prog_12_method_95_code
def yX10_takesInstruction : MethodName := ⟨RX10, "takesInstruction", "()Z"⟩
abbrev MX10_takesInstruction : Mt := (yX10_takesInstruction, cX10_takesInstruction, 7, (some .boolean))
abbrev cX10_takesAll : ByteArray := prog_12_method_96_code
def yX10_takesAll : MethodName := ⟨RX10, "takesAll", "()Z"⟩
abbrev MX10_takesAll : Mt := (yX10_takesAll, cX10_takesAll, 1, (some .boolean))
abbrev cX10_moves : ByteArray := prog_12_method_97_code
def yX10_moves : MethodName := ⟨RX10, "moves", "([I[II)V"⟩
abbrev MX10_moves : Mt := (yX10_moves, cX10_moves, 4, none)
abbrev cX10_load : ByteArray := prog_12_method_98_code
def yX10_load : MethodName := ⟨RX10, "load", "()I"⟩
abbrev MX10_load : Mt := (yX10_load, cX10_load, 3, (some .int))
abbrev cX10_find : ByteArray := prog_12_method_99_code
def yX10_find : MethodName := ⟨RX10, "find", "()I"⟩
abbrev MX10_find : Mt := (yX10_find, cX10_find, 2, (some .int))
abbrev cX10_says : ByteArray := prog_12_method_100_code
def yX10_says : MethodName := ⟨RX10, "says", "(I)V"⟩
abbrev MX10_says : Mt := (yX10_says, cX10_says, 2, none)
abbrev cX10_saysWord : ByteArray := prog_12_method_101_code
def yX10_saysWord : MethodName := ⟨RX10, "saysWord", "(Ljava/lang/String;)V"⟩
abbrev MX10_saysWord : Mt := (yX10_saysWord, cX10_saysWord, 3, none)
abbrev cX10_saysNumber : ByteArray := prog_12_method_102_code
def yX10_saysNumber : MethodName := ⟨RX10, "saysNumber", "(I)V"⟩
abbrev MX10_saysNumber : Mt := (yX10_saysNumber, cX10_saysNumber, 3, none)
abbrev cX10_saysName : ByteArray := prog_12_method_103_code
def yX10_saysName : MethodName := ⟨RX10, "saysName", "(I)V"⟩
abbrev MX10_saysName : Mt := (yX10_saysName, cX10_saysName, 3, none)
abbrev cX10_saysOperand : ByteArray := prog_12_method_104_code
def yX10_saysOperand : MethodName := ⟨RX10, "saysOperand", "(I)V"⟩
abbrev MX10_saysOperand : Mt := (yX10_saysOperand, cX10_saysOperand, 2, none)
abbrev cX10_write : ByteArray := prog_12_method_105_code
def yX10_write : MethodName := ⟨RX10, "write", "()I"⟩
abbrev MX10_write : Mt := (yX10_write, cX10_write, 3, (some .int))
abbrev cX10_outputByte : ByteArray := prog_12_method_106_code
def yX10_outputByte : MethodName := ⟨RX10, "outputByte", "(I)I"⟩
abbrev MX10_outputByte : Mt := (yX10_outputByte, cX10_outputByte, 2, (some .int))
abbrev cJ11_isValidCodePoint_9a6ad : ByteArray := prog_15_method_11_code
def yJ11_isValidCodePoint_9a6ad : MethodName := ⟨RJ11, "isValidCodePoint", "(I)Z"⟩
abbrev MJ11_isValidCodePoint_9a6ad : Mt := (yJ11_isValidCodePoint_9a6ad, cJ11_isValidCodePoint_9a6ad, 2, (some .boolean))
abbrev cJ11_highSurrogate_5068e : ByteArray := prog_15_method_28_code
def yJ11_highSurrogate_5068e : MethodName := ⟨RJ11, "highSurrogate", "(I)C"⟩
abbrev MJ11_highSurrogate_5068e : Mt := (yJ11_highSurrogate_5068e, cJ11_highSurrogate_5068e, 1, (some .char))
abbrev cJ11_lowSurrogate_5068e : ByteArray := prog_15_method_29_code
def yJ11_lowSurrogate_5068e : MethodName := ⟨RJ11, "lowSurrogate", "(I)C"⟩
abbrev MJ11_lowSurrogate_5068e : Mt := (yJ11_lowSurrogate_5068e, cJ11_lowSurrogate_5068e, 1, (some .char))
abbrev cJ6_bitCount_0f7a4 : ByteArray := prog_21_method_49_code
def yJ6_bitCount_0f7a4 : MethodName := ⟨RJ6, "bitCount", "(I)I"⟩
abbrev MJ6_bitCount_0f7a4 : Mt := (yJ6_bitCount_0f7a4, cJ6_bitCount_0f7a4, 1, (some .int))
abbrev cJ9_max_7cf53 : ByteArray := prog_22_method_65_code
def yJ9_max_7cf53 : MethodName := ⟨RJ9, "max", "(II)I"⟩
abbrev MJ9_max_7cf53 : Mt := (yJ9_max_7cf53, cJ9_max_7cf53, 2, (some .int))
abbrev cJ9_min_7cf53 : ByteArray := prog_22_method_69_code
def yJ9_min_7cf53 : MethodName := ⟨RJ9, "min", "(II)I"⟩
abbrev MJ9_min_7cf53 : Mt := (yJ9_min_7cf53, cJ9_min_7cf53, 2, (some .int))
abbrev cJ0_length_8abf5 : ByteArray := prog_24_method_54_code
def yJ0_length_8abf5 : MethodName := ⟨RJ0, "length", "()I"⟩
abbrev MJ0_length_8abf5 : Mt := (yJ0_length_8abf5, cJ0_length_8abf5, 1, (some .int))
abbrev cJ0_charAt_5068e : ByteArray := prog_24_method_56_code
def yJ0_charAt_5068e : MethodName := ⟨RJ0, "charAt", "(I)C"⟩
abbrev MJ0_charAt_5068e : Mt := (yJ0_charAt_5068e, cJ0_charAt_5068e, 2, (some .char))
abbrev cJ0_indexOf_0f7a4 : ByteArray := prog_24_method_79_code
def yJ0_indexOf_0f7a4 : MethodName := ⟨RJ0, "indexOf", "(I)I"⟩
abbrev MJ0_indexOf_0f7a4 : Mt := (yJ0_indexOf_0f7a4, cJ0_indexOf_0f7a4, 2, (some .int))
abbrev cJ0_indexOf_7cf53 : ByteArray := prog_24_method_80_code
def yJ0_indexOf_7cf53 : MethodName := ⟨RJ0, "indexOf", "(II)I"⟩
abbrev MJ0_indexOf_7cf53 : Mt := (yJ0_indexOf_7cf53, cJ0_indexOf_7cf53, 3, (some .int))
abbrev cJ0_coder_7d493 : ByteArray := prog_24_method_152_code
def yJ0_coder_7d493 : MethodName := ⟨RJ0, "coder", "()B"⟩
abbrev MJ0_coder_7d493 : Mt := (yJ0_coder_7d493, cJ0_coder_7d493, 1, (some .byte))
abbrev cJ0_isLatin1_aae02 : ByteArray := prog_24_method_154_code
def yJ0_isLatin1_aae02 : MethodName := ⟨RJ0, "isLatin1", "()Z"⟩
abbrev MJ0_isLatin1_aae02 : Mt := (yJ0_isLatin1_aae02, cJ0_isLatin1_aae02, 1, (some .boolean))
abbrev cJ0_checkIndex_df160 : ByteArray := prog_24_method_155_code
def yJ0_checkIndex_df160 : MethodName := ⟨RJ0, "checkIndex", "(II)V"⟩
abbrev MJ0_checkIndex_df160 : Mt := (yJ0_checkIndex_df160, cJ0_checkIndex_df160, 2, none)
abbrev cJ0_checkBoundsBeginEnd_23922 : ByteArray := prog_24_method_158_code
def yJ0_checkBoundsBeginEnd_23922 : MethodName := ⟨RJ0, "checkBoundsBeginEnd", "(III)V"⟩
abbrev MJ0_checkBoundsBeginEnd_23922 : Mt := (yJ0_checkBoundsBeginEnd_23922, cJ0_checkBoundsBeginEnd_23922, 3, none)
abbrev cJ1_charAt_3b067 : ByteArray := prog_25_method_2_code
def yJ1_charAt_3b067 : MethodName := ⟨RJ1, "charAt", "([BI)C"⟩
abbrev MJ1_charAt_3b067 : Mt := (yJ1_charAt_3b067, cJ1_charAt_3b067, 2, (some .char))
abbrev cJ1_canEncode_9a6ad : ByteArray := prog_25_method_4_code
def yJ1_canEncode_9a6ad : MethodName := ⟨RJ1, "canEncode", "(I)Z"⟩
abbrev MJ1_canEncode_9a6ad : Mt := (yJ1_canEncode_9a6ad, cJ1_canEncode_9a6ad, 1, (some .boolean))
abbrev cJ1_indexOf_4cfef : ByteArray := prog_25_method_22_code
def yJ1_indexOf_4cfef : MethodName := ⟨RJ1, "indexOf", "([BIII)I"⟩
abbrev MJ1_indexOf_4cfef : Mt := (yJ1_indexOf_4cfef, cJ1_indexOf_4cfef, 4, (some .int))
abbrev cJ1_indexOfChar_4cfef : ByteArray := prog_25_method_23_code
def yJ1_indexOfChar_4cfef : MethodName := ⟨RJ1, "indexOfChar", "([BIII)I"⟩
abbrev MJ1_indexOfChar_4cfef : Mt := (yJ1_indexOfChar_4cfef, cJ1_indexOfChar_4cfef, 6, (some .int))
abbrev cJ2_getChar_3b067 : ByteArray := prog_26_method_5_code
def yJ2_getChar_3b067 : MethodName := ⟨RJ2, "getChar", "([BI)C"⟩
abbrev MJ2_getChar_3b067 : Mt := (yJ2_getChar_3b067, cJ2_getChar_3b067, 2, (some .char))
abbrev cJ2_length_9d52b : ByteArray := prog_26_method_6_code
def yJ2_length_9d52b : MethodName := ⟨RJ2, "length", "([B)I"⟩
abbrev MJ2_length_9d52b : Mt := (yJ2_length_9d52b, cJ2_length_9d52b, 1, (some .int))
abbrev cJ2_indexOf_4cfef : ByteArray := prog_26_method_40_code
def yJ2_indexOf_4cfef : MethodName := ⟨RJ2, "indexOf", "([BIII)I"⟩
abbrev MJ2_indexOf_4cfef : Mt := (yJ2_indexOf_4cfef, cJ2_indexOf_4cfef, 4, (some .int))
abbrev cJ2_indexOfChar_4cfef : ByteArray := prog_26_method_47_code
def yJ2_indexOfChar_4cfef : MethodName := ⟨RJ2, "indexOfChar", "([BIII)I"⟩
abbrev MJ2_indexOfChar_4cfef : Mt := (yJ2_indexOfChar_4cfef, cJ2_indexOfChar_4cfef, 4, (some .int))
abbrev cJ2_indexOfCharUnsafe_4cfef : ByteArray := prog_26_method_48_code
def yJ2_indexOfCharUnsafe_4cfef : MethodName := ⟨RJ2, "indexOfCharUnsafe", "([BIII)I"⟩
abbrev MJ2_indexOfCharUnsafe_4cfef : Mt := (yJ2_indexOfCharUnsafe_4cfef, cJ2_indexOfCharUnsafe_4cfef, 5, (some .int))
abbrev cJ2_indexOfSupplementary_4cfef : ByteArray := prog_26_method_49_code
def yJ2_indexOfSupplementary_4cfef : MethodName := ⟨RJ2, "indexOfSupplementary", "([BIII)I"⟩
abbrev MJ2_indexOfSupplementary_4cfef : Mt := (yJ2_indexOfSupplementary_4cfef, cJ2_indexOfSupplementary_4cfef, 7, (some .int))
abbrev cJ2_charAt_3b067 : ByteArray := prog_26_method_83_code
def yJ2_charAt_3b067 : MethodName := ⟨RJ2, "charAt", "([BI)C"⟩
abbrev MJ2_charAt_3b067 : Mt := (yJ2_charAt_3b067, cJ2_charAt_3b067, 2, (some .char))
abbrev cJ2_checkIndex_2214a : ByteArray := prog_26_method_91_code
def yJ2_checkIndex_2214a : MethodName := ⟨RJ2, "checkIndex", "(I[B)V"⟩
abbrev MJ2_checkIndex_2214a : Mt := (yJ2_checkIndex_2214a, cJ2_checkIndex_2214a, 2, none)
abbrev cJ2_checkBoundsBeginEnd_d044e : ByteArray := prog_26_method_93_code
def yJ2_checkBoundsBeginEnd_d044e : MethodName := ⟨RJ2, "checkBoundsBeginEnd", "(II[B)V"⟩
abbrev MJ2_checkBoundsBeginEnd_d044e : Mt := (yJ2_checkBoundsBeginEnd_d044e, cJ2_checkBoundsBeginEnd_d044e, 3, none)
abbrev cJ7_fill_53178 : ByteArray := prog_31_method_103_code
def yJ7_fill_53178 : MethodName := ⟨RJ7, "fill", "([II)V"⟩
abbrev MJ7_fill_53178 : Mt := (yJ7_fill_53178, cJ7_fill_53178, 4, none)
abbrev cJ3_checkIndex_8e157 : ByteArray := prog_33_method_11_code
def yJ3_checkIndex_8e157 : MethodName := ⟨RJ3, "checkIndex", "(IILjava/util/function/BiFunction;)I"⟩
abbrev MJ3_checkIndex_8e157 : Mt := (yJ3_checkIndex_8e157, cJ3_checkIndex_8e157, 3, (some .int))
abbrev cJ3_checkFromToIndex_8c36e : ByteArray := prog_33_method_12_code
def yJ3_checkFromToIndex_8c36e : MethodName := ⟨RJ3, "checkFromToIndex", "(IIILjava/util/function/BiFunction;)I"⟩
abbrev MJ3_checkFromToIndex_8c36e : Mt := (yJ3_checkFromToIndex_8c36e, cJ3_checkFromToIndex_8c36e, 4, (some .int))
theorem tb1 {w : Cond} (i : Nat) (h : tables_1_1[i]? = some w) (hg : goodWord w = true) : w ∈ TBL := List.mem_filter.mpr ⟨List.mem_append_right _ (show w ∈ tables_1 from List.mem_append_left _ (List.mem_of_getElem? h)), hg⟩
theorem tb2 {w : Cond} (i : Nat) (h : tables_1_2[i]? = some w) (hg : goodWord w = true) : w ∈ TBL := List.mem_filter.mpr ⟨List.mem_append_right _ (show w ∈ tables_1 from List.mem_append_right _ (List.mem_append_left _ (List.mem_of_getElem? h))), hg⟩
theorem tb3 {w : Cond} (i : Nat) (h : tables_1_3[i]? = some w) (hg : goodWord w = true) : w ∈ TBL := List.mem_filter.mpr ⟨List.mem_append_right _ (show w ∈ tables_1 from List.mem_append_right _ (List.mem_append_right _ (List.mem_append_left _ (List.mem_of_getElem? h)))), hg⟩
theorem tb4 {w : Cond} (i : Nat) (h : tables_1_4[i]? = some w) (hg : goodWord w = true) : w ∈ TBL := List.mem_filter.mpr ⟨List.mem_append_right _ (show w ∈ tables_1 from List.mem_append_right _ (List.mem_append_right _ (List.mem_append_right _ (List.mem_append_left _ (List.mem_of_getElem? h))))), hg⟩
theorem tb5 {w : Cond} (i : Nat) (h : tables_1_5[i]? = some w) (hg : goodWord w = true) : w ∈ TBL := List.mem_filter.mpr ⟨List.mem_append_right _ (show w ∈ tables_1 from List.mem_append_right _ (List.mem_append_right _ (List.mem_append_right _ (List.mem_append_right _ (List.mem_append_left _ (List.mem_of_getElem? h)))))), hg⟩
theorem tb6 {w : Cond} (i : Nat) (h : tables_1_6[i]? = some w) (hg : goodWord w = true) : w ∈ TBL := List.mem_filter.mpr ⟨List.mem_append_right _ (show w ∈ tables_1 from List.mem_append_right _ (List.mem_append_right _ (List.mem_append_right _ (List.mem_append_right _ (List.mem_append_right _ (List.mem_append_left _ (List.mem_of_getElem? h))))))), hg⟩
theorem tb7 {w : Cond} (i : Nat) (h : tables_1_7[i]? = some w) (hg : goodWord w = true) : w ∈ TBL := List.mem_filter.mpr ⟨List.mem_append_right _ (show w ∈ tables_1 from List.mem_append_right _ (List.mem_append_right _ (List.mem_append_right _ (List.mem_append_right _ (List.mem_append_right _ (List.mem_append_right _ (List.mem_append_left _ (List.mem_of_getElem? h)))))))), hg⟩
theorem tb8 {w : Cond} (i : Nat) (h : tables_1_8[i]? = some w) (hg : goodWord w = true) : w ∈ TBL := List.mem_filter.mpr ⟨List.mem_append_right _ (show w ∈ tables_1 from List.mem_append_right _ (List.mem_append_right _ (List.mem_append_right _ (List.mem_append_right _ (List.mem_append_right _ (List.mem_append_right _ (List.mem_append_right _ (List.mem_of_getElem? h)))))))), hg⟩
theorem ts1 {q : MethodName × Nat} (i : Nat) (h : lw_privs_1[i]? = some q) : Cond.selects q.1.cls q.1 q.1 ∈ TBL := List.mem_filter.mpr ⟨List.mem_append_left _ (List.mem_map.mpr ⟨q, (show q ∈ lw_privs from List.mem_append_left _ (List.mem_of_getElem? h)), rfl⟩), rfl⟩
theorem ts2 {q : MethodName × Nat} (i : Nat) (h : lw_privs_2[i]? = some q) : Cond.selects q.1.cls q.1 q.1 ∈ TBL := List.mem_filter.mpr ⟨List.mem_append_left _ (List.mem_map.mpr ⟨q, (show q ∈ lw_privs from List.mem_append_right _ (List.mem_append_left _ (List.mem_of_getElem? h))), rfl⟩), rfl⟩
theorem ts3 {q : MethodName × Nat} (i : Nat) (h : lw_privs_3[i]? = some q) : Cond.selects q.1.cls q.1 q.1 ∈ TBL := List.mem_filter.mpr ⟨List.mem_append_left _ (List.mem_map.mpr ⟨q, (show q ∈ lw_privs from List.mem_append_right _ (List.mem_append_right _ (List.mem_append_left _ (List.mem_of_getElem? h)))), rfl⟩), rfl⟩
theorem ts4 {q : MethodName × Nat} (i : Nat) (h : lw_privs_4[i]? = some q) : Cond.selects q.1.cls q.1 q.1 ∈ TBL := List.mem_filter.mpr ⟨List.mem_append_left _ (List.mem_map.mpr ⟨q, (show q ∈ lw_privs from List.mem_append_right _ (List.mem_append_right _ (List.mem_append_right _ (List.mem_append_left _ (List.mem_of_getElem? h))))), rfl⟩), rfl⟩
theorem ts5 {q : MethodName × Nat} (i : Nat) (h : lw_privs_5[i]? = some q) : Cond.selects q.1.cls q.1 q.1 ∈ TBL := List.mem_filter.mpr ⟨List.mem_append_left _ (List.mem_map.mpr ⟨q, (show q ∈ lw_privs from List.mem_append_right _ (List.mem_append_right _ (List.mem_append_right _ (List.mem_append_right _ (List.mem_append_left _ (List.mem_of_getElem? h)))))), rfl⟩), rfl⟩
theorem ts6 {q : MethodName × Nat} (i : Nat) (h : lw_privs_6[i]? = some q) : Cond.selects q.1.cls q.1 q.1 ∈ TBL := List.mem_filter.mpr ⟨List.mem_append_left _ (List.mem_map.mpr ⟨q, (show q ∈ lw_privs from List.mem_append_right _ (List.mem_append_right _ (List.mem_append_right _ (List.mem_append_right _ (List.mem_append_right _ (List.mem_append_left _ (List.mem_of_getElem? h))))))), rfl⟩), rfl⟩
theorem ts7 {q : MethodName × Nat} (i : Nat) (h : lw_privs_7[i]? = some q) : Cond.selects q.1.cls q.1 q.1 ∈ TBL := List.mem_filter.mpr ⟨List.mem_append_left _ (List.mem_map.mpr ⟨q, (show q ∈ lw_privs from List.mem_append_right _ (List.mem_append_right _ (List.mem_append_right _ (List.mem_append_right _ (List.mem_append_right _ (List.mem_append_right _ (List.mem_append_left _ (List.mem_of_getElem? h)))))))), rfl⟩), rfl⟩
theorem ts8 {q : MethodName × Nat} (i : Nat) (h : lw_privs_8[i]? = some q) : Cond.selects q.1.cls q.1 q.1 ∈ TBL := List.mem_filter.mpr ⟨List.mem_append_left _ (List.mem_map.mpr ⟨q, (show q ∈ lw_privs from List.mem_append_right _ (List.mem_append_right _ (List.mem_append_right _ (List.mem_append_right _ (List.mem_append_right _ (List.mem_append_right _ (List.mem_append_right _ (List.mem_of_getElem? h)))))))), rfl⟩), rfl⟩
theorem mkX0_know : MKV MX0_know 1 := ⟨tb4 70 rfl rfl, tb4 71 rfl rfl, tb1 9 rfl rfl, tb4 72 rfl rfl, by decide +kernel, by decide +kernel⟩
theorem mkX0_collect : MKV MX0_collect 1 := ⟨tb4 75 rfl rfl, ts3 (q := (yX0_collect, 9)) 6 rfl, tb1 9 rfl rfl, tb4 76 rfl rfl, by decide +kernel, by decide +kernel⟩
theorem mkX0_divide : MKV MX0_divide 1 := ⟨tb4 112 rfl rfl, ts3 (q := (yX0_divide, 9)) 12 rfl, tb1 9 rfl rfl, tb4 113 rfl rfl, by decide +kernel, by decide +kernel⟩
theorem mkX0_addField : MKV MX0_addField 1 := ⟨tb4 116 rfl rfl, ts3 (q := (yX0_addField, 9)) 13 rfl, tb1 9 rfl rfl, tb4 117 rfl rfl, by decide +kernel, by decide +kernel⟩
theorem mkX0_search : MKV MX0_search 1 := ⟨tb4 82 rfl rfl, ts3 (q := (yX0_search, 9)) 7 rfl, tb1 9 rfl rfl, tb4 83 rfl rfl, by decide +kernel, by decide +kernel⟩
theorem mkX0_costWithin : MKV MX0_costWithin 3 := ⟨tb4 102 rfl rfl, ts3 (q := (yX0_costWithin, 9)) 10 rfl, tb1 9 rfl rfl, tb4 103 rfl rfl, by decide +kernel, by decide +kernel⟩
theorem mkX0_growField : MKV MX0_growField 5 := ⟨tb4 107 rfl rfl, ts3 (q := (yX0_growField, 9)) 11 rfl, tb1 9 rfl rfl, tb4 108 rfl rfl, by decide +kernel, by decide +kernel⟩
theorem mkX0_isField : MKV MX0_isField 1 := ⟨tb4 90 rfl rfl, ts3 (q := (yX0_isField, 9)) 9 rfl, tb1 9 rfl rfl, tb4 91 rfl rfl, by decide +kernel, by decide +kernel⟩
theorem mkX0_costOf : MKS MX0_costOf 1 := ⟨tb4 93 rfl rfl, tb1 9 rfl rfl, tb4 94 rfl rfl, by decide +kernel⟩
theorem mkX0_costAtLeast : MKV MX0_costAtLeast 1 := ⟨tb4 86 rfl rfl, ts3 (q := (yX0_costAtLeast, 9)) 8 rfl, tb1 9 rfl rfl, tb4 87 rfl rfl, by decide +kernel, by decide +kernel⟩
theorem mkX0_encode : MKV MX0_encode 2 := ⟨tb5 168 rfl rfl, tb5 169 rfl rfl, tb1 9 rfl rfl, tb5 170 rfl rfl, by decide +kernel, by decide +kernel⟩
theorem mkX1_forget : MKV MX1_forget 0 := ⟨tb3 116 rfl rfl, tb3 117 rfl rfl, tb1 5 rfl rfl, tb3 118 rfl rfl, by decide +kernel, by decide +kernel⟩
theorem mkX1_remember : MKV MX1_remember 2 := ⟨tb5 60 rfl rfl, tb5 61 rfl rfl, tb1 5 rfl rfl, tb5 62 rfl rfl, by decide +kernel, by decide +kernel⟩
theorem mkX2_put : MKV MX2_put 1 := ⟨tb2 166 rfl rfl, tb2 167 rfl rfl, tb1 2 rfl rfl, tb2 168 rfl rfl, by decide +kernel, by decide +kernel⟩
theorem mkX2_wholeName : MKV MX2_wholeName 0 := ⟨tb3 215 rfl rfl, tb3 216 rfl rfl, tb1 2 rfl rfl, tb3 217 rfl rfl, by decide +kernel, by decide +kernel⟩
theorem mkX2_isLetter : MKS MX2_isLetter 1 := ⟨tb2 190 rfl rfl, tb1 2 rfl rfl, tb2 191 rfl rfl, by decide +kernel⟩
theorem mkX2_isDigit : MKS MX2_isDigit 1 := ⟨tb2 197 rfl rfl, tb1 2 rfl rfl, tb2 198 rfl rfl, by decide +kernel⟩
theorem mkX2_read : MKV MX2_read 1 := ⟨tb2 182 rfl rfl, tb2 183 rfl rfl, tb1 2 rfl rfl, tb2 184 rfl rfl, by decide +kernel, by decide +kernel⟩
theorem mkX2_readOperation : MKV MX2_readOperation 1 := ⟨tb3 57 rfl rfl, ts1 (q := (yX2_readOperation, 8)) 3 rfl, tb1 2 rfl rfl, tb3 58 rfl rfl, by decide +kernel, by decide +kernel⟩
theorem mkX2_isNewName : MKV MX2_isNewName 1 := ⟨tb3 65 rfl rfl, ts1 (q := (yX2_isNewName, 8)) 5 rfl, tb1 2 rfl rfl, tb3 66 rfl rfl, by decide +kernel, by decide +kernel⟩
theorem mkX2_readUnit : MKV MX2_readUnit 1 := ⟨tb3 84 rfl rfl, ts1 (q := (yX2_readUnit, 8)) 7 rfl, tb1 2 rfl rfl, tb3 85 rfl rfl, by decide +kernel, by decide +kernel⟩
theorem mkX2_readTarget : MKV MX2_readTarget 1 := ⟨tb3 88 rfl rfl, ts1 (q := (yX2_readTarget, 8)) 8 rfl, tb1 2 rfl rfl, tb3 89 rfl rfl, by decide +kernel, by decide +kernel⟩
theorem mkX2_readValue : MKV MX2_readValue 1 := ⟨tb3 92 rfl rfl, ts1 (q := (yX2_readValue, 8)) 9 rfl, tb1 2 rfl rfl, tb3 93 rfl rfl, by decide +kernel, by decide +kernel⟩
theorem mkX2_isOperand : MKV MX2_isOperand 0 := ⟨tb3 96 rfl rfl, ts1 (q := (yX2_isOperand, 8)) 10 rfl, tb1 2 rfl rfl, tb3 97 rfl rfl, by decide +kernel, by decide +kernel⟩
theorem mkX2_operand : MKV MX2_operand 0 := ⟨tb3 100 rfl rfl, ts1 (q := (yX2_operand, 8)) 11 rfl, tb1 2 rfl rfl, tb3 101 rfl rfl, by decide +kernel, by decide +kernel⟩
theorem mkX2_operandReads : MKV MX2_operandReads 0 := ⟨tb3 104 rfl rfl, ts1 (q := (yX2_operandReads, 8)) 12 rfl, tb1 2 rfl rfl, tb3 105 rfl rfl, by decide +kernel, by decide +kernel⟩
theorem mkX2_readInstruction : MKV MX2_readInstruction 1 := ⟨tb3 109 rfl rfl, ts1 (q := (yX2_readInstruction, 8)) 13 rfl, tb1 2 rfl rfl, tb3 110 rfl rfl, by decide +kernel, by decide +kernel⟩
theorem mkX2_readSequence : MKV MX2_readSequence 1 := ⟨tb3 113 rfl rfl, ts1 (q := (yX2_readSequence, 8)) 14 rfl, tb1 2 rfl rfl, tb3 114 rfl rfl, by decide +kernel, by decide +kernel⟩
theorem mkX2_take : MKV MX2_take 1 := ⟨tb3 80 rfl rfl, ts1 (q := (yX2_take, 8)) 6 rfl, tb1 2 rfl rfl, tb3 81 rfl rfl, by decide +kernel, by decide +kernel⟩
theorem mkX2_fail : MKV MX2_fail 1 := ⟨tb3 61 rfl rfl, ts1 (q := (yX2_fail, 8)) 4 rfl, tb1 2 rfl rfl, tb3 62 rfl rfl, by decide +kernel, by decide +kernel⟩
theorem mkX2_advance : MKV MX2_advance 0 := ⟨tb2 187 rfl rfl, ts1 (q := (yX2_advance, 8)) 0 rfl, tb1 2 rfl rfl, tb2 188 rfl rfl, by decide +kernel, by decide +kernel⟩
theorem mkX2_takeWord : MKV MX2_takeWord 0 := ⟨tb2 194 rfl rfl, ts1 (q := (yX2_takeWord, 8)) 1 rfl, tb1 2 rfl rfl, tb2 195 rfl rfl, by decide +kernel, by decide +kernel⟩
theorem mkX2_takeNumber : MKV MX2_takeNumber 0 := ⟨tb2 206 rfl rfl, ts1 (q := (yX2_takeNumber, 8)) 2 rfl, tb1 2 rfl rfl, tb2 207 rfl rfl, by decide +kernel, by decide +kernel⟩
theorem mkX3_putSource : MKV MX3_putSource 1 := ⟨tb3 225 rfl rfl, tb3 226 rfl rfl, tb1 3 rfl rfl, tb3 227 rfl rfl, by decide +kernel, by decide +kernel⟩
theorem mkX3_putOperation : MKV MX3_putOperation 2 := ⟨tb3 230 rfl rfl, ts2 (q := (yX3_putOperation, 2)) 14 rfl, tb1 3 rfl rfl, tb3 231 rfl rfl, by decide +kernel, by decide +kernel⟩
theorem mkX3_putInstruction : MKV MX3_putInstruction 2 := ⟨tb4 38 rfl rfl, ts3 (q := (yX3_putInstruction, 2)) 4 rfl, tb1 3 rfl rfl, tb4 39 rfl rfl, by decide +kernel, by decide +kernel⟩
theorem mkX3_putOperand : MKV MX3_putOperand 1 := ⟨tb4 33 rfl rfl, ts3 (q := (yX3_putOperand, 2)) 3 rfl, tb1 3 rfl rfl, tb4 34 rfl rfl, by decide +kernel, by decide +kernel⟩
theorem mkX3_putNumber : MKV MX3_putNumber 1 := ⟨tb4 29 rfl rfl, ts3 (q := (yX3_putNumber, 2)) 2 rfl, tb1 3 rfl rfl, tb4 30 rfl rfl, by decide +kernel, by decide +kernel⟩
theorem mkX3_putName : MKV MX3_putName 1 := ⟨tb4 24 rfl rfl, ts3 (q := (yX3_putName, 2)) 1 rfl, tb1 3 rfl rfl, tb4 25 rfl rfl, by decide +kernel, by decide +kernel⟩
theorem mkX3_putText : MKV MX3_putText 1 := ⟨tb3 235 rfl rfl, ts2 (q := (yX3_putText, 2)) 15 rfl, tb1 3 rfl rfl, tb3 236 rfl rfl, by decide +kernel, by decide +kernel⟩
theorem mkX3_put : MKV MX3_put 1 := ⟨tb4 20 rfl rfl, ts3 (q := (yX3_put, 2)) 0 rfl, tb1 3 rfl rfl, tb4 21 rfl rfl, by decide +kernel, by decide +kernel⟩
theorem mkX4_pack : MKV MX4_pack 4 := ⟨tb3 132 rfl rfl, tb3 133 rfl rfl, tb1 6 rfl rfl, tb3 134 rfl rfl, by decide +kernel, by decide +kernel⟩
theorem mkX4_prepareUnits : MKV MX4_prepareUnits 2 := ⟨tb3 137 rfl rfl, ts2 (q := (yX4_prepareUnits, 12)) 0 rfl, tb1 6 rfl rfl, tb3 138 rfl rfl, by decide +kernel, by decide +kernel⟩
theorem mkX4_prepareTies : MKV MX4_prepareTies 2 := ⟨tb3 141 rfl rfl, ts2 (q := (yX4_prepareTies, 12)) 1 rfl, tb1 6 rfl rfl, tb3 142 rfl rfl, by decide +kernel, by decide +kernel⟩
theorem mkX4_prepareHeights : MKV MX4_prepareHeights 0 := ⟨tb3 149 rfl rfl, ts2 (q := (yX4_prepareHeights, 12)) 2 rfl, tb1 6 rfl rfl, tb3 150 rfl rfl, by decide +kernel, by decide +kernel⟩
theorem mkX4_packOneByOne : MKV MX4_packOneByOne 0 := ⟨tb3 154 rfl rfl, ts2 (q := (yX4_packOneByOne, 12)) 3 rfl, tb1 6 rfl rfl, tb3 155 rfl rfl, by decide +kernel, by decide +kernel⟩
theorem mkX4_packByList : MKV MX4_packByList 0 := ⟨tb3 158 rfl rfl, ts2 (q := (yX4_packByList, 12)) 4 rfl, tb1 6 rfl rfl, tb3 159 rfl rfl, by decide +kernel, by decide +kernel⟩
theorem mkX4_mayEnter : MKV MX4_mayEnter 3 := ⟨tb3 162 rfl rfl, ts2 (q := (yX4_mayEnter, 12)) 5 rfl, tb1 6 rfl rfl, tb3 163 rfl rfl, by decide +kernel, by decide +kernel⟩
theorem mkX4_packFewest : MKV MX4_packFewest 0 := ⟨tb3 166 rfl rfl, ts2 (q := (yX4_packFewest, 12)) 6 rfl, tb1 6 rfl rfl, tb3 167 rfl rfl, by decide +kernel, by decide +kernel⟩
theorem mkX4_fits : MKV MX4_fits 2 := ⟨tb3 170 rfl rfl, ts2 (q := (yX4_fits, 12)) 7 rfl, tb1 6 rfl rfl, tb3 171 rfl rfl, by decide +kernel, by decide +kernel⟩
theorem mkX4_extend : MKV MX4_extend 5 := ⟨tb3 188 rfl rfl, ts2 (q := (yX4_extend, 12)) 10 rfl, tb1 6 rfl rfl, tb3 189 rfl rfl, by decide +kernel, by decide +kernel⟩
theorem mkX4_wordsNeeded : MKV MX4_wordsNeeded 1 := ⟨tb3 174 rfl rfl, ts2 (q := (yX4_wordsNeeded, 12)) 8 rfl, tb1 6 rfl rfl, tb3 175 rfl rfl, by decide +kernel, by decide +kernel⟩
theorem mkX4_urgent : MKV MX4_urgent 2 := ⟨tb3 184 rfl rfl, ts2 (q := (yX4_urgent, 12)) 9 rfl, tb1 6 rfl rfl, tb3 185 rfl rfl, by decide +kernel, by decide +kernel⟩
theorem mkX5_runSequence : MKV MX5_runSequence 3 := ⟨tb5 203 rfl rfl, tb5 204 rfl rfl, tb1 10 rfl rfl, tb5 205 rfl rfl, by decide +kernel, by decide +kernel⟩
theorem mkX5_runWords : MKV MX5_runWords 3 := ⟨tb5 221 rfl rfl, tb5 222 rfl rfl, tb1 10 rfl rfl, tb5 223 rfl rfl, by decide +kernel, by decide +kernel⟩
theorem mkX5_agreesOn : MKV MX5_agreesOn 3 := ⟨tb6 4 rfl rfl, tb6 5 rfl rfl, tb1 10 rfl rfl, tb6 6 rfl rfl, by decide +kernel, by decide +kernel⟩
theorem mkX5_execute : MKV MX5_execute 3 := ⟨tb5 226 rfl rfl, ts4 (q := (yX5_execute, 5)) 5 rfl, tb1 10 rfl rfl, tb5 227 rfl rfl, by decide +kernel, by decide +kernel⟩
theorem mkX5_valueOf : MKS MX5_valueOf 3 := ⟨tb5 207 rfl rfl, tb1 10 rfl rfl, tb5 208 rfl rfl, by decide +kernel⟩
theorem mkX5_operandValue : MKS MX5_operandValue 2 := ⟨tb5 210 rfl rfl, tb1 10 rfl rfl, tb5 211 rfl rfl, by decide +kernel⟩
theorem mkX6_operationNamed : MKV MX6_operationNamed 1 := ⟨tb3 68 rfl rfl, tb3 69 rfl rfl, tb1 4 rfl rfl, tb3 70 rfl rfl, by decide +kernel, by decide +kernel⟩
theorem mkX6_instructionNamed : MKV MX6_instructionNamed 1 := ⟨tb3 75 rfl rfl, tb3 76 rfl rfl, tb1 4 rfl rfl, tb3 77 rfl rfl, by decide +kernel, by decide +kernel⟩
theorem mkX6_indexOf : MKS MX6_indexOf 3 := ⟨tb3 72 rfl rfl, tb1 4 rfl rfl, tb3 73 rfl rfl, by decide +kernel⟩
theorem mkX6_occurrences : MKV MX6_occurrences 1 := ⟨tb4 232 rfl rfl, tb4 233 rfl rfl, tb1 4 rfl rfl, tb4 234 rfl rfl, by decide +kernel, by decide +kernel⟩
theorem mkX6_tie : MKV MX6_tie 2 := ⟨tb3 144 rfl rfl, tb3 145 rfl rfl, tb1 4 rfl rfl, tb3 146 rfl rfl, by decide +kernel, by decide +kernel⟩
theorem mkX6_segmentEnd : MKV MX6_segmentEnd 2 := ⟨tb3 128 rfl rfl, tb3 129 rfl rfl, tb1 4 rfl rfl, tb3 130 rfl rfl, by decide +kernel, by decide +kernel⟩
theorem mkX6_joinedLength : MKV MX6_joinedLength 2 := ⟨tb5 73 rfl rfl, tb5 74 rfl rfl, tb1 4 rfl rfl, tb5 75 rfl rfl, by decide +kernel, by decide +kernel⟩
theorem mkX7_place : MKV MX7_place 2 := ⟨tb3 203 rfl rfl, tb3 204 rfl rfl, tb1 8 rfl rfl, tb3 205 rfl rfl, by decide +kernel, by decide +kernel⟩
theorem mkX7_equalBefore : MKV MX7_equalBefore 3 := ⟨tb3 208 rfl rfl, ts2 (q := (yX7_equalBefore, 5)) 13 rfl, tb1 8 rfl rfl, tb3 209 rfl rfl, by decide +kernel, by decide +kernel⟩
theorem mkX7_users : MKV MX7_users 2 := ⟨tb5 142 rfl rfl, tb5 143 rfl rfl, tb1 8 rfl rfl, tb5 144 rfl rfl, by decide +kernel, by decide +kernel⟩
theorem mkX8_pack : MKV MX8_pack 4 := ⟨tb3 124 rfl rfl, tb3 125 rfl rfl, tb1 7 rfl rfl, tb3 126 rfl rfl, by decide +kernel, by decide +kernel⟩
theorem mkX8_addSegment : MKV MX8_addSegment 4 := ⟨tb3 192 rfl rfl, ts2 (q := (yX8_addSegment, 5)) 11 rfl, tb1 7 rfl rfl, tb3 193 rfl rfl, by decide +kernel, by decide +kernel⟩
theorem mkX8_operationsOf : MKS MX8_operationsOf 3 := ⟨tb3 195 rfl rfl, tb1 7 rfl rfl, tb3 196 rfl rfl, by decide +kernel⟩
theorem mkX9_append : MKV MX9_append 5 := ⟨tb2 162 rfl rfl, tb2 163 rfl rfl, tb1 1 rfl rfl, tb2 164 rfl rfl, by decide +kernel, by decide +kernel⟩
theorem mkX9_truncate : MKV MX9_truncate 1 := ⟨tb2 170 rfl rfl, tb2 171 rfl rfl, tb1 1 rfl rfl, tb2 172 rfl rfl, by decide +kernel, by decide +kernel⟩
theorem mkX9_bufferLength : MKV MX9_bufferLength 0 := ⟨tb2 174 rfl rfl, tb2 175 rfl rfl, tb1 1 rfl rfl, tb2 176 rfl rfl, by decide +kernel, by decide +kernel⟩
theorem mkX9_load : MKV MX9_load 0 := ⟨tb2 178 rfl rfl, tb2 179 rfl rfl, tb1 1 rfl rfl, tb2 180 rfl rfl, by decide +kernel, by decide +kernel⟩
theorem mkX9_find : MKV MX9_find 0 := ⟨tb3 211 rfl rfl, tb3 212 rfl rfl, tb1 1 rfl rfl, tb3 213 rfl rfl, by decide +kernel, by decide +kernel⟩
theorem mkX9_write : MKV MX9_write 0 := ⟨tb3 221 rfl rfl, tb3 222 rfl rfl, tb1 1 rfl rfl, tb3 223 rfl rfl, by decide +kernel, by decide +kernel⟩
theorem mkX9_outputByte : MKV MX9_outputByte 1 := ⟨tb4 131 rfl rfl, tb4 132 rfl rfl, tb1 1 rfl rfl, tb4 133 rfl rfl, by decide +kernel, by decide +kernel⟩
theorem mkX9_operationCount : MKV MX9_operationCount 0 := ⟨tb4 42 rfl rfl, tb4 43 rfl rfl, tb1 1 rfl rfl, tb4 44 rfl rfl, by decide +kernel, by decide +kernel⟩
theorem mkX9_instructionCount : MKV MX9_instructionCount 0 := ⟨tb4 46 rfl rfl, tb4 47 rfl rfl, tb1 1 rfl rfl, tb4 48 rfl rfl, by decide +kernel, by decide +kernel⟩
theorem mkX9_operation : MKV MX9_operation 2 := ⟨tb4 208 rfl rfl, tb4 209 rfl rfl, tb1 1 rfl rfl, tb4 210 rfl rfl, by decide +kernel, by decide +kernel⟩
theorem mkX9_length : MKV MX9_length 1 := ⟨tb5 15 rfl rfl, tb5 16 rfl rfl, tb1 1 rfl rfl, tb5 17 rfl rfl, by decide +kernel, by decide +kernel⟩
theorem mkX9_operationAt : MKV MX9_operationAt 2 := ⟨tb5 27 rfl rfl, tb5 28 rfl rfl, tb1 1 rfl rfl, tb5 29 rfl rfl, by decide +kernel, by decide +kernel⟩
theorem mkX9_hasMark : MKV MX9_hasMark 2 := ⟨tb5 39 rfl rfl, tb5 40 rfl rfl, tb1 1 rfl rfl, tb5 41 rfl rfl, by decide +kernel, by decide +kernel⟩
theorem mkX9_dependence : MKV MX9_dependence 3 := ⟨tb5 46 rfl rfl, tb5 47 rfl rfl, tb1 1 rfl rfl, tb5 48 rfl rfl, by decide +kernel, by decide +kernel⟩
theorem mkX9_checkOperation : MKV MX9_checkOperation 1 := ⟨tb4 213 rfl rfl, ts3 (q := (yX9_checkOperation, 11)) 15 rfl, tb1 1 rfl rfl, tb4 214 rfl rfl, by decide +kernel, by decide +kernel⟩
theorem mkX9_checkInstruction : MKV MX9_checkInstruction 1 := ⟨tb5 20 rfl rfl, ts4 (q := (yX9_checkInstruction, 11)) 0 rfl, tb1 1 rfl rfl, tb5 21 rfl rfl, by decide +kernel, by decide +kernel⟩
theorem mkX9_checkPosition : MKV MX9_checkPosition 2 := ⟨tb5 32 rfl rfl, ts4 (q := (yX9_checkPosition, 11)) 1 rfl, tb1 1 rfl rfl, tb5 33 rfl rfl, by decide +kernel, by decide +kernel⟩
theorem mkX9_setMode : MKV MX9_setMode 1 := ⟨tb5 55 rfl rfl, tb5 56 rfl rfl, tb1 1 rfl rfl, tb5 57 rfl rfl, by decide +kernel, by decide +kernel⟩
theorem mkX9_mode : MKV MX9_mode 0 := ⟨tb4 50 rfl rfl, tb4 51 rfl rfl, tb1 1 rfl rfl, tb4 52 rfl rfl, by decide +kernel, by decide +kernel⟩
theorem mkX9_setMark : MKV MX9_setMark 3 := ⟨tb5 68 rfl rfl, tb5 69 rfl rfl, tb1 1 rfl rfl, tb5 70 rfl rfl, by decide +kernel, by decide +kernel⟩
theorem mkX9_undo : MKV MX9_undo 0 := ⟨tb4 54 rfl rfl, tb4 55 rfl rfl, tb1 1 rfl rfl, tb4 56 rfl rfl, by decide +kernel, by decide +kernel⟩
theorem mkX9_changeMark : MKV MX9_changeMark 2 := ⟨tb4 59 rfl rfl, ts3 (q := (yX9_changeMark, 11)) 5 rfl, tb1 1 rfl rfl, tb4 60 rfl rfl, by decide +kernel, by decide +kernel⟩
theorem mkX9_packAll : MKV MX9_packAll 0 := ⟨tb3 121 rfl rfl, ts1 (q := (yX9_packAll, 11)) 15 rfl, tb1 1 rfl rfl, tb3 122 rfl rfl, by decide +kernel, by decide +kernel⟩
theorem mkX9_fillStore : MKV MX9_fillStore 0 := ⟨tb3 200 rfl rfl, ts2 (q := (yX9_fillStore, 11)) 12 rfl, tb1 1 rfl rfl, tb3 201 rfl rfl, by decide +kernel, by decide +kernel⟩
theorem mkX9_wordCount : MKV MX9_wordCount 1 := ⟨tb5 97 rfl rfl, tb5 98 rfl rfl, tb1 1 rfl rfl, tb5 99 rfl rfl, by decide +kernel, by decide +kernel⟩
theorem mkX9_word : MKV MX9_word 2 := ⟨tb5 104 rfl rfl, tb5 105 rfl rfl, tb1 1 rfl rfl, tb5 106 rfl rfl, by decide +kernel, by decide +kernel⟩
theorem mkX9_chain : MKV MX9_chain 1 := ⟨tb5 112 rfl rfl, tb5 113 rfl rfl, tb1 1 rfl rfl, tb5 114 rfl rfl, by decide +kernel, by decide +kernel⟩
theorem mkX9_latency : MKV MX9_latency 1 := ⟨tb5 119 rfl rfl, tb5 120 rfl rfl, tb1 1 rfl rfl, tb5 121 rfl rfl, by decide +kernel, by decide +kernel⟩
theorem mkX9_storeSize : MKV MX9_storeSize 0 := ⟨tb4 62 rfl rfl, tb4 63 rfl rfl, tb1 1 rfl rfl, tb4 64 rfl rfl, by decide +kernel, by decide +kernel⟩
theorem mkX9_entry : MKV MX9_entry 1 := ⟨tb5 126 rfl rfl, tb5 127 rfl rfl, tb1 1 rfl rfl, tb5 128 rfl rfl, by decide +kernel, by decide +kernel⟩
theorem mkX9_store : MKV MX9_store 2 := ⟨tb5 133 rfl rfl, tb5 134 rfl rfl, tb1 1 rfl rfl, tb5 135 rfl rfl, by decide +kernel, by decide +kernel⟩
theorem mkX9_checkAddress : MKV MX9_checkAddress 1 := ⟨tb5 138 rfl rfl, ts4 (q := (yX9_checkAddress, 11)) 2 rfl, tb1 1 rfl rfl, tb5 139 rfl rfl, by decide +kernel, by decide +kernel⟩
theorem mkX9_fieldCount : MKV MX9_fieldCount 0 := ⟨tb4 66 rfl rfl, tb4 67 rfl rfl, tb1 1 rfl rfl, tb4 68 rfl rfl, by decide +kernel, by decide +kernel⟩
theorem mkX9_fieldBits : MKV MX9_fieldBits 0 := ⟨tb4 119 rfl rfl, tb4 120 rfl rfl, tb1 1 rfl rfl, tb4 121 rfl rfl, by decide +kernel, by decide +kernel⟩
theorem mkX9_fieldOf : MKV MX9_fieldOf 1 := ⟨tb5 150 rfl rfl, tb5 151 rfl rfl, tb1 1 rfl rfl, tb5 152 rfl rfl, by decide +kernel, by decide +kernel⟩
theorem mkX9_codeOf : MKV MX9_codeOf 1 := ⟨tb5 157 rfl rfl, tb5 158 rfl rfl, tb1 1 rfl rfl, tb5 159 rfl rfl, by decide +kernel, by decide +kernel⟩
theorem mkX9_control : MKV MX9_control 1 := ⟨tb5 164 rfl rfl, tb5 165 rfl rfl, tb1 1 rfl rfl, tb5 166 rfl rfl, by decide +kernel, by decide +kernel⟩
theorem mkX9_setRegister : MKV MX9_setRegister 2 := ⟨tb5 175 rfl rfl, tb5 176 rfl rfl, tb1 1 rfl rfl, tb5 177 rfl rfl, by decide +kernel, by decide +kernel⟩
theorem mkX9_register : MKV MX9_register 1 := ⟨tb5 187 rfl rfl, tb5 188 rfl rfl, tb1 1 rfl rfl, tb5 189 rfl rfl, by decide +kernel, by decide +kernel⟩
theorem mkX9_checkRegister : MKV MX9_checkRegister 1 := ⟨tb5 180 rfl rfl, ts4 (q := (yX9_checkRegister, 11)) 3 rfl, tb1 1 rfl rfl, tb5 181 rfl rfl, by decide +kernel, by decide +kernel⟩
theorem mkX9_runSource : MKV MX9_runSource 1 := ⟨tb5 194 rfl rfl, tb5 195 rfl rfl, tb1 1 rfl rfl, tb5 196 rfl rfl, by decide +kernel, by decide +kernel⟩
theorem mkX9_start : MKV MX9_start 2 := ⟨tb5 216 rfl rfl, tb5 217 rfl rfl, tb1 1 rfl rfl, tb5 218 rfl rfl, by decide +kernel, by decide +kernel⟩
theorem mkX9_resume : MKV MX9_resume 0 := ⟨tb5 232 rfl rfl, tb5 233 rfl rfl, tb1 1 rfl rfl, tb5 234 rfl rfl, by decide +kernel, by decide +kernel⟩
theorem mkX9_checkIdle : MKV MX9_checkIdle 0 := ⟨tb5 199 rfl rfl, ts4 (q := (yX9_checkIdle, 11)) 4 rfl, tb1 1 rfl rfl, tb5 200 rfl rfl, by decide +kernel, by decide +kernel⟩
theorem mkX9_address : MKV MX9_address 0 := ⟨tb4 123 rfl rfl, tb4 124 rfl rfl, tb1 1 rfl rfl, tb4 125 rfl rfl, by decide +kernel, by decide +kernel⟩
theorem mkX9_agrees : MKV MX9_agrees 1 := ⟨tb6 0 rfl rfl, tb6 1 rfl rfl, tb1 1 rfl rfl, tb6 2 rfl rfl, by decide +kernel, by decide +kernel⟩
theorem mkX10_thrown : MKV MX10_thrown 0 := ⟨tb6 184 rfl rfl, tb6 185 rfl rfl, tb1 11 rfl rfl, tb6 186 rfl rfl, by decide +kernel, by decide +kernel⟩
theorem mkX10_throwsAs : MKV MX10_throwsAs 1 := ⟨tb6 204 rfl rfl, ts4 (q := (yX10_throwsAs, 55)) 6 rfl, tb1 11 rfl rfl, tb6 205 rfl rfl, by decide +kernel, by decide +kernel⟩
theorem mkX10_isIn : MKS MX10_isIn 3 := ⟨tb6 200 rfl rfl, tb1 11 rfl rfl, tb6 201 rfl rfl, by decide +kernel⟩
theorem mkX10_of : MKV MX10_of 2 := ⟨tb6 208 rfl rfl, ts4 (q := (yX10_of, 55)) 7 rfl, tb1 11 rfl rfl, tb6 209 rfl rfl, by decide +kernel, by decide +kernel⟩
theorem mkX10_at : MKV MX10_at 2 := ⟨tb6 216 rfl rfl, ts4 (q := (yX10_at, 55)) 9 rfl, tb1 11 rfl rfl, tb6 217 rfl rfl, by decide +kernel, by decide +kernel⟩
theorem mkX10_isMarked : MKV MX10_isMarked 2 := ⟨tb7 0 rfl rfl, ts4 (q := (yX10_isMarked, 55)) 12 rfl, tb1 11 rfl rfl, tb7 1 rfl rfl, by decide +kernel, by decide +kernel⟩
theorem mkX10_isInstruction : MKV MX10_isInstruction 1 := ⟨tb6 224 rfl rfl, ts4 (q := (yX10_isInstruction, 55)) 10 rfl, tb1 11 rfl rfl, tb6 225 rfl rfl, by decide +kernel, by decide +kernel⟩
theorem mkX10_isAt : MKV MX10_isAt 2 := ⟨tb6 232 rfl rfl, ts4 (q := (yX10_isAt, 55)) 11 rfl, tb1 11 rfl rfl, tb6 233 rfl rfl, by decide +kernel, by decide +kernel⟩
theorem mkX10_reads : MKV MX10_reads 1 := ⟨tb6 212 rfl rfl, ts4 (q := (yX10_reads, 55)) 8 rfl, tb1 11 rfl rfl, tb6 213 rfl rfl, by decide +kernel, by decide +kernel⟩
theorem mkX10_isStrict : MKV MX10_isStrict 2 := ⟨tb7 8 rfl rfl, ts4 (q := (yX10_isStrict, 55)) 13 rfl, tb1 11 rfl rfl, tb7 9 rfl rfl, by decide +kernel, by decide +kernel⟩
theorem mkX10_isWeak : MKV MX10_isWeak 2 := ⟨tb7 12 rfl rfl, ts4 (q := (yX10_isWeak, 55)) 14 rfl, tb1 11 rfl rfl, tb7 13 rfl rfl, by decide +kernel, by decide +kernel⟩
theorem mkX10_operationCount : MKV MX10_operationCount 0 := ⟨tb6 188 rfl rfl, tb6 189 rfl rfl, tb1 11 rfl rfl, tb6 190 rfl rfl, by decide +kernel, by decide +kernel⟩
theorem mkX10_instructionCount : MKV MX10_instructionCount 0 := ⟨tb6 192 rfl rfl, tb6 193 rfl rfl, tb1 11 rfl rfl, tb6 194 rfl rfl, by decide +kernel, by decide +kernel⟩
theorem mkX10_operation : MKV MX10_operation 2 := ⟨tb6 196 rfl rfl, tb6 197 rfl rfl, tb1 11 rfl rfl, tb6 198 rfl rfl, by decide +kernel, by decide +kernel⟩
theorem mkX10_length : MKV MX10_length 1 := ⟨tb6 219 rfl rfl, tb6 220 rfl rfl, tb1 11 rfl rfl, tb6 221 rfl rfl, by decide +kernel, by decide +kernel⟩
theorem mkX10_operationAt : MKV MX10_operationAt 2 := ⟨tb6 227 rfl rfl, tb6 228 rfl rfl, tb1 11 rfl rfl, tb6 229 rfl rfl, by decide +kernel, by decide +kernel⟩
theorem mkX10_hasMark : MKV MX10_hasMark 2 := ⟨tb6 235 rfl rfl, tb6 236 rfl rfl, tb1 11 rfl rfl, tb6 237 rfl rfl, by decide +kernel, by decide +kernel⟩
theorem mkX10_dependence : MKV MX10_dependence 3 := ⟨tb7 3 rfl rfl, tb7 4 rfl rfl, tb1 11 rfl rfl, tb7 5 rfl rfl, by decide +kernel, by decide +kernel⟩
theorem mkX10_behind : MKV MX10_behind 2 := ⟨tb7 36 rfl rfl, ts5 (q := (yX10_behind, 55)) 3 rfl, tb1 11 rfl rfl, tb7 37 rfl rfl, by decide +kernel, by decide +kernel⟩
theorem mkX10_laysSegment : MKV MX10_laysSegment 2 := ⟨tb7 32 rfl rfl, ts5 (q := (yX10_laysSegment, 55)) 2 rfl, tb1 11 rfl rfl, tb7 33 rfl rfl, by decide +kernel, by decide +kernel⟩
theorem mkX10_laysWord : MKV MX10_laysWord 1 := ⟨tb7 44 rfl rfl, ts5 (q := (yX10_laysWord, 55)) 5 rfl, tb1 11 rfl rfl, tb7 45 rfl rfl, by decide +kernel, by decide +kernel⟩
theorem mkX10_packsByList : MKV MX10_packsByList 0 := ⟨tb7 40 rfl rfl, ts5 (q := (yX10_packsByList, 55)) 4 rfl, tb1 11 rfl rfl, tb7 41 rfl rfl, by decide +kernel, by decide +kernel⟩
theorem mkX10_mayBe : MKV MX10_mayBe 2 := ⟨tb7 56 rfl rfl, ts5 (q := (yX10_mayBe, 55)) 8 rfl, tb1 11 rfl rfl, tb7 57 rfl rfl, by decide +kernel, by decide +kernel⟩
theorem mkX10_bestWord : MKV MX10_bestWord 1 := ⟨tb7 52 rfl rfl, ts5 (q := (yX10_bestWord, 55)) 7 rfl, tb1 11 rfl rfl, tb7 53 rfl rfl, by decide +kernel, by decide +kernel⟩
theorem mkX10_packsBest : MKV MX10_packsBest 0 := ⟨tb7 48 rfl rfl, ts5 (q := (yX10_packsBest, 55)) 6 rfl, tb1 11 rfl rfl, tb7 49 rfl rfl, by decide +kernel, by decide +kernel⟩
theorem mkX10_chainOf : MKV MX10_chainOf 0 := ⟨tb7 61 rfl rfl, ts5 (q := (yX10_chainOf, 55)) 9 rfl, tb1 11 rfl rfl, tb7 62 rfl rfl, by decide +kernel, by decide +kernel⟩
theorem mkX10_packs : MKV MX10_packs 1 := ⟨tb7 28 rfl rfl, ts5 (q := (yX10_packs, 55)) 1 rfl, tb1 11 rfl rfl, tb7 29 rfl rfl, by decide +kernel, by decide +kernel⟩
theorem mkX10_wordsOf : MKV MX10_wordsOf 1 := ⟨tb7 69 rfl rfl, ts5 (q := (yX10_wordsOf, 55)) 11 rfl, tb1 11 rfl rfl, tb7 70 rfl rfl, by decide +kernel, by decide +kernel⟩
theorem mkX10_isEnd : MKV MX10_isEnd 3 := ⟨tb7 77 rfl rfl, ts5 (q := (yX10_isEnd, 55)) 13 rfl, tb1 11 rfl rfl, tb7 78 rfl rfl, by decide +kernel, by decide +kernel⟩
theorem mkX10_addressOfEnd : MKV MX10_addressOfEnd 2 := ⟨tb7 73 rfl rfl, ts5 (q := (yX10_addressOfEnd, 55)) 12 rfl, tb1 11 rfl rfl, tb7 74 rfl rfl, by decide +kernel, by decide +kernel⟩
theorem mkX10_stores : MKV MX10_stores 1 := ⟨tb7 65 rfl rfl, ts5 (q := (yX10_stores, 55)) 10 rfl, tb1 11 rfl rfl, tb7 66 rfl rfl, by decide +kernel, by decide +kernel⟩
theorem mkX10_ones : MKS MX10_ones 1 := ⟨tb7 88 rfl rfl, tb1 11 rfl rfl, tb7 89 rfl rfl, by decide +kernel⟩
theorem mkX10_bitsFor : MKS MX10_bitsFor 1 := ⟨tb7 99 rfl rfl, tb1 11 rfl rfl, tb7 100 rfl rfl, by decide +kernel⟩
theorem mkX10_laysTogether : MKV MX10_laysTogether 0 := ⟨tb7 85 rfl rfl, ts5 (q := (yX10_laysTogether, 55)) 15 rfl, tb1 11 rfl rfl, tb7 86 rfl rfl, by decide +kernel, by decide +kernel⟩
theorem mkX10_bestField : MKV MX10_bestField 1 := ⟨tb7 96 rfl rfl, ts6 (q := (yX10_bestField, 55)) 1 rfl, tb1 11 rfl rfl, tb7 97 rfl rfl, by decide +kernel, by decide +kernel⟩
theorem mkX10_laysFields : MKV MX10_laysFields 0 := ⟨tb7 81 rfl rfl, ts5 (q := (yX10_laysFields, 55)) 14 rfl, tb1 11 rfl rfl, tb7 82 rfl rfl, by decide +kernel, by decide +kernel⟩
theorem mkX10_laysCost : MKV MX10_laysCost 1 := ⟨tb7 92 rfl rfl, ts6 (q := (yX10_laysCost, 55)) 0 rfl, tb1 11 rfl rfl, tb7 93 rfl rfl, by decide +kernel, by decide +kernel⟩
theorem mkX10_laysAll : MKV MX10_laysAll 0 := ⟨tb7 24 rfl rfl, ts5 (q := (yX10_laysAll, 55)) 0 rfl, tb1 11 rfl rfl, tb7 25 rfl rfl, by decide +kernel, by decide +kernel⟩
theorem mkX10_keeps : MKV MX10_keeps 0 := ⟨tb7 20 rfl rfl, ts4 (q := (yX10_keeps, 55)) 15 rfl, tb1 11 rfl rfl, tb7 21 rfl rfl, by decide +kernel, by decide +kernel⟩
theorem mkX10_setMode : MKV MX10_setMode 1 := ⟨tb7 15 rfl rfl, tb7 16 rfl rfl, tb1 11 rfl rfl, tb7 17 rfl rfl, by decide +kernel, by decide +kernel⟩
theorem mkX10_mode : MKV MX10_mode 0 := ⟨tb7 102 rfl rfl, tb7 103 rfl rfl, tb1 11 rfl rfl, tb7 104 rfl rfl, by decide +kernel, by decide +kernel⟩
theorem mkX10_longestSegment : MKV MX10_longestSegment 1 := ⟨tb7 111 rfl rfl, ts6 (q := (yX10_longestSegment, 55)) 2 rfl, tb1 11 rfl rfl, tb7 112 rfl rfl, by decide +kernel, by decide +kernel⟩
theorem mkX10_setMark : MKV MX10_setMark 3 := ⟨tb7 106 rfl rfl, tb7 107 rfl rfl, tb1 11 rfl rfl, tb7 108 rfl rfl, by decide +kernel, by decide +kernel⟩
theorem mkX10_undo : MKV MX10_undo 0 := ⟨tb7 114 rfl rfl, tb7 115 rfl rfl, tb1 11 rfl rfl, tb7 116 rfl rfl, by decide +kernel, by decide +kernel⟩
theorem mkX10_wordCount : MKV MX10_wordCount 1 := ⟨tb7 118 rfl rfl, tb7 119 rfl rfl, tb1 11 rfl rfl, tb7 120 rfl rfl, by decide +kernel, by decide +kernel⟩
theorem mkX10_word : MKV MX10_word 2 := ⟨tb7 122 rfl rfl, tb7 123 rfl rfl, tb1 11 rfl rfl, tb7 124 rfl rfl, by decide +kernel, by decide +kernel⟩
theorem mkX10_chain : MKV MX10_chain 1 := ⟨tb7 126 rfl rfl, tb7 127 rfl rfl, tb1 11 rfl rfl, tb7 128 rfl rfl, by decide +kernel, by decide +kernel⟩
theorem mkX10_latency : MKV MX10_latency 1 := ⟨tb7 130 rfl rfl, tb7 131 rfl rfl, tb1 11 rfl rfl, tb7 132 rfl rfl, by decide +kernel, by decide +kernel⟩
theorem mkX10_storeSize : MKV MX10_storeSize 0 := ⟨tb7 134 rfl rfl, tb7 135 rfl rfl, tb1 11 rfl rfl, tb7 136 rfl rfl, by decide +kernel, by decide +kernel⟩
theorem mkX10_entry : MKV MX10_entry 1 := ⟨tb7 138 rfl rfl, tb7 139 rfl rfl, tb1 11 rfl rfl, tb7 140 rfl rfl, by decide +kernel, by decide +kernel⟩
theorem mkX10_usersOf : MKV MX10_usersOf 1 := ⟨tb7 151 rfl rfl, ts6 (q := (yX10_usersOf, 55)) 4 rfl, tb1 11 rfl rfl, tb7 152 rfl rfl, by decide +kernel, by decide +kernel⟩
theorem mkX10_isAddress : MKV MX10_isAddress 1 := ⟨tb7 147 rfl rfl, ts6 (q := (yX10_isAddress, 55)) 3 rfl, tb1 11 rfl rfl, tb7 148 rfl rfl, by decide +kernel, by decide +kernel⟩
theorem mkX10_store : MKV MX10_store 2 := ⟨tb7 142 rfl rfl, tb7 143 rfl rfl, tb1 11 rfl rfl, tb7 144 rfl rfl, by decide +kernel, by decide +kernel⟩
theorem mkX10_fieldCount : MKV MX10_fieldCount 0 := ⟨tb7 154 rfl rfl, tb7 155 rfl rfl, tb1 11 rfl rfl, tb7 156 rfl rfl, by decide +kernel, by decide +kernel⟩
theorem mkX10_fieldBits : MKV MX10_fieldBits 0 := ⟨tb7 158 rfl rfl, tb7 159 rfl rfl, tb1 11 rfl rfl, tb7 160 rfl rfl, by decide +kernel, by decide +kernel⟩
theorem mkX10_fieldWith : MKV MX10_fieldWith 1 := ⟨tb7 167 rfl rfl, ts6 (q := (yX10_fieldWith, 55)) 5 rfl, tb1 11 rfl rfl, tb7 168 rfl rfl, by decide +kernel, by decide +kernel⟩
theorem mkX10_code : MKV MX10_code 1 := ⟨tb7 175 rfl rfl, ts6 (q := (yX10_code, 55)) 6 rfl, tb1 11 rfl rfl, tb7 176 rfl rfl, by decide +kernel, by decide +kernel⟩
theorem mkX10_fieldOf : MKV MX10_fieldOf 1 := ⟨tb7 162 rfl rfl, tb7 163 rfl rfl, tb1 11 rfl rfl, tb7 164 rfl rfl, by decide +kernel, by decide +kernel⟩
theorem mkX10_codeOf : MKV MX10_codeOf 1 := ⟨tb7 170 rfl rfl, tb7 171 rfl rfl, tb1 11 rfl rfl, tb7 172 rfl rfl, by decide +kernel, by decide +kernel⟩
theorem mkX10_control : MKV MX10_control 1 := ⟨tb7 178 rfl rfl, tb7 179 rfl rfl, tb1 11 rfl rfl, tb7 180 rfl rfl, by decide +kernel, by decide +kernel⟩
theorem mkX10_setRegister : MKV MX10_setRegister 2 := ⟨tb7 182 rfl rfl, tb7 183 rfl rfl, tb1 11 rfl rfl, tb7 184 rfl rfl, by decide +kernel, by decide +kernel⟩
theorem mkX10_register : MKV MX10_register 1 := ⟨tb7 186 rfl rfl, tb7 187 rfl rfl, tb1 11 rfl rfl, tb7 188 rfl rfl, by decide +kernel, by decide +kernel⟩
theorem mkX10_operand : MKV MX10_operand 1 := ⟨tb7 210 rfl rfl, ts6 (q := (yX10_operand, 55)) 10 rfl, tb1 11 rfl rfl, tb7 211 rfl rfl, by decide +kernel, by decide +kernel⟩
theorem mkX10_valueOf : MKV MX10_valueOf 1 := ⟨tb7 206 rfl rfl, ts6 (q := (yX10_valueOf, 55)) 9 rfl, tb1 11 rfl rfl, tb7 207 rfl rfl, by decide +kernel, by decide +kernel⟩
theorem mkX10_copies : MKS MX10_copies 2 := ⟨tb7 202 rfl rfl, tb1 11 rfl rfl, tb7 203 rfl rfl, by decide +kernel⟩
theorem mkX10_does : MKV MX10_does 1 := ⟨tb7 199 rfl rfl, ts6 (q := (yX10_does, 55)) 8 rfl, tb1 11 rfl rfl, tb7 200 rfl rfl, by decide +kernel, by decide +kernel⟩
theorem mkX10_doesSource : MKV MX10_doesSource 1 := ⟨tb7 195 rfl rfl, ts6 (q := (yX10_doesSource, 55)) 7 rfl, tb1 11 rfl rfl, tb7 196 rfl rfl, by decide +kernel, by decide +kernel⟩
theorem mkX10_runSource : MKV MX10_runSource 1 := ⟨tb7 190 rfl rfl, tb7 191 rfl rfl, tb1 11 rfl rfl, tb7 192 rfl rfl, by decide +kernel, by decide +kernel⟩
theorem mkX10_goesOn : MKV MX10_goesOn 2 := ⟨tb7 218 rfl rfl, ts6 (q := (yX10_goesOn, 55)) 11 rfl, tb1 11 rfl rfl, tb7 219 rfl rfl, by decide +kernel, by decide +kernel⟩
theorem mkX10_start : MKV MX10_start 2 := ⟨tb7 213 rfl rfl, tb7 214 rfl rfl, tb1 11 rfl rfl, tb7 215 rfl rfl, by decide +kernel, by decide +kernel⟩
theorem mkX10_resume : MKV MX10_resume 0 := ⟨tb7 221 rfl rfl, tb7 222 rfl rfl, tb1 11 rfl rfl, tb7 223 rfl rfl, by decide +kernel, by decide +kernel⟩
theorem mkX10_address : MKV MX10_address 0 := ⟨tb7 226 rfl rfl, tb7 227 rfl rfl, tb1 11 rfl rfl, tb7 228 rfl rfl, by decide +kernel, by decide +kernel⟩
theorem mkX10_agrees : MKV MX10_agrees 1 := ⟨tb7 230 rfl rfl, tb7 231 rfl rfl, tb1 11 rfl rfl, tb7 232 rfl rfl, by decide +kernel, by decide +kernel⟩
theorem mkX10_puts : MKV MX10_puts 1 := ⟨tb7 239 rfl rfl, ts6 (q := (yX10_puts, 55)) 12 rfl, tb1 11 rfl rfl, tb8 0 rfl rfl, by decide +kernel, by decide +kernel⟩
theorem mkX10_append : MKV MX10_append 5 := ⟨tb7 234 rfl rfl, tb7 235 rfl rfl, tb1 11 rfl rfl, tb7 236 rfl rfl, by decide +kernel, by decide +kernel⟩
theorem mkX10_truncate : MKV MX10_truncate 1 := ⟨tb8 2 rfl rfl, tb8 3 rfl rfl, tb1 11 rfl rfl, tb8 4 rfl rfl, by decide +kernel, by decide +kernel⟩
theorem mkX10_bufferLength : MKV MX10_bufferLength 0 := ⟨tb8 6 rfl rfl, tb8 7 rfl rfl, tb1 11 rfl rfl, tb8 8 rfl rfl, by decide +kernel, by decide +kernel⟩
theorem mkX10_byteAt : MKV MX10_byteAt 1 := ⟨tb8 26 rfl rfl, ts6 (q := (yX10_byteAt, 55)) 15 rfl, tb1 11 rfl rfl, tb8 27 rfl rfl, by decide +kernel, by decide +kernel⟩
theorem mkX10_isLetter : MKS MX10_isLetter 1 := ⟨tb8 29 rfl rfl, tb1 11 rfl rfl, tb8 30 rfl rfl, by decide +kernel⟩
theorem mkX10_isDigit : MKS MX10_isDigit 1 := ⟨tb8 32 rfl rfl, tb1 11 rfl rfl, tb8 33 rfl rfl, by decide +kernel⟩
theorem mkX10_signOf : MKS MX10_signOf 1 := ⟨tb8 35 rfl rfl, tb1 11 rfl rfl, tb8 36 rfl rfl, by decide +kernel⟩
theorem mkX10_step : MKV MX10_step 0 := ⟨tb8 22 rfl rfl, ts6 (q := (yX10_step, 55)) 14 rfl, tb1 11 rfl rfl, tb8 23 rfl rfl, by decide +kernel, by decide +kernel⟩
theorem mkX10_bad : MKV MX10_bad 1 := ⟨tb8 50 rfl rfl, ts7 (q := (yX10_bad, 55)) 2 rfl, tb1 11 rfl rfl, tb8 51 rfl rfl, by decide +kernel, by decide +kernel⟩
theorem mkX10_isSign : MKV MX10_isSign 1 := ⟨tb8 80 rfl rfl, ts7 (q := (yX10_isSign, 55)) 9 rfl, tb1 11 rfl rfl, tb8 81 rfl rfl, by decide +kernel, by decide +kernel⟩
theorem mkX10_takesSign : MKV MX10_takesSign 1 := ⟨tb8 76 rfl rfl, ts7 (q := (yX10_takesSign, 55)) 8 rfl, tb1 11 rfl rfl, tb8 77 rfl rfl, by decide +kernel, by decide +kernel⟩
theorem mkX10_isWord : MKV MX10_isWord 1 := ⟨tb8 40 rfl rfl, ts7 (q := (yX10_isWord, 55)) 0 rfl, tb1 11 rfl rfl, tb8 41 rfl rfl, by decide +kernel, by decide +kernel⟩
theorem mkX10_registerHere : MKV MX10_registerHere 0 := ⟨tb8 62 rfl rfl, ts7 (q := (yX10_registerHere, 55)) 5 rfl, tb1 11 rfl rfl, tb8 63 rfl rfl, by decide +kernel, by decide +kernel⟩
theorem mkX10_isName : MKV MX10_isName 0 := ⟨tb8 58 rfl rfl, ts7 (q := (yX10_isName, 55)) 4 rfl, tb1 11 rfl rfl, tb8 59 rfl rfl, by decide +kernel, by decide +kernel⟩
theorem mkX10_letterHere : MKV MX10_letterHere 1 := ⟨tb8 72 rfl rfl, ts7 (q := (yX10_letterHere, 55)) 7 rfl, tb1 11 rfl rfl, tb8 73 rfl rfl, by decide +kernel, by decide +kernel⟩
theorem mkX10_named : MKV MX10_named 0 := ⟨tb8 68 rfl rfl, ts7 (q := (yX10_named, 55)) 6 rfl, tb1 11 rfl rfl, tb8 69 rfl rfl, by decide +kernel, by decide +kernel⟩
theorem mkX10_takesNewName : MKV MX10_takesNewName 1 := ⟨tb8 54 rfl rfl, ts7 (q := (yX10_takesNewName, 55)) 3 rfl, tb1 11 rfl rfl, tb8 55 rfl rfl, by decide +kernel, by decide +kernel⟩
theorem mkX10_takesOperand : MKV MX10_takesOperand 1 := ⟨tb8 84 rfl rfl, ts7 (q := (yX10_takesOperand, 55)) 10 rfl, tb1 11 rfl rfl, tb8 85 rfl rfl, by decide +kernel, by decide +kernel⟩
theorem mkX10_takesOperation : MKV MX10_takesOperation 0 := ⟨tb8 46 rfl rfl, ts7 (q := (yX10_takesOperation, 55)) 1 rfl, tb1 11 rfl rfl, tb8 47 rfl rfl, by decide +kernel, by decide +kernel⟩
theorem mkX10_takesInstruction : MKV MX10_takesInstruction 0 := ⟨tb8 88 rfl rfl, ts7 (q := (yX10_takesInstruction, 55)) 11 rfl, tb1 11 rfl rfl, tb8 89 rfl rfl, by decide +kernel, by decide +kernel⟩
theorem mkX10_takesAll : MKV MX10_takesAll 0 := ⟨tb8 18 rfl rfl, ts6 (q := (yX10_takesAll, 55)) 13 rfl, tb1 11 rfl rfl, tb8 19 rfl rfl, by decide +kernel, by decide +kernel⟩
theorem mkX10_moves : MKS MX10_moves 3 := ⟨tb8 14 rfl rfl, tb1 11 rfl rfl, tb8 15 rfl rfl, by decide +kernel⟩
theorem mkX10_load : MKV MX10_load 0 := ⟨tb8 10 rfl rfl, tb8 11 rfl rfl, tb1 11 rfl rfl, tb8 12 rfl rfl, by decide +kernel, by decide +kernel⟩
theorem mkX10_find : MKV MX10_find 0 := ⟨tb8 91 rfl rfl, tb8 92 rfl rfl, tb1 11 rfl rfl, tb8 93 rfl rfl, by decide +kernel, by decide +kernel⟩
theorem mkX10_says : MKV MX10_says 1 := ⟨tb8 105 rfl rfl, ts7 (q := (yX10_says, 55)) 13 rfl, tb1 11 rfl rfl, tb8 106 rfl rfl, by decide +kernel, by decide +kernel⟩
theorem mkX10_saysWord : MKV MX10_saysWord 1 := ⟨tb8 101 rfl rfl, ts7 (q := (yX10_saysWord, 55)) 12 rfl, tb1 11 rfl rfl, tb8 102 rfl rfl, by decide +kernel, by decide +kernel⟩
theorem mkX10_saysNumber : MKV MX10_saysNumber 1 := ⟨tb8 114 rfl rfl, ts7 (q := (yX10_saysNumber, 55)) 15 rfl, tb1 11 rfl rfl, tb8 115 rfl rfl, by decide +kernel, by decide +kernel⟩
theorem mkX10_saysName : MKV MX10_saysName 1 := ⟨tb8 109 rfl rfl, ts7 (q := (yX10_saysName, 55)) 14 rfl, tb1 11 rfl rfl, tb8 110 rfl rfl, by decide +kernel, by decide +kernel⟩
theorem mkX10_saysOperand : MKV MX10_saysOperand 1 := ⟨tb8 118 rfl rfl, ts8 (q := (yX10_saysOperand, 55)) 0 rfl, tb1 11 rfl rfl, tb8 119 rfl rfl, by decide +kernel, by decide +kernel⟩
theorem mkX10_write : MKV MX10_write 0 := ⟨tb8 95 rfl rfl, tb8 96 rfl rfl, tb1 11 rfl rfl, tb8 97 rfl rfl, by decide +kernel, by decide +kernel⟩
theorem mkX10_outputByte : MKV MX10_outputByte 1 := ⟨tb8 123 rfl rfl, tb8 124 rfl rfl, tb1 11 rfl rfl, tb8 125 rfl rfl, by decide +kernel, by decide +kernel⟩
theorem mkJ11_isValidCodePoint_9a6ad : MKS MJ11_isValidCodePoint_9a6ad 1 := ⟨tb3 45 rfl rfl, tb1 17 rfl rfl, tb3 46 rfl rfl, by decide +kernel⟩
theorem mkJ11_highSurrogate_5068e : MKS MJ11_highSurrogate_5068e 1 := ⟨tb3 48 rfl rfl, tb1 17 rfl rfl, tb3 49 rfl rfl, by decide +kernel⟩
theorem mkJ11_lowSurrogate_5068e : MKS MJ11_lowSurrogate_5068e 1 := ⟨tb3 52 rfl rfl, tb1 17 rfl rfl, tb3 53 rfl rfl, by decide +kernel⟩
theorem mkJ6_bitCount_0f7a4 : MKS MJ6_bitCount_0f7a4 1 := ⟨tb3 177 rfl rfl, tb1 18 rfl rfl, tb3 178 rfl rfl, by decide +kernel⟩
theorem mkJ9_max_7cf53 : MKS MJ9_max_7cf53 2 := ⟨tb2 238 rfl rfl, tb1 14 rfl rfl, tb2 239 rfl rfl, by decide +kernel⟩
theorem mkJ9_min_7cf53 : MKS MJ9_min_7cf53 2 := ⟨tb3 1 rfl rfl, tb1 14 rfl rfl, tb3 2 rfl rfl, by decide +kernel⟩
theorem mkJ0_length_8abf5 : MKV MJ0_length_8abf5 0 := ⟨tb2 224 rfl rfl, tb2 225 rfl rfl, tb1 12 rfl rfl, tb2 226 rfl rfl, by decide +kernel, by decide +kernel⟩
theorem mkJ0_charAt_5068e : MKV MJ0_charAt_5068e 1 := ⟨tb3 239 rfl rfl, tb4 0 rfl rfl, tb1 12 rfl rfl, tb4 1 rfl rfl, by decide +kernel, by decide +kernel⟩
theorem mkJ0_indexOf_0f7a4 : MKV MJ0_indexOf_0f7a4 1 := ⟨tb2 210 rfl rfl, tb2 211 rfl rfl, tb1 12 rfl rfl, tb2 212 rfl rfl, by decide +kernel, by decide +kernel⟩
theorem mkJ0_indexOf_7cf53 : MKV MJ0_indexOf_7cf53 2 := ⟨tb2 214 rfl rfl, tb2 215 rfl rfl, tb1 12 rfl rfl, tb2 216 rfl rfl, by decide +kernel, by decide +kernel⟩
theorem mkJ0_coder_7d493 : MKV MJ0_coder_7d493 0 := ⟨tb2 228 rfl rfl, tb2 229 rfl rfl, tb1 12 rfl rfl, tb2 230 rfl rfl, by decide +kernel, by decide +kernel⟩
theorem mkJ0_isLatin1_aae02 : MKV MJ0_isLatin1_aae02 0 := ⟨tb2 218 rfl rfl, tb2 219 rfl rfl, tb1 12 rfl rfl, tb2 220 rfl rfl, by decide +kernel, by decide +kernel⟩
theorem mkJ0_checkIndex_df160 : MKS MJ0_checkIndex_df160 2 := ⟨tb4 6 rfl rfl, tb1 12 rfl rfl, tb4 7 rfl rfl, by decide +kernel⟩
theorem mkJ0_checkBoundsBeginEnd_23922 : MKS MJ0_checkBoundsBeginEnd_23922 3 := ⟨tb3 22 rfl rfl, tb1 12 rfl rfl, tb3 23 rfl rfl, by decide +kernel⟩
theorem mkJ1_charAt_3b067 : MKS MJ1_charAt_3b067 2 := ⟨tb4 3 rfl rfl, tb1 13 rfl rfl, tb4 4 rfl rfl, by decide +kernel⟩
theorem mkJ1_canEncode_9a6ad : MKS MJ1_canEncode_9a6ad 1 := ⟨tb2 235 rfl rfl, tb1 13 rfl rfl, tb2 236 rfl rfl, by decide +kernel⟩
theorem mkJ1_indexOf_4cfef : MKS MJ1_indexOf_4cfef 4 := ⟨tb2 232 rfl rfl, tb1 13 rfl rfl, tb2 233 rfl rfl, by decide +kernel⟩
theorem mkJ1_indexOfChar_4cfef : MKS MJ1_indexOfChar_4cfef 4 := ⟨tb3 4 rfl rfl, tb1 13 rfl rfl, tb3 5 rfl rfl, by decide +kernel⟩
theorem mkJ2_getChar_3b067 : MKS MJ2_getChar_3b067 2 := ⟨tb3 33 rfl rfl, tb1 15 rfl rfl, tb3 34 rfl rfl, by decide +kernel⟩
theorem mkJ2_length_9d52b : MKS MJ2_length_9d52b 1 := ⟨tb3 19 rfl rfl, tb1 15 rfl rfl, tb3 20 rfl rfl, by decide +kernel⟩
theorem mkJ2_indexOf_4cfef : MKS MJ2_indexOf_4cfef 4 := ⟨tb3 7 rfl rfl, tb1 15 rfl rfl, tb3 8 rfl rfl, by decide +kernel⟩
theorem mkJ2_indexOfChar_4cfef : MKS MJ2_indexOfChar_4cfef 4 := ⟨tb3 13 rfl rfl, tb1 15 rfl rfl, tb3 14 rfl rfl, by decide +kernel⟩
theorem mkJ2_indexOfCharUnsafe_4cfef : MKS MJ2_indexOfCharUnsafe_4cfef 4 := ⟨tb3 30 rfl rfl, tb1 15 rfl rfl, tb3 31 rfl rfl, by decide +kernel⟩
theorem mkJ2_indexOfSupplementary_4cfef : MKS MJ2_indexOfSupplementary_4cfef 4 := ⟨tb3 42 rfl rfl, tb1 15 rfl rfl, tb3 43 rfl rfl, by decide +kernel⟩
theorem mkJ2_charAt_3b067 : MKS MJ2_charAt_3b067 2 := ⟨tb4 12 rfl rfl, tb1 15 rfl rfl, tb4 13 rfl rfl, by decide +kernel⟩
theorem mkJ2_checkIndex_2214a : MKS MJ2_checkIndex_2214a 2 := ⟨tb4 15 rfl rfl, tb1 15 rfl rfl, tb4 16 rfl rfl, by decide +kernel⟩
theorem mkJ2_checkBoundsBeginEnd_d044e : MKS MJ2_checkBoundsBeginEnd_d044e 3 := ⟨tb3 16 rfl rfl, tb1 15 rfl rfl, tb3 17 rfl rfl, by decide +kernel⟩
theorem mkJ7_fill_53178 : MKS MJ7_fill_53178 2 := ⟨tb4 78 rfl rfl, tb1 26 rfl rfl, tb4 79 rfl rfl, by decide +kernel⟩
theorem mkJ3_checkIndex_8e157 : MKS MJ3_checkIndex_8e157 3 := ⟨tb4 9 rfl rfl, tb1 16 rfl rfl, tb4 10 rfl rfl, by decide +kernel⟩
theorem mkJ3_checkFromToIndex_8c36e : MKS MJ3_checkFromToIndex_8c36e 4 := ⟨tb3 27 rfl rfl, tb1 16 rfl rfl, tb3 28 rfl rfl, by decide +kernel⟩
-- no call rows: X0_init X1_init X2_init X3_init X4_init X5_init X6_init X7_init X8_init X9_init X10_init
theorem lkL_94 : Cond.methodLink RL 94 yX9_init ∈ TBL := tb1 30 rfl rfl
theorem lkX9_11 : Cond.methodLink RX9 11 yX2_init ∈ TBL := tb1 38 rfl rfl
theorem lkX9_18 : Cond.methodLink RX9 18 yX3_init ∈ TBL := tb1 71 rfl rfl
theorem lkX9_25 : Cond.methodLink RX9 25 yX6_init ∈ TBL := tb1 86 rfl rfl
theorem lkX9_35 : Cond.methodLink RX9 35 yX1_init ∈ TBL := tb1 179 rfl rfl
theorem lkX9_42 : Cond.methodLink RX9 42 yX4_init ∈ TBL := tb1 198 rfl rfl
theorem lkX9_49 : Cond.methodLink RX9 49 yX8_init ∈ TBL := tb2 4 rfl rfl
theorem lkX9_56 : Cond.methodLink RX9 56 yX7_init ∈ TBL := tb2 33 rfl rfl
theorem lkX9_63 : Cond.methodLink RX9 63 yX0_init ∈ TBL := tb2 66 rfl rfl
theorem lkX9_70 : Cond.methodLink RX9 70 yX5_init ∈ TBL := tb2 105 rfl rfl
theorem lkL_98 : Cond.methodLink RL 98 yX9_append ∈ TBL := tb2 161 rfl rfl
theorem lkX9_82 : Cond.methodLink RX9 82 yX2_put ∈ TBL := tb2 165 rfl rfl
theorem lkL_103 : Cond.methodLink RL 103 yX9_truncate ∈ TBL := tb2 169 rfl rfl
theorem lkL_107 : Cond.methodLink RL 107 yX9_bufferLength ∈ TBL := tb2 173 rfl rfl
theorem lkL_111 : Cond.methodLink RL 111 yX9_load ∈ TBL := tb2 177 rfl rfl
theorem lkX9_86 : Cond.methodLink RX9 86 yX2_read ∈ TBL := tb2 181 rfl rfl
theorem lkX2_53 : Cond.methodLink RX2 53 yX2_advance ∈ TBL := tb2 185 rfl rfl
theorem lkX2_38 : Cond.methodLink RX2 38 yX2_isLetter ∈ TBL := tb2 189 rfl rfl
theorem lkX2_146 : Cond.methodLink RX2 146 yX2_takeWord ∈ TBL := tb2 192 rfl rfl
theorem lkX2_42 : Cond.methodLink RX2 42 yX2_isDigit ∈ TBL := tb2 196 rfl rfl
theorem lkX2_149 : Cond.methodLink RX2 149 yX2_takeNumber ∈ TBL := tb2 204 rfl rfl
theorem lkX2_121 : Cond.methodLink RX2 121 yJ0_indexOf_0f7a4 ∈ TBL := tb2 209 rfl rfl
theorem lkJ0_633 : Cond.methodLink RJ0 633 yJ0_indexOf_7cf53 ∈ TBL := tb2 213 rfl rfl
theorem lkJ0_492 : Cond.methodLink RJ0 492 yJ0_isLatin1_aae02 ∈ TBL := tb2 217 rfl rfl
theorem lkJ0_505 : Cond.methodLink RJ0 505 yJ0_length_8abf5 ∈ TBL := tb2 223 rfl rfl
theorem lkJ0_335 : Cond.methodLink RJ0 335 yJ0_coder_7d493 ∈ TBL := tb2 227 rfl rfl
theorem lkJ0_637 : Cond.methodLink RJ0 637 yJ1_indexOf_4cfef ∈ TBL := tb2 231 rfl rfl
theorem lkJ1_88 : Cond.methodLink RJ1 88 yJ1_canEncode_9a6ad ∈ TBL := tb2 234 rfl rfl
theorem lkJ1_92 : Cond.methodLink RJ1 92 yJ9_max_7cf53 ∈ TBL := tb2 237 rfl rfl
theorem lkJ1_38 : Cond.methodLink RJ1 38 yJ9_min_7cf53 ∈ TBL := tb3 0 rfl rfl
theorem lkJ1_95 : Cond.methodLink RJ1 95 yJ1_indexOfChar_4cfef ∈ TBL := tb3 3 rfl rfl
theorem lkJ0_640 : Cond.methodLink RJ0 640 yJ2_indexOf_4cfef ∈ TBL := tb3 6 rfl rfl
theorem lkJ2_224 : Cond.methodLink RJ2 224 yJ9_max_7cf53 ∈ TBL := tb3 9 rfl rfl
theorem lkJ2_183 : Cond.methodLink RJ2 183 yJ9_min_7cf53 ∈ TBL := tb3 10 rfl rfl
theorem lkJ2_228 : Cond.methodLink RJ2 228 yJ2_indexOfChar_4cfef ∈ TBL := tb3 12 rfl rfl
theorem lkJ2_96 : Cond.methodLink RJ2 96 yJ2_checkBoundsBeginEnd_d044e ∈ TBL := tb3 15 rfl rfl
theorem lkJ2_48 : Cond.methodLink RJ2 48 yJ2_length_9d52b ∈ TBL := tb3 18 rfl rfl
theorem lkJ2_241 : Cond.methodLink RJ2 241 yJ0_checkBoundsBeginEnd_23922 ∈ TBL := tb3 21 rfl rfl
theorem lkJ0_1062 : Cond.methodLink RJ0 1062 yJ3_checkFromToIndex_8c36e ∈ TBL := tb3 26 rfl rfl
theorem lkJ2_244 : Cond.methodLink RJ2 244 yJ2_indexOfCharUnsafe_4cfef ∈ TBL := tb3 29 rfl rfl
theorem lkJ2_71 : Cond.methodLink RJ2 71 yJ2_getChar_3b067 ∈ TBL := tb3 32 rfl rfl
theorem lkJ2_232 : Cond.methodLink RJ2 232 yJ2_indexOfSupplementary_4cfef ∈ TBL := tb3 41 rfl rfl
theorem lkJ2_164 : Cond.methodLink RJ2 164 yJ11_isValidCodePoint_9a6ad ∈ TBL := tb3 44 rfl rfl
theorem lkJ2_157 : Cond.methodLink RJ2 157 yJ11_highSurrogate_5068e ∈ TBL := tb3 47 rfl rfl
theorem lkJ2_161 : Cond.methodLink RJ2 161 yJ11_lowSurrogate_5068e ∈ TBL := tb3 51 rfl rfl
theorem lkX2_56 : Cond.methodLink RX2 56 yX2_readOperation ∈ TBL := tb3 55 rfl rfl
theorem lkX2_63 : Cond.methodLink RX2 63 yX2_fail ∈ TBL := tb3 59 rfl rfl
theorem lkX2_66 : Cond.methodLink RX2 66 yX2_isNewName ∈ TBL := tb3 63 rfl rfl
theorem lkX2_85 : Cond.methodLink RX2 85 yX6_operationNamed ∈ TBL := tb3 67 rfl rfl
theorem lkX6_54 : Cond.methodLink RX6 54 yX6_indexOf ∈ TBL := tb3 71 rfl rfl
theorem lkX2_89 : Cond.methodLink RX2 89 yX6_instructionNamed ∈ TBL := tb3 74 rfl rfl
theorem lkX2_73 : Cond.methodLink RX2 73 yX2_take ∈ TBL := tb3 78 rfl rfl
theorem lkX2_76 : Cond.methodLink RX2 76 yX2_readUnit ∈ TBL := tb3 82 rfl rfl
theorem lkX2_79 : Cond.methodLink RX2 79 yX2_readTarget ∈ TBL := tb3 86 rfl rfl
theorem lkX2_82 : Cond.methodLink RX2 82 yX2_readValue ∈ TBL := tb3 90 rfl rfl
theorem lkX2_99 : Cond.methodLink RX2 99 yX2_isOperand ∈ TBL := tb3 94 rfl rfl
theorem lkX2_106 : Cond.methodLink RX2 106 yX2_operand ∈ TBL := tb3 98 rfl rfl
theorem lkX2_113 : Cond.methodLink RX2 113 yX2_operandReads ∈ TBL := tb3 102 rfl rfl
theorem lkX2_60 : Cond.methodLink RX2 60 yX2_readInstruction ∈ TBL := tb3 107 rfl rfl
theorem lkX2_133 : Cond.methodLink RX2 133 yX2_readSequence ∈ TBL := tb3 111 rfl rfl
theorem lkX9_90 : Cond.methodLink RX9 90 yX1_forget ∈ TBL := tb3 115 rfl rfl
theorem lkX9_93 : Cond.methodLink RX9 93 yX9_packAll ∈ TBL := tb3 119 rfl rfl
theorem lkX9_214 : Cond.methodLink RX9 214 yX8_pack ∈ TBL := tb3 123 rfl rfl
theorem lkX8_33 : Cond.methodLink RX8 33 yX6_segmentEnd ∈ TBL := tb3 127 rfl rfl
theorem lkX8_37 : Cond.methodLink RX8 37 yX4_pack ∈ TBL := tb3 131 rfl rfl
theorem lkX4_49 : Cond.methodLink RX4 49 yX4_prepareUnits ∈ TBL := tb3 135 rfl rfl
theorem lkX4_53 : Cond.methodLink RX4 53 yX4_prepareTies ∈ TBL := tb3 139 rfl rfl
theorem lkX4_76 : Cond.methodLink RX4 76 yX6_tie ∈ TBL := tb3 143 rfl rfl
theorem lkX4_56 : Cond.methodLink RX4 56 yX4_prepareHeights ∈ TBL := tb3 147 rfl rfl
theorem lkX4_80 : Cond.methodLink RX4 80 yJ9_max_7cf53 ∈ TBL := tb3 151 rfl rfl
theorem lkX4_59 : Cond.methodLink RX4 59 yX4_packOneByOne ∈ TBL := tb3 152 rfl rfl
theorem lkX4_62 : Cond.methodLink RX4 62 yX4_packByList ∈ TBL := tb3 156 rfl rfl
theorem lkX4_85 : Cond.methodLink RX4 85 yX4_mayEnter ∈ TBL := tb3 160 rfl rfl
theorem lkX4_65 : Cond.methodLink RX4 65 yX4_packFewest ∈ TBL := tb3 164 rfl rfl
theorem lkX4_89 : Cond.methodLink RX4 89 yX4_fits ∈ TBL := tb3 168 rfl rfl
theorem lkX4_93 : Cond.methodLink RX4 93 yX4_wordsNeeded ∈ TBL := tb3 172 rfl rfl
theorem lkX4_104 : Cond.methodLink RX4 104 yJ6_bitCount_0f7a4 ∈ TBL := tb3 176 rfl rfl
theorem lkX4_97 : Cond.methodLink RX4 97 yX4_urgent ∈ TBL := tb3 182 rfl rfl
theorem lkX4_100 : Cond.methodLink RX4 100 yX4_extend ∈ TBL := tb3 186 rfl rfl
theorem lkX8_43 : Cond.methodLink RX8 43 yX8_addSegment ∈ TBL := tb3 190 rfl rfl
theorem lkX8_54 : Cond.methodLink RX8 54 yX8_operationsOf ∈ TBL := tb3 194 rfl rfl
theorem lkX8_61 : Cond.methodLink RX8 61 yJ9_max_7cf53 ∈ TBL := tb3 197 rfl rfl
theorem lkX9_218 : Cond.methodLink RX9 218 yX9_fillStore ∈ TBL := tb3 198 rfl rfl
theorem lkX9_221 : Cond.methodLink RX9 221 yX7_place ∈ TBL := tb3 202 rfl rfl
theorem lkX7_36 : Cond.methodLink RX7 36 yX7_equalBefore ∈ TBL := tb3 206 rfl rfl
theorem lkL_115 : Cond.methodLink RL 115 yX9_find ∈ TBL := tb3 210 rfl rfl
theorem lkX9_99 : Cond.methodLink RX9 99 yX2_wholeName ∈ TBL := tb3 214 rfl rfl
theorem lkX9_103 : Cond.methodLink RX9 103 yX6_operationNamed ∈ TBL := tb3 218 rfl rfl
theorem lkX9_107 : Cond.methodLink RX9 107 yX6_instructionNamed ∈ TBL := tb3 219 rfl rfl
theorem lkL_119 : Cond.methodLink RL 119 yX9_write ∈ TBL := tb3 220 rfl rfl
theorem lkX9_110 : Cond.methodLink RX9 110 yX3_putSource ∈ TBL := tb3 224 rfl rfl
theorem lkX3_24 : Cond.methodLink RX3 24 yX3_putOperation ∈ TBL := tb3 228 rfl rfl
theorem lkX3_36 : Cond.methodLink RX3 36 yX3_putText ∈ TBL := tb3 233 rfl rfl
theorem lkX3_99 : Cond.methodLink RX3 99 yJ0_length_8abf5 ∈ TBL := tb3 237 rfl rfl
theorem lkX3_75 : Cond.methodLink RX3 75 yJ0_charAt_5068e ∈ TBL := tb3 238 rfl rfl
theorem lkJ0_495 : Cond.methodLink RJ0 495 yJ1_charAt_3b067 ∈ TBL := tb4 2 rfl rfl
theorem lkJ1_9 : Cond.methodLink RJ1 9 yJ0_checkIndex_df160 ∈ TBL := tb4 5 rfl rfl
theorem lkJ0_1059 : Cond.methodLink RJ0 1059 yJ3_checkIndex_8e157 ∈ TBL := tb4 8 rfl rfl
theorem lkJ0_498 : Cond.methodLink RJ0 498 yJ2_charAt_3b067 ∈ TBL := tb4 11 rfl rfl
theorem lkJ2_67 : Cond.methodLink RJ2 67 yJ2_checkIndex_2214a ∈ TBL := tb4 14 rfl rfl
theorem lkJ2_414 : Cond.methodLink RJ2 414 yJ0_checkIndex_df160 ∈ TBL := tb4 17 rfl rfl
theorem lkX3_58 : Cond.methodLink RX3 58 yX3_put ∈ TBL := tb4 18 rfl rfl
theorem lkX3_44 : Cond.methodLink RX3 44 yX3_putName ∈ TBL := tb4 22 rfl rfl
theorem lkX3_54 : Cond.methodLink RX3 54 yX3_putNumber ∈ TBL := tb4 27 rfl rfl
theorem lkX3_64 : Cond.methodLink RX3 64 yX3_putOperand ∈ TBL := tb4 31 rfl rfl
theorem lkX3_31 : Cond.methodLink RX3 31 yX3_putInstruction ∈ TBL := tb4 36 rfl rfl
theorem lkL_132 : Cond.methodLink RL 132 yX9_operationCount ∈ TBL := tb4 41 rfl rfl
theorem lkL_136 : Cond.methodLink RL 136 yX9_instructionCount ∈ TBL := tb4 45 rfl rfl
theorem lkL_160 : Cond.methodLink RL 160 yX9_mode ∈ TBL := tb4 49 rfl rfl
theorem lkL_168 : Cond.methodLink RL 168 yX9_undo ∈ TBL := tb4 53 rfl rfl
theorem lkX9_203 : Cond.methodLink RX9 203 yX9_changeMark ∈ TBL := tb4 57 rfl rfl
theorem lkL_184 : Cond.methodLink RL 184 yX9_storeSize ∈ TBL := tb4 61 rfl rfl
theorem lkL_194 : Cond.methodLink RL 194 yX9_fieldCount ∈ TBL := tb4 65 rfl rfl
theorem lkX9_266 : Cond.methodLink RX9 266 yX0_know ∈ TBL := tb4 69 rfl rfl
theorem lkX0_41 : Cond.methodLink RX0 41 yX0_collect ∈ TBL := tb4 73 rfl rfl
theorem lkX0_52 : Cond.methodLink RX0 52 yJ7_fill_53178 ∈ TBL := tb4 77 rfl rfl
theorem lkX0_45 : Cond.methodLink RX0 45 yX0_search ∈ TBL := tb4 80 rfl rfl
theorem lkX0_72 : Cond.methodLink RX0 72 yX0_costAtLeast ∈ TBL := tb4 84 rfl rfl
theorem lkX0_81 : Cond.methodLink RX0 81 yX0_isField ∈ TBL := tb4 88 rfl rfl
theorem lkX0_94 : Cond.methodLink RX0 94 yX0_costOf ∈ TBL := tb4 92 rfl rfl
theorem lkX0_85 : Cond.methodLink RX0 85 yJ6_bitCount_0f7a4 ∈ TBL := tb4 97 rfl rfl
theorem lkX0_76 : Cond.methodLink RX0 76 yX0_costWithin ∈ TBL := tb4 100 rfl rfl
theorem lkX0_90 : Cond.methodLink RX0 90 yX0_growField ∈ TBL := tb4 105 rfl rfl
theorem lkX0_97 : Cond.methodLink RX0 97 yJ9_min_7cf53 ∈ TBL := tb4 109 rfl rfl
theorem lkX0_49 : Cond.methodLink RX0 49 yX0_divide ∈ TBL := tb4 110 rfl rfl
theorem lkX0_66 : Cond.methodLink RX0 66 yX0_addField ∈ TBL := tb4 114 rfl rfl
theorem lkL_198 : Cond.methodLink RL 198 yX9_fieldBits ∈ TBL := tb4 118 rfl rfl
theorem lkL_227 : Cond.methodLink RL 227 yX9_address ∈ TBL := tb4 122 rfl rfl
theorem lkL_7 : Cond.methodLink RL 7 yX9_outputByte ∈ TBL := tb4 130 rfl rfl
theorem lkL_15 : Cond.methodLink RL 15 yX9_operation ∈ TBL := tb4 207 rfl rfl
theorem lkX9_129 : Cond.methodLink RX9 129 yX9_checkOperation ∈ TBL := tb4 211 rfl rfl
theorem lkX9_145 : Cond.methodLink RX9 145 yX6_occurrences ∈ TBL := tb4 231 rfl rfl
theorem lkL_23 : Cond.methodLink RL 23 yX9_length ∈ TBL := tb5 14 rfl rfl
theorem lkX9_154 : Cond.methodLink RX9 154 yX9_checkInstruction ∈ TBL := tb5 18 rfl rfl
theorem lkL_26 : Cond.methodLink RL 26 yX9_operationAt ∈ TBL := tb5 26 rfl rfl
theorem lkX9_160 : Cond.methodLink RX9 160 yX9_checkPosition ∈ TBL := tb5 30 rfl rfl
theorem lkL_29 : Cond.methodLink RL 29 yX9_hasMark ∈ TBL := tb5 38 rfl rfl
theorem lkL_33 : Cond.methodLink RL 33 yX9_dependence ∈ TBL := tb5 45 rfl rfl
theorem lkX9_171 : Cond.methodLink RX9 171 yX6_segmentEnd ∈ TBL := tb5 49 rfl rfl
theorem lkX9_175 : Cond.methodLink RX9 175 yX6_tie ∈ TBL := tb5 50 rfl rfl
theorem lkL_37 : Cond.methodLink RL 37 yX9_setMode ∈ TBL := tb5 54 rfl rfl
theorem lkX9_189 : Cond.methodLink RX9 189 yX1_remember ∈ TBL := tb5 59 rfl rfl
theorem lkL_40 : Cond.methodLink RL 40 yX9_setMark ∈ TBL := tb5 67 rfl rfl
theorem lkX9_195 : Cond.methodLink RX9 195 yX6_joinedLength ∈ TBL := tb5 72 rfl rfl
theorem lkX6_58 : Cond.methodLink RX6 58 yX6_segmentEnd ∈ TBL := tb5 76 rfl rfl
theorem lkL_46 : Cond.methodLink RL 46 yX9_wordCount ∈ TBL := tb5 96 rfl rfl
theorem lkL_49 : Cond.methodLink RL 49 yX9_word ∈ TBL := tb5 103 rfl rfl
theorem lkL_52 : Cond.methodLink RL 52 yX9_chain ∈ TBL := tb5 111 rfl rfl
theorem lkL_55 : Cond.methodLink RL 55 yX9_latency ∈ TBL := tb5 118 rfl rfl
theorem lkL_58 : Cond.methodLink RL 58 yX9_entry ∈ TBL := tb5 125 rfl rfl
theorem lkL_61 : Cond.methodLink RL 61 yX9_store ∈ TBL := tb5 132 rfl rfl
theorem lkX9_249 : Cond.methodLink RX9 249 yX9_checkAddress ∈ TBL := tb5 136 rfl rfl
theorem lkX9_259 : Cond.methodLink RX9 259 yX7_users ∈ TBL := tb5 141 rfl rfl
theorem lkL_64 : Cond.methodLink RL 64 yX9_fieldOf ∈ TBL := tb5 149 rfl rfl
theorem lkL_67 : Cond.methodLink RL 67 yX9_codeOf ∈ TBL := tb5 156 rfl rfl
theorem lkL_70 : Cond.methodLink RL 70 yX9_control ∈ TBL := tb5 163 rfl rfl
theorem lkX9_282 : Cond.methodLink RX9 282 yX0_encode ∈ TBL := tb5 167 rfl rfl
theorem lkL_74 : Cond.methodLink RL 74 yX9_setRegister ∈ TBL := tb5 174 rfl rfl
theorem lkX9_286 : Cond.methodLink RX9 286 yX9_checkRegister ∈ TBL := tb5 178 rfl rfl
theorem lkL_77 : Cond.methodLink RL 77 yX9_register ∈ TBL := tb5 186 rfl rfl
theorem lkL_80 : Cond.methodLink RL 80 yX9_runSource ∈ TBL := tb5 193 rfl rfl
theorem lkX9_294 : Cond.methodLink RX9 294 yX9_checkIdle ∈ TBL := tb5 197 rfl rfl
theorem lkX9_297 : Cond.methodLink RX9 297 yX5_runSequence ∈ TBL := tb5 202 rfl rfl
theorem lkX5_39 : Cond.methodLink RX5 39 yX5_valueOf ∈ TBL := tb5 206 rfl rfl
theorem lkX5_74 : Cond.methodLink RX5 74 yX5_operandValue ∈ TBL := tb5 209 rfl rfl
theorem lkL_83 : Cond.methodLink RL 83 yX9_start ∈ TBL := tb5 215 rfl rfl
theorem lkX9_303 : Cond.methodLink RX9 303 yX5_runWords ∈ TBL := tb5 220 rfl rfl
theorem lkX5_48 : Cond.methodLink RX5 48 yX5_execute ∈ TBL := tb5 224 rfl rfl
theorem lkL_86 : Cond.methodLink RL 86 yX9_resume ∈ TBL := tb5 231 rfl rfl
theorem lkL_90 : Cond.methodLink RL 90 yX9_agrees ∈ TBL := tb5 239 rfl rfl
theorem lkX9_311 : Cond.methodLink RX9 311 yX5_agreesOn ∈ TBL := tb6 3 rfl rfl
theorem lkX5_65 : Cond.methodLink RX5 65 yX5_runSequence ∈ TBL := tb6 10 rfl rfl
theorem lkL_97 : Cond.methodLink RL 97 yX10_init ∈ TBL := tb6 13 rfl rfl
theorem lkL_129 : Cond.methodLink RL 129 yX10_thrown ∈ TBL := tb6 183 rfl rfl
theorem lkL_135 : Cond.methodLink RL 135 yX10_operationCount ∈ TBL := tb6 187 rfl rfl
theorem lkL_139 : Cond.methodLink RL 139 yX10_instructionCount ∈ TBL := tb6 191 rfl rfl
theorem lkL_143 : Cond.methodLink RL 143 yX10_operation ∈ TBL := tb6 195 rfl rfl
theorem lkX10_124 : Cond.methodLink RX10 124 yX10_isIn ∈ TBL := tb6 199 rfl rfl
theorem lkX10_147 : Cond.methodLink RX10 147 yX10_throwsAs ∈ TBL := tb6 202 rfl rfl
theorem lkX10_132 : Cond.methodLink RX10 132 yX10_of ∈ TBL := tb6 206 rfl rfl
theorem lkX10_136 : Cond.methodLink RX10 136 yX10_reads ∈ TBL := tb6 210 rfl rfl
theorem lkX10_150 : Cond.methodLink RX10 150 yX10_at ∈ TBL := tb6 214 rfl rfl
theorem lkL_146 : Cond.methodLink RL 146 yX10_length ∈ TBL := tb6 218 rfl rfl
theorem lkX10_128 : Cond.methodLink RX10 128 yX10_isInstruction ∈ TBL := tb6 222 rfl rfl
theorem lkL_149 : Cond.methodLink RL 149 yX10_operationAt ∈ TBL := tb6 226 rfl rfl
theorem lkX10_153 : Cond.methodLink RX10 153 yX10_isAt ∈ TBL := tb6 230 rfl rfl
theorem lkL_152 : Cond.methodLink RL 152 yX10_hasMark ∈ TBL := tb6 234 rfl rfl
theorem lkX10_156 : Cond.methodLink RX10 156 yX10_isMarked ∈ TBL := tb6 238 rfl rfl
theorem lkL_156 : Cond.methodLink RL 156 yX10_dependence ∈ TBL := tb7 2 rfl rfl
theorem lkX10_140 : Cond.methodLink RX10 140 yX10_isStrict ∈ TBL := tb7 6 rfl rfl
theorem lkX10_159 : Cond.methodLink RX10 159 yX10_isWeak ∈ TBL := tb7 10 rfl rfl
theorem lkL_159 : Cond.methodLink RL 159 yX10_setMode ∈ TBL := tb7 14 rfl rfl
theorem lkX10_251 : Cond.methodLink RX10 251 yX10_keeps ∈ TBL := tb7 18 rfl rfl
theorem lkX10_254 : Cond.methodLink RX10 254 yX10_laysAll ∈ TBL := tb7 22 rfl rfl
theorem lkX10_239 : Cond.methodLink RX10 239 yX10_packs ∈ TBL := tb7 26 rfl rfl
theorem lkX10_192 : Cond.methodLink RX10 192 yX10_laysSegment ∈ TBL := tb7 30 rfl rfl
theorem lkX10_168 : Cond.methodLink RX10 168 yX10_behind ∈ TBL := tb7 34 rfl rfl
theorem lkX10_196 : Cond.methodLink RX10 196 yX10_packsByList ∈ TBL := tb7 38 rfl rfl
theorem lkX10_177 : Cond.methodLink RX10 177 yX10_laysWord ∈ TBL := tb7 42 rfl rfl
theorem lkX10_199 : Cond.methodLink RX10 199 yX10_packsBest ∈ TBL := tb7 46 rfl rfl
theorem lkX10_184 : Cond.methodLink RX10 184 yX10_bestWord ∈ TBL := tb7 50 rfl rfl
theorem lkX10_181 : Cond.methodLink RX10 181 yX10_mayBe ∈ TBL := tb7 54 rfl rfl
theorem lkX10_187 : Cond.methodLink RX10 187 yJ9_max_7cf53 ∈ TBL := tb7 58 rfl rfl
theorem lkX10_202 : Cond.methodLink RX10 202 yX10_chainOf ∈ TBL := tb7 59 rfl rfl
theorem lkX10_242 : Cond.methodLink RX10 242 yX10_stores ∈ TBL := tb7 63 rfl rfl
theorem lkX10_212 : Cond.methodLink RX10 212 yX10_wordsOf ∈ TBL := tb7 67 rfl rfl
theorem lkX10_215 : Cond.methodLink RX10 215 yX10_addressOfEnd ∈ TBL := tb7 71 rfl rfl
theorem lkX10_209 : Cond.methodLink RX10 209 yX10_isEnd ∈ TBL := tb7 75 rfl rfl
theorem lkX10_245 : Cond.methodLink RX10 245 yX10_laysFields ∈ TBL := tb7 79 rfl rfl
theorem lkX10_224 : Cond.methodLink RX10 224 yX10_laysTogether ∈ TBL := tb7 83 rfl rfl
theorem lkX10_218 : Cond.methodLink RX10 218 yX10_ones ∈ TBL := tb7 87 rfl rfl
theorem lkX10_227 : Cond.methodLink RX10 227 yX10_laysCost ∈ TBL := tb7 90 rfl rfl
theorem lkX10_236 : Cond.methodLink RX10 236 yX10_bestField ∈ TBL := tb7 94 rfl rfl
theorem lkX10_221 : Cond.methodLink RX10 221 yX10_bitsFor ∈ TBL := tb7 98 rfl rfl
theorem lkL_163 : Cond.methodLink RL 163 yX10_mode ∈ TBL := tb7 101 rfl rfl
theorem lkL_167 : Cond.methodLink RL 167 yX10_setMark ∈ TBL := tb7 105 rfl rfl
theorem lkX10_257 : Cond.methodLink RX10 257 yX10_longestSegment ∈ TBL := tb7 109 rfl rfl
theorem lkL_171 : Cond.methodLink RL 171 yX10_undo ∈ TBL := tb7 113 rfl rfl
theorem lkL_174 : Cond.methodLink RL 174 yX10_wordCount ∈ TBL := tb7 117 rfl rfl
theorem lkL_177 : Cond.methodLink RL 177 yX10_word ∈ TBL := tb7 121 rfl rfl
theorem lkL_180 : Cond.methodLink RL 180 yX10_chain ∈ TBL := tb7 125 rfl rfl
theorem lkL_183 : Cond.methodLink RL 183 yX10_latency ∈ TBL := tb7 129 rfl rfl
theorem lkL_187 : Cond.methodLink RL 187 yX10_storeSize ∈ TBL := tb7 133 rfl rfl
theorem lkL_190 : Cond.methodLink RL 190 yX10_entry ∈ TBL := tb7 137 rfl rfl
theorem lkL_193 : Cond.methodLink RL 193 yX10_store ∈ TBL := tb7 141 rfl rfl
theorem lkX10_260 : Cond.methodLink RX10 260 yX10_isAddress ∈ TBL := tb7 145 rfl rfl
theorem lkX10_263 : Cond.methodLink RX10 263 yX10_usersOf ∈ TBL := tb7 149 rfl rfl
theorem lkL_197 : Cond.methodLink RL 197 yX10_fieldCount ∈ TBL := tb7 153 rfl rfl
theorem lkL_201 : Cond.methodLink RL 201 yX10_fieldBits ∈ TBL := tb7 157 rfl rfl
theorem lkL_204 : Cond.methodLink RL 204 yX10_fieldOf ∈ TBL := tb7 161 rfl rfl
theorem lkX10_266 : Cond.methodLink RX10 266 yX10_fieldWith ∈ TBL := tb7 165 rfl rfl
theorem lkL_207 : Cond.methodLink RL 207 yX10_codeOf ∈ TBL := tb7 169 rfl rfl
theorem lkX10_269 : Cond.methodLink RX10 269 yX10_code ∈ TBL := tb7 173 rfl rfl
theorem lkL_210 : Cond.methodLink RL 210 yX10_control ∈ TBL := tb7 177 rfl rfl
theorem lkL_213 : Cond.methodLink RL 213 yX10_setRegister ∈ TBL := tb7 181 rfl rfl
theorem lkL_216 : Cond.methodLink RL 216 yX10_register ∈ TBL := tb7 185 rfl rfl
theorem lkL_219 : Cond.methodLink RL 219 yX10_runSource ∈ TBL := tb7 189 rfl rfl
theorem lkX10_285 : Cond.methodLink RX10 285 yX10_doesSource ∈ TBL := tb7 193 rfl rfl
theorem lkX10_282 : Cond.methodLink RX10 282 yX10_does ∈ TBL := tb7 197 rfl rfl
theorem lkX10_275 : Cond.methodLink RX10 275 yX10_copies ∈ TBL := tb7 201 rfl rfl
theorem lkX10_279 : Cond.methodLink RX10 279 yX10_valueOf ∈ TBL := tb7 204 rfl rfl
theorem lkX10_272 : Cond.methodLink RX10 272 yX10_operand ∈ TBL := tb7 208 rfl rfl
theorem lkL_222 : Cond.methodLink RL 222 yX10_start ∈ TBL := tb7 212 rfl rfl
theorem lkX10_288 : Cond.methodLink RX10 288 yX10_goesOn ∈ TBL := tb7 216 rfl rfl
theorem lkL_226 : Cond.methodLink RL 226 yX10_resume ∈ TBL := tb7 220 rfl rfl
theorem lkL_230 : Cond.methodLink RL 230 yX10_address ∈ TBL := tb7 225 rfl rfl
theorem lkL_233 : Cond.methodLink RL 233 yX10_agrees ∈ TBL := tb7 229 rfl rfl
theorem lkL_102 : Cond.methodLink RL 102 yX10_append ∈ TBL := tb7 233 rfl rfl
theorem lkX10_297 : Cond.methodLink RX10 297 yX10_puts ∈ TBL := tb7 237 rfl rfl
theorem lkL_106 : Cond.methodLink RL 106 yX10_truncate ∈ TBL := tb8 1 rfl rfl
theorem lkL_110 : Cond.methodLink RL 110 yX10_bufferLength ∈ TBL := tb8 5 rfl rfl
theorem lkL_114 : Cond.methodLink RL 114 yX10_load ∈ TBL := tb8 9 rfl rfl
theorem lkX10_387 : Cond.methodLink RX10 387 yX10_moves ∈ TBL := tb8 13 rfl rfl
theorem lkX10_391 : Cond.methodLink RX10 391 yX10_takesAll ∈ TBL := tb8 16 rfl rfl
theorem lkX10_339 : Cond.methodLink RX10 339 yX10_step ∈ TBL := tb8 20 rfl rfl
theorem lkX10_306 : Cond.methodLink RX10 306 yX10_byteAt ∈ TBL := tb8 24 rfl rfl
theorem lkX10_315 : Cond.methodLink RX10 315 yX10_isLetter ∈ TBL := tb8 28 rfl rfl
theorem lkX10_318 : Cond.methodLink RX10 318 yX10_isDigit ∈ TBL := tb8 31 rfl rfl
theorem lkX10_324 : Cond.methodLink RX10 324 yX10_signOf ∈ TBL := tb8 34 rfl rfl
theorem lkX10_355 : Cond.methodLink RX10 355 yX10_isWord ∈ TBL := tb8 38 rfl rfl
theorem lkX10_342 : Cond.methodLink RX10 342 yJ0_length_8abf5 ∈ TBL := tb8 42 rfl rfl
theorem lkX10_346 : Cond.methodLink RX10 346 yJ0_charAt_5068e ∈ TBL := tb8 43 rfl rfl
theorem lkX10_381 : Cond.methodLink RX10 381 yX10_takesOperation ∈ TBL := tb8 44 rfl rfl
theorem lkX10_336 : Cond.methodLink RX10 336 yX10_bad ∈ TBL := tb8 48 rfl rfl
theorem lkX10_372 : Cond.methodLink RX10 372 yX10_takesNewName ∈ TBL := tb8 52 rfl rfl
theorem lkX10_365 : Cond.methodLink RX10 365 yX10_isName ∈ TBL := tb8 56 rfl rfl
theorem lkX10_350 : Cond.methodLink RX10 350 yX10_registerHere ∈ TBL := tb8 60 rfl rfl
theorem lkX10_369 : Cond.methodLink RX10 369 yX10_named ∈ TBL := tb8 66 rfl rfl
theorem lkX10_362 : Cond.methodLink RX10 362 yX10_letterHere ∈ TBL := tb8 70 rfl rfl
theorem lkX10_375 : Cond.methodLink RX10 375 yX10_takesSign ∈ TBL := tb8 74 rfl rfl
theorem lkX10_333 : Cond.methodLink RX10 333 yX10_isSign ∈ TBL := tb8 78 rfl rfl
theorem lkX10_378 : Cond.methodLink RX10 378 yX10_takesOperand ∈ TBL := tb8 82 rfl rfl
theorem lkX10_384 : Cond.methodLink RX10 384 yX10_takesInstruction ∈ TBL := tb8 86 rfl rfl
theorem lkL_118 : Cond.methodLink RL 118 yX10_find ∈ TBL := tb8 90 rfl rfl
theorem lkL_122 : Cond.methodLink RL 122 yX10_write ∈ TBL := tb8 94 rfl rfl
theorem lkX10_405 : Cond.methodLink RX10 405 yX10_saysWord ∈ TBL := tb8 99 rfl rfl
theorem lkX10_397 : Cond.methodLink RX10 397 yX10_says ∈ TBL := tb8 103 rfl rfl
theorem lkX10_409 : Cond.methodLink RX10 409 yX10_saysName ∈ TBL := tb8 107 rfl rfl
theorem lkX10_400 : Cond.methodLink RX10 400 yX10_saysNumber ∈ TBL := tb8 112 rfl rfl
theorem lkX10_414 : Cond.methodLink RX10 414 yX10_saysOperand ∈ TBL := tb8 116 rfl rfl
theorem lkL_128 : Cond.methodLink RL 128 yX10_outputByte ∈ TBL := tb8 122 rfl rfl
theorem flX2_9 : FL RX2 9 2 0 .int false := ⟨_, _, _, _, kc2, by decide, tb1 42 rfl rfl, rfl, rfl⟩
theorem flX9_79 : FL RX9 79 2 0 .int false := ⟨_, _, _, _, kc2, by decide, tb1 43 rfl rfl, rfl, rfl⟩
theorem flX2_15 : FL RX2 15 2 1 (.array .byte) true := ⟨_, _, _, _, kc2, by decide, tb1 44 rfl rfl, rfl, rfl⟩
theorem flX2_19 : FL RX2 19 2 2 .int false := ⟨_, _, _, _, kc2, by decide, tb1 45 rfl rfl, rfl, rfl⟩
theorem flX2_22 : FL RX2 22 2 3 .int false := ⟨_, _, _, _, kc2, by decide, tb1 46 rfl rfl, rfl, rfl⟩
theorem flX2_25 : FL RX2 25 2 4 .int false := ⟨_, _, _, _, kc2, by decide, tb1 47 rfl rfl, rfl, rfl⟩
theorem flX2_28 : FL RX2 28 2 5 .long false := ⟨_, _, _, _, kc2, by decide, tb1 48 rfl rfl, rfl, rfl⟩
theorem flX2_32 : FL RX2 32 2 6 .int false := ⟨_, _, _, _, kc2, by decide, tb1 49 rfl rfl, rfl, rfl⟩
theorem flX2_35 : FL RX2 35 2 7 .int false := ⟨_, _, _, _, kc2, by decide, tb1 50 rfl rfl, rfl, rfl⟩
theorem flX3_11 : FL RX3 11 3 0 (.array .byte) true := ⟨_, _, _, _, kc3, by decide, tb1 75 rfl rfl, rfl, rfl⟩
theorem flX9_122 : FL RX9 122 3 0 (.array .byte) true := ⟨_, _, _, _, kc3, by decide, tb1 76 rfl rfl, rfl, rfl⟩
theorem flX3_15 : FL RX3 15 3 1 .int false := ⟨_, _, _, _, kc3, by decide, tb1 77 rfl rfl, rfl, rfl⟩
theorem flX9_114 : FL RX9 114 3 1 .int false := ⟨_, _, _, _, kc3, by decide, tb1 78 rfl rfl, rfl, rfl⟩
theorem flX6_9 : FL RX6 9 6 0 .int false := ⟨_, _, _, _, kc6, by decide, tb1 90 rfl rfl, rfl, rfl⟩
theorem flX3_19 : FL RX3 19 6 0 .int false := ⟨_, _, _, _, kc6, by decide, tb1 91 rfl rfl, rfl, rfl⟩
theorem flX2_45 : FL RX2 45 6 0 .int false := ⟨_, _, _, _, kc6, by decide, tb1 92 rfl rfl, rfl, rfl⟩
theorem flX9_126 : FL RX9 126 6 0 .int false := ⟨_, _, _, _, kc6, by decide, tb1 93 rfl rfl, rfl, rfl⟩
theorem flX6_15 : FL RX6 15 6 1 (.array .long) true := ⟨_, _, _, _, kc6, by decide, tb1 94 rfl rfl, rfl, rfl⟩
theorem flX3_40 : FL RX3 40 6 1 (.array .long) true := ⟨_, _, _, _, kc6, by decide, tb1 95 rfl rfl, rfl, rfl⟩
theorem flX2_69 : FL RX2 69 6 1 (.array .long) true := ⟨_, _, _, _, kc6, by decide, tb1 96 rfl rfl, rfl, rfl⟩
theorem flX6_19 : FL RX6 19 6 2 (.array .int) true := ⟨_, _, _, _, kc6, by decide, tb1 97 rfl rfl, rfl, rfl⟩
theorem flX3_50 : FL RX3 50 6 2 (.array .int) true := ⟨_, _, _, _, kc6, by decide, tb1 98 rfl rfl, rfl, rfl⟩
theorem flX4_68 : FL RX4 68 6 2 (.array .int) true := ⟨_, _, _, _, kc6, by decide, tb1 99 rfl rfl, rfl, rfl⟩
theorem flX2_92 : FL RX2 92 6 2 (.array .int) true := ⟨_, _, _, _, kc6, by decide, tb1 100 rfl rfl, rfl, rfl⟩
theorem flX9_132 : FL RX9 132 6 2 (.array .int) true := ⟨_, _, _, _, kc6, by decide, tb1 101 rfl rfl, rfl, rfl⟩
theorem flX6_23 : FL RX6 23 6 3 (.array .int) true := ⟨_, _, _, _, kc6, by decide, tb1 102 rfl rfl, rfl, rfl⟩
theorem flX5_36 : FL RX5 36 6 3 (.array .int) true := ⟨_, _, _, _, kc6, by decide, tb1 103 rfl rfl, rfl, rfl⟩
theorem flX3_61 : FL RX3 61 6 3 (.array .int) true := ⟨_, _, _, _, kc6, by decide, tb1 104 rfl rfl, rfl, rfl⟩
theorem flX2_96 : FL RX2 96 6 3 (.array .int) true := ⟨_, _, _, _, kc6, by decide, tb1 105 rfl rfl, rfl, rfl⟩
theorem flX9_136 : FL RX9 136 6 3 (.array .int) true := ⟨_, _, _, _, kc6, by decide, tb1 106 rfl rfl, rfl, rfl⟩
theorem flX6_26 : FL RX6 26 6 4 (.array .int) true := ⟨_, _, _, _, kc6, by decide, tb1 107 rfl rfl, rfl, rfl⟩
theorem flX3_70 : FL RX3 70 6 4 (.array .int) true := ⟨_, _, _, _, kc6, by decide, tb1 108 rfl rfl, rfl, rfl⟩
theorem flX5_81 : FL RX5 81 6 4 (.array .int) true := ⟨_, _, _, _, kc6, by decide, tb1 109 rfl rfl, rfl, rfl⟩
theorem flX9_139 : FL RX9 139 6 4 (.array .int) true := ⟨_, _, _, _, kc6, by decide, tb1 110 rfl rfl, rfl, rfl⟩
theorem flX2_127 : FL RX2 127 6 4 (.array .int) true := ⟨_, _, _, _, kc6, by decide, tb1 111 rfl rfl, rfl, rfl⟩
theorem flX6_29 : FL RX6 29 6 5 (.array .int) true := ⟨_, _, _, _, kc6, by decide, tb1 112 rfl rfl, rfl, rfl⟩
theorem flX3_67 : FL RX3 67 6 5 (.array .int) true := ⟨_, _, _, _, kc6, by decide, tb1 113 rfl rfl, rfl, rfl⟩
theorem flX5_71 : FL RX5 71 6 5 (.array .int) true := ⟨_, _, _, _, kc6, by decide, tb1 114 rfl rfl, rfl, rfl⟩
theorem flX2_103 : FL RX2 103 6 5 (.array .int) true := ⟨_, _, _, _, kc6, by decide, tb1 115 rfl rfl, rfl, rfl⟩
theorem flX6_32 : FL RX6 32 6 6 (.array .int) true := ⟨_, _, _, _, kc6, by decide, tb1 116 rfl rfl, rfl, rfl⟩
theorem flX3_81 : FL RX3 81 6 6 (.array .int) true := ⟨_, _, _, _, kc6, by decide, tb1 117 rfl rfl, rfl, rfl⟩
theorem flX5_78 : FL RX5 78 6 6 (.array .int) true := ⟨_, _, _, _, kc6, by decide, tb1 118 rfl rfl, rfl, rfl⟩
theorem flX2_116 : FL RX2 116 6 6 (.array .int) true := ⟨_, _, _, _, kc6, by decide, tb1 119 rfl rfl, rfl, rfl⟩
theorem flX6_35 : FL RX6 35 6 7 (.array .int) true := ⟨_, _, _, _, kc6, by decide, tb1 120 rfl rfl, rfl, rfl⟩
theorem flX2_110 : FL RX2 110 6 7 (.array .int) true := ⟨_, _, _, _, kc6, by decide, tb1 121 rfl rfl, rfl, rfl⟩
theorem flX9_142 : FL RX9 142 6 7 (.array .int) true := ⟨_, _, _, _, kc6, by decide, tb1 122 rfl rfl, rfl, rfl⟩
theorem flX6_38 : FL RX6 38 6 8 .int false := ⟨_, _, _, _, kc6, by decide, tb1 123 rfl rfl, rfl, rfl⟩
theorem flX3_28 : FL RX3 28 6 8 .int false := ⟨_, _, _, _, kc6, by decide, tb1 124 rfl rfl, rfl, rfl⟩
theorem flX9_96 : FL RX9 96 6 8 .int false := ⟨_, _, _, _, kc6, by decide, tb1 125 rfl rfl, rfl, rfl⟩
theorem flX2_50 : FL RX2 50 6 8 .int false := ⟨_, _, _, _, kc6, by decide, tb1 126 rfl rfl, rfl, rfl⟩
theorem flX6_41 : FL RX6 41 6 9 (.array .long) true := ⟨_, _, _, _, kc6, by decide, tb1 127 rfl rfl, rfl, rfl⟩
theorem flX3_86 : FL RX3 86 6 9 (.array .long) true := ⟨_, _, _, _, kc6, by decide, tb1 128 rfl rfl, rfl, rfl⟩
theorem flX2_130 : FL RX2 130 6 9 (.array .long) true := ⟨_, _, _, _, kc6, by decide, tb1 129 rfl rfl, rfl, rfl⟩
theorem flX6_44 : FL RX6 44 6 10 (.array .int) true := ⟨_, _, _, _, kc6, by decide, tb1 130 rfl rfl, rfl, rfl⟩
theorem flX5_28 : FL RX5 28 6 10 (.array .int) true := ⟨_, _, _, _, kc6, by decide, tb1 131 rfl rfl, rfl, rfl⟩
theorem flX8_28 : FL RX8 28 6 10 (.array .int) true := ⟨_, _, _, _, kc6, by decide, tb1 132 rfl rfl, rfl, rfl⟩
theorem flX3_89 : FL RX3 89 6 10 (.array .int) true := ⟨_, _, _, _, kc6, by decide, tb1 133 rfl rfl, rfl, rfl⟩
theorem flX9_157 : FL RX9 157 6 10 (.array .int) true := ⟨_, _, _, _, kc6, by decide, tb1 134 rfl rfl, rfl, rfl⟩
theorem flX2_143 : FL RX2 143 6 10 (.array .int) true := ⟨_, _, _, _, kc6, by decide, tb1 135 rfl rfl, rfl, rfl⟩
theorem flX6_47 : FL RX6 47 6 11 (.array .int) true := ⟨_, _, _, _, kc6, by decide, tb1 136 rfl rfl, rfl, rfl⟩
theorem flX5_33 : FL RX5 33 6 11 (.array .int) true := ⟨_, _, _, _, kc6, by decide, tb1 137 rfl rfl, rfl, rfl⟩
theorem flX4_73 : FL RX4 73 6 11 (.array .int) true := ⟨_, _, _, _, kc6, by decide, tb1 138 rfl rfl, rfl, rfl⟩
theorem flX8_66 : FL RX8 66 6 11 (.array .int) true := ⟨_, _, _, _, kc6, by decide, tb1 139 rfl rfl, rfl, rfl⟩
theorem flX3_96 : FL RX3 96 6 11 (.array .int) true := ⟨_, _, _, _, kc6, by decide, tb1 140 rfl rfl, rfl, rfl⟩
theorem flX9_164 : FL RX9 164 6 11 (.array .int) true := ⟨_, _, _, _, kc6, by decide, tb1 141 rfl rfl, rfl, rfl⟩
theorem flX2_136 : FL RX2 136 6 11 (.array .int) true := ⟨_, _, _, _, kc6, by decide, tb1 142 rfl rfl, rfl, rfl⟩
theorem flX6_50 : FL RX6 50 6 12 (.array .boolean) true := ⟨_, _, _, _, kc6, by decide, tb1 143 rfl rfl, rfl, rfl⟩
theorem flX3_92 : FL RX3 92 6 12 (.array .boolean) true := ⟨_, _, _, _, kc6, by decide, tb1 144 rfl rfl, rfl, rfl⟩
theorem flX9_167 : FL RX9 167 6 12 (.array .boolean) true := ⟨_, _, _, _, kc6, by decide, tb1 145 rfl rfl, rfl, rfl⟩
theorem flX2_139 : FL RX2 139 6 12 (.array .boolean) true := ⟨_, _, _, _, kc6, by decide, tb1 146 rfl rfl, rfl, rfl⟩
theorem flX1_9 : FL RX1 9 1 0 (.array .int) true := ⟨_, _, _, _, kc1, by decide, tb1 183 rfl rfl, rfl, rfl⟩
theorem flX9_208 : FL RX9 208 1 0 (.array .int) true := ⟨_, _, _, _, kc1, by decide, tb1 184 rfl rfl, rfl, rfl⟩
theorem flX1_15 : FL RX1 15 1 1 (.array .int) true := ⟨_, _, _, _, kc1, by decide, tb1 185 rfl rfl, rfl, rfl⟩
theorem flX9_211 : FL RX9 211 1 1 (.array .int) true := ⟨_, _, _, _, kc1, by decide, tb1 186 rfl rfl, rfl, rfl⟩
theorem flX1_18 : FL RX1 18 1 2 .int false := ⟨_, _, _, _, kc1, by decide, tb1 187 rfl rfl, rfl, rfl⟩
theorem flX9_207 : FL RX9 207 1 2 .int false := ⟨_, _, _, _, kc1, by decide, tb1 188 rfl rfl, rfl, rfl⟩
theorem flX4_9 : FL RX4 9 4 0 (.array .int) true := ⟨_, _, _, _, kc4, by decide, tb1 202 rfl rfl, rfl, rfl⟩
theorem flX8_51 : FL RX8 51 4 0 (.array .int) true := ⟨_, _, _, _, kc4, by decide, tb1 203 rfl rfl, rfl, rfl⟩
theorem flX4_15 : FL RX4 15 4 1 .int false := ⟨_, _, _, _, kc4, by decide, tb1 204 rfl rfl, rfl, rfl⟩
theorem flX8_47 : FL RX8 47 4 1 .int false := ⟨_, _, _, _, kc4, by decide, tb1 205 rfl rfl, rfl, rfl⟩
theorem flX4_19 : FL RX4 19 4 2 .int false := ⟨_, _, _, _, kc4, by decide, tb1 206 rfl rfl, rfl, rfl⟩
theorem flX8_58 : FL RX8 58 4 2 .int false := ⟨_, _, _, _, kc4, by decide, tb1 207 rfl rfl, rfl, rfl⟩
theorem flX4_22 : FL RX4 22 4 3 .int false := ⟨_, _, _, _, kc4, by decide, tb1 208 rfl rfl, rfl, rfl⟩
theorem flX4_25 : FL RX4 25 4 4 (.array .int) true := ⟨_, _, _, _, kc4, by decide, tb1 209 rfl rfl, rfl, rfl⟩
theorem flX4_28 : FL RX4 28 4 5 (.array .int) true := ⟨_, _, _, _, kc4, by decide, tb1 210 rfl rfl, rfl, rfl⟩
theorem flX4_31 : FL RX4 31 4 6 (.array .int) true := ⟨_, _, _, _, kc4, by decide, tb1 211 rfl rfl, rfl, rfl⟩
theorem flX4_34 : FL RX4 34 4 7 (.array .int) true := ⟨_, _, _, _, kc4, by decide, tb1 212 rfl rfl, rfl, rfl⟩
theorem flX4_37 : FL RX4 37 4 8 (.array .int) true := ⟨_, _, _, _, kc4, by decide, tb1 213 rfl rfl, rfl, rfl⟩
theorem flX4_40 : FL RX4 40 4 9 (.array .int) true := ⟨_, _, _, _, kc4, by decide, tb1 214 rfl rfl, rfl, rfl⟩
theorem flX4_43 : FL RX4 43 4 10 .int false := ⟨_, _, _, _, kc4, by decide, tb1 215 rfl rfl, rfl, rfl⟩
theorem flX4_46 : FL RX4 46 4 11 .int false := ⟨_, _, _, _, kc4, by decide, tb1 216 rfl rfl, rfl, rfl⟩
theorem flX8_9 : FL RX8 9 8 0 (.array .int) true := ⟨_, _, _, _, kc8, by decide, tb2 8 rfl rfl, rfl, rfl⟩
theorem flX7_29 : FL RX7 29 8 0 (.array .int) true := ⟨_, _, _, _, kc8, by decide, tb2 9 rfl rfl, rfl, rfl⟩
theorem flX9_232 : FL RX9 232 8 0 (.array .int) true := ⟨_, _, _, _, kc8, by decide, tb2 10 rfl rfl, rfl, rfl⟩
theorem flX8_15 : FL RX8 15 8 1 (.array .int) true := ⟨_, _, _, _, kc8, by decide, tb2 11 rfl rfl, rfl, rfl⟩
theorem flX9_240 : FL RX9 240 8 1 (.array .int) true := ⟨_, _, _, _, kc8, by decide, tb2 12 rfl rfl, rfl, rfl⟩
theorem flX8_18 : FL RX8 18 8 2 (.array .int) true := ⟨_, _, _, _, kc8, by decide, tb2 13 rfl rfl, rfl, rfl⟩
theorem flX9_243 : FL RX9 243 8 2 (.array .int) true := ⟨_, _, _, _, kc8, by decide, tb2 14 rfl rfl, rfl, rfl⟩
theorem flX8_21 : FL RX8 21 8 3 (.array .int) true := ⟨_, _, _, _, kc8, by decide, tb2 15 rfl rfl, rfl, rfl⟩
theorem flX7_34 : FL RX7 34 8 3 (.array .int) true := ⟨_, _, _, _, kc8, by decide, tb2 16 rfl rfl, rfl, rfl⟩
theorem flX9_237 : FL RX9 237 8 3 (.array .int) true := ⟨_, _, _, _, kc8, by decide, tb2 17 rfl rfl, rfl, rfl⟩
theorem flX8_24 : FL RX8 24 8 4 (.array .boolean) true := ⟨_, _, _, _, kc8, by decide, tb2 18 rfl rfl, rfl, rfl⟩
theorem flX7_35 : FL RX7 35 8 4 (.array .boolean) true := ⟨_, _, _, _, kc8, by decide, tb2 19 rfl rfl, rfl, rfl⟩
theorem flX7_9 : FL RX7 9 7 0 (.array .int) true := ⟨_, _, _, _, kc7, by decide, tb2 37 rfl rfl, rfl, rfl⟩
theorem flX0_63 : FL RX0 63 7 0 (.array .int) true := ⟨_, _, _, _, kc7, by decide, tb2 38 rfl rfl, rfl, rfl⟩
theorem flX5_43 : FL RX5 43 7 0 (.array .int) true := ⟨_, _, _, _, kc7, by decide, tb2 39 rfl rfl, rfl, rfl⟩
theorem flX9_252 : FL RX9 252 7 0 (.array .int) true := ⟨_, _, _, _, kc7, by decide, tb2 40 rfl rfl, rfl, rfl⟩
theorem flX7_15 : FL RX7 15 7 1 (.array .boolean) true := ⟨_, _, _, _, kc7, by decide, tb2 41 rfl rfl, rfl, rfl⟩
theorem flX5_55 : FL RX5 55 7 1 (.array .boolean) true := ⟨_, _, _, _, kc7, by decide, tb2 42 rfl rfl, rfl, rfl⟩
theorem flX9_253 : FL RX9 253 7 1 (.array .boolean) true := ⟨_, _, _, _, kc7, by decide, tb2 43 rfl rfl, rfl, rfl⟩
theorem flX7_19 : FL RX7 19 7 2 (.array .int) true := ⟨_, _, _, _, kc7, by decide, tb2 44 rfl rfl, rfl, rfl⟩
theorem flX5_52 : FL RX5 52 7 2 (.array .int) true := ⟨_, _, _, _, kc7, by decide, tb2 45 rfl rfl, rfl, rfl⟩
theorem flX9_256 : FL RX9 256 7 2 (.array .int) true := ⟨_, _, _, _, kc7, by decide, tb2 46 rfl rfl, rfl, rfl⟩
theorem flX7_22 : FL RX7 22 7 3 (.array .int) true := ⟨_, _, _, _, kc7, by decide, tb2 47 rfl rfl, rfl, rfl⟩
theorem flX5_68 : FL RX5 68 7 3 (.array .int) true := ⟨_, _, _, _, kc7, by decide, tb2 48 rfl rfl, rfl, rfl⟩
theorem flX9_246 : FL RX9 246 7 3 (.array .int) true := ⟨_, _, _, _, kc7, by decide, tb2 49 rfl rfl, rfl, rfl⟩
theorem flX7_25 : FL RX7 25 7 4 .int false := ⟨_, _, _, _, kc7, by decide, tb2 50 rfl rfl, rfl, rfl⟩
theorem flX0_58 : FL RX0 58 7 4 .int false := ⟨_, _, _, _, kc7, by decide, tb2 51 rfl rfl, rfl, rfl⟩
theorem flX9_192 : FL RX9 192 7 4 .int false := ⟨_, _, _, _, kc7, by decide, tb2 52 rfl rfl, rfl, rfl⟩
theorem flX0_9 : FL RX0 9 0 0 .boolean false := ⟨_, _, _, _, kc0, by decide, tb2 70 rfl rfl, rfl, rfl⟩
theorem flX9_225 : FL RX9 225 0 0 .boolean false := ⟨_, _, _, _, kc0, by decide, tb2 71 rfl rfl, rfl, rfl⟩
theorem flX0_15 : FL RX0 15 0 1 .int false := ⟨_, _, _, _, kc0, by decide, tb2 72 rfl rfl, rfl, rfl⟩
theorem flX9_270 : FL RX9 270 0 1 .int false := ⟨_, _, _, _, kc0, by decide, tb2 73 rfl rfl, rfl, rfl⟩
theorem flX0_19 : FL RX0 19 0 2 .int false := ⟨_, _, _, _, kc0, by decide, tb2 74 rfl rfl, rfl, rfl⟩
theorem flX9_273 : FL RX9 273 0 2 .int false := ⟨_, _, _, _, kc0, by decide, tb2 75 rfl rfl, rfl, rfl⟩
theorem flX0_22 : FL RX0 22 0 3 (.array .int) true := ⟨_, _, _, _, kc0, by decide, tb2 76 rfl rfl, rfl, rfl⟩
theorem flX9_276 : FL RX9 276 0 3 (.array .int) true := ⟨_, _, _, _, kc0, by decide, tb2 77 rfl rfl, rfl, rfl⟩
theorem flX0_26 : FL RX0 26 0 4 (.array .int) true := ⟨_, _, _, _, kc0, by decide, tb2 78 rfl rfl, rfl, rfl⟩
theorem flX9_279 : FL RX9 279 0 4 (.array .int) true := ⟨_, _, _, _, kc0, by decide, tb2 79 rfl rfl, rfl, rfl⟩
theorem flX0_29 : FL RX0 29 0 5 (.array .int) true := ⟨_, _, _, _, kc0, by decide, tb2 80 rfl rfl, rfl, rfl⟩
theorem flX0_32 : FL RX0 32 0 6 (.array .int) true := ⟨_, _, _, _, kc0, by decide, tb2 81 rfl rfl, rfl, rfl⟩
theorem flX0_35 : FL RX0 35 0 7 (.array .int) true := ⟨_, _, _, _, kc0, by decide, tb2 82 rfl rfl, rfl, rfl⟩
theorem flX0_38 : FL RX0 38 0 8 (.array .int) true := ⟨_, _, _, _, kc0, by decide, tb2 83 rfl rfl, rfl, rfl⟩
theorem flX5_9 : FL RX5 9 5 0 (.array .int) true := ⟨_, _, _, _, kc5, by decide, tb2 109 rfl rfl, rfl, rfl⟩
theorem flX9_289 : FL RX9 289 5 0 (.array .int) true := ⟨_, _, _, _, kc5, by decide, tb2 110 rfl rfl, rfl, rfl⟩
theorem flX5_15 : FL RX5 15 5 1 .int false := ⟨_, _, _, _, kc5, by decide, tb2 111 rfl rfl, rfl, rfl⟩
theorem flX9_229 : FL RX9 229 5 1 .int false := ⟨_, _, _, _, kc5, by decide, tb2 112 rfl rfl, rfl, rfl⟩
theorem flX5_19 : FL RX5 19 5 2 (.array .int) true := ⟨_, _, _, _, kc5, by decide, tb2 113 rfl rfl, rfl, rfl⟩
theorem flX5_22 : FL RX5 22 5 3 (.array .int) true := ⟨_, _, _, _, kc5, by decide, tb2 114 rfl rfl, rfl, rfl⟩
theorem flX5_25 : FL RX5 25 5 4 (.array .int) true := ⟨_, _, _, _, kc5, by decide, tb2 115 rfl rfl, rfl, rfl⟩
theorem flX9_12 : FL RX9 12 9 0 (.object "MicrocodeOptimizer$Input") true := ⟨_, _, _, _, kc9, by decide, tb2 127 rfl rfl, rfl, rfl⟩
theorem flX9_19 : FL RX9 19 9 1 (.object "MicrocodeOptimizer$Output") true := ⟨_, _, _, _, kc9, by decide, tb2 128 rfl rfl, rfl, rfl⟩
theorem flX9_26 : FL RX9 26 9 2 (.object "MicrocodeOptimizer$Source") false := ⟨_, _, _, _, kc9, by decide, tb2 129 rfl rfl, rfl, rfl⟩
theorem flX9_30 : FL RX9 30 9 3 (.object "MicrocodeOptimizer$Source") false := ⟨_, _, _, _, kc9, by decide, tb2 130 rfl rfl, rfl, rfl⟩
theorem flX9_36 : FL RX9 36 9 4 (.object "MicrocodeOptimizer$History") true := ⟨_, _, _, _, kc9, by decide, tb2 131 rfl rfl, rfl, rfl⟩
theorem flX9_43 : FL RX9 43 9 5 (.object "MicrocodeOptimizer$Packer") true := ⟨_, _, _, _, kc9, by decide, tb2 132 rfl rfl, rfl, rfl⟩
theorem flX9_50 : FL RX9 50 9 6 (.object "MicrocodeOptimizer$Words") true := ⟨_, _, _, _, kc9, by decide, tb2 133 rfl rfl, rfl, rfl⟩
theorem flX9_57 : FL RX9 57 9 7 (.object "MicrocodeOptimizer$Store") true := ⟨_, _, _, _, kc9, by decide, tb2 134 rfl rfl, rfl, rfl⟩
theorem flX9_64 : FL RX9 64 9 8 (.object "MicrocodeOptimizer$Fields") true := ⟨_, _, _, _, kc9, by decide, tb2 135 rfl rfl, rfl, rfl⟩
theorem flX9_71 : FL RX9 71 9 9 (.object "MicrocodeOptimizer$Processor") true := ⟨_, _, _, _, kc9, by decide, tb2 136 rfl rfl, rfl, rfl⟩
theorem flX9_75 : FL RX9 75 9 10 .int false := ⟨_, _, _, _, kc9, by decide, tb2 137 rfl rfl, rfl, rfl⟩
theorem flX10_118 : FL RX10 118 10 0 .int false := ⟨_, _, _, _, kc10, by decide, tb6 17 rfl rfl, rfl, rfl⟩
theorem flX10_144 : FL RX10 144 10 1 .int false := ⟨_, _, _, _, kc10, by decide, tb6 18 rfl rfl, rfl, rfl⟩
theorem flX10_121 : FL RX10 121 10 2 .int false := ⟨_, _, _, _, kc10, by decide, tb6 19 rfl rfl, rfl, rfl⟩
theorem flX10_7 : FL RX10 7 10 3 (.array .int) true := ⟨_, _, _, _, kc10, by decide, tb6 20 rfl rfl, rfl, rfl⟩
theorem flX10_13 : FL RX10 13 10 4 (.array .int) true := ⟨_, _, _, _, kc10, by decide, tb6 21 rfl rfl, rfl, rfl⟩
theorem flX10_16 : FL RX10 16 10 5 (.array .int) true := ⟨_, _, _, _, kc10, by decide, tb6 22 rfl rfl, rfl, rfl⟩
theorem flX10_19 : FL RX10 19 10 6 (.array .int) true := ⟨_, _, _, _, kc10, by decide, tb6 23 rfl rfl, rfl, rfl⟩
theorem flX10_22 : FL RX10 22 10 7 (.array .int) true := ⟨_, _, _, _, kc10, by decide, tb6 24 rfl rfl, rfl, rfl⟩
theorem flX10_162 : FL RX10 162 10 8 .int false := ⟨_, _, _, _, kc10, by decide, tb6 25 rfl rfl, rfl, rfl⟩
theorem flX10_165 : FL RX10 165 10 9 .int false := ⟨_, _, _, _, kc10, by decide, tb6 26 rfl rfl, rfl, rfl⟩
theorem flX10_171 : FL RX10 171 10 10 .int false := ⟨_, _, _, _, kc10, by decide, tb6 27 rfl rfl, rfl, rfl⟩
theorem flX10_25 : FL RX10 25 10 11 (.array .int) true := ⟨_, _, _, _, kc10, by decide, tb6 28 rfl rfl, rfl, rfl⟩
theorem flX10_28 : FL RX10 28 10 12 (.array .int) true := ⟨_, _, _, _, kc10, by decide, tb6 29 rfl rfl, rfl, rfl⟩
theorem flX10_31 : FL RX10 31 10 13 (.array .int) true := ⟨_, _, _, _, kc10, by decide, tb6 30 rfl rfl, rfl, rfl⟩
theorem flX10_34 : FL RX10 34 10 14 (.array .int) true := ⟨_, _, _, _, kc10, by decide, tb6 31 rfl rfl, rfl, rfl⟩
theorem flX10_37 : FL RX10 37 10 15 (.array .int) true := ⟨_, _, _, _, kc10, by decide, tb6 32 rfl rfl, rfl, rfl⟩
theorem flX10_40 : FL RX10 40 10 16 (.array .int) true := ⟨_, _, _, _, kc10, by decide, tb6 33 rfl rfl, rfl, rfl⟩
theorem flX10_43 : FL RX10 43 10 17 (.array .int) true := ⟨_, _, _, _, kc10, by decide, tb6 34 rfl rfl, rfl, rfl⟩
theorem flX10_46 : FL RX10 46 10 18 (.array .int) true := ⟨_, _, _, _, kc10, by decide, tb6 35 rfl rfl, rfl, rfl⟩
theorem flX10_49 : FL RX10 49 10 19 (.array .int) true := ⟨_, _, _, _, kc10, by decide, tb6 36 rfl rfl, rfl, rfl⟩
theorem flX10_52 : FL RX10 52 10 20 (.array .int) true := ⟨_, _, _, _, kc10, by decide, tb6 37 rfl rfl, rfl, rfl⟩
theorem flX10_174 : FL RX10 174 10 21 .int false := ⟨_, _, _, _, kc10, by decide, tb6 38 rfl rfl, rfl, rfl⟩
theorem flX10_55 : FL RX10 55 10 22 (.array .int) true := ⟨_, _, _, _, kc10, by decide, tb6 39 rfl rfl, rfl, rfl⟩
theorem flX10_58 : FL RX10 58 10 23 (.array .int) true := ⟨_, _, _, _, kc10, by decide, tb6 40 rfl rfl, rfl, rfl⟩
theorem flX10_61 : FL RX10 61 10 24 (.array .int) true := ⟨_, _, _, _, kc10, by decide, tb6 41 rfl rfl, rfl, rfl⟩
theorem flX10_64 : FL RX10 64 10 25 (.array .int) true := ⟨_, _, _, _, kc10, by decide, tb6 42 rfl rfl, rfl, rfl⟩
theorem flX10_206 : FL RX10 206 10 26 .int false := ⟨_, _, _, _, kc10, by decide, tb6 43 rfl rfl, rfl, rfl⟩
theorem flX10_67 : FL RX10 67 10 27 (.array .boolean) true := ⟨_, _, _, _, kc10, by decide, tb6 44 rfl rfl, rfl, rfl⟩
theorem flX10_71 : FL RX10 71 10 28 (.array .int) true := ⟨_, _, _, _, kc10, by decide, tb6 45 rfl rfl, rfl, rfl⟩
theorem flX10_74 : FL RX10 74 10 29 (.array .int) true := ⟨_, _, _, _, kc10, by decide, tb6 46 rfl rfl, rfl, rfl⟩
theorem flX10_230 : FL RX10 230 10 30 .int false := ⟨_, _, _, _, kc10, by decide, tb6 47 rfl rfl, rfl, rfl⟩
theorem flX10_233 : FL RX10 233 10 31 .int false := ⟨_, _, _, _, kc10, by decide, tb6 48 rfl rfl, rfl, rfl⟩
theorem flX10_77 : FL RX10 77 10 32 (.array .int) true := ⟨_, _, _, _, kc10, by decide, tb6 49 rfl rfl, rfl, rfl⟩
theorem flX10_248 : FL RX10 248 10 33 .int false := ⟨_, _, _, _, kc10, by decide, tb6 50 rfl rfl, rfl, rfl⟩
theorem flX10_80 : FL RX10 80 10 34 (.array .int) true := ⟨_, _, _, _, kc10, by decide, tb6 51 rfl rfl, rfl, rfl⟩
theorem flX10_83 : FL RX10 83 10 35 (.array .int) true := ⟨_, _, _, _, kc10, by decide, tb6 52 rfl rfl, rfl, rfl⟩
theorem flX10_86 : FL RX10 86 10 36 (.array .int) true := ⟨_, _, _, _, kc10, by decide, tb6 53 rfl rfl, rfl, rfl⟩
theorem flX10_89 : FL RX10 89 10 37 (.array .int) true := ⟨_, _, _, _, kc10, by decide, tb6 54 rfl rfl, rfl, rfl⟩
theorem flX10_92 : FL RX10 92 10 38 .int false := ⟨_, _, _, _, kc10, by decide, tb6 55 rfl rfl, rfl, rfl⟩
theorem flX10_96 : FL RX10 96 10 39 (.array .byte) true := ⟨_, _, _, _, kc10, by decide, tb6 56 rfl rfl, rfl, rfl⟩
theorem flX10_100 : FL RX10 100 10 40 (.array .byte) true := ⟨_, _, _, _, kc10, by decide, tb6 57 rfl rfl, rfl, rfl⟩
theorem flX10_294 : FL RX10 294 10 41 .int false := ⟨_, _, _, _, kc10, by decide, tb6 58 rfl rfl, rfl, rfl⟩
theorem flX10_300 : FL RX10 300 10 42 .int false := ⟨_, _, _, _, kc10, by decide, tb6 59 rfl rfl, rfl, rfl⟩
theorem flX10_394 : FL RX10 394 10 43 .int false := ⟨_, _, _, _, kc10, by decide, tb6 60 rfl rfl, rfl, rfl⟩
theorem flX10_309 : FL RX10 309 10 44 .int false := ⟨_, _, _, _, kc10, by decide, tb6 61 rfl rfl, rfl, rfl⟩
theorem flX10_303 : FL RX10 303 10 45 .int false := ⟨_, _, _, _, kc10, by decide, tb6 62 rfl rfl, rfl, rfl⟩
theorem flX10_312 : FL RX10 312 10 46 .int false := ⟨_, _, _, _, kc10, by decide, tb6 63 rfl rfl, rfl, rfl⟩
theorem flX10_321 : FL RX10 321 10 47 .int false := ⟨_, _, _, _, kc10, by decide, tb6 64 rfl rfl, rfl, rfl⟩
theorem flX10_327 : FL RX10 327 10 48 .int false := ⟨_, _, _, _, kc10, by decide, tb6 65 rfl rfl, rfl, rfl⟩
theorem flX10_330 : FL RX10 330 10 49 .int false := ⟨_, _, _, _, kc10, by decide, tb6 66 rfl rfl, rfl, rfl⟩
theorem flX10_103 : FL RX10 103 10 50 (.array .int) true := ⟨_, _, _, _, kc10, by decide, tb6 67 rfl rfl, rfl, rfl⟩
theorem flX10_106 : FL RX10 106 10 51 (.array .int) true := ⟨_, _, _, _, kc10, by decide, tb6 68 rfl rfl, rfl, rfl⟩
theorem flX10_109 : FL RX10 109 10 52 (.array .int) true := ⟨_, _, _, _, kc10, by decide, tb6 69 rfl rfl, rfl, rfl⟩
theorem flX10_112 : FL RX10 112 10 53 (.array .int) true := ⟨_, _, _, _, kc10, by decide, tb6 70 rfl rfl, rfl, rfl⟩
theorem flX10_115 : FL RX10 115 10 54 (.array .int) true := ⟨_, _, _, _, kc10, by decide, tb6 71 rfl rfl, rfl, rfl⟩
theorem cnJ2_227 : Cond.constant RJ2 227 (65536) ∈ TBL := tb3 11 rfl rfl
theorem cnJ11_110 : Cond.constant RJ11 110 (55232) ∈ TBL := tb3 50 rfl rfl
theorem cnJ11_76 : Cond.constant RJ11 76 (56320) ∈ TBL := tb3 54 rfl rfl
theorem cnJ6_265 : Cond.constant RJ6 265 (1431655765) ∈ TBL := tb3 179 rfl rfl
theorem cnJ6_266 : Cond.constant RJ6 266 (858993459) ∈ TBL := tb3 180 rfl rfl
theorem cnJ6_267 : Cond.constant RJ6 267 (252645135) ∈ TBL := tb3 181 rfl rfl
theorem cnX0_80 : Cond.constant RX0 80 (1048576) ∈ TBL := tb4 104 rfl rfl
theorem cnX10_293 : Cond.constant RX10 293 (2147483647) ∈ TBL := tb7 224 rfl rfl
theorem clX2_154 : Cond.constantLong RX2 154 (29232) ∈ TBL := tb2 199 rfl rfl
theorem clX2_156 : Cond.constantLong RX2 156 (29240) ∈ TBL := tb2 200 rfl rfl
theorem clX2_158 : Cond.constantLong RX2 158 (28528) ∈ TBL := tb2 201 rfl rfl
theorem clX2_160 : Cond.constantLong RX2 160 (1970170228) ∈ TBL := tb2 202 rfl rfl
theorem clX2_162 : Cond.constantLong RX2 162 (452824626290) ∈ TBL := tb2 203 rfl rfl
/-- the layout of the cells: an object (its class's number, its fields: (0, _) an int, (1, _) a long, (2, t) the cell t), or an array (0 int, 1 byte, 2 boolean, 3 long; its length) -/
abbrev Lt : Type := (Nat × List (Nat × Nat)) ⊕ (Nat × Nat)
def lay : List Lt := [
  .inl (9, [(2, 1), (2, 3), (2, 5), (2, 17), (2, 29), (2, 32), (2, 40), (2, 46), (2, 51), (2, 58), (0, 0)]),
  .inl (2, [(0, 0), (2, 2), (0, 0), (0, 0), (0, 0), (1, 0), (0, 0), (0, 0)]),
  .inr (1, 1200),
  .inl (3, [(2, 4), (0, 0)]),
  .inr (1, 2232),
  .inl (6, [(0, 0), (2, 6), (2, 7), (2, 8), (2, 9), (2, 10), (2, 11), (2, 12), (0, 0), (2, 13), (2, 14), (2, 15), (2, 16)]),
  .inr (3, 12),
  .inr (0, 12),
  .inr (0, 12),
  .inr (0, 12),
  .inr (0, 12),
  .inr (0, 12),
  .inr (0, 12),
  .inr (3, 8),
  .inr (0, 8),
  .inr (0, 192),
  .inr (2, 192),
  .inl (6, [(0, 0), (2, 18), (2, 19), (2, 20), (2, 21), (2, 22), (2, 23), (2, 24), (0, 0), (2, 25), (2, 26), (2, 27), (2, 28)]),
  .inr (3, 12),
  .inr (0, 12),
  .inr (0, 12),
  .inr (0, 12),
  .inr (0, 12),
  .inr (0, 12),
  .inr (0, 12),
  .inr (3, 8),
  .inr (0, 8),
  .inr (0, 192),
  .inr (2, 192),
  .inl (1, [(2, 30), (2, 31), (0, 0)]),
  .inr (0, 8),
  .inr (0, 8),
  .inl (4, [(2, 33), (0, 0), (0, 0), (0, 0), (2, 34), (2, 35), (2, 36), (2, 37), (2, 38), (2, 39), (0, 0), (0, 0)]),
  .inr (0, 10),
  .inr (0, 10),
  .inr (0, 10),
  .inr (0, 10),
  .inr (0, 10),
  .inr (0, 6),
  .inr (0, 1024),
  .inl (8, [(2, 41), (2, 42), (2, 43), (2, 44), (2, 45)]),
  .inr (0, 8),
  .inr (0, 8),
  .inr (0, 8),
  .inr (0, 192),
  .inr (2, 192),
  .inl (7, [(2, 47), (2, 48), (2, 49), (2, 50), (0, 0)]),
  .inr (0, 192),
  .inr (2, 192),
  .inr (0, 192),
  .inr (0, 8),
  .inl (0, [(0, 0), (0, 0), (0, 0), (2, 52), (2, 53), (2, 54), (2, 55), (2, 56), (2, 57)]),
  .inr (0, 12),
  .inr (0, 12),
  .inr (0, 12),
  .inr (0, 12),
  .inr (0, 4096),
  .inr (0, 4096),
  .inl (5, [(2, 59), (0, 0), (2, 60), (2, 61), (2, 62)]),
  .inr (0, 8),
  .inr (0, 12),
  .inr (0, 8),
  .inr (0, 8),
  .inl (10, [(0, 0), (0, 0), (0, 0), (2, 64), (2, 65), (2, 66), (2, 67), (2, 68), (0, 0), (0, 0), (0, 0), (2, 69), (2, 70), (2, 71), (2, 72), (2, 73), (2, 74), (2, 75), (2, 76), (2, 77), (2, 78), (0, 0), (2, 79), (2, 80), (2, 81), (2, 82), (0, 0), (2, 83), (2, 84), (2, 85), (0, 0), (0, 0), (2, 86), (0, 0), (2, 87), (2, 88), (2, 89), (2, 90), (0, 0), (2, 91), (2, 92), (0, 0), (0, 0), (0, 0), (0, 0), (0, 0), (0, 0), (0, 0), (0, 0), (0, 0), (2, 93), (2, 94), (2, 95), (2, 96), (2, 97)]),
  .inr (0, 60),
  .inr (0, 160),
  .inr (0, 8),
  .inr (0, 192),
  .inr (0, 9),
  .inr (0, 10),
  .inr (0, 10),
  .inr (0, 10),
  .inr (0, 1024),
  .inr (0, 1024),
  .inr (0, 192),
  .inr (0, 192),
  .inr (0, 9),
  .inr (0, 8),
  .inr (0, 8),
  .inr (0, 192),
  .inr (0, 192),
  .inr (0, 192),
  .inr (0, 8),
  .inr (2, 4096),
  .inr (0, 4096),
  .inr (0, 12),
  .inr (0, 72),
  .inr (0, 8),
  .inr (0, 8),
  .inr (0, 8),
  .inr (0, 8),
  .inr (1, 1200),
  .inr (1, 3000),
  .inr (0, 60),
  .inr (0, 160),
  .inr (0, 8),
  .inr (0, 192),
  .inr (0, 9),
  .inr (3, 1)]
theorem lay_0 : lay[0]? = some (.inl (9, [(2, 1), (2, 3), (2, 5), (2, 17), (2, 29), (2, 32), (2, 40), (2, 46), (2, 51), (2, 58), (0, 0)])) := rfl
theorem lay_1 : lay[1]? = some (.inl (2, [(0, 0), (2, 2), (0, 0), (0, 0), (0, 0), (1, 0), (0, 0), (0, 0)])) := rfl
theorem lay_2 : lay[2]? = some (.inr (1, 1200)) := rfl
theorem lay_3 : lay[3]? = some (.inl (3, [(2, 4), (0, 0)])) := rfl
theorem lay_4 : lay[4]? = some (.inr (1, 2232)) := rfl
theorem lay_5 : lay[5]? = some (.inl (6, [(0, 0), (2, 6), (2, 7), (2, 8), (2, 9), (2, 10), (2, 11), (2, 12), (0, 0), (2, 13), (2, 14), (2, 15), (2, 16)])) := rfl
theorem lay_6 : lay[6]? = some (.inr (3, 12)) := rfl
theorem lay_7 : lay[7]? = some (.inr (0, 12)) := rfl
theorem lay_8 : lay[8]? = some (.inr (0, 12)) := rfl
theorem lay_9 : lay[9]? = some (.inr (0, 12)) := rfl
theorem lay_10 : lay[10]? = some (.inr (0, 12)) := rfl
theorem lay_11 : lay[11]? = some (.inr (0, 12)) := rfl
theorem lay_12 : lay[12]? = some (.inr (0, 12)) := rfl
theorem lay_13 : lay[13]? = some (.inr (3, 8)) := rfl
theorem lay_14 : lay[14]? = some (.inr (0, 8)) := rfl
theorem lay_15 : lay[15]? = some (.inr (0, 192)) := rfl
theorem lay_16 : lay[16]? = some (.inr (2, 192)) := rfl
theorem lay_17 : lay[17]? = some (.inl (6, [(0, 0), (2, 18), (2, 19), (2, 20), (2, 21), (2, 22), (2, 23), (2, 24), (0, 0), (2, 25), (2, 26), (2, 27), (2, 28)])) := rfl
theorem lay_18 : lay[18]? = some (.inr (3, 12)) := rfl
theorem lay_19 : lay[19]? = some (.inr (0, 12)) := rfl
theorem lay_20 : lay[20]? = some (.inr (0, 12)) := rfl
theorem lay_21 : lay[21]? = some (.inr (0, 12)) := rfl
theorem lay_22 : lay[22]? = some (.inr (0, 12)) := rfl
theorem lay_23 : lay[23]? = some (.inr (0, 12)) := rfl
theorem lay_24 : lay[24]? = some (.inr (0, 12)) := rfl
theorem lay_25 : lay[25]? = some (.inr (3, 8)) := rfl
theorem lay_26 : lay[26]? = some (.inr (0, 8)) := rfl
theorem lay_27 : lay[27]? = some (.inr (0, 192)) := rfl
theorem lay_28 : lay[28]? = some (.inr (2, 192)) := rfl
theorem lay_29 : lay[29]? = some (.inl (1, [(2, 30), (2, 31), (0, 0)])) := rfl
theorem lay_30 : lay[30]? = some (.inr (0, 8)) := rfl
theorem lay_31 : lay[31]? = some (.inr (0, 8)) := rfl
theorem lay_32 : lay[32]? = some (.inl (4, [(2, 33), (0, 0), (0, 0), (0, 0), (2, 34), (2, 35), (2, 36), (2, 37), (2, 38), (2, 39), (0, 0), (0, 0)])) := rfl
theorem lay_33 : lay[33]? = some (.inr (0, 10)) := rfl
theorem lay_34 : lay[34]? = some (.inr (0, 10)) := rfl
theorem lay_35 : lay[35]? = some (.inr (0, 10)) := rfl
theorem lay_36 : lay[36]? = some (.inr (0, 10)) := rfl
theorem lay_37 : lay[37]? = some (.inr (0, 10)) := rfl
theorem lay_38 : lay[38]? = some (.inr (0, 6)) := rfl
theorem lay_39 : lay[39]? = some (.inr (0, 1024)) := rfl
theorem lay_40 : lay[40]? = some (.inl (8, [(2, 41), (2, 42), (2, 43), (2, 44), (2, 45)])) := rfl
theorem lay_41 : lay[41]? = some (.inr (0, 8)) := rfl
theorem lay_42 : lay[42]? = some (.inr (0, 8)) := rfl
theorem lay_43 : lay[43]? = some (.inr (0, 8)) := rfl
theorem lay_44 : lay[44]? = some (.inr (0, 192)) := rfl
theorem lay_45 : lay[45]? = some (.inr (2, 192)) := rfl
theorem lay_46 : lay[46]? = some (.inl (7, [(2, 47), (2, 48), (2, 49), (2, 50), (0, 0)])) := rfl
theorem lay_47 : lay[47]? = some (.inr (0, 192)) := rfl
theorem lay_48 : lay[48]? = some (.inr (2, 192)) := rfl
theorem lay_49 : lay[49]? = some (.inr (0, 192)) := rfl
theorem lay_50 : lay[50]? = some (.inr (0, 8)) := rfl
theorem lay_51 : lay[51]? = some (.inl (0, [(0, 0), (0, 0), (0, 0), (2, 52), (2, 53), (2, 54), (2, 55), (2, 56), (2, 57)])) := rfl
theorem lay_52 : lay[52]? = some (.inr (0, 12)) := rfl
theorem lay_53 : lay[53]? = some (.inr (0, 12)) := rfl
theorem lay_54 : lay[54]? = some (.inr (0, 12)) := rfl
theorem lay_55 : lay[55]? = some (.inr (0, 12)) := rfl
theorem lay_56 : lay[56]? = some (.inr (0, 4096)) := rfl
theorem lay_57 : lay[57]? = some (.inr (0, 4096)) := rfl
theorem lay_58 : lay[58]? = some (.inl (5, [(2, 59), (0, 0), (2, 60), (2, 61), (2, 62)])) := rfl
theorem lay_59 : lay[59]? = some (.inr (0, 8)) := rfl
theorem lay_60 : lay[60]? = some (.inr (0, 12)) := rfl
theorem lay_61 : lay[61]? = some (.inr (0, 8)) := rfl
theorem lay_62 : lay[62]? = some (.inr (0, 8)) := rfl
theorem lay_63 : lay[63]? = some (.inl (10, [(0, 0), (0, 0), (0, 0), (2, 64), (2, 65), (2, 66), (2, 67), (2, 68), (0, 0), (0, 0), (0, 0), (2, 69), (2, 70), (2, 71), (2, 72), (2, 73), (2, 74), (2, 75), (2, 76), (2, 77), (2, 78), (0, 0), (2, 79), (2, 80), (2, 81), (2, 82), (0, 0), (2, 83), (2, 84), (2, 85), (0, 0), (0, 0), (2, 86), (0, 0), (2, 87), (2, 88), (2, 89), (2, 90), (0, 0), (2, 91), (2, 92), (0, 0), (0, 0), (0, 0), (0, 0), (0, 0), (0, 0), (0, 0), (0, 0), (0, 0), (2, 93), (2, 94), (2, 95), (2, 96), (2, 97)])) := rfl
theorem lay_64 : lay[64]? = some (.inr (0, 60)) := rfl
theorem lay_65 : lay[65]? = some (.inr (0, 160)) := rfl
theorem lay_66 : lay[66]? = some (.inr (0, 8)) := rfl
theorem lay_67 : lay[67]? = some (.inr (0, 192)) := rfl
theorem lay_68 : lay[68]? = some (.inr (0, 9)) := rfl
theorem lay_69 : lay[69]? = some (.inr (0, 10)) := rfl
theorem lay_70 : lay[70]? = some (.inr (0, 10)) := rfl
theorem lay_71 : lay[71]? = some (.inr (0, 10)) := rfl
theorem lay_72 : lay[72]? = some (.inr (0, 1024)) := rfl
theorem lay_73 : lay[73]? = some (.inr (0, 1024)) := rfl
theorem lay_74 : lay[74]? = some (.inr (0, 192)) := rfl
theorem lay_75 : lay[75]? = some (.inr (0, 192)) := rfl
theorem lay_76 : lay[76]? = some (.inr (0, 9)) := rfl
theorem lay_77 : lay[77]? = some (.inr (0, 8)) := rfl
theorem lay_78 : lay[78]? = some (.inr (0, 8)) := rfl
theorem lay_79 : lay[79]? = some (.inr (0, 192)) := rfl
theorem lay_80 : lay[80]? = some (.inr (0, 192)) := rfl
theorem lay_81 : lay[81]? = some (.inr (0, 192)) := rfl
theorem lay_82 : lay[82]? = some (.inr (0, 8)) := rfl
theorem lay_83 : lay[83]? = some (.inr (2, 4096)) := rfl
theorem lay_84 : lay[84]? = some (.inr (0, 4096)) := rfl
theorem lay_85 : lay[85]? = some (.inr (0, 12)) := rfl
theorem lay_86 : lay[86]? = some (.inr (0, 72)) := rfl
theorem lay_87 : lay[87]? = some (.inr (0, 8)) := rfl
theorem lay_88 : lay[88]? = some (.inr (0, 8)) := rfl
theorem lay_89 : lay[89]? = some (.inr (0, 8)) := rfl
theorem lay_90 : lay[90]? = some (.inr (0, 8)) := rfl
theorem lay_91 : lay[91]? = some (.inr (1, 1200)) := rfl
theorem lay_92 : lay[92]? = some (.inr (1, 3000)) := rfl
theorem lay_93 : lay[93]? = some (.inr (0, 60)) := rfl
theorem lay_94 : lay[94]? = some (.inr (0, 160)) := rfl
theorem lay_95 : lay[95]? = some (.inr (0, 8)) := rfl
theorem lay_96 : lay[96]? = some (.inr (0, 192)) := rfl
theorem lay_97 : lay[97]? = some (.inr (0, 9)) := rfl
theorem lay_98 : lay[98]? = some (.inr (3, 1)) := rfl
theorem lay_len : lay.length = 99 := rfl
