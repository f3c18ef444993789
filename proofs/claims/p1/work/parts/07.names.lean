def kc_House : String := "ModuleHouse"
def kf_House : u_T := fun k => match k with
  | 0 => ("ModuleHouse", "tape", "[B", true)
  | 1 => ("ModuleHouse", "arguments", "[J", true)
  | 2 => ("ModuleHouse", "results", "[J", true)
  | 3 => ("ModuleHouse", "module", "LModuleHouse$ReadModule;", true)
  | 4 => ("ModuleHouse", "reader", "LModuleHouse$Reader;", true)
  | 5 => ("ModuleHouse", "checker", "LModuleHouse$Checker;", true)
  | 6 => ("ModuleHouse", "machine", "LModuleHouse$Machine;", true)
  | 7 => ("ModuleHouse", "tapeLength", "I", false)
  | 8 => ("ModuleHouse", "argumentCount", "I", false)
  | 9 => ("ModuleHouse", "resultCount", "I", false)
  | 10 => ("ModuleHouse", "turnsLeft", "I", false)
  | _ => ("ModuleHouse", "there", "Z", false)
def kt_House : Nat → FieldType := fun k => match k with
  | 0 => .array .byte
  | 1 => .array .long
  | 2 => .array .long
  | 3 => .object "ModuleHouse$ReadModule"
  | 4 => .object "ModuleHouse$Reader"
  | 5 => .object "ModuleHouse$Checker"
  | 6 => .object "ModuleHouse$Machine"
  | 7 => .int
  | 8 => .int
  | 9 => .int
  | 10 => .int
  | _ => .boolean
theorem kn_House : ∀ a, a < 12 → ∀ b, b < 12 → a ≠ b → (kf_House a).2.1 ≠ (kf_House b).2.1 := by decide +kernel
theorem ko_House : ∀ k, k < 12 → parseFieldDescriptor (kf_House k).2.2.1 = some (kt_House k) := by decide +kernel
theorem ki_House : ∀ w ∈ u_ws kc_House kf_House 12, w ∈ xk_gd := by
  show ∀ w ∈ [Cond.laysFinal "ModuleHouse" "ModuleHouse" "tape" "[B", Cond.laysFinal "ModuleHouse" "ModuleHouse" "arguments" "[J", Cond.laysFinal "ModuleHouse" "ModuleHouse" "results" "[J", Cond.laysFinal "ModuleHouse" "ModuleHouse" "module" "LModuleHouse$ReadModule;", Cond.laysFinal "ModuleHouse" "ModuleHouse" "reader" "LModuleHouse$Reader;", Cond.laysFinal "ModuleHouse" "ModuleHouse" "checker" "LModuleHouse$Checker;", Cond.laysFinal "ModuleHouse" "ModuleHouse" "machine" "LModuleHouse$Machine;", Cond.lays "ModuleHouse" "ModuleHouse" "tapeLength" "I", Cond.lays "ModuleHouse" "ModuleHouse" "argumentCount" "I", Cond.lays "ModuleHouse" "ModuleHouse" "resultCount" "I", Cond.lays "ModuleHouse" "ModuleHouse" "turnsLeft" "I", Cond.lays "ModuleHouse" "ModuleHouse" "there" "Z"], w ∈ xk_gd
  exact List.forall_mem_cons.mpr ⟨xk_c2 236 rfl rfl, List.forall_mem_cons.mpr ⟨xk_c2 238 rfl rfl, List.forall_mem_cons.mpr ⟨xk_c3 0 rfl rfl, List.forall_mem_cons.mpr ⟨xk_c3 2 rfl rfl, List.forall_mem_cons.mpr ⟨xk_c3 4 rfl rfl, List.forall_mem_cons.mpr ⟨xk_c3 6 rfl rfl, List.forall_mem_cons.mpr ⟨xk_c3 8 rfl rfl, List.forall_mem_cons.mpr ⟨xk_c3 10 rfl rfl, List.forall_mem_cons.mpr ⟨xk_c3 12 rfl rfl, List.forall_mem_cons.mpr ⟨xk_c3 14 rfl rfl, List.forall_mem_cons.mpr ⟨xk_c3 16 rfl rfl, List.forall_mem_cons.mpr ⟨xk_c3 18 rfl rfl, fun _ h => absurd h List.not_mem_nil⟩⟩⟩⟩⟩⟩⟩⟩⟩⟩⟩⟩
def kc_Checker : String := "ModuleHouse$Checker"
def kf_Checker : u_T := fun k => match k with
  | 0 => ("ModuleHouse$Checker", "module", "LModuleHouse$ReadModule;", true)
  | 1 => ("ModuleHouse$Checker", "types", "LModuleHouse$Types;", true)
  | 2 => ("ModuleHouse$Checker", "code", "LModuleHouse$Code;", true)
  | 3 => ("ModuleHouse$Checker", "stack", "[I", true)
  | 4 => ("ModuleHouse$Checker", "opened", "[I", true)
  | 5 => ("ModuleHouse$Checker", "lost", "[Z", true)
  | 6 => ("ModuleHouse$Checker", "local", "[I", true)
  | 7 => ("ModuleHouse$Checker", "height", "I", false)
  | 8 => ("ModuleHouse$Checker", "floor", "I", false)
  | 9 => ("ModuleHouse$Checker", "depth", "I", false)
  | _ => ("ModuleHouse$Checker", "locals", "I", false)
def kt_Checker : Nat → FieldType := fun k => match k with
  | 0 => .object "ModuleHouse$ReadModule"
  | 1 => .object "ModuleHouse$Types"
  | 2 => .object "ModuleHouse$Code"
  | 3 => .array .int
  | 4 => .array .int
  | 5 => .array .boolean
  | 6 => .array .int
  | 7 => .int
  | 8 => .int
  | 9 => .int
  | _ => .int
theorem kn_Checker : ∀ a, a < 11 → ∀ b, b < 11 → a ≠ b → (kf_Checker a).2.1 ≠ (kf_Checker b).2.1 := by decide +kernel
theorem ko_Checker : ∀ k, k < 11 → parseFieldDescriptor (kf_Checker k).2.2.1 = some (kt_Checker k) := by decide +kernel
theorem ki_Checker : ∀ w ∈ u_ws kc_Checker kf_Checker 11, w ∈ xk_gd := by
  show ∀ w ∈ [Cond.laysFinal "ModuleHouse$Checker" "ModuleHouse$Checker" "module" "LModuleHouse$ReadModule;", Cond.laysFinal "ModuleHouse$Checker" "ModuleHouse$Checker" "types" "LModuleHouse$Types;", Cond.laysFinal "ModuleHouse$Checker" "ModuleHouse$Checker" "code" "LModuleHouse$Code;", Cond.laysFinal "ModuleHouse$Checker" "ModuleHouse$Checker" "stack" "[I", Cond.laysFinal "ModuleHouse$Checker" "ModuleHouse$Checker" "opened" "[I", Cond.laysFinal "ModuleHouse$Checker" "ModuleHouse$Checker" "lost" "[Z", Cond.laysFinal "ModuleHouse$Checker" "ModuleHouse$Checker" "local" "[I", Cond.lays "ModuleHouse$Checker" "ModuleHouse$Checker" "height" "I", Cond.lays "ModuleHouse$Checker" "ModuleHouse$Checker" "floor" "I", Cond.lays "ModuleHouse$Checker" "ModuleHouse$Checker" "depth" "I", Cond.lays "ModuleHouse$Checker" "ModuleHouse$Checker" "locals" "I"], w ∈ xk_gd
  exact List.forall_mem_cons.mpr ⟨xk_c2 58 rfl rfl, List.forall_mem_cons.mpr ⟨xk_c2 60 rfl rfl, List.forall_mem_cons.mpr ⟨xk_c2 62 rfl rfl, List.forall_mem_cons.mpr ⟨xk_c2 64 rfl rfl, List.forall_mem_cons.mpr ⟨xk_c2 66 rfl rfl, List.forall_mem_cons.mpr ⟨xk_c2 68 rfl rfl, List.forall_mem_cons.mpr ⟨xk_c2 70 rfl rfl, List.forall_mem_cons.mpr ⟨xk_c2 72 rfl rfl, List.forall_mem_cons.mpr ⟨xk_c2 74 rfl rfl, List.forall_mem_cons.mpr ⟨xk_c2 76 rfl rfl, List.forall_mem_cons.mpr ⟨xk_c2 78 rfl rfl, fun _ h => absurd h List.not_mem_nil⟩⟩⟩⟩⟩⟩⟩⟩⟩⟩⟩
def kc_Code : String := "ModuleHouse$Code"
def kf_Code : u_T := fun k => match k with
  | 0 => ("ModuleHouse$Code", "size", "I", false)
  | 1 => ("ModuleHouse$Code", "numbersSize", "I", false)
  | 2 => ("ModuleHouse$Code", "op", "[S", true)
  | 3 => ("ModuleHouse$Code", "first", "[I", true)
  | 4 => ("ModuleHouse$Code", "second", "[J", true)
  | 5 => ("ModuleHouse$Code", "mate", "[I", true)
  | 6 => ("ModuleHouse$Code", "height", "[I", true)
  | _ => ("ModuleHouse$Code", "numbers", "[I", true)
def kt_Code : Nat → FieldType := fun k => match k with
  | 0 => .int
  | 1 => .int
  | 2 => .array .short
  | 3 => .array .int
  | 4 => .array .long
  | 5 => .array .int
  | 6 => .array .int
  | _ => .array .int
theorem kn_Code : ∀ a, a < 8 → ∀ b, b < 8 → a ≠ b → (kf_Code a).2.1 ≠ (kf_Code b).2.1 := by decide +kernel
theorem ko_Code : ∀ k, k < 8 → parseFieldDescriptor (kf_Code k).2.2.1 = some (kt_Code k) := by decide +kernel
theorem ki_Code : ∀ w ∈ u_ws kc_Code kf_Code 8, w ∈ xk_gd := by
  show ∀ w ∈ [Cond.lays "ModuleHouse$Code" "ModuleHouse$Code" "size" "I", Cond.lays "ModuleHouse$Code" "ModuleHouse$Code" "numbersSize" "I", Cond.laysFinal "ModuleHouse$Code" "ModuleHouse$Code" "op" "[S", Cond.laysFinal "ModuleHouse$Code" "ModuleHouse$Code" "first" "[I", Cond.laysFinal "ModuleHouse$Code" "ModuleHouse$Code" "second" "[J", Cond.laysFinal "ModuleHouse$Code" "ModuleHouse$Code" "mate" "[I", Cond.laysFinal "ModuleHouse$Code" "ModuleHouse$Code" "height" "[I", Cond.laysFinal "ModuleHouse$Code" "ModuleHouse$Code" "numbers" "[I"], w ∈ xk_gd
  exact List.forall_mem_cons.mpr ⟨xk_c1 121 rfl rfl, List.forall_mem_cons.mpr ⟨xk_c1 123 rfl rfl, List.forall_mem_cons.mpr ⟨xk_c1 125 rfl rfl, List.forall_mem_cons.mpr ⟨xk_c1 127 rfl rfl, List.forall_mem_cons.mpr ⟨xk_c1 129 rfl rfl, List.forall_mem_cons.mpr ⟨xk_c1 131 rfl rfl, List.forall_mem_cons.mpr ⟨xk_c1 133 rfl rfl, List.forall_mem_cons.mpr ⟨xk_c1 135 rfl rfl, fun _ h => absurd h List.not_mem_nil⟩⟩⟩⟩⟩⟩⟩⟩
def kc_Heap : String := "ModuleHouse$Heap"
def kf_Heap : u_T := fun k => match k with
  | 0 => ("ModuleHouse$Heap", "cells", "LModuleHouse$Values;", true)
  | 1 => ("ModuleHouse$Heap", "kind", "[I", true)
  | 2 => ("ModuleHouse$Heap", "size", "[I", true)
  | 3 => ("ModuleHouse$Heap", "start", "[I", true)
  | 4 => ("ModuleHouse$Heap", "lives", "[Z", true)
  | 5 => ("ModuleHouse$Heap", "free", "[I", true)
  | 6 => ("ModuleHouse$Heap", "found", "[I", true)
  | 7 => ("ModuleHouse$Heap", "freeCount", "I", false)
  | _ => ("ModuleHouse$Heap", "foundCount", "I", false)
def kt_Heap : Nat → FieldType := fun k => match k with
  | 0 => .object "ModuleHouse$Values"
  | 1 => .array .int
  | 2 => .array .int
  | 3 => .array .int
  | 4 => .array .boolean
  | 5 => .array .int
  | 6 => .array .int
  | 7 => .int
  | _ => .int
theorem kn_Heap : ∀ a, a < 9 → ∀ b, b < 9 → a ≠ b → (kf_Heap a).2.1 ≠ (kf_Heap b).2.1 := by decide +kernel
theorem ko_Heap : ∀ k, k < 9 → parseFieldDescriptor (kf_Heap k).2.2.1 = some (kt_Heap k) := by decide +kernel
theorem ki_Heap : ∀ w ∈ u_ws kc_Heap kf_Heap 9, w ∈ xk_gd := by
  show ∀ w ∈ [Cond.laysFinal "ModuleHouse$Heap" "ModuleHouse$Heap" "cells" "LModuleHouse$Values;", Cond.laysFinal "ModuleHouse$Heap" "ModuleHouse$Heap" "kind" "[I", Cond.laysFinal "ModuleHouse$Heap" "ModuleHouse$Heap" "size" "[I", Cond.laysFinal "ModuleHouse$Heap" "ModuleHouse$Heap" "start" "[I", Cond.laysFinal "ModuleHouse$Heap" "ModuleHouse$Heap" "lives" "[Z", Cond.laysFinal "ModuleHouse$Heap" "ModuleHouse$Heap" "free" "[I", Cond.laysFinal "ModuleHouse$Heap" "ModuleHouse$Heap" "found" "[I", Cond.lays "ModuleHouse$Heap" "ModuleHouse$Heap" "freeCount" "I", Cond.lays "ModuleHouse$Heap" "ModuleHouse$Heap" "foundCount" "I"], w ∈ xk_gd
  exact List.forall_mem_cons.mpr ⟨xk_c2 132 rfl rfl, List.forall_mem_cons.mpr ⟨xk_c2 134 rfl rfl, List.forall_mem_cons.mpr ⟨xk_c2 136 rfl rfl, List.forall_mem_cons.mpr ⟨xk_c2 138 rfl rfl, List.forall_mem_cons.mpr ⟨xk_c2 140 rfl rfl, List.forall_mem_cons.mpr ⟨xk_c2 142 rfl rfl, List.forall_mem_cons.mpr ⟨xk_c2 144 rfl rfl, List.forall_mem_cons.mpr ⟨xk_c2 146 rfl rfl, List.forall_mem_cons.mpr ⟨xk_c2 148 rfl rfl, fun _ h => absurd h List.not_mem_nil⟩⟩⟩⟩⟩⟩⟩⟩⟩
def kc_Machine : String := "ModuleHouse$Machine"
def kf_Machine : u_T := fun k => match k with
  | 0 => ("ModuleHouse$Machine", "values", "LModuleHouse$Values;", true)
  | 1 => ("ModuleHouse$Machine", "globals", "LModuleHouse$Values;", true)
  | 2 => ("ModuleHouse$Machine", "heap", "LModuleHouse$Heap;", true)
  | 3 => ("ModuleHouse$Machine", "memory", "LModuleHouse$Memory;", true)
  | 4 => ("ModuleHouse$Machine", "turns", "I", false)
  | 5 => ("ModuleHouse$Machine", "module", "LModuleHouse$ReadModule;", true)
  | 6 => ("ModuleHouse$Machine", "types", "LModuleHouse$Types;", true)
  | 7 => ("ModuleHouse$Machine", "code", "LModuleHouse$Code;", true)
  | 8 => ("ModuleHouse$Machine", "table", "[I", true)
  | 9 => ("ModuleHouse$Machine", "function", "[I", true)
  | 10 => ("ModuleHouse$Machine", "base", "[I", true)
  | 11 => ("ModuleHouse$Machine", "back", "[I", true)
  | 12 => ("ModuleHouse$Machine", "depth", "I", false)
  | 13 => ("ModuleHouse$Machine", "floor", "I", false)
  | 14 => ("ModuleHouse$Machine", "next", "I", false)
  | _ => ("ModuleHouse$Machine", "trap", "I", false)
def kt_Machine : Nat → FieldType := fun k => match k with
  | 0 => .object "ModuleHouse$Values"
  | 1 => .object "ModuleHouse$Values"
  | 2 => .object "ModuleHouse$Heap"
  | 3 => .object "ModuleHouse$Memory"
  | 4 => .int
  | 5 => .object "ModuleHouse$ReadModule"
  | 6 => .object "ModuleHouse$Types"
  | 7 => .object "ModuleHouse$Code"
  | 8 => .array .int
  | 9 => .array .int
  | 10 => .array .int
  | 11 => .array .int
  | 12 => .int
  | 13 => .int
  | 14 => .int
  | _ => .int
theorem kn_Machine : ∀ a, a < 16 → ∀ b, b < 16 → a ≠ b → (kf_Machine a).2.1 ≠ (kf_Machine b).2.1 := by decide +kernel
theorem ko_Machine : ∀ k, k < 16 → parseFieldDescriptor (kf_Machine k).2.2.1 = some (kt_Machine k) := by decide +kernel
theorem ki_Machine : ∀ w ∈ u_ws kc_Machine kf_Machine 16, w ∈ xk_gd := by
  show ∀ w ∈ [Cond.laysFinal "ModuleHouse$Machine" "ModuleHouse$Machine" "values" "LModuleHouse$Values;", Cond.laysFinal "ModuleHouse$Machine" "ModuleHouse$Machine" "globals" "LModuleHouse$Values;", Cond.laysFinal "ModuleHouse$Machine" "ModuleHouse$Machine" "heap" "LModuleHouse$Heap;", Cond.laysFinal "ModuleHouse$Machine" "ModuleHouse$Machine" "memory" "LModuleHouse$Memory;", Cond.lays "ModuleHouse$Machine" "ModuleHouse$Machine" "turns" "I", Cond.laysFinal "ModuleHouse$Machine" "ModuleHouse$Machine" "module" "LModuleHouse$ReadModule;", Cond.laysFinal "ModuleHouse$Machine" "ModuleHouse$Machine" "types" "LModuleHouse$Types;", Cond.laysFinal "ModuleHouse$Machine" "ModuleHouse$Machine" "code" "LModuleHouse$Code;", Cond.laysFinal "ModuleHouse$Machine" "ModuleHouse$Machine" "table" "[I", Cond.laysFinal "ModuleHouse$Machine" "ModuleHouse$Machine" "function" "[I", Cond.laysFinal "ModuleHouse$Machine" "ModuleHouse$Machine" "base" "[I", Cond.laysFinal "ModuleHouse$Machine" "ModuleHouse$Machine" "back" "[I", Cond.lays "ModuleHouse$Machine" "ModuleHouse$Machine" "depth" "I", Cond.lays "ModuleHouse$Machine" "ModuleHouse$Machine" "floor" "I", Cond.lays "ModuleHouse$Machine" "ModuleHouse$Machine" "next" "I", Cond.lays "ModuleHouse$Machine" "ModuleHouse$Machine" "trap" "I"], w ∈ xk_gd
  exact List.forall_mem_cons.mpr ⟨xk_c2 191 rfl rfl, List.forall_mem_cons.mpr ⟨xk_c2 193 rfl rfl, List.forall_mem_cons.mpr ⟨xk_c2 195 rfl rfl, List.forall_mem_cons.mpr ⟨xk_c2 197 rfl rfl, List.forall_mem_cons.mpr ⟨xk_c2 199 rfl rfl, List.forall_mem_cons.mpr ⟨xk_c2 201 rfl rfl, List.forall_mem_cons.mpr ⟨xk_c2 203 rfl rfl, List.forall_mem_cons.mpr ⟨xk_c2 205 rfl rfl, List.forall_mem_cons.mpr ⟨xk_c2 207 rfl rfl, List.forall_mem_cons.mpr ⟨xk_c2 209 rfl rfl, List.forall_mem_cons.mpr ⟨xk_c2 211 rfl rfl, List.forall_mem_cons.mpr ⟨xk_c2 213 rfl rfl, List.forall_mem_cons.mpr ⟨xk_c2 215 rfl rfl, List.forall_mem_cons.mpr ⟨xk_c2 217 rfl rfl, List.forall_mem_cons.mpr ⟨xk_c2 219 rfl rfl, List.forall_mem_cons.mpr ⟨xk_c2 221 rfl rfl, fun _ h => absurd h List.not_mem_nil⟩⟩⟩⟩⟩⟩⟩⟩⟩⟩⟩⟩⟩⟩⟩⟩
def kc_Memory : String := "ModuleHouse$Memory"
def kf_Memory : u_T := fun k => match k with
  | 0 => ("ModuleHouse$Memory", "pages", "I", false)
  | 1 => ("ModuleHouse$Memory", "most", "I", false)
  | _ => ("ModuleHouse$Memory", "bytes", "[B", true)
def kt_Memory : Nat → FieldType := fun k => match k with
  | 0 => .int
  | 1 => .int
  | _ => .array .byte
theorem kn_Memory : ∀ a, a < 3 → ∀ b, b < 3 → a ≠ b → (kf_Memory a).2.1 ≠ (kf_Memory b).2.1 := by decide +kernel
theorem ko_Memory : ∀ k, k < 3 → parseFieldDescriptor (kf_Memory k).2.2.1 = some (kt_Memory k) := by decide +kernel
theorem ki_Memory : ∀ w ∈ u_ws kc_Memory kf_Memory 3, w ∈ xk_gd := by
  show ∀ w ∈ [Cond.lays "ModuleHouse$Memory" "ModuleHouse$Memory" "pages" "I", Cond.lays "ModuleHouse$Memory" "ModuleHouse$Memory" "most" "I", Cond.laysFinal "ModuleHouse$Memory" "ModuleHouse$Memory" "bytes" "[B"], w ∈ xk_gd
  exact List.forall_mem_cons.mpr ⟨xk_c2 163 rfl rfl, List.forall_mem_cons.mpr ⟨xk_c2 165 rfl rfl, List.forall_mem_cons.mpr ⟨xk_c2 167 rfl rfl, fun _ h => absurd h List.not_mem_nil⟩⟩⟩
def kc_Mod : String := "ModuleHouse$ReadModule"
def kf_Mod : u_T := fun k => match k with
  | 0 => ("ModuleHouse$ReadModule", "bytes", "[B", true)
  | 1 => ("ModuleHouse$ReadModule", "types", "LModuleHouse$Types;", true)
  | 2 => ("ModuleHouse$ReadModule", "code", "LModuleHouse$Code;", true)
  | 3 => ("ModuleHouse$ReadModule", "functions", "LModuleHouse$Row;", true)
  | 4 => ("ModuleHouse$ReadModule", "tables", "LModuleHouse$Row;", true)
  | 5 => ("ModuleHouse$ReadModule", "memories", "LModuleHouse$Row;", true)
  | 6 => ("ModuleHouse$ReadModule", "globals", "LModuleHouse$Row;", true)
  | 7 => ("ModuleHouse$ReadModule", "exports", "LModuleHouse$Row;", true)
  | 8 => ("ModuleHouse$ReadModule", "elements", "LModuleHouse$Row;", true)
  | 9 => ("ModuleHouse$ReadModule", "data", "LModuleHouse$Row;", true)
  | 10 => ("ModuleHouse$ReadModule", "bodies", "I", false)
  | _ => ("ModuleHouse$ReadModule", "starter", "I", false)
def kt_Mod : Nat → FieldType := fun k => match k with
  | 0 => .array .byte
  | 1 => .object "ModuleHouse$Types"
  | 2 => .object "ModuleHouse$Code"
  | 3 => .object "ModuleHouse$Row"
  | 4 => .object "ModuleHouse$Row"
  | 5 => .object "ModuleHouse$Row"
  | 6 => .object "ModuleHouse$Row"
  | 7 => .object "ModuleHouse$Row"
  | 8 => .object "ModuleHouse$Row"
  | 9 => .object "ModuleHouse$Row"
  | 10 => .int
  | _ => .int
theorem kn_Mod : ∀ a, a < 12 → ∀ b, b < 12 → a ≠ b → (kf_Mod a).2.1 ≠ (kf_Mod b).2.1 := by decide +kernel
theorem ko_Mod : ∀ k, k < 12 → parseFieldDescriptor (kf_Mod k).2.2.1 = some (kt_Mod k) := by decide +kernel
theorem ki_Mod : ∀ w ∈ u_ws kc_Mod kf_Mod 12, w ∈ xk_gd := by
  show ∀ w ∈ [Cond.laysFinal "ModuleHouse$ReadModule" "ModuleHouse$ReadModule" "bytes" "[B", Cond.laysFinal "ModuleHouse$ReadModule" "ModuleHouse$ReadModule" "types" "LModuleHouse$Types;", Cond.laysFinal "ModuleHouse$ReadModule" "ModuleHouse$ReadModule" "code" "LModuleHouse$Code;", Cond.laysFinal "ModuleHouse$ReadModule" "ModuleHouse$ReadModule" "functions" "LModuleHouse$Row;", Cond.laysFinal "ModuleHouse$ReadModule" "ModuleHouse$ReadModule" "tables" "LModuleHouse$Row;", Cond.laysFinal "ModuleHouse$ReadModule" "ModuleHouse$ReadModule" "memories" "LModuleHouse$Row;", Cond.laysFinal "ModuleHouse$ReadModule" "ModuleHouse$ReadModule" "globals" "LModuleHouse$Row;", Cond.laysFinal "ModuleHouse$ReadModule" "ModuleHouse$ReadModule" "exports" "LModuleHouse$Row;", Cond.laysFinal "ModuleHouse$ReadModule" "ModuleHouse$ReadModule" "elements" "LModuleHouse$Row;", Cond.laysFinal "ModuleHouse$ReadModule" "ModuleHouse$ReadModule" "data" "LModuleHouse$Row;", Cond.lays "ModuleHouse$ReadModule" "ModuleHouse$ReadModule" "bodies" "I", Cond.lays "ModuleHouse$ReadModule" "ModuleHouse$ReadModule" "starter" "I"], w ∈ xk_gd
  exact List.forall_mem_cons.mpr ⟨xk_c1 231 rfl rfl, List.forall_mem_cons.mpr ⟨xk_c1 233 rfl rfl, List.forall_mem_cons.mpr ⟨xk_c1 235 rfl rfl, List.forall_mem_cons.mpr ⟨xk_c1 237 rfl rfl, List.forall_mem_cons.mpr ⟨xk_c1 239 rfl rfl, List.forall_mem_cons.mpr ⟨xk_c2 1 rfl rfl, List.forall_mem_cons.mpr ⟨xk_c2 3 rfl rfl, List.forall_mem_cons.mpr ⟨xk_c2 5 rfl rfl, List.forall_mem_cons.mpr ⟨xk_c2 7 rfl rfl, List.forall_mem_cons.mpr ⟨xk_c2 9 rfl rfl, List.forall_mem_cons.mpr ⟨xk_c2 11 rfl rfl, List.forall_mem_cons.mpr ⟨xk_c2 13 rfl rfl, fun _ h => absurd h List.not_mem_nil⟩⟩⟩⟩⟩⟩⟩⟩⟩⟩⟩⟩
def kc_Reader : String := "ModuleHouse$Reader"
def kf_Reader : u_T := fun k => match k with
  | 0 => ("ModuleHouse$Reader", "bytes", "[B", true)
  | 1 => ("ModuleHouse$Reader", "module", "LModuleHouse$ReadModule;", true)
  | 2 => ("ModuleHouse$Reader", "types", "LModuleHouse$Types;", true)
  | 3 => ("ModuleHouse$Reader", "code", "LModuleHouse$Code;", true)
  | 4 => ("ModuleHouse$Reader", "next", "I", false)
  | _ => ("ModuleHouse$Reader", "end", "I", false)
def kt_Reader : Nat → FieldType := fun k => match k with
  | 0 => .array .byte
  | 1 => .object "ModuleHouse$ReadModule"
  | 2 => .object "ModuleHouse$Types"
  | 3 => .object "ModuleHouse$Code"
  | 4 => .int
  | _ => .int
theorem kn_Reader : ∀ a, a < 6 → ∀ b, b < 6 → a ≠ b → (kf_Reader a).2.1 ≠ (kf_Reader b).2.1 := by decide +kernel
theorem ko_Reader : ∀ k, k < 6 → parseFieldDescriptor (kf_Reader k).2.2.1 = some (kt_Reader k) := by decide +kernel
theorem ki_Reader : ∀ w ∈ u_ws kc_Reader kf_Reader 6, w ∈ xk_gd := by
  show ∀ w ∈ [Cond.laysFinal "ModuleHouse$Reader" "ModuleHouse$Reader" "bytes" "[B", Cond.laysFinal "ModuleHouse$Reader" "ModuleHouse$Reader" "module" "LModuleHouse$ReadModule;", Cond.laysFinal "ModuleHouse$Reader" "ModuleHouse$Reader" "types" "LModuleHouse$Types;", Cond.laysFinal "ModuleHouse$Reader" "ModuleHouse$Reader" "code" "LModuleHouse$Code;", Cond.lays "ModuleHouse$Reader" "ModuleHouse$Reader" "next" "I", Cond.lays "ModuleHouse$Reader" "ModuleHouse$Reader" "end" "I"], w ∈ xk_gd
  exact List.forall_mem_cons.mpr ⟨xk_c2 28 rfl rfl, List.forall_mem_cons.mpr ⟨xk_c2 30 rfl rfl, List.forall_mem_cons.mpr ⟨xk_c2 32 rfl rfl, List.forall_mem_cons.mpr ⟨xk_c2 34 rfl rfl, List.forall_mem_cons.mpr ⟨xk_c2 36 rfl rfl, List.forall_mem_cons.mpr ⟨xk_c2 38 rfl rfl, fun _ h => absurd h List.not_mem_nil⟩⟩⟩⟩⟩⟩
def kc_Row : String := "ModuleHouse$Row"
def kf_Row : u_T := fun k => match k with
  | 0 => ("ModuleHouse$Row", "count", "I", false)
  | 1 => ("ModuleHouse$Row", "kind", "[I", true)
  | 2 => ("ModuleHouse$Row", "first", "[I", true)
  | 3 => ("ModuleHouse$Row", "second", "[I", true)
  | _ => ("ModuleHouse$Row", "number", "[J", true)
def kt_Row : Nat → FieldType := fun k => match k with
  | 0 => .int
  | 1 => .array .int
  | 2 => .array .int
  | 3 => .array .int
  | _ => .array .long
theorem kn_Row : ∀ a, a < 5 → ∀ b, b < 5 → a ≠ b → (kf_Row a).2.1 ≠ (kf_Row b).2.1 := by decide +kernel
theorem ko_Row : ∀ k, k < 5 → parseFieldDescriptor (kf_Row k).2.2.1 = some (kt_Row k) := by decide +kernel
theorem ki_Row : ∀ w ∈ u_ws kc_Row kf_Row 5, w ∈ xk_gd := by
  show ∀ w ∈ [Cond.lays "ModuleHouse$Row" "ModuleHouse$Row" "count" "I", Cond.laysFinal "ModuleHouse$Row" "ModuleHouse$Row" "kind" "[I", Cond.laysFinal "ModuleHouse$Row" "ModuleHouse$Row" "first" "[I", Cond.laysFinal "ModuleHouse$Row" "ModuleHouse$Row" "second" "[I", Cond.laysFinal "ModuleHouse$Row" "ModuleHouse$Row" "number" "[J"], w ∈ xk_gd
  exact List.forall_mem_cons.mpr ⟨xk_c1 171 rfl rfl, List.forall_mem_cons.mpr ⟨xk_c1 173 rfl rfl, List.forall_mem_cons.mpr ⟨xk_c1 175 rfl rfl, List.forall_mem_cons.mpr ⟨xk_c1 177 rfl rfl, List.forall_mem_cons.mpr ⟨xk_c1 179 rfl rfl, fun _ h => absurd h List.not_mem_nil⟩⟩⟩⟩⟩
def kc_Types : String := "ModuleHouse$Types"
def kf_Types : u_T := fun k => match k with
  | 0 => ("ModuleHouse$Types", "count", "I", false)
  | 1 => ("ModuleHouse$Types", "kind", "[I", true)
  | 2 => ("ModuleHouse$Types", "members", "[I", true)
  | 3 => ("ModuleHouse$Types", "results", "[I", true)
  | 4 => ("ModuleHouse$Types", "like", "[I", true)
  | _ => ("ModuleHouse$Types", "part", "[I", true)
def kt_Types : Nat → FieldType := fun k => match k with
  | 0 => .int
  | 1 => .array .int
  | 2 => .array .int
  | 3 => .array .int
  | 4 => .array .int
  | _ => .array .int
theorem kn_Types : ∀ a, a < 6 → ∀ b, b < 6 → a ≠ b → (kf_Types a).2.1 ≠ (kf_Types b).2.1 := by decide +kernel
theorem ko_Types : ∀ k, k < 6 → parseFieldDescriptor (kf_Types k).2.2.1 = some (kt_Types k) := by decide +kernel
theorem ki_Types : ∀ w ∈ u_ws kc_Types kf_Types 6, w ∈ xk_gd := by
  show ∀ w ∈ [Cond.lays "ModuleHouse$Types" "ModuleHouse$Types" "count" "I", Cond.laysFinal "ModuleHouse$Types" "ModuleHouse$Types" "kind" "[I", Cond.laysFinal "ModuleHouse$Types" "ModuleHouse$Types" "members" "[I", Cond.laysFinal "ModuleHouse$Types" "ModuleHouse$Types" "results" "[I", Cond.laysFinal "ModuleHouse$Types" "ModuleHouse$Types" "like" "[I", Cond.laysFinal "ModuleHouse$Types" "ModuleHouse$Types" "part" "[I"], w ∈ xk_gd
  exact List.forall_mem_cons.mpr ⟨xk_c1 73 rfl rfl, List.forall_mem_cons.mpr ⟨xk_c1 75 rfl rfl, List.forall_mem_cons.mpr ⟨xk_c1 77 rfl rfl, List.forall_mem_cons.mpr ⟨xk_c1 79 rfl rfl, List.forall_mem_cons.mpr ⟨xk_c1 81 rfl rfl, List.forall_mem_cons.mpr ⟨xk_c1 83 rfl rfl, fun _ h => absurd h List.not_mem_nil⟩⟩⟩⟩⟩⟩
def kc_Values : String := "ModuleHouse$Values"
def kf_Values : u_T := fun k => match k with
  | 0 => ("ModuleHouse$Values", "value", "[J", true)
  | 1 => ("ModuleHouse$Values", "refers", "[Z", true)
  | _ => ("ModuleHouse$Values", "top", "I", false)
def kt_Values : Nat → FieldType := fun k => match k with
  | 0 => .array .long
  | 1 => .array .boolean
  | _ => .int
theorem kn_Values : ∀ a, a < 3 → ∀ b, b < 3 → a ≠ b → (kf_Values a).2.1 ≠ (kf_Values b).2.1 := by decide +kernel
theorem ko_Values : ∀ k, k < 3 → parseFieldDescriptor (kf_Values k).2.2.1 = some (kt_Values k) := by decide +kernel
theorem ki_Values : ∀ w ∈ u_ws kc_Values kf_Values 3, w ∈ xk_gd := by
  show ∀ w ∈ [Cond.laysFinal "ModuleHouse$Values" "ModuleHouse$Values" "value" "[J", Cond.laysFinal "ModuleHouse$Values" "ModuleHouse$Values" "refers" "[Z", Cond.lays "ModuleHouse$Values" "ModuleHouse$Values" "top" "I"], w ∈ xk_gd
  exact List.forall_mem_cons.mpr ⟨xk_c2 105 rfl rfl, List.forall_mem_cons.mpr ⟨xk_c2 107 rfl rfl, List.forall_mem_cons.mpr ⟨xk_c2 109 rfl rfl, fun _ h => absurd h List.not_mem_nil⟩⟩⟩
def kc_Model : String := "ModuleHouseModel"
def kf_Model : u_T := fun k => match k with
  | 0 => ("ModuleHouseModel", "thrown", "I", false)
  | 1 => ("ModuleHouseModel", "tape", "[B", true)
  | 2 => ("ModuleHouseModel", "tapeMany", "I", false)
  | 3 => ("ModuleHouseModel", "given", "[J", true)
  | 4 => ("ModuleHouseModel", "givenMany", "I", false)
  | 5 => ("ModuleHouseModel", "code", "[B", true)
  | 6 => ("ModuleHouseModel", "codeMany", "I", false)
  | 7 => ("ModuleHouseModel", "at", "I", false)
  | 8 => ("ModuleHouseModel", "limit", "I", false)
  | 9 => ("ModuleHouseModel", "bad", "I", false)
  | 10 => ("ModuleHouseModel", "wrong", "Z", false)
  | 11 => ("ModuleHouseModel", "op", "I", false)
  | 12 => ("ModuleHouseModel", "sub", "I", false)
  | 13 => ("ModuleHouseModel", "x", "J", false)
  | 14 => ("ModuleHouseModel", "y", "J", false)
  | 15 => ("ModuleHouseModel", "rowAt", "I", false)
  | 16 => ("ModuleHouseModel", "rowMany", "I", false)
  | 17 => ("ModuleHouseModel", "sections", "[I", true)
  | 18 => ("ModuleHouseModel", "opened", "[B", true)
  | 19 => ("ModuleHouseModel", "types", "I", false)
  | 20 => ("ModuleHouseModel", "kinds", "[I", true)
  | 21 => ("ModuleHouseModel", "partMany", "[I", true)
  | 22 => ("ModuleHouseModel", "resultTypes", "[I", true)
  | 23 => ("ModuleHouseModel", "parts", "[I", true)
  | 24 => ("ModuleHouseModel", "alike", "[I", true)
  | 25 => ("ModuleHouseModel", "functions", "I", false)
  | 26 => ("ModuleHouseModel", "functionType", "[I", true)
  | 27 => ("ModuleHouseModel", "bodyAt", "[I", true)
  | 28 => ("ModuleHouseModel", "bodyEnd", "[I", true)
  | 29 => ("ModuleHouseModel", "localMany", "[I", true)
  | 30 => ("ModuleHouseModel", "localTypes", "[I", true)
  | 31 => ("ModuleHouseModel", "hasTable", "Z", false)
  | 32 => ("ModuleHouseModel", "hasMemory", "Z", false)
  | 33 => ("ModuleHouseModel", "pages", "I", false)
  | 34 => ("ModuleHouseModel", "mostPages", "I", false)
  | 35 => ("ModuleHouseModel", "globals", "I", false)
  | 36 => ("ModuleHouseModel", "globalType", "[I", true)
  | 37 => ("ModuleHouseModel", "globalSets", "[Z", true)
  | 38 => ("ModuleHouseModel", "exports", "I", false)
  | 39 => ("ModuleHouseModel", "nameAt", "[I", true)
  | 40 => ("ModuleHouseModel", "nameMany", "[I", true)
  | 41 => ("ModuleHouseModel", "exportKind", "[I", true)
  | 42 => ("ModuleHouseModel", "exportNumber", "[I", true)
  | 43 => ("ModuleHouseModel", "first", "I", false)
  | 44 => ("ModuleHouseModel", "ends", "[I", true)
  | 45 => ("ModuleHouseModel", "elses", "[I", true)
  | 46 => ("ModuleHouseModel", "stack", "[I", true)
  | 47 => ("ModuleHouseModel", "high", "I", false)
  | 48 => ("ModuleHouseModel", "blocks", "I", false)
  | 49 => ("ModuleHouseModel", "blockAt", "[I", true)
  | 50 => ("ModuleHouseModel", "blockOp", "[I", true)
  | 51 => ("ModuleHouseModel", "blockType", "[J", true)
  | 52 => ("ModuleHouseModel", "blockBase", "[I", true)
  | 53 => ("ModuleHouseModel", "blockDead", "[Z", true)
  | 54 => ("ModuleHouseModel", "here", "I", false)
  | 55 => ("ModuleHouseModel", "table", "I", false)
  | 56 => ("ModuleHouseModel", "globalValue", "[J", true)
  | 57 => ("ModuleHouseModel", "isInstance", "Z", false)
  | 58 => ("ModuleHouseModel", "memory", "[B", true)
  | 59 => ("ModuleHouseModel", "tablePlaces", "[I", true)
  | 60 => ("ModuleHouseModel", "values", "[J", true)
  | 61 => ("ModuleHouseModel", "refers", "[Z", true)
  | 62 => ("ModuleHouseModel", "top", "I", false)
  | 63 => ("ModuleHouseModel", "calls", "I", false)
  | 64 => ("ModuleHouseModel", "callBack", "[I", true)
  | 65 => ("ModuleHouseModel", "callLocals", "[I", true)
  | 66 => ("ModuleHouseModel", "callWays", "[I", true)
  | 67 => ("ModuleHouseModel", "ways", "I", false)
  | 68 => ("ModuleHouseModel", "wayAt", "[I", true)
  | 69 => ("ModuleHouseModel", "wayMany", "[I", true)
  | 70 => ("ModuleHouseModel", "wayHigh", "[I", true)
  | 71 => ("ModuleHouseModel", "wayLoops", "[Z", true)
  | 72 => ("ModuleHouseModel", "trap", "I", false)
  | 73 => ("ModuleHouseModel", "turnsLeft", "J", false)
  | 74 => ("ModuleHouseModel", "turnsOver", "I", false)
  | 75 => ("ModuleHouseModel", "resultMany", "I", false)
  | 76 => ("ModuleHouseModel", "results", "[J", true)
  | 77 => ("ModuleHouseModel", "heap", "I", false)
  | 78 => ("ModuleHouseModel", "cells", "[J", true)
  | 79 => ("ModuleHouseModel", "objectAt", "[I", true)
  | 80 => ("ModuleHouseModel", "objectSize", "[I", true)
  | 81 => ("ModuleHouseModel", "objectOf", "[I", true)
  | 82 => ("ModuleHouseModel", "marked", "[Z", true)
  | 83 => ("ModuleHouseModel", "pile", "[I", true)
  | 84 => ("ModuleHouseModel", "piled", "I", false)
  | 85 => ("ModuleHouseModel", "objects", "I", false)
  | _ => ("ModuleHouseModel", "order", "[I", true)
def kt_Model : Nat → FieldType := fun k => match k with
  | 0 => .int
  | 1 => .array .byte
  | 2 => .int
  | 3 => .array .long
  | 4 => .int
  | 5 => .array .byte
  | 6 => .int
  | 7 => .int
  | 8 => .int
  | 9 => .int
  | 10 => .boolean
  | 11 => .int
  | 12 => .int
  | 13 => .long
  | 14 => .long
  | 15 => .int
  | 16 => .int
  | 17 => .array .int
  | 18 => .array .byte
  | 19 => .int
  | 20 => .array .int
  | 21 => .array .int
  | 22 => .array .int
  | 23 => .array .int
  | 24 => .array .int
  | 25 => .int
  | 26 => .array .int
  | 27 => .array .int
  | 28 => .array .int
  | 29 => .array .int
  | 30 => .array .int
  | 31 => .boolean
  | 32 => .boolean
  | 33 => .int
  | 34 => .int
  | 35 => .int
  | 36 => .array .int
  | 37 => .array .boolean
  | 38 => .int
  | 39 => .array .int
  | 40 => .array .int
  | 41 => .array .int
  | 42 => .array .int
  | 43 => .int
  | 44 => .array .int
  | 45 => .array .int
  | 46 => .array .int
  | 47 => .int
  | 48 => .int
  | 49 => .array .int
  | 50 => .array .int
  | 51 => .array .long
  | 52 => .array .int
  | 53 => .array .boolean
  | 54 => .int
  | 55 => .int
  | 56 => .array .long
  | 57 => .boolean
  | 58 => .array .byte
  | 59 => .array .int
  | 60 => .array .long
  | 61 => .array .boolean
  | 62 => .int
  | 63 => .int
  | 64 => .array .int
  | 65 => .array .int
  | 66 => .array .int
  | 67 => .int
  | 68 => .array .int
  | 69 => .array .int
  | 70 => .array .int
  | 71 => .array .boolean
  | 72 => .int
  | 73 => .long
  | 74 => .int
  | 75 => .int
  | 76 => .array .long
  | 77 => .int
  | 78 => .array .long
  | 79 => .array .int
  | 80 => .array .int
  | 81 => .array .int
  | 82 => .array .boolean
  | 83 => .array .int
  | 84 => .int
  | 85 => .int
  | _ => .array .int
theorem kn_Model : ∀ a, a < 87 → ∀ b, b < 87 → a ≠ b → (kf_Model a).2.1 ≠ (kf_Model b).2.1 := by decide +kernel
theorem ko_Model : ∀ k, k < 87 → parseFieldDescriptor (kf_Model k).2.2.1 = some (kt_Model k) := by decide +kernel
theorem ki_Model : ∀ w ∈ u_ws kc_Model kf_Model 87, w ∈ xk_gd := by
  show ∀ w ∈ [Cond.lays "ModuleHouseModel" "ModuleHouseModel" "thrown" "I", Cond.laysFinal "ModuleHouseModel" "ModuleHouseModel" "tape" "[B", Cond.lays "ModuleHouseModel" "ModuleHouseModel" "tapeMany" "I", Cond.laysFinal "ModuleHouseModel" "ModuleHouseModel" "given" "[J", Cond.lays "ModuleHouseModel" "ModuleHouseModel" "givenMany" "I", Cond.laysFinal "ModuleHouseModel" "ModuleHouseModel" "code" "[B", Cond.lays "ModuleHouseModel" "ModuleHouseModel" "codeMany" "I", Cond.lays "ModuleHouseModel" "ModuleHouseModel" "at" "I", Cond.lays "ModuleHouseModel" "ModuleHouseModel" "limit" "I", Cond.lays "ModuleHouseModel" "ModuleHouseModel" "bad" "I", Cond.lays "ModuleHouseModel" "ModuleHouseModel" "wrong" "Z", Cond.lays "ModuleHouseModel" "ModuleHouseModel" "op" "I", Cond.lays "ModuleHouseModel" "ModuleHouseModel" "sub" "I", Cond.lays "ModuleHouseModel" "ModuleHouseModel" "x" "J", Cond.lays "ModuleHouseModel" "ModuleHouseModel" "y" "J", Cond.lays "ModuleHouseModel" "ModuleHouseModel" "rowAt" "I", Cond.lays "ModuleHouseModel" "ModuleHouseModel" "rowMany" "I", Cond.laysFinal "ModuleHouseModel" "ModuleHouseModel" "sections" "[I", Cond.laysFinal "ModuleHouseModel" "ModuleHouseModel" "opened" "[B", Cond.lays "ModuleHouseModel" "ModuleHouseModel" "types" "I", Cond.laysFinal "ModuleHouseModel" "ModuleHouseModel" "kinds" "[I", Cond.laysFinal "ModuleHouseModel" "ModuleHouseModel" "partMany" "[I", Cond.laysFinal "ModuleHouseModel" "ModuleHouseModel" "resultTypes" "[I", Cond.laysFinal "ModuleHouseModel" "ModuleHouseModel" "parts" "[I", Cond.laysFinal "ModuleHouseModel" "ModuleHouseModel" "alike" "[I", Cond.lays "ModuleHouseModel" "ModuleHouseModel" "functions" "I", Cond.laysFinal "ModuleHouseModel" "ModuleHouseModel" "functionType" "[I", Cond.laysFinal "ModuleHouseModel" "ModuleHouseModel" "bodyAt" "[I", Cond.laysFinal "ModuleHouseModel" "ModuleHouseModel" "bodyEnd" "[I", Cond.laysFinal "ModuleHouseModel" "ModuleHouseModel" "localMany" "[I", Cond.laysFinal "ModuleHouseModel" "ModuleHouseModel" "localTypes" "[I", Cond.lays "ModuleHouseModel" "ModuleHouseModel" "hasTable" "Z", Cond.lays "ModuleHouseModel" "ModuleHouseModel" "hasMemory" "Z", Cond.lays "ModuleHouseModel" "ModuleHouseModel" "pages" "I", Cond.lays "ModuleHouseModel" "ModuleHouseModel" "mostPages" "I", Cond.lays "ModuleHouseModel" "ModuleHouseModel" "globals" "I", Cond.laysFinal "ModuleHouseModel" "ModuleHouseModel" "globalType" "[I", Cond.laysFinal "ModuleHouseModel" "ModuleHouseModel" "globalSets" "[Z", Cond.lays "ModuleHouseModel" "ModuleHouseModel" "exports" "I", Cond.laysFinal "ModuleHouseModel" "ModuleHouseModel" "nameAt" "[I", Cond.laysFinal "ModuleHouseModel" "ModuleHouseModel" "nameMany" "[I", Cond.laysFinal "ModuleHouseModel" "ModuleHouseModel" "exportKind" "[I", Cond.laysFinal "ModuleHouseModel" "ModuleHouseModel" "exportNumber" "[I", Cond.lays "ModuleHouseModel" "ModuleHouseModel" "first" "I", Cond.laysFinal "ModuleHouseModel" "ModuleHouseModel" "ends" "[I", Cond.laysFinal "ModuleHouseModel" "ModuleHouseModel" "elses" "[I", Cond.laysFinal "ModuleHouseModel" "ModuleHouseModel" "stack" "[I", Cond.lays "ModuleHouseModel" "ModuleHouseModel" "high" "I", Cond.lays "ModuleHouseModel" "ModuleHouseModel" "blocks" "I", Cond.laysFinal "ModuleHouseModel" "ModuleHouseModel" "blockAt" "[I", Cond.laysFinal "ModuleHouseModel" "ModuleHouseModel" "blockOp" "[I", Cond.laysFinal "ModuleHouseModel" "ModuleHouseModel" "blockType" "[J", Cond.laysFinal "ModuleHouseModel" "ModuleHouseModel" "blockBase" "[I", Cond.laysFinal "ModuleHouseModel" "ModuleHouseModel" "blockDead" "[Z", Cond.lays "ModuleHouseModel" "ModuleHouseModel" "here" "I", Cond.lays "ModuleHouseModel" "ModuleHouseModel" "table" "I", Cond.laysFinal "ModuleHouseModel" "ModuleHouseModel" "globalValue" "[J", Cond.lays "ModuleHouseModel" "ModuleHouseModel" "isInstance" "Z", Cond.laysFinal "ModuleHouseModel" "ModuleHouseModel" "memory" "[B", Cond.laysFinal "ModuleHouseModel" "ModuleHouseModel" "tablePlaces" "[I", Cond.laysFinal "ModuleHouseModel" "ModuleHouseModel" "values" "[J", Cond.laysFinal "ModuleHouseModel" "ModuleHouseModel" "refers" "[Z", Cond.lays "ModuleHouseModel" "ModuleHouseModel" "top" "I", Cond.lays "ModuleHouseModel" "ModuleHouseModel" "calls" "I", Cond.laysFinal "ModuleHouseModel" "ModuleHouseModel" "callBack" "[I", Cond.laysFinal "ModuleHouseModel" "ModuleHouseModel" "callLocals" "[I", Cond.laysFinal "ModuleHouseModel" "ModuleHouseModel" "callWays" "[I", Cond.lays "ModuleHouseModel" "ModuleHouseModel" "ways" "I", Cond.laysFinal "ModuleHouseModel" "ModuleHouseModel" "wayAt" "[I", Cond.laysFinal "ModuleHouseModel" "ModuleHouseModel" "wayMany" "[I", Cond.laysFinal "ModuleHouseModel" "ModuleHouseModel" "wayHigh" "[I", Cond.laysFinal "ModuleHouseModel" "ModuleHouseModel" "wayLoops" "[Z", Cond.lays "ModuleHouseModel" "ModuleHouseModel" "trap" "I", Cond.lays "ModuleHouseModel" "ModuleHouseModel" "turnsLeft" "J", Cond.lays "ModuleHouseModel" "ModuleHouseModel" "turnsOver" "I", Cond.lays "ModuleHouseModel" "ModuleHouseModel" "resultMany" "I", Cond.laysFinal "ModuleHouseModel" "ModuleHouseModel" "results" "[J", Cond.lays "ModuleHouseModel" "ModuleHouseModel" "heap" "I", Cond.laysFinal "ModuleHouseModel" "ModuleHouseModel" "cells" "[J", Cond.laysFinal "ModuleHouseModel" "ModuleHouseModel" "objectAt" "[I", Cond.laysFinal "ModuleHouseModel" "ModuleHouseModel" "objectSize" "[I", Cond.laysFinal "ModuleHouseModel" "ModuleHouseModel" "objectOf" "[I", Cond.laysFinal "ModuleHouseModel" "ModuleHouseModel" "marked" "[Z", Cond.laysFinal "ModuleHouseModel" "ModuleHouseModel" "pile" "[I", Cond.lays "ModuleHouseModel" "ModuleHouseModel" "piled" "I", Cond.lays "ModuleHouseModel" "ModuleHouseModel" "objects" "I", Cond.laysFinal "ModuleHouseModel" "ModuleHouseModel" "order" "[I"], w ∈ xk_gd
  exact List.forall_mem_cons.mpr ⟨xk_c8 125 rfl rfl, List.forall_mem_cons.mpr ⟨xk_c8 127 rfl rfl, List.forall_mem_cons.mpr ⟨xk_c8 129 rfl rfl, List.forall_mem_cons.mpr ⟨xk_c8 131 rfl rfl, List.forall_mem_cons.mpr ⟨xk_c8 133 rfl rfl, List.forall_mem_cons.mpr ⟨xk_c8 135 rfl rfl, List.forall_mem_cons.mpr ⟨xk_c8 137 rfl rfl, List.forall_mem_cons.mpr ⟨xk_c8 139 rfl rfl, List.forall_mem_cons.mpr ⟨xk_c8 141 rfl rfl, List.forall_mem_cons.mpr ⟨xk_c8 143 rfl rfl, List.forall_mem_cons.mpr ⟨xk_c8 145 rfl rfl, List.forall_mem_cons.mpr ⟨xk_c8 147 rfl rfl, List.forall_mem_cons.mpr ⟨xk_c8 149 rfl rfl, List.forall_mem_cons.mpr ⟨xk_c8 151 rfl rfl, List.forall_mem_cons.mpr ⟨xk_c8 153 rfl rfl, List.forall_mem_cons.mpr ⟨xk_c8 155 rfl rfl, List.forall_mem_cons.mpr ⟨xk_c8 157 rfl rfl, List.forall_mem_cons.mpr ⟨xk_c8 159 rfl rfl, List.forall_mem_cons.mpr ⟨xk_c8 161 rfl rfl, List.forall_mem_cons.mpr ⟨xk_c8 163 rfl rfl, List.forall_mem_cons.mpr ⟨xk_c8 165 rfl rfl, List.forall_mem_cons.mpr ⟨xk_c8 167 rfl rfl, List.forall_mem_cons.mpr ⟨xk_c8 169 rfl rfl, List.forall_mem_cons.mpr ⟨xk_c8 171 rfl rfl, List.forall_mem_cons.mpr ⟨xk_c8 173 rfl rfl, List.forall_mem_cons.mpr ⟨xk_c8 175 rfl rfl, List.forall_mem_cons.mpr ⟨xk_c8 177 rfl rfl, List.forall_mem_cons.mpr ⟨xk_c8 179 rfl rfl, List.forall_mem_cons.mpr ⟨xk_c8 181 rfl rfl, List.forall_mem_cons.mpr ⟨xk_c8 183 rfl rfl, List.forall_mem_cons.mpr ⟨xk_c8 185 rfl rfl, List.forall_mem_cons.mpr ⟨xk_c8 187 rfl rfl, List.forall_mem_cons.mpr ⟨xk_c8 189 rfl rfl, List.forall_mem_cons.mpr ⟨xk_c8 191 rfl rfl, List.forall_mem_cons.mpr ⟨xk_c8 193 rfl rfl, List.forall_mem_cons.mpr ⟨xk_c8 195 rfl rfl, List.forall_mem_cons.mpr ⟨xk_c8 197 rfl rfl, List.forall_mem_cons.mpr ⟨xk_c8 199 rfl rfl, List.forall_mem_cons.mpr ⟨xk_c8 201 rfl rfl, List.forall_mem_cons.mpr ⟨xk_c8 203 rfl rfl, List.forall_mem_cons.mpr ⟨xk_c8 205 rfl rfl, List.forall_mem_cons.mpr ⟨xk_c8 207 rfl rfl, List.forall_mem_cons.mpr ⟨xk_c8 209 rfl rfl, List.forall_mem_cons.mpr ⟨xk_c8 211 rfl rfl, List.forall_mem_cons.mpr ⟨xk_c8 213 rfl rfl, List.forall_mem_cons.mpr ⟨xk_c8 215 rfl rfl, List.forall_mem_cons.mpr ⟨xk_c8 217 rfl rfl, List.forall_mem_cons.mpr ⟨xk_c8 219 rfl rfl, List.forall_mem_cons.mpr ⟨xk_c8 221 rfl rfl, List.forall_mem_cons.mpr ⟨xk_c8 223 rfl rfl, List.forall_mem_cons.mpr ⟨xk_c8 225 rfl rfl, List.forall_mem_cons.mpr ⟨xk_c8 227 rfl rfl, List.forall_mem_cons.mpr ⟨xk_c8 229 rfl rfl, List.forall_mem_cons.mpr ⟨xk_c8 231 rfl rfl, List.forall_mem_cons.mpr ⟨xk_c8 233 rfl rfl, List.forall_mem_cons.mpr ⟨xk_c8 235 rfl rfl, List.forall_mem_cons.mpr ⟨xk_c8 237 rfl rfl, List.forall_mem_cons.mpr ⟨xk_c8 239 rfl rfl, List.forall_mem_cons.mpr ⟨xk_c9 1 rfl rfl, List.forall_mem_cons.mpr ⟨xk_c9 3 rfl rfl, List.forall_mem_cons.mpr ⟨xk_c9 5 rfl rfl, List.forall_mem_cons.mpr ⟨xk_c9 7 rfl rfl, List.forall_mem_cons.mpr ⟨xk_c9 9 rfl rfl, List.forall_mem_cons.mpr ⟨xk_c9 11 rfl rfl, List.forall_mem_cons.mpr ⟨xk_c9 13 rfl rfl, List.forall_mem_cons.mpr ⟨xk_c9 15 rfl rfl, List.forall_mem_cons.mpr ⟨xk_c9 17 rfl rfl, List.forall_mem_cons.mpr ⟨xk_c9 19 rfl rfl, List.forall_mem_cons.mpr ⟨xk_c9 21 rfl rfl, List.forall_mem_cons.mpr ⟨xk_c9 23 rfl rfl, List.forall_mem_cons.mpr ⟨xk_c9 25 rfl rfl, List.forall_mem_cons.mpr ⟨xk_c9 27 rfl rfl, List.forall_mem_cons.mpr ⟨xk_c9 29 rfl rfl, List.forall_mem_cons.mpr ⟨xk_c9 31 rfl rfl, List.forall_mem_cons.mpr ⟨xk_c9 33 rfl rfl, List.forall_mem_cons.mpr ⟨xk_c9 35 rfl rfl, List.forall_mem_cons.mpr ⟨xk_c9 37 rfl rfl, List.forall_mem_cons.mpr ⟨xk_c9 39 rfl rfl, List.forall_mem_cons.mpr ⟨xk_c9 41 rfl rfl, List.forall_mem_cons.mpr ⟨xk_c9 43 rfl rfl, List.forall_mem_cons.mpr ⟨xk_c9 45 rfl rfl, List.forall_mem_cons.mpr ⟨xk_c9 47 rfl rfl, List.forall_mem_cons.mpr ⟨xk_c9 49 rfl rfl, List.forall_mem_cons.mpr ⟨xk_c9 51 rfl rfl, List.forall_mem_cons.mpr ⟨xk_c9 53 rfl rfl, List.forall_mem_cons.mpr ⟨xk_c9 55 rfl rfl, List.forall_mem_cons.mpr ⟨xk_c9 57 rfl rfl, fun _ h => absurd h List.not_mem_nil⟩⟩⟩⟩⟩⟩⟩⟩⟩⟩⟩⟩⟩⟩⟩⟩⟩⟩⟩⟩⟩⟩⟩⟩⟩⟩⟩⟩⟩⟩⟩⟩⟩⟩⟩⟩⟩⟩⟩⟩⟩⟩⟩⟩⟩⟩⟩⟩⟩⟩⟩⟩⟩⟩⟩⟩⟩⟩⟩⟩⟩⟩⟩⟩⟩⟩⟩⟩⟩⟩⟩⟩⟩⟩⟩⟩⟩⟩⟩⟩⟩⟩⟩⟩⟩⟩⟩
def kc_Law : String := "ModuleHouseLaw"
abbrev kx_cl : List vw_C := [(kc_House, kf_House, 12), (kc_Checker, kf_Checker, 11), (kc_Code, kf_Code, 8), (kc_Heap, kf_Heap, 9), (kc_Machine, kf_Machine, 16), (kc_Memory, kf_Memory, 3), (kc_Mod, kf_Mod, 12), (kc_Reader, kf_Reader, 6), (kc_Row, kf_Row, 5), (kc_Types, kf_Types, 6), (kc_Values, kf_Values, 3), (kc_Model, kf_Model, 87)]
abbrev kx_ty (ca : Nat → ClassId) : List (ClassId × FieldType) := [(ca 0, .byte), (ca 1, .int), (ca 2, .long), (ca 3, .boolean), (ca 4, .short)]
def kw_h_0 (ad : Nat → Nat) (u : xk_St) : List Value := [.ref (ad 1), .ref (ad 2), .ref (ad 3), .ref (ad 4), .ref (ad 54), .ref (ad 55), .ref (ad 60), .int (u.1 0), .int (u.1 1), .int (u.1 2), .int (u.1 3), .int (u.1 4)]
def kw_h_4 (ad : Nat → Nat) (u : xk_St) : List Value := [.ref (ad 5), .ref (ad 6), .ref (ad 12), .ref (ad 19), .ref (ad 24), .ref (ad 29), .ref (ad 34), .ref (ad 39), .ref (ad 44), .ref (ad 49), .int (u.1 5), .int (u.1 6)]
def kw_h_6 (ad : Nat → Nat) (u : xk_St) : List Value := [.int (u.1 7), .ref (ad 7), .ref (ad 8), .ref (ad 9), .ref (ad 10), .ref (ad 11)]
def kw_h_12 (ad : Nat → Nat) (u : xk_St) : List Value := [.int (u.1 8), .int (u.1 9), .ref (ad 13), .ref (ad 14), .ref (ad 15), .ref (ad 16), .ref (ad 17), .ref (ad 18)]
def kw_h_19 (ad : Nat → Nat) (u : xk_St) : List Value := [.int (u.1 10), .ref (ad 20), .ref (ad 21), .ref (ad 22), .ref (ad 23)]
def kw_h_24 (ad : Nat → Nat) (u : xk_St) : List Value := [.int (u.1 11), .ref (ad 25), .ref (ad 26), .ref (ad 27), .ref (ad 28)]
def kw_h_29 (ad : Nat → Nat) (u : xk_St) : List Value := [.int (u.1 12), .ref (ad 30), .ref (ad 31), .ref (ad 32), .ref (ad 33)]
def kw_h_34 (ad : Nat → Nat) (u : xk_St) : List Value := [.int (u.1 13), .ref (ad 35), .ref (ad 36), .ref (ad 37), .ref (ad 38)]
def kw_h_39 (ad : Nat → Nat) (u : xk_St) : List Value := [.int (u.1 14), .ref (ad 40), .ref (ad 41), .ref (ad 42), .ref (ad 43)]
def kw_h_44 (ad : Nat → Nat) (u : xk_St) : List Value := [.int (u.1 15), .ref (ad 45), .ref (ad 46), .ref (ad 47), .ref (ad 48)]
def kw_h_49 (ad : Nat → Nat) (u : xk_St) : List Value := [.int (u.1 16), .ref (ad 50), .ref (ad 51), .ref (ad 52), .ref (ad 53)]
def kw_h_54 (ad : Nat → Nat) (u : xk_St) : List Value := [.ref (ad 5), .ref (ad 4), .ref (ad 6), .ref (ad 12), .int (u.1 17), .int (u.1 18)]
def kw_h_55 (ad : Nat → Nat) (u : xk_St) : List Value := [.ref (ad 4), .ref (ad 6), .ref (ad 12), .ref (ad 56), .ref (ad 57), .ref (ad 58), .ref (ad 59), .int (u.1 19), .int (u.1 20), .int (u.1 21), .int (u.1 22)]
def kw_h_60 (ad : Nat → Nat) (u : xk_St) : List Value := [.ref (ad 61), .ref (ad 64), .ref (ad 67), .ref (ad 77), .int (u.1 23), .ref (ad 4), .ref (ad 6), .ref (ad 12), .ref (ad 79), .ref (ad 80), .ref (ad 81), .ref (ad 82), .int (u.1 24), .int (u.1 25), .int (u.1 26), .int (u.1 27)]
def kw_h_61 (ad : Nat → Nat) (u : xk_St) : List Value := [.ref (ad 62), .ref (ad 63), .int (u.1 28)]
def kw_h_64 (ad : Nat → Nat) (u : xk_St) : List Value := [.ref (ad 65), .ref (ad 66), .int (u.1 29)]
def kw_h_67 (ad : Nat → Nat) (u : xk_St) : List Value := [.ref (ad 68), .ref (ad 71), .ref (ad 72), .ref (ad 73), .ref (ad 74), .ref (ad 75), .ref (ad 76), .int (u.1 30), .int (u.1 31)]
def kw_h_68 (ad : Nat → Nat) (u : xk_St) : List Value := [.ref (ad 69), .ref (ad 70), .int (u.1 32)]
def kw_h_77 (ad : Nat → Nat) (u : xk_St) : List Value := [.int (u.1 33), .int (u.1 34), .ref (ad 78)]
def kw_h (ad : Nat → Nat) (ca : Nat → ClassId) (u : xk_St) : va_W := [(ad 0, .inr (0, kw_h_0 ad u)), (ad 1, .inl (ca 0, 8192, .inl (u.2.2.1 0))), (ad 2, .inl (ca 2, 16, .inr (.inl (u.2.2.2 0)))), (ad 3, .inl (ca 2, 16, .inr (.inl (u.2.2.2 1)))), (ad 4, .inr (6, kw_h_4 ad u)), (ad 5, .inl (ca 0, 8192, .inl (u.2.2.1 1))), (ad 6, .inr (9, kw_h_6 ad u)), (ad 7, .inl (ca 1, 65, .inl (u.2.2.1 2))), (ad 8, .inl (ca 1, 65, .inl (u.2.2.1 3))), (ad 9, .inl (ca 1, 65, .inl (u.2.2.1 4))), (ad 10, .inl (ca 1, 65, .inl (u.2.2.1 5))), (ad 11, .inl (ca 1, 2210, .inl (u.2.2.1 6))), (ad 12, .inr (2, kw_h_12 ad u)), (ad 13, .inl (ca 4, 8192, .inl (u.2.2.1 7))), (ad 14, .inl (ca 1, 8192, .inl (u.2.2.1 8))), (ad 15, .inl (ca 2, 8192, .inr (.inl (u.2.2.2 2)))), (ad 16, .inl (ca 1, 8192, .inl (u.2.2.1 9))), (ad 17, .inl (ca 1, 8192, .inl (u.2.2.1 10))), (ad 18, .inl (ca 1, 8192, .inl (u.2.2.1 11))), (ad 19, .inr (8, kw_h_19 ad u)), (ad 20, .inl (ca 1, 65, .inl (u.2.2.1 12))), (ad 21, .inl (ca 1, 65, .inl (u.2.2.1 13))), (ad 22, .inl (ca 1, 65, .inl (u.2.2.1 14))), (ad 23, .inl (ca 2, 65, .inr (.inl (u.2.2.2 3)))), (ad 24, .inr (8, kw_h_24 ad u)), (ad 25, .inl (ca 1, 65, .inl (u.2.2.1 15))), (ad 26, .inl (ca 1, 65, .inl (u.2.2.1 16))), (ad 27, .inl (ca 1, 65, .inl (u.2.2.1 17))), (ad 28, .inl (ca 2, 65, .inr (.inl (u.2.2.2 4)))), (ad 29, .inr (8, kw_h_29 ad u)), (ad 30, .inl (ca 1, 65, .inl (u.2.2.1 18))), (ad 31, .inl (ca 1, 65, .inl (u.2.2.1 19))), (ad 32, .inl (ca 1, 65, .inl (u.2.2.1 20))), (ad 33, .inl (ca 2, 65, .inr (.inl (u.2.2.2 5)))), (ad 34, .inr (8, kw_h_34 ad u)), (ad 35, .inl (ca 1, 65, .inl (u.2.2.1 21))), (ad 36, .inl (ca 1, 65, .inl (u.2.2.1 22))), (ad 37, .inl (ca 1, 65, .inl (u.2.2.1 23))), (ad 38, .inl (ca 2, 65, .inr (.inl (u.2.2.2 6)))), (ad 39, .inr (8, kw_h_39 ad u)), (ad 40, .inl (ca 1, 65, .inl (u.2.2.1 24))), (ad 41, .inl (ca 1, 65, .inl (u.2.2.1 25))), (ad 42, .inl (ca 1, 65, .inl (u.2.2.1 26))), (ad 43, .inl (ca 2, 65, .inr (.inl (u.2.2.2 7)))), (ad 44, .inr (8, kw_h_44 ad u)), (ad 45, .inl (ca 1, 65, .inl (u.2.2.1 27))), (ad 46, .inl (ca 1, 65, .inl (u.2.2.1 28))), (ad 47, .inl (ca 1, 65, .inl (u.2.2.1 29))), (ad 48, .inl (ca 2, 65, .inr (.inl (u.2.2.2 8)))), (ad 49, .inr (8, kw_h_49 ad u)), (ad 50, .inl (ca 1, 65, .inl (u.2.2.1 30))), (ad 51, .inl (ca 1, 65, .inl (u.2.2.1 31))), (ad 52, .inl (ca 1, 65, .inl (u.2.2.1 32))), (ad 53, .inl (ca 2, 65, .inr (.inl (u.2.2.2 9)))), (ad 54, .inr (7, kw_h_54 ad u)), (ad 55, .inr (1, kw_h_55 ad u)), (ad 56, .inl (ca 1, 100, .inl (u.2.2.1 33))), (ad 57, .inl (ca 1, 100, .inl (u.2.2.1 34))), (ad 58, .inl (ca 3, 100, .inl (u.2.2.1 35))), (ad 59, .inl (ca 1, 200, .inl (u.2.2.1 36))), (ad 60, .inr (4, kw_h_60 ad u)), (ad 61, .inr (10, kw_h_61 ad u)), (ad 62, .inl (ca 2, 18000, .inr (.inl (u.2.2.2 10)))), (ad 63, .inl (ca 3, 18000, .inl (u.2.2.1 37))), (ad 64, .inr (10, kw_h_64 ad u)), (ad 65, .inl (ca 2, 64, .inr (.inl (u.2.2.2 11)))), (ad 66, .inl (ca 3, 64, .inl (u.2.2.1 38))), (ad 67, .inr (3, kw_h_67 ad u)), (ad 68, .inr (10, kw_h_68 ad u)), (ad 69, .inl (ca 2, 2000, .inr (.inl (u.2.2.2 12)))), (ad 70, .inl (ca 3, 2000, .inl (u.2.2.1 39))), (ad 71, .inl (ca 1, 2001, .inl (u.2.2.1 40))), (ad 72, .inl (ca 1, 2001, .inl (u.2.2.1 41))), (ad 73, .inl (ca 1, 2001, .inl (u.2.2.1 42))), (ad 74, .inl (ca 3, 2001, .inl (u.2.2.1 43))), (ad 75, .inl (ca 1, 2000, .inl (u.2.2.1 44))), (ad 76, .inl (ca 1, 2000, .inl (u.2.2.1 45))), (ad 77, .inr (5, kw_h_77 ad u)), (ad 78, .inl (ca 0, 65536, .inl (u.2.2.1 46))), (ad 79, .inl (ca 1, 64, .inl (u.2.2.1 47))), (ad 80, .inl (ca 1, 60, .inl (u.2.2.1 48))), (ad 81, .inl (ca 1, 60, .inl (u.2.2.1 49))), (ad 82, .inl (ca 1, 60, .inl (u.2.2.1 50))), (ad 83, .inl (ca 2, 1, .inr (.inl (u.2.2.2 13))))]
abbrev kd_h (ad : Nat → Nat) : List Nat := [ad 0, ad 1, ad 2, ad 3, ad 4, ad 5, ad 6, ad 7, ad 8, ad 9, ad 10, ad 11, ad 12, ad 13, ad 14, ad 15, ad 16, ad 17, ad 18, ad 19, ad 20, ad 21, ad 22, ad 23, ad 24, ad 25, ad 26, ad 27, ad 28, ad 29, ad 30, ad 31, ad 32, ad 33, ad 34, ad 35, ad 36, ad 37, ad 38, ad 39, ad 40, ad 41, ad 42, ad 43, ad 44, ad 45, ad 46, ad 47, ad 48, ad 49, ad 50, ad 51, ad 52, ad 53, ad 54, ad 55, ad 56, ad 57, ad 58, ad 59, ad 60, ad 61, ad 62, ad 63, ad 64, ad 65, ad 66, ad 67, ad 68, ad 69, ad 70, ad 71, ad 72, ad 73, ad 74, ad 75, ad 76, ad 77, ad 78, ad 79, ad 80, ad 81, ad 82, ad 83]
theorem kk_h {ad : Nat → Nat} {ca : Nat → ClassId} (h : (kd_h ad).Nodup) : xk_ok (kw_h ad ca) (kd_h ad) := ⟨fun _ => rfl, h⟩
def kw_m_0 (ad : Nat → Nat) (u : xk_St) : List Value := [.int (u.1 0), .ref (ad 1), .int (u.1 1), .ref (ad 2), .int (u.1 2), .ref (ad 3), .int (u.1 3), .int (u.1 4), .int (u.1 5), .int (u.1 6), .int (u.1 7), .int (u.1 8), .int (u.1 9), .long (u.2.1 0), .long (u.2.1 1), .int (u.1 10), .int (u.1 11), .ref (ad 4), .ref (ad 5), .int (u.1 12), .ref (ad 6), .ref (ad 7), .ref (ad 8), .ref (ad 9), .ref (ad 10), .int (u.1 13), .ref (ad 11), .ref (ad 12), .ref (ad 13), .ref (ad 14), .ref (ad 15), .int (u.1 14), .int (u.1 15), .int (u.1 16), .int (u.1 17), .int (u.1 18), .ref (ad 16), .ref (ad 17), .int (u.1 19), .ref (ad 18), .ref (ad 19), .ref (ad 20), .ref (ad 21), .int (u.1 20), .ref (ad 22), .ref (ad 23), .ref (ad 24), .int (u.1 21), .int (u.1 22), .ref (ad 25), .ref (ad 26), .ref (ad 27), .ref (ad 28), .ref (ad 29), .int (u.1 23), .int (u.1 24), .ref (ad 30), .int (u.1 25), .ref (ad 31), .ref (ad 32), .ref (ad 33), .ref (ad 34), .int (u.1 26), .int (u.1 27), .ref (ad 35), .ref (ad 36), .ref (ad 37), .int (u.1 28), .ref (ad 38), .ref (ad 39), .ref (ad 40), .ref (ad 41), .int (u.1 29), .long (u.2.1 2), .int (u.1 30), .int (u.1 31), .ref (ad 42), .int (u.1 32), .ref (ad 43), .ref (ad 44), .ref (ad 45), .ref (ad 46), .ref (ad 47), .ref (ad 48), .int (u.1 33), .int (u.1 34), .ref (ad 49)]
def kw_m (ad : Nat → Nat) (ca : Nat → ClassId) (u : xk_St) : va_W := [(ad 0, .inr (11, kw_m_0 ad u)), (ad 1, .inl (ca 0, 8192, .inl (u.2.2.1 0))), (ad 2, .inl (ca 2, 16, .inr (.inl (u.2.2.2 0)))), (ad 3, .inl (ca 0, 8192, .inl (u.2.2.1 1))), (ad 4, .inl (ca 1, 12, .inl (u.2.2.1 2))), (ad 5, .inl (ca 0, 8192, .inl (u.2.2.1 3))), (ad 6, .inl (ca 1, 64, .inl (u.2.2.1 4))), (ad 7, .inl (ca 1, 64, .inl (u.2.2.1 5))), (ad 8, .inl (ca 1, 64, .inl (u.2.2.1 6))), (ad 9, .inl (ca 1, 2048, .inl (u.2.2.1 7))), (ad 10, .inl (ca 1, 64, .inl (u.2.2.1 8))), (ad 11, .inl (ca 1, 64, .inl (u.2.2.1 9))), (ad 12, .inl (ca 1, 64, .inl (u.2.2.1 10))), (ad 13, .inl (ca 1, 64, .inl (u.2.2.1 11))), (ad 14, .inl (ca 1, 64, .inl (u.2.2.1 12))), (ad 15, .inl (ca 1, 12800, .inl (u.2.2.1 13))), (ad 16, .inl (ca 1, 64, .inl (u.2.2.1 14))), (ad 17, .inl (ca 3, 64, .inl (u.2.2.1 15))), (ad 18, .inl (ca 1, 64, .inl (u.2.2.1 16))), (ad 19, .inl (ca 1, 64, .inl (u.2.2.1 17))), (ad 20, .inl (ca 1, 64, .inl (u.2.2.1 18))), (ad 21, .inl (ca 1, 64, .inl (u.2.2.1 19))), (ad 22, .inl (ca 1, 8192, .inl (u.2.2.1 20))), (ad 23, .inl (ca 1, 8192, .inl (u.2.2.1 21))), (ad 24, .inl (ca 1, 101, .inl (u.2.2.1 22))), (ad 25, .inl (ca 1, 101, .inl (u.2.2.1 23))), (ad 26, .inl (ca 1, 101, .inl (u.2.2.1 24))), (ad 27, .inl (ca 2, 101, .inr (.inl (u.2.2.2 1)))), (ad 28, .inl (ca 1, 101, .inl (u.2.2.1 25))), (ad 29, .inl (ca 3, 101, .inl (u.2.2.1 26))), (ad 30, .inl (ca 2, 64, .inr (.inl (u.2.2.2 2)))), (ad 31, .inl (ca 0, 65536, .inl (u.2.2.1 27))), (ad 32, .inl (ca 1, 64, .inl (u.2.2.1 28))), (ad 33, .inl (ca 2, 19000, .inr (.inl (u.2.2.2 3)))), (ad 34, .inl (ca 3, 19000, .inl (u.2.2.1 29))), (ad 35, .inl (ca 1, 61, .inl (u.2.2.1 30))), (ad 36, .inl (ca 1, 61, .inl (u.2.2.1 31))), (ad 37, .inl (ca 1, 61, .inl (u.2.2.1 32))), (ad 38, .inl (ca 1, 6200, .inl (u.2.2.1 33))), (ad 39, .inl (ca 1, 6200, .inl (u.2.2.1 34))), (ad 40, .inl (ca 1, 6200, .inl (u.2.2.1 35))), (ad 41, .inl (ca 3, 6200, .inl (u.2.2.1 36))), (ad 42, .inl (ca 2, 16, .inr (.inl (u.2.2.2 4)))), (ad 43, .inl (ca 2, 2001, .inr (.inl (u.2.2.2 5)))), (ad 44, .inl (ca 1, 2001, .inl (u.2.2.1 37))), (ad 45, .inl (ca 1, 2001, .inl (u.2.2.1 38))), (ad 46, .inl (ca 1, 2001, .inl (u.2.2.1 39))), (ad 47, .inl (ca 3, 2001, .inl (u.2.2.1 40))), (ad 48, .inl (ca 1, 2001, .inl (u.2.2.1 41))), (ad 49, .inl (ca 1, 2001, .inl (u.2.2.1 42)))]
abbrev kd_m (ad : Nat → Nat) : List Nat := [ad 0, ad 1, ad 2, ad 3, ad 4, ad 5, ad 6, ad 7, ad 8, ad 9, ad 10, ad 11, ad 12, ad 13, ad 14, ad 15, ad 16, ad 17, ad 18, ad 19, ad 20, ad 21, ad 22, ad 23, ad 24, ad 25, ad 26, ad 27, ad 28, ad 29, ad 30, ad 31, ad 32, ad 33, ad 34, ad 35, ad 36, ad 37, ad 38, ad 39, ad 40, ad 41, ad 42, ad 43, ad 44, ad 45, ad 46, ad 47, ad 48, ad 49]
theorem kk_m {ad : Nat → Nat} {ca : Nat → ClassId} (h : (kd_m ad).Nodup) : xk_ok (kw_m ad ca) (kd_m ad) := ⟨fun _ => rfl, h⟩
