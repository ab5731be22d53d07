/-! names, by program (wip/whole/gen.py) out of the listing: classes, fields, methods -/
def R_P : String := "NullGuard$Program"
def F_P : u_T := fun k => match k with
  | 0 => ("NullGuard$Program", "text", "[C", true)
  | 1 => ("NullGuard$Program", "size", "I", false)
  | 2 => ("NullGuard$Program", "valid", "Z", false)
  | 3 => ("NullGuard$Program", "statementCount", "I", false)
  | 4 => ("NullGuard$Program", "kind", "[I", true)
  | 5 => ("NullGuard$Program", "local", "[I", true)
  | 6 => ("NullGuard$Program", "part", "[I", true)
  | 7 => ("NullGuard$Program", "value", "[I", true)
  | 8 => ("NullGuard$Program", "source", "[I", true)
  | 9 => ("NullGuard$Program", "way", "[I", true)
  | 10 => ("NullGuard$Program", "otherWay", "[I", true)
  | 11 => ("NullGuard$Program", "exit", "[I", true)
  | 12 => ("NullGuard$Program", "heads", "[I", true)
  | 13 => ("NullGuard$Program", "opens", "[I", true)
  | 14 => ("NullGuard$Program", "firstCloses", "[I", true)
  | _ => ("NullGuard$Program", "depth", "I", false)
def t_P : Nat → FieldType := fun k => match k with
  | 0 => .array .char
  | 1 => .int
  | 2 => .boolean
  | 3 => .int
  | 4 => .array .int
  | 5 => .array .int
  | 6 => .array .int
  | 7 => .array .int
  | 8 => .array .int
  | 9 => .array .int
  | 10 => .array .int
  | 11 => .array .int
  | 12 => .array .int
  | 13 => .array .int
  | 14 => .array .int
  | _ => .int
theorem n_P : ∀ a, a < 16 → ∀ b, b < 16 → a ≠ b → (F_P a).2.1 ≠ (F_P b).2.1 := by decide +kernel
theorem t_P_ok : ∀ k, k < 16 → parseFieldDescriptor (F_P k).2.2.1 = some (t_P k) := by decide +kernel
def R_K : String := "NullGuard$Checker"
def F_K : u_T := fun k => match k with
  | 0 => ("NullGuard$Checker", "states", "[I", true)
  | 1 => ("NullGuard$Checker", "alarmsAt", "[I", true)
  | 2 => ("NullGuard$Checker", "changed", "Z", false)
  | 3 => ("NullGuard$Checker", "known", "I", false)
  | _ => ("NullGuard$Checker", "found", "I", false)
def t_K : Nat → FieldType := fun k => match k with
  | 0 => .array .int
  | 1 => .array .int
  | 2 => .boolean
  | 3 => .int
  | _ => .int
theorem n_K : ∀ a, a < 5 → ∀ b, b < 5 → a ≠ b → (F_K a).2.1 ≠ (F_K b).2.1 := by decide +kernel
theorem t_K_ok : ∀ k, k < 5 → parseFieldDescriptor (F_K k).2.2.1 = some (t_K k) := by decide +kernel
def R_H : String := "NullGuard$Machine"
def F_H : u_T := fun k => match k with
  | 0 => ("NullGuard$Machine", "holds", "[I", true)
  | 1 => ("NullGuard$Machine", "fieldG", "[I", true)
  | 2 => ("NullGuard$Machine", "fieldH", "[I", true)
  | 3 => ("NullGuard$Machine", "objectCount", "I", false)
  | 4 => ("NullGuard$Machine", "stepCount", "I", false)
  | 5 => ("NullGuard$Machine", "oracle", "J", false)
  | _ => ("NullGuard$Machine", "ending", "I", false)
def t_H : Nat → FieldType := fun k => match k with
  | 0 => .array .int
  | 1 => .array .int
  | 2 => .array .int
  | 3 => .int
  | 4 => .int
  | 5 => .long
  | _ => .int
theorem n_H : ∀ a, a < 7 → ∀ b, b < 7 → a ≠ b → (F_H a).2.1 ≠ (F_H b).2.1 := by decide +kernel
theorem t_H_ok : ∀ k, k < 7 → parseFieldDescriptor (F_H k).2.2.1 = some (t_H k) := by decide +kernel
def R_N : String := "NullGuard"
def F_N : u_T := fun k => match k with
  | 0 => ("NullGuard", "program", "LNullGuard$Program;", true)
  | 1 => ("NullGuard", "checker", "LNullGuard$Checker;", true)
  | 2 => ("NullGuard", "machine", "LNullGuard$Machine;", true)
  | 3 => ("NullGuard", "solidLocals", "I", false)
  | _ => ("NullGuard", "checked", "Z", false)
def t_N : Nat → FieldType := fun k => match k with
  | 0 => .object "NullGuard$Program"
  | 1 => .object "NullGuard$Checker"
  | 2 => .object "NullGuard$Machine"
  | 3 => .int
  | _ => .boolean
theorem n_N : ∀ a, a < 5 → ∀ b, b < 5 → a ≠ b → (F_N a).2.1 ≠ (F_N b).2.1 := by decide +kernel
theorem t_N_ok : ∀ k, k < 5 → parseFieldDescriptor (F_N k).2.2.1 = some (t_N k) := by decide +kernel
def R_M : String := "NullGuardModel"
def F_M : u_T := fun k => match k with
  | 0 => ("NullGuardModel", "text", "[I", true)
  | 1 => ("NullGuardModel", "length", "I", false)
  | 2 => ("NullGuardModel", "solid", "[Z", true)
  | 3 => ("NullGuardModel", "role", "[I", true)
  | 4 => ("NullGuardModel", "owner", "[I", true)
  | 5 => ("NullGuardModel", "body", "[I", true)
  | 6 => ("NullGuardModel", "other", "[I", true)
  | 7 => ("NullGuardModel", "behind", "[I", true)
  | 8 => ("NullGuardModel", "count", "I", false)
  | 9 => ("NullGuardModel", "depth", "I", false)
  | 10 => ("NullGuardModel", "blocks", "[I", true)
  | 11 => ("NullGuardModel", "reached", "[Z", true)
  | 12 => ("NullGuardModel", "sures", "[I", true)
  | 13 => ("NullGuardModel", "links", "[I", true)
  | 14 => ("NullGuardModel", "alarmed", "[I", true)
  | 15 => ("NullGuardModel", "s", "I", false)
  | 16 => ("NullGuardModel", "l", "I", false)
  | 17 => ("NullGuardModel", "alarm", "I", false)
  | 18 => ("NullGuardModel", "changed", "Z", false)
  | 19 => ("NullGuardModel", "ran", "Z", false)
  | 20 => ("NullGuardModel", "local", "[I", true)
  | 21 => ("NullGuardModel", "made", "I", false)
  | 22 => ("NullGuardModel", "g", "[I", true)
  | 23 => ("NullGuardModel", "h", "[I", true)
  | 24 => ("NullGuardModel", "visits", "I", false)
  | 25 => ("NullGuardModel", "bits", "J", false)
  | _ => ("NullGuardModel", "result", "I", false)
def t_M : Nat → FieldType := fun k => match k with
  | 0 => .array .int
  | 1 => .int
  | 2 => .array .boolean
  | 3 => .array .int
  | 4 => .array .int
  | 5 => .array .int
  | 6 => .array .int
  | 7 => .array .int
  | 8 => .int
  | 9 => .int
  | 10 => .array .int
  | 11 => .array .boolean
  | 12 => .array .int
  | 13 => .array .int
  | 14 => .array .int
  | 15 => .int
  | 16 => .int
  | 17 => .int
  | 18 => .boolean
  | 19 => .boolean
  | 20 => .array .int
  | 21 => .int
  | 22 => .array .int
  | 23 => .array .int
  | 24 => .int
  | 25 => .long
  | _ => .int
theorem n_M : ∀ a, a < 27 → ∀ b, b < 27 → a ≠ b → (F_M a).2.1 ≠ (F_M b).2.1 := by decide +kernel
theorem t_M_ok : ∀ k, k < 27 → parseFieldDescriptor (F_M k).2.2.1 = some (t_M k) := by decide +kernel
abbrev vwCl : List vw_C := [(R_P, F_P, 16), (R_K, F_K, 5), (R_H, F_H, 7), (R_N, F_N, 5), (R_M, F_M, 27)]
