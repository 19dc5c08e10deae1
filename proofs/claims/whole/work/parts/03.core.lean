/-! THE ABSTRACT HEAP: objects by numbers; a real address for each number; what a method's walk says of it (gk_G), and its contract (gk_M) -/
/-- a thing: its tag (0: not there or not told; 1..7 arrays; 9 the statics; 10 + c an object of class c), its length, its contents -/
abbrev gk_O : Type := Nat × Nat × (Nat → Value)
/-- the next number, the slots used, the things -/
abbrev gk_H : Type := Nat × Nat × (Nat → gk_O)
/-- how a method ends: with a value, none, or thrown -/
abbrev gk_U : Type := Sum (Option Value) String
def gk_v (ad : Nat → Nat) (v : Value) : Value := match v with
  | .ref i => .ref (ad i)
  | w => w
def gk_ok (n : Nat) (v : Value) : Prop := match v with
  | .ref i => i < n
  | _ => True
/-- how many numbers are kept for what was there before the law -/
def gk_c : Nat := 16
def gk_el : Nat → Option FieldType
  | 1 => some .int
  | 2 => some .long
  | 3 => some .byte
  | 4 => some .boolean
  | 5 => some .char
  | 6 => some .double
  | 7 => some (.object "ValueAlgebra$Value")
  | _ => none
def gk_T0 : u_T := fun k => match k with
  | 0 => ("java/lang/String", "value", "[B", true)
  | _ => ("java/lang/String", "coder", "B", true)
def gk_t0 : Nat → FieldType := fun k => match k with
  | 0 => .array .byte
  | _ => .byte
def gk_T1 : u_T := fun k => match k with
  | 0 => ("java/lang/AbstractStringBuilder", "value", "[B", false)
  | 1 => ("java/lang/AbstractStringBuilder", "coder", "B", false)
  | 2 => ("java/lang/AbstractStringBuilder", "maybeLatin1", "Z", false)
  | _ => ("java/lang/AbstractStringBuilder", "count", "I", false)
def gk_t1 : Nat → FieldType := fun k => match k with
  | 0 => .array .byte
  | 1 => .byte
  | 2 => .boolean
  | _ => .int
def gk_T2 : u_T := fun k => match k with
  | 0 => ("ValueAlgebra$Value", "kind", "I", true)
  | 1 => ("ValueAlgebra$Value", "code", "I", true)
  | 2 => ("ValueAlgebra$Value", "amount", "D", true)
  | 3 => ("ValueAlgebra$Value", "letters", "Ljava/lang/String;", true)
  | 4 => ("ValueAlgebra$Value", "rows", "I", true)
  | 5 => ("ValueAlgebra$Value", "columns", "I", true)
  | _ => ("ValueAlgebra$Value", "cells", "[LValueAlgebra$Value;", true)
def gk_t2 : Nat → FieldType := fun k => match k with
  | 0 => .int
  | 1 => .int
  | 2 => .double
  | 3 => .object "java/lang/String"
  | 4 => .int
  | 5 => .int
  | _ => .array (.object "ValueAlgebra$Value")
def gk_T3 : u_T := fun k => match k with
  | 0 => ("ValueAlgebra$Likeness", "marks", "[I", true)
  | 1 => ("ValueAlgebra$Likeness", "howMany", "I", false)
  | 2 => ("ValueAlgebra$Likeness", "looked", "[C", true)
  | _ => ("ValueAlgebra$Likeness", "open", "[Z", true)
def gk_t3 : Nat → FieldType := fun k => match k with
  | 0 => .array .int
  | 1 => .int
  | 2 => .array .char
  | _ => .array .boolean
def gk_T4 : u_T := fun k => match k with
  | 0 => ("ValueAlgebra$Arguments", "given", "[LValueAlgebra$Value;", true)
  | 1 => ("ValueAlgebra$Arguments", "singles", "[LValueAlgebra$Value;", true)
  | 2 => ("ValueAlgebra$Arguments", "howMany", "I", false)
  | 3 => ("ValueAlgebra$Arguments", "fault", "I", false)
  | 4 => ("ValueAlgebra$Arguments", "row", "[D", true)
  | 5 => ("ValueAlgebra$Arguments", "inRow", "I", false)
  | 6 => ("ValueAlgebra$Arguments", "nothing", "LValueAlgebra$Value;", true)
  | 7 => ("ValueAlgebra$Arguments", "noSingle", "LValueAlgebra$Value;", true)
  | _ => ("ValueAlgebra$Arguments", "likeness", "LValueAlgebra$Likeness;", true)
def gk_t4 : Nat → FieldType := fun k => match k with
  | 0 => .array (.object "ValueAlgebra$Value")
  | 1 => .array (.object "ValueAlgebra$Value")
  | 2 => .int
  | 3 => .int
  | 4 => .array .double
  | 5 => .int
  | 6 => .object "ValueAlgebra$Value"
  | 7 => .object "ValueAlgebra$Value"
  | _ => .object "ValueAlgebra$Likeness"
def gk_T5 : u_T := fun k => match k with
  | 0 => ("ValueAlgebra", "stack", "[LValueAlgebra$Value;", true)
  | 1 => ("ValueAlgebra", "count", "I", false)
  | 2 => ("ValueAlgebra", "underWay", "Ljava/lang/StringBuilder;", true)
  | _ => ("ValueAlgebra", "arguments", "LValueAlgebra$Arguments;", true)
def gk_t5 : Nat → FieldType := fun k => match k with
  | 0 => .array (.object "ValueAlgebra$Value")
  | 1 => .int
  | 2 => .object "java/lang/StringBuilder"
  | _ => .object "ValueAlgebra$Arguments"
def gk_T6 : u_T := fun k => match k with
  | 0 => ("ValueAlgebra$Criterion", "relation", "I", true)
  | 1 => ("ValueAlgebra$Criterion", "wanted", "LValueAlgebra$Value;", true)
  | _ => ("ValueAlgebra$Criterion", "likeness", "LValueAlgebra$Likeness;", true)
def gk_t6 : Nat → FieldType := fun k => match k with
  | 0 => .int
  | 1 => .object "ValueAlgebra$Value"
  | _ => .object "ValueAlgebra$Likeness"
def gk_T7 : u_T := fun k => match k with
  | 0 => ("ValueAlgebraModel", "code", "I", false)
  | 1 => ("ValueAlgebraModel", "typedLong", "I", false)
  | 2 => ("ValueAlgebraModel", "typed", "[B", true)
  | 3 => ("ValueAlgebraModel", "size", "I", false)
  | 4 => ("ValueAlgebraModel", "kinds", "[I", true)
  | 5 => ("ValueAlgebraModel", "rows", "[I", true)
  | 6 => ("ValueAlgebraModel", "columns", "[I", true)
  | 7 => ("ValueAlgebraModel", "kind", "[I", true)
  | 8 => ("ValueAlgebraModel", "number", "[D", true)
  | 9 => ("ValueAlgebraModel", "longs", "[I", true)
  | 10 => ("ValueAlgebraModel", "letters", "[B", true)
  | 11 => ("ValueAlgebraModel", "bad", "I", false)
  | 12 => ("ValueAlgebraModel", "many", "I", false)
  | 13 => ("ValueAlgebraModel", "row", "[D", true)
  | 14 => ("ValueAlgebraModel", "wordLong", "[I", true)
  | 15 => ("ValueAlgebraModel", "words", "[B", true)
  | 16 => ("ValueAlgebraModel", "read", "D", false)
  | 17 => ("ValueAlgebraModel", "relation", "I", false)
  | 18 => ("ValueAlgebraModel", "against", "I", false)
  | 19 => ("ValueAlgebraModel", "againstNumber", "D", false)
  | 20 => ("ValueAlgebraModel", "againstAt", "I", false)
  | 21 => ("ValueAlgebraModel", "againstLong", "I", false)
  | 22 => ("ValueAlgebraModel", "yearOf", "I", false)
  | 23 => ("ValueAlgebraModel", "monthOf", "I", false)
  | _ => ("ValueAlgebraModel", "dayOf", "I", false)
def gk_t7 : Nat → FieldType := fun k => match k with
  | 2 => .array .byte
  | 4 => .array .int
  | 5 => .array .int
  | 6 => .array .int
  | 7 => .array .int
  | 8 => .array .double
  | 9 => .array .int
  | 10 => .array .byte
  | 13 => .array .double
  | 14 => .array .int
  | 15 => .array .byte
  | 16 => .double
  | 19 => .double
  | _ => .int
/-- the classes, their fields, how many; the types of the fields; how many slots a new one takes -/
def gk_cl : List vw_C := [("java/lang/String", gk_T0, 2), ("java/lang/StringBuilder", gk_T1, 4), ("ValueAlgebra$Value", gk_T2, 7), ("ValueAlgebra$Likeness", gk_T3, 4), ("ValueAlgebra$Arguments", gk_T4, 9), ("ValueAlgebra", gk_T5, 4), ("ValueAlgebra$Criterion", gk_T6, 3), ("ValueAlgebraModel", gk_T7, 25)]
def gk_ty : Nat → Nat → FieldType
  | 0 => gk_t0
  | 1 => gk_t1
  | 2 => gk_t2
  | 3 => gk_t3
  | 4 => gk_t4
  | 5 => gk_t5
  | 6 => gk_t6
  | _ => gk_t7
/-- the good words of the tables -/
def gk_xp : List MethodName := [⟨"java/lang/AbstractStringBuilder", "ensureCapacityInternal", "(I)V"⟩, ⟨"java/lang/AbstractStringBuilder", "newCapacity", "(I)I"⟩, ⟨"java/lang/AbstractStringBuilder", "putStringAt", "(ILjava/lang/String;)V"⟩, ⟨"java/lang/AbstractStringBuilder", "inflateIfNeededFor", "(Ljava/lang/String;)V"⟩]
def gk_tb : List Cond := (gk_xp.map fun y => Cond.selects "java/lang/StringBuilder" y y) ++ lw_tbl
def gk_T : List Cond := gk_tb.filter goodWord
theorem gk_T_mem {w : Cond} (h : w ∈ gk_tb) (g : goodWord w = true) : w ∈ gk_T := List.mem_filter.mpr ⟨h, g⟩
theorem gk_T_good : ∀ w ∈ gk_T, goodWord w = true := fun _ h => (List.mem_filter.mp h).2
theorem gk_lays0 : ∀ w ∈ u_ws "java/lang/String" gk_T0 2, w ∈ gk_T := by decide +kernel
theorem gk_lays1 : ∀ w ∈ u_ws "java/lang/StringBuilder" gk_T1 4, w ∈ gk_T := by decide +kernel
theorem gk_lays2 : ∀ w ∈ u_ws "ValueAlgebra$Value" gk_T2 7, w ∈ gk_T := by decide +kernel
theorem gk_lays3 : ∀ w ∈ u_ws "ValueAlgebra$Likeness" gk_T3 4, w ∈ gk_T := by decide +kernel
theorem gk_lays4 : ∀ w ∈ u_ws "ValueAlgebra$Arguments" gk_T4 9, w ∈ gk_T := by decide +kernel
theorem gk_lays5 : ∀ w ∈ u_ws "ValueAlgebra" gk_T5 4, w ∈ gk_T := by decide +kernel
theorem gk_lays6 : ∀ w ∈ u_ws "ValueAlgebra$Criterion" gk_T6 3, w ∈ gk_T := by decide +kernel
theorem gk_lays7 : ∀ w ∈ u_ws "ValueAlgebraModel" gk_T7 25, w ∈ gk_T := by decide +kernel
theorem gk_laysAll {ci : Nat} {r : vw_C} (h : gk_cl[ci]? = some r) : ∀ w ∈ u_ws r.1 r.2.1 r.2.2, w ∈ gk_T := by
  match ci, h with
  | 0, h => cases h; exact gk_lays0
  | 1, h => cases h; exact gk_lays1
  | 2, h => cases h; exact gk_lays2
  | 3, h => cases h; exact gk_lays3
  | 4, h => cases h; exact gk_lays4
  | 5, h => cases h; exact gk_lays5
  | 6, h => cases h; exact gk_lays6
  | 7, h => cases h; exact gk_lays7
  | n + 8, h => simp [gk_cl] at h
theorem gk_tys {ci : Nat} {r : vw_C} (h : gk_cl[ci]? = some r) : ∀ k, k < r.2.2 → parseFieldDescriptor (r.2.1 k).2.2.1 = some (gk_ty ci k) := by
  match ci, h with
  | 0, h => cases h; decide +kernel
  | 1, h => cases h; decide +kernel
  | 2, h => cases h; decide +kernel
  | 3, h => cases h; decide +kernel
  | 4, h => cases h; decide +kernel
  | 5, h => cases h; decide +kernel
  | 6, h => cases h; decide +kernel
  | 7, h => cases h; decide +kernel
  | n + 8, h => simp [gk_cl] at h
theorem gk_nms {ci : Nat} {r : vw_C} (h : gk_cl[ci]? = some r) : ∀ a, a < r.2.2 → ∀ b, b < r.2.2 → a ≠ b → (r.2.1 a).2.1 ≠ (r.2.1 b).2.1 := by
  match ci, h with
  | 0, h => cases h; decide +kernel
  | 1, h => cases h; decide +kernel
  | 2, h => cases h; decide +kernel
  | 3, h => cases h; decide +kernel
  | 4, h => cases h; decide +kernel
  | 5, h => cases h; decide +kernel
  | 6, h => cases h; decide +kernel
  | 7, h => cases h; decide +kernel
  | n + 8, h => simp [gk_cl] at h
