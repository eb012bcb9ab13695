/-! facts of fields and constants (by gen/mk10.py) -/
def rz_T0 : u_T := fun k => match k with
  | 0 => ("RootChanges$Big", "digits", "[J", true)
  | 1 => ("RootChanges$Big", "size", "I", false)
  | _ => ("RootChanges$Big", "sign", "I", false)
def rz_y0 : Nat → FieldType := fun k => match k with
  | 0 => .array .long
  | 1 => .int
  | _ => .int
theorem rz_nm0 : ∀ a, a < 3 → ∀ b, b < 3 → a ≠ b → (rz_T0 a).2.1 ≠ (rz_T0 b).2.1 := by decide +kernel
theorem rz_yo0 : ∀ k, k < 3 → parseFieldDescriptor (rz_T0 k).2.2.1 = some (rz_y0 k) := by decide +kernel
def rz_T1 : u_T := fun k => match k with
  | 0 => ("RootChanges$Parts", "numbers", "[[J", true)
  | 1 => ("RootChanges$Parts", "degrees", "[I", true)
  | 2 => ("RootChanges$Parts", "often", "[I", true)
  | 3 => ("RootChanges$Parts", "grown", "[J", true)
  | 4 => ("RootChanges$Parts", "found", "I", false)
  | _ => ("RootChanges$Parts", "content", "J", false)
def rz_y1 : Nat → FieldType := fun k => match k with
  | 0 => .array (.array .long)
  | 1 => .array .int
  | 2 => .array .int
  | 3 => .array .long
  | 4 => .int
  | _ => .long
theorem rz_nm1 : ∀ a, a < 6 → ∀ b, b < 6 → a ≠ b → (rz_T1 a).2.1 ≠ (rz_T1 b).2.1 := by decide +kernel
theorem rz_yo1 : ∀ k, k < 6 → parseFieldDescriptor (rz_T1 k).2.2.1 = some (rz_y1 k) := by decide +kernel
def rz_T2 : u_T := fun k => match k with
  | 0 => ("RootChanges$PrimeView", "whole", "[J", true)
  | 1 => ("RootChanges$PrimeView", "step", "[J", true)
  | 2 => ("RootChanges$PrimeView", "firstStep", "[J", true)
  | 3 => ("RootChanges$PrimeView", "before", "[J", true)
  | 4 => ("RootChanges$PrimeView", "left", "[J", true)
  | 5 => ("RootChanges$PrimeView", "right", "[J", true)
  | 6 => ("RootChanges$PrimeView", "product", "[J", true)
  | _ => ("RootChanges$PrimeView", "p", "J", false)
def rz_y2 : Nat → FieldType := fun k => match k with
  | 0 => .array .long
  | 1 => .array .long
  | 2 => .array .long
  | 3 => .array .long
  | 4 => .array .long
  | 5 => .array .long
  | 6 => .array .long
  | _ => .long
theorem rz_nm2 : ∀ a, a < 8 → ∀ b, b < 8 → a ≠ b → (rz_T2 a).2.1 ≠ (rz_T2 b).2.1 := by decide +kernel
theorem rz_yo2 : ∀ k, k < 8 → parseFieldDescriptor (rz_T2 k).2.2.1 = some (rz_y2 k) := by decide +kernel
def rz_T3 : u_T := fun k => match k with
  | 0 => ("RootChanges$RootAdder", "ones", "[LRootChanges$Big;", true)
  | 1 => ("RootChanges$RootAdder", "others", "[LRootChanges$Big;", true)
  | 2 => ("RootChanges$RootAdder", "sums", "[LRootChanges$Big;", true)
  | 3 => ("RootChanges$RootAdder", "total", "LRootChanges$Big;", true)
  | _ => ("RootChanges$RootAdder", "term", "LRootChanges$Big;", true)
def rz_y3 : Nat → FieldType := fun k => match k with
  | 0 => .array (.object "RootChanges$Big")
  | 1 => .array (.object "RootChanges$Big")
  | 2 => .array (.object "RootChanges$Big")
  | 3 => .object "RootChanges$Big"
  | _ => .object "RootChanges$Big"
theorem rz_nm3 : ∀ a, a < 5 → ∀ b, b < 5 → a ≠ b → (rz_T3 a).2.1 ≠ (rz_T3 b).2.1 := by decide +kernel
theorem rz_yo3 : ∀ k, k < 5 → parseFieldDescriptor (rz_T3 k).2.2.1 = some (rz_y3 k) := by decide +kernel
def rz_T4 : u_T := fun k => match k with
  | 0 => ("RootChanges$SignChain", "numbers", "[LRootChanges$Big;", true)
  | 1 => ("RootChanges$SignChain", "degrees", "[I", true)
  | 2 => ("RootChanges$SignChain", "value", "LRootChanges$Big;", true)
  | 3 => ("RootChanges$SignChain", "one", "LRootChanges$Big;", true)
  | 4 => ("RootChanges$SignChain", "other", "LRootChanges$Big;", true)
  | _ => ("RootChanges$SignChain", "length", "I", false)
def rz_y4 : Nat → FieldType := fun k => match k with
  | 0 => .array (.object "RootChanges$Big")
  | 1 => .array .int
  | 2 => .object "RootChanges$Big"
  | 3 => .object "RootChanges$Big"
  | 4 => .object "RootChanges$Big"
  | _ => .int
theorem rz_nm4 : ∀ a, a < 6 → ∀ b, b < 6 → a ≠ b → (rz_T4 a).2.1 ≠ (rz_T4 b).2.1 := by decide +kernel
theorem rz_yo4 : ∀ k, k < 6 → parseFieldDescriptor (rz_T4 k).2.2.1 = some (rz_y4 k) := by decide +kernel
def rz_T5 : u_T := fun k => match k with
  | 0 => ("RootChanges$Splitter", "primeView", "LRootChanges$PrimeView;", true)
  | 1 => ("RootChanges$Splitter", "rest", "[J", true)
  | 2 => ("RootChanges$Splitter", "work", "[J", true)
  | 3 => ("RootChanges$Splitter", "quotient", "[J", true)
  | 4 => ("RootChanges$Splitter", "part", "[J", true)
  | 5 => ("RootChanges$Splitter", "lasts", "[J", true)
  | 6 => ("RootChanges$Splitter", "firsts", "[J", true)
  | 7 => ("RootChanges$Splitter", "atOnes", "[J", true)
  | 8 => ("RootChanges$Splitter", "atMinusOnes", "[J", true)
  | 9 => ("RootChanges$Splitter", "parts", "LRootChanges$Parts;", false)
  | _ => ("RootChanges$Splitter", "restDegree", "I", false)
def rz_y5 : Nat → FieldType := fun k => match k with
  | 0 => .object "RootChanges$PrimeView"
  | 1 => .array .long
  | 2 => .array .long
  | 3 => .array .long
  | 4 => .array .long
  | 5 => .array .long
  | 6 => .array .long
  | 7 => .array .long
  | 8 => .array .long
  | 9 => .object "RootChanges$Parts"
  | _ => .int
theorem rz_nm5 : ∀ a, a < 11 → ∀ b, b < 11 → a ≠ b → (rz_T5 a).2.1 ≠ (rz_T5 b).2.1 := by decide +kernel
theorem rz_yo5 : ∀ k, k < 11 → parseFieldDescriptor (rz_T5 k).2.2.1 = some (rz_y5 k) := by decide +kernel
def rz_T6 : u_T := fun k => match k with
  | 0 => ("RootChanges", "rows", "[[J", true)
  | 1 => ("RootChanges", "made", "[J", true)
  | 2 => ("RootChanges", "rootPowers", "[J", true)
  | 3 => ("RootChanges", "latest", "LRootChanges$Parts;", true)
  | 4 => ("RootChanges", "ownParts", "LRootChanges$Parts;", true)
  | 5 => ("RootChanges", "otherParts", "LRootChanges$Parts;", true)
  | 6 => ("RootChanges", "primeView", "LRootChanges$PrimeView;", true)
  | 7 => ("RootChanges", "splitter", "LRootChanges$Splitter;", true)
  | 8 => ("RootChanges", "chain", "LRootChanges$SignChain;", true)
  | 9 => ("RootChanges", "rootAdder", "LRootChanges$RootAdder;", true)
  | _ => ("RootChanges", "refusal", "I", false)
def rz_y6 : Nat → FieldType := fun k => match k with
  | 0 => .array (.array .long)
  | 1 => .array .long
  | 2 => .array .long
  | 3 => .object "RootChanges$Parts"
  | 4 => .object "RootChanges$Parts"
  | 5 => .object "RootChanges$Parts"
  | 6 => .object "RootChanges$PrimeView"
  | 7 => .object "RootChanges$Splitter"
  | 8 => .object "RootChanges$SignChain"
  | 9 => .object "RootChanges$RootAdder"
  | _ => .int
theorem rz_nm6 : ∀ a, a < 11 → ∀ b, b < 11 → a ≠ b → (rz_T6 a).2.1 ≠ (rz_T6 b).2.1 := by decide +kernel
theorem rz_yo6 : ∀ k, k < 11 → parseFieldDescriptor (rz_T6 k).2.2.1 = some (rz_y6 k) := by decide +kernel
def rz_T7 : u_T := fun k => match k with
  | 0 => ("RootChangesModel", "thrown", "I", false)
  | 1 => ("RootChangesModel", "status", "I", false)
  | 2 => ("RootChangesModel", "c", "[J", true)
  | 3 => ("RootChangesModel", "made", "[J", true)
  | 4 => ("RootChangesModel", "left", "[J", true)
  | 5 => ("RootChangesModel", "leftDegree", "I", false)
  | 6 => ("RootChangesModel", "f", "[J", true)
  | 7 => ("RootChangesModel", "fDegree", "[I", true)
  | 8 => ("RootChangesModel", "fOften", "[I", true)
  | 9 => ("RootChangesModel", "fMany", "I", false)
  | 10 => ("RootChangesModel", "content", "J", false)
  | 11 => ("RootChangesModel", "trial", "[J", true)
  | 12 => ("RootChangesModel", "rest", "[J", true)
  | 13 => ("RootChangesModel", "quotient", "[J", true)
  | 14 => ("RootChangesModel", "kept", "[J", true)
  | 15 => ("RootChangesModel", "keptDegree", "[I", true)
  | 16 => ("RootChangesModel", "keptOften", "[I", true)
  | 17 => ("RootChangesModel", "keptMany", "I", false)
  | 18 => ("RootChangesModel", "keptContent", "J", false)
  | 19 => ("RootChangesModel", "g", "[J", true)
  | 20 => ("RootChangesModel", "gDegree", "[I", true)
  | 21 => ("RootChangesModel", "gOften", "[I", true)
  | 22 => ("RootChangesModel", "gMany", "I", false)
  | 23 => ("RootChangesModel", "sum", "[J", true)
  | 24 => ("RootChangesModel", "otherSum", "[J", true)
  | 25 => ("RootChangesModel", "p", "J", false)
  | 26 => ("RootChangesModel", "m", "[J", true)
  | 27 => ("RootChangesModel", "mDegree", "I", false)
  | 28 => ("RootChangesModel", "x", "[J", true)
  | 29 => ("RootChangesModel", "y", "[J", true)
  | 30 => ("RootChangesModel", "u", "[J", true)
  | 31 => ("RootChangesModel", "v", "[J", true)
  | 32 => ("RootChangesModel", "base", "[J", true)
  | 33 => ("RootChangesModel", "one", "[J", true)
  | 34 => ("RootChangesModel", "roots", "I", false)
  | 35 => ("RootChangesModel", "big", "[I", true)
  | 36 => ("RootChangesModel", "sign", "[I", true)
  | 37 => ("RootChangesModel", "chain", "I", false)
  | _ => ("RootChangesModel", "chainDegree", "[I", true)
def rz_y7 : Nat → FieldType := fun k => match k with
  | 0 => .int
  | 1 => .int
  | 2 => .array .long
  | 3 => .array .long
  | 4 => .array .long
  | 5 => .int
  | 6 => .array .long
  | 7 => .array .int
  | 8 => .array .int
  | 9 => .int
  | 10 => .long
  | 11 => .array .long
  | 12 => .array .long
  | 13 => .array .long
  | 14 => .array .long
  | 15 => .array .int
  | 16 => .array .int
  | 17 => .int
  | 18 => .long
  | 19 => .array .long
  | 20 => .array .int
  | 21 => .array .int
  | 22 => .int
  | 23 => .array .long
  | 24 => .array .long
  | 25 => .long
  | 26 => .array .long
  | 27 => .int
  | 28 => .array .long
  | 29 => .array .long
  | 30 => .array .long
  | 31 => .array .long
  | 32 => .array .long
  | 33 => .array .long
  | 34 => .int
  | 35 => .array .int
  | 36 => .array .int
  | 37 => .int
  | _ => .array .int
theorem rz_nm7 : ∀ a, a < 39 → ∀ b, b < 39 → a ≠ b → (rz_T7 a).2.1 ≠ (rz_T7 b).2.1 := by decide +kernel
theorem rz_yo7 : ∀ k, k < 39 → parseFieldDescriptor (rz_T7 k).2.2.1 = some (rz_y7 k) := by decide +kernel
def rz_cls : List vw_C := [(rz_cn 0, rz_T0, 3), (rz_cn 1, rz_T1, 6), (rz_cn 2, rz_T2, 8), (rz_cn 3, rz_T3, 5), (rz_cn 4, rz_T4, 6), (rz_cn 5, rz_T5, 11), (rz_cn 6, rz_T6, 11), (rz_cn 7, rz_T7, 39)]
