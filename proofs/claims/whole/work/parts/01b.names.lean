/-! the classes of the claim, by kinds 0..10; their fields in the order of the slots -/
def KR0 : String := "PackLanes$Acts"
def KT0 : u_T := fun k => match k with
  | 0 => ("PackLanes$Acts", "places", "[I", true)
  | 1 => ("PackLanes$Acts", "olds", "[I", true)
  | _ => ("PackLanes$Acts", "count", "I", false)
def Kt0 : Nat → FieldType := fun k => match k with
  | 0 => .array .int
  | 1 => .array .int
  | _ => .int
theorem Kn0 : ∀ a, a < 3 → ∀ b, b < 3 → a ≠ b → (KT0 a).2.1 ≠ (KT0 b).2.1 := by decide +kernel
theorem Kp0 : ∀ k, k < 3 → parseFieldDescriptor (KT0 k).2.2.1 = some (Kt0 k) := by decide +kernel
theorem Ki0 : ∀ w ∈ u_ws KR0 KT0 3, w ∈ BIG := by decide +kernel
def KR1 : String := "PackLanes$Code"
def KT1 : u_T := fun k => match k with
  | 0 => ("PackLanes$Code", "kind", "[I", true)
  | 1 => ("PackLanes$Code", "row", "[I", true)
  | 2 => ("PackLanes$Code", "cell", "[I", true)
  | 3 => ("PackLanes$Code", "digit", "[I", true)
  | 4 => ("PackLanes$Code", "left", "[I", true)
  | 5 => ("PackLanes$Code", "right", "[I", true)
  | _ => ("PackLanes$Code", "count", "I", false)
def Kt1 : Nat → FieldType := fun k => match k with
  | 0 => .array .int
  | 1 => .array .int
  | 2 => .array .int
  | 3 => .array .int
  | 4 => .array .int
  | 5 => .array .int
  | _ => .int
theorem Kn1 : ∀ a, a < 7 → ∀ b, b < 7 → a ≠ b → (KT1 a).2.1 ≠ (KT1 b).2.1 := by decide +kernel
theorem Kp1 : ∀ k, k < 7 → parseFieldDescriptor (KT1 k).2.2.1 = some (Kt1 k) := by decide +kernel
theorem Ki1 : ∀ w ∈ u_ws KR1 KT1 7, w ∈ BIG := by decide +kernel
def KR2 : String := "PackLanes$Links"
def KT2 : u_T := fun k => match k with
  | 0 => ("PackLanes$Links", "code", "LPackLanes$Code;", true)
  | 1 => ("PackLanes$Links", "follows", "[I", true)
  | 2 => ("PackLanes$Links", "needs", "[I", true)
  | 3 => ("PackLanes$Links", "users", "[I", true)
  | _ => ("PackLanes$Links", "omitted", "I", false)
def Kt2 : Nat → FieldType := fun k => match k with
  | 0 => .object "PackLanes$Code"
  | 1 => .array .int
  | 2 => .array .int
  | 3 => .array .int
  | _ => .int
theorem Kn2 : ∀ a, a < 5 → ∀ b, b < 5 → a ≠ b → (KT2 a).2.1 ≠ (KT2 b).2.1 := by decide +kernel
theorem Kp2 : ∀ k, k < 5 → parseFieldDescriptor (KT2 k).2.2.1 = some (Kt2 k) := by decide +kernel
theorem Ki2 : ∀ w ∈ u_ws KR2 KT2 5, w ∈ BIG := by decide +kernel
def KR3 : String := "PackLanes$Machine"
def KT3 : u_T := fun k => match k with
  | 0 => ("PackLanes$Machine", "code", "LPackLanes$Code;", true)
  | 1 => ("PackLanes$Machine", "memory", "[I", true)
  | 2 => ("PackLanes$Machine", "value", "[I", true)
  | 3 => ("PackLanes$Machine", "stop", "I", false)
  | _ => ("PackLanes$Machine", "base", "I", false)
def Kt3 : Nat → FieldType := fun k => match k with
  | 0 => .object "PackLanes$Code"
  | 1 => .array .int
  | 2 => .array .int
  | 3 => .int
  | _ => .int
theorem Kn3 : ∀ a, a < 5 → ∀ b, b < 5 → a ≠ b → (KT3 a).2.1 ≠ (KT3 b).2.1 := by decide +kernel
theorem Kp3 : ∀ k, k < 5 → parseFieldDescriptor (KT3 k).2.2.1 = some (Kt3 k) := by decide +kernel
theorem Ki3 : ∀ w ∈ u_ws KR3 KT3 5, w ∈ BIG := by decide +kernel
def KR4 : String := "PackLanes$Packer"
def KT4 : u_T := fun k => match k with
  | 0 => ("PackLanes$Packer", "code", "LPackLanes$Code;", true)
  | 1 => ("PackLanes$Packer", "links", "LPackLanes$Links;", true)
  | 2 => ("PackLanes$Packer", "tree", "LPackLanes$Tree;", true)
  | 3 => ("PackLanes$Packer", "width", "I", false)
  | 4 => ("PackLanes$Packer", "partners", "[I", true)
  | 5 => ("PackLanes$Packer", "number", "[I", true)
  | 6 => ("PackLanes$Packer", "lane", "[I", true)
  | 7 => ("PackLanes$Packer", "node", "[I", true)
  | 8 => ("PackLanes$Packer", "order", "[I", true)
  | 9 => ("PackLanes$Packer", "ordered", "I", false)
  | 10 => ("PackLanes$Packer", "packs", "I", false)
  | 11 => ("PackLanes$Packer", "members", "I", false)
  | 12 => ("PackLanes$Packer", "trees", "I", false)
  | _ => ("PackLanes$Packer", "gains", "I", false)
def Kt4 : Nat → FieldType := fun k => match k with
  | 0 => .object "PackLanes$Code"
  | 1 => .object "PackLanes$Links"
  | 2 => .object "PackLanes$Tree"
  | 3 => .int
  | 4 => .array .int
  | 5 => .array .int
  | 6 => .array .int
  | 7 => .array .int
  | 8 => .array .int
  | 9 => .int
  | 10 => .int
  | 11 => .int
  | 12 => .int
  | _ => .int
theorem Kn4 : ∀ a, a < 14 → ∀ b, b < 14 → a ≠ b → (KT4 a).2.1 ≠ (KT4 b).2.1 := by decide +kernel
theorem Kp4 : ∀ k, k < 14 → parseFieldDescriptor (KT4 k).2.2.1 = some (Kt4 k) := by decide +kernel
theorem Ki4 : ∀ w ∈ u_ws KR4 KT4 14, w ∈ BIG := by decide +kernel
def KR5 : String := "PackLanes$Sights"
def KT5 : u_T := fun k => match k with
  | 0 => ("PackLanes$Sights", "addresses", "[I", true)
  | 1 => ("PackLanes$Sights", "values", "[I", true)
  | _ => ("PackLanes$Sights", "count", "I", false)
def Kt5 : Nat → FieldType := fun k => match k with
  | 0 => .array .int
  | 1 => .array .int
  | _ => .int
theorem Kn5 : ∀ a, a < 3 → ∀ b, b < 3 → a ≠ b → (KT5 a).2.1 ≠ (KT5 b).2.1 := by decide +kernel
theorem Kp5 : ∀ k, k < 3 → parseFieldDescriptor (KT5 k).2.2.1 = some (Kt5 k) := by decide +kernel
theorem Ki5 : ∀ w ∈ u_ws KR5 KT5 3, w ∈ BIG := by decide +kernel
def KR6 : String := "PackLanes$Slots"
def KT6 : u_T := fun k => match k with
  | 0 => ("PackLanes$Slots", "filled", "[Z", true)
  | _ => ("PackLanes$Slots", "states", "[[I", true)
def Kt6 : Nat → FieldType := fun k => match k with
  | 0 => .array .boolean
  | _ => .array (.array .int)
theorem Kn6 : ∀ a, a < 2 → ∀ b, b < 2 → a ≠ b → (KT6 a).2.1 ≠ (KT6 b).2.1 := by decide +kernel
theorem Kp6 : ∀ k, k < 2 → parseFieldDescriptor (KT6 k).2.2.1 = some (Kt6 k) := by decide +kernel
theorem Ki6 : ∀ w ∈ u_ws KR6 KT6 2, w ∈ BIG := by decide +kernel
def KR7 : String := "PackLanes$Source"
def KT7 : u_T := fun k => match k with
  | 0 => ("PackLanes$Source", "letters", "[I", true)
  | 1 => ("PackLanes$Source", "parts", "[I", true)
  | _ => ("PackLanes$Source", "length", "I", false)
def Kt7 : Nat → FieldType := fun k => match k with
  | 0 => .array .int
  | 1 => .array .int
  | _ => .int
theorem Kn7 : ∀ a, a < 3 → ∀ b, b < 3 → a ≠ b → (KT7 a).2.1 ≠ (KT7 b).2.1 := by decide +kernel
theorem Kp7 : ∀ k, k < 3 → parseFieldDescriptor (KT7 k).2.2.1 = some (Kt7 k) := by decide +kernel
theorem Ki7 : ∀ w ∈ u_ws KR7 KT7 3, w ∈ BIG := by decide +kernel
def KR8 : String := "PackLanes$Tree"
def KT8 : u_T := fun k => match k with
  | 0 => ("PackLanes$Tree", "code", "LPackLanes$Code;", true)
  | 1 => ("PackLanes$Tree", "links", "LPackLanes$Links;", true)
  | 2 => ("PackLanes$Tree", "packs", "[I", true)
  | 3 => ("PackLanes$Tree", "size", "I", false)
  | 4 => ("PackLanes$Tree", "members", "I", false)
  | 5 => ("PackLanes$Tree", "queue", "[I", true)
  | 6 => ("PackLanes$Tree", "queued", "I", false)
  | 7 => ("PackLanes$Tree", "width", "I", false)
  | 8 => ("PackLanes$Tree", "kept", "I", false)
  | 9 => ("PackLanes$Tree", "single", "I", false)
  | _ => ("PackLanes$Tree", "costs", "I", false)
def Kt8 : Nat → FieldType := fun k => match k with
  | 0 => .object "PackLanes$Code"
  | 1 => .object "PackLanes$Links"
  | 2 => .array .int
  | 3 => .int
  | 4 => .int
  | 5 => .array .int
  | 6 => .int
  | 7 => .int
  | 8 => .int
  | 9 => .int
  | _ => .int
theorem Kn8 : ∀ a, a < 11 → ∀ b, b < 11 → a ≠ b → (KT8 a).2.1 ≠ (KT8 b).2.1 := by decide +kernel
theorem Kp8 : ∀ k, k < 11 → parseFieldDescriptor (KT8 k).2.2.1 = some (Kt8 k) := by decide +kernel
theorem Ki8 : ∀ w ∈ u_ws KR8 KT8 11, w ∈ BIG := by decide +kernel
def KR9 : String := "PackLanes"
def KT9 : u_T := fun k => match k with
  | 0 => ("PackLanes", "source", "LPackLanes$Source;", true)
  | 1 => ("PackLanes", "code", "LPackLanes$Code;", true)
  | 2 => ("PackLanes", "draft", "LPackLanes$Code;", true)
  | 3 => ("PackLanes", "present", "[I", true)
  | 4 => ("PackLanes", "random", "[I", true)
  | 5 => ("PackLanes", "asked", "[I", true)
  | 6 => ("PackLanes", "commands", "[I", true)
  | 7 => ("PackLanes", "acts", "LPackLanes$Acts;", true)
  | 8 => ("PackLanes", "slots", "LPackLanes$Slots;", true)
  | 9 => ("PackLanes", "sights", "LPackLanes$Sights;", true)
  | 10 => ("PackLanes", "now", "LPackLanes$Packer;", true)
  | 11 => ("PackLanes", "trial", "LPackLanes$Packer;", true)
  | 12 => ("PackLanes", "machine", "LPackLanes$Machine;", true)
  | 13 => ("PackLanes", "sums", "[I", true)
  | _ => ("PackLanes", "randomNumber", "J", false)
def Kt9 : Nat → FieldType := fun k => match k with
  | 0 => .object "PackLanes$Source"
  | 1 => .object "PackLanes$Code"
  | 2 => .object "PackLanes$Code"
  | 3 => .array .int
  | 4 => .array .int
  | 5 => .array .int
  | 6 => .array .int
  | 7 => .object "PackLanes$Acts"
  | 8 => .object "PackLanes$Slots"
  | 9 => .object "PackLanes$Sights"
  | 10 => .object "PackLanes$Packer"
  | 11 => .object "PackLanes$Packer"
  | 12 => .object "PackLanes$Machine"
  | 13 => .array .int
  | _ => .long
theorem Kn9 : ∀ a, a < 15 → ∀ b, b < 15 → a ≠ b → (KT9 a).2.1 ≠ (KT9 b).2.1 := by decide +kernel
theorem Kp9 : ∀ k, k < 15 → parseFieldDescriptor (KT9 k).2.2.1 = some (Kt9 k) := by decide +kernel
theorem Ki9 : ∀ w ∈ u_ws KR9 KT9 15, w ∈ BIG := by decide +kernel
def KR10 : String := "PackLanesModel"
def KT10 : u_T := fun k => match k with
  | 0 => ("PackLanesModel", "text", "[I", true)
  | 1 => ("PackLanesModel", "length", "I", false)
  | 2 => ("PackLanesModel", "many", "I", false)
  | 3 => ("PackLanesModel", "kind", "[I", true)
  | 4 => ("PackLanesModel", "one", "[I", true)
  | 5 => ("PackLanesModel", "two", "[I", true)
  | 6 => ("PackLanesModel", "what", "[I", true)
  | 7 => ("PackLanesModel", "now", "[I", true)
  | 8 => ("PackLanesModel", "trial", "[I", true)
  | 9 => ("PackLanesModel", "diary", "[I", true)
  | 10 => ("PackLanesModel", "acts", "I", false)
  | 11 => ("PackLanesModel", "next", "I", false)
  | 12 => ("PackLanesModel", "kept", "[I", true)
  | 13 => ("PackLanesModel", "isKept", "[Z", true)
  | 14 => ("PackLanesModel", "seenAt", "[I", true)
  | 15 => ("PackLanesModel", "seenIs", "[I", true)
  | 16 => ("PackLanesModel", "seen", "I", false)
  | 17 => ("PackLanesModel", "seed", "J", false)
  | 18 => ("PackLanesModel", "out", "I", false)
  | 19 => ("PackLanesModel", "wide", "I", false)
  | 20 => ("PackLanesModel", "follows", "[I", true)
  | 21 => ("PackLanesModel", "depends", "[I", true)
  | 22 => ("PackLanesModel", "packOf", "[I", true)
  | 23 => ("PackLanesModel", "laneOf", "[I", true)
  | 24 => ("PackLanesModel", "packs", "I", false)
  | 25 => ("PackLanesModel", "trees", "I", false)
  | 26 => ("PackLanesModel", "gains", "I", false)
  | 27 => ("PackLanesModel", "treeOf", "[I", true)
  | 28 => ("PackLanesModel", "treeLane", "[I", true)
  | 29 => ("PackLanesModel", "treePacks", "I", false)
  | 30 => ("PackLanesModel", "bundles", "[I", true)
  | 31 => ("PackLanesModel", "waiting", "I", false)
  | 32 => ("PackLanesModel", "single", "I", false)
  | 33 => ("PackLanesModel", "cost", "I", false)
  | 34 => ("PackLanesModel", "place", "[I", true)
  | 35 => ("PackLanesModel", "cells", "[I", true)
  | 36 => ("PackLanesModel", "values", "[I", true)
  | 37 => ("PackLanesModel", "faults", "I", false)
  | 38 => ("PackLanesModel", "stores", "[I", true)
  | 39 => ("PackLanesModel", "worth", "[I", true)
  | 40 => ("PackLanesModel", "readBase", "I", false)
  | 41 => ("PackLanesModel", "readKnown", "I", false)
  | 42 => ("PackLanesModel", "readWidth", "I", false)
  | 43 => ("PackLanesModel", "readMany", "I", false)
  | 44 => ("PackLanesModel", "readKind", "[I", true)
  | 45 => ("PackLanesModel", "readOne", "[I", true)
  | 46 => ("PackLanesModel", "readTwo", "[I", true)
  | 47 => ("PackLanesModel", "readWhat", "[I", true)
  | 48 => ("PackLanesModel", "part", "I", false)
  | _ => ("PackLanesModel", "step", "I", false)
def Kt10 : Nat → FieldType := fun k => match k with
  | 0 => .array .int
  | 1 => .int
  | 2 => .int
  | 3 => .array .int
  | 4 => .array .int
  | 5 => .array .int
  | 6 => .array .int
  | 7 => .array .int
  | 8 => .array .int
  | 9 => .array .int
  | 10 => .int
  | 11 => .int
  | 12 => .array .int
  | 13 => .array .boolean
  | 14 => .array .int
  | 15 => .array .int
  | 16 => .int
  | 17 => .long
  | 18 => .int
  | 19 => .int
  | 20 => .array .int
  | 21 => .array .int
  | 22 => .array .int
  | 23 => .array .int
  | 24 => .int
  | 25 => .int
  | 26 => .int
  | 27 => .array .int
  | 28 => .array .int
  | 29 => .int
  | 30 => .array .int
  | 31 => .int
  | 32 => .int
  | 33 => .int
  | 34 => .array .int
  | 35 => .array .int
  | 36 => .array .int
  | 37 => .int
  | 38 => .array .int
  | 39 => .array .int
  | 40 => .int
  | 41 => .int
  | 42 => .int
  | 43 => .int
  | 44 => .array .int
  | 45 => .array .int
  | 46 => .array .int
  | 47 => .array .int
  | 48 => .int
  | _ => .int
theorem Kn10 : ∀ a, a < 50 → ∀ b, b < 50 → a ≠ b → (KT10 a).2.1 ≠ (KT10 b).2.1 := by decide +kernel
theorem Kp10 : ∀ k, k < 50 → parseFieldDescriptor (KT10 k).2.2.1 = some (Kt10 k) := by decide +kernel
theorem Ki10 : ∀ w ∈ u_ws KR10 KT10 50, w ∈ BIG := by decide +kernel
abbrev classes : List vw_C := [(KR0, KT0, 3), (KR1, KT1, 7), (KR2, KT2, 5), (KR3, KT3, 5), (KR4, KT4, 14), (KR5, KT5, 3), (KR6, KT6, 2), (KR7, KT7, 3), (KR8, KT8, 11), (KR9, KT9, 15), (KR10, KT10, 50)]
