def RX0 : String := "IfYouWill$Bargain"
def TX0 : u_T := fun k => match k with
  | _ => ("IfYouWill$Bargain", "village", "LIfYouWill$Village;", true)
def tyX0 : Nat → FieldType := fun k => match k with
  | _ => .object "IfYouWill$Village"
abbrev wsX00 : List Cond := u_ws RX0 TX0 1
theorem nmX0 : ∀ a, a < 1 → ∀ b, b < 1 → a ≠ b → (TX0 a).2.1 ≠ (TX0 b).2.1 := by decide +kernel
theorem tyX0_ok : ∀ k, k < 1 → parseFieldDescriptor (TX0 k).2.2.1 = some (tyX0 k) := by decide +kernel
def RX1 : String := "IfYouWill$Climbing"
def TX1 : u_T := fun k => match k with
  | 0 => ("IfYouWill$Climbing", "village", "LIfYouWill$Village;", true)
  | 1 => ("IfYouWill$Climbing", "rest", "I", false)
  | 2 => ("IfYouWill$Climbing", "steps", "I", false)
  | _ => ("IfYouWill$Climbing", "round", "I", false)
def tyX1 : Nat → FieldType := fun k => match k with
  | 0 => .object "IfYouWill$Village"
  | 1 => .int
  | 2 => .int
  | _ => .int
abbrev wsX10 : List Cond := u_ws RX1 TX1 4
theorem nmX1 : ∀ a, a < 4 → ∀ b, b < 4 → a ≠ b → (TX1 a).2.1 ≠ (TX1 b).2.1 := by decide +kernel
theorem tyX1_ok : ∀ k, k < 4 → parseFieldDescriptor (TX1 k).2.2.1 = some (tyX1 k) := by decide +kernel
def RX2 : String := "IfYouWill$Person"
def TX2 : u_T := fun k => match k with
  | 0 => ("IfYouWill$Person", "number", "I", true)
  | 1 => ("IfYouWill$Person", "scene", "LIfYouWill$Scene;", true)
  | 2 => ("IfYouWill$Person", "words", "LIfYouWill$Term;", false)
  | 3 => ("IfYouWill$Person", "part", "I", false)
  | 4 => ("IfYouWill$Person", "worth", "I", false)
  | 5 => ("IfYouWill$Person", "kept", "[I", true)
  | _ => ("IfYouWill$Person", "keptDay", "I", false)
def tyX2 : Nat → FieldType := fun k => match k with
  | 0 => .int
  | 1 => .object "IfYouWill$Scene"
  | 2 => .object "IfYouWill$Term"
  | 3 => .int
  | 4 => .int
  | 5 => .array .int
  | _ => .int
abbrev wsX20 : List Cond := u_ws RX2 TX2 7
theorem nmX2 : ∀ a, a < 7 → ∀ b, b < 7 → a ≠ b → (TX2 a).2.1 ≠ (TX2 b).2.1 := by decide +kernel
theorem tyX2_ok : ∀ k, k < 7 → parseFieldDescriptor (TX2 k).2.2.1 = some (tyX2 k) := by decide +kernel
def RX3 : String := "IfYouWill$Reader"
def TX3 : u_T := fun k => match k with
  | 0 => ("IfYouWill$Reader", "text", "LIfYouWill$Text;", true)
  | 1 => ("IfYouWill$Reader", "kinds", "[I", true)
  | 2 => ("IfYouWill$Reader", "starts", "[I", true)
  | 3 => ("IfYouWill$Reader", "stops", "[I", true)
  | 4 => ("IfYouWill$Reader", "tokens", "I", false)
  | 5 => ("IfYouWill$Reader", "now", "I", false)
  | 6 => ("IfYouWill$Reader", "number", "I", false)
  | 7 => ("IfYouWill$Reader", "many", "I", false)
  | 8 => ("IfYouWill$Reader", "from", "I", false)
  | 9 => ("IfYouWill$Reader", "to", "I", false)
  | 10 => ("IfYouWill$Reader", "give", "I", false)
  | 11 => ("IfYouWill$Reader", "draft", "LIfYouWill$Term;", false)
  | 12 => ("IfYouWill$Reader", "faultNumber", "I", false)
  | _ => ("IfYouWill$Reader", "faultAt", "I", false)
def tyX3 : Nat → FieldType := fun k => match k with
  | 0 => .object "IfYouWill$Text"
  | 1 => .array .int
  | 2 => .array .int
  | 3 => .array .int
  | 4 => .int
  | 5 => .int
  | 6 => .int
  | 7 => .int
  | 8 => .int
  | 9 => .int
  | 10 => .int
  | 11 => .object "IfYouWill$Term"
  | 12 => .int
  | _ => .int
abbrev wsX30 : List Cond := u_ws RX3 TX3 14
theorem nmX3 : ∀ a, a < 14 → ∀ b, b < 14 → a ≠ b → (TX3 a).2.1 ≠ (TX3 b).2.1 := by decide +kernel
theorem tyX3_ok : ∀ k, k < 14 → parseFieldDescriptor (TX3 k).2.2.1 = some (tyX3 k) := by decide +kernel
def RX4 : String := "IfYouWill$Scene"
def TX4 : u_T := fun k => match k with
  | 0 => ("IfYouWill$Scene", "own", "I", false)
  | 1 => ("IfYouWill$Scene", "others", "I", false)
  | 2 => ("IfYouWill$Scene", "day", "I", false)
  | _ => ("IfYouWill$Scene", "size", "I", false)
def tyX4 : Nat → FieldType := fun k => match k with
  | 0 => .int
  | 1 => .int
  | 2 => .int
  | _ => .int
abbrev wsX40 : List Cond := u_ws RX4 TX4 4
theorem nmX4 : ∀ a, a < 4 → ∀ b, b < 4 → a ≠ b → (TX4 a).2.1 ≠ (TX4 b).2.1 := by decide +kernel
theorem tyX4_ok : ∀ k, k < 4 → parseFieldDescriptor (TX4 k).2.2.1 = some (tyX4 k) := by decide +kernel
def RX5 : String := "IfYouWill$Term"
def TX5 : u_T := fun k => match k with
  | 0 => ("IfYouWill$Term", "muchKinds", "[I", true)
  | 1 => ("IfYouWill$Term", "muchOf", "[I", true)
  | 2 => ("IfYouWill$Term", "ends", "[I", true)
  | 3 => ("IfYouWill$Term", "rules", "I", false)
  | 4 => ("IfYouWill$Term", "kinds", "[I", true)
  | 5 => ("IfYouWill$Term", "froms", "[I", true)
  | 6 => ("IfYouWill$Term", "tos", "[I", true)
  | 7 => ("IfYouWill$Term", "numbers", "[I", true)
  | 8 => ("IfYouWill$Term", "steps", "I", false)
  | 9 => ("IfYouWill$Term", "softPlaces", "[I", true)
  | _ => ("IfYouWill$Term", "softs", "I", false)
def tyX5 : Nat → FieldType := fun k => match k with
  | 0 => .array .int
  | 1 => .array .int
  | 2 => .array .int
  | 3 => .int
  | 4 => .array .int
  | 5 => .array .int
  | 6 => .array .int
  | 7 => .array .int
  | 8 => .int
  | 9 => .array .int
  | _ => .int
abbrev wsX50 : List Cond := u_ws RX5 TX5 11
theorem nmX5 : ∀ a, a < 11 → ∀ b, b < 11 → a ≠ b → (TX5 a).2.1 ≠ (TX5 b).2.1 := by decide +kernel
theorem tyX5_ok : ∀ k, k < 11 → parseFieldDescriptor (TX5 k).2.2.1 = some (tyX5 k) := by decide +kernel
def RX6 : String := "IfYouWill$Text"
def TX6 : u_T := fun k => match k with
  | 0 => ("IfYouWill$Text", "bytes", "[I", true)
  | _ => ("IfYouWill$Text", "length", "I", false)
def tyX6 : Nat → FieldType := fun k => match k with
  | 0 => .array .int
  | _ => .int
abbrev wsX60 : List Cond := u_ws RX6 TX6 2
theorem nmX6 : ∀ a, a < 2 → ∀ b, b < 2 → a ≠ b → (TX6 a).2.1 ≠ (TX6 b).2.1 := by decide +kernel
theorem tyX6_ok : ∀ k, k < 2 → parseFieldDescriptor (TX6 k).2.2.1 = some (tyX6 k) := by decide +kernel
def RX7 : String := "IfYouWill$Village"
def TX7 : u_T := fun k => match k with
  | 0 => ("IfYouWill$Village", "people", "[LIfYouWill$Person;", true)
  | _ => ("IfYouWill$Village", "size", "I", false)
def tyX7 : Nat → FieldType := fun k => match k with
  | 0 => .array (.object "IfYouWill$Person")
  | _ => .int
abbrev wsX70 : List Cond := u_ws RX7 TX7 2
theorem nmX7 : ∀ a, a < 2 → ∀ b, b < 2 → a ≠ b → (TX7 a).2.1 ≠ (TX7 b).2.1 := by decide +kernel
theorem tyX7_ok : ∀ k, k < 2 → parseFieldDescriptor (TX7 k).2.2.1 = some (tyX7 k) := by decide +kernel
def RX8 : String := "IfYouWill"
def TX8 : u_T := fun k => match k with
  | 0 => ("IfYouWill", "text", "LIfYouWill$Text;", true)
  | 1 => ("IfYouWill", "reader", "LIfYouWill$Reader;", true)
  | 2 => ("IfYouWill", "village", "LIfYouWill$Village;", true)
  | 3 => ("IfYouWill", "climbing", "LIfYouWill$Climbing;", true)
  | _ => ("IfYouWill", "bargain", "LIfYouWill$Bargain;", true)
def tyX8 : Nat → FieldType := fun k => match k with
  | 0 => .object "IfYouWill$Text"
  | 1 => .object "IfYouWill$Reader"
  | 2 => .object "IfYouWill$Village"
  | 3 => .object "IfYouWill$Climbing"
  | _ => .object "IfYouWill$Bargain"
abbrev wsX80 : List Cond := u_ws RX8 TX8 5
theorem nmX8 : ∀ a, a < 5 → ∀ b, b < 5 → a ≠ b → (TX8 a).2.1 ≠ (TX8 b).2.1 := by decide +kernel
theorem tyX8_ok : ∀ k, k < 5 → parseFieldDescriptor (TX8 k).2.2.1 = some (tyX8 k) := by decide +kernel
def RX9 : String := "IfYouWillModel"
def TX9 : u_T := fun k => match k with
  | 0 => ("IfYouWillModel", "n", "I", false)
  | 1 => ("IfYouWillModel", "rules", "[I", true)
  | 2 => ("IfYouWillModel", "much", "[I", true)
  | 3 => ("IfYouWillModel", "muchOf", "[I", true)
  | 4 => ("IfYouWillModel", "signFrom", "[I", true)
  | 5 => ("IfYouWillModel", "signTo", "[I", true)
  | 6 => ("IfYouWillModel", "sign", "[I", true)
  | 7 => ("IfYouWillModel", "who", "[I", true)
  | 8 => ("IfYouWillModel", "upTo", "[I", true)
  | 9 => ("IfYouWillModel", "many", "[I", true)
  | 10 => ("IfYouWillModel", "gives", "[I", true)
  | 11 => ("IfYouWillModel", "isTold", "[Z", true)
  | 12 => ("IfYouWillModel", "part", "[I", true)
  | 13 => ("IfYouWillModel", "worth", "[I", true)
  | 14 => ("IfYouWillModel", "text", "[I", true)
  | 15 => ("IfYouWillModel", "textSize", "I", false)
  | 16 => ("IfYouWillModel", "at", "I", false)
  | 17 => ("IfYouWillModel", "from", "I", false)
  | 18 => ("IfYouWillModel", "letters", "I", false)
  | 19 => ("IfYouWillModel", "faultOf", "I", false)
  | 20 => ("IfYouWillModel", "place", "I", false)
  | 21 => ("IfYouWillModel", "newRules", "I", false)
  | 22 => ("IfYouWillModel", "newSigns", "I", false)
  | 23 => ("IfYouWillModel", "newMuch", "[I", true)
  | 24 => ("IfYouWillModel", "newOf", "[I", true)
  | 25 => ("IfYouWillModel", "newFrom", "[I", true)
  | 26 => ("IfYouWillModel", "newTo", "[I", true)
  | 27 => ("IfYouWillModel", "newSign", "[I", true)
  | 28 => ("IfYouWillModel", "newWho", "[I", true)
  | 29 => ("IfYouWillModel", "newUpTo", "[I", true)
  | 30 => ("IfYouWillModel", "newMany", "[I", true)
  | 31 => ("IfYouWillModel", "newGives", "[I", true)
  | 32 => ("IfYouWillModel", "newTold", "[Z", true)
  | 33 => ("IfYouWillModel", "stack", "[I", true)
  | 34 => ("IfYouWillModel", "stacked", "I", false)
  | 35 => ("IfYouWillModel", "wordOf", "I", false)
  | 36 => ("IfYouWillModel", "word", "I", false)
  | 37 => ("IfYouWillModel", "softOf", "I", false)
  | 38 => ("IfYouWillModel", "lessMany", "[I", true)
  | 39 => ("IfYouWillModel", "lessGives", "[I", true)
  | 40 => ("IfYouWillModel", "truth", "[Z", true)
  | 41 => ("IfYouWillModel", "slipRow", "I", false)
  | 42 => ("IfYouWillModel", "slipOf", "I", false)
  | 43 => ("IfYouWillModel", "met", "[I", true)
  | 44 => ("IfYouWillModel", "restRow", "I", false)
  | 45 => ("IfYouWillModel", "tail", "I", false)
  | 46 => ("IfYouWillModel", "ring", "I", false)
  | 47 => ("IfYouWillModel", "slotSign", "[I", true)
  | 48 => ("IfYouWillModel", "slotGives", "[Z", true)
  | _ => ("IfYouWillModel", "slots", "I", false)
def tyX9 : Nat → FieldType := fun k => match k with
  | 0 => .int
  | 1 => .array .int
  | 2 => .array .int
  | 3 => .array .int
  | 4 => .array .int
  | 5 => .array .int
  | 6 => .array .int
  | 7 => .array .int
  | 8 => .array .int
  | 9 => .array .int
  | 10 => .array .int
  | 11 => .array .boolean
  | 12 => .array .int
  | 13 => .array .int
  | 14 => .array .int
  | 15 => .int
  | 16 => .int
  | 17 => .int
  | 18 => .int
  | 19 => .int
  | 20 => .int
  | 21 => .int
  | 22 => .int
  | 23 => .array .int
  | 24 => .array .int
  | 25 => .array .int
  | 26 => .array .int
  | 27 => .array .int
  | 28 => .array .int
  | 29 => .array .int
  | 30 => .array .int
  | 31 => .array .int
  | 32 => .array .boolean
  | 33 => .array .int
  | 34 => .int
  | 35 => .int
  | 36 => .int
  | 37 => .int
  | 38 => .array .int
  | 39 => .array .int
  | 40 => .array .boolean
  | 41 => .int
  | 42 => .int
  | 43 => .array .int
  | 44 => .int
  | 45 => .int
  | 46 => .int
  | 47 => .array .int
  | 48 => .array .boolean
  | _ => .int
abbrev wsX90 : List Cond := u_ws RX9 TX9 50
theorem nmX9 : ∀ a, a < 50 → ∀ b, b < 50 → a ≠ b → (TX9 a).2.1 ≠ (TX9 b).2.1 := by decide +kernel
theorem tyX9_ok : ∀ k, k < 50 → parseFieldDescriptor (TX9 k).2.2.1 = some (tyX9 k) := by decide +kernel
abbrev vwCl : List vw_C := [(RX0, TX0, 1), (RX1, TX1, 4), (RX2, TX2, 7), (RX3, TX3, 14), (RX4, TX4, 4), (RX5, TX5, 11), (RX6, TX6, 2), (RX7, TX7, 2), (RX8, TX8, 5), (RX9, TX9, 50)]
/-- the classes by number: ten with objects, then those of static methods, then the law -/
def cN (k : Nat) : String := [RX0, RX1, RX2, RX3, RX4, RX5, RX6, RX7, RX8, RX9, "java/util/Arrays", "java/lang/Math", "IfYouWillLaw"].getD k ""
/-- the methods by number: name, bytes, locals, result, own class -/
abbrev YE : Type := MethodName × ByteArray × Nat × Option FieldType × Nat
def yT0 : List YE := [(⟨RX0, "isAtRest", "(III)Z"⟩, prog_2_method_2_code, 9, some .boolean, 0),
  (⟨RX0, "reaches", "(II)Z"⟩, prog_2_method_3_code, 5, some .boolean, 0),
  (⟨RX0, "outcome", "(LIfYouWill$Person;ZZI)I"⟩, prog_2_method_4_code, 4, some .int, 0),
  (⟨RX0, "pledged", "(I)I"⟩, prog_2_method_5_code, 4, some .int, 0),
  (⟨RX1, "start", "(IIII)V"⟩, prog_3_method_2_code, 9, none, 1),
  (⟨RX1, "next", "(IIII)I"⟩, prog_3_method_3_code, 9, some .int, 1),
  (⟨RX2, "begin", "()V"⟩, prog_4_method_2_code, 1, none, 2),
  (⟨RX2, "exchange", "(LIfYouWill$Term;)LIfYouWill$Term;"⟩, prog_4_method_3_code, 3, some (.object "IfYouWill$Term"), 2),
  (⟨RX2, "allowed", "(III)I"⟩, prog_4_method_4_code, 4, some .int, 2),
  (⟨RX2, "allowedOften", "(III)I"⟩, prog_4_method_5_code, 9, some .int, 2),
  (⟨RX2, "softness", "(II)I"⟩, prog_4_method_6_code, 4, some .int, 2),
  (⟨RX3, "read", "()Z"⟩, prog_5_method_2_code, 3, some .boolean, 3),
  (⟨RX3, "split", "()V"⟩, prog_5_method_3_code, 5, none, 3),
  (⟨RX3, "addToken", "(III)V"⟩, prog_5_method_4_code, 4, none, 3),
  (⟨RX3, "kindOf", "(I)I"⟩, prog_5_method_5_code, 1, some .int, 3),
  (⟨RX3, "readRule", "()Z"⟩, prog_5_method_6_code, 1, some .boolean, 3)]
def yT1 : List YE := [(⟨RX3, "readMuch", "()Z"⟩, prog_5_method_7_code, 2, some .boolean, 3),
  (⟨RX3, "readSome", "(I)Z"⟩, prog_5_method_8_code, 5, some .boolean, 3),
  (⟨RX3, "readOne", "(I)Z"⟩, prog_5_method_9_code, 2, some .boolean, 3),
  (⟨RX3, "readDeeper", "(I)Z"⟩, prog_5_method_10_code, 2, some .boolean, 3),
  (⟨RX3, "forgetParts", "()V"⟩, prog_5_method_11_code, 1, none, 3),
  (⟨RX3, "adds", "(I)Z"⟩, prog_5_method_12_code, 2, some .boolean, 3),
  (⟨RX3, "readMany", "(II)Z"⟩, prog_5_method_13_code, 4, some .boolean, 3),
  (⟨RX3, "readPerson", "()Z"⟩, prog_5_method_14_code, 2, some .boolean, 3),
  (⟨RX3, "readRange", "()Z"⟩, prog_5_method_15_code, 1, some .boolean, 3),
  (⟨RX3, "readGive", "(Ljava/lang/String;)Z"⟩, prog_5_method_16_code, 3, some .boolean, 3),
  (⟨RX3, "readNumber", "(II)Z"⟩, prog_5_method_17_code, 4, some .boolean, 3),
  (⟨RX3, "takes", "(Ljava/lang/String;)Z"⟩, prog_5_method_18_code, 3, some .boolean, 3),
  (⟨RX3, "isWord", "(Ljava/lang/String;)Z"⟩, prog_5_method_19_code, 3, some .boolean, 3),
  (⟨RX3, "isSign", "(C)Z"⟩, prog_5_method_20_code, 2, some .boolean, 3),
  (⟨RX3, "fails", "(I)Z"⟩, prog_5_method_21_code, 2, some .boolean, 3),
  (⟨RX4, "look", "(IIII)V"⟩, prog_6_method_2_code, 5, none, 4)]
def yT2 : List YE := [(⟨RX4, "least", "()I"⟩, prog_6_method_3_code, 4, some .int, 4),
  (⟨RX4, "most", "()I"⟩, prog_6_method_4_code, 4, some .int, 4),
  (⟨RX4, "isSo", "(IIIII)Z"⟩, prog_6_method_5_code, 11, some .boolean, 4),
  (⟨RX5, "becomeZero", "()V"⟩, prog_7_method_2_code, 1, none, 5),
  (⟨RX5, "wipe", "()V"⟩, prog_7_method_3_code, 1, none, 5),
  (⟨RX5, "addRule", "(II)V"⟩, prog_7_method_4_code, 3, none, 5),
  (⟨RX5, "addStep", "(IIIII)V"⟩, prog_7_method_5_code, 6, none, 5),
  (⟨RX5, "addNumber", "(II)V"⟩, prog_7_method_6_code, 3, none, 5),
  (⟨RX5, "allowed", "(LIfYouWill$Scene;)I"⟩, prog_7_method_7_code, 4, some .int, 5),
  (⟨RX5, "much", "(IILIfYouWill$Scene;)I"⟩, prog_7_method_8_code, 3, some .int, 5),
  (⟨RX5, "holds", "(IILIfYouWill$Scene;)Z"⟩, prog_7_method_9_code, 6, some .boolean, 5),
  (⟨RX5, "softens", "(LIfYouWill$Term;IIILIfYouWill$Scene;)Z"⟩, prog_7_method_10_code, 8, some .boolean, 5),
  (⟨RX5, "leastAt", "(I)I"⟩, prog_7_method_11_code, 2, some .int, 5),
  (⟨RX6, "hasRoom", "(I)Z"⟩, prog_8_method_2_code, 2, some .boolean, 6),
  (⟨RX6, "append", "(IJ)V"⟩, prog_8_method_3_code, 5, none, 6),
  (⟨RX7, "begin", "(I)V"⟩, prog_9_method_2_code, 3, none, 7)]
def yT3 : List YE := [(⟨RX7, "has", "(I)Z"⟩, prog_9_method_3_code, 2, some .boolean, 7),
  (⟨RX7, "hasAll", "(I)Z"⟩, prog_9_method_4_code, 2, some .boolean, 7),
  (⟨RX7, "hasRow", "(I)Z"⟩, prog_9_method_5_code, 2, some .boolean, 7),
  (⟨RX7, "rows", "()I"⟩, prog_9_method_6_code, 1, some .int, 7),
  (⟨RX7, "rules", "()I"⟩, prog_9_method_7_code, 3, some .int, 7),
  (⟨RX7, "growing", "(I)I"⟩, prog_9_method_8_code, 4, some .int, 7),
  (⟨RX7, "slipRow", "(II)I"⟩, prog_9_method_9_code, 4, some .int, 7),
  (⟨RX7, "slipBy", "(III)I"⟩, prog_9_method_10_code, 6, some .int, 7),
  (⟨RX7, "agrees", "(II)Z"⟩, prog_9_method_11_code, 4, some .boolean, 7),
  (⟨RX7, "possibles", "(I)I"⟩, prog_9_method_12_code, 4, some .int, 7),
  (⟨RX7, "possibleAt", "(II)I"⟩, prog_9_method_13_code, 5, some .int, 7),
  (⟨RX7, "hangsOn", "(III)Z"⟩, prog_9_method_14_code, 6, some .boolean, 7),
  (⟨RX7, "softness", "(I)I"⟩, prog_9_method_15_code, 5, some .int, 7),
  (⟨RX7, "nextDay", "(II)I"⟩, prog_9_method_16_code, 5, some .int, 7),
  (⟨RX8, "persons", "(I)I"⟩, prog_1_method_2_code, 2, some .int, 8),
  (⟨RX8, "feed", "(IJ)I"⟩, prog_1_method_3_code, 4, some .int, 8)]
def yT4 : List YE := [(⟨RX8, "term", "(I)I"⟩, prog_1_method_4_code, 3, some .int, 8),
  (⟨RX8, "fault", "()I"⟩, prog_1_method_5_code, 1, some .int, 8),
  (⟨RX8, "lets", "(III)I"⟩, prog_1_method_6_code, 4, some .int, 8),
  (⟨RX8, "count", "(I)I"⟩, prog_1_method_7_code, 2, some .int, 8),
  (⟨RX8, "grows", "(III)I"⟩, prog_1_method_8_code, 5, some .int, 8),
  (⟨RX8, "judge", "(II)I"⟩, prog_1_method_9_code, 4, some .int, 8),
  (⟨RX8, "settled", "(I)I"⟩, prog_1_method_10_code, 2, some .int, 8),
  (⟨RX8, "end", "(I)I"⟩, prog_1_method_11_code, 4, some .int, 8),
  (⟨RX8, "climb", "(III)I"⟩, prog_1_method_12_code, 4, some .int, 8),
  (⟨RX8, "hangs", "(II)I"⟩, prog_1_method_13_code, 5, some .int, 8),
  (⟨RX8, "leaving", "(II)I"⟩, prog_1_method_14_code, 3, some .int, 8),
  (⟨RX8, "soft", "(II)I"⟩, prog_1_method_15_code, 3, some .int, 8),
  (⟨RX8, "byDay", "(I)I"⟩, prog_1_method_16_code, 4, some .int, 8),
  (⟨RX8, "dares", "(I)I"⟩, prog_1_method_17_code, 4, some .int, 8),
  (⟨RX8, "offer", "(III)I"⟩, prog_1_method_18_code, 6, some .int, 8),
  (⟨RX8, "rests", "(III)I"⟩, prog_1_method_19_code, 4, some .int, 8)]
def yT5 : List YE := [(⟨RX8, "leastTop", "(I)I"⟩, prog_1_method_20_code, 3, some .int, 8),
  (⟨RX8, "sly", "(III)I"⟩, prog_1_method_21_code, 8, some .int, 8),
  (⟨RX8, "possible", "(II)I"⟩, prog_1_method_22_code, 3, some .int, 8),
  (⟨RX8, "sure", "(II)I"⟩, prog_1_method_23_code, 5, some .int, 8),
  (⟨RX8, "telling", "(II)I"⟩, prog_1_method_24_code, 3, some .int, 8),
  (⟨RX8, "gain", "(III)I"⟩, prog_1_method_25_code, 5, some .int, 8),
  (⟨RX8, "isFurther", "(III)Z"⟩, prog_1_method_26_code, 3, some .boolean, 8),
  (⟨RX8, "within", "(III)Z"⟩, prog_1_method_27_code, 3, some .boolean, 8),
  (⟨RX8, "isIn", "(II)Z"⟩, prog_1_method_28_code, 2, some .boolean, 8),
  (⟨RX8, "deed", "(II)I"⟩, prog_1_method_29_code, 2, some .int, 8),
  (⟨RX8, "withDeed", "(III)I"⟩, prog_1_method_30_code, 3, some .int, 8),
  (⟨RX8, "sum", "(I)I"⟩, prog_1_method_31_code, 3, some .int, 8),
  (⟨RX9, "in", "(JJJ)Z"⟩, prog_11_method_3_code, 6, some .boolean, 9),
  (⟨RX9, "one", "(Z)I"⟩, prog_11_method_4_code, 1, some .int, 9),
  (⟨RX9, "begin", "(I)V"⟩, prog_11_method_5_code, 3, none, 9),
  (⟨RX9, "persons", "(I)I"⟩, prog_11_method_6_code, 2, some .int, 9)]
def yT6 : List YE := [(⟨RX9, "noPerson", "(I)Z"⟩, prog_11_method_7_code, 2, some .boolean, 9),
  (⟨RX9, "allRows", "()I"⟩, prog_11_method_8_code, 1, some .int, 9),
  (⟨RX9, "noRow", "(I)Z"⟩, prog_11_method_9_code, 2, some .boolean, 9),
  (⟨RX9, "isDay", "(I)Z"⟩, prog_11_method_10_code, 1, some .boolean, 9),
  (⟨RX9, "feed", "(IJ)I"⟩, prog_11_method_11_code, 5, some .int, 9),
  (⟨RX9, "here", "()I"⟩, prog_11_method_12_code, 1, some .int, 9),
  (⟨RX9, "want", "(ZII)Z"⟩, prog_11_method_13_code, 4, some .boolean, 9),
  (⟨RX9, "takeWord", "()V"⟩, prog_11_method_14_code, 2, none, 9),
  (⟨RX9, "isWord", "(IIIIII)Z"⟩, prog_11_method_15_code, 9, some .boolean, 9),
  (⟨RX9, "takes", "(IIIIII)Z"⟩, prog_11_method_16_code, 8, some .boolean, 9),
  (⟨RX9, "takeNumber", "(II)I"⟩, prog_11_method_17_code, 6, some .int, 9),
  (⟨RX9, "addSign", "(I)V"⟩, prog_11_method_18_code, 2, none, 9),
  (⟨RX9, "takeSpan", "()V"⟩, prog_11_method_19_code, 3, none, 9),
  (⟨RX9, "takeOne", "(I)V"⟩, prog_11_method_20_code, 3, none, 9),
  (⟨RX9, "open", "()I"⟩, prog_11_method_21_code, 3, some .int, 9),
  (⟨RX9, "push", "(I)V"⟩, prog_11_method_22_code, 2, none, 9)]
def yT7 : List YE := [(⟨RX9, "pop", "()V"⟩, prog_11_method_23_code, 1, none, 9),
  (⟨RX9, "endOne", "()V"⟩, prog_11_method_24_code, 1, none, 9),
  (⟨RX9, "hasOpen", "()Z"⟩, prog_11_method_25_code, 3, some .boolean, 9),
  (⟨RX9, "takeHead", "()V"⟩, prog_11_method_26_code, 4, none, 9),
  (⟨RX9, "closeAll", "()V"⟩, prog_11_method_27_code, 1, none, 9),
  (⟨RX9, "takeSome", "()V"⟩, prog_11_method_28_code, 4, none, 9),
  (⟨RX9, "takeRule", "()V"⟩, prog_11_method_29_code, 4, none, 9),
  (⟨RX9, "term", "(I)I"⟩, prog_11_method_30_code, 5, some .int, 9),
  (⟨RX9, "fault", "()I"⟩, prog_11_method_31_code, 1, some .int, 9),
  (⟨RX9, "deed", "(II)I"⟩, prog_11_method_32_code, 2, some .int, 9),
  (⟨RX9, "oneHolds", "(IIII)Z"⟩, prog_11_method_33_code, 13, some .boolean, 9),
  (⟨RX9, "holds", "(IIII)Z"⟩, prog_11_method_34_code, 8, some .boolean, 9),
  (⟨RX9, "muchBy", "(III)I"⟩, prog_11_method_35_code, 10, some .int, 9),
  (⟨RX9, "letBy", "(III)I"⟩, prog_11_method_36_code, 5, some .int, 9),
  (⟨RX9, "lets", "(III)I"⟩, prog_11_method_37_code, 4, some .int, 9),
  (⟨RX9, "rulesAll", "()I"⟩, prog_11_method_38_code, 3, some .int, 9)]
def yT8 : List YE := [(⟨RX9, "growing", "()I"⟩, prog_11_method_39_code, 3, some .int, 9),
  (⟨RX9, "count", "(I)I"⟩, prog_11_method_40_code, 2, some .int, 9),
  (⟨RX9, "slips", "(II)Z"⟩, prog_11_method_41_code, 6, some .boolean, 9),
  (⟨RX9, "grows", "(III)I"⟩, prog_11_method_42_code, 5, some .int, 9),
  (⟨RX9, "notSo", "(III)I"⟩, prog_11_method_43_code, 5, some .int, 9),
  (⟨RX9, "judge", "(II)I"⟩, prog_11_method_44_code, 3, some .int, 9),
  (⟨RX9, "mayBe", "(II)I"⟩, prog_11_method_45_code, 5, some .int, 9),
  (⟨RX9, "settled", "(I)I"⟩, prog_11_method_46_code, 2, some .int, 9),
  (⟨RX9, "sumOf", "(I)I"⟩, prog_11_method_47_code, 4, some .int, 9),
  (⟨RX9, "end", "(I)I"⟩, prog_11_method_48_code, 5, some .int, 9),
  (⟨RX9, "nextRow", "(II)I"⟩, prog_11_method_49_code, 5, some .int, 9),
  (⟨RX9, "goUp", "(II)V"⟩, prog_11_method_50_code, 5, none, 9),
  (⟨RX9, "climb", "(III)I"⟩, prog_11_method_51_code, 4, some .int, 9),
  (⟨RX9, "hangs", "(II)I"⟩, prog_11_method_52_code, 8, some .int, 9),
  (⟨RX9, "leaving", "(II)I"⟩, prog_11_method_53_code, 3, some .int, 9),
  (⟨RX9, "findSlots", "(I)V"⟩, prog_11_method_54_code, 5, none, 9)]
def yT9 : List YE := [(⟨RX9, "soften", "(III)Z"⟩, prog_11_method_55_code, 6, some .boolean, 9),
  (⟨RX9, "isLet", "(II)Z"⟩, prog_11_method_56_code, 3, some .boolean, 9),
  (⟨RX9, "doesSoft", "(III)Z"⟩, prog_11_method_57_code, 11, some .boolean, 9),
  (⟨RX9, "softBy", "(II)I"⟩, prog_11_method_58_code, 5, some .int, 9),
  (⟨RX9, "soft", "(II)I"⟩, prog_11_method_59_code, 6, some .int, 9),
  (⟨RX9, "rowBy", "(I)I"⟩, prog_11_method_60_code, 7, some .int, 9),
  (⟨RX9, "byDay", "(I)I"⟩, prog_11_method_61_code, 2, some .int, 9),
  (⟨RX9, "dares", "(I)I"⟩, prog_11_method_62_code, 3, some .int, 9),
  (⟨RX9, "offer", "(III)I"⟩, prog_11_method_63_code, 5, some .int, 9),
  (⟨RX9, "comes", "(II)Z"⟩, prog_11_method_64_code, 5, some .boolean, 9),
  (⟨RX9, "hasBy", "(IIII)I"⟩, prog_11_method_65_code, 6, some .int, 9),
  (⟨RX9, "isResting", "(III)Z"⟩, prog_11_method_66_code, 6, some .boolean, 9),
  (⟨RX9, "isGoal", "(I)Z"⟩, prog_11_method_67_code, 1, some .boolean, 9),
  (⟨RX9, "rests", "(III)I"⟩, prog_11_method_68_code, 4, some .int, 9),
  (⟨RX9, "leastTop", "(I)I"⟩, prog_11_method_69_code, 6, some .int, 9),
  (⟨RX9, "hasByWord", "(III)I"⟩, prog_11_method_70_code, 4, some .int, 9)]
def yT10 : List YE := [(⟨RX9, "sly", "(III)I"⟩, prog_11_method_71_code, 8, some .int, 9),
  (⟨RX9, "noSet", "(I)Z"⟩, prog_11_method_72_code, 2, some .boolean, 9),
  (⟨RX9, "possible", "(II)I"⟩, prog_11_method_73_code, 3, some .int, 9),
  (⟨RX9, "sure", "(II)I"⟩, prog_11_method_74_code, 5, some .int, 9),
  (⟨RX9, "telling", "(II)I"⟩, prog_11_method_75_code, 3, some .int, 9),
  (⟨"java/lang/Math", "max", "(II)I"⟩, prog_12_method_65_code, 2, some .int, 11),
  (⟨"java/util/Arrays", "fill", "([II)V"⟩, prog_16_method_103_code, 4, none, 10),
  (⟨"IfYouWillLaw", "law", "([I)Z"⟩, code, 4, some .boolean, 12)]
def yT : List (List YE) := [yT0, yT1, yT2, yT3, yT4, yT5, yT6, yT7, yT8, yT9, yT10]
def yE (y : Nat) : YE := (yT.getD (y / 16) []).getD (y % 16) (⟨"", "", ""⟩, code, 0, none, 0)
def yN (y : Nat) : MethodName := (yE y).1
def yC (y : Nat) : ByteArray := (yE y).2.1
def yL (y : Nat) : Nat := (yE y).2.2.1
def yR (y : Nat) : Option FieldType := (yE y).2.2.2.1
def yO (y : Nat) : Nat := (yE y).2.2.2.2
