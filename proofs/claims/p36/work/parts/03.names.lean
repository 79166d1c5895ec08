def RX0 : String := "BladeDesk$Bits"
def TX0 : u_T := fun k => match k with
  | _ => ("", "", "", false)
def tyX0 : Nat → FieldType := fun k => match k with
  | _ => .int
theorem nmX0 : ∀ a, a < 0 → ∀ b, b < 0 → a ≠ b → (TX0 a).2.1 ≠ (TX0 b).2.1 := by decide +kernel
theorem tyX0_ok : ∀ k, k < 0 → parseFieldDescriptor (TX0 k).2.2.1 = some (tyX0 k) := by decide +kernel
def RX1 : String := "BladeDesk$FormReader"
def TX1 : u_T := fun k => match k with
  | 0 => ("BladeDesk$FormReader", "coefficients", "[I", true)
  | 1 => ("BladeDesk$FormReader", "dimension", "I", false)
  | 2 => ("BladeDesk$FormReader", "mode", "I", false)
  | 3 => ("BladeDesk$FormReader", "negative", "Z", false)
  | 4 => ("BladeDesk$FormReader", "number", "I", false)
  | _ => ("BladeDesk$FormReader", "blade", "I", false)
def tyX1 : Nat → FieldType := fun k => match k with
  | 0 => .array .int
  | 1 => .int
  | 2 => .int
  | 3 => .boolean
  | 4 => .int
  | _ => .int
theorem nmX1 : ∀ a, a < 6 → ∀ b, b < 6 → a ≠ b → (TX1 a).2.1 ≠ (TX1 b).2.1 := by decide +kernel
theorem tyX1_ok : ∀ k, k < 6 → parseFieldDescriptor (TX1 k).2.2.1 = some (tyX1 k) := by decide +kernel
abbrev cX1_init : ByteArray := prog_3_method_1_code
def yX1_init : MethodName := ⟨RX1, "<init>", "()V"⟩
def RX2 : String := "BladeDesk$Forms"
def TX2 : u_T := fun k => match k with
  | _ => ("", "", "", false)
def tyX2 : Nat → FieldType := fun k => match k with
  | _ => .int
theorem nmX2 : ∀ a, a < 0 → ∀ b, b < 0 → a ≠ b → (TX2 a).2.1 ≠ (TX2 b).2.1 := by decide +kernel
theorem tyX2_ok : ∀ k, k < 0 → parseFieldDescriptor (TX2 k).2.2.1 = some (tyX2 k) := by decide +kernel
abbrev cX2_property : ByteArray := prog_4_method_2_code
def yX2_property : MethodName := ⟨RX2, "property", "([II)I"⟩
abbrev cX2_countNonzero : ByteArray := prog_4_method_3_code
def yX2_countNonzero : MethodName := ⟨RX2, "countNonzero", "([I)I"⟩
abbrev cX2_gradeOf : ByteArray := prog_4_method_4_code
def yX2_gradeOf : MethodName := ⟨RX2, "gradeOf", "([I)I"⟩
abbrev cX2_lowestGrade : ByteArray := prog_4_method_5_code
def yX2_lowestGrade : MethodName := ⟨RX2, "lowestGrade", "([I)I"⟩
abbrev cX2_highestGrade : ByteArray := prog_4_method_6_code
def yX2_highestGrade : MethodName := ⟨RX2, "highestGrade", "([I)I"⟩
abbrev cX2_greatestSize : ByteArray := prog_4_method_7_code
def yX2_greatestSize : MethodName := ⟨RX2, "greatestSize", "([I)I"⟩
abbrev cX2_leadOf : ByteArray := prog_4_method_8_code
def yX2_leadOf : MethodName := ⟨RX2, "leadOf", "([I)I"⟩
abbrev cX2_leadCoefficient : ByteArray := prog_4_method_9_code
def yX2_leadCoefficient : MethodName := ⟨RX2, "leadCoefficient", "([I)I"⟩
abbrev cX2_directionsOf : ByteArray := prog_4_method_10_code
def yX2_directionsOf : MethodName := ⟨RX2, "directionsOf", "([I)I"⟩
abbrev cX2_partnerNumber : ByteArray := prog_4_method_13_code
def yX2_partnerNumber : MethodName := ⟨RX2, "partnerNumber", "([III)I"⟩
def RX3 : String := "BladeDesk$History"
def TX3 : u_T := fun k => match k with
  | 0 => ("BladeDesk$History", "states", "[LBladeDesk$State;", true)
  | 1 => ("BladeDesk$History", "oldest", "I", false)
  | _ => ("BladeDesk$History", "size", "I", false)
def tyX3 : Nat → FieldType := fun k => match k with
  | 0 => .array (.object "BladeDesk$State")
  | 1 => .int
  | _ => .int
theorem nmX3 : ∀ a, a < 3 → ∀ b, b < 3 → a ≠ b → (TX3 a).2.1 ≠ (TX3 b).2.1 := by decide +kernel
theorem tyX3_ok : ∀ k, k < 3 → parseFieldDescriptor (TX3 k).2.2.1 = some (tyX3 k) := by decide +kernel
abbrev cX3_init : ByteArray := prog_5_method_1_code
def yX3_init : MethodName := ⟨RX3, "<init>", "()V"⟩
abbrev cX3_save : ByteArray := prog_5_method_2_code
def yX3_save : MethodName := ⟨RX3, "save", "(LBladeDesk$State;)V"⟩
def RX4 : String := "BladeDesk$Kernel"
def TX4 : u_T := fun k => match k with
  | 0 => ("BladeDesk$Kernel", "vectors", "[[J", true)
  | 1 => ("BladeDesk$Kernel", "values", "[J", true)
  | _ => ("BladeDesk$Kernel", "size", "I", false)
def tyX4 : Nat → FieldType := fun k => match k with
  | 0 => .array (.array .long)
  | 1 => .array .long
  | _ => .int
theorem nmX4 : ∀ a, a < 3 → ∀ b, b < 3 → a ≠ b → (TX4 a).2.1 ≠ (TX4 b).2.1 := by decide +kernel
theorem tyX4_ok : ∀ k, k < 3 → parseFieldDescriptor (TX4 k).2.2.1 = some (tyX4 k) := by decide +kernel
abbrev cX4_init : ByteArray := prog_6_method_1_code
def yX4_init : MethodName := ⟨RX4, "<init>", "()V"⟩
abbrev cX4_find : ByteArray := prog_6_method_2_code
def yX4_find : MethodName := ⟨RX4, "find", "([II)I"⟩
abbrev cX4_number : ByteArray := prog_6_method_3_code
def yX4_number : MethodName := ⟨RX4, "number", "(II)I"⟩
abbrev cX4_startWithAll : ByteArray := prog_6_method_4_code
def yX4_startWithAll : MethodName := ⟨RX4, "startWithAll", "(I)V"⟩
abbrev cX4_cut : ByteArray := prog_6_method_5_code
def yX4_cut : MethodName := ⟨RX4, "cut", "([III)V"⟩
abbrev cX4_valueAt : ByteArray := prog_6_method_6_code
def yX4_valueAt : MethodName := ⟨RX4, "valueAt", "([II[JI)J"⟩
abbrev cX4_clearWith : ByteArray := prog_6_method_7_code
def yX4_clearWith : MethodName := ⟨RX4, "clearWith", "(III)V"⟩
abbrev cX4_removeVector : ByteArray := prog_6_method_8_code
def yX4_removeVector : MethodName := ⟨RX4, "removeVector", "(II)V"⟩
abbrev cX4_commonDivisor : ByteArray := prog_6_method_9_code
def yX4_commonDivisor : MethodName := ⟨RX4, "commonDivisor", "(JJ)J"⟩
def RX5 : String := "BladeDesk$Products"
def TX5 : u_T := fun k => match k with
  | _ => ("", "", "", false)
def tyX5 : Nat → FieldType := fun k => match k with
  | _ => .int
theorem nmX5 : ∀ a, a < 0 → ∀ b, b < 0 → a ≠ b → (TX5 a).2.1 ≠ (TX5 b).2.1 := by decide +kernel
theorem tyX5_ok : ∀ k, k < 0 → parseFieldDescriptor (TX5 k).2.2.1 = some (tyX5 k) := by decide +kernel
abbrev cX5_oddTurns : ByteArray := prog_7_method_2_code
def yX5_oddTurns : MethodName := ⟨RX5, "oddTurns", "(II)Z"⟩
abbrev cX5_signOfBlade : ByteArray := prog_7_method_3_code
def yX5_signOfBlade : MethodName := ⟨RX5, "signOfBlade", "([II)I"⟩
abbrev cX5_clear : ByteArray := prog_7_method_4_code
def yX5_clear : MethodName := ⟨RX5, "clear", "([J)V"⟩
abbrev cX5_addForms : ByteArray := prog_7_method_5_code
def yX5_addForms : MethodName := ⟨RX5, "addForms", "(LBladeDesk$State;II[J)V"⟩
abbrev cX5_multiplyForm : ByteArray := prog_7_method_6_code
def yX5_multiplyForm : MethodName := ⟨RX5, "multiplyForm", "(LBladeDesk$State;II[J)V"⟩
abbrev cX5_wedgeForms : ByteArray := prog_7_method_7_code
def yX5_wedgeForms : MethodName := ⟨RX5, "wedgeForms", "([I[II[J)V"⟩
abbrev cX5_contractForms : ByteArray := prog_7_method_8_code
def yX5_contractForms : MethodName := ⟨RX5, "contractForms", "(LBladeDesk$State;II[J)V"⟩
abbrev cX5_starForm : ByteArray := prog_7_method_9_code
def yX5_starForm : MethodName := ⟨RX5, "starForm", "(LBladeDesk$State;I[J)V"⟩
abbrev cX5_partOfForm : ByteArray := prog_7_method_10_code
def yX5_partOfForm : MethodName := ⟨RX5, "partOfForm", "(LBladeDesk$State;II[J)V"⟩
abbrev cX5_reverseForm : ByteArray := prog_7_method_11_code
def yX5_reverseForm : MethodName := ⟨RX5, "reverseForm", "(LBladeDesk$State;I[J)V"⟩
abbrev cX5_pushForm : ByteArray := prog_7_method_12_code
def yX5_pushForm : MethodName := ⟨RX5, "pushForm", "(LBladeDesk$State;I[J[J)V"⟩
abbrev cX5_pushBlade : ByteArray := prog_7_method_13_code
def yX5_pushBlade : MethodName := ⟨RX5, "pushBlade", "(LBladeDesk$State;I[J)V"⟩
abbrev cX5_wedgeWithColumn : ByteArray := prog_7_method_14_code
def yX5_wedgeWithColumn : MethodName := ⟨RX5, "wedgeWithColumn", "(LBladeDesk$State;II[J)J"⟩
abbrev cX5_determinant : ByteArray := prog_7_method_15_code
def yX5_determinant : MethodName := ⟨RX5, "determinant", "(LBladeDesk$State;[J)I"⟩
abbrev cX5_innerOfForms : ByteArray := prog_7_method_16_code
def yX5_innerOfForms : MethodName := ⟨RX5, "innerOfForms", "(LBladeDesk$State;II)J"⟩
def RX6 : String := "BladeDesk$State"
def TX6 : u_T := fun k => match k with
  | 0 => ("BladeDesk$State", "dimension", "I", false)
  | 1 => ("BladeDesk$State", "forms", "[[I", true)
  | 2 => ("BladeDesk$State", "signs", "[I", true)
  | 3 => ("BladeDesk$State", "matrix", "[[I", true)
  | _ => ("BladeDesk$State", "tallies", "[I", true)
def tyX6 : Nat → FieldType := fun k => match k with
  | 0 => .int
  | 1 => .array (.array .int)
  | 2 => .array .int
  | 3 => .array (.array .int)
  | _ => .array .int
theorem nmX6 : ∀ a, a < 5 → ∀ b, b < 5 → a ≠ b → (TX6 a).2.1 ≠ (TX6 b).2.1 := by decide +kernel
theorem tyX6_ok : ∀ k, k < 5 → parseFieldDescriptor (TX6 k).2.2.1 = some (tyX6 k) := by decide +kernel
abbrev cX6_init : ByteArray := prog_8_method_1_code
def yX6_init : MethodName := ⟨RX6, "<init>", "()V"⟩
abbrev cX6_blades : ByteArray := prog_8_method_2_code
def yX6_blades : MethodName := ⟨RX6, "blades", "()I"⟩
abbrev cX6_startWith : ByteArray := prog_8_method_3_code
def yX6_startWith : MethodName := ⟨RX6, "startWith", "(I)V"⟩
abbrev cX6_copyScene : ByteArray := prog_8_method_4_code
def yX6_copyScene : MethodName := ⟨RX6, "copyScene", "(LBladeDesk$State;)V"⟩
abbrev cX6_copyAll : ByteArray := prog_8_method_5_code
def yX6_copyAll : MethodName := ⟨RX6, "copyAll", "(LBladeDesk$State;)V"⟩
abbrev cX6_countForms : ByteArray := prog_8_method_6_code
def yX6_countForms : MethodName := ⟨RX6, "countForms", "()I"⟩
def RX7 : String := "BladeDesk"
def TX7 : u_T := fun k => match k with
  | 0 => ("BladeDesk", "state", "LBladeDesk$State;", true)
  | 1 => ("BladeDesk", "history", "LBladeDesk$History;", true)
  | 2 => ("BladeDesk", "snapshots", "[LBladeDesk$State;", true)
  | 3 => ("BladeDesk", "taken", "[Z", true)
  | 4 => ("BladeDesk", "buffer", "[I", true)
  | 5 => ("BladeDesk", "bufferLength", "I", false)
  | 6 => ("BladeDesk", "result", "[J", true)
  | 7 => ("BladeDesk", "image", "[J", true)
  | 8 => ("BladeDesk", "vector", "[I", true)
  | 9 => ("BladeDesk", "kernel", "LBladeDesk$Kernel;", true)
  | _ => ("BladeDesk", "reader", "LBladeDesk$FormReader;", true)
def tyX7 : Nat → FieldType := fun k => match k with
  | 0 => .object "BladeDesk$State"
  | 1 => .object "BladeDesk$History"
  | 2 => .array (.object "BladeDesk$State")
  | 3 => .array .boolean
  | 4 => .array .int
  | 5 => .int
  | 6 => .array .long
  | 7 => .array .long
  | 8 => .array .int
  | 9 => .object "BladeDesk$Kernel"
  | _ => .object "BladeDesk$FormReader"
theorem nmX7 : ∀ a, a < 11 → ∀ b, b < 11 → a ≠ b → (TX7 a).2.1 ≠ (TX7 b).2.1 := by decide +kernel
theorem tyX7_ok : ∀ k, k < 11 → parseFieldDescriptor (TX7 k).2.2.1 = some (tyX7 k) := by decide +kernel
abbrev cX7_init : ByteArray := prog_1_method_1_code
def yX7_init : MethodName := ⟨RX7, "<init>", "()V"⟩
abbrev cX7_begin : ByteArray := prog_1_method_2_code
def yX7_begin : MethodName := ⟨RX7, "begin", "(I)I"⟩
abbrev cX7_sign : ByteArray := prog_1_method_3_code
def yX7_sign : MethodName := ⟨RX7, "sign", "(II)I"⟩
abbrev cX7_matrix : ByteArray := prog_1_method_4_code
def yX7_matrix : MethodName := ⟨RX7, "matrix", "(III)I"⟩
abbrev cX7_set : ByteArray := prog_1_method_5_code
def yX7_set : MethodName := ⟨RX7, "set", "(III)I"⟩
abbrev cX7_sum : ByteArray := prog_1_method_6_code
def yX7_sum : MethodName := ⟨RX7, "sum", "(III)I"⟩
abbrev cX7_scale : ByteArray := prog_1_method_7_code
def yX7_scale : MethodName := ⟨RX7, "scale", "(III)I"⟩
abbrev cX7_wedge : ByteArray := prog_1_method_8_code
def yX7_wedge : MethodName := ⟨RX7, "wedge", "(III)I"⟩
abbrev cX7_contract : ByteArray := prog_1_method_9_code
def yX7_contract : MethodName := ⟨RX7, "contract", "(III)I"⟩
abbrev cX7_star : ByteArray := prog_1_method_10_code
def yX7_star : MethodName := ⟨RX7, "star", "(II)I"⟩
abbrev cX7_part : ByteArray := prog_1_method_11_code
def yX7_part : MethodName := ⟨RX7, "part", "(III)I"⟩
abbrev cX7_reverse : ByteArray := prog_1_method_12_code
def yX7_reverse : MethodName := ⟨RX7, "reverse", "(II)I"⟩
abbrev cX7_push : ByteArray := prog_1_method_13_code
def yX7_push : MethodName := ⟨RX7, "push", "(II)I"⟩
abbrev cX7_coefficient : ByteArray := prog_1_method_21_code
def yX7_coefficient : MethodName := ⟨RX7, "coefficient", "(II)I"⟩
abbrev cX7_form : ByteArray := prog_1_method_22_code
def yX7_form : MethodName := ⟨RX7, "form", "(II)I"⟩
abbrev cX7_inner : ByteArray := prog_1_method_23_code
def yX7_inner : MethodName := ⟨RX7, "inner", "(II)J"⟩
abbrev cX7_decomposable : ByteArray := prog_1_method_24_code
def yX7_decomposable : MethodName := ⟨RX7, "decomposable", "(II)I"⟩
abbrev cX7_annihilator : ByteArray := prog_1_method_26_code
def yX7_annihilator : MethodName := ⟨RX7, "annihilator", "(I)I"⟩
abbrev cX7_basis : ByteArray := prog_1_method_27_code
def yX7_basis : MethodName := ⟨RX7, "basis", "(III)I"⟩
abbrev cX7_refused : ByteArray := prog_1_method_28_code
def yX7_refused : MethodName := ⟨RX7, "refused", "(III)I"⟩
abbrev cX7_count : ByteArray := prog_1_method_30_code
def yX7_count : MethodName := ⟨RX7, "count", "(I)I"⟩
abbrev cX7_matrixAt : ByteArray := prog_1_method_31_code
def yX7_matrixAt : MethodName := ⟨RX7, "matrixAt", "(II)I"⟩
abbrev cX7_requireSlot : ByteArray := prog_1_method_35_code
def yX7_requireSlot : MethodName := ⟨RX7, "requireSlot", "(I)V"⟩
abbrev cX7_requireSlots : ByteArray := prog_1_method_36_code
def yX7_requireSlots : MethodName := ⟨RX7, "requireSlots", "(III)V"⟩
abbrev cX7_requireBlade : ByteArray := prog_1_method_37_code
def yX7_requireBlade : MethodName := ⟨RX7, "requireBlade", "(I)V"⟩
abbrev cX7_requireDirection : ByteArray := prog_1_method_38_code
def yX7_requireDirection : MethodName := ⟨RX7, "requireDirection", "(I)V"⟩
abbrev cX7_requireGrade : ByteArray := prog_1_method_40_code
def yX7_requireGrade : MethodName := ⟨RX7, "requireGrade", "(I)V"⟩
abbrev cX7_requirePlace : ByteArray := prog_1_method_41_code
def yX7_requirePlace : MethodName := ⟨RX7, "requirePlace", "(I)V"⟩
abbrev cX7_requireSize : ByteArray := prog_1_method_42_code
def yX7_requireSize : MethodName := ⟨RX7, "requireSize", "(II)V"⟩
abbrev cX7_firstTooLarge : ByteArray := prog_1_method_43_code
def yX7_firstTooLarge : MethodName := ⟨RX7, "firstTooLarge", "()I"⟩
abbrev cX7_requireFits : ByteArray := prog_1_method_44_code
def yX7_requireFits : MethodName := ⟨RX7, "requireFits", "()V"⟩
abbrev cX7_resultIsZero : ByteArray := prog_1_method_45_code
def yX7_resultIsZero : MethodName := ⟨RX7, "resultIsZero", "()Z"⟩
abbrev cX7_storeResult : ByteArray := prog_1_method_46_code
def yX7_storeResult : MethodName := ⟨RX7, "storeResult", "(II)I"⟩
abbrev cX7_decomposableAsTold : ByteArray := prog_1_method_47_code
def yX7_decomposableAsTold : MethodName := ⟨RX7, "decomposableAsTold", "(I)I"⟩
abbrev cX7_wedgeWithPartnerIsZero : ByteArray := prog_1_method_48_code
def yX7_wedgeWithPartnerIsZero : MethodName := ⟨RX7, "wedgeWithPartnerIsZero", "([II)Z"⟩
abbrev cX7_decomposableByAnnihilator : ByteArray := prog_1_method_49_code
def yX7_decomposableByAnnihilator : MethodName := ⟨RX7, "decomposableByAnnihilator", "(I)I"⟩
abbrev cX7_signOrZero : ByteArray := prog_1_method_51_code
def yX7_signOrZero : MethodName := ⟨RX7, "signOrZero", "(I)I"⟩
abbrev cX7_countTaken : ByteArray := prog_1_method_52_code
def yX7_countTaken : MethodName := ⟨RX7, "countTaken", "()I"⟩
def RX8 : String := "BladeDeskModel"
def TX8 : u_T := fun k => match k with
  | _ => ("", "", "", false)
def tyX8 : Nat → FieldType := fun k => match k with
  | _ => .int
theorem nmX8 : ∀ a, a < 0 → ∀ b, b < 0 → a ≠ b → (TX8 a).2.1 ≠ (TX8 b).2.1 := by decide +kernel
theorem tyX8_ok : ∀ k, k < 0 → parseFieldDescriptor (TX8 k).2.2.1 = some (tyX8 k) := by decide +kernel
def RJ6 : String := "java/lang/Integer"
def TJ6 : u_T := fun k => match k with
  | _ => ("", "", "", false)
def tyJ6 : Nat → FieldType := fun k => match k with
  | _ => .int
theorem nmJ6 : ∀ a, a < 0 → ∀ b, b < 0 → a ≠ b → (TJ6 a).2.1 ≠ (TJ6 b).2.1 := by decide +kernel
theorem tyJ6_ok : ∀ k, k < 0 → parseFieldDescriptor (TJ6 k).2.2.1 = some (tyJ6 k) := by decide +kernel
abbrev cJ6_bitCount_0f7a4 : ByteArray := prog_15_method_49_code
def yJ6_bitCount_0f7a4 : MethodName := ⟨RJ6, "bitCount", "(I)I"⟩
def RJ9 : String := "java/lang/Math"
def TJ9 : u_T := fun k => match k with
  | _ => ("", "", "", false)
def tyJ9 : Nat → FieldType := fun k => match k with
  | _ => .int
theorem nmJ9 : ∀ a, a < 0 → ∀ b, b < 0 → a ≠ b → (TJ9 a).2.1 ≠ (TJ9 b).2.1 := by decide +kernel
theorem tyJ9_ok : ∀ k, k < 0 → parseFieldDescriptor (TJ9 k).2.2.1 = some (tyJ9 k) := by decide +kernel
abbrev cJ9_abs_0f7a4 : ByteArray := prog_16_method_59_code
def yJ9_abs_0f7a4 : MethodName := ⟨RJ9, "abs", "(I)I"⟩
abbrev cJ9_abs_067f4 : ByteArray := prog_16_method_61_code
def yJ9_abs_067f4 : MethodName := ⟨RJ9, "abs", "(J)J"⟩
abbrev cJ9_max_7cf53 : ByteArray := prog_16_method_65_code
def yJ9_max_7cf53 : MethodName := ⟨RJ9, "max", "(II)I"⟩
def RJ0 : String := "java/lang/String"
def TJ0 : u_T := fun k => match k with
  | _ => ("", "", "", false)
def tyJ0 : Nat → FieldType := fun k => match k with
  | _ => .int
theorem nmJ0 : ∀ a, a < 0 → ∀ b, b < 0 → a ≠ b → (TJ0 a).2.1 ≠ (TJ0 b).2.1 := by decide +kernel
theorem tyJ0_ok : ∀ k, k < 0 → parseFieldDescriptor (TJ0 k).2.2.1 = some (tyJ0 k) := by decide +kernel
def RJ10 : String := "java/lang/System"
def TJ10 : u_T := fun k => match k with
  | _ => ("", "", "", false)
def tyJ10 : Nat → FieldType := fun k => match k with
  | _ => .int
theorem nmJ10 : ∀ a, a < 0 → ∀ b, b < 0 → a ≠ b → (TJ10 a).2.1 ≠ (TJ10 b).2.1 := by decide +kernel
theorem tyJ10_ok : ∀ k, k < 0 → parseFieldDescriptor (TJ10 k).2.2.1 = some (tyJ10 k) := by decide +kernel
def RL : String := "BladeDeskLaw"
abbrev cL_cell : ByteArray := method_2_code
def yL_cell : MethodName := ⟨RL, "cell", "([II)I"⟩
abbrev cL_at : ByteArray := method_3_code
def yL_at : MethodName := ⟨RL, "at", "(II)I"⟩
abbrev cL_grade : ByteArray := method_4_code
def yL_grade : MethodName := ⟨RL, "grade", "(I)I"⟩
abbrev cL_order : ByteArray := method_5_code
def yL_order : MethodName := ⟨RL, "order", "(II)I"⟩
abbrev cL_sign : ByteArray := method_6_code
def yL_sign : MethodName := ⟨RL, "sign", "(I[I)I"⟩
abbrev cL_all : ByteArray := method_7_code
def yL_all : MethodName := ⟨RL, "all", "([I)I"⟩
abbrev cL_wedge : ByteArray := method_8_code
def yL_wedge : MethodName := ⟨RL, "wedge", "([JI[JI[J[I)V"⟩
abbrev cL_contract : ByteArray := method_9_code
def yL_contract : MethodName := ⟨RL, "contract", "([JII[J[I)V"⟩
abbrev cL_grow : ByteArray := method_10_code
def yL_grow : MethodName := ⟨RL, "grow", "(I[I[J[J[J[I)V"⟩
abbrev cL_push : ByteArray := method_11_code
def yL_push : MethodName := ⟨RL, "push", "([JI[I[J[J[J[J[I)V"⟩
abbrev cL_bring : ByteArray := method_12_code
def yL_bring : MethodName := ⟨RL, "bring", "(I[JIII[I[J[J[J[J[I)V"⟩
abbrev cL_beyond : ByteArray := method_13_code
def yL_beyond : MethodName := ⟨RL, "beyond", "([J)I"⟩
abbrev cL_many : ByteArray := method_14_code
def yL_many : MethodName := ⟨RL, "many", "([JI)I"⟩
abbrev cL_done : ByteArray := method_15_code
def yL_done : MethodName := ⟨RL, "done", "(LBladeDesk;IIIII)I"⟩
abbrev cL_work : ByteArray := method_16_code
def yL_work : MethodName := ⟨RL, "work", "(LBladeDesk;III[J[I[J[J[J[J[I)Z"⟩
abbrev cL_low : ByteArray := method_17_code
def yL_low : MethodName := ⟨RL, "low", "([JI)I"⟩
abbrev cL_high : ByteArray := method_18_code
def yL_high : MethodName := ⟨RL, "high", "([JI)I"⟩
abbrev cL_most : ByteArray := method_19_code
def yL_most : MethodName := ⟨RL, "most", "([JI)J"⟩
abbrev cL_pure : ByteArray := method_20_code
def yL_pure : MethodName := ⟨RL, "pure", "([JI[J[J[I)Z"⟩
abbrev cL_rank : ByteArray := method_21_code
def yL_rank : MethodName := ⟨RL, "rank", "([JIJ[I[I)I"⟩
abbrev cL_basis : ByteArray := method_22_code
def yL_basis : MethodName := ⟨RL, "basis", "(LBladeDesk;I[J[J[J[I[I)Z"⟩
abbrev cL_form : ByteArray := method_23_code
def yL_form : MethodName := ⟨RL, "form", "(LBladeDesk;I[J[J[J[I)Z"⟩
abbrev cL_told : ByteArray := method_24_code
def yL_told : MethodName := ⟨RL, "told", "(LBladeDesk;[J[I[J[J[J[I)Z"⟩
abbrev cL_begin : ByteArray := method_25_code
def yL_begin : MethodName := ⟨RL, "begin", "(LBladeDesk;I[J[I[I)Z"⟩
abbrev cL_act : ByteArray := method_26_code
def yL_act : MethodName := ⟨RL, "act", "(LBladeDesk;III[J[I[J[J[J[J[I)Z"⟩
abbrev cL_law : ByteArray := code
def yL_law : MethodName := ⟨RL, "law", "([I)Z"⟩
abbrev vwCl : List vw_C := [(RX1, TX1, 6), (RX3, TX3, 3), (RX4, TX4, 3), (RX6, TX6, 5), (RX7, TX7, 11)]
