def R_D : String := "DoubleBits"
def F_D : u_T := fun k => match k with
  | 0 => ("DoubleBits", "reader", "LDoubleBits$TextReader;", true)
  | _ => ("DoubleBits", "writer", "LDoubleBits$TextWriter;", true)
def ty_D : Nat → FieldType := fun k => match k with
  | 0 => .object "DoubleBits$TextReader"
  | _ => .object "DoubleBits$TextWriter"
abbrev w_D : List Cond := u_ws R_D F_D 2
theorem n_D : ∀ a, a < 2 → ∀ b, b < 2 → a ≠ b → (F_D a).2.1 ≠ (F_D b).2.1 := by decide +kernel
theorem ty_D_ok : ∀ k, k < 2 → parseFieldDescriptor (F_D k).2.2.1 = some (ty_D k) := by decide +kernel
def R_A : String := "DoubleBits$Arithmetic"
def R_B : String := "DoubleBits$Bits"
def R_E : String := "DoubleBits$Decimal"
def F_E : u_T := fun k => match k with
  | 0 => ("DoubleBits$Decimal", "digits", "[I", true)
  | 1 => ("DoubleBits$Decimal", "count", "I", false)
  | 2 => ("DoubleBits$Decimal", "point", "I", false)
  | 3 => ("DoubleBits$Decimal", "rest", "LDoubleBits$Natural;", true)
  | 4 => ("DoubleBits$Decimal", "scale", "LDoubleBits$Natural;", true)
  | 5 => ("DoubleBits$Decimal", "below", "LDoubleBits$Natural;", true)
  | 6 => ("DoubleBits$Decimal", "above", "LDoubleBits$Natural;", true)
  | _ => ("DoubleBits$Decimal", "sum", "LDoubleBits$Natural;", true)
def ty_E : Nat → FieldType := fun k => match k with
  | 0 => .array .int
  | 1 => .int
  | 2 => .int
  | 3 => .object "DoubleBits$Natural"
  | 4 => .object "DoubleBits$Natural"
  | 5 => .object "DoubleBits$Natural"
  | 6 => .object "DoubleBits$Natural"
  | _ => .object "DoubleBits$Natural"
abbrev w_E : List Cond := u_ws R_E F_E 8
theorem n_E : ∀ a, a < 8 → ∀ b, b < 8 → a ≠ b → (F_E a).2.1 ≠ (F_E b).2.1 := by decide +kernel
theorem ty_E_ok : ∀ k, k < 8 → parseFieldDescriptor (F_E k).2.2.1 = some (ty_E k) := by decide +kernel
def R_N : String := "DoubleBits$Natural"
def F_N : u_T := fun k => match k with
  | 0 => ("DoubleBits$Natural", "limbs", "[I", true)
  | _ => ("DoubleBits$Natural", "used", "I", false)
def ty_N : Nat → FieldType := fun k => match k with
  | 0 => .array .int
  | _ => .int
abbrev w_N : List Cond := u_ws R_N F_N 2
theorem n_N : ∀ a, a < 2 → ∀ b, b < 2 → a ≠ b → (F_N a).2.1 ≠ (F_N b).2.1 := by decide +kernel
theorem ty_N_ok : ∀ k, k < 2 → parseFieldDescriptor (F_N k).2.2.1 = some (ty_N k) := by decide +kernel
def R_P : String := "DoubleBits$Page"
def F_P : u_T := fun k => match k with
  | 0 => ("DoubleBits$Page", "units", "[C", true)
  | _ => ("DoubleBits$Page", "count", "I", false)
def ty_P : Nat → FieldType := fun k => match k with
  | 0 => .array .char
  | _ => .int
abbrev w_P : List Cond := u_ws R_P F_P 2
theorem n_P : ∀ a, a < 2 → ∀ b, b < 2 → a ≠ b → (F_P a).2.1 ≠ (F_P b).2.1 := by decide +kernel
theorem ty_P_ok : ∀ k, k < 2 → parseFieldDescriptor (F_P k).2.2.1 = some (ty_P k) := by decide +kernel
def R_R : String := "DoubleBits$TextReader"
def F_R : u_T := fun k => match k with
  | 0 => ("DoubleBits$TextReader", "units", "[I", true)
  | 1 => ("DoubleBits$TextReader", "count", "I", false)
  | 2 => ("DoubleBits$TextReader", "at", "I", false)
  | 3 => ("DoubleBits$TextReader", "end", "I", false)
  | 4 => ("DoubleBits$TextReader", "numerator", "LDoubleBits$Natural;", true)
  | 5 => ("DoubleBits$TextReader", "denominator", "LDoubleBits$Natural;", true)
  | 6 => ("DoubleBits$TextReader", "counting", "I", false)
  | _ => ("DoubleBits$TextReader", "power", "I", false)
def ty_R : Nat → FieldType := fun k => match k with
  | 0 => .array .int
  | 1 => .int
  | 2 => .int
  | 3 => .int
  | 4 => .object "DoubleBits$Natural"
  | 5 => .object "DoubleBits$Natural"
  | 6 => .int
  | _ => .int
abbrev w_R : List Cond := u_ws R_R F_R 8
theorem n_R : ∀ a, a < 8 → ∀ b, b < 8 → a ≠ b → (F_R a).2.1 ≠ (F_R b).2.1 := by decide +kernel
theorem ty_R_ok : ∀ k, k < 8 → parseFieldDescriptor (F_R k).2.2.1 = some (ty_R k) := by decide +kernel
def R_T : String := "DoubleBits$TextWriter"
def F_T : u_T := fun k => match k with
  | 0 => ("DoubleBits$TextWriter", "page", "LDoubleBits$Page;", true)
  | 1 => ("DoubleBits$TextWriter", "decimal", "LDoubleBits$Decimal;", true)
  | _ => ("DoubleBits$TextWriter", "natural", "LDoubleBits$Natural;", true)
def ty_T : Nat → FieldType := fun k => match k with
  | 0 => .object "DoubleBits$Page"
  | 1 => .object "DoubleBits$Decimal"
  | _ => .object "DoubleBits$Natural"
abbrev w_T : List Cond := u_ws R_T F_T 3
theorem n_T : ∀ a, a < 3 → ∀ b, b < 3 → a ≠ b → (F_T a).2.1 ≠ (F_T b).2.1 := by decide +kernel
theorem ty_T_ok : ∀ k, k < 3 → parseFieldDescriptor (F_T k).2.2.1 = some (ty_T k) := by decide +kernel
def R_H : String := "DoubleBits$Wholes"
def R_M : String := "DoubleBitsModel"
def F_M : u_T := fun k => match k with
  | 0 => ("DoubleBitsModel", "thrown", "I", false)
  | 1 => ("DoubleBitsModel", "text", "[I", true)
  | 2 => ("DoubleBitsModel", "size", "I", false)
  | 3 => ("DoubleBitsModel", "out", "[I", true)
  | 4 => ("DoubleBitsModel", "outs", "I", false)
  | 5 => ("DoubleBitsModel", "rows", "[I", true)
  | 6 => ("DoubleBitsModel", "digits", "[I", true)
  | 7 => ("DoubleBitsModel", "count", "I", false)
  | _ => ("DoubleBitsModel", "point", "I", false)
def ty_M : Nat → FieldType := fun k => match k with
  | 0 => .int
  | 1 => .array .int
  | 2 => .int
  | 3 => .array .int
  | 4 => .int
  | 5 => .array .int
  | 6 => .array .int
  | 7 => .int
  | _ => .int
abbrev w_M : List Cond := u_ws R_M F_M 9
theorem n_M : ∀ a, a < 9 → ∀ b, b < 9 → a ≠ b → (F_M a).2.1 ≠ (F_M b).2.1 := by decide +kernel
theorem ty_M_ok : ∀ k, k < 9 → parseFieldDescriptor (F_M k).2.2.1 = some (ty_M k) := by decide +kernel
def R_L : String := "DoubleBitsLaw"
abbrev c_D_init : ByteArray := prog_1_method_1_code
abbrev y_D_init : MethodName := ⟨R_D, "<init>", "()V"⟩
abbrev c_D_put : ByteArray := prog_1_method_2_code
abbrev y_D_put : MethodName := ⟨R_D, "put", "(JI)I"⟩
abbrev c_D_read : ByteArray := prog_1_method_3_code
abbrev y_D_read : MethodName := ⟨R_D, "read", "()J"⟩
abbrev c_D_reckon : ByteArray := prog_1_method_4_code
abbrev y_D_reckon : MethodName := ⟨R_D, "reckon", "(JJI)J"⟩
abbrev c_D_turn : ByteArray := prog_1_method_5_code
abbrev y_D_turn : MethodName := ⟨R_D, "turn", "(JI)J"⟩
abbrev c_D_compare : ByteArray := prog_1_method_6_code
abbrev y_D_compare : MethodName := ⟨R_D, "compare", "(JJ)I"⟩
abbrev c_D_whole : ByteArray := prog_1_method_7_code
abbrev y_D_whole : MethodName := ⟨R_D, "whole", "(JI)J"⟩
abbrev c_D_of : ByteArray := prog_1_method_8_code
abbrev y_D_of : MethodName := ⟨R_D, "of", "(J)J"⟩
abbrev c_D_write : ByteArray := prog_1_method_9_code
abbrev y_D_write : MethodName := ⟨R_D, "write", "(J)I"⟩
abbrev c_D_radix : ByteArray := prog_1_method_10_code
abbrev y_D_radix : MethodName := ⟨R_D, "radix", "(JI)I"⟩
abbrev c_D_form : ByteArray := prog_1_method_11_code
abbrev y_D_form : MethodName := ⟨R_D, "form", "(JII)I"⟩
abbrev c_D_unit : ByteArray := prog_1_method_12_code
abbrev y_D_unit : MethodName := ⟨R_D, "unit", "(I)I"⟩
abbrev c_M_init : ByteArray := prog_11_method_1_code
abbrev y_M_init : MethodName := ⟨R_M, "<init>", "()V"⟩
abbrev c_M_thrown : ByteArray := prog_11_method_2_code
abbrev y_M_thrown : MethodName := ⟨R_M, "thrown", "()I"⟩
abbrev c_M_throwing : ByteArray := prog_11_method_3_code
abbrev y_M_throwing : MethodName := ⟨R_M, "throwing", "(ZZ)Z"⟩
abbrev c_M_set : ByteArray := prog_11_method_4_code
abbrev y_M_set : MethodName := ⟨R_M, "set", "(IJ)V"⟩
abbrev c_M_copy : ByteArray := prog_11_method_5_code
abbrev y_M_copy : MethodName := ⟨R_M, "copy", "(II)V"⟩
abbrev c_M_times : ByteArray := prog_11_method_6_code
abbrev y_M_times : MethodName := ⟨R_M, "times", "(III)V"⟩
abbrev c_M_divide : ByteArray := prog_11_method_7_code
abbrev y_M_divide : MethodName := ⟨R_M, "divide", "(II)I"⟩
abbrev c_M_tens : ByteArray := prog_11_method_8_code
abbrev y_M_tens : MethodName := ⟨R_M, "tens", "(II)V"⟩
abbrev c_M_shift : ByteArray := prog_11_method_9_code
abbrev y_M_shift : MethodName := ⟨R_M, "shift", "(II)V"⟩
abbrev c_M_halve : ByteArray := prog_11_method_10_code
abbrev y_M_halve : MethodName := ⟨R_M, "halve", "(I)V"⟩
abbrev c_M_order : ByteArray := prog_11_method_11_code
abbrev y_M_order : MethodName := ⟨R_M, "order", "(II)I"⟩
abbrev c_M_add : ByteArray := prog_11_method_12_code
abbrev y_M_add : MethodName := ⟨R_M, "add", "(IIZ)V"⟩
abbrev c_M_bit : ByteArray := prog_11_method_13_code
abbrev y_M_bit : MethodName := ⟨R_M, "bit", "(II)I"⟩
abbrev c_M_length : ByteArray := prog_11_method_14_code
abbrev y_M_length : MethodName := ⟨R_M, "length", "(I)I"⟩
abbrev c_M_bits : ByteArray := prog_11_method_15_code
abbrev y_M_bits : MethodName := ⟨R_M, "bits", "(II)J"⟩
abbrev c_M_quotient : ByteArray := prog_11_method_16_code
abbrev y_M_quotient : MethodName := ⟨R_M, "quotient", "(I)V"⟩
abbrev c_M_isNan : ByteArray := prog_11_method_17_code
abbrev y_M_isNan : MethodName := ⟨R_M, "isNan", "(J)Z"⟩
abbrev c_M_isInfinite : ByteArray := prog_11_method_18_code
abbrev y_M_isInfinite : MethodName := ⟨R_M, "isInfinite", "(J)Z"⟩
abbrev c_M_isZero : ByteArray := prog_11_method_19_code
abbrev y_M_isZero : MethodName := ⟨R_M, "isZero", "(J)Z"⟩
abbrev c_M_amount : ByteArray := prog_11_method_20_code
abbrev y_M_amount : MethodName := ⟨R_M, "amount", "(J)J"⟩
abbrev c_M_power : ByteArray := prog_11_method_21_code
abbrev y_M_power : MethodName := ⟨R_M, "power", "(J)I"⟩
abbrev c_M_round : ByteArray := prog_11_method_22_code
abbrev y_M_round : MethodName := ⟨R_M, "round", "(JIIZ)J"⟩
abbrev c_M_packed : ByteArray := prog_11_method_23_code
abbrev y_M_packed : MethodName := ⟨R_M, "packed", "(JJI)J"⟩
abbrev c_M_of : ByteArray := prog_11_method_24_code
abbrev y_M_of : MethodName := ⟨R_M, "of", "(J)J"⟩
abbrev c_M_compare : ByteArray := prog_11_method_25_code
abbrev y_M_compare : MethodName := ⟨R_M, "compare", "(JJ)I"⟩
abbrev c_M_sum : ByteArray := prog_11_method_26_code
abbrev y_M_sum : MethodName := ⟨R_M, "sum", "(JJ)J"⟩
abbrev c_M_product : ByteArray := prog_11_method_27_code
abbrev y_M_product : MethodName := ⟨R_M, "product", "(JJ)J"⟩
abbrev c_M_ratio : ByteArray := prog_11_method_28_code
abbrev y_M_ratio : MethodName := ⟨R_M, "ratio", "(JJ)J"⟩
abbrev c_M_remainder : ByteArray := prog_11_method_29_code
abbrev y_M_remainder : MethodName := ⟨R_M, "remainder", "(JJ)J"⟩
abbrev c_M_scaled : ByteArray := prog_11_method_30_code
abbrev y_M_scaled : MethodName := ⟨R_M, "scaled", "(JJI)J"⟩
abbrev c_M_reckon : ByteArray := prog_11_method_31_code
abbrev y_M_reckon : MethodName := ⟨R_M, "reckon", "(JJI)J"⟩
abbrev c_M_root : ByteArray := prog_11_method_32_code
abbrev y_M_root : MethodName := ⟨R_M, "root", "(J)J"⟩
abbrev c_M_near : ByteArray := prog_11_method_33_code
abbrev y_M_near : MethodName := ⟨R_M, "near", "(JI)J"⟩
abbrev c_M_turn : ByteArray := prog_11_method_34_code
abbrev y_M_turn : MethodName := ⟨R_M, "turn", "(JI)J"⟩
abbrev c_M_whole : ByteArray := prog_11_method_35_code
abbrev y_M_whole : MethodName := ⟨R_M, "whole", "(JI)J"⟩
abbrev c_M_put : ByteArray := prog_11_method_36_code
abbrev y_M_put : MethodName := ⟨R_M, "put", "(JI)I"⟩
abbrev c_M_isBlank : ByteArray := prog_11_method_37_code
abbrev y_M_isBlank : MethodName := ⟨R_M, "isBlank", "(I)Z"⟩
abbrev c_M_isDigit : ByteArray := prog_11_method_38_code
abbrev y_M_isDigit : MethodName := ⟨R_M, "isDigit", "(I)Z"⟩
abbrev c_M_hexadecimal : ByteArray := prog_11_method_39_code
abbrev y_M_hexadecimal : MethodName := ⟨R_M, "hexadecimal", "(I)I"⟩
abbrev c_M_readHexadecimal : ByteArray := prog_11_method_40_code
abbrev y_M_readHexadecimal : MethodName := ⟨R_M, "readHexadecimal", "(II)J"⟩
abbrev c_M_scaledByTens : ByteArray := prog_11_method_41_code
abbrev y_M_scaledByTens : MethodName := ⟨R_M, "scaledByTens", "(JI)J"⟩
abbrev c_M_isInfinity : ByteArray := prog_11_method_42_code
abbrev y_M_isInfinity : MethodName := ⟨R_M, "isInfinity", "(II)Z"⟩
abbrev c_M_readDecimal : ByteArray := prog_11_method_43_code
abbrev y_M_readDecimal : MethodName := ⟨R_M, "readDecimal", "(II)J"⟩
abbrev c_M_read : ByteArray := prog_11_method_44_code
abbrev y_M_read : MethodName := ⟨R_M, "read", "()J"⟩
abbrev c_M_emit : ByteArray := prog_11_method_45_code
abbrev y_M_emit : MethodName := ⟨R_M, "emit", "(I)V"⟩
abbrev c_M_writeWord : ByteArray := prog_11_method_46_code
abbrev y_M_writeWord : MethodName := ⟨R_M, "writeWord", "(ZZ)I"⟩
abbrev c_M_scale : ByteArray := prog_11_method_47_code
abbrev y_M_scale : MethodName := ⟨R_M, "scale", "(IIII)V"⟩
abbrev c_M_fraction : ByteArray := prog_11_method_48_code
abbrev y_M_fraction : MethodName := ⟨R_M, "fraction", "(JI)V"⟩
abbrev c_M_decimals : ByteArray := prog_11_method_49_code
abbrev y_M_decimals : MethodName := ⟨R_M, "decimals", "(J)I"⟩
abbrev c_M_leading : ByteArray := prog_11_method_50_code
abbrev y_M_leading : MethodName := ⟨R_M, "leading", "(J)I"⟩
abbrev c_M_against : ByteArray := prog_11_method_51_code
abbrev y_M_against : MethodName := ⟨R_M, "against", "(JIJI)I"⟩
abbrev c_M_roundsTo : ByteArray := prog_11_method_52_code
abbrev y_M_roundsTo : MethodName := ⟨R_M, "roundsTo", "(JIJ)Z"⟩
abbrev c_M_shortest : ByteArray := prog_11_method_53_code
abbrev y_M_shortest : MethodName := ⟨R_M, "shortest", "(J)V"⟩
abbrev c_M_lay : ByteArray := prog_11_method_54_code
abbrev y_M_lay : MethodName := ⟨R_M, "lay", "(J)V"⟩
abbrev c_M_layRow : ByteArray := prog_11_method_55_code
abbrev y_M_layRow : MethodName := ⟨R_M, "layRow", "(I)V"⟩
abbrev c_M_writeDigits : ByteArray := prog_11_method_56_code
abbrev y_M_writeDigits : MethodName := ⟨R_M, "writeDigits", "(II)V"⟩
abbrev c_M_emitZeros : ByteArray := prog_11_method_57_code
abbrev y_M_emitZeros : MethodName := ⟨R_M, "emitZeros", "(I)V"⟩
abbrev c_M_writeExponent : ByteArray := prog_11_method_58_code
abbrev y_M_writeExponent : MethodName := ⟨R_M, "writeExponent", "(I)V"⟩
abbrev c_M_writeScientific : ByteArray := prog_11_method_59_code
abbrev y_M_writeScientific : MethodName := ⟨R_M, "writeScientific", "(I)V"⟩
abbrev c_M_write : ByteArray := prog_11_method_60_code
abbrev y_M_write : MethodName := ⟨R_M, "write", "(J)I"⟩
abbrev c_M_radix : ByteArray := prog_11_method_61_code
abbrev y_M_radix : MethodName := ⟨R_M, "radix", "(JI)I"⟩
abbrev c_M_letter : ByteArray := prog_11_method_62_code
abbrev y_M_letter : MethodName := ⟨R_M, "letter", "(I)I"⟩
abbrev c_M_clear : ByteArray := prog_11_method_63_code
abbrev y_M_clear : MethodName := ⟨R_M, "clear", "(II)V"⟩
abbrev c_M_nearest : ByteArray := prog_11_method_64_code
abbrev y_M_nearest : MethodName := ⟨R_M, "nearest", "(JI)V"⟩
abbrev c_M_fixed : ByteArray := prog_11_method_65_code
abbrev y_M_fixed : MethodName := ⟨R_M, "fixed", "(JI)I"⟩
abbrev c_M_precisely : ByteArray := prog_11_method_66_code
abbrev y_M_precisely : MethodName := ⟨R_M, "precisely", "(JI)V"⟩
abbrev c_M_exponential : ByteArray := prog_11_method_67_code
abbrev y_M_exponential : MethodName := ⟨R_M, "exponential", "(JI)I"⟩
abbrev c_M_precise : ByteArray := prog_11_method_68_code
abbrev y_M_precise : MethodName := ⟨R_M, "precise", "(JI)I"⟩
abbrev c_M_form : ByteArray := prog_11_method_69_code
abbrev y_M_form : MethodName := ⟨R_M, "form", "(JII)I"⟩
abbrev c_M_unit : ByteArray := prog_11_method_70_code
abbrev y_M_unit : MethodName := ⟨R_M, "unit", "(I)I"⟩
abbrev c_A_sum : ByteArray := prog_2_method_2_code
abbrev y_A_sum : MethodName := ⟨R_A, "sum", "(JJ)J"⟩
abbrev c_A_difference : ByteArray := prog_2_method_3_code
abbrev y_A_difference : MethodName := ⟨R_A, "difference", "(JJ)J"⟩
abbrev c_A_sumOfOrdered : ByteArray := prog_2_method_4_code
abbrev y_A_sumOfOrdered : MethodName := ⟨R_A, "sumOfOrdered", "(JJ)J"⟩
abbrev c_A_product : ByteArray := prog_2_method_5_code
abbrev y_A_product : MethodName := ⟨R_A, "product", "(JJ)J"⟩
abbrev c_A_productOfFinite : ByteArray := prog_2_method_6_code
abbrev y_A_productOfFinite : MethodName := ⟨R_A, "productOfFinite", "(JJJ)J"⟩
abbrev c_A_quotient : ByteArray := prog_2_method_7_code
abbrev y_A_quotient : MethodName := ⟨R_A, "quotient", "(JJ)J"⟩
abbrev c_A_quotientOfFinite : ByteArray := prog_2_method_8_code
abbrev y_A_quotientOfFinite : MethodName := ⟨R_A, "quotientOfFinite", "(JJJ)J"⟩
abbrev c_A_remainder : ByteArray := prog_2_method_9_code
abbrev y_A_remainder : MethodName := ⟨R_A, "remainder", "(JJ)J"⟩
abbrev c_A_root : ByteArray := prog_2_method_10_code
abbrev y_A_root : MethodName := ⟨R_A, "root", "(J)J"⟩
abbrev c_A_rootOfFinite : ByteArray := prog_2_method_11_code
abbrev y_A_rootOfFinite : MethodName := ⟨R_A, "rootOfFinite", "(J)J"⟩
abbrev c_B_magnitude : ByteArray := prog_3_method_2_code
abbrev y_B_magnitude : MethodName := ⟨R_B, "magnitude", "(J)J"⟩
abbrev c_B_isNan : ByteArray := prog_3_method_3_code
abbrev y_B_isNan : MethodName := ⟨R_B, "isNan", "(J)Z"⟩
abbrev c_B_isInfinite : ByteArray := prog_3_method_4_code
abbrev y_B_isInfinite : MethodName := ⟨R_B, "isInfinite", "(J)Z"⟩
abbrev c_B_isZero : ByteArray := prog_3_method_5_code
abbrev y_B_isZero : MethodName := ⟨R_B, "isZero", "(J)Z"⟩
abbrev c_B_place : ByteArray := prog_3_method_6_code
abbrev y_B_place : MethodName := ⟨R_B, "place", "(J)J"⟩
abbrev c_B_mantissa : ByteArray := prog_3_method_7_code
abbrev y_B_mantissa : MethodName := ⟨R_B, "mantissa", "(J)J"⟩
abbrev c_B_exponent : ByteArray := prog_3_method_8_code
abbrev y_B_exponent : MethodName := ⟨R_B, "exponent", "(J)I"⟩
abbrev c_B_lift : ByteArray := prog_3_method_9_code
abbrev y_B_lift : MethodName := ⟨R_B, "lift", "(J)I"⟩
abbrev c_B_bitLength : ByteArray := prog_3_method_10_code
abbrev y_B_bitLength : MethodName := ⟨R_B, "bitLength", "(J)I"⟩
abbrev c_B_shiftDownWithTrace : ByteArray := prog_3_method_11_code
abbrev y_B_shiftDownWithTrace : MethodName := ⟨R_B, "shiftDownWithTrace", "(JI)J"⟩
abbrev c_B_round : ByteArray := prog_3_method_12_code
abbrev y_B_round : MethodName := ⟨R_B, "round", "(JJI)J"⟩
abbrev c_B_shiftDownToNearest : ByteArray := prog_3_method_13_code
abbrev y_B_shiftDownToNearest : MethodName := ⟨R_B, "shiftDownToNearest", "(JI)J"⟩
abbrev c_E_init : ByteArray := prog_4_method_1_code
abbrev y_E_init : MethodName := ⟨R_E, "<init>", "()V"⟩
abbrev c_E_length : ByteArray := prog_4_method_2_code
abbrev y_E_length : MethodName := ⟨R_E, "length", "()I"⟩
abbrev c_E_pointPlace : ByteArray := prog_4_method_3_code
abbrev y_E_pointPlace : MethodName := ⟨R_E, "pointPlace", "()I"⟩
abbrev c_E_digitAt : ByteArray := prog_4_method_4_code
abbrev y_E_digitAt : MethodName := ⟨R_E, "digitAt", "(I)I"⟩
abbrev c_E_makeZero : ByteArray := prog_4_method_5_code
abbrev y_E_makeZero : MethodName := ⟨R_E, "makeZero", "()V"⟩
abbrev c_E_makeShortest : ByteArray := prog_4_method_6_code
abbrev y_E_makeShortest : MethodName := ⟨R_E, "makeShortest", "(J)V"⟩
abbrev c_E_endShortest : ByteArray := prog_4_method_7_code
abbrev y_E_endShortest : MethodName := ⟨R_E, "endShortest", "(Z)Z"⟩
abbrev c_E_twiceRestToScale : ByteArray := prog_4_method_8_code
abbrev y_E_twiceRestToScale : MethodName := ⟨R_E, "twiceRestToScale", "()I"⟩
abbrev c_E_makeDigits : ByteArray := prog_4_method_9_code
abbrev y_E_makeDigits : MethodName := ⟨R_E, "makeDigits", "(JI)V"⟩
abbrev c_E_makePlaces : ByteArray := prog_4_method_10_code
abbrev y_E_makePlaces : MethodName := ⟨R_E, "makePlaces", "(JI)V"⟩
abbrev c_E_takeDigits : ByteArray := prog_4_method_11_code
abbrev y_E_takeDigits : MethodName := ⟨R_E, "takeDigits", "(I)V"⟩
abbrev c_E_append : ByteArray := prog_4_method_12_code
abbrev y_E_append : MethodName := ⟨R_E, "append", "(I)V"⟩
abbrev c_E_countUp : ByteArray := prog_4_method_13_code
abbrev y_E_countUp : MethodName := ⟨R_E, "countUp", "()V"⟩
abbrev c_E_dropTrailingZeros : ByteArray := prog_4_method_14_code
abbrev y_E_dropTrailingZeros : MethodName := ⟨R_E, "dropTrailingZeros", "()V"⟩
abbrev c_E_begin : ByteArray := prog_4_method_15_code
abbrev y_E_begin : MethodName := ⟨R_E, "begin", "(J)V"⟩
abbrev c_E_placesBefore : ByteArray := prog_4_method_16_code
abbrev y_E_placesBefore : MethodName := ⟨R_E, "placesBefore", "(I)I"⟩
abbrev c_N_init : ByteArray := prog_5_method_1_code
abbrev y_N_init : MethodName := ⟨R_N, "<init>", "()V"⟩
abbrev c_N_set : ByteArray := prog_5_method_2_code
abbrev y_N_set : MethodName := ⟨R_N, "set", "(J)V"⟩
abbrev c_N_copy : ByteArray := prog_5_method_3_code
abbrev y_N_copy : MethodName := ⟨R_N, "copy", "(LDoubleBits$Natural;)V"⟩
abbrev c_N_isZero : ByteArray := prog_5_method_4_code
abbrev y_N_isZero : MethodName := ⟨R_N, "isZero", "()Z"⟩
abbrev c_N_limbAt : ByteArray := prog_5_method_5_code
abbrev y_N_limbAt : MethodName := ⟨R_N, "limbAt", "(I)I"⟩
abbrev c_N_dropLeadingZeros : ByteArray := prog_5_method_6_code
abbrev y_N_dropLeadingZeros : MethodName := ⟨R_N, "dropLeadingZeros", "()V"⟩
abbrev c_N_bitLength : ByteArray := prog_5_method_7_code
abbrev y_N_bitLength : MethodName := ⟨R_N, "bitLength", "()I"⟩
abbrev c_N_slack : ByteArray := prog_5_method_8_code
abbrev y_N_slack : MethodName := ⟨R_N, "slack", "()I"⟩
abbrev c_N_order : ByteArray := prog_5_method_9_code
abbrev y_N_order : MethodName := ⟨R_N, "order", "(LDoubleBits$Natural;)I"⟩
abbrev c_N_add : ByteArray := prog_5_method_10_code
abbrev y_N_add : MethodName := ⟨R_N, "add", "(LDoubleBits$Natural;)V"⟩
abbrev c_N_multiplyAndAdd : ByteArray := prog_5_method_11_code
abbrev y_N_multiplyAndAdd : MethodName := ⟨R_N, "multiplyAndAdd", "(II)V"⟩
abbrev c_N_append : ByteArray := prog_5_method_12_code
abbrev y_N_append : MethodName := ⟨R_N, "append", "(I)V"⟩
abbrev c_N_multiplyByPowerOfTen : ByteArray := prog_5_method_13_code
abbrev y_N_multiplyByPowerOfTen : MethodName := ⟨R_N, "multiplyByPowerOfTen", "(I)V"⟩
abbrev c_N_shiftUp : ByteArray := prog_5_method_14_code
abbrev y_N_shiftUp : MethodName := ⟨R_N, "shiftUp", "(I)V"⟩
abbrev c_N_takeFrom : ByteArray := prog_5_method_15_code
abbrev y_N_takeFrom : MethodName := ⟨R_N, "takeFrom", "(I)I"⟩
abbrev c_N_divideBySmall : ByteArray := prog_5_method_16_code
abbrev y_N_divideBySmall : MethodName := ⟨R_N, "divideBySmall", "(I)I"⟩
abbrev c_N_divideLeavingRest : ByteArray := prog_5_method_17_code
abbrev y_N_divideLeavingRest : MethodName := ⟨R_N, "divideLeavingRest", "(LDoubleBits$Natural;)I"⟩
abbrev c_N_subtractTimes : ByteArray := prog_5_method_18_code
abbrev y_N_subtractTimes : MethodName := ⟨R_N, "subtractTimes", "(LDoubleBits$Natural;I)V"⟩
abbrev c_P_init : ByteArray := prog_6_method_1_code
abbrev y_P_init : MethodName := ⟨R_P, "<init>", "()V"⟩
abbrev c_P_clear : ByteArray := prog_6_method_2_code
abbrev y_P_clear : MethodName := ⟨R_P, "clear", "()V"⟩
abbrev c_P_length : ByteArray := prog_6_method_3_code
abbrev y_P_length : MethodName := ⟨R_P, "length", "()I"⟩
abbrev c_P_unitAt : ByteArray := prog_6_method_4_code
abbrev y_P_unitAt : MethodName := ⟨R_P, "unitAt", "(I)I"⟩
abbrev c_P_add : ByteArray := prog_6_method_5_code
abbrev y_P_add : MethodName := ⟨R_P, "add", "(C)V"⟩
abbrev c_P_addText : ByteArray := prog_6_method_6_code
abbrev y_P_addText : MethodName := ⟨R_P, "addText", "(Ljava/lang/String;)V"⟩
abbrev c_P_addDigit : ByteArray := prog_6_method_7_code
abbrev y_P_addDigit : MethodName := ⟨R_P, "addDigit", "(I)V"⟩
abbrev c_P_addZeros : ByteArray := prog_6_method_8_code
abbrev y_P_addZeros : MethodName := ⟨R_P, "addZeros", "(I)V"⟩
abbrev c_P_addExponent : ByteArray := prog_6_method_9_code
abbrev y_P_addExponent : MethodName := ⟨R_P, "addExponent", "(I)V"⟩
abbrev c_P_turnRoundFrom : ByteArray := prog_6_method_10_code
abbrev y_P_turnRoundFrom : MethodName := ⟨R_P, "turnRoundFrom", "(I)V"⟩
abbrev c_P_dropTrailing : ByteArray := prog_6_method_11_code
abbrev y_P_dropTrailing : MethodName := ⟨R_P, "dropTrailing", "(C)V"⟩
abbrev c_R_init : ByteArray := prog_7_method_1_code
abbrev y_R_init : MethodName := ⟨R_R, "<init>", "()V"⟩
abbrev c_R_hasRoomFor : ByteArray := prog_7_method_2_code
abbrev y_R_hasRoomFor : MethodName := ⟨R_R, "hasRoomFor", "(I)Z"⟩
abbrev c_R_append : ByteArray := prog_7_method_3_code
abbrev y_R_append : MethodName := ⟨R_R, "append", "(I)V"⟩
abbrev c_R_length : ByteArray := prog_7_method_4_code
abbrev y_R_length : MethodName := ⟨R_R, "length", "()I"⟩
abbrev c_R_clear : ByteArray := prog_7_method_5_code
abbrev y_R_clear : MethodName := ⟨R_R, "clear", "()V"⟩
abbrev c_R_numberOfText : ByteArray := prog_7_method_6_code
abbrev y_R_numberOfText : MethodName := ⟨R_R, "numberOfText", "()J"⟩
abbrev c_R_takeBlanksOff : ByteArray := prog_7_method_7_code
abbrev y_R_takeBlanksOff : MethodName := ⟨R_R, "takeBlanksOff", "()V"⟩
abbrev c_R_isBlank : ByteArray := prog_7_method_8_code
abbrev y_R_isBlank : MethodName := ⟨R_R, "isBlank", "(I)Z"⟩
abbrev c_R_unitAt : ByteArray := prog_7_method_9_code
abbrev y_R_unitAt : MethodName := ⟨R_R, "unitAt", "(I)I"⟩
abbrev c_R_isDigit : ByteArray := prog_7_method_10_code
abbrev y_R_isDigit : MethodName := ⟨R_R, "isDigit", "(I)Z"⟩
abbrev c_R_hexadecimal : ByteArray := prog_7_method_11_code
abbrev y_R_hexadecimal : MethodName := ⟨R_R, "hexadecimal", "()J"⟩
abbrev c_R_hexadecimalDigit : ByteArray := prog_7_method_12_code
abbrev y_R_hexadecimalDigit : MethodName := ⟨R_R, "hexadecimalDigit", "(I)I"⟩
abbrev c_R_takeMinus : ByteArray := prog_7_method_13_code
abbrev y_R_takeMinus : MethodName := ⟨R_R, "takeMinus", "()Z"⟩
abbrev c_R_isInfinityLeft : ByteArray := prog_7_method_14_code
abbrev y_R_isInfinityLeft : MethodName := ⟨R_R, "isInfinityLeft", "()Z"⟩
abbrev c_R_takeDecimal : ByteArray := prog_7_method_15_code
abbrev y_R_takeDecimal : MethodName := ⟨R_R, "takeDecimal", "()Z"⟩
abbrev c_R_takeDigits : ByteArray := prog_7_method_16_code
abbrev y_R_takeDigits : MethodName := ⟨R_R, "takeDigits", "(Z)I"⟩
abbrev c_R_takeDigit : ByteArray := prog_7_method_17_code
abbrev y_R_takeDigit : MethodName := ⟨R_R, "takeDigit", "(IZ)V"⟩
abbrev c_R_takeExponent : ByteArray := prog_7_method_18_code
abbrev y_R_takeExponent : MethodName := ⟨R_R, "takeExponent", "()Z"⟩
abbrev c_R_roundedDecimal : ByteArray := prog_7_method_19_code
abbrev y_R_roundedDecimal : MethodName := ⟨R_R, "roundedDecimal", "()J"⟩
abbrev c_R_roundedQuotient : ByteArray := prog_7_method_20_code
abbrev y_R_roundedQuotient : MethodName := ⟨R_R, "roundedQuotient", "()J"⟩
abbrev c_T_init : ByteArray := prog_8_method_1_code
abbrev y_T_init : MethodName := ⟨R_T, "<init>", "()V"⟩
abbrev c_T_length : ByteArray := prog_8_method_2_code
abbrev y_T_length : MethodName := ⟨R_T, "length", "()I"⟩
abbrev c_T_unitAt : ByteArray := prog_8_method_3_code
abbrev y_T_unitAt : MethodName := ⟨R_T, "unitAt", "(I)I"⟩
abbrev c_T_begin : ByteArray := prog_8_method_4_code
abbrev y_T_begin : MethodName := ⟨R_T, "begin", "(J)Z"⟩
abbrev c_T_writeText : ByteArray := prog_8_method_5_code
abbrev y_T_writeText : MethodName := ⟨R_T, "writeText", "(J)V"⟩
abbrev c_T_writeFixed : ByteArray := prog_8_method_6_code
abbrev y_T_writeFixed : MethodName := ⟨R_T, "writeFixed", "(JI)V"⟩
abbrev c_T_writeExponential : ByteArray := prog_8_method_7_code
abbrev y_T_writeExponential : MethodName := ⟨R_T, "writeExponential", "(JI)V"⟩
abbrev c_T_writePrecise : ByteArray := prog_8_method_8_code
abbrev y_T_writePrecise : MethodName := ⟨R_T, "writePrecise", "(JI)V"⟩
abbrev c_T_addScientific : ByteArray := prog_8_method_9_code
abbrev y_T_addScientific : MethodName := ⟨R_T, "addScientific", "(I)V"⟩
abbrev c_T_addPlain : ByteArray := prog_8_method_10_code
abbrev y_T_addPlain : MethodName := ⟨R_T, "addPlain", "(I)V"⟩
abbrev c_T_addDigitsBeforePoint : ByteArray := prog_8_method_11_code
abbrev y_T_addDigitsBeforePoint : MethodName := ⟨R_T, "addDigitsBeforePoint", "()V"⟩
abbrev c_T_writeInRadix : ByteArray := prog_8_method_12_code
abbrev y_T_writeInRadix : MethodName := ⟨R_T, "writeInRadix", "(JI)V"⟩
abbrev c_T_addWholeInRadix : ByteArray := prog_8_method_13_code
abbrev y_T_addWholeInRadix : MethodName := ⟨R_T, "addWholeInRadix", "(I)V"⟩
abbrev c_T_addRestInRadix : ByteArray := prog_8_method_14_code
abbrev y_T_addRestInRadix : MethodName := ⟨R_T, "addRestInRadix", "(JII)V"⟩
abbrev c_H_wholeNear : ByteArray := prog_9_method_2_code
abbrev y_H_wholeNear : MethodName := ⟨R_H, "wholeNear", "(JI)J"⟩
abbrev c_H_goesAway : ByteArray := prog_9_method_3_code
abbrev y_H_goesAway : MethodName := ⟨R_H, "goesAway", "(ZJJI)Z"⟩
abbrev c_H_lowBits : ByteArray := prog_9_method_4_code
abbrev y_H_lowBits : MethodName := ⟨R_H, "lowBits", "(J)J"⟩
abbrev c_L_put : ByteArray := method_3_code
abbrev y_L_put : MethodName := ⟨R_L, "put", "(LDoubleBits;JI[J)I"⟩
abbrev c_L_reckon : ByteArray := method_4_code
abbrev y_L_reckon : MethodName := ⟨R_L, "reckon", "(LDoubleBits;JJI[J)I"⟩
abbrev c_L_turn : ByteArray := method_5_code
abbrev y_L_turn : MethodName := ⟨R_L, "turn", "(LDoubleBits;JI[J)I"⟩
abbrev c_L_whole : ByteArray := method_6_code
abbrev y_L_whole : MethodName := ⟨R_L, "whole", "(LDoubleBits;JI[J)I"⟩
abbrev c_L_radix : ByteArray := method_7_code
abbrev y_L_radix : MethodName := ⟨R_L, "radix", "(LDoubleBits;JI[J)I"⟩
abbrev c_L_form : ByteArray := method_8_code
abbrev y_L_form : MethodName := ⟨R_L, "form", "(LDoubleBits;JII[J)I"⟩
abbrev c_L_unit : ByteArray := method_9_code
abbrev y_L_unit : MethodName := ⟨R_L, "unit", "(LDoubleBits;I[J)I"⟩
abbrev c_JS_length : ByteArray := prog_18_method_54_code
abbrev y_JS_length : MethodName := ⟨"java/lang/String", "length", "()I"⟩
abbrev c_JS_charAt : ByteArray := prog_18_method_56_code
abbrev y_JS_charAt : MethodName := ⟨"java/lang/String", "charAt", "(I)C"⟩
abbrev c_JS_coder : ByteArray := prog_18_method_152_code
abbrev y_JS_coder : MethodName := ⟨"java/lang/String", "coder", "()B"⟩
abbrev c_JS_isLatin1 : ByteArray := prog_18_method_154_code
abbrev y_JS_isLatin1 : MethodName := ⟨"java/lang/String", "isLatin1", "()Z"⟩
abbrev c_JS_checkIndex : ByteArray := prog_18_method_155_code
abbrev y_JS_checkIndex : MethodName := ⟨"java/lang/String", "checkIndex", "(II)V"⟩
abbrev c_JL_charAt : ByteArray := prog_19_method_2_code
abbrev y_JL_charAt : MethodName := ⟨"java/lang/StringLatin1", "charAt", "([BI)C"⟩
abbrev c_JP_checkIndex : ByteArray := prog_22_method_11_code
abbrev y_JP_checkIndex : MethodName := ⟨"jdk/internal/util/Preconditions", "checkIndex", "(IILjava/util/function/BiFunction;)I"⟩
theorem zm1 {w : Cond} (h : w ∈ tables_1_1) : w ∈ lw_tbl := List.mem_append_right _ (List.mem_append_left _ h)
theorem zm2 {w : Cond} (h : w ∈ tables_1_2) : w ∈ lw_tbl := List.mem_append_right _ (List.mem_append_right _ (List.mem_append_left _ h))
theorem zm3 {w : Cond} (h : w ∈ tables_1_3) : w ∈ lw_tbl := List.mem_append_right _ (List.mem_append_right _ (List.mem_append_right _ (List.mem_append_left _ h)))
theorem zm4 {w : Cond} (h : w ∈ tables_1_4) : w ∈ lw_tbl := List.mem_append_right _ (List.mem_append_right _ (List.mem_append_right _ (List.mem_append_right _ (List.mem_append_left _ h))))
theorem zm5 {w : Cond} (h : w ∈ tables_1_5) : w ∈ lw_tbl := List.mem_append_right _ (List.mem_append_right _ (List.mem_append_right _ (List.mem_append_right _ (List.mem_append_right _ h))))
def T0 : List Cond := lw_tbl.filter goodWord
theorem z0 {w : Cond} (h : w ∈ lw_tbl) (g : goodWord w = true) : w ∈ T0 := List.mem_filter.mpr ⟨h, g⟩
theorem zmp {w : Cond} (h : w ∈ k2_sels lw_privs) : w ∈ lw_tbl := List.mem_append_left _ h
theorem zin_L : (.initialized R_L : Cond) ∈ T0 := z0 (zm1 (List.mem_of_getElem? (i := 0) rfl)) rfl
theorem zin_D : (.initialized R_D : Cond) ∈ T0 := z0 (zm1 (List.mem_of_getElem? (i := 1) rfl)) rfl
theorem zin_R : (.initialized R_R : Cond) ∈ T0 := z0 (zm1 (List.mem_of_getElem? (i := 2) rfl)) rfl
theorem zin_N : (.initialized R_N : Cond) ∈ T0 := z0 (zm1 (List.mem_of_getElem? (i := 3) rfl)) rfl
theorem zin_T : (.initialized R_T : Cond) ∈ T0 := z0 (zm1 (List.mem_of_getElem? (i := 4) rfl)) rfl
theorem zin_P : (.initialized R_P : Cond) ∈ T0 := z0 (zm1 (List.mem_of_getElem? (i := 5) rfl)) rfl
theorem zin_E : (.initialized R_E : Cond) ∈ T0 := z0 (zm1 (List.mem_of_getElem? (i := 6) rfl)) rfl
theorem zin_M : (.initialized R_M : Cond) ∈ T0 := z0 (zm1 (List.mem_of_getElem? (i := 7) rfl)) rfl
theorem zin_JT : (.initialized "java/lang/Throwable" : Cond) ∈ T0 := z0 (zm1 (List.mem_of_getElem? (i := 8) rfl)) rfl
theorem zin_JX : (.initialized "java/lang/Exception" : Cond) ∈ T0 := z0 (zm1 (List.mem_of_getElem? (i := 9) rfl)) rfl
theorem zin_JR : (.initialized "java/lang/RuntimeException" : Cond) ∈ T0 := z0 (zm1 (List.mem_of_getElem? (i := 10) rfl)) rfl
theorem zin_JA : (.initialized "java/lang/IllegalArgumentException" : Cond) ∈ T0 := z0 (zm1 (List.mem_of_getElem? (i := 11) rfl)) rfl
theorem zin_JI : (.initialized "java/lang/IllegalStateException" : Cond) ∈ T0 := z0 (zm1 (List.mem_of_getElem? (i := 12) rfl)) rfl
theorem zin_B : (.initialized R_B : Cond) ∈ T0 := z0 (zm1 (List.mem_of_getElem? (i := 13) rfl)) rfl
theorem zin_JM : (.initialized "java/lang/Math" : Cond) ∈ T0 := z0 (zm1 (List.mem_of_getElem? (i := 14) rfl)) rfl
theorem zin_JS : (.initialized "java/lang/String" : Cond) ∈ T0 := z0 (zm1 (List.mem_of_getElem? (i := 15) rfl)) rfl
theorem zin_JL : (.initialized "java/lang/StringLatin1" : Cond) ∈ T0 := z0 (zm1 (List.mem_of_getElem? (i := 16) rfl)) rfl
theorem zin_JP : (.initialized "jdk/internal/util/Preconditions" : Cond) ∈ T0 := z0 (zm1 (List.mem_of_getElem? (i := 17) rfl)) rfl
theorem zin_JU : (.initialized "java/lang/StringUTF16" : Cond) ∈ T0 := z0 (zm1 (List.mem_of_getElem? (i := 18) rfl)) rfl
theorem zin_A : (.initialized R_A : Cond) ∈ T0 := z0 (zm1 (List.mem_of_getElem? (i := 19) rfl)) rfl
theorem zin_H : (.initialized R_H : Cond) ∈ T0 := z0 (zm1 (List.mem_of_getElem? (i := 20) rfl)) rfl
theorem zin_JB : (.initialized "java/lang/IndexOutOfBoundsException" : Cond) ∈ T0 := z0 (zm1 (List.mem_of_getElem? (i := 21) rfl)) rfl
theorem zcl_L_8 : (.classLink R_L 8 R_D : Cond) ∈ T0 := z0 (zm1 (List.mem_of_getElem? (i := 22) rfl)) rfl
theorem zis_D : (.instantiable R_D 2 : Cond) ∈ T0 := z0 (zm1 (List.mem_of_getElem? (i := 23) rfl)) rfl
theorem zml_L_41 : (.methodLink R_L 41 y_D_init : Cond) ∈ T0 := z0 (zm1 (List.mem_of_getElem? (i := 24) rfl)) rfl
theorem zim_D_init : (.instanceMethod y_D_init : Cond) ∈ T0 := z0 (zm1 (List.mem_of_getElem? (i := 25) rfl)) rfl
theorem zco_D_init : (.code y_D_init c_D_init 1 none : Cond) ∈ T0 := z0 (zm1 (List.mem_of_getElem? (i := 26) rfl)) rfl
theorem zml_D_1 : (.methodLink R_D 1 ⟨"java/lang/Object", "<init>", "()V"⟩ : Cond) ∈ T0 := z0 (zm1 (List.mem_of_getElem? (i := 27) rfl)) rfl
theorem zim_JO_init : (.instanceMethod ⟨"java/lang/Object", "<init>", "()V"⟩ : Cond) ∈ T0 := z0 (zm1 (List.mem_of_getElem? (i := 28) rfl)) rfl
theorem zco_JO_init : (.code Lib.objectInit ⟨#[0xb1]⟩ 1 none : Cond) ∈ T0 := z0 (zm1 (List.mem_of_getElem? (i := 29) rfl)) rfl
theorem zcl_D_7 : (.classLink R_D 7 R_R : Cond) ∈ T0 := z0 (zm1 (List.mem_of_getElem? (i := 30) rfl)) rfl
theorem zis_R : (.instantiable R_R 8 : Cond) ∈ T0 := z0 (zm1 (List.mem_of_getElem? (i := 31) rfl)) rfl
theorem zml_D_9 : (.methodLink R_D 9 y_R_init : Cond) ∈ T0 := z0 (zm1 (List.mem_of_getElem? (i := 32) rfl)) rfl
theorem zim_R_init : (.instanceMethod y_R_init : Cond) ∈ T0 := z0 (zm1 (List.mem_of_getElem? (i := 33) rfl)) rfl
theorem zco_R_init : (.code y_R_init c_R_init 1 none : Cond) ∈ T0 := z0 (zm1 (List.mem_of_getElem? (i := 34) rfl)) rfl
theorem zml_R_1 : (.methodLink R_R 1 ⟨"java/lang/Object", "<init>", "()V"⟩ : Cond) ∈ T0 := z0 (zm1 (List.mem_of_getElem? (i := 35) rfl)) rfl
theorem zcl_R_23 : (.classLink R_R 23 R_N : Cond) ∈ T0 := z0 (zm1 (List.mem_of_getElem? (i := 36) rfl)) rfl
theorem zis_N : (.instantiable R_N 2 : Cond) ∈ T0 := z0 (zm1 (List.mem_of_getElem? (i := 37) rfl)) rfl
theorem zml_R_25 : (.methodLink R_R 25 y_N_init : Cond) ∈ T0 := z0 (zm1 (List.mem_of_getElem? (i := 38) rfl)) rfl
theorem zim_N_init : (.instanceMethod y_N_init : Cond) ∈ T0 := z0 (zm1 (List.mem_of_getElem? (i := 39) rfl)) rfl
theorem zco_N_init : (.code y_N_init c_N_init 1 none : Cond) ∈ T0 := z0 (zm1 (List.mem_of_getElem? (i := 40) rfl)) rfl
theorem zml_N_3 : (.methodLink R_N 3 ⟨"java/lang/Object", "<init>", "()V"⟩ : Cond) ∈ T0 := z0 (zm1 (List.mem_of_getElem? (i := 41) rfl)) rfl
theorem zfl_N_9 : (.fieldLink R_N 9 "DoubleBits$Natural" "limbs" "[I" : Cond) ∈ T0 := z0 (zm1 (List.mem_of_getElem? (i := 42) rfl)) rfl
theorem zfl_N_13 : (.fieldLink R_N 13 "DoubleBits$Natural" "used" "I" : Cond) ∈ T0 := z0 (zm1 (List.mem_of_getElem? (i := 43) rfl)) rfl
theorem zac_int : (.arrayClass .int : Cond) ∈ T0 := z0 (zm1 (List.mem_of_getElem? (i := 49) rfl)) rfl
theorem zfl_R_9 : (.fieldLink R_R 9 "DoubleBits$TextReader" "units" "[I" : Cond) ∈ T0 := z0 (zm1 (List.mem_of_getElem? (i := 50) rfl)) rfl
theorem zfl_R_13 : (.fieldLink R_R 13 "DoubleBits$TextReader" "count" "I" : Cond) ∈ T0 := z0 (zm1 (List.mem_of_getElem? (i := 51) rfl)) rfl
theorem zfl_R_17 : (.fieldLink R_R 17 "DoubleBits$TextReader" "at" "I" : Cond) ∈ T0 := z0 (zm1 (List.mem_of_getElem? (i := 52) rfl)) rfl
theorem zfl_R_20 : (.fieldLink R_R 20 "DoubleBits$TextReader" "end" "I" : Cond) ∈ T0 := z0 (zm1 (List.mem_of_getElem? (i := 53) rfl)) rfl
theorem zfl_R_26 : (.fieldLink R_R 26 "DoubleBits$TextReader" "numerator" "LDoubleBits$Natural;" : Cond) ∈ T0 := z0 (zm1 (List.mem_of_getElem? (i := 54) rfl)) rfl
theorem zfl_R_30 : (.fieldLink R_R 30 "DoubleBits$TextReader" "denominator" "LDoubleBits$Natural;" : Cond) ∈ T0 := z0 (zm1 (List.mem_of_getElem? (i := 55) rfl)) rfl
theorem zfl_R_33 : (.fieldLink R_R 33 "DoubleBits$TextReader" "counting" "I" : Cond) ∈ T0 := z0 (zm1 (List.mem_of_getElem? (i := 56) rfl)) rfl
theorem zfl_R_36 : (.fieldLink R_R 36 "DoubleBits$TextReader" "power" "I" : Cond) ∈ T0 := z0 (zm1 (List.mem_of_getElem? (i := 57) rfl)) rfl
theorem zcl_D_16 : (.classLink R_D 16 R_T : Cond) ∈ T0 := z0 (zm1 (List.mem_of_getElem? (i := 75) rfl)) rfl
theorem zis_T : (.instantiable R_T 3 : Cond) ∈ T0 := z0 (zm1 (List.mem_of_getElem? (i := 76) rfl)) rfl
theorem zml_D_18 : (.methodLink R_D 18 y_T_init : Cond) ∈ T0 := z0 (zm1 (List.mem_of_getElem? (i := 77) rfl)) rfl
theorem zim_T_init : (.instanceMethod y_T_init : Cond) ∈ T0 := z0 (zm1 (List.mem_of_getElem? (i := 78) rfl)) rfl
theorem zco_T_init : (.code y_T_init c_T_init 1 none : Cond) ∈ T0 := z0 (zm1 (List.mem_of_getElem? (i := 79) rfl)) rfl
theorem zml_T_1 : (.methodLink R_T 1 ⟨"java/lang/Object", "<init>", "()V"⟩ : Cond) ∈ T0 := z0 (zm1 (List.mem_of_getElem? (i := 80) rfl)) rfl
theorem zcl_T_7 : (.classLink R_T 7 R_P : Cond) ∈ T0 := z0 (zm1 (List.mem_of_getElem? (i := 81) rfl)) rfl
theorem zis_P : (.instantiable R_P 2 : Cond) ∈ T0 := z0 (zm1 (List.mem_of_getElem? (i := 82) rfl)) rfl
theorem zml_T_9 : (.methodLink R_T 9 y_P_init : Cond) ∈ T0 := z0 (zm1 (List.mem_of_getElem? (i := 83) rfl)) rfl
theorem zim_P_init : (.instanceMethod y_P_init : Cond) ∈ T0 := z0 (zm1 (List.mem_of_getElem? (i := 84) rfl)) rfl
theorem zco_P_init : (.code y_P_init c_P_init 1 none : Cond) ∈ T0 := z0 (zm1 (List.mem_of_getElem? (i := 85) rfl)) rfl
theorem zml_P_1 : (.methodLink R_P 1 ⟨"java/lang/Object", "<init>", "()V"⟩ : Cond) ∈ T0 := z0 (zm1 (List.mem_of_getElem? (i := 86) rfl)) rfl
theorem zfl_P_9 : (.fieldLink R_P 9 "DoubleBits$Page" "units" "[C" : Cond) ∈ T0 := z0 (zm1 (List.mem_of_getElem? (i := 87) rfl)) rfl
theorem zfl_P_13 : (.fieldLink R_P 13 "DoubleBits$Page" "count" "I" : Cond) ∈ T0 := z0 (zm1 (List.mem_of_getElem? (i := 88) rfl)) rfl
theorem zac_char : (.arrayClass .char : Cond) ∈ T0 := z0 (zm1 (List.mem_of_getElem? (i := 94) rfl)) rfl
theorem zcl_T_16 : (.classLink R_T 16 R_E : Cond) ∈ T0 := z0 (zm1 (List.mem_of_getElem? (i := 95) rfl)) rfl
theorem zis_E : (.instantiable R_E 8 : Cond) ∈ T0 := z0 (zm1 (List.mem_of_getElem? (i := 96) rfl)) rfl
theorem zml_T_18 : (.methodLink R_T 18 y_E_init : Cond) ∈ T0 := z0 (zm1 (List.mem_of_getElem? (i := 97) rfl)) rfl
theorem zim_E_init : (.instanceMethod y_E_init : Cond) ∈ T0 := z0 (zm1 (List.mem_of_getElem? (i := 98) rfl)) rfl
theorem zco_E_init : (.code y_E_init c_E_init 1 none : Cond) ∈ T0 := z0 (zm1 (List.mem_of_getElem? (i := 99) rfl)) rfl
theorem zml_E_1 : (.methodLink R_E 1 ⟨"java/lang/Object", "<init>", "()V"⟩ : Cond) ∈ T0 := z0 (zm1 (List.mem_of_getElem? (i := 100) rfl)) rfl
theorem zcl_E_13 : (.classLink R_E 13 R_N : Cond) ∈ T0 := z0 (zm1 (List.mem_of_getElem? (i := 101) rfl)) rfl
theorem zml_E_15 : (.methodLink R_E 15 y_N_init : Cond) ∈ T0 := z0 (zm1 (List.mem_of_getElem? (i := 102) rfl)) rfl
theorem zfl_E_9 : (.fieldLink R_E 9 "DoubleBits$Decimal" "digits" "[I" : Cond) ∈ T0 := z0 (zm1 (List.mem_of_getElem? (i := 103) rfl)) rfl
theorem zfl_E_32 : (.fieldLink R_E 32 "DoubleBits$Decimal" "count" "I" : Cond) ∈ T0 := z0 (zm1 (List.mem_of_getElem? (i := 104) rfl)) rfl
theorem zfl_E_36 : (.fieldLink R_E 36 "DoubleBits$Decimal" "point" "I" : Cond) ∈ T0 := z0 (zm1 (List.mem_of_getElem? (i := 105) rfl)) rfl
theorem zfl_E_16 : (.fieldLink R_E 16 "DoubleBits$Decimal" "rest" "LDoubleBits$Natural;" : Cond) ∈ T0 := z0 (zm1 (List.mem_of_getElem? (i := 106) rfl)) rfl
theorem zfl_E_20 : (.fieldLink R_E 20 "DoubleBits$Decimal" "scale" "LDoubleBits$Natural;" : Cond) ∈ T0 := z0 (zm1 (List.mem_of_getElem? (i := 107) rfl)) rfl
theorem zfl_E_23 : (.fieldLink R_E 23 "DoubleBits$Decimal" "below" "LDoubleBits$Natural;" : Cond) ∈ T0 := z0 (zm1 (List.mem_of_getElem? (i := 108) rfl)) rfl
theorem zfl_E_26 : (.fieldLink R_E 26 "DoubleBits$Decimal" "above" "LDoubleBits$Natural;" : Cond) ∈ T0 := z0 (zm1 (List.mem_of_getElem? (i := 109) rfl)) rfl
theorem zfl_E_29 : (.fieldLink R_E 29 "DoubleBits$Decimal" "sum" "LDoubleBits$Natural;" : Cond) ∈ T0 := z0 (zm1 (List.mem_of_getElem? (i := 110) rfl)) rfl
theorem zcl_T_23 : (.classLink R_T 23 R_N : Cond) ∈ T0 := z0 (zm1 (List.mem_of_getElem? (i := 128) rfl)) rfl
theorem zml_T_25 : (.methodLink R_T 25 y_N_init : Cond) ∈ T0 := z0 (zm1 (List.mem_of_getElem? (i := 129) rfl)) rfl
theorem zfl_T_10 : (.fieldLink R_T 10 "DoubleBits$TextWriter" "page" "LDoubleBits$Page;" : Cond) ∈ T0 := z0 (zm1 (List.mem_of_getElem? (i := 130) rfl)) rfl
theorem zfl_T_19 : (.fieldLink R_T 19 "DoubleBits$TextWriter" "decimal" "LDoubleBits$Decimal;" : Cond) ∈ T0 := z0 (zm1 (List.mem_of_getElem? (i := 131) rfl)) rfl
theorem zfl_T_26 : (.fieldLink R_T 26 "DoubleBits$TextWriter" "natural" "LDoubleBits$Natural;" : Cond) ∈ T0 := z0 (zm1 (List.mem_of_getElem? (i := 132) rfl)) rfl
theorem zfl_D_10 : (.fieldLink R_D 10 "DoubleBits" "reader" "LDoubleBits$TextReader;" : Cond) ∈ T0 := z0 (zm1 (List.mem_of_getElem? (i := 140) rfl)) rfl
theorem zfl_D_19 : (.fieldLink R_D 19 "DoubleBits" "writer" "LDoubleBits$TextWriter;" : Cond) ∈ T0 := z0 (zm1 (List.mem_of_getElem? (i := 141) rfl)) rfl
theorem zml_L_57 : (.methodLink R_L 57 y_D_read : Cond) ∈ T0 := z0 (zm1 (List.mem_of_getElem? (i := 147) rfl)) rfl
theorem zim_D_read : (.instanceMethod y_D_read : Cond) ∈ T0 := z0 (zm1 (List.mem_of_getElem? (i := 148) rfl)) rfl
theorem zse_D_D_read : (.selects R_D y_D_read y_D_read : Cond) ∈ T0 := z0 (zm1 (List.mem_of_getElem? (i := 149) rfl)) rfl
theorem zco_D_read : (.code y_D_read c_D_read 3 (some .long) : Cond) ∈ T0 := z0 (zm1 (List.mem_of_getElem? (i := 150) rfl)) rfl
theorem zml_D_48 : (.methodLink R_D 48 y_R_numberOfText : Cond) ∈ T0 := z0 (zm1 (List.mem_of_getElem? (i := 151) rfl)) rfl
theorem zim_R_numberOfText : (.instanceMethod y_R_numberOfText : Cond) ∈ T0 := z0 (zm1 (List.mem_of_getElem? (i := 152) rfl)) rfl
theorem zse_R_R_numberOfText : (.selects R_R y_R_numberOfText y_R_numberOfText : Cond) ∈ T0 := z0 (zm1 (List.mem_of_getElem? (i := 153) rfl)) rfl
theorem zco_R_numberOfText : (.code y_R_numberOfText c_R_numberOfText 3 (some .long) : Cond) ∈ T0 := z0 (zm1 (List.mem_of_getElem? (i := 154) rfl)) rfl
theorem zml_R_39 : (.methodLink R_R 39 y_R_takeBlanksOff : Cond) ∈ T0 := z0 (zm1 (List.mem_of_getElem? (i := 155) rfl)) rfl
theorem zim_R_takeBlanksOff : (.instanceMethod y_R_takeBlanksOff : Cond) ∈ T0 := z0 (zm1 (List.mem_of_getElem? (i := 157) rfl)) rfl
theorem zco_R_takeBlanksOff : (.code y_R_takeBlanksOff c_R_takeBlanksOff 1 none : Cond) ∈ T0 := z0 (zm1 (List.mem_of_getElem? (i := 158) rfl)) rfl
theorem zml_R_71 : (.methodLink R_R 71 y_R_isBlank : Cond) ∈ T0 := z0 (zm1 (List.mem_of_getElem? (i := 159) rfl)) rfl
theorem zst_R_isBlank : (.static y_R_isBlank : Cond) ∈ T0 := z0 (zm1 (List.mem_of_getElem? (i := 160) rfl)) rfl
theorem zco_R_isBlank : (.code y_R_isBlank c_R_isBlank 1 (some .boolean) : Cond) ∈ T0 := z0 (zm1 (List.mem_of_getElem? (i := 161) rfl)) rfl
theorem zki_R_75 : (.constant R_R 75 (65279) : Cond) ∈ T0 := z0 (zm1 (List.mem_of_getElem? (i := 162) rfl)) rfl
theorem zml_R_42 : (.methodLink R_R 42 y_R_unitAt : Cond) ∈ T0 := z0 (zm1 (List.mem_of_getElem? (i := 163) rfl)) rfl
theorem zim_R_unitAt : (.instanceMethod y_R_unitAt : Cond) ∈ T0 := z0 (zm1 (List.mem_of_getElem? (i := 165) rfl)) rfl
theorem zco_R_unitAt : (.code y_R_unitAt c_R_unitAt 2 (some .int) : Cond) ∈ T0 := z0 (zm1 (List.mem_of_getElem? (i := 166) rfl)) rfl
theorem zml_R_46 : (.methodLink R_R 46 y_R_hexadecimal : Cond) ∈ T0 := z0 (zm1 (List.mem_of_getElem? (i := 167) rfl)) rfl
theorem zim_R_hexadecimal : (.instanceMethod y_R_hexadecimal : Cond) ∈ T0 := z0 (zm1 (List.mem_of_getElem? (i := 169) rfl)) rfl
theorem zco_R_hexadecimal : (.code y_R_hexadecimal c_R_hexadecimal 6 (some .long) : Cond) ∈ T0 := z0 (zm1 (List.mem_of_getElem? (i := 170) rfl)) rfl
theorem zkl_R_69 : (.constantLong R_R 69 (9221120237041090560) : Cond) ∈ T0 := z0 (zm1 (List.mem_of_getElem? (i := 171) rfl)) rfl
theorem zml_R_76 : (.methodLink R_R 76 y_R_hexadecimalDigit : Cond) ∈ T0 := z0 (zm1 (List.mem_of_getElem? (i := 172) rfl)) rfl
theorem zst_R_hexadecimalDigit : (.static y_R_hexadecimalDigit : Cond) ∈ T0 := z0 (zm1 (List.mem_of_getElem? (i := 173) rfl)) rfl
theorem zco_R_hexadecimalDigit : (.code y_R_hexadecimalDigit c_R_hexadecimalDigit 1 (some .int) : Cond) ∈ T0 := z0 (zm1 (List.mem_of_getElem? (i := 174) rfl)) rfl
theorem zml_R_83 : (.methodLink R_R 83 y_R_isDigit : Cond) ∈ T0 := z0 (zm1 (List.mem_of_getElem? (i := 175) rfl)) rfl
theorem zst_R_isDigit : (.static y_R_isDigit : Cond) ∈ T0 := z0 (zm1 (List.mem_of_getElem? (i := 176) rfl)) rfl
theorem zco_R_isDigit : (.code y_R_isDigit c_R_isDigit 1 (some .boolean) : Cond) ∈ T0 := z0 (zm1 (List.mem_of_getElem? (i := 177) rfl)) rfl
theorem zml_R_79 : (.methodLink R_R 79 y_B_round : Cond) ∈ T0 := z0 (zm1 (List.mem_of_getElem? (i := 178) rfl)) rfl
theorem zst_B_round : (.static y_B_round : Cond) ∈ T0 := z0 (zm1 (List.mem_of_getElem? (i := 179) rfl)) rfl
theorem zco_B_round : (.code y_B_round c_B_round 9 (some .long) : Cond) ∈ T0 := z0 (zm1 (List.mem_of_getElem? (i := 180) rfl)) rfl
theorem zml_B_25 : (.methodLink R_B 25 y_B_lift : Cond) ∈ T0 := z0 (zm1 (List.mem_of_getElem? (i := 181) rfl)) rfl
theorem zst_B_lift : (.static y_B_lift : Cond) ∈ T0 := z0 (zm1 (List.mem_of_getElem? (i := 182) rfl)) rfl
theorem zco_B_lift : (.code y_B_lift c_B_lift 2 (some .int) : Cond) ∈ T0 := z0 (zm1 (List.mem_of_getElem? (i := 183) rfl)) rfl
theorem zml_B_21 : (.methodLink R_B 21 y_B_bitLength : Cond) ∈ T0 := z0 (zm1 (List.mem_of_getElem? (i := 184) rfl)) rfl
theorem zst_B_bitLength : (.static y_B_bitLength : Cond) ∈ T0 := z0 (zm1 (List.mem_of_getElem? (i := 185) rfl)) rfl
theorem zco_B_bitLength : (.code y_B_bitLength c_B_bitLength 4 (some .int) : Cond) ∈ T0 := z0 (zm1 (List.mem_of_getElem? (i := 186) rfl)) rfl
theorem zml_B_28 : (.methodLink R_B 28 ⟨"java/lang/Math", "max", "(II)I"⟩ : Cond) ∈ T0 := z0 (zm1 (List.mem_of_getElem? (i := 187) rfl)) rfl
theorem zst_JM_max : (.static ⟨"java/lang/Math", "max", "(II)I"⟩ : Cond) ∈ T0 := z0 (zm1 (List.mem_of_getElem? (i := 188) rfl)) rfl
theorem zco_JM_max : (.code Lib.Math.max.name Lib.Math.max.code 2 (some .int) : Cond) ∈ T0 := z0 (zm1 (List.mem_of_getElem? (i := 189) rfl)) rfl
theorem zkl_B_15 : (.constantLong R_B 15 (9218868437227405312) : Cond) ∈ T0 := z0 (zm1 (List.mem_of_getElem? (i := 190) rfl)) rfl
theorem zml_B_34 : (.methodLink R_B 34 y_B_shiftDownToNearest : Cond) ∈ T0 := z0 (zm1 (List.mem_of_getElem? (i := 191) rfl)) rfl
theorem zst_B_shiftDownToNearest : (.static y_B_shiftDownToNearest : Cond) ∈ T0 := z0 (zm1 (List.mem_of_getElem? (i := 192) rfl)) rfl
theorem zco_B_shiftDownToNearest : (.code y_B_shiftDownToNearest c_B_shiftDownToNearest 10 (some .long) : Cond) ∈ T0 := z0 (zm1 (List.mem_of_getElem? (i := 193) rfl)) rfl
theorem zml_R_50 : (.methodLink R_R 50 y_R_takeMinus : Cond) ∈ T0 := z0 (zm1 (List.mem_of_getElem? (i := 194) rfl)) rfl
theorem zim_R_takeMinus : (.instanceMethod y_R_takeMinus : Cond) ∈ T0 := z0 (zm1 (List.mem_of_getElem? (i := 196) rfl)) rfl
theorem zco_R_takeMinus : (.code y_R_takeMinus c_R_takeMinus 2 (some .boolean) : Cond) ∈ T0 := z0 (zm1 (List.mem_of_getElem? (i := 197) rfl)) rfl
theorem zkl_R_56 : (.constantLong R_R 56 (-9223372036854775808) : Cond) ∈ T0 := z0 (zm1 (List.mem_of_getElem? (i := 198) rfl)) rfl
theorem zml_R_58 : (.methodLink R_R 58 y_R_isInfinityLeft : Cond) ∈ T0 := z0 (zm1 (List.mem_of_getElem? (i := 199) rfl)) rfl
theorem zim_R_isInfinityLeft : (.instanceMethod y_R_isInfinityLeft : Cond) ∈ T0 := z0 (zm1 (List.mem_of_getElem? (i := 201) rfl)) rfl
theorem zco_R_isInfinityLeft : (.code y_R_isInfinityLeft c_R_isInfinityLeft 2 (some .boolean) : Cond) ∈ T0 := z0 (zm1 (List.mem_of_getElem? (i := 202) rfl)) rfl
theorem zml_R_88 : (.methodLink R_R 88 y_JS_length : Cond) ∈ T0 := z0 (zm1 (List.mem_of_getElem? (i := 204) rfl)) rfl
theorem zim_JS_length : (.instanceMethod y_JS_length : Cond) ∈ T0 := z0 (zm1 (List.mem_of_getElem? (i := 205) rfl)) rfl
theorem zse_JS_JS_length : (.selects "java/lang/String" y_JS_length y_JS_length : Cond) ∈ T0 := z0 (zm1 (List.mem_of_getElem? (i := 206) rfl)) rfl
theorem zco_JS_length : (.code y_JS_length c_JS_length 1 (some .int) : Cond) ∈ T0 := z0 (zm1 (List.mem_of_getElem? (i := 207) rfl)) rfl
theorem zml_JS_335 : (.methodLink "java/lang/String" 335 y_JS_coder : Cond) ∈ T0 := z0 (zm1 (List.mem_of_getElem? (i := 208) rfl)) rfl
theorem zim_JS_coder : (.instanceMethod y_JS_coder : Cond) ∈ T0 := z0 (zm1 (List.mem_of_getElem? (i := 209) rfl)) rfl
theorem zse_JS_JS_coder : (.selects "java/lang/String" y_JS_coder y_JS_coder : Cond) ∈ T0 := z0 (zm1 (List.mem_of_getElem? (i := 210) rfl)) rfl
theorem zco_JS_coder : (.code y_JS_coder c_JS_coder 1 (some .byte) : Cond) ∈ T0 := z0 (zm1 (List.mem_of_getElem? (i := 211) rfl)) rfl
theorem zfl_JS_38 : (.fieldLink "java/lang/String" 38 "java/lang/String" "COMPACT_STRINGS" "Z" : Cond) ∈ T0 := z0 (zm1 (List.mem_of_getElem? (i := 212) rfl)) rfl
theorem zml_R_94 : (.methodLink R_R 94 y_JS_charAt : Cond) ∈ T0 := z0 (zm1 (List.mem_of_getElem? (i := 214) rfl)) rfl
theorem zim_JS_charAt : (.instanceMethod y_JS_charAt : Cond) ∈ T0 := z0 (zm1 (List.mem_of_getElem? (i := 215) rfl)) rfl
theorem zse_JS_JS_charAt : (.selects "java/lang/String" y_JS_charAt y_JS_charAt : Cond) ∈ T0 := z0 (zm1 (List.mem_of_getElem? (i := 216) rfl)) rfl
theorem zco_JS_charAt : (.code y_JS_charAt c_JS_charAt 2 (some .char) : Cond) ∈ T0 := z0 (zm1 (List.mem_of_getElem? (i := 217) rfl)) rfl
theorem zml_JS_492 : (.methodLink "java/lang/String" 492 y_JS_isLatin1 : Cond) ∈ T0 := z0 (zm1 (List.mem_of_getElem? (i := 218) rfl)) rfl
theorem zim_JS_isLatin1 : (.instanceMethod y_JS_isLatin1 : Cond) ∈ T0 := z0 (zm1 (List.mem_of_getElem? (i := 219) rfl)) rfl
theorem zse_JS_JS_isLatin1 : (.selects "java/lang/String" y_JS_isLatin1 y_JS_isLatin1 : Cond) ∈ T0 := z0 (zm1 (List.mem_of_getElem? (i := 220) rfl)) rfl
theorem zco_JS_isLatin1 : (.code y_JS_isLatin1 c_JS_isLatin1 1 (some .boolean) : Cond) ∈ T0 := z0 (zm1 (List.mem_of_getElem? (i := 221) rfl)) rfl
theorem zml_JS_495 : (.methodLink "java/lang/String" 495 y_JL_charAt : Cond) ∈ T0 := z0 (zm1 (List.mem_of_getElem? (i := 222) rfl)) rfl
theorem zst_JL_charAt : (.static y_JL_charAt : Cond) ∈ T0 := z0 (zm1 (List.mem_of_getElem? (i := 223) rfl)) rfl
theorem zco_JL_charAt : (.code y_JL_charAt c_JL_charAt 2 (some .char) : Cond) ∈ T0 := z0 (zm1 (List.mem_of_getElem? (i := 224) rfl)) rfl
theorem zml_JL_9 : (.methodLink "java/lang/StringLatin1" 9 y_JS_checkIndex : Cond) ∈ T0 := z0 (zm1 (List.mem_of_getElem? (i := 225) rfl)) rfl
theorem zst_JS_checkIndex : (.static y_JS_checkIndex : Cond) ∈ T0 := z0 (zm1 (List.mem_of_getElem? (i := 226) rfl)) rfl
theorem zco_JS_checkIndex : (.code y_JS_checkIndex c_JS_checkIndex 2 none : Cond) ∈ T0 := z0 (zm1 (List.mem_of_getElem? (i := 227) rfl)) rfl
theorem zfl_JS_1053 : (.fieldLink "java/lang/String" 1053 "jdk/internal/util/Preconditions" "SIOOBE_FORMATTER" "Ljava/util/function/BiFunction;" : Cond) ∈ T0 := z0 (zm1 (List.mem_of_getElem? (i := 228) rfl)) rfl
theorem zml_JS_1059 : (.methodLink "java/lang/String" 1059 y_JP_checkIndex : Cond) ∈ T0 := z0 (zm1 (List.mem_of_getElem? (i := 230) rfl)) rfl
theorem zst_JP_checkIndex : (.static y_JP_checkIndex : Cond) ∈ T0 := z0 (zm1 (List.mem_of_getElem? (i := 231) rfl)) rfl
theorem zco_JP_checkIndex : (.code y_JP_checkIndex c_JP_checkIndex 3 (some .int) : Cond) ∈ T0 := z0 (zm1 (List.mem_of_getElem? (i := 232) rfl)) rfl
theorem zml_JS_498 : (.methodLink "java/lang/String" 498 ⟨"java/lang/StringUTF16", "charAt", "([BI)C"⟩ : Cond) ∈ T0 := z0 (zm1 (List.mem_of_getElem? (i := 233) rfl)) rfl
theorem zst_JU_charAt : (.static ⟨"java/lang/StringUTF16", "charAt", "([BI)C"⟩ : Cond) ∈ T0 := z0 (zm1 (List.mem_of_getElem? (i := 234) rfl)) rfl
theorem zml_JU_67 : (.methodLink "java/lang/StringUTF16" 67 ⟨"java/lang/StringUTF16", "checkIndex", "(I[B)V"⟩ : Cond) ∈ T0 := z0 (zm1 (List.mem_of_getElem? (i := 236) rfl)) rfl
theorem zst_JU_checkIndex : (.static ⟨"java/lang/StringUTF16", "checkIndex", "(I[B)V"⟩ : Cond) ∈ T0 := z0 (zm1 (List.mem_of_getElem? (i := 237) rfl)) rfl
theorem zml_JU_48 : (.methodLink "java/lang/StringUTF16" 48 ⟨"java/lang/StringUTF16", "length", "([B)I"⟩ : Cond) ∈ T0 := z0 (zm1 (List.mem_of_getElem? (i := 239) rfl)) rfl
theorem zst_JU_length : (.static ⟨"java/lang/StringUTF16", "length", "([B)I"⟩ : Cond) ∈ T0 := z0 (zm2 (List.mem_of_getElem? (i := 0) rfl)) rfl
theorem zml_JU_414 : (.methodLink "java/lang/StringUTF16" 414 y_JS_checkIndex : Cond) ∈ T0 := z0 (zm2 (List.mem_of_getElem? (i := 2) rfl)) rfl
theorem zml_JU_71 : (.methodLink "java/lang/StringUTF16" 71 ⟨"java/lang/StringUTF16", "getChar", "([BI)C"⟩ : Cond) ∈ T0 := z0 (zm2 (List.mem_of_getElem? (i := 3) rfl)) rfl
theorem zst_JU_getChar : (.static ⟨"java/lang/StringUTF16", "getChar", "([BI)C"⟩ : Cond) ∈ T0 := z0 (zm2 (List.mem_of_getElem? (i := 4) rfl)) rfl
theorem zfl_JU_44 : (.fieldLink "java/lang/StringUTF16" 44 "java/lang/StringUTF16" "$assertionsDisabled" "Z" : Cond) ∈ T0 := z0 (zm2 (List.mem_of_getElem? (i := 6) rfl)) rfl
theorem zfl_JU_59 : (.fieldLink "java/lang/StringUTF16" 59 "java/lang/StringUTF16" "HI_BYTE_SHIFT" "I" : Cond) ∈ T0 := z0 (zm2 (List.mem_of_getElem? (i := 8) rfl)) rfl
theorem zfl_JU_63 : (.fieldLink "java/lang/StringUTF16" 63 "java/lang/StringUTF16" "LO_BYTE_SHIFT" "I" : Cond) ∈ T0 := z0 (zm2 (List.mem_of_getElem? (i := 10) rfl)) rfl
theorem zkl_R_61 : (.constantLong R_R 61 (9218868437227405312) : Cond) ∈ T0 := z0 (zm2 (List.mem_of_getElem? (i := 12) rfl)) rfl
theorem zml_R_63 : (.methodLink R_R 63 y_R_takeDecimal : Cond) ∈ T0 := z0 (zm2 (List.mem_of_getElem? (i := 13) rfl)) rfl
theorem zim_R_takeDecimal : (.instanceMethod y_R_takeDecimal : Cond) ∈ T0 := z0 (zm2 (List.mem_of_getElem? (i := 15) rfl)) rfl
theorem zco_R_takeDecimal : (.code y_R_takeDecimal c_R_takeDecimal 2 (some .boolean) : Cond) ∈ T0 := z0 (zm2 (List.mem_of_getElem? (i := 16) rfl)) rfl
theorem zml_R_98 : (.methodLink R_R 98 y_N_set : Cond) ∈ T0 := z0 (zm2 (List.mem_of_getElem? (i := 17) rfl)) rfl
theorem zim_N_set : (.instanceMethod y_N_set : Cond) ∈ T0 := z0 (zm2 (List.mem_of_getElem? (i := 18) rfl)) rfl
theorem zse_N_N_set : (.selects R_N y_N_set y_N_set : Cond) ∈ T0 := z0 (zm2 (List.mem_of_getElem? (i := 19) rfl)) rfl
theorem zco_N_set : (.code y_N_set c_N_set 4 none : Cond) ∈ T0 := z0 (zm2 (List.mem_of_getElem? (i := 20) rfl)) rfl
theorem zki_N_17 : (.constant R_N 17 (1073741823) : Cond) ∈ T0 := z0 (zm2 (List.mem_of_getElem? (i := 21) rfl)) rfl
theorem zml_N_18 : (.methodLink R_N 18 y_N_dropLeadingZeros : Cond) ∈ T0 := z0 (zm2 (List.mem_of_getElem? (i := 22) rfl)) rfl
theorem zim_N_dropLeadingZeros : (.instanceMethod y_N_dropLeadingZeros : Cond) ∈ T0 := z0 (zm2 (List.mem_of_getElem? (i := 24) rfl)) rfl
theorem zco_N_dropLeadingZeros : (.code y_N_dropLeadingZeros c_N_dropLeadingZeros 1 none : Cond) ∈ T0 := z0 (zm2 (List.mem_of_getElem? (i := 25) rfl)) rfl
theorem zml_R_102 : (.methodLink R_R 102 y_R_takeDigits : Cond) ∈ T0 := z0 (zm2 (List.mem_of_getElem? (i := 26) rfl)) rfl
theorem zim_R_takeDigits : (.instanceMethod y_R_takeDigits : Cond) ∈ T0 := z0 (zm2 (List.mem_of_getElem? (i := 28) rfl)) rfl
theorem zco_R_takeDigits : (.code y_R_takeDigits c_R_takeDigits 3 (some .int) : Cond) ∈ T0 := z0 (zm2 (List.mem_of_getElem? (i := 29) rfl)) rfl
theorem zml_R_109 : (.methodLink R_R 109 y_R_takeDigit : Cond) ∈ T0 := z0 (zm2 (List.mem_of_getElem? (i := 30) rfl)) rfl
theorem zim_R_takeDigit : (.instanceMethod y_R_takeDigit : Cond) ∈ T0 := z0 (zm2 (List.mem_of_getElem? (i := 32) rfl)) rfl
theorem zco_R_takeDigit : (.code y_R_takeDigit c_R_takeDigit 4 none : Cond) ∈ T0 := z0 (zm2 (List.mem_of_getElem? (i := 33) rfl)) rfl
theorem zml_R_113 : (.methodLink R_R 113 y_N_multiplyAndAdd : Cond) ∈ T0 := z0 (zm2 (List.mem_of_getElem? (i := 34) rfl)) rfl
theorem zim_N_multiplyAndAdd : (.instanceMethod y_N_multiplyAndAdd : Cond) ∈ T0 := z0 (zm2 (List.mem_of_getElem? (i := 35) rfl)) rfl
theorem zse_N_N_multiplyAndAdd : (.selects R_N y_N_multiplyAndAdd y_N_multiplyAndAdd : Cond) ∈ T0 := z0 (zm2 (List.mem_of_getElem? (i := 36) rfl)) rfl
theorem zco_N_multiplyAndAdd : (.code y_N_multiplyAndAdd c_N_multiplyAndAdd 6 none : Cond) ∈ T0 := z0 (zm2 (List.mem_of_getElem? (i := 37) rfl)) rfl
theorem zml_N_37 : (.methodLink R_N 37 y_N_append : Cond) ∈ T0 := z0 (zm2 (List.mem_of_getElem? (i := 38) rfl)) rfl
theorem zim_N_append : (.instanceMethod y_N_append : Cond) ∈ T0 := z0 (zm2 (List.mem_of_getElem? (i := 40) rfl)) rfl
theorem zco_N_append : (.code y_N_append c_N_append 2 none : Cond) ∈ T0 := z0 (zm2 (List.mem_of_getElem? (i := 41) rfl)) rfl
theorem zml_R_106 : (.methodLink R_R 106 y_R_takeExponent : Cond) ∈ T0 := z0 (zm2 (List.mem_of_getElem? (i := 42) rfl)) rfl
theorem zim_R_takeExponent : (.instanceMethod y_R_takeExponent : Cond) ∈ T0 := z0 (zm2 (List.mem_of_getElem? (i := 44) rfl)) rfl
theorem zco_R_takeExponent : (.code y_R_takeExponent c_R_takeExponent 4 (some .boolean) : Cond) ∈ T0 := z0 (zm2 (List.mem_of_getElem? (i := 45) rfl)) rfl
theorem zki_R_117 : (.constant R_R 117 (100000) : Cond) ∈ T0 := z0 (zm2 (List.mem_of_getElem? (i := 46) rfl)) rfl
theorem zml_R_66 : (.methodLink R_R 66 y_R_roundedDecimal : Cond) ∈ T0 := z0 (zm2 (List.mem_of_getElem? (i := 47) rfl)) rfl
theorem zim_R_roundedDecimal : (.instanceMethod y_R_roundedDecimal : Cond) ∈ T0 := z0 (zm2 (List.mem_of_getElem? (i := 49) rfl)) rfl
theorem zco_R_roundedDecimal : (.code y_R_roundedDecimal c_R_roundedDecimal 1 (some .long) : Cond) ∈ T0 := z0 (zm2 (List.mem_of_getElem? (i := 50) rfl)) rfl
theorem zml_R_118 : (.methodLink R_R 118 y_N_isZero : Cond) ∈ T0 := z0 (zm2 (List.mem_of_getElem? (i := 51) rfl)) rfl
theorem zim_N_isZero : (.instanceMethod y_N_isZero : Cond) ∈ T0 := z0 (zm2 (List.mem_of_getElem? (i := 52) rfl)) rfl
theorem zse_N_N_isZero : (.selects R_N y_N_isZero y_N_isZero : Cond) ∈ T0 := z0 (zm2 (List.mem_of_getElem? (i := 53) rfl)) rfl
theorem zco_N_isZero : (.code y_N_isZero c_N_isZero 1 (some .boolean) : Cond) ∈ T0 := z0 (zm2 (List.mem_of_getElem? (i := 54) rfl)) rfl
theorem zml_R_121 : (.methodLink R_R 121 y_N_multiplyByPowerOfTen : Cond) ∈ T0 := z0 (zm2 (List.mem_of_getElem? (i := 55) rfl)) rfl
theorem zim_N_multiplyByPowerOfTen : (.instanceMethod y_N_multiplyByPowerOfTen : Cond) ∈ T0 := z0 (zm2 (List.mem_of_getElem? (i := 56) rfl)) rfl
theorem zse_N_N_multiplyByPowerOfTen : (.selects R_N y_N_multiplyByPowerOfTen y_N_multiplyByPowerOfTen : Cond) ∈ T0 := z0 (zm2 (List.mem_of_getElem? (i := 57) rfl)) rfl
theorem zco_N_multiplyByPowerOfTen : (.code y_N_multiplyByPowerOfTen c_N_multiplyByPowerOfTen 3 none : Cond) ∈ T0 := z0 (zm2 (List.mem_of_getElem? (i := 58) rfl)) rfl
theorem zfl_N_41 : (.fieldLink R_N 41 "DoubleBits$Natural" "POWERS_OF_TEN" "[I" : Cond) ∈ T0 := z0 (zm2 (List.mem_of_getElem? (i := 59) rfl)) rfl
theorem zml_N_44 : (.methodLink R_N 44 ⟨"java/lang/Math", "min", "(II)I"⟩ : Cond) ∈ T0 := z0 (zm2 (List.mem_of_getElem? (i := 61) rfl)) rfl
theorem zst_JM_min : (.static ⟨"java/lang/Math", "min", "(II)I"⟩ : Cond) ∈ T0 := z0 (zm2 (List.mem_of_getElem? (i := 62) rfl)) rfl
theorem zco_JM_min : (.code Lib.Math.min.name Lib.Math.min.code 2 (some .int) : Cond) ∈ T0 := z0 (zm2 (List.mem_of_getElem? (i := 63) rfl)) rfl
theorem zml_N_47 : (.methodLink R_N 47 y_N_multiplyAndAdd : Cond) ∈ T0 := z0 (zm2 (List.mem_of_getElem? (i := 64) rfl)) rfl
theorem zml_R_125 : (.methodLink R_R 125 y_R_roundedQuotient : Cond) ∈ T0 := z0 (zm2 (List.mem_of_getElem? (i := 65) rfl)) rfl
theorem zim_R_roundedQuotient : (.instanceMethod y_R_roundedQuotient : Cond) ∈ T0 := z0 (zm2 (List.mem_of_getElem? (i := 67) rfl)) rfl
theorem zco_R_roundedQuotient : (.code y_R_roundedQuotient c_R_roundedQuotient 6 (some .long) : Cond) ∈ T0 := z0 (zm2 (List.mem_of_getElem? (i := 68) rfl)) rfl
theorem zml_R_128 : (.methodLink R_R 128 y_N_bitLength : Cond) ∈ T0 := z0 (zm2 (List.mem_of_getElem? (i := 69) rfl)) rfl
theorem zim_N_bitLength : (.instanceMethod y_N_bitLength : Cond) ∈ T0 := z0 (zm2 (List.mem_of_getElem? (i := 70) rfl)) rfl
theorem zse_N_N_bitLength : (.selects R_N y_N_bitLength y_N_bitLength : Cond) ∈ T0 := z0 (zm2 (List.mem_of_getElem? (i := 71) rfl)) rfl
theorem zco_N_bitLength : (.code y_N_bitLength c_N_bitLength 1 (some .int) : Cond) ∈ T0 := z0 (zm2 (List.mem_of_getElem? (i := 72) rfl)) rfl
theorem zml_N_21 : (.methodLink R_N 21 y_B_bitLength : Cond) ∈ T0 := z0 (zm2 (List.mem_of_getElem? (i := 73) rfl)) rfl
theorem zml_R_131 : (.methodLink R_R 131 y_N_shiftUp : Cond) ∈ T0 := z0 (zm2 (List.mem_of_getElem? (i := 74) rfl)) rfl
theorem zim_N_shiftUp : (.instanceMethod y_N_shiftUp : Cond) ∈ T0 := z0 (zm2 (List.mem_of_getElem? (i := 75) rfl)) rfl
theorem zse_N_N_shiftUp : (.selects R_N y_N_shiftUp y_N_shiftUp : Cond) ∈ T0 := z0 (zm2 (List.mem_of_getElem? (i := 76) rfl)) rfl
theorem zco_N_shiftUp : (.code y_N_shiftUp c_N_shiftUp 6 none : Cond) ∈ T0 := z0 (zm2 (List.mem_of_getElem? (i := 77) rfl)) rfl
theorem zml_N_33 : (.methodLink R_N 33 y_N_limbAt : Cond) ∈ T0 := z0 (zm2 (List.mem_of_getElem? (i := 78) rfl)) rfl
theorem zim_N_limbAt : (.instanceMethod y_N_limbAt : Cond) ∈ T0 := z0 (zm2 (List.mem_of_getElem? (i := 80) rfl)) rfl
theorem zco_N_limbAt : (.code y_N_limbAt c_N_limbAt 2 (some .int) : Cond) ∈ T0 := z0 (zm2 (List.mem_of_getElem? (i := 81) rfl)) rfl
theorem zml_R_134 : (.methodLink R_R 134 y_N_slack : Cond) ∈ T0 := z0 (zm2 (List.mem_of_getElem? (i := 82) rfl)) rfl
theorem zim_N_slack : (.instanceMethod y_N_slack : Cond) ∈ T0 := z0 (zm2 (List.mem_of_getElem? (i := 83) rfl)) rfl
theorem zse_N_N_slack : (.selects R_N y_N_slack y_N_slack : Cond) ∈ T0 := z0 (zm2 (List.mem_of_getElem? (i := 84) rfl)) rfl
theorem zco_N_slack : (.code y_N_slack c_N_slack 1 (some .int) : Cond) ∈ T0 := z0 (zm2 (List.mem_of_getElem? (i := 85) rfl)) rfl
theorem zml_R_137 : (.methodLink R_R 137 y_N_divideLeavingRest : Cond) ∈ T0 := z0 (zm2 (List.mem_of_getElem? (i := 86) rfl)) rfl
theorem zim_N_divideLeavingRest : (.instanceMethod y_N_divideLeavingRest : Cond) ∈ T0 := z0 (zm2 (List.mem_of_getElem? (i := 87) rfl)) rfl
theorem zse_N_N_divideLeavingRest : (.selects R_N y_N_divideLeavingRest y_N_divideLeavingRest : Cond) ∈ T0 := z0 (zm2 (List.mem_of_getElem? (i := 88) rfl)) rfl
theorem zco_N_divideLeavingRest : (.code y_N_divideLeavingRest c_N_divideLeavingRest 6 (some .int) : Cond) ∈ T0 := z0 (zm2 (List.mem_of_getElem? (i := 89) rfl)) rfl
theorem zml_N_51 : (.methodLink R_N 51 y_N_subtractTimes : Cond) ∈ T0 := z0 (zm2 (List.mem_of_getElem? (i := 90) rfl)) rfl
theorem zim_N_subtractTimes : (.instanceMethod y_N_subtractTimes : Cond) ∈ T0 := z0 (zm2 (List.mem_of_getElem? (i := 92) rfl)) rfl
theorem zco_N_subtractTimes : (.code y_N_subtractTimes c_N_subtractTimes 6 none : Cond) ∈ T0 := z0 (zm2 (List.mem_of_getElem? (i := 93) rfl)) rfl
theorem zml_N_55 : (.methodLink R_N 55 y_N_order : Cond) ∈ T0 := z0 (zm2 (List.mem_of_getElem? (i := 94) rfl)) rfl
theorem zim_N_order : (.instanceMethod y_N_order : Cond) ∈ T0 := z0 (zm2 (List.mem_of_getElem? (i := 95) rfl)) rfl
theorem zse_N_N_order : (.selects R_N y_N_order y_N_order : Cond) ∈ T0 := z0 (zm2 (List.mem_of_getElem? (i := 96) rfl)) rfl
theorem zco_N_order : (.code y_N_order c_N_order 3 (some .int) : Cond) ∈ T0 := z0 (zm2 (List.mem_of_getElem? (i := 97) rfl)) rfl
theorem zml_D_52 : (.methodLink R_D 52 y_R_clear : Cond) ∈ T0 := z0 (zm2 (List.mem_of_getElem? (i := 98) rfl)) rfl
theorem zim_R_clear : (.instanceMethod y_R_clear : Cond) ∈ T0 := z0 (zm2 (List.mem_of_getElem? (i := 99) rfl)) rfl
theorem zse_R_R_clear : (.selects R_R y_R_clear y_R_clear : Cond) ∈ T0 := z0 (zm2 (List.mem_of_getElem? (i := 100) rfl)) rfl
theorem zco_R_clear : (.code y_R_clear c_R_clear 1 none : Cond) ∈ T0 := z0 (zm2 (List.mem_of_getElem? (i := 101) rfl)) rfl
theorem zac_byte : (.arrayClass .byte : Cond) ∈ T0 := z0 (zm2 (List.mem_of_getElem? (i := 102) rfl)) rfl
theorem zml_L_69 : (.methodLink R_L 69 y_D_compare : Cond) ∈ T0 := z0 (zm2 (List.mem_of_getElem? (i := 103) rfl)) rfl
theorem zim_D_compare : (.instanceMethod y_D_compare : Cond) ∈ T0 := z0 (zm2 (List.mem_of_getElem? (i := 104) rfl)) rfl
theorem zse_D_D_compare : (.selects R_D y_D_compare y_D_compare : Cond) ∈ T0 := z0 (zm2 (List.mem_of_getElem? (i := 105) rfl)) rfl
theorem zco_D_compare : (.code y_D_compare c_D_compare 9 (some .int) : Cond) ∈ T0 := z0 (zm2 (List.mem_of_getElem? (i := 106) rfl)) rfl
theorem zml_D_77 : (.methodLink R_D 77 y_B_isNan : Cond) ∈ T0 := z0 (zm2 (List.mem_of_getElem? (i := 107) rfl)) rfl
theorem zst_B_isNan : (.static y_B_isNan : Cond) ∈ T0 := z0 (zm2 (List.mem_of_getElem? (i := 108) rfl)) rfl
theorem zco_B_isNan : (.code y_B_isNan c_B_isNan 2 (some .boolean) : Cond) ∈ T0 := z0 (zm2 (List.mem_of_getElem? (i := 109) rfl)) rfl
theorem zml_B_11 : (.methodLink R_B 11 y_B_magnitude : Cond) ∈ T0 := z0 (zm2 (List.mem_of_getElem? (i := 110) rfl)) rfl
theorem zst_B_magnitude : (.static y_B_magnitude : Cond) ∈ T0 := z0 (zm2 (List.mem_of_getElem? (i := 111) rfl)) rfl
theorem zco_B_magnitude : (.code y_B_magnitude c_B_magnitude 2 (some .long) : Cond) ∈ T0 := z0 (zm2 (List.mem_of_getElem? (i := 112) rfl)) rfl
theorem zkl_B_9 : (.constantLong R_B 9 (9223372036854775807) : Cond) ∈ T0 := z0 (zm2 (List.mem_of_getElem? (i := 113) rfl)) rfl
theorem zml_D_100 : (.methodLink R_D 100 y_B_place : Cond) ∈ T0 := z0 (zm2 (List.mem_of_getElem? (i := 114) rfl)) rfl
theorem zst_B_place : (.static y_B_place : Cond) ∈ T0 := z0 (zm2 (List.mem_of_getElem? (i := 115) rfl)) rfl
theorem zco_B_place : (.code y_B_place c_B_place 2 (some .long) : Cond) ∈ T0 := z0 (zm2 (List.mem_of_getElem? (i := 116) rfl)) rfl
theorem zml_L_77 : (.methodLink R_L 77 y_D_of : Cond) ∈ T0 := z0 (zm2 (List.mem_of_getElem? (i := 117) rfl)) rfl
theorem zim_D_of : (.instanceMethod y_D_of : Cond) ∈ T0 := z0 (zm2 (List.mem_of_getElem? (i := 118) rfl)) rfl
theorem zse_D_D_of : (.selects R_D y_D_of y_D_of : Cond) ∈ T0 := z0 (zm2 (List.mem_of_getElem? (i := 119) rfl)) rfl
theorem zco_D_of : (.code y_D_of c_D_of 3 (some .long) : Cond) ∈ T0 := z0 (zm2 (List.mem_of_getElem? (i := 120) rfl)) rfl
theorem zml_D_112 : (.methodLink R_D 112 y_B_round : Cond) ∈ T0 := z0 (zm2 (List.mem_of_getElem? (i := 121) rfl)) rfl
theorem zkl_D_89 : (.constantLong R_D 89 (-9223372036854775808) : Cond) ∈ T0 := z0 (zm2 (List.mem_of_getElem? (i := 122) rfl)) rfl
theorem zml_L_82 : (.methodLink R_L 82 y_D_write : Cond) ∈ T0 := z0 (zm2 (List.mem_of_getElem? (i := 123) rfl)) rfl
theorem zim_D_write : (.instanceMethod y_D_write : Cond) ∈ T0 := z0 (zm2 (List.mem_of_getElem? (i := 124) rfl)) rfl
theorem zse_D_D_write : (.selects R_D y_D_write y_D_write : Cond) ∈ T0 := z0 (zm2 (List.mem_of_getElem? (i := 125) rfl)) rfl
theorem zco_D_write : (.code y_D_write c_D_write 3 (some .int) : Cond) ∈ T0 := z0 (zm2 (List.mem_of_getElem? (i := 126) rfl)) rfl
theorem zml_D_116 : (.methodLink R_D 116 y_T_writeText : Cond) ∈ T0 := z0 (zm2 (List.mem_of_getElem? (i := 127) rfl)) rfl
theorem zim_T_writeText : (.instanceMethod y_T_writeText : Cond) ∈ T0 := z0 (zm2 (List.mem_of_getElem? (i := 128) rfl)) rfl
theorem zse_T_T_writeText : (.selects R_T y_T_writeText y_T_writeText : Cond) ∈ T0 := z0 (zm2 (List.mem_of_getElem? (i := 129) rfl)) rfl
theorem zco_T_writeText : (.code y_T_writeText c_T_writeText 5 none : Cond) ∈ T0 := z0 (zm2 (List.mem_of_getElem? (i := 130) rfl)) rfl
theorem zml_T_65 : (.methodLink R_T 65 y_T_begin : Cond) ∈ T0 := z0 (zm2 (List.mem_of_getElem? (i := 131) rfl)) rfl
theorem zim_T_begin : (.instanceMethod y_T_begin : Cond) ∈ T0 := z0 (zm2 (List.mem_of_getElem? (i := 133) rfl)) rfl
theorem zco_T_begin : (.code y_T_begin c_T_begin 3 (some .boolean) : Cond) ∈ T0 := z0 (zm2 (List.mem_of_getElem? (i := 134) rfl)) rfl
theorem zml_T_38 : (.methodLink R_T 38 y_P_clear : Cond) ∈ T0 := z0 (zm2 (List.mem_of_getElem? (i := 135) rfl)) rfl
theorem zim_P_clear : (.instanceMethod y_P_clear : Cond) ∈ T0 := z0 (zm2 (List.mem_of_getElem? (i := 136) rfl)) rfl
theorem zse_P_P_clear : (.selects R_P y_P_clear y_P_clear : Cond) ∈ T0 := z0 (zm2 (List.mem_of_getElem? (i := 137) rfl)) rfl
theorem zco_P_clear : (.code y_P_clear c_P_clear 1 none : Cond) ∈ T0 := z0 (zm2 (List.mem_of_getElem? (i := 138) rfl)) rfl
theorem zml_T_41 : (.methodLink R_T 41 y_B_isNan : Cond) ∈ T0 := z0 (zm2 (List.mem_of_getElem? (i := 139) rfl)) rfl
theorem zml_T_49 : (.methodLink R_T 49 y_P_addText : Cond) ∈ T0 := z0 (zm2 (List.mem_of_getElem? (i := 141) rfl)) rfl
theorem zim_P_addText : (.instanceMethod y_P_addText : Cond) ∈ T0 := z0 (zm2 (List.mem_of_getElem? (i := 142) rfl)) rfl
theorem zse_P_P_addText : (.selects R_P y_P_addText y_P_addText : Cond) ∈ T0 := z0 (zm2 (List.mem_of_getElem? (i := 143) rfl)) rfl
theorem zco_P_addText : (.code y_P_addText c_P_addText 3 none : Cond) ∈ T0 := z0 (zm2 (List.mem_of_getElem? (i := 144) rfl)) rfl
theorem zml_P_17 : (.methodLink R_P 17 y_JS_length : Cond) ∈ T0 := z0 (zm2 (List.mem_of_getElem? (i := 145) rfl)) rfl
theorem zml_P_23 : (.methodLink R_P 23 y_JS_charAt : Cond) ∈ T0 := z0 (zm2 (List.mem_of_getElem? (i := 146) rfl)) rfl
theorem zml_P_27 : (.methodLink R_P 27 y_P_add : Cond) ∈ T0 := z0 (zm2 (List.mem_of_getElem? (i := 147) rfl)) rfl
theorem zim_P_add : (.instanceMethod y_P_add : Cond) ∈ T0 := z0 (zm2 (List.mem_of_getElem? (i := 148) rfl)) rfl
theorem zse_P_P_add : (.selects R_P y_P_add y_P_add : Cond) ∈ T0 := z0 (zm2 (List.mem_of_getElem? (i := 149) rfl)) rfl
theorem zco_P_add : (.code y_P_add c_P_add 2 none : Cond) ∈ T0 := z0 (zm2 (List.mem_of_getElem? (i := 150) rfl)) rfl
theorem zml_T_53 : (.methodLink R_T 53 y_B_isZero : Cond) ∈ T0 := z0 (zm2 (List.mem_of_getElem? (i := 151) rfl)) rfl
theorem zst_B_isZero : (.static y_B_isZero : Cond) ∈ T0 := z0 (zm2 (List.mem_of_getElem? (i := 152) rfl)) rfl
theorem zco_B_isZero : (.code y_B_isZero c_B_isZero 2 (some .boolean) : Cond) ∈ T0 := z0 (zm2 (List.mem_of_getElem? (i := 153) rfl)) rfl
theorem zml_T_56 : (.methodLink R_T 56 y_P_add : Cond) ∈ T0 := z0 (zm2 (List.mem_of_getElem? (i := 154) rfl)) rfl
theorem zml_T_60 : (.methodLink R_T 60 y_B_isInfinite : Cond) ∈ T0 := z0 (zm2 (List.mem_of_getElem? (i := 155) rfl)) rfl
theorem zst_B_isInfinite : (.static y_B_isInfinite : Cond) ∈ T0 := z0 (zm2 (List.mem_of_getElem? (i := 156) rfl)) rfl
theorem zco_B_isInfinite : (.code y_B_isInfinite c_B_isInfinite 2 (some .boolean) : Cond) ∈ T0 := z0 (zm2 (List.mem_of_getElem? (i := 157) rfl)) rfl
theorem zml_T_68 : (.methodLink R_T 68 y_B_magnitude : Cond) ∈ T0 := z0 (zm2 (List.mem_of_getElem? (i := 159) rfl)) rfl
theorem zml_T_72 : (.methodLink R_T 72 y_E_makeShortest : Cond) ∈ T0 := z0 (zm2 (List.mem_of_getElem? (i := 160) rfl)) rfl
theorem zim_E_makeShortest : (.instanceMethod y_E_makeShortest : Cond) ∈ T0 := z0 (zm2 (List.mem_of_getElem? (i := 161) rfl)) rfl
theorem zse_E_E_makeShortest : (.selects R_E y_E_makeShortest y_E_makeShortest : Cond) ∈ T0 := z0 (zm2 (List.mem_of_getElem? (i := 162) rfl)) rfl
theorem zco_E_makeShortest : (.code y_E_makeShortest c_E_makeShortest 7 none : Cond) ∈ T0 := z0 (zm2 (List.mem_of_getElem? (i := 163) rfl)) rfl
theorem zml_E_39 : (.methodLink R_E 39 y_E_begin : Cond) ∈ T0 := z0 (zm2 (List.mem_of_getElem? (i := 164) rfl)) rfl
theorem zim_E_begin : (.instanceMethod y_E_begin : Cond) ∈ T0 := z0 (zm2 (List.mem_of_getElem? (i := 166) rfl)) rfl
theorem zco_E_begin : (.code y_E_begin c_E_begin 7 none : Cond) ∈ T0 := z0 (zm2 (List.mem_of_getElem? (i := 167) rfl)) rfl
theorem zml_E_103 : (.methodLink R_E 103 y_B_mantissa : Cond) ∈ T0 := z0 (zm2 (List.mem_of_getElem? (i := 168) rfl)) rfl
theorem zst_B_mantissa : (.static y_B_mantissa : Cond) ∈ T0 := z0 (zm2 (List.mem_of_getElem? (i := 169) rfl)) rfl
theorem zco_B_mantissa : (.code y_B_mantissa c_B_mantissa 4 (some .long) : Cond) ∈ T0 := z0 (zm2 (List.mem_of_getElem? (i := 170) rfl)) rfl
theorem zkl_B_17 : (.constantLong R_B 17 (4503599627370495) : Cond) ∈ T0 := z0 (zm2 (List.mem_of_getElem? (i := 171) rfl)) rfl
theorem zkl_B_19 : (.constantLong R_B 19 (4503599627370496) : Cond) ∈ T0 := z0 (zm2 (List.mem_of_getElem? (i := 172) rfl)) rfl
theorem zml_E_47 : (.methodLink R_E 47 y_B_exponent : Cond) ∈ T0 := z0 (zm2 (List.mem_of_getElem? (i := 173) rfl)) rfl
theorem zst_B_exponent : (.static y_B_exponent : Cond) ∈ T0 := z0 (zm2 (List.mem_of_getElem? (i := 174) rfl)) rfl
theorem zco_B_exponent : (.code y_B_exponent c_B_exponent 3 (some .int) : Cond) ∈ T0 := z0 (zm2 (List.mem_of_getElem? (i := 175) rfl)) rfl
theorem zml_E_107 : (.methodLink R_E 107 y_B_bitLength : Cond) ∈ T0 := z0 (zm2 (List.mem_of_getElem? (i := 176) rfl)) rfl
theorem zml_E_110 : (.methodLink R_E 110 y_E_placesBefore : Cond) ∈ T0 := z0 (zm2 (List.mem_of_getElem? (i := 177) rfl)) rfl
theorem zst_E_placesBefore : (.static y_E_placesBefore : Cond) ∈ T0 := z0 (zm2 (List.mem_of_getElem? (i := 178) rfl)) rfl
theorem zco_E_placesBefore : (.code y_E_placesBefore c_E_placesBefore 1 (some .int) : Cond) ∈ T0 := z0 (zm2 (List.mem_of_getElem? (i := 179) rfl)) rfl
theorem zki_E_124 : (.constant R_E 124 (78913) : Cond) ∈ T0 := z0 (zm2 (List.mem_of_getElem? (i := 180) rfl)) rfl
theorem zml_E_113 : (.methodLink R_E 113 y_N_set : Cond) ∈ T0 := z0 (zm2 (List.mem_of_getElem? (i := 181) rfl)) rfl
theorem zkl_E_116 : (.constantLong R_E 116 (4) : Cond) ∈ T0 := z0 (zm2 (List.mem_of_getElem? (i := 182) rfl)) rfl
theorem zml_E_118 : (.methodLink R_E 118 y_N_multiplyByPowerOfTen : Cond) ∈ T0 := z0 (zm2 (List.mem_of_getElem? (i := 183) rfl)) rfl
theorem zml_E_55 : (.methodLink R_E 55 y_N_shiftUp : Cond) ∈ T0 := z0 (zm2 (List.mem_of_getElem? (i := 184) rfl)) rfl
theorem zml_E_77 : (.methodLink R_E 77 y_N_order : Cond) ∈ T0 := z0 (zm2 (List.mem_of_getElem? (i := 185) rfl)) rfl
theorem zml_E_59 : (.methodLink R_E 59 y_N_multiplyAndAdd : Cond) ∈ T0 := z0 (zm2 (List.mem_of_getElem? (i := 186) rfl)) rfl
theorem zml_E_121 : (.methodLink R_E 121 y_N_slack : Cond) ∈ T0 := z0 (zm2 (List.mem_of_getElem? (i := 187) rfl)) rfl
theorem zkl_E_45 : (.constantLong R_E 45 (4503599627370495) : Cond) ∈ T0 := z0 (zm2 (List.mem_of_getElem? (i := 188) rfl)) rfl
theorem zml_E_51 : (.methodLink R_E 51 y_N_copy : Cond) ∈ T0 := z0 (zm2 (List.mem_of_getElem? (i := 189) rfl)) rfl
theorem zim_N_copy : (.instanceMethod y_N_copy : Cond) ∈ T0 := z0 (zm2 (List.mem_of_getElem? (i := 190) rfl)) rfl
theorem zse_N_N_copy : (.selects R_N y_N_copy y_N_copy : Cond) ∈ T0 := z0 (zm2 (List.mem_of_getElem? (i := 191) rfl)) rfl
theorem zco_N_copy : (.code y_N_copy c_N_copy 3 none : Cond) ∈ T0 := z0 (zm2 (List.mem_of_getElem? (i := 192) rfl)) rfl
theorem zml_E_63 : (.methodLink R_E 63 y_N_divideLeavingRest : Cond) ∈ T0 := z0 (zm2 (List.mem_of_getElem? (i := 193) rfl)) rfl
theorem zml_E_67 : (.methodLink R_E 67 y_E_append : Cond) ∈ T0 := z0 (zm2 (List.mem_of_getElem? (i := 194) rfl)) rfl
theorem zim_E_append : (.instanceMethod y_E_append : Cond) ∈ T0 := z0 (zm2 (List.mem_of_getElem? (i := 196) rfl)) rfl
theorem zco_E_append : (.code y_E_append c_E_append 2 none : Cond) ∈ T0 := z0 (zm2 (List.mem_of_getElem? (i := 197) rfl)) rfl
theorem zml_E_70 : (.methodLink R_E 70 y_E_endShortest : Cond) ∈ T0 := z0 (zm2 (List.mem_of_getElem? (i := 198) rfl)) rfl
theorem zim_E_endShortest : (.instanceMethod y_E_endShortest : Cond) ∈ T0 := z0 (zm2 (List.mem_of_getElem? (i := 200) rfl)) rfl
theorem zco_E_endShortest : (.code y_E_endShortest c_E_endShortest 8 (some .boolean) : Cond) ∈ T0 := z0 (zm2 (List.mem_of_getElem? (i := 201) rfl)) rfl
theorem zml_E_80 : (.methodLink R_E 80 y_N_add : Cond) ∈ T0 := z0 (zm2 (List.mem_of_getElem? (i := 202) rfl)) rfl
theorem zim_N_add : (.instanceMethod y_N_add : Cond) ∈ T0 := z0 (zm2 (List.mem_of_getElem? (i := 203) rfl)) rfl
theorem zse_N_N_add : (.selects R_N y_N_add y_N_add : Cond) ∈ T0 := z0 (zm2 (List.mem_of_getElem? (i := 204) rfl)) rfl
theorem zco_N_add : (.code y_N_add c_N_add 5 none : Cond) ∈ T0 := z0 (zm2 (List.mem_of_getElem? (i := 205) rfl)) rfl
theorem zml_N_27 : (.methodLink R_N 27 ⟨"java/lang/Math", "max", "(II)I"⟩ : Cond) ∈ T0 := z0 (zm2 (List.mem_of_getElem? (i := 206) rfl)) rfl
theorem zml_E_83 : (.methodLink R_E 83 y_E_twiceRestToScale : Cond) ∈ T0 := z0 (zm2 (List.mem_of_getElem? (i := 207) rfl)) rfl
theorem zim_E_twiceRestToScale : (.instanceMethod y_E_twiceRestToScale : Cond) ∈ T0 := z0 (zm2 (List.mem_of_getElem? (i := 209) rfl)) rfl
theorem zco_E_twiceRestToScale : (.code y_E_twiceRestToScale c_E_twiceRestToScale 1 (some .int) : Cond) ∈ T0 := z0 (zm2 (List.mem_of_getElem? (i := 210) rfl)) rfl
theorem zml_E_87 : (.methodLink R_E 87 y_E_digitAt : Cond) ∈ T0 := z0 (zm2 (List.mem_of_getElem? (i := 211) rfl)) rfl
theorem zim_E_digitAt : (.instanceMethod y_E_digitAt : Cond) ∈ T0 := z0 (zm2 (List.mem_of_getElem? (i := 212) rfl)) rfl
theorem zse_E_E_digitAt : (.selects R_E y_E_digitAt y_E_digitAt : Cond) ∈ T0 := z0 (zm2 (List.mem_of_getElem? (i := 213) rfl)) rfl
theorem zco_E_digitAt : (.code y_E_digitAt c_E_digitAt 2 (some .int) : Cond) ∈ T0 := z0 (zm2 (List.mem_of_getElem? (i := 214) rfl)) rfl
theorem zml_E_91 : (.methodLink R_E 91 y_E_countUp : Cond) ∈ T0 := z0 (zm2 (List.mem_of_getElem? (i := 215) rfl)) rfl
theorem zim_E_countUp : (.instanceMethod y_E_countUp : Cond) ∈ T0 := z0 (zm2 (List.mem_of_getElem? (i := 217) rfl)) rfl
theorem zco_E_countUp : (.code y_E_countUp c_E_countUp 2 none : Cond) ∈ T0 := z0 (zm2 (List.mem_of_getElem? (i := 218) rfl)) rfl
theorem zml_E_74 : (.methodLink R_E 74 y_E_dropTrailingZeros : Cond) ∈ T0 := z0 (zm2 (List.mem_of_getElem? (i := 219) rfl)) rfl
theorem zim_E_dropTrailingZeros : (.instanceMethod y_E_dropTrailingZeros : Cond) ∈ T0 := z0 (zm2 (List.mem_of_getElem? (i := 221) rfl)) rfl
theorem zco_E_dropTrailingZeros : (.code y_E_dropTrailingZeros c_E_dropTrailingZeros 1 none : Cond) ∈ T0 := z0 (zm2 (List.mem_of_getElem? (i := 222) rfl)) rfl
theorem zml_T_76 : (.methodLink R_T 76 y_E_pointPlace : Cond) ∈ T0 := z0 (zm2 (List.mem_of_getElem? (i := 223) rfl)) rfl
theorem zim_E_pointPlace : (.instanceMethod y_E_pointPlace : Cond) ∈ T0 := z0 (zm2 (List.mem_of_getElem? (i := 224) rfl)) rfl
theorem zse_E_E_pointPlace : (.selects R_E y_E_pointPlace y_E_pointPlace : Cond) ∈ T0 := z0 (zm2 (List.mem_of_getElem? (i := 225) rfl)) rfl
theorem zco_E_pointPlace : (.code y_E_pointPlace c_E_pointPlace 1 (some .int) : Cond) ∈ T0 := z0 (zm2 (List.mem_of_getElem? (i := 226) rfl)) rfl
theorem zml_T_79 : (.methodLink R_T 79 y_E_length : Cond) ∈ T0 := z0 (zm2 (List.mem_of_getElem? (i := 227) rfl)) rfl
theorem zim_E_length : (.instanceMethod y_E_length : Cond) ∈ T0 := z0 (zm2 (List.mem_of_getElem? (i := 228) rfl)) rfl
theorem zse_E_E_length : (.selects R_E y_E_length y_E_length : Cond) ∈ T0 := z0 (zm2 (List.mem_of_getElem? (i := 229) rfl)) rfl
theorem zco_E_length : (.code y_E_length c_E_length 1 (some .int) : Cond) ∈ T0 := z0 (zm2 (List.mem_of_getElem? (i := 230) rfl)) rfl
theorem zml_T_80 : (.methodLink R_T 80 y_T_addScientific : Cond) ∈ T0 := z0 (zm2 (List.mem_of_getElem? (i := 231) rfl)) rfl
theorem zim_T_addScientific : (.instanceMethod y_T_addScientific : Cond) ∈ T0 := z0 (zm2 (List.mem_of_getElem? (i := 233) rfl)) rfl
theorem zco_T_addScientific : (.code y_T_addScientific c_T_addScientific 3 none : Cond) ∈ T0 := z0 (zm2 (List.mem_of_getElem? (i := 234) rfl)) rfl
theorem zml_T_105 : (.methodLink R_T 105 y_E_digitAt : Cond) ∈ T0 := z0 (zm2 (List.mem_of_getElem? (i := 235) rfl)) rfl
theorem zml_T_108 : (.methodLink R_T 108 y_P_addDigit : Cond) ∈ T0 := z0 (zm2 (List.mem_of_getElem? (i := 236) rfl)) rfl
theorem zim_P_addDigit : (.instanceMethod y_P_addDigit : Cond) ∈ T0 := z0 (zm2 (List.mem_of_getElem? (i := 237) rfl)) rfl
theorem zse_P_P_addDigit : (.selects R_P y_P_addDigit y_P_addDigit : Cond) ∈ T0 := z0 (zm2 (List.mem_of_getElem? (i := 238) rfl)) rfl
theorem zco_P_addDigit : (.code y_P_addDigit c_P_addDigit 2 none : Cond) ∈ T0 := z0 (zm2 (List.mem_of_getElem? (i := 239) rfl)) rfl
theorem zml_T_114 : (.methodLink R_T 114 y_P_addExponent : Cond) ∈ T0 := z0 (zm3 (List.mem_of_getElem? (i := 0) rfl)) rfl
theorem zim_P_addExponent : (.instanceMethod y_P_addExponent : Cond) ∈ T0 := z0 (zm3 (List.mem_of_getElem? (i := 1) rfl)) rfl
theorem zse_P_P_addExponent : (.selects R_P y_P_addExponent y_P_addExponent : Cond) ∈ T0 := z0 (zm3 (List.mem_of_getElem? (i := 2) rfl)) rfl
theorem zco_P_addExponent : (.code y_P_addExponent c_P_addExponent 3 none : Cond) ∈ T0 := z0 (zm3 (List.mem_of_getElem? (i := 3) rfl)) rfl
theorem zml_P_31 : (.methodLink R_P 31 ⟨"java/lang/Math", "abs", "(I)I"⟩ : Cond) ∈ T0 := z0 (zm3 (List.mem_of_getElem? (i := 4) rfl)) rfl
theorem zst_JM_abs : (.static ⟨"java/lang/Math", "abs", "(I)I"⟩ : Cond) ∈ T0 := z0 (zm3 (List.mem_of_getElem? (i := 5) rfl)) rfl
theorem zco_JM_abs : (.code Lib.Math.abs.name Lib.Math.abs.code 1 (some .int) : Cond) ∈ T0 := z0 (zm3 (List.mem_of_getElem? (i := 6) rfl)) rfl
theorem zml_P_37 : (.methodLink R_P 37 y_P_addDigit : Cond) ∈ T0 := z0 (zm3 (List.mem_of_getElem? (i := 7) rfl)) rfl
theorem zml_T_84 : (.methodLink R_T 84 ⟨"java/lang/Math", "max", "(II)I"⟩ : Cond) ∈ T0 := z0 (zm3 (List.mem_of_getElem? (i := 8) rfl)) rfl
theorem zml_T_90 : (.methodLink R_T 90 y_T_addPlain : Cond) ∈ T0 := z0 (zm3 (List.mem_of_getElem? (i := 9) rfl)) rfl
theorem zim_T_addPlain : (.instanceMethod y_T_addPlain : Cond) ∈ T0 := z0 (zm3 (List.mem_of_getElem? (i := 11) rfl)) rfl
theorem zco_T_addPlain : (.code y_T_addPlain c_T_addPlain 4 none : Cond) ∈ T0 := z0 (zm3 (List.mem_of_getElem? (i := 12) rfl)) rfl
theorem zml_T_102 : (.methodLink R_T 102 y_T_addDigitsBeforePoint : Cond) ∈ T0 := z0 (zm3 (List.mem_of_getElem? (i := 13) rfl)) rfl
theorem zim_T_addDigitsBeforePoint : (.instanceMethod y_T_addDigitsBeforePoint : Cond) ∈ T0 := z0 (zm3 (List.mem_of_getElem? (i := 15) rfl)) rfl
theorem zco_T_addDigitsBeforePoint : (.code y_T_addDigitsBeforePoint c_T_addDigitsBeforePoint 3 none : Cond) ∈ T0 := z0 (zm3 (List.mem_of_getElem? (i := 16) rfl)) rfl
theorem zml_T_117 : (.methodLink R_T 117 y_P_addZeros : Cond) ∈ T0 := z0 (zm3 (List.mem_of_getElem? (i := 17) rfl)) rfl
theorem zim_P_addZeros : (.instanceMethod y_P_addZeros : Cond) ∈ T0 := z0 (zm3 (List.mem_of_getElem? (i := 18) rfl)) rfl
theorem zse_P_P_addZeros : (.selects R_P y_P_addZeros y_P_addZeros : Cond) ∈ T0 := z0 (zm3 (List.mem_of_getElem? (i := 19) rfl)) rfl
theorem zco_P_addZeros : (.code y_P_addZeros c_P_addZeros 3 none : Cond) ∈ T0 := z0 (zm3 (List.mem_of_getElem? (i := 20) rfl)) rfl
theorem zml_D_120 : (.methodLink R_D 120 y_T_length : Cond) ∈ T0 := z0 (zm3 (List.mem_of_getElem? (i := 21) rfl)) rfl
theorem zim_T_length : (.instanceMethod y_T_length : Cond) ∈ T0 := z0 (zm3 (List.mem_of_getElem? (i := 22) rfl)) rfl
theorem zse_T_T_length : (.selects R_T y_T_length y_T_length : Cond) ∈ T0 := z0 (zm3 (List.mem_of_getElem? (i := 23) rfl)) rfl
theorem zco_T_length : (.code y_T_length c_T_length 1 (some .int) : Cond) ∈ T0 := z0 (zm3 (List.mem_of_getElem? (i := 24) rfl)) rfl
theorem zml_T_30 : (.methodLink R_T 30 y_P_length : Cond) ∈ T0 := z0 (zm3 (List.mem_of_getElem? (i := 25) rfl)) rfl
theorem zim_P_length : (.instanceMethod y_P_length : Cond) ∈ T0 := z0 (zm3 (List.mem_of_getElem? (i := 26) rfl)) rfl
theorem zse_P_P_length : (.selects R_P y_P_length y_P_length : Cond) ∈ T0 := z0 (zm3 (List.mem_of_getElem? (i := 27) rfl)) rfl
theorem zco_P_length : (.code y_P_length c_P_length 1 (some .int) : Cond) ∈ T0 := z0 (zm3 (List.mem_of_getElem? (i := 28) rfl)) rfl
theorem zml_L_47 : (.methodLink R_L 47 y_L_put : Cond) ∈ T0 := z0 (zm3 (List.mem_of_getElem? (i := 29) rfl)) rfl
theorem zst_L_put : (.static y_L_put : Cond) ∈ T0 := z0 (zm3 (List.mem_of_getElem? (i := 30) rfl)) rfl
theorem zcl_L_13 : (.classLink R_L 13 "java/lang/IllegalArgumentException" : Cond) ∈ T0 := z0 (zm3 (List.mem_of_getElem? (i := 32) rfl)) rfl
theorem zcl_L_15 : (.classLink R_L 15 "java/lang/IllegalStateException" : Cond) ∈ T0 := z0 (zm3 (List.mem_of_getElem? (i := 33) rfl)) rfl
theorem zml_L_7 : (.methodLink R_L 7 y_D_put : Cond) ∈ T0 := z0 (zm3 (List.mem_of_getElem? (i := 34) rfl)) rfl
theorem zim_D_put : (.instanceMethod y_D_put : Cond) ∈ T0 := z0 (zm3 (List.mem_of_getElem? (i := 35) rfl)) rfl
theorem zse_D_D_put : (.selects R_D y_D_put y_D_put : Cond) ∈ T0 := z0 (zm3 (List.mem_of_getElem? (i := 36) rfl)) rfl
theorem zco_D_put : (.code y_D_put c_D_put 5 (some .int) : Cond) ∈ T0 := z0 (zm3 (List.mem_of_getElem? (i := 37) rfl)) rfl
theorem zcl_D_23 : (.classLink R_D 23 "java/lang/IllegalArgumentException" : Cond) ∈ T0 := z0 (zm3 (List.mem_of_getElem? (i := 38) rfl)) rfl
theorem zis_JA : (.instantiable "java/lang/IllegalArgumentException" 6 : Cond) ∈ T0 := z0 (zm3 (List.mem_of_getElem? (i := 39) rfl)) rfl
theorem zse_JA_JT_fillInStackTrace : (.selects "java/lang/IllegalArgumentException" ⟨"java/lang/Throwable", "fillInStackTrace", "(I)Ljava/lang/Throwable;"⟩ ⟨"java/lang/Throwable", "fillInStackTrace", "(I)Ljava/lang/Throwable;"⟩ : Cond) ∈ T0 := z0 (zm3 (List.mem_of_getElem? (i := 47) rfl)) rfl
theorem zfl_JT_198 : (.fieldLink "java/lang/Throwable" 198 "java/lang/Throwable" "backtrace" "Ljava/lang/Object;" : Cond) ∈ T0 := z0 (zm3 (List.mem_of_getElem? (i := 59) rfl)) rfl
theorem zim_JT_init : (.instanceMethod ⟨"java/lang/Throwable", "<init>", "()V"⟩ : Cond) ∈ T0 := z0 (zm3 (List.mem_of_getElem? (i := 61) rfl)) rfl
theorem zml_JT_1 : (.methodLink "java/lang/Throwable" 1 ⟨"java/lang/Object", "<init>", "()V"⟩ : Cond) ∈ T0 := z0 (zm3 (List.mem_of_getElem? (i := 63) rfl)) rfl
theorem zfl_JT_13 : (.fieldLink "java/lang/Throwable" 13 "java/lang/Throwable" "UNASSIGNED_STACK" "[Ljava/lang/StackTraceElement;" : Cond) ∈ T0 := z0 (zm3 (List.mem_of_getElem? (i := 64) rfl)) rfl
theorem zfl_JT_20 : (.fieldLink "java/lang/Throwable" 20 "java/lang/Throwable" "SUPPRESSED_SENTINEL" "Ljava/util/List;" : Cond) ∈ T0 := z0 (zm3 (List.mem_of_getElem? (i := 66) rfl)) rfl
theorem zml_JT_27 : (.methodLink "java/lang/Throwable" 27 ⟨"java/lang/Throwable", "fillInStackTrace", "()Ljava/lang/Throwable;"⟩ : Cond) ∈ T0 := z0 (zm3 (List.mem_of_getElem? (i := 68) rfl)) rfl
theorem zim_JT_fillInStackTrace : (.instanceMethod ⟨"java/lang/Throwable", "fillInStackTrace", "()Ljava/lang/Throwable;"⟩ : Cond) ∈ T0 := z0 (zm3 (List.mem_of_getElem? (i := 69) rfl)) rfl
theorem zse_JI_JT_fillInStackTrace : (.selects "java/lang/IllegalStateException" ⟨"java/lang/Throwable", "fillInStackTrace", "()Ljava/lang/Throwable;"⟩ ⟨"java/lang/Throwable", "fillInStackTrace", "()Ljava/lang/Throwable;"⟩ : Cond) ∈ T0 := z0 (zm3 (List.mem_of_getElem? (i := 71) rfl)) rfl
theorem zse_JB_JT_fillInStackTrace : (.selects "java/lang/IndexOutOfBoundsException" ⟨"java/lang/Throwable", "fillInStackTrace", "()Ljava/lang/Throwable;"⟩ ⟨"java/lang/Throwable", "fillInStackTrace", "()Ljava/lang/Throwable;"⟩ : Cond) ∈ T0 := z0 (zm3 (List.mem_of_getElem? (i := 72) rfl)) rfl
theorem zml_JT_202 : (.methodLink "java/lang/Throwable" 202 ⟨"java/lang/Throwable", "fillInStackTrace", "(I)Ljava/lang/Throwable;"⟩ : Cond) ∈ T0 := z0 (zm3 (List.mem_of_getElem? (i := 74) rfl)) rfl
theorem zis_JT : (.instantiable "java/lang/Throwable" 6 : Cond) ∈ T0 := z0 (zm3 (List.mem_of_getElem? (i := 77) rfl)) rfl
theorem zml_D_27 : (.methodLink R_D 27 ⟨"java/lang/IllegalArgumentException", "<init>", "(Ljava/lang/String;)V"⟩ : Cond) ∈ T0 := z0 (zm3 (List.mem_of_getElem? (i := 80) rfl)) rfl
theorem zim_JA_init : (.instanceMethod ⟨"java/lang/IllegalArgumentException", "<init>", "(Ljava/lang/String;)V"⟩ : Cond) ∈ T0 := z0 (zm3 (List.mem_of_getElem? (i := 81) rfl)) rfl
theorem zml_JA_7 : (.methodLink "java/lang/IllegalArgumentException" 7 ⟨"java/lang/RuntimeException", "<init>", "(Ljava/lang/String;)V"⟩ : Cond) ∈ T0 := z0 (zm3 (List.mem_of_getElem? (i := 83) rfl)) rfl
theorem zim_JR_init : (.instanceMethod ⟨"java/lang/RuntimeException", "<init>", "(Ljava/lang/String;)V"⟩ : Cond) ∈ T0 := z0 (zm3 (List.mem_of_getElem? (i := 84) rfl)) rfl
theorem zml_JR_7 : (.methodLink "java/lang/RuntimeException" 7 ⟨"java/lang/Exception", "<init>", "(Ljava/lang/String;)V"⟩ : Cond) ∈ T0 := z0 (zm3 (List.mem_of_getElem? (i := 86) rfl)) rfl
theorem zim_JX_init : (.instanceMethod ⟨"java/lang/Exception", "<init>", "(Ljava/lang/String;)V"⟩ : Cond) ∈ T0 := z0 (zm3 (List.mem_of_getElem? (i := 87) rfl)) rfl
theorem zml_JX_7 : (.methodLink "java/lang/Exception" 7 ⟨"java/lang/Throwable", "<init>", "(Ljava/lang/String;)V"⟩ : Cond) ∈ T0 := z0 (zm3 (List.mem_of_getElem? (i := 89) rfl)) rfl
theorem zfl_JT_31 : (.fieldLink "java/lang/Throwable" 31 "java/lang/Throwable" "detailMessage" "Ljava/lang/String;" : Cond) ∈ T0 := z0 (zm3 (List.mem_of_getElem? (i := 93) rfl)) rfl
theorem zfl_JT_7 : (.fieldLink "java/lang/Throwable" 7 "java/lang/Throwable" "cause" "Ljava/lang/Throwable;" : Cond) ∈ T0 := z0 (zm3 (List.mem_of_getElem? (i := 94) rfl)) rfl
theorem zfl_JT_17 : (.fieldLink "java/lang/Throwable" 17 "java/lang/Throwable" "stackTrace" "[Ljava/lang/StackTraceElement;" : Cond) ∈ T0 := z0 (zm3 (List.mem_of_getElem? (i := 95) rfl)) rfl
theorem zfl_JT_24 : (.fieldLink "java/lang/Throwable" 24 "java/lang/Throwable" "suppressedExceptions" "Ljava/util/List;" : Cond) ∈ T0 := z0 (zm3 (List.mem_of_getElem? (i := 96) rfl)) rfl
theorem zml_D_30 : (.methodLink R_D 30 y_R_hasRoomFor : Cond) ∈ T0 := z0 (zm3 (List.mem_of_getElem? (i := 105) rfl)) rfl
theorem zim_R_hasRoomFor : (.instanceMethod y_R_hasRoomFor : Cond) ∈ T0 := z0 (zm3 (List.mem_of_getElem? (i := 106) rfl)) rfl
theorem zse_R_R_hasRoomFor : (.selects R_R y_R_hasRoomFor y_R_hasRoomFor : Cond) ∈ T0 := z0 (zm3 (List.mem_of_getElem? (i := 107) rfl)) rfl
theorem zco_R_hasRoomFor : (.code y_R_hasRoomFor c_R_hasRoomFor 2 (some .boolean) : Cond) ∈ T0 := z0 (zm3 (List.mem_of_getElem? (i := 108) rfl)) rfl
theorem zcl_D_34 : (.classLink R_D 34 "java/lang/IllegalStateException" : Cond) ∈ T0 := z0 (zm3 (List.mem_of_getElem? (i := 109) rfl)) rfl
theorem zis_JI : (.instantiable "java/lang/IllegalStateException" 6 : Cond) ∈ T0 := z0 (zm3 (List.mem_of_getElem? (i := 110) rfl)) rfl
theorem zml_D_38 : (.methodLink R_D 38 ⟨"java/lang/IllegalStateException", "<init>", "(Ljava/lang/String;)V"⟩ : Cond) ∈ T0 := z0 (zm3 (List.mem_of_getElem? (i := 119) rfl)) rfl
theorem zim_JI_init : (.instanceMethod ⟨"java/lang/IllegalStateException", "<init>", "(Ljava/lang/String;)V"⟩ : Cond) ∈ T0 := z0 (zm3 (List.mem_of_getElem? (i := 120) rfl)) rfl
theorem zml_JI_7 : (.methodLink "java/lang/IllegalStateException" 7 ⟨"java/lang/RuntimeException", "<init>", "(Ljava/lang/String;)V"⟩ : Cond) ∈ T0 := z0 (zm3 (List.mem_of_getElem? (i := 122) rfl)) rfl
theorem zki_D_39 : (.constant R_D 39 (65535) : Cond) ∈ T0 := z0 (zm3 (List.mem_of_getElem? (i := 125) rfl)) rfl
theorem zml_D_40 : (.methodLink R_D 40 y_R_append : Cond) ∈ T0 := z0 (zm3 (List.mem_of_getElem? (i := 126) rfl)) rfl
theorem zim_R_append : (.instanceMethod y_R_append : Cond) ∈ T0 := z0 (zm3 (List.mem_of_getElem? (i := 127) rfl)) rfl
theorem zse_R_R_append : (.selects R_R y_R_append y_R_append : Cond) ∈ T0 := z0 (zm3 (List.mem_of_getElem? (i := 128) rfl)) rfl
theorem zco_R_append : (.code y_R_append c_R_append 2 none : Cond) ∈ T0 := z0 (zm3 (List.mem_of_getElem? (i := 129) rfl)) rfl
theorem zml_D_44 : (.methodLink R_D 44 y_R_length : Cond) ∈ T0 := z0 (zm3 (List.mem_of_getElem? (i := 130) rfl)) rfl
theorem zim_R_length : (.instanceMethod y_R_length : Cond) ∈ T0 := z0 (zm3 (List.mem_of_getElem? (i := 131) rfl)) rfl
theorem zse_R_R_length : (.selects R_R y_R_length y_R_length : Cond) ∈ T0 := z0 (zm3 (List.mem_of_getElem? (i := 132) rfl)) rfl
theorem zco_R_length : (.code y_R_length c_R_length 1 (some .int) : Cond) ∈ T0 := z0 (zm3 (List.mem_of_getElem? (i := 133) rfl)) rfl
theorem zml_L_62 : (.methodLink R_L 62 y_L_reckon : Cond) ∈ T0 := z0 (zm3 (List.mem_of_getElem? (i := 134) rfl)) rfl
theorem zst_L_reckon : (.static y_L_reckon : Cond) ∈ T0 := z0 (zm3 (List.mem_of_getElem? (i := 135) rfl)) rfl
theorem zml_L_17 : (.methodLink R_L 17 y_D_reckon : Cond) ∈ T0 := z0 (zm3 (List.mem_of_getElem? (i := 137) rfl)) rfl
theorem zim_D_reckon : (.instanceMethod y_D_reckon : Cond) ∈ T0 := z0 (zm3 (List.mem_of_getElem? (i := 138) rfl)) rfl
theorem zse_D_D_reckon : (.selects R_D y_D_reckon y_D_reckon : Cond) ∈ T0 := z0 (zm3 (List.mem_of_getElem? (i := 139) rfl)) rfl
theorem zco_D_reckon : (.code y_D_reckon c_D_reckon 6 (some .long) : Cond) ∈ T0 := z0 (zm3 (List.mem_of_getElem? (i := 140) rfl)) rfl
theorem zml_D_55 : (.methodLink R_D 55 y_A_sum : Cond) ∈ T0 := z0 (zm3 (List.mem_of_getElem? (i := 141) rfl)) rfl
theorem zst_A_sum : (.static y_A_sum : Cond) ∈ T0 := z0 (zm3 (List.mem_of_getElem? (i := 142) rfl)) rfl
theorem zco_A_sum : (.code y_A_sum c_A_sum 4 (some .long) : Cond) ∈ T0 := z0 (zm3 (List.mem_of_getElem? (i := 143) rfl)) rfl
theorem zml_A_9 : (.methodLink R_A 9 y_B_isNan : Cond) ∈ T0 := z0 (zm3 (List.mem_of_getElem? (i := 144) rfl)) rfl
theorem zkl_A_15 : (.constantLong R_A 15 (9221120237041090560) : Cond) ∈ T0 := z0 (zm3 (List.mem_of_getElem? (i := 145) rfl)) rfl
theorem zml_A_17 : (.methodLink R_A 17 y_B_isInfinite : Cond) ∈ T0 := z0 (zm3 (List.mem_of_getElem? (i := 146) rfl)) rfl
theorem zml_A_20 : (.methodLink R_A 20 y_B_magnitude : Cond) ∈ T0 := z0 (zm3 (List.mem_of_getElem? (i := 147) rfl)) rfl
theorem zml_A_24 : (.methodLink R_A 24 y_A_sumOfOrdered : Cond) ∈ T0 := z0 (zm3 (List.mem_of_getElem? (i := 148) rfl)) rfl
theorem zst_A_sumOfOrdered : (.static y_A_sumOfOrdered : Cond) ∈ T0 := z0 (zm3 (List.mem_of_getElem? (i := 149) rfl)) rfl
theorem zco_A_sumOfOrdered : (.code y_A_sumOfOrdered c_A_sumOfOrdered 9 (some .long) : Cond) ∈ T0 := z0 (zm3 (List.mem_of_getElem? (i := 150) rfl)) rfl
theorem zml_A_33 : (.methodLink R_A 33 y_B_exponent : Cond) ∈ T0 := z0 (zm3 (List.mem_of_getElem? (i := 151) rfl)) rfl
theorem zml_A_37 : (.methodLink R_A 37 y_B_mantissa : Cond) ∈ T0 := z0 (zm3 (List.mem_of_getElem? (i := 152) rfl)) rfl
theorem zml_A_40 : (.methodLink R_A 40 y_B_shiftDownWithTrace : Cond) ∈ T0 := z0 (zm3 (List.mem_of_getElem? (i := 153) rfl)) rfl
theorem zst_B_shiftDownWithTrace : (.static y_B_shiftDownWithTrace : Cond) ∈ T0 := z0 (zm3 (List.mem_of_getElem? (i := 154) rfl)) rfl
theorem zco_B_shiftDownWithTrace : (.code y_B_shiftDownWithTrace c_B_shiftDownWithTrace 5 (some .long) : Cond) ∈ T0 := z0 (zm3 (List.mem_of_getElem? (i := 155) rfl)) rfl
theorem zkl_A_28 : (.constantLong R_A 28 (-9223372036854775808) : Cond) ∈ T0 := z0 (zm3 (List.mem_of_getElem? (i := 156) rfl)) rfl
theorem zml_A_44 : (.methodLink R_A 44 y_B_round : Cond) ∈ T0 := z0 (zm3 (List.mem_of_getElem? (i := 157) rfl)) rfl
theorem zml_D_61 : (.methodLink R_D 61 y_A_difference : Cond) ∈ T0 := z0 (zm3 (List.mem_of_getElem? (i := 158) rfl)) rfl
theorem zst_A_difference : (.static y_A_difference : Cond) ∈ T0 := z0 (zm3 (List.mem_of_getElem? (i := 159) rfl)) rfl
theorem zco_A_difference : (.code y_A_difference c_A_difference 4 (some .long) : Cond) ∈ T0 := z0 (zm3 (List.mem_of_getElem? (i := 160) rfl)) rfl
theorem zml_A_30 : (.methodLink R_A 30 y_A_sum : Cond) ∈ T0 := z0 (zm3 (List.mem_of_getElem? (i := 161) rfl)) rfl
theorem zml_D_64 : (.methodLink R_D 64 y_A_product : Cond) ∈ T0 := z0 (zm3 (List.mem_of_getElem? (i := 162) rfl)) rfl
theorem zst_A_product : (.static y_A_product : Cond) ∈ T0 := z0 (zm3 (List.mem_of_getElem? (i := 163) rfl)) rfl
theorem zco_A_product : (.code y_A_product c_A_product 7 (some .long) : Cond) ∈ T0 := z0 (zm3 (List.mem_of_getElem? (i := 164) rfl)) rfl
theorem zml_A_48 : (.methodLink R_A 48 y_B_isZero : Cond) ∈ T0 := z0 (zm3 (List.mem_of_getElem? (i := 165) rfl)) rfl
theorem zkl_A_51 : (.constantLong R_A 51 (9218868437227405312) : Cond) ∈ T0 := z0 (zm3 (List.mem_of_getElem? (i := 166) rfl)) rfl
theorem zml_A_53 : (.methodLink R_A 53 y_A_productOfFinite : Cond) ∈ T0 := z0 (zm3 (List.mem_of_getElem? (i := 167) rfl)) rfl
theorem zst_A_productOfFinite : (.static y_A_productOfFinite : Cond) ∈ T0 := z0 (zm3 (List.mem_of_getElem? (i := 168) rfl)) rfl
theorem zco_A_productOfFinite : (.code y_A_productOfFinite c_A_productOfFinite 23 (some .long) : Cond) ∈ T0 := z0 (zm3 (List.mem_of_getElem? (i := 169) rfl)) rfl
theorem zml_A_57 : (.methodLink R_A 57 y_B_lift : Cond) ∈ T0 := z0 (zm3 (List.mem_of_getElem? (i := 170) rfl)) rfl
theorem zkl_A_60 : (.constantLong R_A 60 (67108863) : Cond) ∈ T0 := z0 (zm3 (List.mem_of_getElem? (i := 171) rfl)) rfl
theorem zml_D_67 : (.methodLink R_D 67 y_A_quotient : Cond) ∈ T0 := z0 (zm3 (List.mem_of_getElem? (i := 172) rfl)) rfl
theorem zst_A_quotient : (.static y_A_quotient : Cond) ∈ T0 := z0 (zm3 (List.mem_of_getElem? (i := 173) rfl)) rfl
theorem zco_A_quotient : (.code y_A_quotient c_A_quotient 8 (some .long) : Cond) ∈ T0 := z0 (zm3 (List.mem_of_getElem? (i := 174) rfl)) rfl
theorem zml_A_62 : (.methodLink R_A 62 y_A_quotientOfFinite : Cond) ∈ T0 := z0 (zm3 (List.mem_of_getElem? (i := 175) rfl)) rfl
theorem zst_A_quotientOfFinite : (.static y_A_quotientOfFinite : Cond) ∈ T0 := z0 (zm3 (List.mem_of_getElem? (i := 176) rfl)) rfl
theorem zco_A_quotientOfFinite : (.code y_A_quotientOfFinite c_A_quotientOfFinite 15 (some .long) : Cond) ∈ T0 := z0 (zm3 (List.mem_of_getElem? (i := 177) rfl)) rfl
theorem zml_D_70 : (.methodLink R_D 70 y_A_remainder : Cond) ∈ T0 := z0 (zm3 (List.mem_of_getElem? (i := 178) rfl)) rfl
theorem zst_A_remainder : (.static y_A_remainder : Cond) ∈ T0 := z0 (zm3 (List.mem_of_getElem? (i := 179) rfl)) rfl
theorem zco_A_remainder : (.code y_A_remainder c_A_remainder 9 (some .long) : Cond) ∈ T0 := z0 (zm3 (List.mem_of_getElem? (i := 180) rfl)) rfl
theorem zml_A_65 : (.methodLink R_A 65 ⟨"java/lang/Math", "min", "(II)I"⟩ : Cond) ∈ T0 := z0 (zm3 (List.mem_of_getElem? (i := 181) rfl)) rfl
theorem zml_L_66 : (.methodLink R_L 66 y_L_turn : Cond) ∈ T0 := z0 (zm3 (List.mem_of_getElem? (i := 183) rfl)) rfl
theorem zst_L_turn : (.static y_L_turn : Cond) ∈ T0 := z0 (zm3 (List.mem_of_getElem? (i := 184) rfl)) rfl
theorem zml_L_21 : (.methodLink R_L 21 y_D_turn : Cond) ∈ T0 := z0 (zm3 (List.mem_of_getElem? (i := 186) rfl)) rfl
theorem zim_D_turn : (.instanceMethod y_D_turn : Cond) ∈ T0 := z0 (zm3 (List.mem_of_getElem? (i := 187) rfl)) rfl
theorem zse_D_D_turn : (.selects R_D y_D_turn y_D_turn : Cond) ∈ T0 := z0 (zm3 (List.mem_of_getElem? (i := 188) rfl)) rfl
theorem zco_D_turn : (.code y_D_turn c_D_turn 4 (some .long) : Cond) ∈ T0 := z0 (zm3 (List.mem_of_getElem? (i := 189) rfl)) rfl
theorem zkl_D_83 : (.constantLong R_D 83 (9221120237041090560) : Cond) ∈ T0 := z0 (zm3 (List.mem_of_getElem? (i := 191) rfl)) rfl
theorem zml_D_85 : (.methodLink R_D 85 y_A_root : Cond) ∈ T0 := z0 (zm3 (List.mem_of_getElem? (i := 192) rfl)) rfl
theorem zst_A_root : (.static y_A_root : Cond) ∈ T0 := z0 (zm3 (List.mem_of_getElem? (i := 193) rfl)) rfl
theorem zco_A_root : (.code y_A_root c_A_root 2 (some .long) : Cond) ∈ T0 := z0 (zm3 (List.mem_of_getElem? (i := 194) rfl)) rfl
theorem zml_A_71 : (.methodLink R_A 71 y_A_rootOfFinite : Cond) ∈ T0 := z0 (zm3 (List.mem_of_getElem? (i := 195) rfl)) rfl
theorem zst_A_rootOfFinite : (.static y_A_rootOfFinite : Cond) ∈ T0 := z0 (zm3 (List.mem_of_getElem? (i := 196) rfl)) rfl
theorem zco_A_rootOfFinite : (.code y_A_rootOfFinite c_A_rootOfFinite 14 (some .long) : Cond) ∈ T0 := z0 (zm3 (List.mem_of_getElem? (i := 197) rfl)) rfl
theorem zkl_A_74 : (.constantLong R_A 74 (3) : Cond) ∈ T0 := z0 (zm3 (List.mem_of_getElem? (i := 198) rfl)) rfl
theorem zml_D_91 : (.methodLink R_D 91 y_B_magnitude : Cond) ∈ T0 := z0 (zm3 (List.mem_of_getElem? (i := 199) rfl)) rfl
theorem zml_D_94 : (.methodLink R_D 94 y_H_wholeNear : Cond) ∈ T0 := z0 (zm3 (List.mem_of_getElem? (i := 200) rfl)) rfl
theorem zst_H_wholeNear : (.static y_H_wholeNear : Cond) ∈ T0 := z0 (zm3 (List.mem_of_getElem? (i := 201) rfl)) rfl
theorem zco_H_wholeNear : (.code y_H_wholeNear c_H_wholeNear 11 (some .long) : Cond) ∈ T0 := z0 (zm3 (List.mem_of_getElem? (i := 202) rfl)) rfl
theorem zml_H_7 : (.methodLink R_H 7 y_B_isInfinite : Cond) ∈ T0 := z0 (zm3 (List.mem_of_getElem? (i := 203) rfl)) rfl
theorem zml_H_13 : (.methodLink R_H 13 y_B_exponent : Cond) ∈ T0 := z0 (zm3 (List.mem_of_getElem? (i := 204) rfl)) rfl
theorem zml_H_19 : (.methodLink R_H 19 ⟨"java/lang/Math", "min", "(II)I"⟩ : Cond) ∈ T0 := z0 (zm3 (List.mem_of_getElem? (i := 205) rfl)) rfl
theorem zml_H_25 : (.methodLink R_H 25 y_B_mantissa : Cond) ∈ T0 := z0 (zm3 (List.mem_of_getElem? (i := 206) rfl)) rfl
theorem zml_H_29 : (.methodLink R_H 29 y_H_goesAway : Cond) ∈ T0 := z0 (zm3 (List.mem_of_getElem? (i := 207) rfl)) rfl
theorem zst_H_goesAway : (.static y_H_goesAway : Cond) ∈ T0 := z0 (zm3 (List.mem_of_getElem? (i := 208) rfl)) rfl
theorem zco_H_goesAway : (.code y_H_goesAway c_H_goesAway 6 (some .boolean) : Cond) ∈ T0 := z0 (zm3 (List.mem_of_getElem? (i := 209) rfl)) rfl
theorem zkl_H_33 : (.constantLong R_H 33 (-9223372036854775808) : Cond) ∈ T0 := z0 (zm3 (List.mem_of_getElem? (i := 210) rfl)) rfl
theorem zml_H_35 : (.methodLink R_H 35 y_B_round : Cond) ∈ T0 := z0 (zm3 (List.mem_of_getElem? (i := 211) rfl)) rfl
theorem zml_L_74 : (.methodLink R_L 74 y_L_whole : Cond) ∈ T0 := z0 (zm3 (List.mem_of_getElem? (i := 212) rfl)) rfl
theorem zst_L_whole : (.static y_L_whole : Cond) ∈ T0 := z0 (zm3 (List.mem_of_getElem? (i := 213) rfl)) rfl
theorem zml_L_25 : (.methodLink R_L 25 y_D_whole : Cond) ∈ T0 := z0 (zm3 (List.mem_of_getElem? (i := 215) rfl)) rfl
theorem zim_D_whole : (.instanceMethod y_D_whole : Cond) ∈ T0 := z0 (zm3 (List.mem_of_getElem? (i := 216) rfl)) rfl
theorem zse_D_D_whole : (.selects R_D y_D_whole y_D_whole : Cond) ∈ T0 := z0 (zm3 (List.mem_of_getElem? (i := 217) rfl)) rfl
theorem zco_D_whole : (.code y_D_whole c_D_whole 6 (some .long) : Cond) ∈ T0 := z0 (zm3 (List.mem_of_getElem? (i := 218) rfl)) rfl
theorem zml_D_105 : (.methodLink R_D 105 y_H_lowBits : Cond) ∈ T0 := z0 (zm3 (List.mem_of_getElem? (i := 220) rfl)) rfl
theorem zst_H_lowBits : (.static y_H_lowBits : Cond) ∈ T0 := z0 (zm3 (List.mem_of_getElem? (i := 221) rfl)) rfl
theorem zco_H_lowBits : (.code y_H_lowBits c_H_lowBits 7 (some .long) : Cond) ∈ T0 := z0 (zm3 (List.mem_of_getElem? (i := 222) rfl)) rfl
theorem zml_H_39 : (.methodLink R_H 39 y_B_magnitude : Cond) ∈ T0 := z0 (zm3 (List.mem_of_getElem? (i := 223) rfl)) rfl
theorem zkl_H_42 : (.constantLong R_H 42 (9218868437227405312) : Cond) ∈ T0 := z0 (zm3 (List.mem_of_getElem? (i := 224) rfl)) rfl
theorem zkl_D_108 : (.constantLong R_D 108 (4294967295) : Cond) ∈ T0 := z0 (zm3 (List.mem_of_getElem? (i := 225) rfl)) rfl
theorem zkl_D_110 : (.constantLong R_D 110 (65535) : Cond) ∈ T0 := z0 (zm3 (List.mem_of_getElem? (i := 226) rfl)) rfl
theorem zml_L_87 : (.methodLink R_L 87 y_L_radix : Cond) ∈ T0 := z0 (zm3 (List.mem_of_getElem? (i := 227) rfl)) rfl
theorem zst_L_radix : (.static y_L_radix : Cond) ∈ T0 := z0 (zm3 (List.mem_of_getElem? (i := 228) rfl)) rfl
theorem zml_L_28 : (.methodLink R_L 28 y_D_radix : Cond) ∈ T0 := z0 (zm3 (List.mem_of_getElem? (i := 230) rfl)) rfl
theorem zim_D_radix : (.instanceMethod y_D_radix : Cond) ∈ T0 := z0 (zm3 (List.mem_of_getElem? (i := 231) rfl)) rfl
theorem zse_D_D_radix : (.selects R_D y_D_radix y_D_radix : Cond) ∈ T0 := z0 (zm3 (List.mem_of_getElem? (i := 232) rfl)) rfl
theorem zco_D_radix : (.code y_D_radix c_D_radix 4 (some .int) : Cond) ∈ T0 := z0 (zm3 (List.mem_of_getElem? (i := 233) rfl)) rfl
theorem zml_D_123 : (.methodLink R_D 123 y_T_writeInRadix : Cond) ∈ T0 := z0 (zm3 (List.mem_of_getElem? (i := 235) rfl)) rfl
theorem zim_T_writeInRadix : (.instanceMethod y_T_writeInRadix : Cond) ∈ T0 := z0 (zm3 (List.mem_of_getElem? (i := 236) rfl)) rfl
theorem zse_T_T_writeInRadix : (.selects R_T y_T_writeInRadix y_T_writeInRadix : Cond) ∈ T0 := z0 (zm3 (List.mem_of_getElem? (i := 237) rfl)) rfl
theorem zco_T_writeInRadix : (.code y_T_writeInRadix c_T_writeInRadix 9 none : Cond) ∈ T0 := z0 (zm3 (List.mem_of_getElem? (i := 238) rfl)) rfl
theorem zml_T_120 : (.methodLink R_T 120 y_B_mantissa : Cond) ∈ T0 := z0 (zm3 (List.mem_of_getElem? (i := 239) rfl)) rfl
theorem zml_T_123 : (.methodLink R_T 123 y_B_exponent : Cond) ∈ T0 := z0 (zm4 (List.mem_of_getElem? (i := 0) rfl)) rfl
theorem zml_T_127 : (.methodLink R_T 127 ⟨"java/lang/Math", "min", "(II)I"⟩ : Cond) ∈ T0 := z0 (zm4 (List.mem_of_getElem? (i := 1) rfl)) rfl
theorem zml_T_130 : (.methodLink R_T 130 y_N_set : Cond) ∈ T0 := z0 (zm4 (List.mem_of_getElem? (i := 2) rfl)) rfl
theorem zml_T_133 : (.methodLink R_T 133 y_N_shiftUp : Cond) ∈ T0 := z0 (zm4 (List.mem_of_getElem? (i := 3) rfl)) rfl
theorem zml_T_136 : (.methodLink R_T 136 y_T_addWholeInRadix : Cond) ∈ T0 := z0 (zm4 (List.mem_of_getElem? (i := 4) rfl)) rfl
theorem zim_T_addWholeInRadix : (.instanceMethod y_T_addWholeInRadix : Cond) ∈ T0 := z0 (zm4 (List.mem_of_getElem? (i := 6) rfl)) rfl
theorem zco_T_addWholeInRadix : (.code y_T_addWholeInRadix c_T_addWholeInRadix 8 none : Cond) ∈ T0 := z0 (zm4 (List.mem_of_getElem? (i := 7) rfl)) rfl
theorem zml_T_143 : (.methodLink R_T 143 y_N_isZero : Cond) ∈ T0 := z0 (zm4 (List.mem_of_getElem? (i := 8) rfl)) rfl
theorem zki_T_146 : (.constant R_T 146 (1073741824) : Cond) ∈ T0 := z0 (zm4 (List.mem_of_getElem? (i := 9) rfl)) rfl
theorem zml_T_147 : (.methodLink R_T 147 y_N_divideBySmall : Cond) ∈ T0 := z0 (zm4 (List.mem_of_getElem? (i := 10) rfl)) rfl
theorem zim_N_divideBySmall : (.instanceMethod y_N_divideBySmall : Cond) ∈ T0 := z0 (zm4 (List.mem_of_getElem? (i := 11) rfl)) rfl
theorem zse_N_N_divideBySmall : (.selects R_N y_N_divideBySmall y_N_divideBySmall : Cond) ∈ T0 := z0 (zm4 (List.mem_of_getElem? (i := 12) rfl)) rfl
theorem zco_N_divideBySmall : (.code y_N_divideBySmall c_N_divideBySmall 5 (some .int) : Cond) ∈ T0 := z0 (zm4 (List.mem_of_getElem? (i := 13) rfl)) rfl
theorem zml_T_150 : (.methodLink R_T 150 y_P_dropTrailing : Cond) ∈ T0 := z0 (zm4 (List.mem_of_getElem? (i := 14) rfl)) rfl
theorem zim_P_dropTrailing : (.instanceMethod y_P_dropTrailing : Cond) ∈ T0 := z0 (zm4 (List.mem_of_getElem? (i := 15) rfl)) rfl
theorem zse_P_P_dropTrailing : (.selects R_P y_P_dropTrailing y_P_dropTrailing : Cond) ∈ T0 := z0 (zm4 (List.mem_of_getElem? (i := 16) rfl)) rfl
theorem zco_P_dropTrailing : (.code y_P_dropTrailing c_P_dropTrailing 2 none : Cond) ∈ T0 := z0 (zm4 (List.mem_of_getElem? (i := 17) rfl)) rfl
theorem zml_T_153 : (.methodLink R_T 153 y_P_turnRoundFrom : Cond) ∈ T0 := z0 (zm4 (List.mem_of_getElem? (i := 18) rfl)) rfl
theorem zim_P_turnRoundFrom : (.instanceMethod y_P_turnRoundFrom : Cond) ∈ T0 := z0 (zm4 (List.mem_of_getElem? (i := 19) rfl)) rfl
theorem zse_P_P_turnRoundFrom : (.selects R_P y_P_turnRoundFrom y_P_turnRoundFrom : Cond) ∈ T0 := z0 (zm4 (List.mem_of_getElem? (i := 20) rfl)) rfl
theorem zco_P_turnRoundFrom : (.code y_P_turnRoundFrom c_P_turnRoundFrom 5 none : Cond) ∈ T0 := z0 (zm4 (List.mem_of_getElem? (i := 21) rfl)) rfl
theorem zml_T_139 : (.methodLink R_T 139 y_T_addRestInRadix : Cond) ∈ T0 := z0 (zm4 (List.mem_of_getElem? (i := 22) rfl)) rfl
theorem zim_T_addRestInRadix : (.instanceMethod y_T_addRestInRadix : Cond) ∈ T0 := z0 (zm4 (List.mem_of_getElem? (i := 24) rfl)) rfl
theorem zco_T_addRestInRadix : (.code y_T_addRestInRadix c_T_addRestInRadix 7 none : Cond) ∈ T0 := z0 (zm4 (List.mem_of_getElem? (i := 25) rfl)) rfl
theorem zml_T_156 : (.methodLink R_T 156 y_N_multiplyAndAdd : Cond) ∈ T0 := z0 (zm4 (List.mem_of_getElem? (i := 26) rfl)) rfl
theorem zml_T_160 : (.methodLink R_T 160 y_N_takeFrom : Cond) ∈ T0 := z0 (zm4 (List.mem_of_getElem? (i := 27) rfl)) rfl
theorem zim_N_takeFrom : (.instanceMethod y_N_takeFrom : Cond) ∈ T0 := z0 (zm4 (List.mem_of_getElem? (i := 28) rfl)) rfl
theorem zse_N_N_takeFrom : (.selects R_N y_N_takeFrom y_N_takeFrom : Cond) ∈ T0 := z0 (zm4 (List.mem_of_getElem? (i := 29) rfl)) rfl
theorem zco_N_takeFrom : (.code y_N_takeFrom c_N_takeFrom 3 (some .int) : Cond) ∈ T0 := z0 (zm4 (List.mem_of_getElem? (i := 30) rfl)) rfl
theorem zml_L_90 : (.methodLink R_L 90 y_L_form : Cond) ∈ T0 := z0 (zm4 (List.mem_of_getElem? (i := 31) rfl)) rfl
theorem zst_L_form : (.static y_L_form : Cond) ∈ T0 := z0 (zm4 (List.mem_of_getElem? (i := 32) rfl)) rfl
theorem zml_L_31 : (.methodLink R_L 31 y_D_form : Cond) ∈ T0 := z0 (zm4 (List.mem_of_getElem? (i := 34) rfl)) rfl
theorem zim_D_form : (.instanceMethod y_D_form : Cond) ∈ T0 := z0 (zm4 (List.mem_of_getElem? (i := 35) rfl)) rfl
theorem zse_D_D_form : (.selects R_D y_D_form y_D_form : Cond) ∈ T0 := z0 (zm4 (List.mem_of_getElem? (i := 36) rfl)) rfl
theorem zco_D_form : (.code y_D_form c_D_form 5 (some .int) : Cond) ∈ T0 := z0 (zm4 (List.mem_of_getElem? (i := 37) rfl)) rfl
theorem zml_D_129 : (.methodLink R_D 129 y_T_writeFixed : Cond) ∈ T0 := z0 (zm4 (List.mem_of_getElem? (i := 39) rfl)) rfl
theorem zim_T_writeFixed : (.instanceMethod y_T_writeFixed : Cond) ∈ T0 := z0 (zm4 (List.mem_of_getElem? (i := 40) rfl)) rfl
theorem zse_T_T_writeFixed : (.selects R_T y_T_writeFixed y_T_writeFixed : Cond) ∈ T0 := z0 (zm4 (List.mem_of_getElem? (i := 41) rfl)) rfl
theorem zco_T_writeFixed : (.code y_T_writeFixed c_T_writeFixed 6 none : Cond) ∈ T0 := z0 (zm4 (List.mem_of_getElem? (i := 42) rfl)) rfl
theorem zkl_T_93 : (.constantLong R_T 93 (4921056587992461136) : Cond) ∈ T0 := z0 (zm4 (List.mem_of_getElem? (i := 43) rfl)) rfl
theorem zml_T_95 : (.methodLink R_T 95 y_E_makeZero : Cond) ∈ T0 := z0 (zm4 (List.mem_of_getElem? (i := 44) rfl)) rfl
theorem zim_E_makeZero : (.instanceMethod y_E_makeZero : Cond) ∈ T0 := z0 (zm4 (List.mem_of_getElem? (i := 45) rfl)) rfl
theorem zse_E_E_makeZero : (.selects R_E y_E_makeZero y_E_makeZero : Cond) ∈ T0 := z0 (zm4 (List.mem_of_getElem? (i := 46) rfl)) rfl
theorem zco_E_makeZero : (.code y_E_makeZero c_E_makeZero 1 none : Cond) ∈ T0 := z0 (zm4 (List.mem_of_getElem? (i := 47) rfl)) rfl
theorem zml_T_98 : (.methodLink R_T 98 y_E_makePlaces : Cond) ∈ T0 := z0 (zm4 (List.mem_of_getElem? (i := 48) rfl)) rfl
theorem zim_E_makePlaces : (.instanceMethod y_E_makePlaces : Cond) ∈ T0 := z0 (zm4 (List.mem_of_getElem? (i := 49) rfl)) rfl
theorem zse_E_E_makePlaces : (.selects R_E y_E_makePlaces y_E_makePlaces : Cond) ∈ T0 := z0 (zm4 (List.mem_of_getElem? (i := 50) rfl)) rfl
theorem zco_E_makePlaces : (.code y_E_makePlaces c_E_makePlaces 4 none : Cond) ∈ T0 := z0 (zm4 (List.mem_of_getElem? (i := 51) rfl)) rfl
theorem zml_E_94 : (.methodLink R_E 94 y_E_takeDigits : Cond) ∈ T0 := z0 (zm4 (List.mem_of_getElem? (i := 52) rfl)) rfl
theorem zim_E_takeDigits : (.instanceMethod y_E_takeDigits : Cond) ∈ T0 := z0 (zm4 (List.mem_of_getElem? (i := 54) rfl)) rfl
theorem zco_E_takeDigits : (.code y_E_takeDigits c_E_takeDigits 3 none : Cond) ∈ T0 := z0 (zm4 (List.mem_of_getElem? (i := 55) rfl)) rfl
theorem zml_D_134 : (.methodLink R_D 134 y_T_writeExponential : Cond) ∈ T0 := z0 (zm4 (List.mem_of_getElem? (i := 57) rfl)) rfl
theorem zim_T_writeExponential : (.instanceMethod y_T_writeExponential : Cond) ∈ T0 := z0 (zm4 (List.mem_of_getElem? (i := 58) rfl)) rfl
theorem zse_T_T_writeExponential : (.selects R_T y_T_writeExponential y_T_writeExponential : Cond) ∈ T0 := z0 (zm4 (List.mem_of_getElem? (i := 59) rfl)) rfl
theorem zco_T_writeExponential : (.code y_T_writeExponential c_T_writeExponential 4 none : Cond) ∈ T0 := z0 (zm4 (List.mem_of_getElem? (i := 60) rfl)) rfl
theorem zml_T_111 : (.methodLink R_T 111 y_E_makeDigits : Cond) ∈ T0 := z0 (zm4 (List.mem_of_getElem? (i := 61) rfl)) rfl
theorem zim_E_makeDigits : (.instanceMethod y_E_makeDigits : Cond) ∈ T0 := z0 (zm4 (List.mem_of_getElem? (i := 62) rfl)) rfl
theorem zse_E_E_makeDigits : (.selects R_E y_E_makeDigits y_E_makeDigits : Cond) ∈ T0 := z0 (zm4 (List.mem_of_getElem? (i := 63) rfl)) rfl
theorem zco_E_makeDigits : (.code y_E_makeDigits c_E_makeDigits 4 none : Cond) ∈ T0 := z0 (zm4 (List.mem_of_getElem? (i := 64) rfl)) rfl
theorem zml_E_97 : (.methodLink R_E 97 ⟨"java/lang/Math", "min", "(II)I"⟩ : Cond) ∈ T0 := z0 (zm4 (List.mem_of_getElem? (i := 65) rfl)) rfl
theorem zml_D_139 : (.methodLink R_D 139 y_T_writePrecise : Cond) ∈ T0 := z0 (zm4 (List.mem_of_getElem? (i := 67) rfl)) rfl
theorem zim_T_writePrecise : (.instanceMethod y_T_writePrecise : Cond) ∈ T0 := z0 (zm4 (List.mem_of_getElem? (i := 68) rfl)) rfl
theorem zse_T_T_writePrecise : (.selects R_T y_T_writePrecise y_T_writePrecise : Cond) ∈ T0 := z0 (zm4 (List.mem_of_getElem? (i := 69) rfl)) rfl
theorem zco_T_writePrecise : (.code y_T_writePrecise c_T_writePrecise 5 none : Cond) ∈ T0 := z0 (zm4 (List.mem_of_getElem? (i := 70) rfl)) rfl
theorem zml_L_94 : (.methodLink R_L 94 y_L_unit : Cond) ∈ T0 := z0 (zm4 (List.mem_of_getElem? (i := 72) rfl)) rfl
theorem zst_L_unit : (.static y_L_unit : Cond) ∈ T0 := z0 (zm4 (List.mem_of_getElem? (i := 73) rfl)) rfl
theorem zcl_L_39 : (.classLink R_L 39 "java/lang/IndexOutOfBoundsException" : Cond) ∈ T0 := z0 (zm4 (List.mem_of_getElem? (i := 75) rfl)) rfl
theorem zml_L_35 : (.methodLink R_L 35 y_D_unit : Cond) ∈ T0 := z0 (zm4 (List.mem_of_getElem? (i := 76) rfl)) rfl
theorem zim_D_unit : (.instanceMethod y_D_unit : Cond) ∈ T0 := z0 (zm4 (List.mem_of_getElem? (i := 77) rfl)) rfl
theorem zse_D_D_unit : (.selects R_D y_D_unit y_D_unit : Cond) ∈ T0 := z0 (zm4 (List.mem_of_getElem? (i := 78) rfl)) rfl
theorem zco_D_unit : (.code y_D_unit c_D_unit 2 (some .int) : Cond) ∈ T0 := z0 (zm4 (List.mem_of_getElem? (i := 79) rfl)) rfl
theorem zcl_D_144 : (.classLink R_D 144 "java/lang/IndexOutOfBoundsException" : Cond) ∈ T0 := z0 (zm4 (List.mem_of_getElem? (i := 80) rfl)) rfl
theorem zis_JB : (.instantiable "java/lang/IndexOutOfBoundsException" 6 : Cond) ∈ T0 := z0 (zm4 (List.mem_of_getElem? (i := 81) rfl)) rfl
theorem zml_D_148 : (.methodLink R_D 148 ⟨"java/lang/IndexOutOfBoundsException", "<init>", "(Ljava/lang/String;)V"⟩ : Cond) ∈ T0 := z0 (zm4 (List.mem_of_getElem? (i := 90) rfl)) rfl
theorem zim_JB_init : (.instanceMethod ⟨"java/lang/IndexOutOfBoundsException", "<init>", "(Ljava/lang/String;)V"⟩ : Cond) ∈ T0 := z0 (zm4 (List.mem_of_getElem? (i := 91) rfl)) rfl
theorem zml_JB_7 : (.methodLink "java/lang/IndexOutOfBoundsException" 7 ⟨"java/lang/RuntimeException", "<init>", "(Ljava/lang/String;)V"⟩ : Cond) ∈ T0 := z0 (zm4 (List.mem_of_getElem? (i := 93) rfl)) rfl
theorem zml_D_149 : (.methodLink R_D 149 y_T_unitAt : Cond) ∈ T0 := z0 (zm4 (List.mem_of_getElem? (i := 96) rfl)) rfl
theorem zim_T_unitAt : (.instanceMethod y_T_unitAt : Cond) ∈ T0 := z0 (zm4 (List.mem_of_getElem? (i := 97) rfl)) rfl
theorem zse_T_T_unitAt : (.selects R_T y_T_unitAt y_T_unitAt : Cond) ∈ T0 := z0 (zm4 (List.mem_of_getElem? (i := 98) rfl)) rfl
theorem zco_T_unitAt : (.code y_T_unitAt c_T_unitAt 2 (some .int) : Cond) ∈ T0 := z0 (zm4 (List.mem_of_getElem? (i := 99) rfl)) rfl
theorem zml_T_34 : (.methodLink R_T 34 y_P_unitAt : Cond) ∈ T0 := z0 (zm4 (List.mem_of_getElem? (i := 100) rfl)) rfl
theorem zim_P_unitAt : (.instanceMethod y_P_unitAt : Cond) ∈ T0 := z0 (zm4 (List.mem_of_getElem? (i := 101) rfl)) rfl
theorem zse_P_P_unitAt : (.selects R_P y_P_unitAt y_P_unitAt : Cond) ∈ T0 := z0 (zm4 (List.mem_of_getElem? (i := 102) rfl)) rfl
theorem zco_P_unitAt : (.code y_P_unitAt c_P_unitAt 2 (some .int) : Cond) ∈ T0 := z0 (zm4 (List.mem_of_getElem? (i := 103) rfl)) rfl
theorem zcl_L_42 : (.classLink R_L 42 R_M : Cond) ∈ T0 := z0 (zm4 (List.mem_of_getElem? (i := 104) rfl)) rfl
theorem zis_M : (.instantiable R_M 9 : Cond) ∈ T0 := z0 (zm4 (List.mem_of_getElem? (i := 105) rfl)) rfl
theorem zml_L_44 : (.methodLink R_L 44 y_M_init : Cond) ∈ T0 := z0 (zm4 (List.mem_of_getElem? (i := 106) rfl)) rfl
theorem zim_M_init : (.instanceMethod y_M_init : Cond) ∈ T0 := z0 (zm4 (List.mem_of_getElem? (i := 107) rfl)) rfl
theorem zco_M_init : (.code y_M_init c_M_init 1 none : Cond) ∈ T0 := z0 (zm4 (List.mem_of_getElem? (i := 108) rfl)) rfl
theorem zml_M_1 : (.methodLink R_M 1 ⟨"java/lang/Object", "<init>", "()V"⟩ : Cond) ∈ T0 := z0 (zm4 (List.mem_of_getElem? (i := 109) rfl)) rfl
theorem zfl_M_22 : (.fieldLink R_M 22 "DoubleBitsModel" "thrown" "I" : Cond) ∈ T0 := z0 (zm4 (List.mem_of_getElem? (i := 110) rfl)) rfl
theorem zfl_M_7 : (.fieldLink R_M 7 "DoubleBitsModel" "text" "[I" : Cond) ∈ T0 := z0 (zm4 (List.mem_of_getElem? (i := 111) rfl)) rfl
theorem zfl_M_146 : (.fieldLink R_M 146 "DoubleBitsModel" "size" "I" : Cond) ∈ T0 := z0 (zm4 (List.mem_of_getElem? (i := 112) rfl)) rfl
theorem zfl_M_13 : (.fieldLink R_M 13 "DoubleBitsModel" "out" "[I" : Cond) ∈ T0 := z0 (zm4 (List.mem_of_getElem? (i := 113) rfl)) rfl
theorem zfl_M_185 : (.fieldLink R_M 185 "DoubleBitsModel" "outs" "I" : Cond) ∈ T0 := z0 (zm4 (List.mem_of_getElem? (i := 114) rfl)) rfl
theorem zfl_M_16 : (.fieldLink R_M 16 "DoubleBitsModel" "rows" "[I" : Cond) ∈ T0 := z0 (zm4 (List.mem_of_getElem? (i := 115) rfl)) rfl
theorem zfl_M_19 : (.fieldLink R_M 19 "DoubleBitsModel" "digits" "[I" : Cond) ∈ T0 := z0 (zm4 (List.mem_of_getElem? (i := 116) rfl)) rfl
theorem zfl_M_228 : (.fieldLink R_M 228 "DoubleBitsModel" "count" "I" : Cond) ∈ T0 := z0 (zm4 (List.mem_of_getElem? (i := 117) rfl)) rfl
theorem zfl_M_231 : (.fieldLink R_M 231 "DoubleBitsModel" "point" "I" : Cond) ∈ T0 := z0 (zm4 (List.mem_of_getElem? (i := 118) rfl)) rfl
theorem zml_L_53 : (.methodLink R_L 53 y_M_thrown : Cond) ∈ T0 := z0 (zm4 (List.mem_of_getElem? (i := 138) rfl)) rfl
theorem zim_M_thrown : (.instanceMethod y_M_thrown : Cond) ∈ T0 := z0 (zm4 (List.mem_of_getElem? (i := 139) rfl)) rfl
theorem zse_M_M_thrown : (.selects R_M y_M_thrown y_M_thrown : Cond) ∈ T0 := z0 (zm4 (List.mem_of_getElem? (i := 140) rfl)) rfl
theorem zco_M_thrown : (.code y_M_thrown c_M_thrown 1 (some .int) : Cond) ∈ T0 := z0 (zm4 (List.mem_of_getElem? (i := 141) rfl)) rfl
theorem zml_L_81 : (.methodLink R_L 81 y_M_of : Cond) ∈ T0 := z0 (zm4 (List.mem_of_getElem? (i := 142) rfl)) rfl
theorem zim_M_of : (.instanceMethod y_M_of : Cond) ∈ T0 := z0 (zm4 (List.mem_of_getElem? (i := 143) rfl)) rfl
theorem zse_M_M_of : (.selects R_M y_M_of y_M_of : Cond) ∈ T0 := z0 (zm4 (List.mem_of_getElem? (i := 144) rfl)) rfl
theorem zco_M_of : (.code y_M_of c_M_of 4 (some .long) : Cond) ∈ T0 := z0 (zm4 (List.mem_of_getElem? (i := 145) rfl)) rfl
theorem zml_M_40 : (.methodLink R_M 40 y_M_set : Cond) ∈ T0 := z0 (zm4 (List.mem_of_getElem? (i := 146) rfl)) rfl
theorem zim_M_set : (.instanceMethod y_M_set : Cond) ∈ T0 := z0 (zm4 (List.mem_of_getElem? (i := 148) rfl)) rfl
theorem zco_M_set : (.code y_M_set c_M_set 5 none : Cond) ∈ T0 := z0 (zm4 (List.mem_of_getElem? (i := 149) rfl)) rfl
theorem zkl_M_26 : (.constantLong R_M 26 (16777215) : Cond) ∈ T0 := z0 (zm4 (List.mem_of_getElem? (i := 150) rfl)) rfl
theorem zkl_M_86 : (.constantLong R_M 86 (-9223372036854775808) : Cond) ∈ T0 := z0 (zm4 (List.mem_of_getElem? (i := 151) rfl)) rfl
theorem zml_M_88 : (.methodLink R_M 88 y_M_round : Cond) ∈ T0 := z0 (zm4 (List.mem_of_getElem? (i := 152) rfl)) rfl
theorem zim_M_round : (.instanceMethod y_M_round : Cond) ∈ T0 := z0 (zm4 (List.mem_of_getElem? (i := 154) rfl)) rfl
theorem zco_M_round : (.code y_M_round c_M_round 14 (some .long) : Cond) ∈ T0 := z0 (zm4 (List.mem_of_getElem? (i := 155) rfl)) rfl
theorem zml_M_69 : (.methodLink R_M 69 y_M_length : Cond) ∈ T0 := z0 (zm4 (List.mem_of_getElem? (i := 156) rfl)) rfl
theorem zim_M_length : (.instanceMethod y_M_length : Cond) ∈ T0 := z0 (zm4 (List.mem_of_getElem? (i := 158) rfl)) rfl
theorem zco_M_length : (.code y_M_length c_M_length 3 (some .int) : Cond) ∈ T0 := z0 (zm4 (List.mem_of_getElem? (i := 159) rfl)) rfl
theorem zml_M_34 : (.methodLink R_M 34 y_M_bit : Cond) ∈ T0 := z0 (zm4 (List.mem_of_getElem? (i := 160) rfl)) rfl
theorem zim_M_bit : (.instanceMethod y_M_bit : Cond) ∈ T0 := z0 (zm4 (List.mem_of_getElem? (i := 162) rfl)) rfl
theorem zco_M_bit : (.code y_M_bit c_M_bit 3 (some .int) : Cond) ∈ T0 := z0 (zm4 (List.mem_of_getElem? (i := 163) rfl)) rfl
theorem zml_M_73 : (.methodLink R_M 73 y_M_copy : Cond) ∈ T0 := z0 (zm4 (List.mem_of_getElem? (i := 164) rfl)) rfl
theorem zim_M_copy : (.instanceMethod y_M_copy : Cond) ∈ T0 := z0 (zm4 (List.mem_of_getElem? (i := 166) rfl)) rfl
theorem zco_M_copy : (.code y_M_copy c_M_copy 4 none : Cond) ∈ T0 := z0 (zm4 (List.mem_of_getElem? (i := 167) rfl)) rfl
theorem zml_M_44 : (.methodLink R_M 44 y_M_shift : Cond) ∈ T0 := z0 (zm4 (List.mem_of_getElem? (i := 168) rfl)) rfl
theorem zim_M_shift : (.instanceMethod y_M_shift : Cond) ∈ T0 := z0 (zm4 (List.mem_of_getElem? (i := 170) rfl)) rfl
theorem zco_M_shift : (.code y_M_shift c_M_shift 5 none : Cond) ∈ T0 := z0 (zm4 (List.mem_of_getElem? (i := 171) rfl)) rfl
theorem zml_M_29 : (.methodLink R_M 29 y_M_times : Cond) ∈ T0 := z0 (zm4 (List.mem_of_getElem? (i := 172) rfl)) rfl
theorem zim_M_times : (.instanceMethod y_M_times : Cond) ∈ T0 := z0 (zm4 (List.mem_of_getElem? (i := 174) rfl)) rfl
theorem zco_M_times : (.code y_M_times c_M_times 9 none : Cond) ∈ T0 := z0 (zm4 (List.mem_of_getElem? (i := 175) rfl)) rfl
theorem zml_M_76 : (.methodLink R_M 76 y_M_bits : Cond) ∈ T0 := z0 (zm4 (List.mem_of_getElem? (i := 176) rfl)) rfl
theorem zim_M_bits : (.instanceMethod y_M_bits : Cond) ∈ T0 := z0 (zm4 (List.mem_of_getElem? (i := 178) rfl)) rfl
theorem zco_M_bits : (.code y_M_bits c_M_bits 6 (some .long) : Cond) ∈ T0 := z0 (zm4 (List.mem_of_getElem? (i := 179) rfl)) rfl
theorem zkl_M_38 : (.constantLong R_M 38 (2) : Cond) ∈ T0 := z0 (zm4 (List.mem_of_getElem? (i := 180) rfl)) rfl
theorem zml_M_80 : (.methodLink R_M 80 y_M_packed : Cond) ∈ T0 := z0 (zm4 (List.mem_of_getElem? (i := 181) rfl)) rfl
theorem zst_M_packed : (.static y_M_packed : Cond) ∈ T0 := z0 (zm4 (List.mem_of_getElem? (i := 182) rfl)) rfl
theorem zco_M_packed : (.code y_M_packed c_M_packed 8 (some .long) : Cond) ∈ T0 := z0 (zm4 (List.mem_of_getElem? (i := 183) rfl)) rfl
theorem zkl_M_84 : (.constantLong R_M 84 (9007199254740992) : Cond) ∈ T0 := z0 (zm4 (List.mem_of_getElem? (i := 184) rfl)) rfl
theorem zkl_M_65 : (.constantLong R_M 65 (4503599627370496) : Cond) ∈ T0 := z0 (zm4 (List.mem_of_getElem? (i := 185) rfl)) rfl
theorem zkl_M_61 : (.constantLong R_M 61 (9218868437227405312) : Cond) ∈ T0 := z0 (zm4 (List.mem_of_getElem? (i := 186) rfl)) rfl
theorem zml_L_73 : (.methodLink R_L 73 y_M_compare : Cond) ∈ T0 := z0 (zm4 (List.mem_of_getElem? (i := 187) rfl)) rfl
theorem zim_M_compare : (.instanceMethod y_M_compare : Cond) ∈ T0 := z0 (zm4 (List.mem_of_getElem? (i := 188) rfl)) rfl
theorem zse_M_M_compare : (.selects R_M y_M_compare y_M_compare : Cond) ∈ T0 := z0 (zm4 (List.mem_of_getElem? (i := 189) rfl)) rfl
theorem zco_M_compare : (.code y_M_compare c_M_compare 9 (some .int) : Cond) ∈ T0 := z0 (zm4 (List.mem_of_getElem? (i := 190) rfl)) rfl
theorem zml_M_92 : (.methodLink R_M 92 y_M_isNan : Cond) ∈ T0 := z0 (zm4 (List.mem_of_getElem? (i := 191) rfl)) rfl
theorem zst_M_isNan : (.static y_M_isNan : Cond) ∈ T0 := z0 (zm4 (List.mem_of_getElem? (i := 192) rfl)) rfl
theorem zco_M_isNan : (.code y_M_isNan c_M_isNan 2 (some .boolean) : Cond) ∈ T0 := z0 (zm4 (List.mem_of_getElem? (i := 193) rfl)) rfl
theorem zkl_M_59 : (.constantLong R_M 59 (9223372036854775807) : Cond) ∈ T0 := z0 (zm4 (List.mem_of_getElem? (i := 194) rfl)) rfl
theorem zml_L_65 : (.methodLink R_L 65 y_M_reckon : Cond) ∈ T0 := z0 (zm4 (List.mem_of_getElem? (i := 195) rfl)) rfl
theorem zim_M_reckon : (.instanceMethod y_M_reckon : Cond) ∈ T0 := z0 (zm4 (List.mem_of_getElem? (i := 196) rfl)) rfl
theorem zse_M_M_reckon : (.selects R_M y_M_reckon y_M_reckon : Cond) ∈ T0 := z0 (zm4 (List.mem_of_getElem? (i := 197) rfl)) rfl
theorem zco_M_reckon : (.code y_M_reckon c_M_reckon 6 (some .long) : Cond) ∈ T0 := z0 (zm4 (List.mem_of_getElem? (i := 198) rfl)) rfl
theorem zml_M_118 : (.methodLink R_M 118 y_M_throwing : Cond) ∈ T0 := z0 (zm4 (List.mem_of_getElem? (i := 199) rfl)) rfl
theorem zim_M_throwing : (.instanceMethod y_M_throwing : Cond) ∈ T0 := z0 (zm4 (List.mem_of_getElem? (i := 201) rfl)) rfl
theorem zco_M_throwing : (.code y_M_throwing c_M_throwing 3 (some .boolean) : Cond) ∈ T0 := z0 (zm4 (List.mem_of_getElem? (i := 202) rfl)) rfl
theorem zkl_M_99 : (.constantLong R_M 99 (9221120237041090560) : Cond) ∈ T0 := z0 (zm4 (List.mem_of_getElem? (i := 203) rfl)) rfl
theorem zml_M_122 : (.methodLink R_M 122 y_M_sum : Cond) ∈ T0 := z0 (zm4 (List.mem_of_getElem? (i := 204) rfl)) rfl
theorem zim_M_sum : (.instanceMethod y_M_sum : Cond) ∈ T0 := z0 (zm4 (List.mem_of_getElem? (i := 206) rfl)) rfl
theorem zco_M_sum : (.code y_M_sum c_M_sum 8 (some .long) : Cond) ∈ T0 := z0 (zm4 (List.mem_of_getElem? (i := 207) rfl)) rfl
theorem zml_M_96 : (.methodLink R_M 96 y_M_isInfinite : Cond) ∈ T0 := z0 (zm4 (List.mem_of_getElem? (i := 208) rfl)) rfl
theorem zst_M_isInfinite : (.static y_M_isInfinite : Cond) ∈ T0 := z0 (zm4 (List.mem_of_getElem? (i := 209) rfl)) rfl
theorem zco_M_isInfinite : (.code y_M_isInfinite c_M_isInfinite 2 (some .boolean) : Cond) ∈ T0 := z0 (zm4 (List.mem_of_getElem? (i := 210) rfl)) rfl
theorem zml_M_101 : (.methodLink R_M 101 y_M_isZero : Cond) ∈ T0 := z0 (zm4 (List.mem_of_getElem? (i := 211) rfl)) rfl
theorem zst_M_isZero : (.static y_M_isZero : Cond) ∈ T0 := z0 (zm4 (List.mem_of_getElem? (i := 212) rfl)) rfl
theorem zco_M_isZero : (.code y_M_isZero c_M_isZero 2 (some .boolean) : Cond) ∈ T0 := z0 (zm4 (List.mem_of_getElem? (i := 213) rfl)) rfl
theorem zml_M_104 : (.methodLink R_M 104 y_M_power : Cond) ∈ T0 := z0 (zm4 (List.mem_of_getElem? (i := 214) rfl)) rfl
theorem zst_M_power : (.static y_M_power : Cond) ∈ T0 := z0 (zm4 (List.mem_of_getElem? (i := 215) rfl)) rfl
theorem zco_M_power : (.code y_M_power c_M_power 3 (some .int) : Cond) ∈ T0 := z0 (zm4 (List.mem_of_getElem? (i := 216) rfl)) rfl
theorem zkl_M_67 : (.constantLong R_M 67 (2047) : Cond) ∈ T0 := z0 (zm4 (List.mem_of_getElem? (i := 217) rfl)) rfl
theorem zml_M_108 : (.methodLink R_M 108 y_M_amount : Cond) ∈ T0 := z0 (zm4 (List.mem_of_getElem? (i := 218) rfl)) rfl
theorem zst_M_amount : (.static y_M_amount : Cond) ∈ T0 := z0 (zm4 (List.mem_of_getElem? (i := 219) rfl)) rfl
theorem zco_M_amount : (.code y_M_amount c_M_amount 2 (some .long) : Cond) ∈ T0 := z0 (zm4 (List.mem_of_getElem? (i := 220) rfl)) rfl
theorem zkl_M_63 : (.constantLong R_M 63 (4503599627370495) : Cond) ∈ T0 := z0 (zm4 (List.mem_of_getElem? (i := 221) rfl)) rfl
theorem zml_M_48 : (.methodLink R_M 48 y_M_order : Cond) ∈ T0 := z0 (zm4 (List.mem_of_getElem? (i := 222) rfl)) rfl
theorem zim_M_order : (.instanceMethod y_M_order : Cond) ∈ T0 := z0 (zm4 (List.mem_of_getElem? (i := 224) rfl)) rfl
theorem zco_M_order : (.code y_M_order c_M_order 6 (some .int) : Cond) ∈ T0 := z0 (zm4 (List.mem_of_getElem? (i := 225) rfl)) rfl
theorem zml_M_51 : (.methodLink R_M 51 y_M_add : Cond) ∈ T0 := z0 (zm4 (List.mem_of_getElem? (i := 226) rfl)) rfl
theorem zim_M_add : (.instanceMethod y_M_add : Cond) ∈ T0 := z0 (zm4 (List.mem_of_getElem? (i := 228) rfl)) rfl
theorem zco_M_add : (.code y_M_add c_M_add 7 none : Cond) ∈ T0 := z0 (zm4 (List.mem_of_getElem? (i := 229) rfl)) rfl
theorem zki_M_33 : (.constant R_M 33 (16777215) : Cond) ∈ T0 := z0 (zm4 (List.mem_of_getElem? (i := 230) rfl)) rfl
theorem zml_M_126 : (.methodLink R_M 126 y_M_product : Cond) ∈ T0 := z0 (zm4 (List.mem_of_getElem? (i := 231) rfl)) rfl
theorem zim_M_product : (.instanceMethod y_M_product : Cond) ∈ T0 := z0 (zm4 (List.mem_of_getElem? (i := 233) rfl)) rfl
theorem zco_M_product : (.code y_M_product c_M_product 8 (some .long) : Cond) ∈ T0 := z0 (zm4 (List.mem_of_getElem? (i := 234) rfl)) rfl
theorem zml_M_129 : (.methodLink R_M 129 y_M_ratio : Cond) ∈ T0 := z0 (zm4 (List.mem_of_getElem? (i := 235) rfl)) rfl
theorem zim_M_ratio : (.instanceMethod y_M_ratio : Cond) ∈ T0 := z0 (zm4 (List.mem_of_getElem? (i := 237) rfl)) rfl
theorem zco_M_ratio : (.code y_M_ratio c_M_ratio 7 (some .long) : Cond) ∈ T0 := z0 (zm4 (List.mem_of_getElem? (i := 238) rfl)) rfl
theorem zml_M_112 : (.methodLink R_M 112 y_M_quotient : Cond) ∈ T0 := z0 (zm4 (List.mem_of_getElem? (i := 239) rfl)) rfl
theorem zim_M_quotient : (.instanceMethod y_M_quotient : Cond) ∈ T0 := z0 (zm5 (List.mem_of_getElem? (i := 1) rfl)) rfl
theorem zco_M_quotient : (.code y_M_quotient c_M_quotient 4 none : Cond) ∈ T0 := z0 (zm5 (List.mem_of_getElem? (i := 2) rfl)) rfl
theorem zml_M_55 : (.methodLink R_M 55 y_M_halve : Cond) ∈ T0 := z0 (zm5 (List.mem_of_getElem? (i := 3) rfl)) rfl
theorem zim_M_halve : (.instanceMethod y_M_halve : Cond) ∈ T0 := z0 (zm5 (List.mem_of_getElem? (i := 5) rfl)) rfl
theorem zco_M_halve : (.code y_M_halve c_M_halve 4 none : Cond) ∈ T0 := z0 (zm5 (List.mem_of_getElem? (i := 6) rfl)) rfl
theorem zml_M_132 : (.methodLink R_M 132 y_M_remainder : Cond) ∈ T0 := z0 (zm5 (List.mem_of_getElem? (i := 7) rfl)) rfl
theorem zst_M_remainder : (.static y_M_remainder : Cond) ∈ T0 := z0 (zm5 (List.mem_of_getElem? (i := 8) rfl)) rfl
theorem zco_M_remainder : (.code y_M_remainder c_M_remainder 10 (some .long) : Cond) ∈ T0 := z0 (zm5 (List.mem_of_getElem? (i := 9) rfl)) rfl
theorem zml_M_115 : (.methodLink R_M 115 y_M_scaled : Cond) ∈ T0 := z0 (zm5 (List.mem_of_getElem? (i := 10) rfl)) rfl
theorem zst_M_scaled : (.static y_M_scaled : Cond) ∈ T0 := z0 (zm5 (List.mem_of_getElem? (i := 11) rfl)) rfl
theorem zco_M_scaled : (.code y_M_scaled c_M_scaled 8 (some .long) : Cond) ∈ T0 := z0 (zm5 (List.mem_of_getElem? (i := 12) rfl)) rfl
theorem zml_L_68 : (.methodLink R_L 68 y_M_turn : Cond) ∈ T0 := z0 (zm5 (List.mem_of_getElem? (i := 13) rfl)) rfl
theorem zim_M_turn : (.instanceMethod y_M_turn : Cond) ∈ T0 := z0 (zm5 (List.mem_of_getElem? (i := 14) rfl)) rfl
theorem zse_M_M_turn : (.selects R_M y_M_turn y_M_turn : Cond) ∈ T0 := z0 (zm5 (List.mem_of_getElem? (i := 15) rfl)) rfl
theorem zco_M_turn : (.code y_M_turn c_M_turn 4 (some .long) : Cond) ∈ T0 := z0 (zm5 (List.mem_of_getElem? (i := 16) rfl)) rfl
theorem zml_M_135 : (.methodLink R_M 135 y_M_root : Cond) ∈ T0 := z0 (zm5 (List.mem_of_getElem? (i := 17) rfl)) rfl
theorem zim_M_root : (.instanceMethod y_M_root : Cond) ∈ T0 := z0 (zm5 (List.mem_of_getElem? (i := 19) rfl)) rfl
theorem zco_M_root : (.code y_M_root c_M_root 5 (some .long) : Cond) ∈ T0 := z0 (zm5 (List.mem_of_getElem? (i := 20) rfl)) rfl
theorem zml_M_138 : (.methodLink R_M 138 y_M_near : Cond) ∈ T0 := z0 (zm5 (List.mem_of_getElem? (i := 21) rfl)) rfl
theorem zim_M_near : (.instanceMethod y_M_near : Cond) ∈ T0 := z0 (zm5 (List.mem_of_getElem? (i := 23) rfl)) rfl
theorem zco_M_near : (.code y_M_near c_M_near 13 (some .long) : Cond) ∈ T0 := z0 (zm5 (List.mem_of_getElem? (i := 24) rfl)) rfl
theorem zml_L_76 : (.methodLink R_L 76 y_M_whole : Cond) ∈ T0 := z0 (zm5 (List.mem_of_getElem? (i := 25) rfl)) rfl
theorem zim_M_whole : (.instanceMethod y_M_whole : Cond) ∈ T0 := z0 (zm5 (List.mem_of_getElem? (i := 26) rfl)) rfl
theorem zse_M_M_whole : (.selects R_M y_M_whole y_M_whole : Cond) ∈ T0 := z0 (zm5 (List.mem_of_getElem? (i := 27) rfl)) rfl
theorem zco_M_whole : (.code y_M_whole c_M_whole 7 (some .long) : Cond) ∈ T0 := z0 (zm5 (List.mem_of_getElem? (i := 28) rfl)) rfl
theorem zkl_M_142 : (.constantLong R_M 142 (4294967295) : Cond) ∈ T0 := z0 (zm5 (List.mem_of_getElem? (i := 29) rfl)) rfl
theorem zkl_M_144 : (.constantLong R_M 144 (65535) : Cond) ∈ T0 := z0 (zm5 (List.mem_of_getElem? (i := 30) rfl)) rfl
theorem zml_L_52 : (.methodLink R_L 52 y_M_put : Cond) ∈ T0 := z0 (zm5 (List.mem_of_getElem? (i := 31) rfl)) rfl
theorem zim_M_put : (.instanceMethod y_M_put : Cond) ∈ T0 := z0 (zm5 (List.mem_of_getElem? (i := 32) rfl)) rfl
theorem zse_M_M_put : (.selects R_M y_M_put y_M_put : Cond) ∈ T0 := z0 (zm5 (List.mem_of_getElem? (i := 33) rfl)) rfl
theorem zco_M_put : (.code y_M_put c_M_put 6 (some .int) : Cond) ∈ T0 := z0 (zm5 (List.mem_of_getElem? (i := 34) rfl)) rfl
theorem zml_L_61 : (.methodLink R_L 61 y_M_read : Cond) ∈ T0 := z0 (zm5 (List.mem_of_getElem? (i := 35) rfl)) rfl
theorem zim_M_read : (.instanceMethod y_M_read : Cond) ∈ T0 := z0 (zm5 (List.mem_of_getElem? (i := 36) rfl)) rfl
theorem zse_M_M_read : (.selects R_M y_M_read y_M_read : Cond) ∈ T0 := z0 (zm5 (List.mem_of_getElem? (i := 37) rfl)) rfl
theorem zco_M_read : (.code y_M_read c_M_read 4 (some .long) : Cond) ∈ T0 := z0 (zm5 (List.mem_of_getElem? (i := 38) rfl)) rfl
theorem zml_M_176 : (.methodLink R_M 176 y_M_isBlank : Cond) ∈ T0 := z0 (zm5 (List.mem_of_getElem? (i := 39) rfl)) rfl
theorem zst_M_isBlank : (.static y_M_isBlank : Cond) ∈ T0 := z0 (zm5 (List.mem_of_getElem? (i := 40) rfl)) rfl
theorem zco_M_isBlank : (.code y_M_isBlank c_M_isBlank 2 (some .boolean) : Cond) ∈ T0 := z0 (zm5 (List.mem_of_getElem? (i := 41) rfl)) rfl
theorem zki_M_149 : (.constant R_M 149 (65279) : Cond) ∈ T0 := z0 (zm5 (List.mem_of_getElem? (i := 42) rfl)) rfl
theorem zml_M_179 : (.methodLink R_M 179 y_M_readHexadecimal : Cond) ∈ T0 := z0 (zm5 (List.mem_of_getElem? (i := 43) rfl)) rfl
theorem zim_M_readHexadecimal : (.instanceMethod y_M_readHexadecimal : Cond) ∈ T0 := z0 (zm5 (List.mem_of_getElem? (i := 45) rfl)) rfl
theorem zco_M_readHexadecimal : (.code y_M_readHexadecimal c_M_readHexadecimal 8 (some .long) : Cond) ∈ T0 := z0 (zm5 (List.mem_of_getElem? (i := 46) rfl)) rfl
theorem zml_M_154 : (.methodLink R_M 154 y_M_hexadecimal : Cond) ∈ T0 := z0 (zm5 (List.mem_of_getElem? (i := 47) rfl)) rfl
theorem zst_M_hexadecimal : (.static y_M_hexadecimal : Cond) ∈ T0 := z0 (zm5 (List.mem_of_getElem? (i := 48) rfl)) rfl
theorem zco_M_hexadecimal : (.code y_M_hexadecimal c_M_hexadecimal 1 (some .int) : Cond) ∈ T0 := z0 (zm5 (List.mem_of_getElem? (i := 49) rfl)) rfl
theorem zml_M_150 : (.methodLink R_M 150 y_M_isDigit : Cond) ∈ T0 := z0 (zm5 (List.mem_of_getElem? (i := 50) rfl)) rfl
theorem zst_M_isDigit : (.static y_M_isDigit : Cond) ∈ T0 := z0 (zm5 (List.mem_of_getElem? (i := 51) rfl)) rfl
theorem zco_M_isDigit : (.code y_M_isDigit c_M_isDigit 1 (some .boolean) : Cond) ∈ T0 := z0 (zm5 (List.mem_of_getElem? (i := 52) rfl)) rfl
theorem zml_M_182 : (.methodLink R_M 182 y_M_readDecimal : Cond) ∈ T0 := z0 (zm5 (List.mem_of_getElem? (i := 53) rfl)) rfl
theorem zim_M_readDecimal : (.instanceMethod y_M_readDecimal : Cond) ∈ T0 := z0 (zm5 (List.mem_of_getElem? (i := 55) rfl)) rfl
theorem zco_M_readDecimal : (.code y_M_readDecimal c_M_readDecimal 13 (some .long) : Cond) ∈ T0 := z0 (zm5 (List.mem_of_getElem? (i := 56) rfl)) rfl
theorem zml_M_168 : (.methodLink R_M 168 y_M_isInfinity : Cond) ∈ T0 := z0 (zm5 (List.mem_of_getElem? (i := 57) rfl)) rfl
theorem zim_M_isInfinity : (.instanceMethod y_M_isInfinity : Cond) ∈ T0 := z0 (zm5 (List.mem_of_getElem? (i := 59) rfl)) rfl
theorem zco_M_isInfinity : (.code y_M_isInfinity c_M_isInfinity 6 (some .boolean) : Cond) ∈ T0 := z0 (zm5 (List.mem_of_getElem? (i := 60) rfl)) rfl
theorem zml_M_162 : (.methodLink R_M 162 y_JS_charAt : Cond) ∈ T0 := z0 (zm5 (List.mem_of_getElem? (i := 62) rfl)) rfl
theorem zki_M_172 : (.constant R_M 172 (100000) : Cond) ∈ T0 := z0 (zm5 (List.mem_of_getElem? (i := 63) rfl)) rfl
theorem zml_M_173 : (.methodLink R_M 173 y_M_scaledByTens : Cond) ∈ T0 := z0 (zm5 (List.mem_of_getElem? (i := 64) rfl)) rfl
theorem zim_M_scaledByTens : (.instanceMethod y_M_scaledByTens : Cond) ∈ T0 := z0 (zm5 (List.mem_of_getElem? (i := 66) rfl)) rfl
theorem zco_M_scaledByTens : (.code y_M_scaledByTens c_M_scaledByTens 6 (some .long) : Cond) ∈ T0 := z0 (zm5 (List.mem_of_getElem? (i := 67) rfl)) rfl
theorem zml_M_157 : (.methodLink R_M 157 y_M_tens : Cond) ∈ T0 := z0 (zm5 (List.mem_of_getElem? (i := 68) rfl)) rfl
theorem zim_M_tens : (.instanceMethod y_M_tens : Cond) ∈ T0 := z0 (zm5 (List.mem_of_getElem? (i := 70) rfl)) rfl
theorem zco_M_tens : (.code y_M_tens c_M_tens 4 none : Cond) ∈ T0 := z0 (zm5 (List.mem_of_getElem? (i := 71) rfl)) rfl
theorem zki_M_28 : (.constant R_M 28 (1000000) : Cond) ∈ T0 := z0 (zm5 (List.mem_of_getElem? (i := 72) rfl)) rfl
theorem zml_L_86 : (.methodLink R_L 86 y_M_write : Cond) ∈ T0 := z0 (zm5 (List.mem_of_getElem? (i := 73) rfl)) rfl
theorem zim_M_write : (.instanceMethod y_M_write : Cond) ∈ T0 := z0 (zm5 (List.mem_of_getElem? (i := 74) rfl)) rfl
theorem zse_M_M_write : (.selects R_M y_M_write y_M_write : Cond) ∈ T0 := z0 (zm5 (List.mem_of_getElem? (i := 75) rfl)) rfl
theorem zco_M_write : (.code y_M_write c_M_write 6 (some .int) : Cond) ∈ T0 := z0 (zm5 (List.mem_of_getElem? (i := 76) rfl)) rfl
theorem zml_M_246 : (.methodLink R_M 246 y_M_writeWord : Cond) ∈ T0 := z0 (zm5 (List.mem_of_getElem? (i := 77) rfl)) rfl
theorem zim_M_writeWord : (.instanceMethod y_M_writeWord : Cond) ∈ T0 := z0 (zm5 (List.mem_of_getElem? (i := 79) rfl)) rfl
theorem zco_M_writeWord : (.code y_M_writeWord c_M_writeWord 5 (some .int) : Cond) ∈ T0 := z0 (zm5 (List.mem_of_getElem? (i := 80) rfl)) rfl
theorem zml_M_188 : (.methodLink R_M 188 y_M_emit : Cond) ∈ T0 := z0 (zm5 (List.mem_of_getElem? (i := 81) rfl)) rfl
theorem zim_M_emit : (.instanceMethod y_M_emit : Cond) ∈ T0 := z0 (zm5 (List.mem_of_getElem? (i := 83) rfl)) rfl
theorem zco_M_emit : (.code y_M_emit c_M_emit 2 none : Cond) ∈ T0 := z0 (zm5 (List.mem_of_getElem? (i := 84) rfl)) rfl
theorem zml_M_193 : (.methodLink R_M 193 y_JS_length : Cond) ∈ T0 := z0 (zm5 (List.mem_of_getElem? (i := 86) rfl)) rfl
theorem zml_M_250 : (.methodLink R_M 250 y_M_shortest : Cond) ∈ T0 := z0 (zm5 (List.mem_of_getElem? (i := 87) rfl)) rfl
theorem zim_M_shortest : (.instanceMethod y_M_shortest : Cond) ∈ T0 := z0 (zm5 (List.mem_of_getElem? (i := 89) rfl)) rfl
theorem zco_M_shortest : (.code y_M_shortest c_M_shortest 16 none : Cond) ∈ T0 := z0 (zm5 (List.mem_of_getElem? (i := 90) rfl)) rfl
theorem zml_M_213 : (.methodLink R_M 213 y_M_decimals : Cond) ∈ T0 := z0 (zm5 (List.mem_of_getElem? (i := 91) rfl)) rfl
theorem zim_M_decimals : (.instanceMethod y_M_decimals : Cond) ∈ T0 := z0 (zm5 (List.mem_of_getElem? (i := 93) rfl)) rfl
theorem zco_M_decimals : (.code y_M_decimals c_M_decimals 6 (some .int) : Cond) ∈ T0 := z0 (zm5 (List.mem_of_getElem? (i := 94) rfl)) rfl
theorem zml_M_200 : (.methodLink R_M 200 y_M_leading : Cond) ∈ T0 := z0 (zm5 (List.mem_of_getElem? (i := 95) rfl)) rfl
theorem zst_M_leading : (.static y_M_leading : Cond) ∈ T0 := z0 (zm5 (List.mem_of_getElem? (i := 96) rfl)) rfl
theorem zco_M_leading : (.code y_M_leading c_M_leading 3 (some .int) : Cond) ∈ T0 := z0 (zm5 (List.mem_of_getElem? (i := 97) rfl)) rfl
theorem zml_M_203 : (.methodLink R_M 203 y_M_fraction : Cond) ∈ T0 := z0 (zm5 (List.mem_of_getElem? (i := 98) rfl)) rfl
theorem zim_M_fraction : (.instanceMethod y_M_fraction : Cond) ∈ T0 := z0 (zm5 (List.mem_of_getElem? (i := 100) rfl)) rfl
theorem zco_M_fraction : (.code y_M_fraction c_M_fraction 4 none : Cond) ∈ T0 := z0 (zm5 (List.mem_of_getElem? (i := 101) rfl)) rfl
theorem zml_M_196 : (.methodLink R_M 196 y_M_scale : Cond) ∈ T0 := z0 (zm5 (List.mem_of_getElem? (i := 102) rfl)) rfl
theorem zim_M_scale : (.instanceMethod y_M_scale : Cond) ∈ T0 := z0 (zm5 (List.mem_of_getElem? (i := 104) rfl)) rfl
theorem zco_M_scale : (.code y_M_scale c_M_scale 5 none : Cond) ∈ T0 := z0 (zm5 (List.mem_of_getElem? (i := 105) rfl)) rfl
theorem zkl_M_216 : (.constantLong R_M 216 (100000000000000000) : Cond) ∈ T0 := z0 (zm5 (List.mem_of_getElem? (i := 106) rfl)) rfl
theorem zkl_M_218 : (.constantLong R_M 218 (10) : Cond) ∈ T0 := z0 (zm5 (List.mem_of_getElem? (i := 107) rfl)) rfl
theorem zml_M_220 : (.methodLink R_M 220 y_M_roundsTo : Cond) ∈ T0 := z0 (zm5 (List.mem_of_getElem? (i := 108) rfl)) rfl
theorem zim_M_roundsTo : (.instanceMethod y_M_roundsTo : Cond) ∈ T0 := z0 (zm5 (List.mem_of_getElem? (i := 110) rfl)) rfl
theorem zco_M_roundsTo : (.code y_M_roundsTo c_M_roundsTo 13 (some .boolean) : Cond) ∈ T0 := z0 (zm5 (List.mem_of_getElem? (i := 111) rfl)) rfl
theorem zml_M_207 : (.methodLink R_M 207 y_M_against : Cond) ∈ T0 := z0 (zm5 (List.mem_of_getElem? (i := 112) rfl)) rfl
theorem zim_M_against : (.instanceMethod y_M_against : Cond) ∈ T0 := z0 (zm5 (List.mem_of_getElem? (i := 114) rfl)) rfl
theorem zco_M_against : (.code y_M_against c_M_against 7 (some .int) : Cond) ∈ T0 := z0 (zm5 (List.mem_of_getElem? (i := 115) rfl)) rfl
theorem zkl_M_211 : (.constantLong R_M 211 (4) : Cond) ∈ T0 := z0 (zm5 (List.mem_of_getElem? (i := 116) rfl)) rfl
theorem zml_M_224 : (.methodLink R_M 224 y_M_lay : Cond) ∈ T0 := z0 (zm5 (List.mem_of_getElem? (i := 117) rfl)) rfl
theorem zim_M_lay : (.instanceMethod y_M_lay : Cond) ∈ T0 := z0 (zm5 (List.mem_of_getElem? (i := 119) rfl)) rfl
theorem zco_M_lay : (.code y_M_lay c_M_lay 3 none : Cond) ∈ T0 := z0 (zm5 (List.mem_of_getElem? (i := 120) rfl)) rfl
theorem zml_M_234 : (.methodLink R_M 234 y_M_layRow : Cond) ∈ T0 := z0 (zm5 (List.mem_of_getElem? (i := 121) rfl)) rfl
theorem zim_M_layRow : (.instanceMethod y_M_layRow : Cond) ∈ T0 := z0 (zm5 (List.mem_of_getElem? (i := 123) rfl)) rfl
theorem zco_M_layRow : (.code y_M_layRow c_M_layRow 4 none : Cond) ∈ T0 := z0 (zm5 (List.mem_of_getElem? (i := 124) rfl)) rfl
theorem zml_M_237 : (.methodLink R_M 237 y_M_divide : Cond) ∈ T0 := z0 (zm5 (List.mem_of_getElem? (i := 125) rfl)) rfl
theorem zim_M_divide : (.instanceMethod y_M_divide : Cond) ∈ T0 := z0 (zm5 (List.mem_of_getElem? (i := 127) rfl)) rfl
theorem zco_M_divide : (.code y_M_divide c_M_divide 8 (some .int) : Cond) ∈ T0 := z0 (zm5 (List.mem_of_getElem? (i := 128) rfl)) rfl
theorem zml_M_253 : (.methodLink R_M 253 y_M_writeScientific : Cond) ∈ T0 := z0 (zm5 (List.mem_of_getElem? (i := 129) rfl)) rfl
theorem zim_M_writeScientific : (.instanceMethod y_M_writeScientific : Cond) ∈ T0 := z0 (zm5 (List.mem_of_getElem? (i := 131) rfl)) rfl
theorem zco_M_writeScientific : (.code y_M_writeScientific c_M_writeScientific 2 none : Cond) ∈ T0 := z0 (zm5 (List.mem_of_getElem? (i := 132) rfl)) rfl
theorem zml_M_240 : (.methodLink R_M 240 y_M_writeDigits : Cond) ∈ T0 := z0 (zm5 (List.mem_of_getElem? (i := 133) rfl)) rfl
theorem zim_M_writeDigits : (.instanceMethod y_M_writeDigits : Cond) ∈ T0 := z0 (zm5 (List.mem_of_getElem? (i := 135) rfl)) rfl
theorem zco_M_writeDigits : (.code y_M_writeDigits c_M_writeDigits 4 none : Cond) ∈ T0 := z0 (zm5 (List.mem_of_getElem? (i := 136) rfl)) rfl
theorem zml_M_243 : (.methodLink R_M 243 y_M_writeExponent : Cond) ∈ T0 := z0 (zm5 (List.mem_of_getElem? (i := 137) rfl)) rfl
theorem zim_M_writeExponent : (.instanceMethod y_M_writeExponent : Cond) ∈ T0 := z0 (zm5 (List.mem_of_getElem? (i := 139) rfl)) rfl
theorem zco_M_writeExponent : (.code y_M_writeExponent c_M_writeExponent 3 none : Cond) ∈ T0 := z0 (zm5 (List.mem_of_getElem? (i := 140) rfl)) rfl
theorem zml_M_256 : (.methodLink R_M 256 y_M_emitZeros : Cond) ∈ T0 := z0 (zm5 (List.mem_of_getElem? (i := 141) rfl)) rfl
theorem zim_M_emitZeros : (.instanceMethod y_M_emitZeros : Cond) ∈ T0 := z0 (zm5 (List.mem_of_getElem? (i := 143) rfl)) rfl
theorem zco_M_emitZeros : (.code y_M_emitZeros c_M_emitZeros 3 none : Cond) ∈ T0 := z0 (zm5 (List.mem_of_getElem? (i := 144) rfl)) rfl
theorem zml_L_89 : (.methodLink R_L 89 y_M_radix : Cond) ∈ T0 := z0 (zm5 (List.mem_of_getElem? (i := 145) rfl)) rfl
theorem zim_M_radix : (.instanceMethod y_M_radix : Cond) ∈ T0 := z0 (zm5 (List.mem_of_getElem? (i := 146) rfl)) rfl
theorem zse_M_M_radix : (.selects R_M y_M_radix y_M_radix : Cond) ∈ T0 := z0 (zm5 (List.mem_of_getElem? (i := 147) rfl)) rfl
theorem zco_M_radix : (.code y_M_radix c_M_radix 10 (some .int) : Cond) ∈ T0 := z0 (zm5 (List.mem_of_getElem? (i := 148) rfl)) rfl
theorem zml_M_259 : (.methodLink R_M 259 y_M_letter : Cond) ∈ T0 := z0 (zm5 (List.mem_of_getElem? (i := 149) rfl)) rfl
theorem zst_M_letter : (.static y_M_letter : Cond) ∈ T0 := z0 (zm5 (List.mem_of_getElem? (i := 150) rfl)) rfl
theorem zco_M_letter : (.code y_M_letter c_M_letter 1 (some .int) : Cond) ∈ T0 := z0 (zm5 (List.mem_of_getElem? (i := 151) rfl)) rfl
theorem zml_M_262 : (.methodLink R_M 262 y_M_clear : Cond) ∈ T0 := z0 (zm5 (List.mem_of_getElem? (i := 152) rfl)) rfl
theorem zim_M_clear : (.instanceMethod y_M_clear : Cond) ∈ T0 := z0 (zm5 (List.mem_of_getElem? (i := 154) rfl)) rfl
theorem zco_M_clear : (.code y_M_clear c_M_clear 3 none : Cond) ∈ T0 := z0 (zm5 (List.mem_of_getElem? (i := 155) rfl)) rfl
theorem zml_L_93 : (.methodLink R_L 93 y_M_form : Cond) ∈ T0 := z0 (zm5 (List.mem_of_getElem? (i := 156) rfl)) rfl
theorem zim_M_form : (.instanceMethod y_M_form : Cond) ∈ T0 := z0 (zm5 (List.mem_of_getElem? (i := 157) rfl)) rfl
theorem zse_M_M_form : (.selects R_M y_M_form y_M_form : Cond) ∈ T0 := z0 (zm5 (List.mem_of_getElem? (i := 158) rfl)) rfl
theorem zco_M_form : (.code y_M_form c_M_form 7 (some .int) : Cond) ∈ T0 := z0 (zm5 (List.mem_of_getElem? (i := 159) rfl)) rfl
theorem zml_M_271 : (.methodLink R_M 271 y_M_exponential : Cond) ∈ T0 := z0 (zm5 (List.mem_of_getElem? (i := 160) rfl)) rfl
theorem zim_M_exponential : (.instanceMethod y_M_exponential : Cond) ∈ T0 := z0 (zm5 (List.mem_of_getElem? (i := 162) rfl)) rfl
theorem zco_M_exponential : (.code y_M_exponential c_M_exponential 6 (some .int) : Cond) ∈ T0 := z0 (zm5 (List.mem_of_getElem? (i := 163) rfl)) rfl
theorem zml_M_268 : (.methodLink R_M 268 y_M_precisely : Cond) ∈ T0 := z0 (zm5 (List.mem_of_getElem? (i := 164) rfl)) rfl
theorem zim_M_precisely : (.instanceMethod y_M_precisely : Cond) ∈ T0 := z0 (zm5 (List.mem_of_getElem? (i := 166) rfl)) rfl
theorem zco_M_precisely : (.code y_M_precisely c_M_precisely 4 none : Cond) ∈ T0 := z0 (zm5 (List.mem_of_getElem? (i := 167) rfl)) rfl
theorem zml_M_265 : (.methodLink R_M 265 y_M_nearest : Cond) ∈ T0 := z0 (zm5 (List.mem_of_getElem? (i := 168) rfl)) rfl
theorem zim_M_nearest : (.instanceMethod y_M_nearest : Cond) ∈ T0 := z0 (zm5 (List.mem_of_getElem? (i := 170) rfl)) rfl
theorem zco_M_nearest : (.code y_M_nearest c_M_nearest 5 none : Cond) ∈ T0 := z0 (zm5 (List.mem_of_getElem? (i := 171) rfl)) rfl
theorem zml_M_275 : (.methodLink R_M 275 y_M_precise : Cond) ∈ T0 := z0 (zm5 (List.mem_of_getElem? (i := 172) rfl)) rfl
theorem zim_M_precise : (.instanceMethod y_M_precise : Cond) ∈ T0 := z0 (zm5 (List.mem_of_getElem? (i := 174) rfl)) rfl
theorem zco_M_precise : (.code y_M_precise c_M_precise 6 (some .int) : Cond) ∈ T0 := z0 (zm5 (List.mem_of_getElem? (i := 175) rfl)) rfl
theorem zml_M_278 : (.methodLink R_M 278 y_M_write : Cond) ∈ T0 := z0 (zm5 (List.mem_of_getElem? (i := 176) rfl)) rfl
theorem zml_M_281 : (.methodLink R_M 281 y_M_fixed : Cond) ∈ T0 := z0 (zm5 (List.mem_of_getElem? (i := 177) rfl)) rfl
theorem zim_M_fixed : (.instanceMethod y_M_fixed : Cond) ∈ T0 := z0 (zm5 (List.mem_of_getElem? (i := 179) rfl)) rfl
theorem zco_M_fixed : (.code y_M_fixed c_M_fixed 6 (some .int) : Cond) ∈ T0 := z0 (zm5 (List.mem_of_getElem? (i := 180) rfl)) rfl
theorem zml_L_97 : (.methodLink R_L 97 y_M_unit : Cond) ∈ T0 := z0 (zm5 (List.mem_of_getElem? (i := 181) rfl)) rfl
theorem zim_M_unit : (.instanceMethod y_M_unit : Cond) ∈ T0 := z0 (zm5 (List.mem_of_getElem? (i := 182) rfl)) rfl
theorem zse_M_M_unit : (.selects R_M y_M_unit y_M_unit : Cond) ∈ T0 := z0 (zm5 (List.mem_of_getElem? (i := 183) rfl)) rfl
theorem zco_M_unit : (.code y_M_unit c_M_unit 2 (some .int) : Cond) ∈ T0 := z0 (zm5 (List.mem_of_getElem? (i := 184) rfl)) rfl
theorem zkl_L_45 : (.constantLong R_L 45 (4294967295) : Cond) ∈ T0 := z0 (zm5 (List.mem_of_getElem? (i := 185) rfl)) rfl
theorem zac_long : (.arrayClass .long : Cond) ∈ T0 := z0 (zm5 (List.mem_of_getElem? (i := 186) rfl)) rfl
theorem zfl_JS_9 : (.fieldLink "java/lang/String" 9 "java/lang/String" "value" "[B" : Cond) ∈ T0 := z0 (zm5 (List.mem_of_getElem? (i := 188) rfl)) rfl
theorem zfl_JS_15 : (.fieldLink "java/lang/String" 15 "java/lang/String" "coder" "B" : Cond) ∈ T0 := z0 (zm5 (List.mem_of_getElem? (i := 189) rfl)) rfl
theorem zse_R_R_takeBlanksOff : (.selects R_R y_R_takeBlanksOff y_R_takeBlanksOff : Cond) ∈ T0 := z0 (zmp (List.mem_of_getElem? (i := 0) rfl)) rfl
theorem zse_R_R_unitAt : (.selects R_R y_R_unitAt y_R_unitAt : Cond) ∈ T0 := z0 (zmp (List.mem_of_getElem? (i := 1) rfl)) rfl
theorem zse_R_R_hexadecimal : (.selects R_R y_R_hexadecimal y_R_hexadecimal : Cond) ∈ T0 := z0 (zmp (List.mem_of_getElem? (i := 2) rfl)) rfl
theorem zse_R_R_takeMinus : (.selects R_R y_R_takeMinus y_R_takeMinus : Cond) ∈ T0 := z0 (zmp (List.mem_of_getElem? (i := 3) rfl)) rfl
theorem zse_R_R_isInfinityLeft : (.selects R_R y_R_isInfinityLeft y_R_isInfinityLeft : Cond) ∈ T0 := z0 (zmp (List.mem_of_getElem? (i := 4) rfl)) rfl
theorem zse_R_R_takeDecimal : (.selects R_R y_R_takeDecimal y_R_takeDecimal : Cond) ∈ T0 := z0 (zmp (List.mem_of_getElem? (i := 5) rfl)) rfl
theorem zse_N_N_dropLeadingZeros : (.selects R_N y_N_dropLeadingZeros y_N_dropLeadingZeros : Cond) ∈ T0 := z0 (zmp (List.mem_of_getElem? (i := 6) rfl)) rfl
theorem zse_R_R_takeDigits : (.selects R_R y_R_takeDigits y_R_takeDigits : Cond) ∈ T0 := z0 (zmp (List.mem_of_getElem? (i := 7) rfl)) rfl
theorem zse_R_R_takeDigit : (.selects R_R y_R_takeDigit y_R_takeDigit : Cond) ∈ T0 := z0 (zmp (List.mem_of_getElem? (i := 8) rfl)) rfl
theorem zse_N_N_append : (.selects R_N y_N_append y_N_append : Cond) ∈ T0 := z0 (zmp (List.mem_of_getElem? (i := 9) rfl)) rfl
theorem zse_R_R_takeExponent : (.selects R_R y_R_takeExponent y_R_takeExponent : Cond) ∈ T0 := z0 (zmp (List.mem_of_getElem? (i := 10) rfl)) rfl
theorem zse_R_R_roundedDecimal : (.selects R_R y_R_roundedDecimal y_R_roundedDecimal : Cond) ∈ T0 := z0 (zmp (List.mem_of_getElem? (i := 11) rfl)) rfl
theorem zse_R_R_roundedQuotient : (.selects R_R y_R_roundedQuotient y_R_roundedQuotient : Cond) ∈ T0 := z0 (zmp (List.mem_of_getElem? (i := 12) rfl)) rfl
theorem zse_N_N_limbAt : (.selects R_N y_N_limbAt y_N_limbAt : Cond) ∈ T0 := z0 (zmp (List.mem_of_getElem? (i := 13) rfl)) rfl
theorem zse_N_N_subtractTimes : (.selects R_N y_N_subtractTimes y_N_subtractTimes : Cond) ∈ T0 := z0 (zmp (List.mem_of_getElem? (i := 14) rfl)) rfl
theorem zse_T_T_begin : (.selects R_T y_T_begin y_T_begin : Cond) ∈ T0 := z0 (zmp (List.mem_of_getElem? (i := 15) rfl)) rfl
theorem zse_E_E_begin : (.selects R_E y_E_begin y_E_begin : Cond) ∈ T0 := z0 (zmp (List.mem_of_getElem? (i := 16) rfl)) rfl
theorem zse_E_E_append : (.selects R_E y_E_append y_E_append : Cond) ∈ T0 := z0 (zmp (List.mem_of_getElem? (i := 17) rfl)) rfl
theorem zse_E_E_endShortest : (.selects R_E y_E_endShortest y_E_endShortest : Cond) ∈ T0 := z0 (zmp (List.mem_of_getElem? (i := 18) rfl)) rfl
theorem zse_E_E_twiceRestToScale : (.selects R_E y_E_twiceRestToScale y_E_twiceRestToScale : Cond) ∈ T0 := z0 (zmp (List.mem_of_getElem? (i := 19) rfl)) rfl
theorem zse_E_E_countUp : (.selects R_E y_E_countUp y_E_countUp : Cond) ∈ T0 := z0 (zmp (List.mem_of_getElem? (i := 20) rfl)) rfl
theorem zse_E_E_dropTrailingZeros : (.selects R_E y_E_dropTrailingZeros y_E_dropTrailingZeros : Cond) ∈ T0 := z0 (zmp (List.mem_of_getElem? (i := 21) rfl)) rfl
theorem zse_T_T_addScientific : (.selects R_T y_T_addScientific y_T_addScientific : Cond) ∈ T0 := z0 (zmp (List.mem_of_getElem? (i := 22) rfl)) rfl
theorem zse_T_T_addPlain : (.selects R_T y_T_addPlain y_T_addPlain : Cond) ∈ T0 := z0 (zmp (List.mem_of_getElem? (i := 23) rfl)) rfl
theorem zse_T_T_addDigitsBeforePoint : (.selects R_T y_T_addDigitsBeforePoint y_T_addDigitsBeforePoint : Cond) ∈ T0 := z0 (zmp (List.mem_of_getElem? (i := 24) rfl)) rfl
theorem zse_T_T_addWholeInRadix : (.selects R_T y_T_addWholeInRadix y_T_addWholeInRadix : Cond) ∈ T0 := z0 (zmp (List.mem_of_getElem? (i := 26) rfl)) rfl
theorem zse_T_T_addRestInRadix : (.selects R_T y_T_addRestInRadix y_T_addRestInRadix : Cond) ∈ T0 := z0 (zmp (List.mem_of_getElem? (i := 27) rfl)) rfl
theorem zse_E_E_takeDigits : (.selects R_E y_E_takeDigits y_E_takeDigits : Cond) ∈ T0 := z0 (zmp (List.mem_of_getElem? (i := 28) rfl)) rfl
theorem zse_M_M_set : (.selects R_M y_M_set y_M_set : Cond) ∈ T0 := z0 (zmp (List.mem_of_getElem? (i := 29) rfl)) rfl
theorem zse_M_M_round : (.selects R_M y_M_round y_M_round : Cond) ∈ T0 := z0 (zmp (List.mem_of_getElem? (i := 30) rfl)) rfl
theorem zse_M_M_length : (.selects R_M y_M_length y_M_length : Cond) ∈ T0 := z0 (zmp (List.mem_of_getElem? (i := 31) rfl)) rfl
theorem zse_M_M_bit : (.selects R_M y_M_bit y_M_bit : Cond) ∈ T0 := z0 (zmp (List.mem_of_getElem? (i := 32) rfl)) rfl
theorem zse_M_M_copy : (.selects R_M y_M_copy y_M_copy : Cond) ∈ T0 := z0 (zmp (List.mem_of_getElem? (i := 33) rfl)) rfl
theorem zse_M_M_shift : (.selects R_M y_M_shift y_M_shift : Cond) ∈ T0 := z0 (zmp (List.mem_of_getElem? (i := 34) rfl)) rfl
theorem zse_M_M_times : (.selects R_M y_M_times y_M_times : Cond) ∈ T0 := z0 (zmp (List.mem_of_getElem? (i := 35) rfl)) rfl
theorem zse_M_M_bits : (.selects R_M y_M_bits y_M_bits : Cond) ∈ T0 := z0 (zmp (List.mem_of_getElem? (i := 36) rfl)) rfl
theorem zse_M_M_throwing : (.selects R_M y_M_throwing y_M_throwing : Cond) ∈ T0 := z0 (zmp (List.mem_of_getElem? (i := 37) rfl)) rfl
theorem zse_M_M_sum : (.selects R_M y_M_sum y_M_sum : Cond) ∈ T0 := z0 (zmp (List.mem_of_getElem? (i := 38) rfl)) rfl
theorem zse_M_M_order : (.selects R_M y_M_order y_M_order : Cond) ∈ T0 := z0 (zmp (List.mem_of_getElem? (i := 39) rfl)) rfl
theorem zse_M_M_add : (.selects R_M y_M_add y_M_add : Cond) ∈ T0 := z0 (zmp (List.mem_of_getElem? (i := 40) rfl)) rfl
theorem zse_M_M_product : (.selects R_M y_M_product y_M_product : Cond) ∈ T0 := z0 (zmp (List.mem_of_getElem? (i := 41) rfl)) rfl
theorem zse_M_M_ratio : (.selects R_M y_M_ratio y_M_ratio : Cond) ∈ T0 := z0 (zmp (List.mem_of_getElem? (i := 42) rfl)) rfl
theorem zse_M_M_quotient : (.selects R_M y_M_quotient y_M_quotient : Cond) ∈ T0 := z0 (zmp (List.mem_of_getElem? (i := 43) rfl)) rfl
theorem zse_M_M_halve : (.selects R_M y_M_halve y_M_halve : Cond) ∈ T0 := z0 (zmp (List.mem_of_getElem? (i := 44) rfl)) rfl
theorem zse_M_M_root : (.selects R_M y_M_root y_M_root : Cond) ∈ T0 := z0 (zmp (List.mem_of_getElem? (i := 45) rfl)) rfl
theorem zse_M_M_near : (.selects R_M y_M_near y_M_near : Cond) ∈ T0 := z0 (zmp (List.mem_of_getElem? (i := 46) rfl)) rfl
theorem zse_M_M_readHexadecimal : (.selects R_M y_M_readHexadecimal y_M_readHexadecimal : Cond) ∈ T0 := z0 (zmp (List.mem_of_getElem? (i := 47) rfl)) rfl
theorem zse_M_M_readDecimal : (.selects R_M y_M_readDecimal y_M_readDecimal : Cond) ∈ T0 := z0 (zmp (List.mem_of_getElem? (i := 48) rfl)) rfl
theorem zse_M_M_isInfinity : (.selects R_M y_M_isInfinity y_M_isInfinity : Cond) ∈ T0 := z0 (zmp (List.mem_of_getElem? (i := 49) rfl)) rfl
theorem zse_M_M_scaledByTens : (.selects R_M y_M_scaledByTens y_M_scaledByTens : Cond) ∈ T0 := z0 (zmp (List.mem_of_getElem? (i := 50) rfl)) rfl
theorem zse_M_M_tens : (.selects R_M y_M_tens y_M_tens : Cond) ∈ T0 := z0 (zmp (List.mem_of_getElem? (i := 51) rfl)) rfl
theorem zse_M_M_writeWord : (.selects R_M y_M_writeWord y_M_writeWord : Cond) ∈ T0 := z0 (zmp (List.mem_of_getElem? (i := 52) rfl)) rfl
theorem zse_M_M_emit : (.selects R_M y_M_emit y_M_emit : Cond) ∈ T0 := z0 (zmp (List.mem_of_getElem? (i := 53) rfl)) rfl
theorem zse_M_M_shortest : (.selects R_M y_M_shortest y_M_shortest : Cond) ∈ T0 := z0 (zmp (List.mem_of_getElem? (i := 54) rfl)) rfl
theorem zse_M_M_decimals : (.selects R_M y_M_decimals y_M_decimals : Cond) ∈ T0 := z0 (zmp (List.mem_of_getElem? (i := 55) rfl)) rfl
theorem zse_M_M_fraction : (.selects R_M y_M_fraction y_M_fraction : Cond) ∈ T0 := z0 (zmp (List.mem_of_getElem? (i := 56) rfl)) rfl
theorem zse_M_M_scale : (.selects R_M y_M_scale y_M_scale : Cond) ∈ T0 := z0 (zmp (List.mem_of_getElem? (i := 57) rfl)) rfl
theorem zse_M_M_roundsTo : (.selects R_M y_M_roundsTo y_M_roundsTo : Cond) ∈ T0 := z0 (zmp (List.mem_of_getElem? (i := 58) rfl)) rfl
theorem zse_M_M_against : (.selects R_M y_M_against y_M_against : Cond) ∈ T0 := z0 (zmp (List.mem_of_getElem? (i := 59) rfl)) rfl
theorem zse_M_M_lay : (.selects R_M y_M_lay y_M_lay : Cond) ∈ T0 := z0 (zmp (List.mem_of_getElem? (i := 60) rfl)) rfl
theorem zse_M_M_layRow : (.selects R_M y_M_layRow y_M_layRow : Cond) ∈ T0 := z0 (zmp (List.mem_of_getElem? (i := 61) rfl)) rfl
theorem zse_M_M_divide : (.selects R_M y_M_divide y_M_divide : Cond) ∈ T0 := z0 (zmp (List.mem_of_getElem? (i := 62) rfl)) rfl
theorem zse_M_M_writeScientific : (.selects R_M y_M_writeScientific y_M_writeScientific : Cond) ∈ T0 := z0 (zmp (List.mem_of_getElem? (i := 63) rfl)) rfl
theorem zse_M_M_writeDigits : (.selects R_M y_M_writeDigits y_M_writeDigits : Cond) ∈ T0 := z0 (zmp (List.mem_of_getElem? (i := 64) rfl)) rfl
theorem zse_M_M_writeExponent : (.selects R_M y_M_writeExponent y_M_writeExponent : Cond) ∈ T0 := z0 (zmp (List.mem_of_getElem? (i := 65) rfl)) rfl
theorem zse_M_M_emitZeros : (.selects R_M y_M_emitZeros y_M_emitZeros : Cond) ∈ T0 := z0 (zmp (List.mem_of_getElem? (i := 66) rfl)) rfl
theorem zse_M_M_clear : (.selects R_M y_M_clear y_M_clear : Cond) ∈ T0 := z0 (zmp (List.mem_of_getElem? (i := 67) rfl)) rfl
theorem zse_M_M_exponential : (.selects R_M y_M_exponential y_M_exponential : Cond) ∈ T0 := z0 (zmp (List.mem_of_getElem? (i := 68) rfl)) rfl
theorem zse_M_M_precisely : (.selects R_M y_M_precisely y_M_precisely : Cond) ∈ T0 := z0 (zmp (List.mem_of_getElem? (i := 69) rfl)) rfl
theorem zse_M_M_nearest : (.selects R_M y_M_nearest y_M_nearest : Cond) ∈ T0 := z0 (zmp (List.mem_of_getElem? (i := 70) rfl)) rfl
theorem zse_M_M_precise : (.selects R_M y_M_precise y_M_precise : Cond) ∈ T0 := z0 (zmp (List.mem_of_getElem? (i := 71) rfl)) rfl
theorem zse_M_M_fixed : (.selects R_M y_M_fixed y_M_fixed : Cond) ∈ T0 := z0 (zmp (List.mem_of_getElem? (i := 72) rfl)) rfl
theorem i_D : ∀ w ∈ w_D, w ∈ T0 := by decide +kernel
theorem i_E : ∀ w ∈ w_E, w ∈ T0 := by decide +kernel
theorem i_N : ∀ w ∈ w_N, w ∈ T0 := by decide +kernel
theorem i_P : ∀ w ∈ w_P, w ∈ T0 := by decide +kernel
theorem i_R : ∀ w ∈ w_R, w ∈ T0 := by decide +kernel
theorem i_T : ∀ w ∈ w_T, w ∈ T0 := by decide +kernel
theorem i_M : ∀ w ∈ w_M, w ∈ T0 := by decide +kernel
