
def RX0 : String := "FieldCounts$ClassList"
def TX0 : u_T := fun k => match k with
  | 0 => ("FieldCounts$ClassList", "ring", "LFieldCounts$Polynomials;", true)
  | 1 => ("FieldCounts$ClassList", "keys", "[I", true)
  | 2 => ("FieldCounts$ClassList", "polynomial", "I", false)
  | 3 => ("FieldCounts$ClassList", "genus", "I", false)
  | _ => ("FieldCounts$ClassList", "listed", "I", false)
def tyX0 : Nat → FieldType := fun k => match k with
  | 0 => .object "FieldCounts$Polynomials"
  | 1 => .array .int
  | 2 => .int
  | 3 => .int
  | _ => .int
abbrev wsX00 : List Cond := u_ws RX0 TX0 5
theorem nmX0 : ∀ a, a < 5 → ∀ b, b < 5 → a ≠ b → (TX0 a).2.1 ≠ (TX0 b).2.1 := by decide +kernel
theorem tyX0_ok : ∀ k, k < 5 → parseFieldDescriptor (TX0 k).2.2.1 = some (tyX0 k) := by decide +kernel
abbrev cX0_init : ByteArray := prog_2_method_1_code
def yX0_init : MethodName := ⟨RX0, "<init>", "(LFieldCounts$Polynomials;)V"⟩
abbrev cX0_begin : ByteArray := prog_2_method_2_code
def yX0_begin : MethodName := ⟨RX0, "begin", "(II)V"⟩
abbrev cX0_holds : ByteArray := prog_2_method_3_code
def yX0_holds : MethodName := ⟨RX0, "holds", "(II)Z"⟩
abbrev cX0_many : ByteArray := prog_2_method_4_code
def yX0_many : MethodName := ⟨RX0, "many", "()I"⟩
abbrev cX0_reaches : ByteArray := prog_2_method_5_code
def yX0_reaches : MethodName := ⟨RX0, "reaches", "(I)Z"⟩
abbrev cX0_keyAt : ByteArray := prog_2_method_6_code
def yX0_keyAt : MethodName := ⟨RX0, "keyAt", "(I)I"⟩
abbrev cX0_keyOf : ByteArray := prog_2_method_7_code
def yX0_keyOf : MethodName := ⟨RX0, "keyOf", "(II)I"⟩
abbrev cX0_uOf : ByteArray := prog_2_method_8_code
def yX0_uOf : MethodName := ⟨RX0, "uOf", "(I)I"⟩
abbrev cX0_vOf : ByteArray := prog_2_method_9_code
def yX0_vOf : MethodName := ⟨RX0, "vOf", "(I)I"⟩
abbrev cX0_placeOf : ByteArray := prog_2_method_10_code
def yX0_placeOf : MethodName := ⟨RX0, "placeOf", "(I)I"⟩
abbrev cX0_oppositeOf : ByteArray := prog_2_method_11_code
def yX0_oppositeOf : MethodName := ⟨RX0, "oppositeOf", "(I)I"⟩
abbrev cX0_orderOf : ByteArray := prog_2_method_12_code
def yX0_orderOf : MethodName := ⟨RX0, "orderOf", "(I)I"⟩
abbrev cX0_multipleOf : ByteArray := prog_2_method_13_code
def yX0_multipleOf : MethodName := ⟨RX0, "multipleOf", "(II)I"⟩
abbrev cX0_sumOf : ByteArray := prog_2_method_14_code
def yX0_sumOf : MethodName := ⟨RX0, "sumOf", "(II)I"⟩
abbrev cX0_reduced : ByteArray := prog_2_method_15_code
def yX0_reduced : MethodName := ⟨RX0, "reduced", "(II)I"⟩
abbrev cX0_goThrough : ByteArray := prog_2_method_16_code
def yX0_goThrough : MethodName := ⟨RX0, "goThrough", "()V"⟩
abbrev cX0_listWith : ByteArray := prog_2_method_17_code
def yX0_listWith : MethodName := ⟨RX0, "listWith", "(II)V"⟩
def RX1 : String := "FieldCounts$Curve"
def TX1 : u_T := fun k => match k with
  | 0 => ("FieldCounts$Curve", "ring", "LFieldCounts$Polynomials;", true)
  | 1 => ("FieldCounts$Curve", "list", "LFieldCounts$ClassList;", true)
  | 2 => ("FieldCounts$Curve", "share", "[I", true)
  | 3 => ("FieldCounts$Curve", "shareKnown", "Z", false)
  | 4 => ("FieldCounts$Curve", "kind", "I", false)
  | 5 => ("FieldCounts$Curve", "f", "I", false)
  | 6 => ("FieldCounts$Curve", "t", "I", false)
  | 7 => ("FieldCounts$Curve", "degree", "I", false)
  | 8 => ("FieldCounts$Curve", "genus", "I", false)
  | _ => ("FieldCounts$Curve", "polynomial", "I", false)
def tyX1 : Nat → FieldType := fun k => match k with
  | 0 => .object "FieldCounts$Polynomials"
  | 1 => .object "FieldCounts$ClassList"
  | 2 => .array .int
  | 3 => .boolean
  | 4 => .int
  | 5 => .int
  | 6 => .int
  | 7 => .int
  | 8 => .int
  | _ => .int
abbrev wsX10 : List Cond := u_ws RX1 TX1 10
theorem nmX1 : ∀ a, a < 10 → ∀ b, b < 10 → a ≠ b → (TX1 a).2.1 ≠ (TX1 b).2.1 := by decide +kernel
theorem tyX1_ok : ∀ k, k < 10 → parseFieldDescriptor (TX1 k).2.2.1 = some (tyX1 k) := by decide +kernel
abbrev cX1_init : ByteArray := prog_3_method_1_code
def yX1_init : MethodName := ⟨RX1, "<init>", "(LFieldCounts$Polynomials;)V"⟩
abbrev cX1_begin : ByteArray := prog_3_method_2_code
def yX1_begin : MethodName := ⟨RX1, "begin", "(IIII)V"⟩
abbrev cX1_makeShare : ByteArray := prog_3_method_3_code
def yX1_makeShare : MethodName := ⟨RX1, "makeShare", "(LFieldCounts$Field;LFieldCounts$Field;)V"⟩
def RX2 : String := "FieldCounts$Field"
def TX2 : u_T := fun k => match k with
  | 0 => ("FieldCounts$Field", "ring", "LFieldCounts$Polynomials;", true)
  | 1 => ("FieldCounts$Field", "n", "I", true)
  | 2 => ("FieldCounts$Field", "powers", "[I", true)
  | 3 => ("FieldCounts$Field", "exponents", "[I", true)
  | 4 => ("FieldCounts$Field", "madeFor", "I", false)
  | 5 => ("FieldCounts$Field", "size", "I", false)
  | 6 => ("FieldCounts$Field", "units", "I", false)
  | _ => ("FieldCounts$Field", "divisor", "I", false)
def tyX2 : Nat → FieldType := fun k => match k with
  | 0 => .object "FieldCounts$Polynomials"
  | 1 => .int
  | 2 => .array .int
  | 3 => .array .int
  | 4 => .int
  | 5 => .int
  | 6 => .int
  | _ => .int
abbrev wsX20 : List Cond := u_ws RX2 TX2 8
theorem nmX2 : ∀ a, a < 8 → ∀ b, b < 8 → a ≠ b → (TX2 a).2.1 ≠ (TX2 b).2.1 := by decide +kernel
theorem tyX2_ok : ∀ k, k < 8 → parseFieldDescriptor (TX2 k).2.2.1 = some (tyX2 k) := by decide +kernel
abbrev cX2_init : ByteArray := prog_4_method_1_code
def yX2_init : MethodName := ⟨RX2, "<init>", "(LFieldCounts$Polynomials;I)V"⟩
abbrev cX2_fit : ByteArray := prog_4_method_2_code
def yX2_fit : MethodName := ⟨RX2, "fit", "()V"⟩
abbrev cX2_walk : ByteArray := prog_4_method_3_code
def yX2_walk : MethodName := ⟨RX2, "walk", "(I)I"⟩
abbrev cX2_has : ByteArray := prog_4_method_4_code
def yX2_has : MethodName := ⟨RX2, "has", "(I)Z"⟩
abbrev cX2_product : ByteArray := prog_4_method_5_code
def yX2_product : MethodName := ⟨RX2, "product", "(II)I"⟩
abbrev cX2_power : ByteArray := prog_4_method_6_code
def yX2_power : MethodName := ⟨RX2, "power", "(II)I"⟩
abbrev cX2_squareSign : ByteArray := prog_4_method_7_code
def yX2_squareSign : MethodName := ⟨RX2, "squareSign", "(I)I"⟩
abbrev cX2_turnsOf : ByteArray := prog_4_method_8_code
def yX2_turnsOf : MethodName := ⟨RX2, "turnsOf", "(I)I"⟩
abbrev cX2_valueOf : ByteArray := prog_4_method_9_code
def yX2_valueOf : MethodName := ⟨RX2, "valueOf", "(II)I"⟩
abbrev cX2_signSum : ByteArray := prog_4_method_10_code
def yX2_signSum : MethodName := ⟨RX2, "signSum", "(I)I"⟩
abbrev cX2_pointsBeyond : ByteArray := prog_4_method_11_code
def yX2_pointsBeyond : MethodName := ⟨RX2, "pointsBeyond", "(I)I"⟩
abbrev cX2_pointsOf : ByteArray := prog_4_method_12_code
def yX2_pointsOf : MethodName := ⟨RX2, "pointsOf", "(I)I"⟩
def RX3 : String := "FieldCounts$Polynomials"
def TX3 : u_T := fun k => match k with
  | _ => ("FieldCounts$Polynomials", "p", "I", false)
def tyX3 : Nat → FieldType := fun k => match k with
  | _ => .int
abbrev wsX30 : List Cond := u_ws RX3 TX3 1
theorem nmX3 : ∀ a, a < 1 → ∀ b, b < 1 → a ≠ b → (TX3 a).2.1 ≠ (TX3 b).2.1 := by decide +kernel
theorem tyX3_ok : ∀ k, k < 1 → parseFieldDescriptor (TX3 k).2.2.1 = some (tyX3 k) := by decide +kernel
abbrev cX3_init : ByteArray := prog_5_method_1_code
def yX3_init : MethodName := ⟨RX3, "<init>", "()V"⟩
abbrev cX3_begin : ByteArray := prog_5_method_2_code
def yX3_begin : MethodName := ⟨RX3, "begin", "(I)V"⟩
abbrev cX3_place : ByteArray := prog_5_method_3_code
def yX3_place : MethodName := ⟨RX3, "place", "(I)I"⟩
abbrev cX3_coefficient : ByteArray := prog_5_method_4_code
def yX3_coefficient : MethodName := ⟨RX3, "coefficient", "(II)I"⟩
abbrev cX3_degree : ByteArray := prog_5_method_5_code
def yX3_degree : MethodName := ⟨RX3, "degree", "(I)I"⟩
abbrev cX3_lead : ByteArray := prog_5_method_6_code
def yX3_lead : MethodName := ⟨RX3, "lead", "(I)I"⟩
abbrev cX3_sum : ByteArray := prog_5_method_7_code
def yX3_sum : MethodName := ⟨RX3, "sum", "(II)I"⟩
abbrev cX3_difference : ByteArray := prog_5_method_8_code
def yX3_difference : MethodName := ⟨RX3, "difference", "(II)I"⟩
abbrev cX3_scaled : ByteArray := prog_5_method_9_code
def yX3_scaled : MethodName := ⟨RX3, "scaled", "(II)I"⟩
abbrev cX3_product : ByteArray := prog_5_method_10_code
def yX3_product : MethodName := ⟨RX3, "product", "(II)I"⟩
abbrev cX3_inverse : ByteArray := prog_5_method_11_code
def yX3_inverse : MethodName := ⟨RX3, "inverse", "(I)I"⟩
abbrev cX3_quotient : ByteArray := prog_5_method_12_code
def yX3_quotient : MethodName := ⟨RX3, "quotient", "(II)I"⟩
abbrev cX3_rest : ByteArray := prog_5_method_13_code
def yX3_rest : MethodName := ⟨RX3, "rest", "(II)I"⟩
abbrev cX3_monic : ByteArray := prog_5_method_14_code
def yX3_monic : MethodName := ⟨RX3, "monic", "(I)I"⟩
abbrev cX3_commonDivisor : ByteArray := prog_5_method_15_code
def yX3_commonDivisor : MethodName := ⟨RX3, "commonDivisor", "(II)I"⟩
abbrev cX3_cofactor : ByteArray := prog_5_method_16_code
def yX3_cofactor : MethodName := ⟨RX3, "cofactor", "(II)I"⟩
abbrev cX3_derivative : ByteArray := prog_5_method_17_code
def yX3_derivative : MethodName := ⟨RX3, "derivative", "(I)I"⟩
abbrev cX3_knotOf : ByteArray := prog_5_method_18_code
def yX3_knotOf : MethodName := ⟨RX3, "knotOf", "(I)I"⟩
abbrev cX3_movedBy : ByteArray := prog_5_method_19_code
def yX3_movedBy : MethodName := ⟨RX3, "movedBy", "(II)I"⟩
abbrev cX3_squareRest : ByteArray := prog_5_method_20_code
def yX3_squareRest : MethodName := ⟨RX3, "squareRest", "(II)I"⟩
abbrev cX3_isProduct : ByteArray := prog_5_method_21_code
def yX3_isProduct : MethodName := ⟨RX3, "isProduct", "(II)Z"⟩
def RX4 : String := "FieldCounts"
def TX4 : u_T := fun k => match k with
  | 0 => ("FieldCounts", "ring", "LFieldCounts$Polynomials;", true)
  | 1 => ("FieldCounts", "fields", "[LFieldCounts$Field;", true)
  | 2 => ("FieldCounts", "curves", "[LFieldCounts$Curve;", true)
  | 3 => ("FieldCounts", "tally", "[I", true)
  | 4 => ("FieldCounts", "powerSums", "[J", true)
  | 5 => ("FieldCounts", "fieldCount", "I", false)
  | 6 => ("FieldCounts", "curveCount", "I", false)
  | 7 => ("FieldCounts", "leastNonSquare", "I", false)
  | 8 => ("FieldCounts", "knot", "I", false)
  | _ => ("FieldCounts", "trace", "J", false)
def tyX4 : Nat → FieldType := fun k => match k with
  | 0 => .object "FieldCounts$Polynomials"
  | 1 => .array (.object "FieldCounts$Field")
  | 2 => .array (.object "FieldCounts$Curve")
  | 3 => .array .int
  | 4 => .array .long
  | 5 => .int
  | 6 => .int
  | 7 => .int
  | 8 => .int
  | _ => .long
abbrev wsX40 : List Cond := u_ws RX4 TX4 10
theorem nmX4 : ∀ a, a < 10 → ∀ b, b < 10 → a ≠ b → (TX4 a).2.1 ≠ (TX4 b).2.1 := by decide +kernel
theorem tyX4_ok : ∀ k, k < 10 → parseFieldDescriptor (TX4 k).2.2.1 = some (tyX4 k) := by decide +kernel
abbrev cX4_init : ByteArray := prog_1_method_1_code
def yX4_init : MethodName := ⟨RX4, "<init>", "()V"⟩
abbrev cX4_prime : ByteArray := prog_1_method_2_code
def yX4_prime : MethodName := ⟨RX4, "prime", "(I)I"⟩
abbrev cX4_size : ByteArray := prog_1_method_3_code
def yX4_size : MethodName := ⟨RX4, "size", "(I)I"⟩
abbrev cX4_modulus : ByteArray := prog_1_method_4_code
def yX4_modulus : MethodName := ⟨RX4, "modulus", "(I)I"⟩
abbrev cX4_plus : ByteArray := prog_1_method_5_code
def yX4_plus : MethodName := ⟨RX4, "plus", "(III)I"⟩
abbrev cX4_times : ByteArray := prog_1_method_6_code
def yX4_times : MethodName := ⟨RX4, "times", "(III)I"⟩
abbrev cX4_over : ByteArray := prog_1_method_7_code
def yX4_over : MethodName := ⟨RX4, "over", "(II)I"⟩
abbrev cX4_raise : ByteArray := prog_1_method_8_code
def yX4_raise : MethodName := ⟨RX4, "raise", "(III)I"⟩
abbrev cX4_sign : ByteArray := prog_1_method_9_code
def yX4_sign : MethodName := ⟨RX4, "sign", "(II)I"⟩
abbrev cX4_turns : ByteArray := prog_1_method_10_code
def yX4_turns : MethodName := ⟨RX4, "turns", "(II)I"⟩
abbrev cX4_trace : ByteArray := prog_1_method_11_code
def yX4_trace : MethodName := ⟨RX4, "trace", "(II)I"⟩
abbrev cX4_forms : ByteArray := prog_1_method_12_code
def yX4_forms : MethodName := ⟨RX4, "forms", "(IIII)I"⟩
abbrev cX4_curve : ByteArray := prog_1_method_13_code
def yX4_curve : MethodName := ⟨RX4, "curve", "(III)I"⟩
abbrev cX4_knot : ByteArray := prog_1_method_14_code
def yX4_knot : MethodName := ⟨RX4, "knot", "()I"⟩
abbrev cX4_about : ByteArray := prog_1_method_15_code
def yX4_about : MethodName := ⟨RX4, "about", "(II)I"⟩
abbrev cX4_value : ByteArray := prog_1_method_16_code
def yX4_value : MethodName := ⟨RX4, "value", "(III)I"⟩
abbrev cX4_count : ByteArray := prog_1_method_17_code
def yX4_count : MethodName := ⟨RX4, "count", "(II)I"⟩
abbrev cX4_beyond : ByteArray := prog_1_method_18_code
def yX4_beyond : MethodName := ⟨RX4, "beyond", "(II)I"⟩
abbrev cX4_share : ByteArray := prog_1_method_19_code
def yX4_share : MethodName := ⟨RX4, "share", "(II)I"⟩
abbrev cX4_further : ByteArray := prog_1_method_20_code
def yX4_further : MethodName := ⟨RX4, "further", "(II)J"⟩
abbrev cX4_whole : ByteArray := prog_1_method_21_code
def yX4_whole : MethodName := ⟨RX4, "whole", "(I)I"⟩
abbrev cX4_bound : ByteArray := prog_1_method_22_code
def yX4_bound : MethodName := ⟨RX4, "bound", "(I)I"⟩
abbrev cX4_surface : ByteArray := prog_1_method_23_code
def yX4_surface : MethodName := ⟨RX4, "surface", "(III)I"⟩
abbrev cX4_best : ByteArray := prog_1_method_24_code
def yX4_best : MethodName := ⟨RX4, "best", "(III)I"⟩
abbrev cX4_isClass : ByteArray := prog_1_method_25_code
def yX4_isClass : MethodName := ⟨RX4, "isClass", "(III)I"⟩
abbrev cX4_classes : ByteArray := prog_1_method_26_code
def yX4_classes : MethodName := ⟨RX4, "classes", "(I)I"⟩
abbrev cX4_classAt : ByteArray := prog_1_method_27_code
def yX4_classAt : MethodName := ⟨RX4, "classAt", "(III)I"⟩
abbrev cX4_add : ByteArray := prog_1_method_28_code
def yX4_add : MethodName := ⟨RX4, "add", "(III)I"⟩
abbrev cX4_minus : ByteArray := prog_1_method_29_code
def yX4_minus : MethodName := ⟨RX4, "minus", "(II)I"⟩
abbrev cX4_order : ByteArray := prog_1_method_30_code
def yX4_order : MethodName := ⟨RX4, "order", "(II)I"⟩
abbrev cX4_told : ByteArray := prog_1_method_31_code
def yX4_told : MethodName := ⟨RX4, "told", "(I)I"⟩
abbrev cX4_traced : ByteArray := prog_1_method_32_code
def yX4_traced : MethodName := ⟨RX4, "traced", "()J"⟩
abbrev cX4_start : ByteArray := prog_1_method_33_code
def yX4_start : MethodName := ⟨RX4, "start", "(I)V"⟩
abbrev cX4_fieldAt : ByteArray := prog_1_method_34_code
def yX4_fieldAt : MethodName := ⟨RX4, "fieldAt", "(I)LFieldCounts$Field;"⟩
abbrev cX4_curveAt : ByteArray := prog_1_method_35_code
def yX4_curveAt : MethodName := ⟨RX4, "curveAt", "(I)LFieldCounts$Curve;"⟩
abbrev cX4_listAt : ByteArray := prog_1_method_36_code
def yX4_listAt : MethodName := ⟨RX4, "listAt", "(I)LFieldCounts$ClassList;"⟩
abbrev cX4_isCurvePolynomial : ByteArray := prog_1_method_37_code
def yX4_isCurvePolynomial : MethodName := ⟨RX4, "isCurvePolynomial", "(I)Z"⟩
abbrev cX4_shareOf : ByteArray := prog_1_method_38_code
def yX4_shareOf : MethodName := ⟨RX4, "shareOf", "(LFieldCounts$Curve;)[I"⟩
abbrev cX4_at : ByteArray := prog_1_method_39_code
def yX4_at : MethodName := ⟨RX4, "at", "([II)I"⟩
abbrev cX4_put : ByteArray := prog_1_method_40_code
def yX4_put : MethodName := ⟨RX4, "put", "([III)V"⟩
def RX5 : String := "FieldCountsModel"
def TX5 : u_T := fun k => match k with
  | 0 => ("FieldCountsModel", "thrown", "I", false)
  | 1 => ("FieldCountsModel", "p", "I", false)
  | 2 => ("FieldCountsModel", "fields", "I", false)
  | 3 => ("FieldCountsModel", "sizes", "[I", true)
  | 4 => ("FieldCountsModel", "moduli", "[I", true)
  | 5 => ("FieldCountsModel", "d", "I", false)
  | 6 => ("FieldCountsModel", "curves", "I", false)
  | 7 => ("FieldCountsModel", "kind", "[I", true)
  | 8 => ("FieldCountsModel", "told", "[I", true)
  | 9 => ("FieldCountsModel", "moved", "[I", true)
  | 10 => ("FieldCountsModel", "own", "[I", true)
  | 11 => ("FieldCountsModel", "knot", "I", false)
  | 12 => ("FieldCountsModel", "trace", "J", false)
  | 13 => ("FieldCountsModel", "w", "[I", true)
  | 14 => ("FieldCountsModel", "signs", "[I", true)
  | 15 => ("FieldCountsModel", "signsOf", "I", false)
  | 16 => ("FieldCountsModel", "listed", "I", false)
  | 17 => ("FieldCountsModel", "many", "I", false)
  | 18 => ("FieldCountsModel", "first", "[I", true)
  | 19 => ("FieldCountsModel", "second", "[I", true)
  | 20 => ("FieldCountsModel", "forms", "[I", true)
  | 21 => ("FieldCountsModel", "shares", "[I", true)
  | _ => ("FieldCountsModel", "powers", "[J", true)
def tyX5 : Nat → FieldType := fun k => match k with
  | 0 => .int
  | 1 => .int
  | 2 => .int
  | 3 => .array .int
  | 4 => .array .int
  | 5 => .int
  | 6 => .int
  | 7 => .array .int
  | 8 => .array .int
  | 9 => .array .int
  | 10 => .array .int
  | 11 => .int
  | 12 => .long
  | 13 => .array .int
  | 14 => .array .int
  | 15 => .int
  | 16 => .int
  | 17 => .int
  | 18 => .array .int
  | 19 => .array .int
  | 20 => .array .int
  | 21 => .array .int
  | _ => .array .long
abbrev wsX50 : List Cond := u_ws RX5 TX5 23
theorem nmX5 : ∀ a, a < 23 → ∀ b, b < 23 → a ≠ b → (TX5 a).2.1 ≠ (TX5 b).2.1 := by decide +kernel
theorem tyX5_ok : ∀ k, k < 23 → parseFieldDescriptor (TX5 k).2.2.1 = some (tyX5 k) := by decide +kernel
abbrev cX5_init : ByteArray := prog_7_method_1_code
def yX5_init : MethodName := ⟨RX5, "<init>", "()V"⟩
abbrev cX5_in : ByteArray := prog_7_method_3_code
def yX5_in : MethodName := ⟨RX5, "in", "(JJJ)Z"⟩
abbrev cX5_left : ByteArray := prog_7_method_4_code
def yX5_left : MethodName := ⟨RX5, "left", "(I)I"⟩
abbrev cX5_inverse : ByteArray := prog_7_method_5_code
def yX5_inverse : MethodName := ⟨RX5, "inverse", "(I)I"⟩
abbrev cX5_clear : ByteArray := prog_7_method_6_code
def yX5_clear : MethodName := ⟨RX5, "clear", "(I)V"⟩
abbrev cX5_load : ByteArray := prog_7_method_7_code
def yX5_load : MethodName := ⟨RX5, "load", "(II)V"⟩
abbrev cX5_number : ByteArray := prog_7_method_8_code
def yX5_number : MethodName := ⟨RX5, "number", "(I)I"⟩
abbrev cX5_copy : ByteArray := prog_7_method_9_code
def yX5_copy : MethodName := ⟨RX5, "copy", "(II)V"⟩
abbrev cX5_degree : ByteArray := prog_7_method_10_code
def yX5_degree : MethodName := ⟨RX5, "degree", "(I)I"⟩
abbrev cX5_join : ByteArray := prog_7_method_11_code
def yX5_join : MethodName := ⟨RX5, "join", "(IIII)V"⟩
abbrev cX5_scale : ByteArray := prog_7_method_12_code
def yX5_scale : MethodName := ⟨RX5, "scale", "(II)V"⟩
abbrev cX5_multiply : ByteArray := prog_7_method_13_code
def yX5_multiply : MethodName := ⟨RX5, "multiply", "(III)V"⟩
abbrev cX5_divide : ByteArray := prog_7_method_14_code
def yX5_divide : MethodName := ⟨RX5, "divide", "(IIII)V"⟩
abbrev cX5_common : ByteArray := prog_7_method_15_code
def yX5_common : MethodName := ⟨RX5, "common", "(IIIII)V"⟩
abbrev cX5_begins : ByteArray := prog_7_method_16_code
def yX5_begins : MethodName := ⟨RX5, "begins", "(I)V"⟩
abbrev cX5_least : ByteArray := prog_7_method_17_code
def yX5_least : MethodName := ⟨RX5, "least", "(II)I"⟩
abbrev cX5_product : ByteArray := prog_7_method_18_code
def yX5_product : MethodName := ⟨RX5, "product", "(III)I"⟩
abbrev cX5_sum : ByteArray := prog_7_method_19_code
def yX5_sum : MethodName := ⟨RX5, "sum", "(II)I"⟩
abbrev cX5_power : ByteArray := prog_7_method_20_code
def yX5_power : MethodName := ⟨RX5, "power", "(III)I"⟩
abbrev cX5_needSigns : ByteArray := prog_7_method_21_code
def yX5_needSigns : MethodName := ⟨RX5, "needSigns", "(I)V"⟩
abbrev cX5_isField : ByteArray := prog_7_method_22_code
def yX5_isField : MethodName := ⟨RX5, "isField", "(I)Z"⟩
abbrev cX5_isNumber : ByteArray := prog_7_method_23_code
def yX5_isNumber : MethodName := ⟨RX5, "isNumber", "(II)Z"⟩
abbrev cX5_prime : ByteArray := prog_7_method_24_code
def yX5_prime : MethodName := ⟨RX5, "prime", "(I)I"⟩
abbrev cX5_size : ByteArray := prog_7_method_25_code
def yX5_size : MethodName := ⟨RX5, "size", "(I)I"⟩
abbrev cX5_modulus : ByteArray := prog_7_method_26_code
def yX5_modulus : MethodName := ⟨RX5, "modulus", "(I)I"⟩
abbrev cX5_plus : ByteArray := prog_7_method_27_code
def yX5_plus : MethodName := ⟨RX5, "plus", "(III)I"⟩
abbrev cX5_times : ByteArray := prog_7_method_28_code
def yX5_times : MethodName := ⟨RX5, "times", "(III)I"⟩
abbrev cX5_over : ByteArray := prog_7_method_29_code
def yX5_over : MethodName := ⟨RX5, "over", "(II)I"⟩
abbrev cX5_raise : ByteArray := prog_7_method_30_code
def yX5_raise : MethodName := ⟨RX5, "raise", "(III)I"⟩
abbrev cX5_sign : ByteArray := prog_7_method_31_code
def yX5_sign : MethodName := ⟨RX5, "sign", "(II)I"⟩
abbrev cX5_turns : ByteArray := prog_7_method_32_code
def yX5_turns : MethodName := ⟨RX5, "turns", "(II)I"⟩
abbrev cX5_trace : ByteArray := prog_7_method_33_code
def yX5_trace : MethodName := ⟨RX5, "trace", "(II)I"⟩
abbrev cX5_forms : ByteArray := prog_7_method_34_code
def yX5_forms : MethodName := ⟨RX5, "forms", "(IIII)I"⟩
abbrev cX5_isCurve : ByteArray := prog_7_method_35_code
def yX5_isCurve : MethodName := ⟨RX5, "isCurve", "(I)Z"⟩
abbrev cX5_degreeOf : ByteArray := prog_7_method_36_code
def yX5_degreeOf : MethodName := ⟨RX5, "degreeOf", "(I)I"⟩
abbrev cX5_genusOf : ByteArray := prog_7_method_37_code
def yX5_genusOf : MethodName := ⟨RX5, "genusOf", "(I)I"⟩
abbrev cX5_loadOwn : ByteArray := prog_7_method_38_code
def yX5_loadOwn : MethodName := ⟨RX5, "loadOwn", "(II)V"⟩
abbrev cX5_isDegree : ByteArray := prog_7_method_39_code
def yX5_isDegree : MethodName := ⟨RX5, "isDegree", "(II)Z"⟩
abbrev cX5_isShaped : ByteArray := prog_7_method_40_code
def yX5_isShaped : MethodName := ⟨RX5, "isShaped", "(I)Z"⟩
abbrev cX5_knotOf : ByteArray := prog_7_method_41_code
def yX5_knotOf : MethodName := ⟨RX5, "knotOf", "(I)I"⟩
abbrev cX5_curve : ByteArray := prog_7_method_42_code
def yX5_curve : MethodName := ⟨RX5, "curve", "(III)I"⟩
abbrev cX5_knot : ByteArray := prog_7_method_43_code
def yX5_knot : MethodName := ⟨RX5, "knot", "()I"⟩
abbrev cX5_about : ByteArray := prog_7_method_44_code
def yX5_about : MethodName := ⟨RX5, "about", "(II)I"⟩
abbrev cX5_valueOf : ByteArray := prog_7_method_45_code
def yX5_valueOf : MethodName := ⟨RX5, "valueOf", "(III)I"⟩
abbrev cX5_value : ByteArray := prog_7_method_46_code
def yX5_value : MethodName := ⟨RX5, "value", "(III)I"⟩
abbrev cX5_beyondOf : ByteArray := prog_7_method_47_code
def yX5_beyondOf : MethodName := ⟨RX5, "beyondOf", "(II)I"⟩
abbrev cX5_countOf : ByteArray := prog_7_method_48_code
def yX5_countOf : MethodName := ⟨RX5, "countOf", "(II)I"⟩
abbrev cX5_count : ByteArray := prog_7_method_49_code
def yX5_count : MethodName := ⟨RX5, "count", "(II)I"⟩
abbrev cX5_beyond : ByteArray := prog_7_method_50_code
def yX5_beyond : MethodName := ⟨RX5, "beyond", "(II)I"⟩
abbrev cX5_needShares : ByteArray := prog_7_method_51_code
def yX5_needShares : MethodName := ⟨RX5, "needShares", "(I)V"⟩
abbrev cX5_share : ByteArray := prog_7_method_52_code
def yX5_share : MethodName := ⟨RX5, "share", "(II)I"⟩
abbrev cX5_further : ByteArray := prog_7_method_53_code
def yX5_further : MethodName := ⟨RX5, "further", "(II)J"⟩
abbrev cX5_wholeOf : ByteArray := prog_7_method_54_code
def yX5_wholeOf : MethodName := ⟨RX5, "wholeOf", "(I)I"⟩
abbrev cX5_whole : ByteArray := prog_7_method_55_code
def yX5_whole : MethodName := ⟨RX5, "whole", "(I)I"⟩
abbrev cX5_bound : ByteArray := prog_7_method_56_code
def yX5_bound : MethodName := ⟨RX5, "bound", "(I)I"⟩
abbrev cX5_surface : ByteArray := prog_7_method_57_code
def yX5_surface : MethodName := ⟨RX5, "surface", "(III)I"⟩
abbrev cX5_best : ByteArray := prog_7_method_58_code
def yX5_best : MethodName := ⟨RX5, "best", "(III)I"⟩
abbrev cX5_hasClasses : ByteArray := prog_7_method_59_code
def yX5_hasClasses : MethodName := ⟨RX5, "hasClasses", "(I)Z"⟩
abbrev cX5_goesIn : ByteArray := prog_7_method_60_code
def yX5_goesIn : MethodName := ⟨RX5, "goesIn", "(III)Z"⟩
abbrev cX5_isClassOf : ByteArray := prog_7_method_61_code
def yX5_isClassOf : MethodName := ⟨RX5, "isClassOf", "(III)Z"⟩
abbrev cX5_needClasses : ByteArray := prog_7_method_62_code
def yX5_needClasses : MethodName := ⟨RX5, "needClasses", "(I)V"⟩
abbrev cX5_leaves : ByteArray := prog_7_method_63_code
def yX5_leaves : MethodName := ⟨RX5, "leaves", "(III)Z"⟩
abbrev cX5_isClass : ByteArray := prog_7_method_64_code
def yX5_isClass : MethodName := ⟨RX5, "isClass", "(III)I"⟩
abbrev cX5_classes : ByteArray := prog_7_method_65_code
def yX5_classes : MethodName := ⟨RX5, "classes", "(I)I"⟩
abbrev cX5_classAt : ByteArray := prog_7_method_66_code
def yX5_classAt : MethodName := ⟨RX5, "classAt", "(III)I"⟩
abbrev cX5_find : ByteArray := prog_7_method_67_code
def yX5_find : MethodName := ⟨RX5, "find", "(II)I"⟩
abbrev cX5_addOf : ByteArray := prog_7_method_68_code
def yX5_addOf : MethodName := ⟨RX5, "addOf", "(III)I"⟩
abbrev cX5_isThere : ByteArray := prog_7_method_69_code
def yX5_isThere : MethodName := ⟨RX5, "isThere", "(II)Z"⟩
abbrev cX5_add : ByteArray := prog_7_method_70_code
def yX5_add : MethodName := ⟨RX5, "add", "(III)I"⟩
abbrev cX5_minus : ByteArray := prog_7_method_71_code
def yX5_minus : MethodName := ⟨RX5, "minus", "(II)I"⟩
abbrev cX5_order : ByteArray := prog_7_method_72_code
def yX5_order : MethodName := ⟨RX5, "order", "(II)I"⟩
abbrev cX5_told : ByteArray := prog_7_method_73_code
def yX5_told : MethodName := ⟨RX5, "told", "(I)I"⟩
abbrev cX5_traced : ByteArray := prog_7_method_74_code
def yX5_traced : MethodName := ⟨RX5, "traced", "()J"⟩
def RJ9 : String := "java/lang/Math"
def TJ9 : u_T := fun k => match k with
  | _ => ("", "", "", false)
def tyJ9 : Nat → FieldType := fun k => match k with
  | _ => .int
abbrev wsJ90 : List Cond := u_ws RJ9 TJ9 0
theorem nmJ9 : ∀ a, a < 0 → ∀ b, b < 0 → a ≠ b → (TJ9 a).2.1 ≠ (TJ9 b).2.1 := by decide +kernel
theorem tyJ9_ok : ∀ k, k < 0 → parseFieldDescriptor (TJ9 k).2.2.1 = some (tyJ9 k) := by decide +kernel
abbrev cJ9_max_7cf53 : ByteArray := prog_8_method_65_code
def yJ9_max_7cf53 : MethodName := ⟨RJ9, "max", "(II)I"⟩
abbrev cJ9_min_7cf53 : ByteArray := prog_8_method_69_code
def yJ9_min_7cf53 : MethodName := ⟨RJ9, "min", "(II)I"⟩
def RJ7 : String := "java/util/Arrays"
def TJ7 : u_T := fun k => match k with
  | _ => ("", "", "", false)
def tyJ7 : Nat → FieldType := fun k => match k with
  | _ => .int
abbrev wsJ70 : List Cond := u_ws RJ7 TJ7 0
theorem nmJ7 : ∀ a, a < 0 → ∀ b, b < 0 → a ≠ b → (TJ7 a).2.1 ≠ (TJ7 b).2.1 := by decide +kernel
theorem tyJ7_ok : ∀ k, k < 0 → parseFieldDescriptor (TJ7 k).2.2.1 = some (tyJ7 k) := by decide +kernel
abbrev cJ7_fill_53178 : ByteArray := prog_9_method_103_code
def yJ7_fill_53178 : MethodName := ⟨RJ7, "fill", "([II)V"⟩
def RL : String := "FieldCountsLaw"
abbrev cL_law : ByteArray := code
def yL_law : MethodName := ⟨RL, "law", "([I)Z"⟩
def wsL_law_r1 : List Cond := [Cond.classLink RL 7 RX4, Cond.instantiable RX4 10, Cond.initialized RX4, Cond.classLink RL 10 RX5, Cond.instantiable RX5 23, Cond.initialized RX5, Cond.methodLink RL 9 yX4_init, Cond.instanceMethod yX4_init, Cond.code yX4_init cX4_init 2 none, Cond.methodLink RX4 1 objectInit, Cond.instanceMethod objectInit, Cond.code objectInit ⟨#[0xb1]⟩ 1 none, Cond.classLink RX4 7 RX3, Cond.instantiable RX3 1, Cond.initialized RX3, Cond.fieldLink RX4 10 "FieldCounts" "ring" "LFieldCounts$Polynomials;", Cond.classLink RX4 16 RX2, Cond.fieldLink RX4 18 "FieldCounts" "fields" "[LFieldCounts$Field;", Cond.classLink RX4 22 RX1, Cond.fieldLink RX4 24 "FieldCounts" "curves" "[LFieldCounts$Curve;", Cond.arrayClass .int, Cond.fieldLink RX4 28 "FieldCounts" "tally" "[I", Cond.arrayClass .long, Cond.fieldLink RX4 32 "FieldCounts" "powerSums" "[J"]
def wsL_law_r2 : List Cond := [Cond.fieldLink RX4 36 "FieldCounts" "knot" "I", Cond.instantiable RX2 8, Cond.initialized RX2, Cond.instantiable RX1 10, Cond.initialized RX1, Cond.instanceMethod yX3_init, Cond.code yX3_init cX3_init 1 none, Cond.methodLink RX3 3 objectInit, Cond.fieldLink RX3 9 "FieldCounts$Polynomials" "p" "I", Cond.methodLink RX4 40 yX2_init, Cond.instanceMethod yX2_init, Cond.code yX2_init cX2_init 3 none, Cond.methodLink RX2 3 objectInit, Cond.fieldLink RX2 9 "FieldCounts$Field" "powers" "[I", Cond.fieldLink RX2 15 "FieldCounts$Field" "exponents" "[I", Cond.fieldLink RX2 18 "FieldCounts$Field" "madeFor" "I", Cond.fieldLink RX2 22 "FieldCounts$Field" "size" "I", Cond.fieldLink RX2 25 "FieldCounts$Field" "units" "I", Cond.fieldLink RX2 28 "FieldCounts$Field" "divisor" "I", Cond.fieldLink RX2 31 "FieldCounts$Field" "ring" "LFieldCounts$Polynomials;", Cond.fieldLink RX2 35 "FieldCounts$Field" "n" "I", Cond.methodLink RX4 43 yX1_init, Cond.instanceMethod yX1_init, Cond.code yX1_init cX1_init 2 none]
def wsL_law_r3 : List Cond := [Cond.methodLink RX1 3 objectInit, Cond.fieldLink RX1 9 "FieldCounts$Curve" "share" "[I", Cond.fieldLink RX1 15 "FieldCounts$Curve" "ring" "LFieldCounts$Polynomials;", Cond.classLink RX1 19 RX0, Cond.instantiable RX0 5, Cond.initialized RX0, Cond.fieldLink RX1 24 "FieldCounts$Curve" "list" "LFieldCounts$ClassList;", Cond.methodLink RX1 21 yX0_init, Cond.instanceMethod yX0_init, Cond.code yX0_init cX0_init 2 none, Cond.methodLink RX0 3 objectInit, Cond.fieldLink RX0 9 "FieldCounts$ClassList" "keys" "[I", Cond.fieldLink RX0 15 "FieldCounts$ClassList" "genus" "I", Cond.fieldLink RX0 19 "FieldCounts$ClassList" "ring" "LFieldCounts$Polynomials;", Cond.methodLink RX4 46 yX4_start, Cond.instanceMethod yX4_start, Cond.selects RX4 yX4_start yX4_start, Cond.code yX4_start cX4_start 3 none, Cond.fieldLink RX4 120 "FieldCounts" "curveCount" "I", Cond.fieldLink RX4 53 "FieldCounts" "fieldCount" "I", Cond.fieldLink RX4 123 "FieldCounts" "leastNonSquare" "I", Cond.methodLink RX4 226 yX3_begin, Cond.instanceMethod yX3_begin, Cond.selects RX3 yX3_begin yX3_begin]
def wsL_law_r4 : List Cond := [Cond.code yX3_begin cX3_begin 2 none, Cond.methodLink RX3 15 Lib.Math.max.name, Cond.static Lib.Math.max.name, Cond.initialized "java/lang/Math", Cond.code Lib.Math.max.name Lib.Math.max.code 2 (some .int), Cond.methodLink RX4 177 yX3_place, Cond.instanceMethod yX3_place, Cond.selects RX3 yX3_place yX3_place, Cond.code yX3_place cX3_place 4 (some .int), Cond.methodLink RX4 56 yX4_fieldAt, Cond.instanceMethod yX4_fieldAt, Cond.selects RX4 yX4_fieldAt yX4_fieldAt, Cond.code yX4_fieldAt cX4_fieldAt 3 (some (.object "FieldCounts$Field")), Cond.methodLink RX4 228 yX2_fit, Cond.instanceMethod yX2_fit, Cond.selects RX2 yX2_fit yX2_fit, Cond.code yX2_fit cX2_fit 3 none, Cond.methodLink RX2 47 Lib.Math.max.name, Cond.methodLink RX2 43 yX3_place, Cond.methodLink RX2 53 yX3_isProduct, Cond.instanceMethod yX3_isProduct, Cond.selects RX3 yX3_isProduct yX3_isProduct, Cond.code yX3_isProduct cX3_isProduct 6 (some .boolean), Cond.methodLink RX3 40 yX3_place]
def wsL_law_r5 : List Cond := [Cond.methodLink RX3 46 yX3_rest, Cond.instanceMethod yX3_rest, Cond.selects RX3 yX3_rest yX3_rest, Cond.code yX3_rest cX3_rest 8 (some .int), Cond.methodLink RX3 27 yX3_degree, Cond.instanceMethod yX3_degree, Cond.selects RX3 yX3_degree yX3_degree, Cond.code yX3_degree cX3_degree 4 (some .int), Cond.methodLink RX3 31 yX3_lead, Cond.instanceMethod yX3_lead, Cond.selects RX3 yX3_lead yX3_lead, Cond.code yX3_lead cX3_lead 4 (some .int), Cond.methodLink RX3 34 yX3_inverse, Cond.instanceMethod yX3_inverse, Cond.selects RX3 yX3_inverse yX3_inverse, Cond.code yX3_inverse cX3_inverse 3 (some .int), Cond.methodLink RX3 37 yX3_coefficient, Cond.instanceMethod yX3_coefficient, Cond.selects RX3 yX3_coefficient yX3_coefficient, Cond.code yX3_coefficient cX3_coefficient 5 (some .int), Cond.methodLink RX3 21 yX3_scaled, Cond.instanceMethod yX3_scaled, Cond.selects RX3 yX3_scaled yX3_scaled, Cond.code yX3_scaled cX3_scaled 7 (some .int)]
def wsL_law_r6 : List Cond := [Cond.methodLink RX3 43 yX3_difference, Cond.instanceMethod yX3_difference, Cond.selects RX3 yX3_difference yX3_difference, Cond.code yX3_difference cX3_difference 8 (some .int), Cond.methodLink RX2 57 yX2_walk, Cond.instanceMethod yX2_walk, Cond.selects RX2 yX2_walk yX2_walk, Cond.code yX2_walk cX2_walk 4 (some .int), Cond.static yX4_put, Cond.code yX4_put cX4_put 3 none, Cond.methodLink RX2 68 yX3_product, Cond.instanceMethod yX3_product, Cond.selects RX3 yX3_product yX3_product, Cond.code yX3_product cX3_product 7 (some .int), Cond.methodLink RX3 24 yX3_sum, Cond.instanceMethod yX3_sum, Cond.selects RX3 yX3_sum yX3_sum, Cond.code yX3_sum cX3_sum 8 (some .int), Cond.methodLink RX2 71 yX3_rest, Cond.static yX4_at, Cond.code yX4_at cX4_at 2 (some .int), Cond.methodLink RX4 84 yX2_squareSign, Cond.instanceMethod yX2_squareSign, Cond.selects RX2 yX2_squareSign yX2_squareSign]
def wsL_law_r7 : List Cond := [Cond.code yX2_squareSign cX2_squareSign 2 (some .int), Cond.methodLink RL 12 yX5_init, Cond.instanceMethod yX5_init, Cond.code yX5_init cX5_init 1 none, Cond.methodLink RX5 1 objectInit, Cond.fieldLink RX5 7 "FieldCountsModel" "p" "I", Cond.fieldLink RX5 13 "FieldCountsModel" "fields" "I", Cond.fieldLink RX5 16 "FieldCountsModel" "sizes" "[I", Cond.fieldLink RX5 20 "FieldCountsModel" "moduli" "[I", Cond.fieldLink RX5 23 "FieldCountsModel" "kind" "[I", Cond.fieldLink RX5 26 "FieldCountsModel" "told" "[I", Cond.fieldLink RX5 29 "FieldCountsModel" "moved" "[I", Cond.fieldLink RX5 32 "FieldCountsModel" "own" "[I", Cond.fieldLink RX5 35 "FieldCountsModel" "knot" "I", Cond.fieldLink RX5 38 "FieldCountsModel" "w" "[I", Cond.fieldLink RX5 41 "FieldCountsModel" "signs" "[I", Cond.fieldLink RX5 44 "FieldCountsModel" "listed" "I", Cond.fieldLink RX5 47 "FieldCountsModel" "first" "[I", Cond.fieldLink RX5 50 "FieldCountsModel" "second" "[I", Cond.fieldLink RX5 53 "FieldCountsModel" "forms" "[I", Cond.fieldLink RX5 56 "FieldCountsModel" "shares" "[I", Cond.fieldLink RX5 59 "FieldCountsModel" "powers" "[J", Cond.methodLink RX5 63 yX5_begins, Cond.instanceMethod yX5_begins]
def wsL_law_r8 : List Cond := [Cond.selects RX5 yX5_begins yX5_begins, Cond.code yX5_begins cX5_begins 3 none, Cond.fieldLink RX5 108 "FieldCountsModel" "curves" "I", Cond.fieldLink RX5 111 "FieldCountsModel" "signsOf" "I", Cond.fieldLink RX5 117 "FieldCountsModel" "d" "I", Cond.methodLink RX5 104 yX5_least, Cond.instanceMethod yX5_least, Cond.selects RX5 yX5_least yX5_least, Cond.code yX5_least cX5_least 8 (some .int), Cond.methodLink RX5 87 yX5_load, Cond.instanceMethod yX5_load, Cond.selects RX5 yX5_load yX5_load, Cond.code yX5_load cX5_load 5 none, Cond.methodLink RX5 90 yX5_divide, Cond.instanceMethod yX5_divide, Cond.selects RX5 yX5_divide yX5_divide, Cond.code yX5_divide cX5_divide 10 none, Cond.methodLink RX5 74 yX5_clear, Cond.instanceMethod yX5_clear, Cond.selects RX5 yX5_clear yX5_clear, Cond.code yX5_clear cX5_clear 3 none, Cond.methodLink RX5 80 yX5_copy, Cond.instanceMethod yX5_copy, Cond.selects RX5 yX5_copy yX5_copy]
def wsL_law_r9 : List Cond := [Cond.code yX5_copy cX5_copy 4 none, Cond.methodLink RX5 77 yX5_degree, Cond.instanceMethod yX5_degree, Cond.selects RX5 yX5_degree yX5_degree, Cond.code yX5_degree cX5_degree 3 (some .int), Cond.methodLink RX5 84 yX5_inverse, Cond.instanceMethod yX5_inverse, Cond.selects RX5 yX5_inverse yX5_inverse, Cond.code yX5_inverse cX5_inverse 3 (some .int), Cond.methodLink RX5 70 yX5_left, Cond.instanceMethod yX5_left, Cond.selects RX5 yX5_left yX5_left, Cond.code yX5_left cX5_left 3 (some .int), Cond.methodLink RX5 114 yX5_needSigns, Cond.instanceMethod yX5_needSigns, Cond.selects RX5 yX5_needSigns yX5_needSigns, Cond.code yX5_needSigns cX5_needSigns 3 none, Cond.methodLink RX5 123 yX5_product, Cond.instanceMethod yX5_product, Cond.selects RX5 yX5_product yX5_product, Cond.code yX5_product cX5_product 4 (some .int), Cond.methodLink RX5 94 yX5_multiply, Cond.instanceMethod yX5_multiply, Cond.selects RX5 yX5_multiply yX5_multiply]
def wsL_law_r10 : List Cond := [Cond.code yX5_multiply cX5_multiply 8 none, Cond.methodLink RX5 120 yX5_number, Cond.instanceMethod yX5_number, Cond.selects RX5 yX5_number yX5_number, Cond.code yX5_number cX5_number 4 (some .int), Cond.methodLink RL 13 yX4_prime, Cond.instanceMethod yX4_prime, Cond.selects RX4 yX4_prime yX4_prime, Cond.code yX4_prime cX4_prime 6 (some .int), Cond.fieldLink RX4 50 "FieldCounts" "PRIMES" "[I", Cond.methodLink RL 17 yX5_prime, Cond.instanceMethod yX5_prime, Cond.selects RX5 yX5_prime yX5_prime, Cond.code yX5_prime cX5_prime 2 (some .int), Cond.fieldLink RX5 67 "FieldCountsModel" "thrown" "I", Cond.methodLink RL 18 yX4_size, Cond.instanceMethod yX4_size, Cond.selects RX4 yX4_size yX4_size, Cond.code yX4_size cX4_size 3 (some .int), Cond.methodLink RL 21 yX5_size, Cond.instanceMethod yX5_size, Cond.selects RX5 yX5_size yX5_size, Cond.code yX5_size cX5_size 2 (some .int), Cond.methodLink RX5 131 yX5_isField]
def wsL_law_r11 : List Cond := [Cond.instanceMethod yX5_isField, Cond.selects RX5 yX5_isField yX5_isField, Cond.code yX5_isField cX5_isField 2 (some .boolean), Cond.methodLink RX5 127 yX5_in, Cond.static yX5_in, Cond.code yX5_in cX5_in 6 (some .boolean), Cond.methodLink RL 22 yX4_modulus, Cond.instanceMethod yX4_modulus, Cond.selects RX4 yX4_modulus yX4_modulus, Cond.code yX4_modulus cX4_modulus 3 (some .int), Cond.methodLink RL 25 yX5_modulus, Cond.instanceMethod yX5_modulus, Cond.selects RX5 yX5_modulus yX5_modulus, Cond.code yX5_modulus cX5_modulus 2 (some .int), Cond.methodLink RL 26 yX4_plus, Cond.instanceMethod yX4_plus, Cond.selects RX4 yX4_plus yX4_plus, Cond.code yX4_plus cX4_plus 5 (some .int), Cond.methodLink RX4 66 yX2_has, Cond.instanceMethod yX2_has, Cond.selects RX2 yX2_has yX2_has, Cond.code yX2_has cX2_has 2 (some .boolean), Cond.methodLink RX4 70 yX3_sum, Cond.methodLink RL 30 yX5_plus]
def wsL_law_r12 : List Cond := [Cond.instanceMethod yX5_plus, Cond.selects RX5 yX5_plus yX5_plus, Cond.code yX5_plus cX5_plus 4 (some .int), Cond.methodLink RX5 135 yX5_isNumber, Cond.instanceMethod yX5_isNumber, Cond.selects RX5 yX5_isNumber yX5_isNumber, Cond.code yX5_isNumber cX5_isNumber 3 (some .boolean), Cond.methodLink RX5 139 yX5_sum, Cond.instanceMethod yX5_sum, Cond.selects RX5 yX5_sum yX5_sum, Cond.code yX5_sum cX5_sum 7 (some .int), Cond.methodLink RL 31 yX4_times, Cond.instanceMethod yX4_times, Cond.selects RX4 yX4_times yX4_times, Cond.code yX4_times cX4_times 5 (some .int), Cond.methodLink RX4 74 yX2_product, Cond.instanceMethod yX2_product, Cond.selects RX2 yX2_product yX2_product, Cond.code yX2_product cX2_product 3 (some .int), Cond.methodLink RL 34 yX5_times, Cond.instanceMethod yX5_times, Cond.selects RX5 yX5_times yX5_times, Cond.code yX5_times cX5_times 4 (some .int), Cond.methodLink RL 35 yX4_over]
def wsL_law_r13 : List Cond := [Cond.instanceMethod yX4_over, Cond.selects RX4 yX4_over yX4_over, Cond.code yX4_over cX4_over 4 (some .int), Cond.methodLink RX4 80 yX2_power, Cond.instanceMethod yX2_power, Cond.selects RX2 yX2_power yX2_power, Cond.code yX2_power cX2_power 3 (some .int), Cond.methodLink RL 39 yX5_over, Cond.instanceMethod yX5_over, Cond.selects RX5 yX5_over yX5_over, Cond.code yX5_over cX5_over 4 (some .int), Cond.methodLink RL 40 yX4_raise, Cond.instanceMethod yX4_raise, Cond.selects RX4 yX4_raise yX4_raise, Cond.code yX4_raise cX4_raise 5 (some .int), Cond.methodLink RL 43 yX5_raise, Cond.instanceMethod yX5_raise, Cond.selects RX5 yX5_raise yX5_raise, Cond.code yX5_raise cX5_raise 4 (some .int), Cond.methodLink RX5 142 yX5_power, Cond.instanceMethod yX5_power, Cond.selects RX5 yX5_power yX5_power, Cond.code yX5_power cX5_power 7 (some .int), Cond.methodLink RL 44 yX4_sign]
def wsL_law_r14 : List Cond := [Cond.instanceMethod yX4_sign, Cond.selects RX4 yX4_sign yX4_sign, Cond.code yX4_sign cX4_sign 4 (some .int), Cond.constant RX4 83 (-1000000000), Cond.methodLink RL 47 yX5_sign, Cond.instanceMethod yX5_sign, Cond.selects RX5 yX5_sign yX5_sign, Cond.code yX5_sign cX5_sign 3 (some .int), Cond.constant RX5 145 (-1000000000), Cond.methodLink RL 48 yX4_turns, Cond.instanceMethod yX4_turns, Cond.selects RX4 yX4_turns yX4_turns, Cond.code yX4_turns cX4_turns 4 (some .int), Cond.methodLink RX4 88 yX2_turnsOf, Cond.instanceMethod yX2_turnsOf, Cond.selects RX2 yX2_turnsOf yX2_turnsOf, Cond.code yX2_turnsOf cX2_turnsOf 3 (some .int), Cond.methodLink RL 51 yX5_turns, Cond.instanceMethod yX5_turns, Cond.selects RX5 yX5_turns yX5_turns, Cond.code yX5_turns cX5_turns 5 (some .int), Cond.methodLink RL 52 yX4_trace, Cond.instanceMethod yX4_trace, Cond.selects RX4 yX4_trace yX4_trace]
def wsL_law_r15 : List Cond := [Cond.code yX4_trace cX4_trace 7 (some .int), Cond.methodLink RL 55 yX5_trace, Cond.instanceMethod yX5_trace, Cond.selects RX5 yX5_trace yX5_trace, Cond.code yX5_trace cX5_trace 6 (some .int), Cond.methodLink RL 56 yX4_forms, Cond.instanceMethod yX4_forms, Cond.selects RX4 yX4_forms yX4_forms, Cond.code yX4_forms cX4_forms 8 (some .int), Cond.methodLink RX4 94 yJ7_fill_53178, Cond.static yJ7_fill_53178, Cond.initialized RJ7, Cond.code yJ7_fill_53178 cJ7_fill_53178 4 none, Cond.methodLink RX4 100 yX4_at, Cond.methodLink RX4 104 yX4_put, Cond.methodLink RX4 108 yX3_difference, Cond.methodLink RL 60 yX5_forms, Cond.instanceMethod yX5_forms, Cond.selects RX5 yX5_forms yX5_forms, Cond.code yX5_forms cX5_forms 9 (some .int), Cond.methodLink RL 61 yX4_curve, Cond.instanceMethod yX4_curve, Cond.selects RX4 yX4_curve yX4_curve, Cond.code yX4_curve cX4_curve 5 (some .int)]
def wsL_law_r16 : List Cond := [Cond.methodLink RX4 111 yX4_isCurvePolynomial, Cond.instanceMethod yX4_isCurvePolynomial, Cond.selects RX4 yX4_isCurvePolynomial yX4_isCurvePolynomial, Cond.code yX4_isCurvePolynomial cX4_isCurvePolynomial 2 (some .boolean), Cond.methodLink RX4 114 yX3_knotOf, Cond.instanceMethod yX3_knotOf, Cond.selects RX3 yX3_knotOf yX3_knotOf, Cond.code yX3_knotOf cX3_knotOf 2 (some .int), Cond.methodLink RX3 58 yX3_derivative, Cond.instanceMethod yX3_derivative, Cond.selects RX3 yX3_derivative yX3_derivative, Cond.code yX3_derivative cX3_derivative 4 (some .int), Cond.methodLink RX3 61 yX3_commonDivisor, Cond.instanceMethod yX3_commonDivisor, Cond.selects RX3 yX3_commonDivisor yX3_commonDivisor, Cond.code yX3_commonDivisor cX3_commonDivisor 7 (some .int), Cond.methodLink RX3 49 yX3_monic, Cond.instanceMethod yX3_monic, Cond.selects RX3 yX3_monic yX3_monic, Cond.code yX3_monic cX3_monic 2 (some .int), Cond.methodLink RX4 117 yX3_degree, Cond.methodLink RX4 126 yX1_begin, Cond.instanceMethod yX1_begin, Cond.selects RX1 yX1_begin yX1_begin]
def wsL_law_r17 : List Cond := [Cond.code yX1_begin cX1_begin 5 none, Cond.fieldLink RX1 28 "FieldCounts$Curve" "kind" "I", Cond.fieldLink RX1 32 "FieldCounts$Curve" "f" "I", Cond.fieldLink RX1 35 "FieldCounts$Curve" "t" "I", Cond.fieldLink RX1 44 "FieldCounts$Curve" "degree" "I", Cond.fieldLink RX1 46 "FieldCounts$Curve" "genus" "I", Cond.fieldLink RX1 56 "FieldCounts$Curve" "polynomial" "I", Cond.fieldLink RX1 59 "FieldCounts$Curve" "shareKnown" "Z", Cond.methodLink RX1 38 yX3_degree, Cond.methodLink RX1 49 yX3_scaled, Cond.methodLink RX1 53 yX3_movedBy, Cond.instanceMethod yX3_movedBy, Cond.selects RX3 yX3_movedBy yX3_movedBy, Cond.code yX3_movedBy cX3_movedBy 5 (some .int), Cond.methodLink RX3 55 yX3_product, Cond.methodLink RX1 63 yX0_begin, Cond.instanceMethod yX0_begin, Cond.selects RX0 yX0_begin yX0_begin, Cond.code yX0_begin cX0_begin 3 none, Cond.fieldLink RX0 23 "FieldCounts$ClassList" "polynomial" "I", Cond.fieldLink RX0 26 "FieldCounts$ClassList" "listed" "I", Cond.methodLink RL 64 yX5_curve, Cond.instanceMethod yX5_curve, Cond.selects RX5 yX5_curve yX5_curve]
def wsL_law_r18 : List Cond := [Cond.code yX5_curve cX5_curve 6 (some .int), Cond.constantLong RX5 156 (2), Cond.methodLink RX5 158 yX5_isShaped, Cond.instanceMethod yX5_isShaped, Cond.selects RX5 yX5_isShaped yX5_isShaped, Cond.code yX5_isShaped cX5_isShaped 2 (some .boolean), Cond.methodLink RX5 149 yX5_isDegree, Cond.instanceMethod yX5_isDegree, Cond.selects RX5 yX5_isDegree yX5_isDegree, Cond.code yX5_isDegree cX5_isDegree 6 (some .boolean), Cond.methodLink RX5 161 yX5_knotOf, Cond.instanceMethod yX5_knotOf, Cond.selects RX5 yX5_knotOf yX5_knotOf, Cond.code yX5_knotOf cX5_knotOf 3 (some .int), Cond.methodLink RX5 152 yX5_common, Cond.instanceMethod yX5_common, Cond.selects RX5 yX5_common yX5_common, Cond.code yX5_common cX5_common 7 none, Cond.methodLink RX5 98 yX5_join, Cond.instanceMethod yX5_join, Cond.selects RX5 yX5_join yX5_join, Cond.code yX5_join cX5_join 6 none, Cond.methodLink RX5 101 yX5_scale, Cond.instanceMethod yX5_scale]
def wsL_law_r19 : List Cond := [Cond.selects RX5 yX5_scale yX5_scale, Cond.code yX5_scale cX5_scale 4 none, Cond.methodLink RL 65 yX4_knot, Cond.instanceMethod yX4_knot, Cond.selects RX4 yX4_knot yX4_knot, Cond.code yX4_knot cX4_knot 1 (some .int), Cond.methodLink RL 69 yX5_knot, Cond.instanceMethod yX5_knot, Cond.selects RX5 yX5_knot yX5_knot, Cond.code yX5_knot cX5_knot 1 (some .int), Cond.methodLink RL 70 yX4_about, Cond.instanceMethod yX4_about, Cond.selects RX4 yX4_about yX4_about, Cond.code yX4_about cX4_about 4 (some .int), Cond.methodLink RX4 130 yX4_curveAt, Cond.instanceMethod yX4_curveAt, Cond.selects RX4 yX4_curveAt yX4_curveAt, Cond.code yX4_curveAt cX4_curveAt 2 (some (.object "FieldCounts$Curve")), Cond.methodLink RL 73 yX5_about, Cond.instanceMethod yX5_about, Cond.selects RX5 yX5_about yX5_about, Cond.code yX5_about cX5_about 3 (some .int), Cond.constantLong RX5 167 (5), Cond.methodLink RX5 164 yX5_isCurve]
def wsL_law_r20 : List Cond := [Cond.instanceMethod yX5_isCurve, Cond.selects RX5 yX5_isCurve yX5_isCurve, Cond.code yX5_isCurve cX5_isCurve 2 (some .boolean), Cond.methodLink RX5 146 yX5_degreeOf, Cond.instanceMethod yX5_degreeOf, Cond.selects RX5 yX5_degreeOf yX5_degreeOf, Cond.code yX5_degreeOf cX5_degreeOf 3 (some .int), Cond.methodLink RX5 169 yX5_genusOf, Cond.instanceMethod yX5_genusOf, Cond.selects RX5 yX5_genusOf yX5_genusOf, Cond.code yX5_genusOf cX5_genusOf 2 (some .int), Cond.methodLink RX5 172 yX5_loadOwn, Cond.instanceMethod yX5_loadOwn, Cond.selects RX5 yX5_loadOwn yX5_loadOwn, Cond.code yX5_loadOwn cX5_loadOwn 4 none, Cond.methodLink RL 74 yX4_value, Cond.instanceMethod yX4_value, Cond.selects RX4 yX4_value yX4_value, Cond.code yX4_value cX4_value 6 (some .int), Cond.fieldLink RX4 151 "FieldCounts" "trace" "J", Cond.fieldLink RX4 155 "FieldCounts" "TRACES" "[I", Cond.methodLink RX4 158 yX2_valueOf, Cond.instanceMethod yX2_valueOf, Cond.selects RX2 yX2_valueOf yX2_valueOf]
def wsL_law_r21 : List Cond := [Cond.code yX2_valueOf cX2_valueOf 5 (some .int), Cond.methodLink RX2 74 yX3_degree, Cond.methodLink RX2 77 yX2_product, Cond.methodLink RX2 78 yX3_coefficient, Cond.methodLink RX2 81 yX3_sum, Cond.methodLink RL 77 yX5_value, Cond.instanceMethod yX5_value, Cond.selects RX5 yX5_value yX5_value, Cond.code yX5_value cX5_value 4 (some .int), Cond.fieldLink RX5 175 "FieldCountsModel" "trace" "J", Cond.constantLong RX5 179 (11), Cond.constantLong RX5 181 (111), Cond.methodLink RX5 183 yX5_valueOf, Cond.instanceMethod yX5_valueOf, Cond.selects RX5 yX5_valueOf yX5_valueOf, Cond.code yX5_valueOf cX5_valueOf 6 (some .int), Cond.methodLink RL 78 yX4_count, Cond.instanceMethod yX4_count, Cond.selects RX4 yX4_count yX4_count, Cond.code yX4_count cX4_count 5 (some .int), Cond.methodLink RX4 161 yX2_pointsOf, Cond.instanceMethod yX2_pointsOf, Cond.selects RX2 yX2_pointsOf yX2_pointsOf, Cond.code yX2_pointsOf cX2_pointsOf 2 (some .int)]
def wsL_law_r22 : List Cond := [Cond.methodLink RX2 93 yX2_signSum, Cond.instanceMethod yX2_signSum, Cond.selects RX2 yX2_signSum yX2_signSum, Cond.code yX2_signSum cX2_signSum 4 (some .int), Cond.methodLink RX2 84 yX2_valueOf, Cond.methodLink RX2 87 yX2_squareSign, Cond.methodLink RX2 96 yX2_pointsBeyond, Cond.instanceMethod yX2_pointsBeyond, Cond.selects RX2 yX2_pointsBeyond yX2_pointsBeyond, Cond.code yX2_pointsBeyond cX2_pointsBeyond 2 (some .int), Cond.methodLink RX2 90 yX3_lead, Cond.methodLink RL 81 yX5_count, Cond.instanceMethod yX5_count, Cond.selects RX5 yX5_count yX5_count, Cond.code yX5_count cX5_count 3 (some .int), Cond.methodLink RX5 189 yX5_countOf, Cond.instanceMethod yX5_countOf, Cond.selects RX5 yX5_countOf yX5_countOf, Cond.code yX5_countOf cX5_countOf 5 (some .int), Cond.methodLink RX5 186 yX5_beyondOf, Cond.instanceMethod yX5_beyondOf, Cond.selects RX5 yX5_beyondOf yX5_beyondOf, Cond.code yX5_beyondOf cX5_beyondOf 4 (some .int), Cond.methodLink RL 82 yX4_beyond]
def wsL_law_r23 : List Cond := [Cond.instanceMethod yX4_beyond, Cond.selects RX4 yX4_beyond yX4_beyond, Cond.code yX4_beyond cX4_beyond 5 (some .int), Cond.methodLink RX4 164 yX2_pointsBeyond, Cond.methodLink RL 85 yX5_beyond, Cond.instanceMethod yX5_beyond, Cond.selects RX5 yX5_beyond yX5_beyond, Cond.code yX5_beyond cX5_beyond 3 (some .int), Cond.methodLink RL 86 yX4_share, Cond.instanceMethod yX4_share, Cond.selects RX4 yX4_share yX4_share, Cond.code yX4_share cX4_share 4 (some .int), Cond.methodLink RX4 167 yX4_shareOf, Cond.instanceMethod yX4_shareOf, Cond.selects RX4 yX4_shareOf yX4_shareOf, Cond.code yX4_shareOf cX4_shareOf 4 (some (.array .int)), Cond.methodLink RX4 239 yX1_makeShare, Cond.instanceMethod yX1_makeShare, Cond.selects RX1 yX1_makeShare yX1_makeShare, Cond.code yX1_makeShare cX1_makeShare 6 none, Cond.methodLink RX1 70 yX2_pointsOf, Cond.methodLink RX1 75 yJ7_fill_53178, Cond.methodLink RX1 85 yX3_place, Cond.methodLink RL 89 yX5_share]
def wsL_law_r24 : List Cond := [Cond.instanceMethod yX5_share, Cond.selects RX5 yX5_share yX5_share, Cond.code yX5_share cX5_share 3 (some .int), Cond.methodLink RX5 192 yX5_needShares, Cond.instanceMethod yX5_needShares, Cond.selects RX5 yX5_needShares yX5_needShares, Cond.code yX5_needShares cX5_needShares 3 none, Cond.methodLink RL 90 yX4_further, Cond.instanceMethod yX4_further, Cond.selects RX4 yX4_further yX4_further, Cond.code yX4_further cX4_further 11 (some .long), Cond.constantLong RX4 171 (-1), Cond.methodLink RL 94 yX5_further, Cond.instanceMethod yX5_further, Cond.selects RX5 yX5_further yX5_further, Cond.code yX5_further cX5_further 9 (some .long), Cond.constantLong RX5 195 (12), Cond.constantLong RX5 197 (-1), Cond.methodLink RL 95 yX4_whole, Cond.instanceMethod yX4_whole, Cond.selects RX4 yX4_whole yX4_whole, Cond.code yX4_whole cX4_whole 8 (some .int), Cond.methodLink RL 98 yX5_whole, Cond.instanceMethod yX5_whole]
def wsL_law_r25 : List Cond := [Cond.selects RX5 yX5_whole yX5_whole, Cond.code yX5_whole cX5_whole 2 (some .int), Cond.methodLink RX5 199 yX5_wholeOf, Cond.instanceMethod yX5_wholeOf, Cond.selects RX5 yX5_wholeOf yX5_wholeOf, Cond.code yX5_wholeOf cX5_wholeOf 2 (some .int), Cond.methodLink RL 99 yX4_bound, Cond.instanceMethod yX4_bound, Cond.selects RX4 yX4_bound yX4_bound, Cond.code yX4_bound cX4_bound 4 (some .int), Cond.methodLink RL 102 yX5_bound, Cond.instanceMethod yX5_bound, Cond.selects RX5 yX5_bound yX5_bound, Cond.code yX5_bound cX5_bound 3 (some .int), Cond.methodLink RL 103 yX4_surface, Cond.instanceMethod yX4_surface, Cond.selects RX4 yX4_surface yX4_surface, Cond.code yX4_surface cX4_surface 8 (some .int), Cond.methodLink RX4 173 yX2_signSum, Cond.methodLink RL 106 yX5_surface, Cond.instanceMethod yX5_surface, Cond.selects RX5 yX5_surface yX5_surface, Cond.code yX5_surface cX5_surface 12 (some .int), Cond.methodLink RL 107 yX4_best]
def wsL_law_r26 : List Cond := [Cond.instanceMethod yX4_best, Cond.selects RX4 yX4_best yX4_best, Cond.code yX4_best cX4_best 11 (some .int), Cond.constant RX4 176 (1000000), Cond.methodLink RX4 180 Lib.Math.max.name, Cond.methodLink RX4 185 Lib.Math.min.name, Cond.static Lib.Math.min.name, Cond.code Lib.Math.min.name Lib.Math.min.code 2 (some .int), Cond.methodLink RL 110 yX5_best, Cond.instanceMethod yX5_best, Cond.selects RX5 yX5_best yX5_best, Cond.code yX5_best cX5_best 11 (some .int), Cond.constantLong RX5 202 (3), Cond.constantLong RX5 204 (6), Cond.constantLong RX5 206 (1000000), Cond.constantLong RX5 208 (100), Cond.methodLink RL 111 yX4_isClass, Cond.instanceMethod yX4_isClass, Cond.selects RX4 yX4_isClass yX4_isClass, Cond.code yX4_isClass cX4_isClass 5 (some .int), Cond.methodLink RX4 188 yX4_listAt, Cond.instanceMethod yX4_listAt, Cond.selects RX4 yX4_listAt yX4_listAt, Cond.code yX4_listAt cX4_listAt 3 (some (.object "FieldCounts$ClassList"))]
def wsL_law_r27 : List Cond := [Cond.methodLink RX4 192 yX0_holds, Cond.instanceMethod yX0_holds, Cond.selects RX0 yX0_holds yX0_holds, Cond.code yX0_holds cX0_holds 5 (some .boolean), Cond.methodLink RX0 29 yX3_place, Cond.methodLink RX0 35 yX3_squareRest, Cond.instanceMethod yX3_squareRest, Cond.selects RX3 yX3_squareRest yX3_squareRest, Cond.code yX3_squareRest cX3_squareRest 9 (some .int), Cond.methodLink RX0 39 yX3_rest, Cond.methodLink RL 114 yX5_isClass, Cond.instanceMethod yX5_isClass, Cond.selects RX5 yX5_isClass yX5_isClass, Cond.code yX5_isClass cX5_isClass 4 (some .int), Cond.methodLink RX5 220 yX5_hasClasses, Cond.instanceMethod yX5_hasClasses, Cond.selects RX5 yX5_hasClasses yX5_hasClasses, Cond.code yX5_hasClasses cX5_hasClasses 2 (some .boolean), Cond.methodLink RX5 223 yX5_isClassOf, Cond.instanceMethod yX5_isClassOf, Cond.selects RX5 yX5_isClassOf yX5_isClassOf, Cond.code yX5_isClassOf cX5_isClassOf 6 (some .boolean), Cond.methodLink RX5 210 yX5_goesIn, Cond.instanceMethod yX5_goesIn]
def wsL_law_r28 : List Cond := [Cond.selects RX5 yX5_goesIn yX5_goesIn, Cond.code yX5_goesIn cX5_goesIn 4 (some .boolean), Cond.methodLink RL 115 yX4_classes, Cond.instanceMethod yX4_classes, Cond.selects RX4 yX4_classes yX4_classes, Cond.code yX4_classes cX4_classes 3 (some .int), Cond.methodLink RX4 198 yX0_many, Cond.instanceMethod yX0_many, Cond.selects RX0 yX0_many yX0_many, Cond.code yX0_many cX0_many 1 (some .int), Cond.methodLink RX0 42 yX0_goThrough, Cond.instanceMethod yX0_goThrough, Cond.selects RX0 yX0_goThrough yX0_goThrough, Cond.code yX0_goThrough cX0_goThrough 4 none, Cond.methodLink RX0 98 yX0_listWith, Cond.instanceMethod yX0_listWith, Cond.selects RX0 yX0_listWith yX0_listWith, Cond.code yX0_listWith cX0_listWith 5 none, Cond.methodLink RX0 65 yX0_keyOf, Cond.instanceMethod yX0_keyOf, Cond.selects RX0 yX0_keyOf yX0_keyOf, Cond.code yX0_keyOf cX0_keyOf 3 (some .int), Cond.methodLink RL 118 yX5_classes, Cond.instanceMethod yX5_classes]
def wsL_law_r29 : List Cond := [Cond.selects RX5 yX5_classes yX5_classes, Cond.code yX5_classes cX5_classes 2 (some .int), Cond.fieldLink RX5 214 "FieldCountsModel" "many" "I", Cond.methodLink RX5 226 yX5_needClasses, Cond.instanceMethod yX5_needClasses, Cond.selects RX5 yX5_needClasses yX5_needClasses, Cond.code yX5_needClasses cX5_needClasses 6 none, Cond.methodLink RX5 217 yX5_leaves, Cond.instanceMethod yX5_leaves, Cond.selects RX5 yX5_leaves yX5_leaves, Cond.code yX5_leaves cX5_leaves 6 (some .boolean), Cond.methodLink RL 119 yX4_classAt, Cond.instanceMethod yX4_classAt, Cond.selects RX4 yX4_classAt yX4_classAt, Cond.code yX4_classAt cX4_classAt 6 (some .int), Cond.methodLink RX4 202 yX0_keyAt, Cond.instanceMethod yX0_keyAt, Cond.selects RX0 yX0_keyAt yX0_keyAt, Cond.code yX0_keyAt cX0_keyAt 2 (some .int), Cond.methodLink RX4 205 yX0_uOf, Cond.instanceMethod yX0_uOf, Cond.selects RX0 yX0_uOf yX0_uOf, Cond.code yX0_uOf cX0_uOf 2 (some .int), Cond.methodLink RX4 208 yX0_vOf]
def wsL_law_r30 : List Cond := [Cond.instanceMethod yX0_vOf, Cond.selects RX0 yX0_vOf yX0_vOf, Cond.code yX0_vOf cX0_vOf 2 (some .int), Cond.methodLink RL 122 yX5_classAt, Cond.instanceMethod yX5_classAt, Cond.selects RX5 yX5_classAt yX5_classAt, Cond.code yX5_classAt cX5_classAt 4 (some .int), Cond.methodLink RL 123 yX4_add, Cond.instanceMethod yX4_add, Cond.selects RX4 yX4_add yX4_add, Cond.code yX4_add cX4_add 5 (some .int), Cond.methodLink RX4 211 yX0_reaches, Cond.instanceMethod yX0_reaches, Cond.selects RX0 yX0_reaches yX0_reaches, Cond.code yX0_reaches cX0_reaches 2 (some .boolean), Cond.methodLink RX0 45 yX0_many, Cond.methodLink RX4 214 yX0_sumOf, Cond.instanceMethod yX0_sumOf, Cond.selects RX0 yX0_sumOf yX0_sumOf, Cond.code yX0_sumOf cX0_sumOf 18 (some .int), Cond.methodLink RX0 56 yX0_uOf, Cond.methodLink RX0 59 yX0_vOf, Cond.methodLink RX0 74 yX3_commonDivisor, Cond.methodLink RX0 77 yX3_cofactor]
def wsL_law_r31 : List Cond := [Cond.instanceMethod yX3_cofactor, Cond.selects RX3 yX3_cofactor yX3_cofactor, Cond.code yX3_cofactor cX3_cofactor 11 (some .int), Cond.methodLink RX3 52 yX3_quotient, Cond.instanceMethod yX3_quotient, Cond.selects RX3 yX3_quotient yX3_quotient, Cond.code yX3_quotient cX3_quotient 9 (some .int), Cond.methodLink RX0 80 yX3_product, Cond.methodLink RX0 62 yX3_difference, Cond.methodLink RX0 83 yX3_quotient, Cond.methodLink RX0 86 yX3_sum, Cond.methodLink RX0 89 yX0_reduced, Cond.instanceMethod yX0_reduced, Cond.selects RX0 yX0_reduced yX0_reduced, Cond.code yX0_reduced cX0_reduced 6 (some .int), Cond.methodLink RX0 92 yX3_degree, Cond.methodLink RX0 95 yX3_monic, Cond.methodLink RX4 217 yX0_placeOf, Cond.instanceMethod yX0_placeOf, Cond.selects RX0 yX0_placeOf yX0_placeOf, Cond.code yX0_placeOf cX0_placeOf 3 (some .int), Cond.methodLink RL 126 yX5_add, Cond.instanceMethod yX5_add, Cond.selects RX5 yX5_add yX5_add]
def wsL_law_r32 : List Cond := [Cond.code yX5_add cX5_add 4 (some .int), Cond.methodLink RX5 232 yX5_isThere, Cond.instanceMethod yX5_isThere, Cond.selects RX5 yX5_isThere yX5_isThere, Cond.code yX5_isThere cX5_isThere 3 (some .boolean), Cond.methodLink RX5 235 yX5_addOf, Cond.instanceMethod yX5_addOf, Cond.selects RX5 yX5_addOf yX5_addOf, Cond.code yX5_addOf cX5_addOf 4 (some .int), Cond.methodLink RX5 229 yX5_find, Cond.instanceMethod yX5_find, Cond.selects RX5 yX5_find yX5_find, Cond.code yX5_find cX5_find 4 (some .int), Cond.methodLink RL 127 yX4_minus, Cond.instanceMethod yX4_minus, Cond.selects RX4 yX4_minus yX4_minus, Cond.code yX4_minus cX4_minus 4 (some .int), Cond.methodLink RX4 220 yX0_oppositeOf, Cond.instanceMethod yX0_oppositeOf, Cond.selects RX0 yX0_oppositeOf yX0_oppositeOf, Cond.code yX0_oppositeOf cX0_oppositeOf 2 (some .int), Cond.methodLink RL 130 yX5_minus, Cond.instanceMethod yX5_minus, Cond.selects RX5 yX5_minus yX5_minus]
def wsL_law_r33 : List Cond := [Cond.code yX5_minus cX5_minus 3 (some .int), Cond.methodLink RL 131 yX4_order, Cond.instanceMethod yX4_order, Cond.selects RX4 yX4_order yX4_order, Cond.code yX4_order cX4_order 4 (some .int), Cond.methodLink RX4 223 yX0_orderOf, Cond.instanceMethod yX0_orderOf, Cond.selects RX0 yX0_orderOf yX0_orderOf, Cond.code yX0_orderOf cX0_orderOf 5 (some .int), Cond.methodLink RX0 68 yX0_multipleOf, Cond.instanceMethod yX0_multipleOf, Cond.selects RX0 yX0_multipleOf yX0_multipleOf, Cond.code yX0_multipleOf cX0_multipleOf 6 (some .int), Cond.methodLink RX0 71 yX0_sumOf, Cond.methodLink RL 134 yX5_order, Cond.instanceMethod yX5_order, Cond.selects RX5 yX5_order yX5_order, Cond.code yX5_order cX5_order 5 (some .int), Cond.methodLink RL 135 yX4_told, Cond.instanceMethod yX4_told, Cond.selects RX4 yX4_told yX4_told, Cond.code yX4_told cX4_told 2 (some .int), Cond.methodLink RL 138 yX5_told, Cond.instanceMethod yX5_told]
def wsL_law_r34 : List Cond := [Cond.selects RX5 yX5_told yX5_told, Cond.code yX5_told cX5_told 2 (some .int), Cond.methodLink RL 139 yX4_traced, Cond.instanceMethod yX4_traced, Cond.selects RX4 yX4_traced yX4_traced, Cond.code yX4_traced cX4_traced 1 (some .long), Cond.methodLink RL 143 yX5_traced, Cond.instanceMethod yX5_traced, Cond.selects RX5 yX5_traced yX5_traced, Cond.code yX5_traced cX5_traced 1 (some .long)]
abbrev vwCl : List vw_C := [(RX0, TX0, 5), (RX1, TX1, 10), (RX2, TX2, 8), (RX3, TX3, 1), (RX4, TX4, 10), (RX5, TX5, 23)]

def wsL_law : List Cond := (wsL_law_r1 ++ (wsL_law_r2 ++ (wsL_law_r3 ++ (wsL_law_r4 ++ (wsL_law_r5 ++ (wsL_law_r6 ++ (wsL_law_r7 ++ (wsL_law_r8 ++ (wsL_law_r9 ++ (wsL_law_r10 ++ (wsL_law_r11 ++ (wsL_law_r12 ++ (wsL_law_r13 ++ (wsL_law_r14 ++ (wsL_law_r15 ++ (wsL_law_r16 ++ (wsL_law_r17 ++ (wsL_law_r18 ++ (wsL_law_r19 ++ (wsL_law_r20 ++ (wsL_law_r21 ++ (wsL_law_r22 ++ (wsL_law_r23 ++ (wsL_law_r24 ++ (wsL_law_r25 ++ (wsL_law_r26 ++ (wsL_law_r27 ++ (wsL_law_r28 ++ (wsL_law_r29 ++ (wsL_law_r30 ++ (wsL_law_r31 ++ (wsL_law_r32 ++ (wsL_law_r33 ++ wsL_law_r34))))))))))))))))))))))))))))))))) ++ wsX40 ++ wsX50 ++ wsX30 ++ wsX20 ++ wsX10 ++ wsX00 ++ ([] : List Cond)
theorem inl_X4 : ∀ w ∈ wsX40, w ∈ wsL_law := fun _ h => List.mem_append_left _ (List.mem_append_left _ (List.mem_append_left _ (List.mem_append_left _ (List.mem_append_left _ (List.mem_append_left _ (List.mem_append_right _ h))))))
theorem inl_X5 : ∀ w ∈ wsX50, w ∈ wsL_law := fun _ h => List.mem_append_left _ (List.mem_append_left _ (List.mem_append_left _ (List.mem_append_left _ (List.mem_append_left _ (List.mem_append_right _ h)))))
theorem inl_X3 : ∀ w ∈ wsX30, w ∈ wsL_law := fun _ h => List.mem_append_left _ (List.mem_append_left _ (List.mem_append_left _ (List.mem_append_left _ (List.mem_append_right _ h))))
theorem inl_X2 : ∀ w ∈ wsX20, w ∈ wsL_law := fun _ h => List.mem_append_left _ (List.mem_append_left _ (List.mem_append_left _ (List.mem_append_right _ h)))
theorem inl_X1 : ∀ w ∈ wsX10, w ∈ wsL_law := fun _ h => List.mem_append_left _ (List.mem_append_left _ (List.mem_append_right _ h))
theorem inl_X0 : ∀ w ∈ wsX00, w ∈ wsL_law := fun _ h => List.mem_append_left _ (List.mem_append_right _ h)
theorem inr_1 : ∀ w ∈ wsL_law_r1, w ∈ wsL_law := fun _ h => List.mem_append_left _ (List.mem_append_left _ (List.mem_append_left _ (List.mem_append_left _ (List.mem_append_left _ (List.mem_append_left _ (List.mem_append_left _ (List.mem_append_left _ (h))))))))
theorem inr_2 : ∀ w ∈ wsL_law_r2, w ∈ wsL_law := fun _ h => List.mem_append_left _ (List.mem_append_left _ (List.mem_append_left _ (List.mem_append_left _ (List.mem_append_left _ (List.mem_append_left _ (List.mem_append_left _ (List.mem_append_right _ (List.mem_append_left _ (h)))))))))
theorem inr_3 : ∀ w ∈ wsL_law_r3, w ∈ wsL_law := fun _ h => List.mem_append_left _ (List.mem_append_left _ (List.mem_append_left _ (List.mem_append_left _ (List.mem_append_left _ (List.mem_append_left _ (List.mem_append_left _ (List.mem_append_right _ (List.mem_append_right _ (List.mem_append_left _ (h))))))))))
theorem inr_4 : ∀ w ∈ wsL_law_r4, w ∈ wsL_law := fun _ h => List.mem_append_left _ (List.mem_append_left _ (List.mem_append_left _ (List.mem_append_left _ (List.mem_append_left _ (List.mem_append_left _ (List.mem_append_left _ (List.mem_append_right _ (List.mem_append_right _ (List.mem_append_right _ (List.mem_append_left _ (h)))))))))))
theorem inr_5 : ∀ w ∈ wsL_law_r5, w ∈ wsL_law := fun _ h => List.mem_append_left _ (List.mem_append_left _ (List.mem_append_left _ (List.mem_append_left _ (List.mem_append_left _ (List.mem_append_left _ (List.mem_append_left _ (List.mem_append_right _ (List.mem_append_right _ (List.mem_append_right _ (List.mem_append_right _ (List.mem_append_left _ (h))))))))))))
theorem inr_6 : ∀ w ∈ wsL_law_r6, w ∈ wsL_law := fun _ h => List.mem_append_left _ (List.mem_append_left _ (List.mem_append_left _ (List.mem_append_left _ (List.mem_append_left _ (List.mem_append_left _ (List.mem_append_left _ (List.mem_append_right _ (List.mem_append_right _ (List.mem_append_right _ (List.mem_append_right _ (List.mem_append_right _ (List.mem_append_left _ (h)))))))))))))
theorem inr_7 : ∀ w ∈ wsL_law_r7, w ∈ wsL_law := fun _ h => List.mem_append_left _ (List.mem_append_left _ (List.mem_append_left _ (List.mem_append_left _ (List.mem_append_left _ (List.mem_append_left _ (List.mem_append_left _ (List.mem_append_right _ (List.mem_append_right _ (List.mem_append_right _ (List.mem_append_right _ (List.mem_append_right _ (List.mem_append_right _ (List.mem_append_left _ (h))))))))))))))
theorem inr_8 : ∀ w ∈ wsL_law_r8, w ∈ wsL_law := fun _ h => List.mem_append_left _ (List.mem_append_left _ (List.mem_append_left _ (List.mem_append_left _ (List.mem_append_left _ (List.mem_append_left _ (List.mem_append_left _ (List.mem_append_right _ (List.mem_append_right _ (List.mem_append_right _ (List.mem_append_right _ (List.mem_append_right _ (List.mem_append_right _ (List.mem_append_right _ (List.mem_append_left _ (h)))))))))))))))
theorem inr_9 : ∀ w ∈ wsL_law_r9, w ∈ wsL_law := fun _ h => List.mem_append_left _ (List.mem_append_left _ (List.mem_append_left _ (List.mem_append_left _ (List.mem_append_left _ (List.mem_append_left _ (List.mem_append_left _ (List.mem_append_right _ (List.mem_append_right _ (List.mem_append_right _ (List.mem_append_right _ (List.mem_append_right _ (List.mem_append_right _ (List.mem_append_right _ (List.mem_append_right _ (List.mem_append_left _ (h))))))))))))))))
theorem inr_10 : ∀ w ∈ wsL_law_r10, w ∈ wsL_law := fun _ h => List.mem_append_left _ (List.mem_append_left _ (List.mem_append_left _ (List.mem_append_left _ (List.mem_append_left _ (List.mem_append_left _ (List.mem_append_left _ (List.mem_append_right _ (List.mem_append_right _ (List.mem_append_right _ (List.mem_append_right _ (List.mem_append_right _ (List.mem_append_right _ (List.mem_append_right _ (List.mem_append_right _ (List.mem_append_right _ (List.mem_append_left _ (h)))))))))))))))))
theorem inr_11 : ∀ w ∈ wsL_law_r11, w ∈ wsL_law := fun _ h => List.mem_append_left _ (List.mem_append_left _ (List.mem_append_left _ (List.mem_append_left _ (List.mem_append_left _ (List.mem_append_left _ (List.mem_append_left _ (List.mem_append_right _ (List.mem_append_right _ (List.mem_append_right _ (List.mem_append_right _ (List.mem_append_right _ (List.mem_append_right _ (List.mem_append_right _ (List.mem_append_right _ (List.mem_append_right _ (List.mem_append_right _ (List.mem_append_left _ (h))))))))))))))))))
theorem inr_12 : ∀ w ∈ wsL_law_r12, w ∈ wsL_law := fun _ h => List.mem_append_left _ (List.mem_append_left _ (List.mem_append_left _ (List.mem_append_left _ (List.mem_append_left _ (List.mem_append_left _ (List.mem_append_left _ (List.mem_append_right _ (List.mem_append_right _ (List.mem_append_right _ (List.mem_append_right _ (List.mem_append_right _ (List.mem_append_right _ (List.mem_append_right _ (List.mem_append_right _ (List.mem_append_right _ (List.mem_append_right _ (List.mem_append_right _ (List.mem_append_left _ (h)))))))))))))))))))
theorem inr_13 : ∀ w ∈ wsL_law_r13, w ∈ wsL_law := fun _ h => List.mem_append_left _ (List.mem_append_left _ (List.mem_append_left _ (List.mem_append_left _ (List.mem_append_left _ (List.mem_append_left _ (List.mem_append_left _ (List.mem_append_right _ (List.mem_append_right _ (List.mem_append_right _ (List.mem_append_right _ (List.mem_append_right _ (List.mem_append_right _ (List.mem_append_right _ (List.mem_append_right _ (List.mem_append_right _ (List.mem_append_right _ (List.mem_append_right _ (List.mem_append_right _ (List.mem_append_left _ (h))))))))))))))))))))
theorem inr_14 : ∀ w ∈ wsL_law_r14, w ∈ wsL_law := fun _ h => List.mem_append_left _ (List.mem_append_left _ (List.mem_append_left _ (List.mem_append_left _ (List.mem_append_left _ (List.mem_append_left _ (List.mem_append_left _ (List.mem_append_right _ (List.mem_append_right _ (List.mem_append_right _ (List.mem_append_right _ (List.mem_append_right _ (List.mem_append_right _ (List.mem_append_right _ (List.mem_append_right _ (List.mem_append_right _ (List.mem_append_right _ (List.mem_append_right _ (List.mem_append_right _ (List.mem_append_right _ (List.mem_append_left _ (h)))))))))))))))))))))
theorem inr_15 : ∀ w ∈ wsL_law_r15, w ∈ wsL_law := fun _ h => List.mem_append_left _ (List.mem_append_left _ (List.mem_append_left _ (List.mem_append_left _ (List.mem_append_left _ (List.mem_append_left _ (List.mem_append_left _ (List.mem_append_right _ (List.mem_append_right _ (List.mem_append_right _ (List.mem_append_right _ (List.mem_append_right _ (List.mem_append_right _ (List.mem_append_right _ (List.mem_append_right _ (List.mem_append_right _ (List.mem_append_right _ (List.mem_append_right _ (List.mem_append_right _ (List.mem_append_right _ (List.mem_append_right _ (List.mem_append_left _ (h))))))))))))))))))))))
theorem inr_16 : ∀ w ∈ wsL_law_r16, w ∈ wsL_law := fun _ h => List.mem_append_left _ (List.mem_append_left _ (List.mem_append_left _ (List.mem_append_left _ (List.mem_append_left _ (List.mem_append_left _ (List.mem_append_left _ (List.mem_append_right _ (List.mem_append_right _ (List.mem_append_right _ (List.mem_append_right _ (List.mem_append_right _ (List.mem_append_right _ (List.mem_append_right _ (List.mem_append_right _ (List.mem_append_right _ (List.mem_append_right _ (List.mem_append_right _ (List.mem_append_right _ (List.mem_append_right _ (List.mem_append_right _ (List.mem_append_right _ (List.mem_append_left _ (h)))))))))))))))))))))))
theorem inr_17 : ∀ w ∈ wsL_law_r17, w ∈ wsL_law := fun _ h => List.mem_append_left _ (List.mem_append_left _ (List.mem_append_left _ (List.mem_append_left _ (List.mem_append_left _ (List.mem_append_left _ (List.mem_append_left _ (List.mem_append_right _ (List.mem_append_right _ (List.mem_append_right _ (List.mem_append_right _ (List.mem_append_right _ (List.mem_append_right _ (List.mem_append_right _ (List.mem_append_right _ (List.mem_append_right _ (List.mem_append_right _ (List.mem_append_right _ (List.mem_append_right _ (List.mem_append_right _ (List.mem_append_right _ (List.mem_append_right _ (List.mem_append_right _ (List.mem_append_left _ (h))))))))))))))))))))))))
theorem inr_18 : ∀ w ∈ wsL_law_r18, w ∈ wsL_law := fun _ h => List.mem_append_left _ (List.mem_append_left _ (List.mem_append_left _ (List.mem_append_left _ (List.mem_append_left _ (List.mem_append_left _ (List.mem_append_left _ (List.mem_append_right _ (List.mem_append_right _ (List.mem_append_right _ (List.mem_append_right _ (List.mem_append_right _ (List.mem_append_right _ (List.mem_append_right _ (List.mem_append_right _ (List.mem_append_right _ (List.mem_append_right _ (List.mem_append_right _ (List.mem_append_right _ (List.mem_append_right _ (List.mem_append_right _ (List.mem_append_right _ (List.mem_append_right _ (List.mem_append_right _ (List.mem_append_left _ (h)))))))))))))))))))))))))
theorem inr_19 : ∀ w ∈ wsL_law_r19, w ∈ wsL_law := fun _ h => List.mem_append_left _ (List.mem_append_left _ (List.mem_append_left _ (List.mem_append_left _ (List.mem_append_left _ (List.mem_append_left _ (List.mem_append_left _ (List.mem_append_right _ (List.mem_append_right _ (List.mem_append_right _ (List.mem_append_right _ (List.mem_append_right _ (List.mem_append_right _ (List.mem_append_right _ (List.mem_append_right _ (List.mem_append_right _ (List.mem_append_right _ (List.mem_append_right _ (List.mem_append_right _ (List.mem_append_right _ (List.mem_append_right _ (List.mem_append_right _ (List.mem_append_right _ (List.mem_append_right _ (List.mem_append_right _ (List.mem_append_left _ (h))))))))))))))))))))))))))
theorem inr_20 : ∀ w ∈ wsL_law_r20, w ∈ wsL_law := fun _ h => List.mem_append_left _ (List.mem_append_left _ (List.mem_append_left _ (List.mem_append_left _ (List.mem_append_left _ (List.mem_append_left _ (List.mem_append_left _ (List.mem_append_right _ (List.mem_append_right _ (List.mem_append_right _ (List.mem_append_right _ (List.mem_append_right _ (List.mem_append_right _ (List.mem_append_right _ (List.mem_append_right _ (List.mem_append_right _ (List.mem_append_right _ (List.mem_append_right _ (List.mem_append_right _ (List.mem_append_right _ (List.mem_append_right _ (List.mem_append_right _ (List.mem_append_right _ (List.mem_append_right _ (List.mem_append_right _ (List.mem_append_right _ (List.mem_append_left _ (h)))))))))))))))))))))))))))
theorem inr_21 : ∀ w ∈ wsL_law_r21, w ∈ wsL_law := fun _ h => List.mem_append_left _ (List.mem_append_left _ (List.mem_append_left _ (List.mem_append_left _ (List.mem_append_left _ (List.mem_append_left _ (List.mem_append_left _ (List.mem_append_right _ (List.mem_append_right _ (List.mem_append_right _ (List.mem_append_right _ (List.mem_append_right _ (List.mem_append_right _ (List.mem_append_right _ (List.mem_append_right _ (List.mem_append_right _ (List.mem_append_right _ (List.mem_append_right _ (List.mem_append_right _ (List.mem_append_right _ (List.mem_append_right _ (List.mem_append_right _ (List.mem_append_right _ (List.mem_append_right _ (List.mem_append_right _ (List.mem_append_right _ (List.mem_append_right _ (List.mem_append_left _ (h))))))))))))))))))))))))))))
theorem inr_22 : ∀ w ∈ wsL_law_r22, w ∈ wsL_law := fun _ h => List.mem_append_left _ (List.mem_append_left _ (List.mem_append_left _ (List.mem_append_left _ (List.mem_append_left _ (List.mem_append_left _ (List.mem_append_left _ (List.mem_append_right _ (List.mem_append_right _ (List.mem_append_right _ (List.mem_append_right _ (List.mem_append_right _ (List.mem_append_right _ (List.mem_append_right _ (List.mem_append_right _ (List.mem_append_right _ (List.mem_append_right _ (List.mem_append_right _ (List.mem_append_right _ (List.mem_append_right _ (List.mem_append_right _ (List.mem_append_right _ (List.mem_append_right _ (List.mem_append_right _ (List.mem_append_right _ (List.mem_append_right _ (List.mem_append_right _ (List.mem_append_right _ (List.mem_append_left _ (h)))))))))))))))))))))))))))))
theorem inr_23 : ∀ w ∈ wsL_law_r23, w ∈ wsL_law := fun _ h => List.mem_append_left _ (List.mem_append_left _ (List.mem_append_left _ (List.mem_append_left _ (List.mem_append_left _ (List.mem_append_left _ (List.mem_append_left _ (List.mem_append_right _ (List.mem_append_right _ (List.mem_append_right _ (List.mem_append_right _ (List.mem_append_right _ (List.mem_append_right _ (List.mem_append_right _ (List.mem_append_right _ (List.mem_append_right _ (List.mem_append_right _ (List.mem_append_right _ (List.mem_append_right _ (List.mem_append_right _ (List.mem_append_right _ (List.mem_append_right _ (List.mem_append_right _ (List.mem_append_right _ (List.mem_append_right _ (List.mem_append_right _ (List.mem_append_right _ (List.mem_append_right _ (List.mem_append_right _ (List.mem_append_left _ (h))))))))))))))))))))))))))))))
theorem inr_24 : ∀ w ∈ wsL_law_r24, w ∈ wsL_law := fun _ h => List.mem_append_left _ (List.mem_append_left _ (List.mem_append_left _ (List.mem_append_left _ (List.mem_append_left _ (List.mem_append_left _ (List.mem_append_left _ (List.mem_append_right _ (List.mem_append_right _ (List.mem_append_right _ (List.mem_append_right _ (List.mem_append_right _ (List.mem_append_right _ (List.mem_append_right _ (List.mem_append_right _ (List.mem_append_right _ (List.mem_append_right _ (List.mem_append_right _ (List.mem_append_right _ (List.mem_append_right _ (List.mem_append_right _ (List.mem_append_right _ (List.mem_append_right _ (List.mem_append_right _ (List.mem_append_right _ (List.mem_append_right _ (List.mem_append_right _ (List.mem_append_right _ (List.mem_append_right _ (List.mem_append_right _ (List.mem_append_left _ (h)))))))))))))))))))))))))))))))
theorem inr_25 : ∀ w ∈ wsL_law_r25, w ∈ wsL_law := fun _ h => List.mem_append_left _ (List.mem_append_left _ (List.mem_append_left _ (List.mem_append_left _ (List.mem_append_left _ (List.mem_append_left _ (List.mem_append_left _ (List.mem_append_right _ (List.mem_append_right _ (List.mem_append_right _ (List.mem_append_right _ (List.mem_append_right _ (List.mem_append_right _ (List.mem_append_right _ (List.mem_append_right _ (List.mem_append_right _ (List.mem_append_right _ (List.mem_append_right _ (List.mem_append_right _ (List.mem_append_right _ (List.mem_append_right _ (List.mem_append_right _ (List.mem_append_right _ (List.mem_append_right _ (List.mem_append_right _ (List.mem_append_right _ (List.mem_append_right _ (List.mem_append_right _ (List.mem_append_right _ (List.mem_append_right _ (List.mem_append_right _ (List.mem_append_left _ (h))))))))))))))))))))))))))))))))
theorem inr_26 : ∀ w ∈ wsL_law_r26, w ∈ wsL_law := fun _ h => List.mem_append_left _ (List.mem_append_left _ (List.mem_append_left _ (List.mem_append_left _ (List.mem_append_left _ (List.mem_append_left _ (List.mem_append_left _ (List.mem_append_right _ (List.mem_append_right _ (List.mem_append_right _ (List.mem_append_right _ (List.mem_append_right _ (List.mem_append_right _ (List.mem_append_right _ (List.mem_append_right _ (List.mem_append_right _ (List.mem_append_right _ (List.mem_append_right _ (List.mem_append_right _ (List.mem_append_right _ (List.mem_append_right _ (List.mem_append_right _ (List.mem_append_right _ (List.mem_append_right _ (List.mem_append_right _ (List.mem_append_right _ (List.mem_append_right _ (List.mem_append_right _ (List.mem_append_right _ (List.mem_append_right _ (List.mem_append_right _ (List.mem_append_right _ (List.mem_append_left _ (h)))))))))))))))))))))))))))))))))
theorem inr_27 : ∀ w ∈ wsL_law_r27, w ∈ wsL_law := fun _ h => List.mem_append_left _ (List.mem_append_left _ (List.mem_append_left _ (List.mem_append_left _ (List.mem_append_left _ (List.mem_append_left _ (List.mem_append_left _ (List.mem_append_right _ (List.mem_append_right _ (List.mem_append_right _ (List.mem_append_right _ (List.mem_append_right _ (List.mem_append_right _ (List.mem_append_right _ (List.mem_append_right _ (List.mem_append_right _ (List.mem_append_right _ (List.mem_append_right _ (List.mem_append_right _ (List.mem_append_right _ (List.mem_append_right _ (List.mem_append_right _ (List.mem_append_right _ (List.mem_append_right _ (List.mem_append_right _ (List.mem_append_right _ (List.mem_append_right _ (List.mem_append_right _ (List.mem_append_right _ (List.mem_append_right _ (List.mem_append_right _ (List.mem_append_right _ (List.mem_append_right _ (List.mem_append_left _ (h))))))))))))))))))))))))))))))))))
theorem inr_28 : ∀ w ∈ wsL_law_r28, w ∈ wsL_law := fun _ h => List.mem_append_left _ (List.mem_append_left _ (List.mem_append_left _ (List.mem_append_left _ (List.mem_append_left _ (List.mem_append_left _ (List.mem_append_left _ (List.mem_append_right _ (List.mem_append_right _ (List.mem_append_right _ (List.mem_append_right _ (List.mem_append_right _ (List.mem_append_right _ (List.mem_append_right _ (List.mem_append_right _ (List.mem_append_right _ (List.mem_append_right _ (List.mem_append_right _ (List.mem_append_right _ (List.mem_append_right _ (List.mem_append_right _ (List.mem_append_right _ (List.mem_append_right _ (List.mem_append_right _ (List.mem_append_right _ (List.mem_append_right _ (List.mem_append_right _ (List.mem_append_right _ (List.mem_append_right _ (List.mem_append_right _ (List.mem_append_right _ (List.mem_append_right _ (List.mem_append_right _ (List.mem_append_right _ (List.mem_append_left _ (h)))))))))))))))))))))))))))))))))))
theorem inr_29 : ∀ w ∈ wsL_law_r29, w ∈ wsL_law := fun _ h => List.mem_append_left _ (List.mem_append_left _ (List.mem_append_left _ (List.mem_append_left _ (List.mem_append_left _ (List.mem_append_left _ (List.mem_append_left _ (List.mem_append_right _ (List.mem_append_right _ (List.mem_append_right _ (List.mem_append_right _ (List.mem_append_right _ (List.mem_append_right _ (List.mem_append_right _ (List.mem_append_right _ (List.mem_append_right _ (List.mem_append_right _ (List.mem_append_right _ (List.mem_append_right _ (List.mem_append_right _ (List.mem_append_right _ (List.mem_append_right _ (List.mem_append_right _ (List.mem_append_right _ (List.mem_append_right _ (List.mem_append_right _ (List.mem_append_right _ (List.mem_append_right _ (List.mem_append_right _ (List.mem_append_right _ (List.mem_append_right _ (List.mem_append_right _ (List.mem_append_right _ (List.mem_append_right _ (List.mem_append_right _ (List.mem_append_left _ (h))))))))))))))))))))))))))))))))))))
theorem inr_30 : ∀ w ∈ wsL_law_r30, w ∈ wsL_law := fun _ h => List.mem_append_left _ (List.mem_append_left _ (List.mem_append_left _ (List.mem_append_left _ (List.mem_append_left _ (List.mem_append_left _ (List.mem_append_left _ (List.mem_append_right _ (List.mem_append_right _ (List.mem_append_right _ (List.mem_append_right _ (List.mem_append_right _ (List.mem_append_right _ (List.mem_append_right _ (List.mem_append_right _ (List.mem_append_right _ (List.mem_append_right _ (List.mem_append_right _ (List.mem_append_right _ (List.mem_append_right _ (List.mem_append_right _ (List.mem_append_right _ (List.mem_append_right _ (List.mem_append_right _ (List.mem_append_right _ (List.mem_append_right _ (List.mem_append_right _ (List.mem_append_right _ (List.mem_append_right _ (List.mem_append_right _ (List.mem_append_right _ (List.mem_append_right _ (List.mem_append_right _ (List.mem_append_right _ (List.mem_append_right _ (List.mem_append_right _ (List.mem_append_left _ (h)))))))))))))))))))))))))))))))))))))
theorem inr_31 : ∀ w ∈ wsL_law_r31, w ∈ wsL_law := fun _ h => List.mem_append_left _ (List.mem_append_left _ (List.mem_append_left _ (List.mem_append_left _ (List.mem_append_left _ (List.mem_append_left _ (List.mem_append_left _ (List.mem_append_right _ (List.mem_append_right _ (List.mem_append_right _ (List.mem_append_right _ (List.mem_append_right _ (List.mem_append_right _ (List.mem_append_right _ (List.mem_append_right _ (List.mem_append_right _ (List.mem_append_right _ (List.mem_append_right _ (List.mem_append_right _ (List.mem_append_right _ (List.mem_append_right _ (List.mem_append_right _ (List.mem_append_right _ (List.mem_append_right _ (List.mem_append_right _ (List.mem_append_right _ (List.mem_append_right _ (List.mem_append_right _ (List.mem_append_right _ (List.mem_append_right _ (List.mem_append_right _ (List.mem_append_right _ (List.mem_append_right _ (List.mem_append_right _ (List.mem_append_right _ (List.mem_append_right _ (List.mem_append_right _ (List.mem_append_left _ (h))))))))))))))))))))))))))))))))))))))
theorem inr_32 : ∀ w ∈ wsL_law_r32, w ∈ wsL_law := fun _ h => List.mem_append_left _ (List.mem_append_left _ (List.mem_append_left _ (List.mem_append_left _ (List.mem_append_left _ (List.mem_append_left _ (List.mem_append_left _ (List.mem_append_right _ (List.mem_append_right _ (List.mem_append_right _ (List.mem_append_right _ (List.mem_append_right _ (List.mem_append_right _ (List.mem_append_right _ (List.mem_append_right _ (List.mem_append_right _ (List.mem_append_right _ (List.mem_append_right _ (List.mem_append_right _ (List.mem_append_right _ (List.mem_append_right _ (List.mem_append_right _ (List.mem_append_right _ (List.mem_append_right _ (List.mem_append_right _ (List.mem_append_right _ (List.mem_append_right _ (List.mem_append_right _ (List.mem_append_right _ (List.mem_append_right _ (List.mem_append_right _ (List.mem_append_right _ (List.mem_append_right _ (List.mem_append_right _ (List.mem_append_right _ (List.mem_append_right _ (List.mem_append_right _ (List.mem_append_right _ (List.mem_append_left _ (h)))))))))))))))))))))))))))))))))))))))
theorem inr_33 : ∀ w ∈ wsL_law_r33, w ∈ wsL_law := fun _ h => List.mem_append_left _ (List.mem_append_left _ (List.mem_append_left _ (List.mem_append_left _ (List.mem_append_left _ (List.mem_append_left _ (List.mem_append_left _ (List.mem_append_right _ (List.mem_append_right _ (List.mem_append_right _ (List.mem_append_right _ (List.mem_append_right _ (List.mem_append_right _ (List.mem_append_right _ (List.mem_append_right _ (List.mem_append_right _ (List.mem_append_right _ (List.mem_append_right _ (List.mem_append_right _ (List.mem_append_right _ (List.mem_append_right _ (List.mem_append_right _ (List.mem_append_right _ (List.mem_append_right _ (List.mem_append_right _ (List.mem_append_right _ (List.mem_append_right _ (List.mem_append_right _ (List.mem_append_right _ (List.mem_append_right _ (List.mem_append_right _ (List.mem_append_right _ (List.mem_append_right _ (List.mem_append_right _ (List.mem_append_right _ (List.mem_append_right _ (List.mem_append_right _ (List.mem_append_right _ (List.mem_append_right _ (List.mem_append_left _ (h))))))))))))))))))))))))))))))))))))))))
theorem inr_34 : ∀ w ∈ wsL_law_r34, w ∈ wsL_law := fun _ h => List.mem_append_left _ (List.mem_append_left _ (List.mem_append_left _ (List.mem_append_left _ (List.mem_append_left _ (List.mem_append_left _ (List.mem_append_left _ (List.mem_append_right _ (List.mem_append_right _ (List.mem_append_right _ (List.mem_append_right _ (List.mem_append_right _ (List.mem_append_right _ (List.mem_append_right _ (List.mem_append_right _ (List.mem_append_right _ (List.mem_append_right _ (List.mem_append_right _ (List.mem_append_right _ (List.mem_append_right _ (List.mem_append_right _ (List.mem_append_right _ (List.mem_append_right _ (List.mem_append_right _ (List.mem_append_right _ (List.mem_append_right _ (List.mem_append_right _ (List.mem_append_right _ (List.mem_append_right _ (List.mem_append_right _ (List.mem_append_right _ (List.mem_append_right _ (List.mem_append_right _ (List.mem_append_right _ (List.mem_append_right _ (List.mem_append_right _ (List.mem_append_right _ (List.mem_append_right _ (List.mem_append_right _ (List.mem_append_right _ (h))))))))))))))))))))))))))))))))))))))))
theorem mw_1_0 : Cond.classLink RL 7 RX4 ∈ wsL_law := inr_1 _ (List.mem_of_getElem? (i := 0) rfl)
theorem mw_1_1 : Cond.instantiable RX4 10 ∈ wsL_law := inr_1 _ (List.mem_of_getElem? (i := 1) rfl)
theorem mw_1_2 : Cond.initialized RX4 ∈ wsL_law := inr_1 _ (List.mem_of_getElem? (i := 2) rfl)
theorem mw_1_3 : Cond.classLink RL 10 RX5 ∈ wsL_law := inr_1 _ (List.mem_of_getElem? (i := 3) rfl)
theorem mw_1_4 : Cond.instantiable RX5 23 ∈ wsL_law := inr_1 _ (List.mem_of_getElem? (i := 4) rfl)
theorem mw_1_5 : Cond.initialized RX5 ∈ wsL_law := inr_1 _ (List.mem_of_getElem? (i := 5) rfl)
theorem mw_1_6 : Cond.methodLink RL 9 yX4_init ∈ wsL_law := inr_1 _ (List.mem_of_getElem? (i := 6) rfl)
theorem mw_1_7 : Cond.instanceMethod yX4_init ∈ wsL_law := inr_1 _ (List.mem_of_getElem? (i := 7) rfl)
theorem mw_1_8 : Cond.code yX4_init cX4_init 2 none ∈ wsL_law := inr_1 _ (List.mem_of_getElem? (i := 8) rfl)
theorem mw_1_9 : Cond.methodLink RX4 1 objectInit ∈ wsL_law := inr_1 _ (List.mem_of_getElem? (i := 9) rfl)
theorem mw_1_10 : Cond.instanceMethod objectInit ∈ wsL_law := inr_1 _ (List.mem_of_getElem? (i := 10) rfl)
theorem mw_1_11 : Cond.code objectInit ⟨#[0xb1]⟩ 1 none ∈ wsL_law := inr_1 _ (List.mem_of_getElem? (i := 11) rfl)
theorem mw_1_12 : Cond.classLink RX4 7 RX3 ∈ wsL_law := inr_1 _ (List.mem_of_getElem? (i := 12) rfl)
theorem mw_1_13 : Cond.instantiable RX3 1 ∈ wsL_law := inr_1 _ (List.mem_of_getElem? (i := 13) rfl)
theorem mw_1_14 : Cond.initialized RX3 ∈ wsL_law := inr_1 _ (List.mem_of_getElem? (i := 14) rfl)
theorem mw_1_15 : Cond.fieldLink RX4 10 "FieldCounts" "ring" "LFieldCounts$Polynomials;" ∈ wsL_law := inr_1 _ (List.mem_of_getElem? (i := 15) rfl)
theorem mw_1_16 : Cond.classLink RX4 16 RX2 ∈ wsL_law := inr_1 _ (List.mem_of_getElem? (i := 16) rfl)
theorem mw_1_17 : Cond.fieldLink RX4 18 "FieldCounts" "fields" "[LFieldCounts$Field;" ∈ wsL_law := inr_1 _ (List.mem_of_getElem? (i := 17) rfl)
theorem mw_1_18 : Cond.classLink RX4 22 RX1 ∈ wsL_law := inr_1 _ (List.mem_of_getElem? (i := 18) rfl)
theorem mw_1_19 : Cond.fieldLink RX4 24 "FieldCounts" "curves" "[LFieldCounts$Curve;" ∈ wsL_law := inr_1 _ (List.mem_of_getElem? (i := 19) rfl)
theorem mw_1_20 : Cond.arrayClass .int ∈ wsL_law := inr_1 _ (List.mem_of_getElem? (i := 20) rfl)
theorem mw_1_21 : Cond.fieldLink RX4 28 "FieldCounts" "tally" "[I" ∈ wsL_law := inr_1 _ (List.mem_of_getElem? (i := 21) rfl)
theorem mw_1_22 : Cond.arrayClass .long ∈ wsL_law := inr_1 _ (List.mem_of_getElem? (i := 22) rfl)
theorem mw_1_23 : Cond.fieldLink RX4 32 "FieldCounts" "powerSums" "[J" ∈ wsL_law := inr_1 _ (List.mem_of_getElem? (i := 23) rfl)
theorem mw_2_0 : Cond.fieldLink RX4 36 "FieldCounts" "knot" "I" ∈ wsL_law := inr_2 _ (List.mem_of_getElem? (i := 0) rfl)
theorem mw_2_1 : Cond.instantiable RX2 8 ∈ wsL_law := inr_2 _ (List.mem_of_getElem? (i := 1) rfl)
theorem mw_2_2 : Cond.initialized RX2 ∈ wsL_law := inr_2 _ (List.mem_of_getElem? (i := 2) rfl)
theorem mw_2_3 : Cond.instantiable RX1 10 ∈ wsL_law := inr_2 _ (List.mem_of_getElem? (i := 3) rfl)
theorem mw_2_4 : Cond.initialized RX1 ∈ wsL_law := inr_2 _ (List.mem_of_getElem? (i := 4) rfl)
theorem mw_2_5 : Cond.instanceMethod yX3_init ∈ wsL_law := inr_2 _ (List.mem_of_getElem? (i := 5) rfl)
theorem mw_2_6 : Cond.code yX3_init cX3_init 1 none ∈ wsL_law := inr_2 _ (List.mem_of_getElem? (i := 6) rfl)
theorem mw_2_7 : Cond.methodLink RX3 3 objectInit ∈ wsL_law := inr_2 _ (List.mem_of_getElem? (i := 7) rfl)
theorem mw_2_8 : Cond.fieldLink RX3 9 "FieldCounts$Polynomials" "p" "I" ∈ wsL_law := inr_2 _ (List.mem_of_getElem? (i := 8) rfl)
theorem mw_2_9 : Cond.methodLink RX4 40 yX2_init ∈ wsL_law := inr_2 _ (List.mem_of_getElem? (i := 9) rfl)
theorem mw_2_10 : Cond.instanceMethod yX2_init ∈ wsL_law := inr_2 _ (List.mem_of_getElem? (i := 10) rfl)
theorem mw_2_11 : Cond.code yX2_init cX2_init 3 none ∈ wsL_law := inr_2 _ (List.mem_of_getElem? (i := 11) rfl)
theorem mw_2_12 : Cond.methodLink RX2 3 objectInit ∈ wsL_law := inr_2 _ (List.mem_of_getElem? (i := 12) rfl)
theorem mw_2_13 : Cond.fieldLink RX2 9 "FieldCounts$Field" "powers" "[I" ∈ wsL_law := inr_2 _ (List.mem_of_getElem? (i := 13) rfl)
theorem mw_2_14 : Cond.fieldLink RX2 15 "FieldCounts$Field" "exponents" "[I" ∈ wsL_law := inr_2 _ (List.mem_of_getElem? (i := 14) rfl)
theorem mw_2_15 : Cond.fieldLink RX2 18 "FieldCounts$Field" "madeFor" "I" ∈ wsL_law := inr_2 _ (List.mem_of_getElem? (i := 15) rfl)
theorem mw_2_16 : Cond.fieldLink RX2 22 "FieldCounts$Field" "size" "I" ∈ wsL_law := inr_2 _ (List.mem_of_getElem? (i := 16) rfl)
theorem mw_2_17 : Cond.fieldLink RX2 25 "FieldCounts$Field" "units" "I" ∈ wsL_law := inr_2 _ (List.mem_of_getElem? (i := 17) rfl)
theorem mw_2_18 : Cond.fieldLink RX2 28 "FieldCounts$Field" "divisor" "I" ∈ wsL_law := inr_2 _ (List.mem_of_getElem? (i := 18) rfl)
theorem mw_2_19 : Cond.fieldLink RX2 31 "FieldCounts$Field" "ring" "LFieldCounts$Polynomials;" ∈ wsL_law := inr_2 _ (List.mem_of_getElem? (i := 19) rfl)
theorem mw_2_20 : Cond.fieldLink RX2 35 "FieldCounts$Field" "n" "I" ∈ wsL_law := inr_2 _ (List.mem_of_getElem? (i := 20) rfl)
theorem mw_2_21 : Cond.methodLink RX4 43 yX1_init ∈ wsL_law := inr_2 _ (List.mem_of_getElem? (i := 21) rfl)
theorem mw_2_22 : Cond.instanceMethod yX1_init ∈ wsL_law := inr_2 _ (List.mem_of_getElem? (i := 22) rfl)
theorem mw_2_23 : Cond.code yX1_init cX1_init 2 none ∈ wsL_law := inr_2 _ (List.mem_of_getElem? (i := 23) rfl)
theorem mw_3_0 : Cond.methodLink RX1 3 objectInit ∈ wsL_law := inr_3 _ (List.mem_of_getElem? (i := 0) rfl)
theorem mw_3_1 : Cond.fieldLink RX1 9 "FieldCounts$Curve" "share" "[I" ∈ wsL_law := inr_3 _ (List.mem_of_getElem? (i := 1) rfl)
theorem mw_3_2 : Cond.fieldLink RX1 15 "FieldCounts$Curve" "ring" "LFieldCounts$Polynomials;" ∈ wsL_law := inr_3 _ (List.mem_of_getElem? (i := 2) rfl)
theorem mw_3_3 : Cond.classLink RX1 19 RX0 ∈ wsL_law := inr_3 _ (List.mem_of_getElem? (i := 3) rfl)
theorem mw_3_4 : Cond.instantiable RX0 5 ∈ wsL_law := inr_3 _ (List.mem_of_getElem? (i := 4) rfl)
theorem mw_3_5 : Cond.initialized RX0 ∈ wsL_law := inr_3 _ (List.mem_of_getElem? (i := 5) rfl)
theorem mw_3_6 : Cond.fieldLink RX1 24 "FieldCounts$Curve" "list" "LFieldCounts$ClassList;" ∈ wsL_law := inr_3 _ (List.mem_of_getElem? (i := 6) rfl)
theorem mw_3_7 : Cond.methodLink RX1 21 yX0_init ∈ wsL_law := inr_3 _ (List.mem_of_getElem? (i := 7) rfl)
theorem mw_3_8 : Cond.instanceMethod yX0_init ∈ wsL_law := inr_3 _ (List.mem_of_getElem? (i := 8) rfl)
theorem mw_3_9 : Cond.code yX0_init cX0_init 2 none ∈ wsL_law := inr_3 _ (List.mem_of_getElem? (i := 9) rfl)
theorem mw_3_10 : Cond.methodLink RX0 3 objectInit ∈ wsL_law := inr_3 _ (List.mem_of_getElem? (i := 10) rfl)
theorem mw_3_11 : Cond.fieldLink RX0 9 "FieldCounts$ClassList" "keys" "[I" ∈ wsL_law := inr_3 _ (List.mem_of_getElem? (i := 11) rfl)
theorem mw_3_12 : Cond.fieldLink RX0 15 "FieldCounts$ClassList" "genus" "I" ∈ wsL_law := inr_3 _ (List.mem_of_getElem? (i := 12) rfl)
theorem mw_3_13 : Cond.fieldLink RX0 19 "FieldCounts$ClassList" "ring" "LFieldCounts$Polynomials;" ∈ wsL_law := inr_3 _ (List.mem_of_getElem? (i := 13) rfl)
theorem mw_3_14 : Cond.methodLink RX4 46 yX4_start ∈ wsL_law := inr_3 _ (List.mem_of_getElem? (i := 14) rfl)
theorem mw_3_15 : Cond.instanceMethod yX4_start ∈ wsL_law := inr_3 _ (List.mem_of_getElem? (i := 15) rfl)
theorem mw_3_16 : Cond.selects RX4 yX4_start yX4_start ∈ wsL_law := inr_3 _ (List.mem_of_getElem? (i := 16) rfl)
theorem mw_3_17 : Cond.code yX4_start cX4_start 3 none ∈ wsL_law := inr_3 _ (List.mem_of_getElem? (i := 17) rfl)
theorem mw_3_18 : Cond.fieldLink RX4 120 "FieldCounts" "curveCount" "I" ∈ wsL_law := inr_3 _ (List.mem_of_getElem? (i := 18) rfl)
theorem mw_3_19 : Cond.fieldLink RX4 53 "FieldCounts" "fieldCount" "I" ∈ wsL_law := inr_3 _ (List.mem_of_getElem? (i := 19) rfl)
theorem mw_3_20 : Cond.fieldLink RX4 123 "FieldCounts" "leastNonSquare" "I" ∈ wsL_law := inr_3 _ (List.mem_of_getElem? (i := 20) rfl)
theorem mw_3_21 : Cond.methodLink RX4 226 yX3_begin ∈ wsL_law := inr_3 _ (List.mem_of_getElem? (i := 21) rfl)
theorem mw_3_22 : Cond.instanceMethod yX3_begin ∈ wsL_law := inr_3 _ (List.mem_of_getElem? (i := 22) rfl)
theorem mw_3_23 : Cond.selects RX3 yX3_begin yX3_begin ∈ wsL_law := inr_3 _ (List.mem_of_getElem? (i := 23) rfl)
theorem mw_4_0 : Cond.code yX3_begin cX3_begin 2 none ∈ wsL_law := inr_4 _ (List.mem_of_getElem? (i := 0) rfl)
theorem mw_4_1 : Cond.methodLink RX3 15 Lib.Math.max.name ∈ wsL_law := inr_4 _ (List.mem_of_getElem? (i := 1) rfl)
theorem mw_4_2 : Cond.static Lib.Math.max.name ∈ wsL_law := inr_4 _ (List.mem_of_getElem? (i := 2) rfl)
theorem mw_4_3 : Cond.initialized "java/lang/Math" ∈ wsL_law := inr_4 _ (List.mem_of_getElem? (i := 3) rfl)
theorem mw_4_4 : Cond.code Lib.Math.max.name Lib.Math.max.code 2 (some .int) ∈ wsL_law := inr_4 _ (List.mem_of_getElem? (i := 4) rfl)
theorem mw_4_5 : Cond.methodLink RX4 177 yX3_place ∈ wsL_law := inr_4 _ (List.mem_of_getElem? (i := 5) rfl)
theorem mw_4_6 : Cond.instanceMethod yX3_place ∈ wsL_law := inr_4 _ (List.mem_of_getElem? (i := 6) rfl)
theorem mw_4_7 : Cond.selects RX3 yX3_place yX3_place ∈ wsL_law := inr_4 _ (List.mem_of_getElem? (i := 7) rfl)
theorem mw_4_8 : Cond.code yX3_place cX3_place 4 (some .int) ∈ wsL_law := inr_4 _ (List.mem_of_getElem? (i := 8) rfl)
theorem mw_4_9 : Cond.methodLink RX4 56 yX4_fieldAt ∈ wsL_law := inr_4 _ (List.mem_of_getElem? (i := 9) rfl)
theorem mw_4_10 : Cond.instanceMethod yX4_fieldAt ∈ wsL_law := inr_4 _ (List.mem_of_getElem? (i := 10) rfl)
theorem mw_4_11 : Cond.selects RX4 yX4_fieldAt yX4_fieldAt ∈ wsL_law := inr_4 _ (List.mem_of_getElem? (i := 11) rfl)
theorem mw_4_12 : Cond.code yX4_fieldAt cX4_fieldAt 3 (some (.object "FieldCounts$Field")) ∈ wsL_law := inr_4 _ (List.mem_of_getElem? (i := 12) rfl)
theorem mw_4_13 : Cond.methodLink RX4 228 yX2_fit ∈ wsL_law := inr_4 _ (List.mem_of_getElem? (i := 13) rfl)
theorem mw_4_14 : Cond.instanceMethod yX2_fit ∈ wsL_law := inr_4 _ (List.mem_of_getElem? (i := 14) rfl)
theorem mw_4_15 : Cond.selects RX2 yX2_fit yX2_fit ∈ wsL_law := inr_4 _ (List.mem_of_getElem? (i := 15) rfl)
theorem mw_4_16 : Cond.code yX2_fit cX2_fit 3 none ∈ wsL_law := inr_4 _ (List.mem_of_getElem? (i := 16) rfl)
theorem mw_4_17 : Cond.methodLink RX2 47 Lib.Math.max.name ∈ wsL_law := inr_4 _ (List.mem_of_getElem? (i := 17) rfl)
theorem mw_4_18 : Cond.methodLink RX2 43 yX3_place ∈ wsL_law := inr_4 _ (List.mem_of_getElem? (i := 18) rfl)
theorem mw_4_19 : Cond.methodLink RX2 53 yX3_isProduct ∈ wsL_law := inr_4 _ (List.mem_of_getElem? (i := 19) rfl)
theorem mw_4_20 : Cond.instanceMethod yX3_isProduct ∈ wsL_law := inr_4 _ (List.mem_of_getElem? (i := 20) rfl)
theorem mw_4_21 : Cond.selects RX3 yX3_isProduct yX3_isProduct ∈ wsL_law := inr_4 _ (List.mem_of_getElem? (i := 21) rfl)
theorem mw_4_22 : Cond.code yX3_isProduct cX3_isProduct 6 (some .boolean) ∈ wsL_law := inr_4 _ (List.mem_of_getElem? (i := 22) rfl)
theorem mw_4_23 : Cond.methodLink RX3 40 yX3_place ∈ wsL_law := inr_4 _ (List.mem_of_getElem? (i := 23) rfl)
theorem mw_5_0 : Cond.methodLink RX3 46 yX3_rest ∈ wsL_law := inr_5 _ (List.mem_of_getElem? (i := 0) rfl)
theorem mw_5_1 : Cond.instanceMethod yX3_rest ∈ wsL_law := inr_5 _ (List.mem_of_getElem? (i := 1) rfl)
theorem mw_5_2 : Cond.selects RX3 yX3_rest yX3_rest ∈ wsL_law := inr_5 _ (List.mem_of_getElem? (i := 2) rfl)
theorem mw_5_3 : Cond.code yX3_rest cX3_rest 8 (some .int) ∈ wsL_law := inr_5 _ (List.mem_of_getElem? (i := 3) rfl)
theorem mw_5_4 : Cond.methodLink RX3 27 yX3_degree ∈ wsL_law := inr_5 _ (List.mem_of_getElem? (i := 4) rfl)
theorem mw_5_5 : Cond.instanceMethod yX3_degree ∈ wsL_law := inr_5 _ (List.mem_of_getElem? (i := 5) rfl)
theorem mw_5_6 : Cond.selects RX3 yX3_degree yX3_degree ∈ wsL_law := inr_5 _ (List.mem_of_getElem? (i := 6) rfl)
theorem mw_5_7 : Cond.code yX3_degree cX3_degree 4 (some .int) ∈ wsL_law := inr_5 _ (List.mem_of_getElem? (i := 7) rfl)
theorem mw_5_8 : Cond.methodLink RX3 31 yX3_lead ∈ wsL_law := inr_5 _ (List.mem_of_getElem? (i := 8) rfl)
theorem mw_5_9 : Cond.instanceMethod yX3_lead ∈ wsL_law := inr_5 _ (List.mem_of_getElem? (i := 9) rfl)
theorem mw_5_10 : Cond.selects RX3 yX3_lead yX3_lead ∈ wsL_law := inr_5 _ (List.mem_of_getElem? (i := 10) rfl)
theorem mw_5_11 : Cond.code yX3_lead cX3_lead 4 (some .int) ∈ wsL_law := inr_5 _ (List.mem_of_getElem? (i := 11) rfl)
theorem mw_5_12 : Cond.methodLink RX3 34 yX3_inverse ∈ wsL_law := inr_5 _ (List.mem_of_getElem? (i := 12) rfl)
theorem mw_5_13 : Cond.instanceMethod yX3_inverse ∈ wsL_law := inr_5 _ (List.mem_of_getElem? (i := 13) rfl)
theorem mw_5_14 : Cond.selects RX3 yX3_inverse yX3_inverse ∈ wsL_law := inr_5 _ (List.mem_of_getElem? (i := 14) rfl)
theorem mw_5_15 : Cond.code yX3_inverse cX3_inverse 3 (some .int) ∈ wsL_law := inr_5 _ (List.mem_of_getElem? (i := 15) rfl)
theorem mw_5_16 : Cond.methodLink RX3 37 yX3_coefficient ∈ wsL_law := inr_5 _ (List.mem_of_getElem? (i := 16) rfl)
theorem mw_5_17 : Cond.instanceMethod yX3_coefficient ∈ wsL_law := inr_5 _ (List.mem_of_getElem? (i := 17) rfl)
theorem mw_5_18 : Cond.selects RX3 yX3_coefficient yX3_coefficient ∈ wsL_law := inr_5 _ (List.mem_of_getElem? (i := 18) rfl)
theorem mw_5_19 : Cond.code yX3_coefficient cX3_coefficient 5 (some .int) ∈ wsL_law := inr_5 _ (List.mem_of_getElem? (i := 19) rfl)
theorem mw_5_20 : Cond.methodLink RX3 21 yX3_scaled ∈ wsL_law := inr_5 _ (List.mem_of_getElem? (i := 20) rfl)
theorem mw_5_21 : Cond.instanceMethod yX3_scaled ∈ wsL_law := inr_5 _ (List.mem_of_getElem? (i := 21) rfl)
theorem mw_5_22 : Cond.selects RX3 yX3_scaled yX3_scaled ∈ wsL_law := inr_5 _ (List.mem_of_getElem? (i := 22) rfl)
theorem mw_5_23 : Cond.code yX3_scaled cX3_scaled 7 (some .int) ∈ wsL_law := inr_5 _ (List.mem_of_getElem? (i := 23) rfl)
theorem mw_6_0 : Cond.methodLink RX3 43 yX3_difference ∈ wsL_law := inr_6 _ (List.mem_of_getElem? (i := 0) rfl)
theorem mw_6_1 : Cond.instanceMethod yX3_difference ∈ wsL_law := inr_6 _ (List.mem_of_getElem? (i := 1) rfl)
theorem mw_6_2 : Cond.selects RX3 yX3_difference yX3_difference ∈ wsL_law := inr_6 _ (List.mem_of_getElem? (i := 2) rfl)
theorem mw_6_3 : Cond.code yX3_difference cX3_difference 8 (some .int) ∈ wsL_law := inr_6 _ (List.mem_of_getElem? (i := 3) rfl)
theorem mw_6_4 : Cond.methodLink RX2 57 yX2_walk ∈ wsL_law := inr_6 _ (List.mem_of_getElem? (i := 4) rfl)
theorem mw_6_5 : Cond.instanceMethod yX2_walk ∈ wsL_law := inr_6 _ (List.mem_of_getElem? (i := 5) rfl)
theorem mw_6_6 : Cond.selects RX2 yX2_walk yX2_walk ∈ wsL_law := inr_6 _ (List.mem_of_getElem? (i := 6) rfl)
theorem mw_6_7 : Cond.code yX2_walk cX2_walk 4 (some .int) ∈ wsL_law := inr_6 _ (List.mem_of_getElem? (i := 7) rfl)
theorem mw_6_8 : Cond.static yX4_put ∈ wsL_law := inr_6 _ (List.mem_of_getElem? (i := 8) rfl)
theorem mw_6_9 : Cond.code yX4_put cX4_put 3 none ∈ wsL_law := inr_6 _ (List.mem_of_getElem? (i := 9) rfl)
theorem mw_6_10 : Cond.methodLink RX2 68 yX3_product ∈ wsL_law := inr_6 _ (List.mem_of_getElem? (i := 10) rfl)
theorem mw_6_11 : Cond.instanceMethod yX3_product ∈ wsL_law := inr_6 _ (List.mem_of_getElem? (i := 11) rfl)
theorem mw_6_12 : Cond.selects RX3 yX3_product yX3_product ∈ wsL_law := inr_6 _ (List.mem_of_getElem? (i := 12) rfl)
theorem mw_6_13 : Cond.code yX3_product cX3_product 7 (some .int) ∈ wsL_law := inr_6 _ (List.mem_of_getElem? (i := 13) rfl)
theorem mw_6_14 : Cond.methodLink RX3 24 yX3_sum ∈ wsL_law := inr_6 _ (List.mem_of_getElem? (i := 14) rfl)
theorem mw_6_15 : Cond.instanceMethod yX3_sum ∈ wsL_law := inr_6 _ (List.mem_of_getElem? (i := 15) rfl)
theorem mw_6_16 : Cond.selects RX3 yX3_sum yX3_sum ∈ wsL_law := inr_6 _ (List.mem_of_getElem? (i := 16) rfl)
theorem mw_6_17 : Cond.code yX3_sum cX3_sum 8 (some .int) ∈ wsL_law := inr_6 _ (List.mem_of_getElem? (i := 17) rfl)
theorem mw_6_18 : Cond.methodLink RX2 71 yX3_rest ∈ wsL_law := inr_6 _ (List.mem_of_getElem? (i := 18) rfl)
theorem mw_6_19 : Cond.static yX4_at ∈ wsL_law := inr_6 _ (List.mem_of_getElem? (i := 19) rfl)
theorem mw_6_20 : Cond.code yX4_at cX4_at 2 (some .int) ∈ wsL_law := inr_6 _ (List.mem_of_getElem? (i := 20) rfl)
theorem mw_6_21 : Cond.methodLink RX4 84 yX2_squareSign ∈ wsL_law := inr_6 _ (List.mem_of_getElem? (i := 21) rfl)
theorem mw_6_22 : Cond.instanceMethod yX2_squareSign ∈ wsL_law := inr_6 _ (List.mem_of_getElem? (i := 22) rfl)
theorem mw_6_23 : Cond.selects RX2 yX2_squareSign yX2_squareSign ∈ wsL_law := inr_6 _ (List.mem_of_getElem? (i := 23) rfl)
theorem mw_7_0 : Cond.code yX2_squareSign cX2_squareSign 2 (some .int) ∈ wsL_law := inr_7 _ (List.mem_of_getElem? (i := 0) rfl)
theorem mw_7_1 : Cond.methodLink RL 12 yX5_init ∈ wsL_law := inr_7 _ (List.mem_of_getElem? (i := 1) rfl)
theorem mw_7_2 : Cond.instanceMethod yX5_init ∈ wsL_law := inr_7 _ (List.mem_of_getElem? (i := 2) rfl)
theorem mw_7_3 : Cond.code yX5_init cX5_init 1 none ∈ wsL_law := inr_7 _ (List.mem_of_getElem? (i := 3) rfl)
theorem mw_7_4 : Cond.methodLink RX5 1 objectInit ∈ wsL_law := inr_7 _ (List.mem_of_getElem? (i := 4) rfl)
theorem mw_7_5 : Cond.fieldLink RX5 7 "FieldCountsModel" "p" "I" ∈ wsL_law := inr_7 _ (List.mem_of_getElem? (i := 5) rfl)
theorem mw_7_6 : Cond.fieldLink RX5 13 "FieldCountsModel" "fields" "I" ∈ wsL_law := inr_7 _ (List.mem_of_getElem? (i := 6) rfl)
theorem mw_7_7 : Cond.fieldLink RX5 16 "FieldCountsModel" "sizes" "[I" ∈ wsL_law := inr_7 _ (List.mem_of_getElem? (i := 7) rfl)
theorem mw_7_8 : Cond.fieldLink RX5 20 "FieldCountsModel" "moduli" "[I" ∈ wsL_law := inr_7 _ (List.mem_of_getElem? (i := 8) rfl)
theorem mw_7_9 : Cond.fieldLink RX5 23 "FieldCountsModel" "kind" "[I" ∈ wsL_law := inr_7 _ (List.mem_of_getElem? (i := 9) rfl)
theorem mw_7_10 : Cond.fieldLink RX5 26 "FieldCountsModel" "told" "[I" ∈ wsL_law := inr_7 _ (List.mem_of_getElem? (i := 10) rfl)
theorem mw_7_11 : Cond.fieldLink RX5 29 "FieldCountsModel" "moved" "[I" ∈ wsL_law := inr_7 _ (List.mem_of_getElem? (i := 11) rfl)
theorem mw_7_12 : Cond.fieldLink RX5 32 "FieldCountsModel" "own" "[I" ∈ wsL_law := inr_7 _ (List.mem_of_getElem? (i := 12) rfl)
theorem mw_7_13 : Cond.fieldLink RX5 35 "FieldCountsModel" "knot" "I" ∈ wsL_law := inr_7 _ (List.mem_of_getElem? (i := 13) rfl)
theorem mw_7_14 : Cond.fieldLink RX5 38 "FieldCountsModel" "w" "[I" ∈ wsL_law := inr_7 _ (List.mem_of_getElem? (i := 14) rfl)
theorem mw_7_15 : Cond.fieldLink RX5 41 "FieldCountsModel" "signs" "[I" ∈ wsL_law := inr_7 _ (List.mem_of_getElem? (i := 15) rfl)
theorem mw_7_16 : Cond.fieldLink RX5 44 "FieldCountsModel" "listed" "I" ∈ wsL_law := inr_7 _ (List.mem_of_getElem? (i := 16) rfl)
theorem mw_7_17 : Cond.fieldLink RX5 47 "FieldCountsModel" "first" "[I" ∈ wsL_law := inr_7 _ (List.mem_of_getElem? (i := 17) rfl)
theorem mw_7_18 : Cond.fieldLink RX5 50 "FieldCountsModel" "second" "[I" ∈ wsL_law := inr_7 _ (List.mem_of_getElem? (i := 18) rfl)
theorem mw_7_19 : Cond.fieldLink RX5 53 "FieldCountsModel" "forms" "[I" ∈ wsL_law := inr_7 _ (List.mem_of_getElem? (i := 19) rfl)
theorem mw_7_20 : Cond.fieldLink RX5 56 "FieldCountsModel" "shares" "[I" ∈ wsL_law := inr_7 _ (List.mem_of_getElem? (i := 20) rfl)
theorem mw_7_21 : Cond.fieldLink RX5 59 "FieldCountsModel" "powers" "[J" ∈ wsL_law := inr_7 _ (List.mem_of_getElem? (i := 21) rfl)
theorem mw_7_22 : Cond.methodLink RX5 63 yX5_begins ∈ wsL_law := inr_7 _ (List.mem_of_getElem? (i := 22) rfl)
theorem mw_7_23 : Cond.instanceMethod yX5_begins ∈ wsL_law := inr_7 _ (List.mem_of_getElem? (i := 23) rfl)
theorem mw_8_0 : Cond.selects RX5 yX5_begins yX5_begins ∈ wsL_law := inr_8 _ (List.mem_of_getElem? (i := 0) rfl)
theorem mw_8_1 : Cond.code yX5_begins cX5_begins 3 none ∈ wsL_law := inr_8 _ (List.mem_of_getElem? (i := 1) rfl)
theorem mw_8_2 : Cond.fieldLink RX5 108 "FieldCountsModel" "curves" "I" ∈ wsL_law := inr_8 _ (List.mem_of_getElem? (i := 2) rfl)
theorem mw_8_3 : Cond.fieldLink RX5 111 "FieldCountsModel" "signsOf" "I" ∈ wsL_law := inr_8 _ (List.mem_of_getElem? (i := 3) rfl)
theorem mw_8_4 : Cond.fieldLink RX5 117 "FieldCountsModel" "d" "I" ∈ wsL_law := inr_8 _ (List.mem_of_getElem? (i := 4) rfl)
theorem mw_8_5 : Cond.methodLink RX5 104 yX5_least ∈ wsL_law := inr_8 _ (List.mem_of_getElem? (i := 5) rfl)
theorem mw_8_6 : Cond.instanceMethod yX5_least ∈ wsL_law := inr_8 _ (List.mem_of_getElem? (i := 6) rfl)
theorem mw_8_7 : Cond.selects RX5 yX5_least yX5_least ∈ wsL_law := inr_8 _ (List.mem_of_getElem? (i := 7) rfl)
theorem mw_8_8 : Cond.code yX5_least cX5_least 8 (some .int) ∈ wsL_law := inr_8 _ (List.mem_of_getElem? (i := 8) rfl)
theorem mw_8_9 : Cond.methodLink RX5 87 yX5_load ∈ wsL_law := inr_8 _ (List.mem_of_getElem? (i := 9) rfl)
theorem mw_8_10 : Cond.instanceMethod yX5_load ∈ wsL_law := inr_8 _ (List.mem_of_getElem? (i := 10) rfl)
theorem mw_8_11 : Cond.selects RX5 yX5_load yX5_load ∈ wsL_law := inr_8 _ (List.mem_of_getElem? (i := 11) rfl)
theorem mw_8_12 : Cond.code yX5_load cX5_load 5 none ∈ wsL_law := inr_8 _ (List.mem_of_getElem? (i := 12) rfl)
theorem mw_8_13 : Cond.methodLink RX5 90 yX5_divide ∈ wsL_law := inr_8 _ (List.mem_of_getElem? (i := 13) rfl)
theorem mw_8_14 : Cond.instanceMethod yX5_divide ∈ wsL_law := inr_8 _ (List.mem_of_getElem? (i := 14) rfl)
theorem mw_8_15 : Cond.selects RX5 yX5_divide yX5_divide ∈ wsL_law := inr_8 _ (List.mem_of_getElem? (i := 15) rfl)
theorem mw_8_16 : Cond.code yX5_divide cX5_divide 10 none ∈ wsL_law := inr_8 _ (List.mem_of_getElem? (i := 16) rfl)
theorem mw_8_17 : Cond.methodLink RX5 74 yX5_clear ∈ wsL_law := inr_8 _ (List.mem_of_getElem? (i := 17) rfl)
theorem mw_8_18 : Cond.instanceMethod yX5_clear ∈ wsL_law := inr_8 _ (List.mem_of_getElem? (i := 18) rfl)
theorem mw_8_19 : Cond.selects RX5 yX5_clear yX5_clear ∈ wsL_law := inr_8 _ (List.mem_of_getElem? (i := 19) rfl)
theorem mw_8_20 : Cond.code yX5_clear cX5_clear 3 none ∈ wsL_law := inr_8 _ (List.mem_of_getElem? (i := 20) rfl)
theorem mw_8_21 : Cond.methodLink RX5 80 yX5_copy ∈ wsL_law := inr_8 _ (List.mem_of_getElem? (i := 21) rfl)
theorem mw_8_22 : Cond.instanceMethod yX5_copy ∈ wsL_law := inr_8 _ (List.mem_of_getElem? (i := 22) rfl)
theorem mw_8_23 : Cond.selects RX5 yX5_copy yX5_copy ∈ wsL_law := inr_8 _ (List.mem_of_getElem? (i := 23) rfl)
theorem mw_9_0 : Cond.code yX5_copy cX5_copy 4 none ∈ wsL_law := inr_9 _ (List.mem_of_getElem? (i := 0) rfl)
theorem mw_9_1 : Cond.methodLink RX5 77 yX5_degree ∈ wsL_law := inr_9 _ (List.mem_of_getElem? (i := 1) rfl)
theorem mw_9_2 : Cond.instanceMethod yX5_degree ∈ wsL_law := inr_9 _ (List.mem_of_getElem? (i := 2) rfl)
theorem mw_9_3 : Cond.selects RX5 yX5_degree yX5_degree ∈ wsL_law := inr_9 _ (List.mem_of_getElem? (i := 3) rfl)
theorem mw_9_4 : Cond.code yX5_degree cX5_degree 3 (some .int) ∈ wsL_law := inr_9 _ (List.mem_of_getElem? (i := 4) rfl)
theorem mw_9_5 : Cond.methodLink RX5 84 yX5_inverse ∈ wsL_law := inr_9 _ (List.mem_of_getElem? (i := 5) rfl)
theorem mw_9_6 : Cond.instanceMethod yX5_inverse ∈ wsL_law := inr_9 _ (List.mem_of_getElem? (i := 6) rfl)
theorem mw_9_7 : Cond.selects RX5 yX5_inverse yX5_inverse ∈ wsL_law := inr_9 _ (List.mem_of_getElem? (i := 7) rfl)
theorem mw_9_8 : Cond.code yX5_inverse cX5_inverse 3 (some .int) ∈ wsL_law := inr_9 _ (List.mem_of_getElem? (i := 8) rfl)
theorem mw_9_9 : Cond.methodLink RX5 70 yX5_left ∈ wsL_law := inr_9 _ (List.mem_of_getElem? (i := 9) rfl)
theorem mw_9_10 : Cond.instanceMethod yX5_left ∈ wsL_law := inr_9 _ (List.mem_of_getElem? (i := 10) rfl)
theorem mw_9_11 : Cond.selects RX5 yX5_left yX5_left ∈ wsL_law := inr_9 _ (List.mem_of_getElem? (i := 11) rfl)
theorem mw_9_12 : Cond.code yX5_left cX5_left 3 (some .int) ∈ wsL_law := inr_9 _ (List.mem_of_getElem? (i := 12) rfl)
theorem mw_9_13 : Cond.methodLink RX5 114 yX5_needSigns ∈ wsL_law := inr_9 _ (List.mem_of_getElem? (i := 13) rfl)
theorem mw_9_14 : Cond.instanceMethod yX5_needSigns ∈ wsL_law := inr_9 _ (List.mem_of_getElem? (i := 14) rfl)
theorem mw_9_15 : Cond.selects RX5 yX5_needSigns yX5_needSigns ∈ wsL_law := inr_9 _ (List.mem_of_getElem? (i := 15) rfl)
theorem mw_9_16 : Cond.code yX5_needSigns cX5_needSigns 3 none ∈ wsL_law := inr_9 _ (List.mem_of_getElem? (i := 16) rfl)
theorem mw_9_17 : Cond.methodLink RX5 123 yX5_product ∈ wsL_law := inr_9 _ (List.mem_of_getElem? (i := 17) rfl)
theorem mw_9_18 : Cond.instanceMethod yX5_product ∈ wsL_law := inr_9 _ (List.mem_of_getElem? (i := 18) rfl)
theorem mw_9_19 : Cond.selects RX5 yX5_product yX5_product ∈ wsL_law := inr_9 _ (List.mem_of_getElem? (i := 19) rfl)
theorem mw_9_20 : Cond.code yX5_product cX5_product 4 (some .int) ∈ wsL_law := inr_9 _ (List.mem_of_getElem? (i := 20) rfl)
theorem mw_9_21 : Cond.methodLink RX5 94 yX5_multiply ∈ wsL_law := inr_9 _ (List.mem_of_getElem? (i := 21) rfl)
theorem mw_9_22 : Cond.instanceMethod yX5_multiply ∈ wsL_law := inr_9 _ (List.mem_of_getElem? (i := 22) rfl)
theorem mw_9_23 : Cond.selects RX5 yX5_multiply yX5_multiply ∈ wsL_law := inr_9 _ (List.mem_of_getElem? (i := 23) rfl)
theorem mw_10_0 : Cond.code yX5_multiply cX5_multiply 8 none ∈ wsL_law := inr_10 _ (List.mem_of_getElem? (i := 0) rfl)
theorem mw_10_1 : Cond.methodLink RX5 120 yX5_number ∈ wsL_law := inr_10 _ (List.mem_of_getElem? (i := 1) rfl)
theorem mw_10_2 : Cond.instanceMethod yX5_number ∈ wsL_law := inr_10 _ (List.mem_of_getElem? (i := 2) rfl)
theorem mw_10_3 : Cond.selects RX5 yX5_number yX5_number ∈ wsL_law := inr_10 _ (List.mem_of_getElem? (i := 3) rfl)
theorem mw_10_4 : Cond.code yX5_number cX5_number 4 (some .int) ∈ wsL_law := inr_10 _ (List.mem_of_getElem? (i := 4) rfl)
theorem mw_10_5 : Cond.methodLink RL 13 yX4_prime ∈ wsL_law := inr_10 _ (List.mem_of_getElem? (i := 5) rfl)
theorem mw_10_6 : Cond.instanceMethod yX4_prime ∈ wsL_law := inr_10 _ (List.mem_of_getElem? (i := 6) rfl)
theorem mw_10_7 : Cond.selects RX4 yX4_prime yX4_prime ∈ wsL_law := inr_10 _ (List.mem_of_getElem? (i := 7) rfl)
theorem mw_10_8 : Cond.code yX4_prime cX4_prime 6 (some .int) ∈ wsL_law := inr_10 _ (List.mem_of_getElem? (i := 8) rfl)
theorem mw_10_9 : Cond.fieldLink RX4 50 "FieldCounts" "PRIMES" "[I" ∈ wsL_law := inr_10 _ (List.mem_of_getElem? (i := 9) rfl)
theorem mw_10_10 : Cond.methodLink RL 17 yX5_prime ∈ wsL_law := inr_10 _ (List.mem_of_getElem? (i := 10) rfl)
theorem mw_10_11 : Cond.instanceMethod yX5_prime ∈ wsL_law := inr_10 _ (List.mem_of_getElem? (i := 11) rfl)
theorem mw_10_12 : Cond.selects RX5 yX5_prime yX5_prime ∈ wsL_law := inr_10 _ (List.mem_of_getElem? (i := 12) rfl)
theorem mw_10_13 : Cond.code yX5_prime cX5_prime 2 (some .int) ∈ wsL_law := inr_10 _ (List.mem_of_getElem? (i := 13) rfl)
theorem mw_10_14 : Cond.fieldLink RX5 67 "FieldCountsModel" "thrown" "I" ∈ wsL_law := inr_10 _ (List.mem_of_getElem? (i := 14) rfl)
theorem mw_10_15 : Cond.methodLink RL 18 yX4_size ∈ wsL_law := inr_10 _ (List.mem_of_getElem? (i := 15) rfl)
theorem mw_10_16 : Cond.instanceMethod yX4_size ∈ wsL_law := inr_10 _ (List.mem_of_getElem? (i := 16) rfl)
theorem mw_10_17 : Cond.selects RX4 yX4_size yX4_size ∈ wsL_law := inr_10 _ (List.mem_of_getElem? (i := 17) rfl)
theorem mw_10_18 : Cond.code yX4_size cX4_size 3 (some .int) ∈ wsL_law := inr_10 _ (List.mem_of_getElem? (i := 18) rfl)
theorem mw_10_19 : Cond.methodLink RL 21 yX5_size ∈ wsL_law := inr_10 _ (List.mem_of_getElem? (i := 19) rfl)
theorem mw_10_20 : Cond.instanceMethod yX5_size ∈ wsL_law := inr_10 _ (List.mem_of_getElem? (i := 20) rfl)
theorem mw_10_21 : Cond.selects RX5 yX5_size yX5_size ∈ wsL_law := inr_10 _ (List.mem_of_getElem? (i := 21) rfl)
theorem mw_10_22 : Cond.code yX5_size cX5_size 2 (some .int) ∈ wsL_law := inr_10 _ (List.mem_of_getElem? (i := 22) rfl)
theorem mw_10_23 : Cond.methodLink RX5 131 yX5_isField ∈ wsL_law := inr_10 _ (List.mem_of_getElem? (i := 23) rfl)
theorem mw_11_0 : Cond.instanceMethod yX5_isField ∈ wsL_law := inr_11 _ (List.mem_of_getElem? (i := 0) rfl)
theorem mw_11_1 : Cond.selects RX5 yX5_isField yX5_isField ∈ wsL_law := inr_11 _ (List.mem_of_getElem? (i := 1) rfl)
theorem mw_11_2 : Cond.code yX5_isField cX5_isField 2 (some .boolean) ∈ wsL_law := inr_11 _ (List.mem_of_getElem? (i := 2) rfl)
theorem mw_11_3 : Cond.methodLink RX5 127 yX5_in ∈ wsL_law := inr_11 _ (List.mem_of_getElem? (i := 3) rfl)
theorem mw_11_4 : Cond.static yX5_in ∈ wsL_law := inr_11 _ (List.mem_of_getElem? (i := 4) rfl)
theorem mw_11_5 : Cond.code yX5_in cX5_in 6 (some .boolean) ∈ wsL_law := inr_11 _ (List.mem_of_getElem? (i := 5) rfl)
theorem mw_11_6 : Cond.methodLink RL 22 yX4_modulus ∈ wsL_law := inr_11 _ (List.mem_of_getElem? (i := 6) rfl)
theorem mw_11_7 : Cond.instanceMethod yX4_modulus ∈ wsL_law := inr_11 _ (List.mem_of_getElem? (i := 7) rfl)
theorem mw_11_8 : Cond.selects RX4 yX4_modulus yX4_modulus ∈ wsL_law := inr_11 _ (List.mem_of_getElem? (i := 8) rfl)
theorem mw_11_9 : Cond.code yX4_modulus cX4_modulus 3 (some .int) ∈ wsL_law := inr_11 _ (List.mem_of_getElem? (i := 9) rfl)
theorem mw_11_10 : Cond.methodLink RL 25 yX5_modulus ∈ wsL_law := inr_11 _ (List.mem_of_getElem? (i := 10) rfl)
theorem mw_11_11 : Cond.instanceMethod yX5_modulus ∈ wsL_law := inr_11 _ (List.mem_of_getElem? (i := 11) rfl)
theorem mw_11_12 : Cond.selects RX5 yX5_modulus yX5_modulus ∈ wsL_law := inr_11 _ (List.mem_of_getElem? (i := 12) rfl)
theorem mw_11_13 : Cond.code yX5_modulus cX5_modulus 2 (some .int) ∈ wsL_law := inr_11 _ (List.mem_of_getElem? (i := 13) rfl)
theorem mw_11_14 : Cond.methodLink RL 26 yX4_plus ∈ wsL_law := inr_11 _ (List.mem_of_getElem? (i := 14) rfl)
theorem mw_11_15 : Cond.instanceMethod yX4_plus ∈ wsL_law := inr_11 _ (List.mem_of_getElem? (i := 15) rfl)
theorem mw_11_16 : Cond.selects RX4 yX4_plus yX4_plus ∈ wsL_law := inr_11 _ (List.mem_of_getElem? (i := 16) rfl)
theorem mw_11_17 : Cond.code yX4_plus cX4_plus 5 (some .int) ∈ wsL_law := inr_11 _ (List.mem_of_getElem? (i := 17) rfl)
theorem mw_11_18 : Cond.methodLink RX4 66 yX2_has ∈ wsL_law := inr_11 _ (List.mem_of_getElem? (i := 18) rfl)
theorem mw_11_19 : Cond.instanceMethod yX2_has ∈ wsL_law := inr_11 _ (List.mem_of_getElem? (i := 19) rfl)
theorem mw_11_20 : Cond.selects RX2 yX2_has yX2_has ∈ wsL_law := inr_11 _ (List.mem_of_getElem? (i := 20) rfl)
theorem mw_11_21 : Cond.code yX2_has cX2_has 2 (some .boolean) ∈ wsL_law := inr_11 _ (List.mem_of_getElem? (i := 21) rfl)
theorem mw_11_22 : Cond.methodLink RX4 70 yX3_sum ∈ wsL_law := inr_11 _ (List.mem_of_getElem? (i := 22) rfl)
theorem mw_11_23 : Cond.methodLink RL 30 yX5_plus ∈ wsL_law := inr_11 _ (List.mem_of_getElem? (i := 23) rfl)
theorem mw_12_0 : Cond.instanceMethod yX5_plus ∈ wsL_law := inr_12 _ (List.mem_of_getElem? (i := 0) rfl)
theorem mw_12_1 : Cond.selects RX5 yX5_plus yX5_plus ∈ wsL_law := inr_12 _ (List.mem_of_getElem? (i := 1) rfl)
theorem mw_12_2 : Cond.code yX5_plus cX5_plus 4 (some .int) ∈ wsL_law := inr_12 _ (List.mem_of_getElem? (i := 2) rfl)
theorem mw_12_3 : Cond.methodLink RX5 135 yX5_isNumber ∈ wsL_law := inr_12 _ (List.mem_of_getElem? (i := 3) rfl)
theorem mw_12_4 : Cond.instanceMethod yX5_isNumber ∈ wsL_law := inr_12 _ (List.mem_of_getElem? (i := 4) rfl)
theorem mw_12_5 : Cond.selects RX5 yX5_isNumber yX5_isNumber ∈ wsL_law := inr_12 _ (List.mem_of_getElem? (i := 5) rfl)
theorem mw_12_6 : Cond.code yX5_isNumber cX5_isNumber 3 (some .boolean) ∈ wsL_law := inr_12 _ (List.mem_of_getElem? (i := 6) rfl)
theorem mw_12_7 : Cond.methodLink RX5 139 yX5_sum ∈ wsL_law := inr_12 _ (List.mem_of_getElem? (i := 7) rfl)
theorem mw_12_8 : Cond.instanceMethod yX5_sum ∈ wsL_law := inr_12 _ (List.mem_of_getElem? (i := 8) rfl)
theorem mw_12_9 : Cond.selects RX5 yX5_sum yX5_sum ∈ wsL_law := inr_12 _ (List.mem_of_getElem? (i := 9) rfl)
theorem mw_12_10 : Cond.code yX5_sum cX5_sum 7 (some .int) ∈ wsL_law := inr_12 _ (List.mem_of_getElem? (i := 10) rfl)
theorem mw_12_11 : Cond.methodLink RL 31 yX4_times ∈ wsL_law := inr_12 _ (List.mem_of_getElem? (i := 11) rfl)
theorem mw_12_12 : Cond.instanceMethod yX4_times ∈ wsL_law := inr_12 _ (List.mem_of_getElem? (i := 12) rfl)
theorem mw_12_13 : Cond.selects RX4 yX4_times yX4_times ∈ wsL_law := inr_12 _ (List.mem_of_getElem? (i := 13) rfl)
theorem mw_12_14 : Cond.code yX4_times cX4_times 5 (some .int) ∈ wsL_law := inr_12 _ (List.mem_of_getElem? (i := 14) rfl)
theorem mw_12_15 : Cond.methodLink RX4 74 yX2_product ∈ wsL_law := inr_12 _ (List.mem_of_getElem? (i := 15) rfl)
theorem mw_12_16 : Cond.instanceMethod yX2_product ∈ wsL_law := inr_12 _ (List.mem_of_getElem? (i := 16) rfl)
theorem mw_12_17 : Cond.selects RX2 yX2_product yX2_product ∈ wsL_law := inr_12 _ (List.mem_of_getElem? (i := 17) rfl)
theorem mw_12_18 : Cond.code yX2_product cX2_product 3 (some .int) ∈ wsL_law := inr_12 _ (List.mem_of_getElem? (i := 18) rfl)
theorem mw_12_19 : Cond.methodLink RL 34 yX5_times ∈ wsL_law := inr_12 _ (List.mem_of_getElem? (i := 19) rfl)
theorem mw_12_20 : Cond.instanceMethod yX5_times ∈ wsL_law := inr_12 _ (List.mem_of_getElem? (i := 20) rfl)
theorem mw_12_21 : Cond.selects RX5 yX5_times yX5_times ∈ wsL_law := inr_12 _ (List.mem_of_getElem? (i := 21) rfl)
theorem mw_12_22 : Cond.code yX5_times cX5_times 4 (some .int) ∈ wsL_law := inr_12 _ (List.mem_of_getElem? (i := 22) rfl)
theorem mw_12_23 : Cond.methodLink RL 35 yX4_over ∈ wsL_law := inr_12 _ (List.mem_of_getElem? (i := 23) rfl)
theorem mw_13_0 : Cond.instanceMethod yX4_over ∈ wsL_law := inr_13 _ (List.mem_of_getElem? (i := 0) rfl)
theorem mw_13_1 : Cond.selects RX4 yX4_over yX4_over ∈ wsL_law := inr_13 _ (List.mem_of_getElem? (i := 1) rfl)
theorem mw_13_2 : Cond.code yX4_over cX4_over 4 (some .int) ∈ wsL_law := inr_13 _ (List.mem_of_getElem? (i := 2) rfl)
theorem mw_13_3 : Cond.methodLink RX4 80 yX2_power ∈ wsL_law := inr_13 _ (List.mem_of_getElem? (i := 3) rfl)
theorem mw_13_4 : Cond.instanceMethod yX2_power ∈ wsL_law := inr_13 _ (List.mem_of_getElem? (i := 4) rfl)
theorem mw_13_5 : Cond.selects RX2 yX2_power yX2_power ∈ wsL_law := inr_13 _ (List.mem_of_getElem? (i := 5) rfl)
theorem mw_13_6 : Cond.code yX2_power cX2_power 3 (some .int) ∈ wsL_law := inr_13 _ (List.mem_of_getElem? (i := 6) rfl)
theorem mw_13_7 : Cond.methodLink RL 39 yX5_over ∈ wsL_law := inr_13 _ (List.mem_of_getElem? (i := 7) rfl)
theorem mw_13_8 : Cond.instanceMethod yX5_over ∈ wsL_law := inr_13 _ (List.mem_of_getElem? (i := 8) rfl)
theorem mw_13_9 : Cond.selects RX5 yX5_over yX5_over ∈ wsL_law := inr_13 _ (List.mem_of_getElem? (i := 9) rfl)
theorem mw_13_10 : Cond.code yX5_over cX5_over 4 (some .int) ∈ wsL_law := inr_13 _ (List.mem_of_getElem? (i := 10) rfl)
theorem mw_13_11 : Cond.methodLink RL 40 yX4_raise ∈ wsL_law := inr_13 _ (List.mem_of_getElem? (i := 11) rfl)
theorem mw_13_12 : Cond.instanceMethod yX4_raise ∈ wsL_law := inr_13 _ (List.mem_of_getElem? (i := 12) rfl)
theorem mw_13_13 : Cond.selects RX4 yX4_raise yX4_raise ∈ wsL_law := inr_13 _ (List.mem_of_getElem? (i := 13) rfl)
theorem mw_13_14 : Cond.code yX4_raise cX4_raise 5 (some .int) ∈ wsL_law := inr_13 _ (List.mem_of_getElem? (i := 14) rfl)
theorem mw_13_15 : Cond.methodLink RL 43 yX5_raise ∈ wsL_law := inr_13 _ (List.mem_of_getElem? (i := 15) rfl)
theorem mw_13_16 : Cond.instanceMethod yX5_raise ∈ wsL_law := inr_13 _ (List.mem_of_getElem? (i := 16) rfl)
theorem mw_13_17 : Cond.selects RX5 yX5_raise yX5_raise ∈ wsL_law := inr_13 _ (List.mem_of_getElem? (i := 17) rfl)
theorem mw_13_18 : Cond.code yX5_raise cX5_raise 4 (some .int) ∈ wsL_law := inr_13 _ (List.mem_of_getElem? (i := 18) rfl)
theorem mw_13_19 : Cond.methodLink RX5 142 yX5_power ∈ wsL_law := inr_13 _ (List.mem_of_getElem? (i := 19) rfl)
theorem mw_13_20 : Cond.instanceMethod yX5_power ∈ wsL_law := inr_13 _ (List.mem_of_getElem? (i := 20) rfl)
theorem mw_13_21 : Cond.selects RX5 yX5_power yX5_power ∈ wsL_law := inr_13 _ (List.mem_of_getElem? (i := 21) rfl)
theorem mw_13_22 : Cond.code yX5_power cX5_power 7 (some .int) ∈ wsL_law := inr_13 _ (List.mem_of_getElem? (i := 22) rfl)
theorem mw_13_23 : Cond.methodLink RL 44 yX4_sign ∈ wsL_law := inr_13 _ (List.mem_of_getElem? (i := 23) rfl)
theorem mw_14_0 : Cond.instanceMethod yX4_sign ∈ wsL_law := inr_14 _ (List.mem_of_getElem? (i := 0) rfl)
theorem mw_14_1 : Cond.selects RX4 yX4_sign yX4_sign ∈ wsL_law := inr_14 _ (List.mem_of_getElem? (i := 1) rfl)
theorem mw_14_2 : Cond.code yX4_sign cX4_sign 4 (some .int) ∈ wsL_law := inr_14 _ (List.mem_of_getElem? (i := 2) rfl)
theorem mw_14_3 : Cond.constant RX4 83 (-1000000000) ∈ wsL_law := inr_14 _ (List.mem_of_getElem? (i := 3) rfl)
theorem mw_14_4 : Cond.methodLink RL 47 yX5_sign ∈ wsL_law := inr_14 _ (List.mem_of_getElem? (i := 4) rfl)
theorem mw_14_5 : Cond.instanceMethod yX5_sign ∈ wsL_law := inr_14 _ (List.mem_of_getElem? (i := 5) rfl)
theorem mw_14_6 : Cond.selects RX5 yX5_sign yX5_sign ∈ wsL_law := inr_14 _ (List.mem_of_getElem? (i := 6) rfl)
theorem mw_14_7 : Cond.code yX5_sign cX5_sign 3 (some .int) ∈ wsL_law := inr_14 _ (List.mem_of_getElem? (i := 7) rfl)
theorem mw_14_8 : Cond.constant RX5 145 (-1000000000) ∈ wsL_law := inr_14 _ (List.mem_of_getElem? (i := 8) rfl)
theorem mw_14_9 : Cond.methodLink RL 48 yX4_turns ∈ wsL_law := inr_14 _ (List.mem_of_getElem? (i := 9) rfl)
theorem mw_14_10 : Cond.instanceMethod yX4_turns ∈ wsL_law := inr_14 _ (List.mem_of_getElem? (i := 10) rfl)
theorem mw_14_11 : Cond.selects RX4 yX4_turns yX4_turns ∈ wsL_law := inr_14 _ (List.mem_of_getElem? (i := 11) rfl)
theorem mw_14_12 : Cond.code yX4_turns cX4_turns 4 (some .int) ∈ wsL_law := inr_14 _ (List.mem_of_getElem? (i := 12) rfl)
theorem mw_14_13 : Cond.methodLink RX4 88 yX2_turnsOf ∈ wsL_law := inr_14 _ (List.mem_of_getElem? (i := 13) rfl)
theorem mw_14_14 : Cond.instanceMethod yX2_turnsOf ∈ wsL_law := inr_14 _ (List.mem_of_getElem? (i := 14) rfl)
theorem mw_14_15 : Cond.selects RX2 yX2_turnsOf yX2_turnsOf ∈ wsL_law := inr_14 _ (List.mem_of_getElem? (i := 15) rfl)
theorem mw_14_16 : Cond.code yX2_turnsOf cX2_turnsOf 3 (some .int) ∈ wsL_law := inr_14 _ (List.mem_of_getElem? (i := 16) rfl)
theorem mw_14_17 : Cond.methodLink RL 51 yX5_turns ∈ wsL_law := inr_14 _ (List.mem_of_getElem? (i := 17) rfl)
theorem mw_14_18 : Cond.instanceMethod yX5_turns ∈ wsL_law := inr_14 _ (List.mem_of_getElem? (i := 18) rfl)
theorem mw_14_19 : Cond.selects RX5 yX5_turns yX5_turns ∈ wsL_law := inr_14 _ (List.mem_of_getElem? (i := 19) rfl)
theorem mw_14_20 : Cond.code yX5_turns cX5_turns 5 (some .int) ∈ wsL_law := inr_14 _ (List.mem_of_getElem? (i := 20) rfl)
theorem mw_14_21 : Cond.methodLink RL 52 yX4_trace ∈ wsL_law := inr_14 _ (List.mem_of_getElem? (i := 21) rfl)
theorem mw_14_22 : Cond.instanceMethod yX4_trace ∈ wsL_law := inr_14 _ (List.mem_of_getElem? (i := 22) rfl)
theorem mw_14_23 : Cond.selects RX4 yX4_trace yX4_trace ∈ wsL_law := inr_14 _ (List.mem_of_getElem? (i := 23) rfl)
theorem mw_15_0 : Cond.code yX4_trace cX4_trace 7 (some .int) ∈ wsL_law := inr_15 _ (List.mem_of_getElem? (i := 0) rfl)
theorem mw_15_1 : Cond.methodLink RL 55 yX5_trace ∈ wsL_law := inr_15 _ (List.mem_of_getElem? (i := 1) rfl)
theorem mw_15_2 : Cond.instanceMethod yX5_trace ∈ wsL_law := inr_15 _ (List.mem_of_getElem? (i := 2) rfl)
theorem mw_15_3 : Cond.selects RX5 yX5_trace yX5_trace ∈ wsL_law := inr_15 _ (List.mem_of_getElem? (i := 3) rfl)
theorem mw_15_4 : Cond.code yX5_trace cX5_trace 6 (some .int) ∈ wsL_law := inr_15 _ (List.mem_of_getElem? (i := 4) rfl)
theorem mw_15_5 : Cond.methodLink RL 56 yX4_forms ∈ wsL_law := inr_15 _ (List.mem_of_getElem? (i := 5) rfl)
theorem mw_15_6 : Cond.instanceMethod yX4_forms ∈ wsL_law := inr_15 _ (List.mem_of_getElem? (i := 6) rfl)
theorem mw_15_7 : Cond.selects RX4 yX4_forms yX4_forms ∈ wsL_law := inr_15 _ (List.mem_of_getElem? (i := 7) rfl)
theorem mw_15_8 : Cond.code yX4_forms cX4_forms 8 (some .int) ∈ wsL_law := inr_15 _ (List.mem_of_getElem? (i := 8) rfl)
theorem mw_15_9 : Cond.methodLink RX4 94 yJ7_fill_53178 ∈ wsL_law := inr_15 _ (List.mem_of_getElem? (i := 9) rfl)
theorem mw_15_10 : Cond.static yJ7_fill_53178 ∈ wsL_law := inr_15 _ (List.mem_of_getElem? (i := 10) rfl)
theorem mw_15_11 : Cond.initialized RJ7 ∈ wsL_law := inr_15 _ (List.mem_of_getElem? (i := 11) rfl)
theorem mw_15_12 : Cond.code yJ7_fill_53178 cJ7_fill_53178 4 none ∈ wsL_law := inr_15 _ (List.mem_of_getElem? (i := 12) rfl)
theorem mw_15_13 : Cond.methodLink RX4 100 yX4_at ∈ wsL_law := inr_15 _ (List.mem_of_getElem? (i := 13) rfl)
theorem mw_15_14 : Cond.methodLink RX4 104 yX4_put ∈ wsL_law := inr_15 _ (List.mem_of_getElem? (i := 14) rfl)
theorem mw_15_15 : Cond.methodLink RX4 108 yX3_difference ∈ wsL_law := inr_15 _ (List.mem_of_getElem? (i := 15) rfl)
theorem mw_15_16 : Cond.methodLink RL 60 yX5_forms ∈ wsL_law := inr_15 _ (List.mem_of_getElem? (i := 16) rfl)
theorem mw_15_17 : Cond.instanceMethod yX5_forms ∈ wsL_law := inr_15 _ (List.mem_of_getElem? (i := 17) rfl)
theorem mw_15_18 : Cond.selects RX5 yX5_forms yX5_forms ∈ wsL_law := inr_15 _ (List.mem_of_getElem? (i := 18) rfl)
theorem mw_15_19 : Cond.code yX5_forms cX5_forms 9 (some .int) ∈ wsL_law := inr_15 _ (List.mem_of_getElem? (i := 19) rfl)
theorem mw_15_20 : Cond.methodLink RL 61 yX4_curve ∈ wsL_law := inr_15 _ (List.mem_of_getElem? (i := 20) rfl)
theorem mw_15_21 : Cond.instanceMethod yX4_curve ∈ wsL_law := inr_15 _ (List.mem_of_getElem? (i := 21) rfl)
theorem mw_15_22 : Cond.selects RX4 yX4_curve yX4_curve ∈ wsL_law := inr_15 _ (List.mem_of_getElem? (i := 22) rfl)
theorem mw_15_23 : Cond.code yX4_curve cX4_curve 5 (some .int) ∈ wsL_law := inr_15 _ (List.mem_of_getElem? (i := 23) rfl)
theorem mw_16_0 : Cond.methodLink RX4 111 yX4_isCurvePolynomial ∈ wsL_law := inr_16 _ (List.mem_of_getElem? (i := 0) rfl)
theorem mw_16_1 : Cond.instanceMethod yX4_isCurvePolynomial ∈ wsL_law := inr_16 _ (List.mem_of_getElem? (i := 1) rfl)
theorem mw_16_2 : Cond.selects RX4 yX4_isCurvePolynomial yX4_isCurvePolynomial ∈ wsL_law := inr_16 _ (List.mem_of_getElem? (i := 2) rfl)
theorem mw_16_3 : Cond.code yX4_isCurvePolynomial cX4_isCurvePolynomial 2 (some .boolean) ∈ wsL_law := inr_16 _ (List.mem_of_getElem? (i := 3) rfl)
theorem mw_16_4 : Cond.methodLink RX4 114 yX3_knotOf ∈ wsL_law := inr_16 _ (List.mem_of_getElem? (i := 4) rfl)
theorem mw_16_5 : Cond.instanceMethod yX3_knotOf ∈ wsL_law := inr_16 _ (List.mem_of_getElem? (i := 5) rfl)
theorem mw_16_6 : Cond.selects RX3 yX3_knotOf yX3_knotOf ∈ wsL_law := inr_16 _ (List.mem_of_getElem? (i := 6) rfl)
theorem mw_16_7 : Cond.code yX3_knotOf cX3_knotOf 2 (some .int) ∈ wsL_law := inr_16 _ (List.mem_of_getElem? (i := 7) rfl)
theorem mw_16_8 : Cond.methodLink RX3 58 yX3_derivative ∈ wsL_law := inr_16 _ (List.mem_of_getElem? (i := 8) rfl)
theorem mw_16_9 : Cond.instanceMethod yX3_derivative ∈ wsL_law := inr_16 _ (List.mem_of_getElem? (i := 9) rfl)
theorem mw_16_10 : Cond.selects RX3 yX3_derivative yX3_derivative ∈ wsL_law := inr_16 _ (List.mem_of_getElem? (i := 10) rfl)
theorem mw_16_11 : Cond.code yX3_derivative cX3_derivative 4 (some .int) ∈ wsL_law := inr_16 _ (List.mem_of_getElem? (i := 11) rfl)
theorem mw_16_12 : Cond.methodLink RX3 61 yX3_commonDivisor ∈ wsL_law := inr_16 _ (List.mem_of_getElem? (i := 12) rfl)
theorem mw_16_13 : Cond.instanceMethod yX3_commonDivisor ∈ wsL_law := inr_16 _ (List.mem_of_getElem? (i := 13) rfl)
theorem mw_16_14 : Cond.selects RX3 yX3_commonDivisor yX3_commonDivisor ∈ wsL_law := inr_16 _ (List.mem_of_getElem? (i := 14) rfl)
theorem mw_16_15 : Cond.code yX3_commonDivisor cX3_commonDivisor 7 (some .int) ∈ wsL_law := inr_16 _ (List.mem_of_getElem? (i := 15) rfl)
theorem mw_16_16 : Cond.methodLink RX3 49 yX3_monic ∈ wsL_law := inr_16 _ (List.mem_of_getElem? (i := 16) rfl)
theorem mw_16_17 : Cond.instanceMethod yX3_monic ∈ wsL_law := inr_16 _ (List.mem_of_getElem? (i := 17) rfl)
theorem mw_16_18 : Cond.selects RX3 yX3_monic yX3_monic ∈ wsL_law := inr_16 _ (List.mem_of_getElem? (i := 18) rfl)
theorem mw_16_19 : Cond.code yX3_monic cX3_monic 2 (some .int) ∈ wsL_law := inr_16 _ (List.mem_of_getElem? (i := 19) rfl)
theorem mw_16_20 : Cond.methodLink RX4 117 yX3_degree ∈ wsL_law := inr_16 _ (List.mem_of_getElem? (i := 20) rfl)
theorem mw_16_21 : Cond.methodLink RX4 126 yX1_begin ∈ wsL_law := inr_16 _ (List.mem_of_getElem? (i := 21) rfl)
theorem mw_16_22 : Cond.instanceMethod yX1_begin ∈ wsL_law := inr_16 _ (List.mem_of_getElem? (i := 22) rfl)
theorem mw_16_23 : Cond.selects RX1 yX1_begin yX1_begin ∈ wsL_law := inr_16 _ (List.mem_of_getElem? (i := 23) rfl)
theorem mw_17_0 : Cond.code yX1_begin cX1_begin 5 none ∈ wsL_law := inr_17 _ (List.mem_of_getElem? (i := 0) rfl)
theorem mw_17_1 : Cond.fieldLink RX1 28 "FieldCounts$Curve" "kind" "I" ∈ wsL_law := inr_17 _ (List.mem_of_getElem? (i := 1) rfl)
theorem mw_17_2 : Cond.fieldLink RX1 32 "FieldCounts$Curve" "f" "I" ∈ wsL_law := inr_17 _ (List.mem_of_getElem? (i := 2) rfl)
theorem mw_17_3 : Cond.fieldLink RX1 35 "FieldCounts$Curve" "t" "I" ∈ wsL_law := inr_17 _ (List.mem_of_getElem? (i := 3) rfl)
theorem mw_17_4 : Cond.fieldLink RX1 44 "FieldCounts$Curve" "degree" "I" ∈ wsL_law := inr_17 _ (List.mem_of_getElem? (i := 4) rfl)
theorem mw_17_5 : Cond.fieldLink RX1 46 "FieldCounts$Curve" "genus" "I" ∈ wsL_law := inr_17 _ (List.mem_of_getElem? (i := 5) rfl)
theorem mw_17_6 : Cond.fieldLink RX1 56 "FieldCounts$Curve" "polynomial" "I" ∈ wsL_law := inr_17 _ (List.mem_of_getElem? (i := 6) rfl)
theorem mw_17_7 : Cond.fieldLink RX1 59 "FieldCounts$Curve" "shareKnown" "Z" ∈ wsL_law := inr_17 _ (List.mem_of_getElem? (i := 7) rfl)
theorem mw_17_8 : Cond.methodLink RX1 38 yX3_degree ∈ wsL_law := inr_17 _ (List.mem_of_getElem? (i := 8) rfl)
theorem mw_17_9 : Cond.methodLink RX1 49 yX3_scaled ∈ wsL_law := inr_17 _ (List.mem_of_getElem? (i := 9) rfl)
theorem mw_17_10 : Cond.methodLink RX1 53 yX3_movedBy ∈ wsL_law := inr_17 _ (List.mem_of_getElem? (i := 10) rfl)
theorem mw_17_11 : Cond.instanceMethod yX3_movedBy ∈ wsL_law := inr_17 _ (List.mem_of_getElem? (i := 11) rfl)
theorem mw_17_12 : Cond.selects RX3 yX3_movedBy yX3_movedBy ∈ wsL_law := inr_17 _ (List.mem_of_getElem? (i := 12) rfl)
theorem mw_17_13 : Cond.code yX3_movedBy cX3_movedBy 5 (some .int) ∈ wsL_law := inr_17 _ (List.mem_of_getElem? (i := 13) rfl)
theorem mw_17_14 : Cond.methodLink RX3 55 yX3_product ∈ wsL_law := inr_17 _ (List.mem_of_getElem? (i := 14) rfl)
theorem mw_17_15 : Cond.methodLink RX1 63 yX0_begin ∈ wsL_law := inr_17 _ (List.mem_of_getElem? (i := 15) rfl)
theorem mw_17_16 : Cond.instanceMethod yX0_begin ∈ wsL_law := inr_17 _ (List.mem_of_getElem? (i := 16) rfl)
theorem mw_17_17 : Cond.selects RX0 yX0_begin yX0_begin ∈ wsL_law := inr_17 _ (List.mem_of_getElem? (i := 17) rfl)
theorem mw_17_18 : Cond.code yX0_begin cX0_begin 3 none ∈ wsL_law := inr_17 _ (List.mem_of_getElem? (i := 18) rfl)
theorem mw_17_19 : Cond.fieldLink RX0 23 "FieldCounts$ClassList" "polynomial" "I" ∈ wsL_law := inr_17 _ (List.mem_of_getElem? (i := 19) rfl)
theorem mw_17_20 : Cond.fieldLink RX0 26 "FieldCounts$ClassList" "listed" "I" ∈ wsL_law := inr_17 _ (List.mem_of_getElem? (i := 20) rfl)
theorem mw_17_21 : Cond.methodLink RL 64 yX5_curve ∈ wsL_law := inr_17 _ (List.mem_of_getElem? (i := 21) rfl)
theorem mw_17_22 : Cond.instanceMethod yX5_curve ∈ wsL_law := inr_17 _ (List.mem_of_getElem? (i := 22) rfl)
theorem mw_17_23 : Cond.selects RX5 yX5_curve yX5_curve ∈ wsL_law := inr_17 _ (List.mem_of_getElem? (i := 23) rfl)
theorem mw_18_0 : Cond.code yX5_curve cX5_curve 6 (some .int) ∈ wsL_law := inr_18 _ (List.mem_of_getElem? (i := 0) rfl)
theorem mw_18_1 : Cond.constantLong RX5 156 (2) ∈ wsL_law := inr_18 _ (List.mem_of_getElem? (i := 1) rfl)
theorem mw_18_2 : Cond.methodLink RX5 158 yX5_isShaped ∈ wsL_law := inr_18 _ (List.mem_of_getElem? (i := 2) rfl)
theorem mw_18_3 : Cond.instanceMethod yX5_isShaped ∈ wsL_law := inr_18 _ (List.mem_of_getElem? (i := 3) rfl)
theorem mw_18_4 : Cond.selects RX5 yX5_isShaped yX5_isShaped ∈ wsL_law := inr_18 _ (List.mem_of_getElem? (i := 4) rfl)
theorem mw_18_5 : Cond.code yX5_isShaped cX5_isShaped 2 (some .boolean) ∈ wsL_law := inr_18 _ (List.mem_of_getElem? (i := 5) rfl)
theorem mw_18_6 : Cond.methodLink RX5 149 yX5_isDegree ∈ wsL_law := inr_18 _ (List.mem_of_getElem? (i := 6) rfl)
theorem mw_18_7 : Cond.instanceMethod yX5_isDegree ∈ wsL_law := inr_18 _ (List.mem_of_getElem? (i := 7) rfl)
theorem mw_18_8 : Cond.selects RX5 yX5_isDegree yX5_isDegree ∈ wsL_law := inr_18 _ (List.mem_of_getElem? (i := 8) rfl)
theorem mw_18_9 : Cond.code yX5_isDegree cX5_isDegree 6 (some .boolean) ∈ wsL_law := inr_18 _ (List.mem_of_getElem? (i := 9) rfl)
theorem mw_18_10 : Cond.methodLink RX5 161 yX5_knotOf ∈ wsL_law := inr_18 _ (List.mem_of_getElem? (i := 10) rfl)
theorem mw_18_11 : Cond.instanceMethod yX5_knotOf ∈ wsL_law := inr_18 _ (List.mem_of_getElem? (i := 11) rfl)
theorem mw_18_12 : Cond.selects RX5 yX5_knotOf yX5_knotOf ∈ wsL_law := inr_18 _ (List.mem_of_getElem? (i := 12) rfl)
theorem mw_18_13 : Cond.code yX5_knotOf cX5_knotOf 3 (some .int) ∈ wsL_law := inr_18 _ (List.mem_of_getElem? (i := 13) rfl)
theorem mw_18_14 : Cond.methodLink RX5 152 yX5_common ∈ wsL_law := inr_18 _ (List.mem_of_getElem? (i := 14) rfl)
theorem mw_18_15 : Cond.instanceMethod yX5_common ∈ wsL_law := inr_18 _ (List.mem_of_getElem? (i := 15) rfl)
theorem mw_18_16 : Cond.selects RX5 yX5_common yX5_common ∈ wsL_law := inr_18 _ (List.mem_of_getElem? (i := 16) rfl)
theorem mw_18_17 : Cond.code yX5_common cX5_common 7 none ∈ wsL_law := inr_18 _ (List.mem_of_getElem? (i := 17) rfl)
theorem mw_18_18 : Cond.methodLink RX5 98 yX5_join ∈ wsL_law := inr_18 _ (List.mem_of_getElem? (i := 18) rfl)
theorem mw_18_19 : Cond.instanceMethod yX5_join ∈ wsL_law := inr_18 _ (List.mem_of_getElem? (i := 19) rfl)
theorem mw_18_20 : Cond.selects RX5 yX5_join yX5_join ∈ wsL_law := inr_18 _ (List.mem_of_getElem? (i := 20) rfl)
theorem mw_18_21 : Cond.code yX5_join cX5_join 6 none ∈ wsL_law := inr_18 _ (List.mem_of_getElem? (i := 21) rfl)
theorem mw_18_22 : Cond.methodLink RX5 101 yX5_scale ∈ wsL_law := inr_18 _ (List.mem_of_getElem? (i := 22) rfl)
theorem mw_18_23 : Cond.instanceMethod yX5_scale ∈ wsL_law := inr_18 _ (List.mem_of_getElem? (i := 23) rfl)
theorem mw_19_0 : Cond.selects RX5 yX5_scale yX5_scale ∈ wsL_law := inr_19 _ (List.mem_of_getElem? (i := 0) rfl)
theorem mw_19_1 : Cond.code yX5_scale cX5_scale 4 none ∈ wsL_law := inr_19 _ (List.mem_of_getElem? (i := 1) rfl)
theorem mw_19_2 : Cond.methodLink RL 65 yX4_knot ∈ wsL_law := inr_19 _ (List.mem_of_getElem? (i := 2) rfl)
theorem mw_19_3 : Cond.instanceMethod yX4_knot ∈ wsL_law := inr_19 _ (List.mem_of_getElem? (i := 3) rfl)
theorem mw_19_4 : Cond.selects RX4 yX4_knot yX4_knot ∈ wsL_law := inr_19 _ (List.mem_of_getElem? (i := 4) rfl)
theorem mw_19_5 : Cond.code yX4_knot cX4_knot 1 (some .int) ∈ wsL_law := inr_19 _ (List.mem_of_getElem? (i := 5) rfl)
theorem mw_19_6 : Cond.methodLink RL 69 yX5_knot ∈ wsL_law := inr_19 _ (List.mem_of_getElem? (i := 6) rfl)
theorem mw_19_7 : Cond.instanceMethod yX5_knot ∈ wsL_law := inr_19 _ (List.mem_of_getElem? (i := 7) rfl)
theorem mw_19_8 : Cond.selects RX5 yX5_knot yX5_knot ∈ wsL_law := inr_19 _ (List.mem_of_getElem? (i := 8) rfl)
theorem mw_19_9 : Cond.code yX5_knot cX5_knot 1 (some .int) ∈ wsL_law := inr_19 _ (List.mem_of_getElem? (i := 9) rfl)
theorem mw_19_10 : Cond.methodLink RL 70 yX4_about ∈ wsL_law := inr_19 _ (List.mem_of_getElem? (i := 10) rfl)
theorem mw_19_11 : Cond.instanceMethod yX4_about ∈ wsL_law := inr_19 _ (List.mem_of_getElem? (i := 11) rfl)
theorem mw_19_12 : Cond.selects RX4 yX4_about yX4_about ∈ wsL_law := inr_19 _ (List.mem_of_getElem? (i := 12) rfl)
theorem mw_19_13 : Cond.code yX4_about cX4_about 4 (some .int) ∈ wsL_law := inr_19 _ (List.mem_of_getElem? (i := 13) rfl)
theorem mw_19_14 : Cond.methodLink RX4 130 yX4_curveAt ∈ wsL_law := inr_19 _ (List.mem_of_getElem? (i := 14) rfl)
theorem mw_19_15 : Cond.instanceMethod yX4_curveAt ∈ wsL_law := inr_19 _ (List.mem_of_getElem? (i := 15) rfl)
theorem mw_19_16 : Cond.selects RX4 yX4_curveAt yX4_curveAt ∈ wsL_law := inr_19 _ (List.mem_of_getElem? (i := 16) rfl)
theorem mw_19_17 : Cond.code yX4_curveAt cX4_curveAt 2 (some (.object "FieldCounts$Curve")) ∈ wsL_law := inr_19 _ (List.mem_of_getElem? (i := 17) rfl)
theorem mw_19_18 : Cond.methodLink RL 73 yX5_about ∈ wsL_law := inr_19 _ (List.mem_of_getElem? (i := 18) rfl)
theorem mw_19_19 : Cond.instanceMethod yX5_about ∈ wsL_law := inr_19 _ (List.mem_of_getElem? (i := 19) rfl)
theorem mw_19_20 : Cond.selects RX5 yX5_about yX5_about ∈ wsL_law := inr_19 _ (List.mem_of_getElem? (i := 20) rfl)
theorem mw_19_21 : Cond.code yX5_about cX5_about 3 (some .int) ∈ wsL_law := inr_19 _ (List.mem_of_getElem? (i := 21) rfl)
theorem mw_19_22 : Cond.constantLong RX5 167 (5) ∈ wsL_law := inr_19 _ (List.mem_of_getElem? (i := 22) rfl)
theorem mw_19_23 : Cond.methodLink RX5 164 yX5_isCurve ∈ wsL_law := inr_19 _ (List.mem_of_getElem? (i := 23) rfl)
theorem mw_20_0 : Cond.instanceMethod yX5_isCurve ∈ wsL_law := inr_20 _ (List.mem_of_getElem? (i := 0) rfl)
theorem mw_20_1 : Cond.selects RX5 yX5_isCurve yX5_isCurve ∈ wsL_law := inr_20 _ (List.mem_of_getElem? (i := 1) rfl)
theorem mw_20_2 : Cond.code yX5_isCurve cX5_isCurve 2 (some .boolean) ∈ wsL_law := inr_20 _ (List.mem_of_getElem? (i := 2) rfl)
theorem mw_20_3 : Cond.methodLink RX5 146 yX5_degreeOf ∈ wsL_law := inr_20 _ (List.mem_of_getElem? (i := 3) rfl)
theorem mw_20_4 : Cond.instanceMethod yX5_degreeOf ∈ wsL_law := inr_20 _ (List.mem_of_getElem? (i := 4) rfl)
theorem mw_20_5 : Cond.selects RX5 yX5_degreeOf yX5_degreeOf ∈ wsL_law := inr_20 _ (List.mem_of_getElem? (i := 5) rfl)
theorem mw_20_6 : Cond.code yX5_degreeOf cX5_degreeOf 3 (some .int) ∈ wsL_law := inr_20 _ (List.mem_of_getElem? (i := 6) rfl)
theorem mw_20_7 : Cond.methodLink RX5 169 yX5_genusOf ∈ wsL_law := inr_20 _ (List.mem_of_getElem? (i := 7) rfl)
theorem mw_20_8 : Cond.instanceMethod yX5_genusOf ∈ wsL_law := inr_20 _ (List.mem_of_getElem? (i := 8) rfl)
theorem mw_20_9 : Cond.selects RX5 yX5_genusOf yX5_genusOf ∈ wsL_law := inr_20 _ (List.mem_of_getElem? (i := 9) rfl)
theorem mw_20_10 : Cond.code yX5_genusOf cX5_genusOf 2 (some .int) ∈ wsL_law := inr_20 _ (List.mem_of_getElem? (i := 10) rfl)
theorem mw_20_11 : Cond.methodLink RX5 172 yX5_loadOwn ∈ wsL_law := inr_20 _ (List.mem_of_getElem? (i := 11) rfl)
theorem mw_20_12 : Cond.instanceMethod yX5_loadOwn ∈ wsL_law := inr_20 _ (List.mem_of_getElem? (i := 12) rfl)
theorem mw_20_13 : Cond.selects RX5 yX5_loadOwn yX5_loadOwn ∈ wsL_law := inr_20 _ (List.mem_of_getElem? (i := 13) rfl)
theorem mw_20_14 : Cond.code yX5_loadOwn cX5_loadOwn 4 none ∈ wsL_law := inr_20 _ (List.mem_of_getElem? (i := 14) rfl)
theorem mw_20_15 : Cond.methodLink RL 74 yX4_value ∈ wsL_law := inr_20 _ (List.mem_of_getElem? (i := 15) rfl)
theorem mw_20_16 : Cond.instanceMethod yX4_value ∈ wsL_law := inr_20 _ (List.mem_of_getElem? (i := 16) rfl)
theorem mw_20_17 : Cond.selects RX4 yX4_value yX4_value ∈ wsL_law := inr_20 _ (List.mem_of_getElem? (i := 17) rfl)
theorem mw_20_18 : Cond.code yX4_value cX4_value 6 (some .int) ∈ wsL_law := inr_20 _ (List.mem_of_getElem? (i := 18) rfl)
theorem mw_20_19 : Cond.fieldLink RX4 151 "FieldCounts" "trace" "J" ∈ wsL_law := inr_20 _ (List.mem_of_getElem? (i := 19) rfl)
theorem mw_20_20 : Cond.fieldLink RX4 155 "FieldCounts" "TRACES" "[I" ∈ wsL_law := inr_20 _ (List.mem_of_getElem? (i := 20) rfl)
theorem mw_20_21 : Cond.methodLink RX4 158 yX2_valueOf ∈ wsL_law := inr_20 _ (List.mem_of_getElem? (i := 21) rfl)
theorem mw_20_22 : Cond.instanceMethod yX2_valueOf ∈ wsL_law := inr_20 _ (List.mem_of_getElem? (i := 22) rfl)
theorem mw_20_23 : Cond.selects RX2 yX2_valueOf yX2_valueOf ∈ wsL_law := inr_20 _ (List.mem_of_getElem? (i := 23) rfl)
theorem mw_21_0 : Cond.code yX2_valueOf cX2_valueOf 5 (some .int) ∈ wsL_law := inr_21 _ (List.mem_of_getElem? (i := 0) rfl)
theorem mw_21_1 : Cond.methodLink RX2 74 yX3_degree ∈ wsL_law := inr_21 _ (List.mem_of_getElem? (i := 1) rfl)
theorem mw_21_2 : Cond.methodLink RX2 77 yX2_product ∈ wsL_law := inr_21 _ (List.mem_of_getElem? (i := 2) rfl)
theorem mw_21_3 : Cond.methodLink RX2 78 yX3_coefficient ∈ wsL_law := inr_21 _ (List.mem_of_getElem? (i := 3) rfl)
theorem mw_21_4 : Cond.methodLink RX2 81 yX3_sum ∈ wsL_law := inr_21 _ (List.mem_of_getElem? (i := 4) rfl)
theorem mw_21_5 : Cond.methodLink RL 77 yX5_value ∈ wsL_law := inr_21 _ (List.mem_of_getElem? (i := 5) rfl)
theorem mw_21_6 : Cond.instanceMethod yX5_value ∈ wsL_law := inr_21 _ (List.mem_of_getElem? (i := 6) rfl)
theorem mw_21_7 : Cond.selects RX5 yX5_value yX5_value ∈ wsL_law := inr_21 _ (List.mem_of_getElem? (i := 7) rfl)
theorem mw_21_8 : Cond.code yX5_value cX5_value 4 (some .int) ∈ wsL_law := inr_21 _ (List.mem_of_getElem? (i := 8) rfl)
theorem mw_21_9 : Cond.fieldLink RX5 175 "FieldCountsModel" "trace" "J" ∈ wsL_law := inr_21 _ (List.mem_of_getElem? (i := 9) rfl)
theorem mw_21_10 : Cond.constantLong RX5 179 (11) ∈ wsL_law := inr_21 _ (List.mem_of_getElem? (i := 10) rfl)
theorem mw_21_11 : Cond.constantLong RX5 181 (111) ∈ wsL_law := inr_21 _ (List.mem_of_getElem? (i := 11) rfl)
theorem mw_21_12 : Cond.methodLink RX5 183 yX5_valueOf ∈ wsL_law := inr_21 _ (List.mem_of_getElem? (i := 12) rfl)
theorem mw_21_13 : Cond.instanceMethod yX5_valueOf ∈ wsL_law := inr_21 _ (List.mem_of_getElem? (i := 13) rfl)
theorem mw_21_14 : Cond.selects RX5 yX5_valueOf yX5_valueOf ∈ wsL_law := inr_21 _ (List.mem_of_getElem? (i := 14) rfl)
theorem mw_21_15 : Cond.code yX5_valueOf cX5_valueOf 6 (some .int) ∈ wsL_law := inr_21 _ (List.mem_of_getElem? (i := 15) rfl)
theorem mw_21_16 : Cond.methodLink RL 78 yX4_count ∈ wsL_law := inr_21 _ (List.mem_of_getElem? (i := 16) rfl)
theorem mw_21_17 : Cond.instanceMethod yX4_count ∈ wsL_law := inr_21 _ (List.mem_of_getElem? (i := 17) rfl)
theorem mw_21_18 : Cond.selects RX4 yX4_count yX4_count ∈ wsL_law := inr_21 _ (List.mem_of_getElem? (i := 18) rfl)
theorem mw_21_19 : Cond.code yX4_count cX4_count 5 (some .int) ∈ wsL_law := inr_21 _ (List.mem_of_getElem? (i := 19) rfl)
theorem mw_21_20 : Cond.methodLink RX4 161 yX2_pointsOf ∈ wsL_law := inr_21 _ (List.mem_of_getElem? (i := 20) rfl)
theorem mw_21_21 : Cond.instanceMethod yX2_pointsOf ∈ wsL_law := inr_21 _ (List.mem_of_getElem? (i := 21) rfl)
theorem mw_21_22 : Cond.selects RX2 yX2_pointsOf yX2_pointsOf ∈ wsL_law := inr_21 _ (List.mem_of_getElem? (i := 22) rfl)
theorem mw_21_23 : Cond.code yX2_pointsOf cX2_pointsOf 2 (some .int) ∈ wsL_law := inr_21 _ (List.mem_of_getElem? (i := 23) rfl)
theorem mw_22_0 : Cond.methodLink RX2 93 yX2_signSum ∈ wsL_law := inr_22 _ (List.mem_of_getElem? (i := 0) rfl)
theorem mw_22_1 : Cond.instanceMethod yX2_signSum ∈ wsL_law := inr_22 _ (List.mem_of_getElem? (i := 1) rfl)
theorem mw_22_2 : Cond.selects RX2 yX2_signSum yX2_signSum ∈ wsL_law := inr_22 _ (List.mem_of_getElem? (i := 2) rfl)
theorem mw_22_3 : Cond.code yX2_signSum cX2_signSum 4 (some .int) ∈ wsL_law := inr_22 _ (List.mem_of_getElem? (i := 3) rfl)
theorem mw_22_4 : Cond.methodLink RX2 84 yX2_valueOf ∈ wsL_law := inr_22 _ (List.mem_of_getElem? (i := 4) rfl)
theorem mw_22_5 : Cond.methodLink RX2 87 yX2_squareSign ∈ wsL_law := inr_22 _ (List.mem_of_getElem? (i := 5) rfl)
theorem mw_22_6 : Cond.methodLink RX2 96 yX2_pointsBeyond ∈ wsL_law := inr_22 _ (List.mem_of_getElem? (i := 6) rfl)
theorem mw_22_7 : Cond.instanceMethod yX2_pointsBeyond ∈ wsL_law := inr_22 _ (List.mem_of_getElem? (i := 7) rfl)
theorem mw_22_8 : Cond.selects RX2 yX2_pointsBeyond yX2_pointsBeyond ∈ wsL_law := inr_22 _ (List.mem_of_getElem? (i := 8) rfl)
theorem mw_22_9 : Cond.code yX2_pointsBeyond cX2_pointsBeyond 2 (some .int) ∈ wsL_law := inr_22 _ (List.mem_of_getElem? (i := 9) rfl)
theorem mw_22_10 : Cond.methodLink RX2 90 yX3_lead ∈ wsL_law := inr_22 _ (List.mem_of_getElem? (i := 10) rfl)
theorem mw_22_11 : Cond.methodLink RL 81 yX5_count ∈ wsL_law := inr_22 _ (List.mem_of_getElem? (i := 11) rfl)
theorem mw_22_12 : Cond.instanceMethod yX5_count ∈ wsL_law := inr_22 _ (List.mem_of_getElem? (i := 12) rfl)
theorem mw_22_13 : Cond.selects RX5 yX5_count yX5_count ∈ wsL_law := inr_22 _ (List.mem_of_getElem? (i := 13) rfl)
theorem mw_22_14 : Cond.code yX5_count cX5_count 3 (some .int) ∈ wsL_law := inr_22 _ (List.mem_of_getElem? (i := 14) rfl)
theorem mw_22_15 : Cond.methodLink RX5 189 yX5_countOf ∈ wsL_law := inr_22 _ (List.mem_of_getElem? (i := 15) rfl)
theorem mw_22_16 : Cond.instanceMethod yX5_countOf ∈ wsL_law := inr_22 _ (List.mem_of_getElem? (i := 16) rfl)
theorem mw_22_17 : Cond.selects RX5 yX5_countOf yX5_countOf ∈ wsL_law := inr_22 _ (List.mem_of_getElem? (i := 17) rfl)
theorem mw_22_18 : Cond.code yX5_countOf cX5_countOf 5 (some .int) ∈ wsL_law := inr_22 _ (List.mem_of_getElem? (i := 18) rfl)
theorem mw_22_19 : Cond.methodLink RX5 186 yX5_beyondOf ∈ wsL_law := inr_22 _ (List.mem_of_getElem? (i := 19) rfl)
theorem mw_22_20 : Cond.instanceMethod yX5_beyondOf ∈ wsL_law := inr_22 _ (List.mem_of_getElem? (i := 20) rfl)
theorem mw_22_21 : Cond.selects RX5 yX5_beyondOf yX5_beyondOf ∈ wsL_law := inr_22 _ (List.mem_of_getElem? (i := 21) rfl)
theorem mw_22_22 : Cond.code yX5_beyondOf cX5_beyondOf 4 (some .int) ∈ wsL_law := inr_22 _ (List.mem_of_getElem? (i := 22) rfl)
theorem mw_22_23 : Cond.methodLink RL 82 yX4_beyond ∈ wsL_law := inr_22 _ (List.mem_of_getElem? (i := 23) rfl)
theorem mw_23_0 : Cond.instanceMethod yX4_beyond ∈ wsL_law := inr_23 _ (List.mem_of_getElem? (i := 0) rfl)
theorem mw_23_1 : Cond.selects RX4 yX4_beyond yX4_beyond ∈ wsL_law := inr_23 _ (List.mem_of_getElem? (i := 1) rfl)
theorem mw_23_2 : Cond.code yX4_beyond cX4_beyond 5 (some .int) ∈ wsL_law := inr_23 _ (List.mem_of_getElem? (i := 2) rfl)
theorem mw_23_3 : Cond.methodLink RX4 164 yX2_pointsBeyond ∈ wsL_law := inr_23 _ (List.mem_of_getElem? (i := 3) rfl)
theorem mw_23_4 : Cond.methodLink RL 85 yX5_beyond ∈ wsL_law := inr_23 _ (List.mem_of_getElem? (i := 4) rfl)
theorem mw_23_5 : Cond.instanceMethod yX5_beyond ∈ wsL_law := inr_23 _ (List.mem_of_getElem? (i := 5) rfl)
theorem mw_23_6 : Cond.selects RX5 yX5_beyond yX5_beyond ∈ wsL_law := inr_23 _ (List.mem_of_getElem? (i := 6) rfl)
theorem mw_23_7 : Cond.code yX5_beyond cX5_beyond 3 (some .int) ∈ wsL_law := inr_23 _ (List.mem_of_getElem? (i := 7) rfl)
theorem mw_23_8 : Cond.methodLink RL 86 yX4_share ∈ wsL_law := inr_23 _ (List.mem_of_getElem? (i := 8) rfl)
theorem mw_23_9 : Cond.instanceMethod yX4_share ∈ wsL_law := inr_23 _ (List.mem_of_getElem? (i := 9) rfl)
theorem mw_23_10 : Cond.selects RX4 yX4_share yX4_share ∈ wsL_law := inr_23 _ (List.mem_of_getElem? (i := 10) rfl)
theorem mw_23_11 : Cond.code yX4_share cX4_share 4 (some .int) ∈ wsL_law := inr_23 _ (List.mem_of_getElem? (i := 11) rfl)
theorem mw_23_12 : Cond.methodLink RX4 167 yX4_shareOf ∈ wsL_law := inr_23 _ (List.mem_of_getElem? (i := 12) rfl)
theorem mw_23_13 : Cond.instanceMethod yX4_shareOf ∈ wsL_law := inr_23 _ (List.mem_of_getElem? (i := 13) rfl)
theorem mw_23_14 : Cond.selects RX4 yX4_shareOf yX4_shareOf ∈ wsL_law := inr_23 _ (List.mem_of_getElem? (i := 14) rfl)
theorem mw_23_15 : Cond.code yX4_shareOf cX4_shareOf 4 (some (.array .int)) ∈ wsL_law := inr_23 _ (List.mem_of_getElem? (i := 15) rfl)
theorem mw_23_16 : Cond.methodLink RX4 239 yX1_makeShare ∈ wsL_law := inr_23 _ (List.mem_of_getElem? (i := 16) rfl)
theorem mw_23_17 : Cond.instanceMethod yX1_makeShare ∈ wsL_law := inr_23 _ (List.mem_of_getElem? (i := 17) rfl)
theorem mw_23_18 : Cond.selects RX1 yX1_makeShare yX1_makeShare ∈ wsL_law := inr_23 _ (List.mem_of_getElem? (i := 18) rfl)
theorem mw_23_19 : Cond.code yX1_makeShare cX1_makeShare 6 none ∈ wsL_law := inr_23 _ (List.mem_of_getElem? (i := 19) rfl)
theorem mw_23_20 : Cond.methodLink RX1 70 yX2_pointsOf ∈ wsL_law := inr_23 _ (List.mem_of_getElem? (i := 20) rfl)
theorem mw_23_21 : Cond.methodLink RX1 75 yJ7_fill_53178 ∈ wsL_law := inr_23 _ (List.mem_of_getElem? (i := 21) rfl)
theorem mw_23_22 : Cond.methodLink RX1 85 yX3_place ∈ wsL_law := inr_23 _ (List.mem_of_getElem? (i := 22) rfl)
theorem mw_23_23 : Cond.methodLink RL 89 yX5_share ∈ wsL_law := inr_23 _ (List.mem_of_getElem? (i := 23) rfl)
theorem mw_24_0 : Cond.instanceMethod yX5_share ∈ wsL_law := inr_24 _ (List.mem_of_getElem? (i := 0) rfl)
theorem mw_24_1 : Cond.selects RX5 yX5_share yX5_share ∈ wsL_law := inr_24 _ (List.mem_of_getElem? (i := 1) rfl)
theorem mw_24_2 : Cond.code yX5_share cX5_share 3 (some .int) ∈ wsL_law := inr_24 _ (List.mem_of_getElem? (i := 2) rfl)
theorem mw_24_3 : Cond.methodLink RX5 192 yX5_needShares ∈ wsL_law := inr_24 _ (List.mem_of_getElem? (i := 3) rfl)
theorem mw_24_4 : Cond.instanceMethod yX5_needShares ∈ wsL_law := inr_24 _ (List.mem_of_getElem? (i := 4) rfl)
theorem mw_24_5 : Cond.selects RX5 yX5_needShares yX5_needShares ∈ wsL_law := inr_24 _ (List.mem_of_getElem? (i := 5) rfl)
theorem mw_24_6 : Cond.code yX5_needShares cX5_needShares 3 none ∈ wsL_law := inr_24 _ (List.mem_of_getElem? (i := 6) rfl)
theorem mw_24_7 : Cond.methodLink RL 90 yX4_further ∈ wsL_law := inr_24 _ (List.mem_of_getElem? (i := 7) rfl)
theorem mw_24_8 : Cond.instanceMethod yX4_further ∈ wsL_law := inr_24 _ (List.mem_of_getElem? (i := 8) rfl)
theorem mw_24_9 : Cond.selects RX4 yX4_further yX4_further ∈ wsL_law := inr_24 _ (List.mem_of_getElem? (i := 9) rfl)
theorem mw_24_10 : Cond.code yX4_further cX4_further 11 (some .long) ∈ wsL_law := inr_24 _ (List.mem_of_getElem? (i := 10) rfl)
theorem mw_24_11 : Cond.constantLong RX4 171 (-1) ∈ wsL_law := inr_24 _ (List.mem_of_getElem? (i := 11) rfl)
theorem mw_24_12 : Cond.methodLink RL 94 yX5_further ∈ wsL_law := inr_24 _ (List.mem_of_getElem? (i := 12) rfl)
theorem mw_24_13 : Cond.instanceMethod yX5_further ∈ wsL_law := inr_24 _ (List.mem_of_getElem? (i := 13) rfl)
theorem mw_24_14 : Cond.selects RX5 yX5_further yX5_further ∈ wsL_law := inr_24 _ (List.mem_of_getElem? (i := 14) rfl)
theorem mw_24_15 : Cond.code yX5_further cX5_further 9 (some .long) ∈ wsL_law := inr_24 _ (List.mem_of_getElem? (i := 15) rfl)
theorem mw_24_16 : Cond.constantLong RX5 195 (12) ∈ wsL_law := inr_24 _ (List.mem_of_getElem? (i := 16) rfl)
theorem mw_24_17 : Cond.constantLong RX5 197 (-1) ∈ wsL_law := inr_24 _ (List.mem_of_getElem? (i := 17) rfl)
theorem mw_24_18 : Cond.methodLink RL 95 yX4_whole ∈ wsL_law := inr_24 _ (List.mem_of_getElem? (i := 18) rfl)
theorem mw_24_19 : Cond.instanceMethod yX4_whole ∈ wsL_law := inr_24 _ (List.mem_of_getElem? (i := 19) rfl)
theorem mw_24_20 : Cond.selects RX4 yX4_whole yX4_whole ∈ wsL_law := inr_24 _ (List.mem_of_getElem? (i := 20) rfl)
theorem mw_24_21 : Cond.code yX4_whole cX4_whole 8 (some .int) ∈ wsL_law := inr_24 _ (List.mem_of_getElem? (i := 21) rfl)
theorem mw_24_22 : Cond.methodLink RL 98 yX5_whole ∈ wsL_law := inr_24 _ (List.mem_of_getElem? (i := 22) rfl)
theorem mw_24_23 : Cond.instanceMethod yX5_whole ∈ wsL_law := inr_24 _ (List.mem_of_getElem? (i := 23) rfl)
theorem mw_25_0 : Cond.selects RX5 yX5_whole yX5_whole ∈ wsL_law := inr_25 _ (List.mem_of_getElem? (i := 0) rfl)
theorem mw_25_1 : Cond.code yX5_whole cX5_whole 2 (some .int) ∈ wsL_law := inr_25 _ (List.mem_of_getElem? (i := 1) rfl)
theorem mw_25_2 : Cond.methodLink RX5 199 yX5_wholeOf ∈ wsL_law := inr_25 _ (List.mem_of_getElem? (i := 2) rfl)
theorem mw_25_3 : Cond.instanceMethod yX5_wholeOf ∈ wsL_law := inr_25 _ (List.mem_of_getElem? (i := 3) rfl)
theorem mw_25_4 : Cond.selects RX5 yX5_wholeOf yX5_wholeOf ∈ wsL_law := inr_25 _ (List.mem_of_getElem? (i := 4) rfl)
theorem mw_25_5 : Cond.code yX5_wholeOf cX5_wholeOf 2 (some .int) ∈ wsL_law := inr_25 _ (List.mem_of_getElem? (i := 5) rfl)
theorem mw_25_6 : Cond.methodLink RL 99 yX4_bound ∈ wsL_law := inr_25 _ (List.mem_of_getElem? (i := 6) rfl)
theorem mw_25_7 : Cond.instanceMethod yX4_bound ∈ wsL_law := inr_25 _ (List.mem_of_getElem? (i := 7) rfl)
theorem mw_25_8 : Cond.selects RX4 yX4_bound yX4_bound ∈ wsL_law := inr_25 _ (List.mem_of_getElem? (i := 8) rfl)
theorem mw_25_9 : Cond.code yX4_bound cX4_bound 4 (some .int) ∈ wsL_law := inr_25 _ (List.mem_of_getElem? (i := 9) rfl)
theorem mw_25_10 : Cond.methodLink RL 102 yX5_bound ∈ wsL_law := inr_25 _ (List.mem_of_getElem? (i := 10) rfl)
theorem mw_25_11 : Cond.instanceMethod yX5_bound ∈ wsL_law := inr_25 _ (List.mem_of_getElem? (i := 11) rfl)
theorem mw_25_12 : Cond.selects RX5 yX5_bound yX5_bound ∈ wsL_law := inr_25 _ (List.mem_of_getElem? (i := 12) rfl)
theorem mw_25_13 : Cond.code yX5_bound cX5_bound 3 (some .int) ∈ wsL_law := inr_25 _ (List.mem_of_getElem? (i := 13) rfl)
theorem mw_25_14 : Cond.methodLink RL 103 yX4_surface ∈ wsL_law := inr_25 _ (List.mem_of_getElem? (i := 14) rfl)
theorem mw_25_15 : Cond.instanceMethod yX4_surface ∈ wsL_law := inr_25 _ (List.mem_of_getElem? (i := 15) rfl)
theorem mw_25_16 : Cond.selects RX4 yX4_surface yX4_surface ∈ wsL_law := inr_25 _ (List.mem_of_getElem? (i := 16) rfl)
theorem mw_25_17 : Cond.code yX4_surface cX4_surface 8 (some .int) ∈ wsL_law := inr_25 _ (List.mem_of_getElem? (i := 17) rfl)
theorem mw_25_18 : Cond.methodLink RX4 173 yX2_signSum ∈ wsL_law := inr_25 _ (List.mem_of_getElem? (i := 18) rfl)
theorem mw_25_19 : Cond.methodLink RL 106 yX5_surface ∈ wsL_law := inr_25 _ (List.mem_of_getElem? (i := 19) rfl)
theorem mw_25_20 : Cond.instanceMethod yX5_surface ∈ wsL_law := inr_25 _ (List.mem_of_getElem? (i := 20) rfl)
theorem mw_25_21 : Cond.selects RX5 yX5_surface yX5_surface ∈ wsL_law := inr_25 _ (List.mem_of_getElem? (i := 21) rfl)
theorem mw_25_22 : Cond.code yX5_surface cX5_surface 12 (some .int) ∈ wsL_law := inr_25 _ (List.mem_of_getElem? (i := 22) rfl)
theorem mw_25_23 : Cond.methodLink RL 107 yX4_best ∈ wsL_law := inr_25 _ (List.mem_of_getElem? (i := 23) rfl)
theorem mw_26_0 : Cond.instanceMethod yX4_best ∈ wsL_law := inr_26 _ (List.mem_of_getElem? (i := 0) rfl)
theorem mw_26_1 : Cond.selects RX4 yX4_best yX4_best ∈ wsL_law := inr_26 _ (List.mem_of_getElem? (i := 1) rfl)
theorem mw_26_2 : Cond.code yX4_best cX4_best 11 (some .int) ∈ wsL_law := inr_26 _ (List.mem_of_getElem? (i := 2) rfl)
theorem mw_26_3 : Cond.constant RX4 176 (1000000) ∈ wsL_law := inr_26 _ (List.mem_of_getElem? (i := 3) rfl)
theorem mw_26_4 : Cond.methodLink RX4 180 Lib.Math.max.name ∈ wsL_law := inr_26 _ (List.mem_of_getElem? (i := 4) rfl)
theorem mw_26_5 : Cond.methodLink RX4 185 Lib.Math.min.name ∈ wsL_law := inr_26 _ (List.mem_of_getElem? (i := 5) rfl)
theorem mw_26_6 : Cond.static Lib.Math.min.name ∈ wsL_law := inr_26 _ (List.mem_of_getElem? (i := 6) rfl)
theorem mw_26_7 : Cond.code Lib.Math.min.name Lib.Math.min.code 2 (some .int) ∈ wsL_law := inr_26 _ (List.mem_of_getElem? (i := 7) rfl)
theorem mw_26_8 : Cond.methodLink RL 110 yX5_best ∈ wsL_law := inr_26 _ (List.mem_of_getElem? (i := 8) rfl)
theorem mw_26_9 : Cond.instanceMethod yX5_best ∈ wsL_law := inr_26 _ (List.mem_of_getElem? (i := 9) rfl)
theorem mw_26_10 : Cond.selects RX5 yX5_best yX5_best ∈ wsL_law := inr_26 _ (List.mem_of_getElem? (i := 10) rfl)
theorem mw_26_11 : Cond.code yX5_best cX5_best 11 (some .int) ∈ wsL_law := inr_26 _ (List.mem_of_getElem? (i := 11) rfl)
theorem mw_26_12 : Cond.constantLong RX5 202 (3) ∈ wsL_law := inr_26 _ (List.mem_of_getElem? (i := 12) rfl)
theorem mw_26_13 : Cond.constantLong RX5 204 (6) ∈ wsL_law := inr_26 _ (List.mem_of_getElem? (i := 13) rfl)
theorem mw_26_14 : Cond.constantLong RX5 206 (1000000) ∈ wsL_law := inr_26 _ (List.mem_of_getElem? (i := 14) rfl)
theorem mw_26_15 : Cond.constantLong RX5 208 (100) ∈ wsL_law := inr_26 _ (List.mem_of_getElem? (i := 15) rfl)
theorem mw_26_16 : Cond.methodLink RL 111 yX4_isClass ∈ wsL_law := inr_26 _ (List.mem_of_getElem? (i := 16) rfl)
theorem mw_26_17 : Cond.instanceMethod yX4_isClass ∈ wsL_law := inr_26 _ (List.mem_of_getElem? (i := 17) rfl)
theorem mw_26_18 : Cond.selects RX4 yX4_isClass yX4_isClass ∈ wsL_law := inr_26 _ (List.mem_of_getElem? (i := 18) rfl)
theorem mw_26_19 : Cond.code yX4_isClass cX4_isClass 5 (some .int) ∈ wsL_law := inr_26 _ (List.mem_of_getElem? (i := 19) rfl)
theorem mw_26_20 : Cond.methodLink RX4 188 yX4_listAt ∈ wsL_law := inr_26 _ (List.mem_of_getElem? (i := 20) rfl)
theorem mw_26_21 : Cond.instanceMethod yX4_listAt ∈ wsL_law := inr_26 _ (List.mem_of_getElem? (i := 21) rfl)
theorem mw_26_22 : Cond.selects RX4 yX4_listAt yX4_listAt ∈ wsL_law := inr_26 _ (List.mem_of_getElem? (i := 22) rfl)
theorem mw_26_23 : Cond.code yX4_listAt cX4_listAt 3 (some (.object "FieldCounts$ClassList")) ∈ wsL_law := inr_26 _ (List.mem_of_getElem? (i := 23) rfl)
theorem mw_27_0 : Cond.methodLink RX4 192 yX0_holds ∈ wsL_law := inr_27 _ (List.mem_of_getElem? (i := 0) rfl)
theorem mw_27_1 : Cond.instanceMethod yX0_holds ∈ wsL_law := inr_27 _ (List.mem_of_getElem? (i := 1) rfl)
theorem mw_27_2 : Cond.selects RX0 yX0_holds yX0_holds ∈ wsL_law := inr_27 _ (List.mem_of_getElem? (i := 2) rfl)
theorem mw_27_3 : Cond.code yX0_holds cX0_holds 5 (some .boolean) ∈ wsL_law := inr_27 _ (List.mem_of_getElem? (i := 3) rfl)
theorem mw_27_4 : Cond.methodLink RX0 29 yX3_place ∈ wsL_law := inr_27 _ (List.mem_of_getElem? (i := 4) rfl)
theorem mw_27_5 : Cond.methodLink RX0 35 yX3_squareRest ∈ wsL_law := inr_27 _ (List.mem_of_getElem? (i := 5) rfl)
theorem mw_27_6 : Cond.instanceMethod yX3_squareRest ∈ wsL_law := inr_27 _ (List.mem_of_getElem? (i := 6) rfl)
theorem mw_27_7 : Cond.selects RX3 yX3_squareRest yX3_squareRest ∈ wsL_law := inr_27 _ (List.mem_of_getElem? (i := 7) rfl)
theorem mw_27_8 : Cond.code yX3_squareRest cX3_squareRest 9 (some .int) ∈ wsL_law := inr_27 _ (List.mem_of_getElem? (i := 8) rfl)
theorem mw_27_9 : Cond.methodLink RX0 39 yX3_rest ∈ wsL_law := inr_27 _ (List.mem_of_getElem? (i := 9) rfl)
theorem mw_27_10 : Cond.methodLink RL 114 yX5_isClass ∈ wsL_law := inr_27 _ (List.mem_of_getElem? (i := 10) rfl)
theorem mw_27_11 : Cond.instanceMethod yX5_isClass ∈ wsL_law := inr_27 _ (List.mem_of_getElem? (i := 11) rfl)
theorem mw_27_12 : Cond.selects RX5 yX5_isClass yX5_isClass ∈ wsL_law := inr_27 _ (List.mem_of_getElem? (i := 12) rfl)
theorem mw_27_13 : Cond.code yX5_isClass cX5_isClass 4 (some .int) ∈ wsL_law := inr_27 _ (List.mem_of_getElem? (i := 13) rfl)
theorem mw_27_14 : Cond.methodLink RX5 220 yX5_hasClasses ∈ wsL_law := inr_27 _ (List.mem_of_getElem? (i := 14) rfl)
theorem mw_27_15 : Cond.instanceMethod yX5_hasClasses ∈ wsL_law := inr_27 _ (List.mem_of_getElem? (i := 15) rfl)
theorem mw_27_16 : Cond.selects RX5 yX5_hasClasses yX5_hasClasses ∈ wsL_law := inr_27 _ (List.mem_of_getElem? (i := 16) rfl)
theorem mw_27_17 : Cond.code yX5_hasClasses cX5_hasClasses 2 (some .boolean) ∈ wsL_law := inr_27 _ (List.mem_of_getElem? (i := 17) rfl)
theorem mw_27_18 : Cond.methodLink RX5 223 yX5_isClassOf ∈ wsL_law := inr_27 _ (List.mem_of_getElem? (i := 18) rfl)
theorem mw_27_19 : Cond.instanceMethod yX5_isClassOf ∈ wsL_law := inr_27 _ (List.mem_of_getElem? (i := 19) rfl)
theorem mw_27_20 : Cond.selects RX5 yX5_isClassOf yX5_isClassOf ∈ wsL_law := inr_27 _ (List.mem_of_getElem? (i := 20) rfl)
theorem mw_27_21 : Cond.code yX5_isClassOf cX5_isClassOf 6 (some .boolean) ∈ wsL_law := inr_27 _ (List.mem_of_getElem? (i := 21) rfl)
theorem mw_27_22 : Cond.methodLink RX5 210 yX5_goesIn ∈ wsL_law := inr_27 _ (List.mem_of_getElem? (i := 22) rfl)
theorem mw_27_23 : Cond.instanceMethod yX5_goesIn ∈ wsL_law := inr_27 _ (List.mem_of_getElem? (i := 23) rfl)
theorem mw_28_0 : Cond.selects RX5 yX5_goesIn yX5_goesIn ∈ wsL_law := inr_28 _ (List.mem_of_getElem? (i := 0) rfl)
theorem mw_28_1 : Cond.code yX5_goesIn cX5_goesIn 4 (some .boolean) ∈ wsL_law := inr_28 _ (List.mem_of_getElem? (i := 1) rfl)
theorem mw_28_2 : Cond.methodLink RL 115 yX4_classes ∈ wsL_law := inr_28 _ (List.mem_of_getElem? (i := 2) rfl)
theorem mw_28_3 : Cond.instanceMethod yX4_classes ∈ wsL_law := inr_28 _ (List.mem_of_getElem? (i := 3) rfl)
theorem mw_28_4 : Cond.selects RX4 yX4_classes yX4_classes ∈ wsL_law := inr_28 _ (List.mem_of_getElem? (i := 4) rfl)
theorem mw_28_5 : Cond.code yX4_classes cX4_classes 3 (some .int) ∈ wsL_law := inr_28 _ (List.mem_of_getElem? (i := 5) rfl)
theorem mw_28_6 : Cond.methodLink RX4 198 yX0_many ∈ wsL_law := inr_28 _ (List.mem_of_getElem? (i := 6) rfl)
theorem mw_28_7 : Cond.instanceMethod yX0_many ∈ wsL_law := inr_28 _ (List.mem_of_getElem? (i := 7) rfl)
theorem mw_28_8 : Cond.selects RX0 yX0_many yX0_many ∈ wsL_law := inr_28 _ (List.mem_of_getElem? (i := 8) rfl)
theorem mw_28_9 : Cond.code yX0_many cX0_many 1 (some .int) ∈ wsL_law := inr_28 _ (List.mem_of_getElem? (i := 9) rfl)
theorem mw_28_10 : Cond.methodLink RX0 42 yX0_goThrough ∈ wsL_law := inr_28 _ (List.mem_of_getElem? (i := 10) rfl)
theorem mw_28_11 : Cond.instanceMethod yX0_goThrough ∈ wsL_law := inr_28 _ (List.mem_of_getElem? (i := 11) rfl)
theorem mw_28_12 : Cond.selects RX0 yX0_goThrough yX0_goThrough ∈ wsL_law := inr_28 _ (List.mem_of_getElem? (i := 12) rfl)
theorem mw_28_13 : Cond.code yX0_goThrough cX0_goThrough 4 none ∈ wsL_law := inr_28 _ (List.mem_of_getElem? (i := 13) rfl)
theorem mw_28_14 : Cond.methodLink RX0 98 yX0_listWith ∈ wsL_law := inr_28 _ (List.mem_of_getElem? (i := 14) rfl)
theorem mw_28_15 : Cond.instanceMethod yX0_listWith ∈ wsL_law := inr_28 _ (List.mem_of_getElem? (i := 15) rfl)
theorem mw_28_16 : Cond.selects RX0 yX0_listWith yX0_listWith ∈ wsL_law := inr_28 _ (List.mem_of_getElem? (i := 16) rfl)
theorem mw_28_17 : Cond.code yX0_listWith cX0_listWith 5 none ∈ wsL_law := inr_28 _ (List.mem_of_getElem? (i := 17) rfl)
theorem mw_28_18 : Cond.methodLink RX0 65 yX0_keyOf ∈ wsL_law := inr_28 _ (List.mem_of_getElem? (i := 18) rfl)
theorem mw_28_19 : Cond.instanceMethod yX0_keyOf ∈ wsL_law := inr_28 _ (List.mem_of_getElem? (i := 19) rfl)
theorem mw_28_20 : Cond.selects RX0 yX0_keyOf yX0_keyOf ∈ wsL_law := inr_28 _ (List.mem_of_getElem? (i := 20) rfl)
theorem mw_28_21 : Cond.code yX0_keyOf cX0_keyOf 3 (some .int) ∈ wsL_law := inr_28 _ (List.mem_of_getElem? (i := 21) rfl)
theorem mw_28_22 : Cond.methodLink RL 118 yX5_classes ∈ wsL_law := inr_28 _ (List.mem_of_getElem? (i := 22) rfl)
theorem mw_28_23 : Cond.instanceMethod yX5_classes ∈ wsL_law := inr_28 _ (List.mem_of_getElem? (i := 23) rfl)
theorem mw_29_0 : Cond.selects RX5 yX5_classes yX5_classes ∈ wsL_law := inr_29 _ (List.mem_of_getElem? (i := 0) rfl)
theorem mw_29_1 : Cond.code yX5_classes cX5_classes 2 (some .int) ∈ wsL_law := inr_29 _ (List.mem_of_getElem? (i := 1) rfl)
theorem mw_29_2 : Cond.fieldLink RX5 214 "FieldCountsModel" "many" "I" ∈ wsL_law := inr_29 _ (List.mem_of_getElem? (i := 2) rfl)
theorem mw_29_3 : Cond.methodLink RX5 226 yX5_needClasses ∈ wsL_law := inr_29 _ (List.mem_of_getElem? (i := 3) rfl)
theorem mw_29_4 : Cond.instanceMethod yX5_needClasses ∈ wsL_law := inr_29 _ (List.mem_of_getElem? (i := 4) rfl)
theorem mw_29_5 : Cond.selects RX5 yX5_needClasses yX5_needClasses ∈ wsL_law := inr_29 _ (List.mem_of_getElem? (i := 5) rfl)
theorem mw_29_6 : Cond.code yX5_needClasses cX5_needClasses 6 none ∈ wsL_law := inr_29 _ (List.mem_of_getElem? (i := 6) rfl)
theorem mw_29_7 : Cond.methodLink RX5 217 yX5_leaves ∈ wsL_law := inr_29 _ (List.mem_of_getElem? (i := 7) rfl)
theorem mw_29_8 : Cond.instanceMethod yX5_leaves ∈ wsL_law := inr_29 _ (List.mem_of_getElem? (i := 8) rfl)
theorem mw_29_9 : Cond.selects RX5 yX5_leaves yX5_leaves ∈ wsL_law := inr_29 _ (List.mem_of_getElem? (i := 9) rfl)
theorem mw_29_10 : Cond.code yX5_leaves cX5_leaves 6 (some .boolean) ∈ wsL_law := inr_29 _ (List.mem_of_getElem? (i := 10) rfl)
theorem mw_29_11 : Cond.methodLink RL 119 yX4_classAt ∈ wsL_law := inr_29 _ (List.mem_of_getElem? (i := 11) rfl)
theorem mw_29_12 : Cond.instanceMethod yX4_classAt ∈ wsL_law := inr_29 _ (List.mem_of_getElem? (i := 12) rfl)
theorem mw_29_13 : Cond.selects RX4 yX4_classAt yX4_classAt ∈ wsL_law := inr_29 _ (List.mem_of_getElem? (i := 13) rfl)
theorem mw_29_14 : Cond.code yX4_classAt cX4_classAt 6 (some .int) ∈ wsL_law := inr_29 _ (List.mem_of_getElem? (i := 14) rfl)
theorem mw_29_15 : Cond.methodLink RX4 202 yX0_keyAt ∈ wsL_law := inr_29 _ (List.mem_of_getElem? (i := 15) rfl)
theorem mw_29_16 : Cond.instanceMethod yX0_keyAt ∈ wsL_law := inr_29 _ (List.mem_of_getElem? (i := 16) rfl)
theorem mw_29_17 : Cond.selects RX0 yX0_keyAt yX0_keyAt ∈ wsL_law := inr_29 _ (List.mem_of_getElem? (i := 17) rfl)
theorem mw_29_18 : Cond.code yX0_keyAt cX0_keyAt 2 (some .int) ∈ wsL_law := inr_29 _ (List.mem_of_getElem? (i := 18) rfl)
theorem mw_29_19 : Cond.methodLink RX4 205 yX0_uOf ∈ wsL_law := inr_29 _ (List.mem_of_getElem? (i := 19) rfl)
theorem mw_29_20 : Cond.instanceMethod yX0_uOf ∈ wsL_law := inr_29 _ (List.mem_of_getElem? (i := 20) rfl)
theorem mw_29_21 : Cond.selects RX0 yX0_uOf yX0_uOf ∈ wsL_law := inr_29 _ (List.mem_of_getElem? (i := 21) rfl)
theorem mw_29_22 : Cond.code yX0_uOf cX0_uOf 2 (some .int) ∈ wsL_law := inr_29 _ (List.mem_of_getElem? (i := 22) rfl)
theorem mw_29_23 : Cond.methodLink RX4 208 yX0_vOf ∈ wsL_law := inr_29 _ (List.mem_of_getElem? (i := 23) rfl)
theorem mw_30_0 : Cond.instanceMethod yX0_vOf ∈ wsL_law := inr_30 _ (List.mem_of_getElem? (i := 0) rfl)
theorem mw_30_1 : Cond.selects RX0 yX0_vOf yX0_vOf ∈ wsL_law := inr_30 _ (List.mem_of_getElem? (i := 1) rfl)
theorem mw_30_2 : Cond.code yX0_vOf cX0_vOf 2 (some .int) ∈ wsL_law := inr_30 _ (List.mem_of_getElem? (i := 2) rfl)
theorem mw_30_3 : Cond.methodLink RL 122 yX5_classAt ∈ wsL_law := inr_30 _ (List.mem_of_getElem? (i := 3) rfl)
theorem mw_30_4 : Cond.instanceMethod yX5_classAt ∈ wsL_law := inr_30 _ (List.mem_of_getElem? (i := 4) rfl)
theorem mw_30_5 : Cond.selects RX5 yX5_classAt yX5_classAt ∈ wsL_law := inr_30 _ (List.mem_of_getElem? (i := 5) rfl)
theorem mw_30_6 : Cond.code yX5_classAt cX5_classAt 4 (some .int) ∈ wsL_law := inr_30 _ (List.mem_of_getElem? (i := 6) rfl)
theorem mw_30_7 : Cond.methodLink RL 123 yX4_add ∈ wsL_law := inr_30 _ (List.mem_of_getElem? (i := 7) rfl)
theorem mw_30_8 : Cond.instanceMethod yX4_add ∈ wsL_law := inr_30 _ (List.mem_of_getElem? (i := 8) rfl)
theorem mw_30_9 : Cond.selects RX4 yX4_add yX4_add ∈ wsL_law := inr_30 _ (List.mem_of_getElem? (i := 9) rfl)
theorem mw_30_10 : Cond.code yX4_add cX4_add 5 (some .int) ∈ wsL_law := inr_30 _ (List.mem_of_getElem? (i := 10) rfl)
theorem mw_30_11 : Cond.methodLink RX4 211 yX0_reaches ∈ wsL_law := inr_30 _ (List.mem_of_getElem? (i := 11) rfl)
theorem mw_30_12 : Cond.instanceMethod yX0_reaches ∈ wsL_law := inr_30 _ (List.mem_of_getElem? (i := 12) rfl)
theorem mw_30_13 : Cond.selects RX0 yX0_reaches yX0_reaches ∈ wsL_law := inr_30 _ (List.mem_of_getElem? (i := 13) rfl)
theorem mw_30_14 : Cond.code yX0_reaches cX0_reaches 2 (some .boolean) ∈ wsL_law := inr_30 _ (List.mem_of_getElem? (i := 14) rfl)
theorem mw_30_15 : Cond.methodLink RX0 45 yX0_many ∈ wsL_law := inr_30 _ (List.mem_of_getElem? (i := 15) rfl)
theorem mw_30_16 : Cond.methodLink RX4 214 yX0_sumOf ∈ wsL_law := inr_30 _ (List.mem_of_getElem? (i := 16) rfl)
theorem mw_30_17 : Cond.instanceMethod yX0_sumOf ∈ wsL_law := inr_30 _ (List.mem_of_getElem? (i := 17) rfl)
theorem mw_30_18 : Cond.selects RX0 yX0_sumOf yX0_sumOf ∈ wsL_law := inr_30 _ (List.mem_of_getElem? (i := 18) rfl)
theorem mw_30_19 : Cond.code yX0_sumOf cX0_sumOf 18 (some .int) ∈ wsL_law := inr_30 _ (List.mem_of_getElem? (i := 19) rfl)
theorem mw_30_20 : Cond.methodLink RX0 56 yX0_uOf ∈ wsL_law := inr_30 _ (List.mem_of_getElem? (i := 20) rfl)
theorem mw_30_21 : Cond.methodLink RX0 59 yX0_vOf ∈ wsL_law := inr_30 _ (List.mem_of_getElem? (i := 21) rfl)
theorem mw_30_22 : Cond.methodLink RX0 74 yX3_commonDivisor ∈ wsL_law := inr_30 _ (List.mem_of_getElem? (i := 22) rfl)
theorem mw_30_23 : Cond.methodLink RX0 77 yX3_cofactor ∈ wsL_law := inr_30 _ (List.mem_of_getElem? (i := 23) rfl)
theorem mw_31_0 : Cond.instanceMethod yX3_cofactor ∈ wsL_law := inr_31 _ (List.mem_of_getElem? (i := 0) rfl)
theorem mw_31_1 : Cond.selects RX3 yX3_cofactor yX3_cofactor ∈ wsL_law := inr_31 _ (List.mem_of_getElem? (i := 1) rfl)
theorem mw_31_2 : Cond.code yX3_cofactor cX3_cofactor 11 (some .int) ∈ wsL_law := inr_31 _ (List.mem_of_getElem? (i := 2) rfl)
theorem mw_31_3 : Cond.methodLink RX3 52 yX3_quotient ∈ wsL_law := inr_31 _ (List.mem_of_getElem? (i := 3) rfl)
theorem mw_31_4 : Cond.instanceMethod yX3_quotient ∈ wsL_law := inr_31 _ (List.mem_of_getElem? (i := 4) rfl)
theorem mw_31_5 : Cond.selects RX3 yX3_quotient yX3_quotient ∈ wsL_law := inr_31 _ (List.mem_of_getElem? (i := 5) rfl)
theorem mw_31_6 : Cond.code yX3_quotient cX3_quotient 9 (some .int) ∈ wsL_law := inr_31 _ (List.mem_of_getElem? (i := 6) rfl)
theorem mw_31_7 : Cond.methodLink RX0 80 yX3_product ∈ wsL_law := inr_31 _ (List.mem_of_getElem? (i := 7) rfl)
theorem mw_31_8 : Cond.methodLink RX0 62 yX3_difference ∈ wsL_law := inr_31 _ (List.mem_of_getElem? (i := 8) rfl)
theorem mw_31_9 : Cond.methodLink RX0 83 yX3_quotient ∈ wsL_law := inr_31 _ (List.mem_of_getElem? (i := 9) rfl)
theorem mw_31_10 : Cond.methodLink RX0 86 yX3_sum ∈ wsL_law := inr_31 _ (List.mem_of_getElem? (i := 10) rfl)
theorem mw_31_11 : Cond.methodLink RX0 89 yX0_reduced ∈ wsL_law := inr_31 _ (List.mem_of_getElem? (i := 11) rfl)
theorem mw_31_12 : Cond.instanceMethod yX0_reduced ∈ wsL_law := inr_31 _ (List.mem_of_getElem? (i := 12) rfl)
theorem mw_31_13 : Cond.selects RX0 yX0_reduced yX0_reduced ∈ wsL_law := inr_31 _ (List.mem_of_getElem? (i := 13) rfl)
theorem mw_31_14 : Cond.code yX0_reduced cX0_reduced 6 (some .int) ∈ wsL_law := inr_31 _ (List.mem_of_getElem? (i := 14) rfl)
theorem mw_31_15 : Cond.methodLink RX0 92 yX3_degree ∈ wsL_law := inr_31 _ (List.mem_of_getElem? (i := 15) rfl)
theorem mw_31_16 : Cond.methodLink RX0 95 yX3_monic ∈ wsL_law := inr_31 _ (List.mem_of_getElem? (i := 16) rfl)
theorem mw_31_17 : Cond.methodLink RX4 217 yX0_placeOf ∈ wsL_law := inr_31 _ (List.mem_of_getElem? (i := 17) rfl)
theorem mw_31_18 : Cond.instanceMethod yX0_placeOf ∈ wsL_law := inr_31 _ (List.mem_of_getElem? (i := 18) rfl)
theorem mw_31_19 : Cond.selects RX0 yX0_placeOf yX0_placeOf ∈ wsL_law := inr_31 _ (List.mem_of_getElem? (i := 19) rfl)
theorem mw_31_20 : Cond.code yX0_placeOf cX0_placeOf 3 (some .int) ∈ wsL_law := inr_31 _ (List.mem_of_getElem? (i := 20) rfl)
theorem mw_31_21 : Cond.methodLink RL 126 yX5_add ∈ wsL_law := inr_31 _ (List.mem_of_getElem? (i := 21) rfl)
theorem mw_31_22 : Cond.instanceMethod yX5_add ∈ wsL_law := inr_31 _ (List.mem_of_getElem? (i := 22) rfl)
theorem mw_31_23 : Cond.selects RX5 yX5_add yX5_add ∈ wsL_law := inr_31 _ (List.mem_of_getElem? (i := 23) rfl)
theorem mw_32_0 : Cond.code yX5_add cX5_add 4 (some .int) ∈ wsL_law := inr_32 _ (List.mem_of_getElem? (i := 0) rfl)
theorem mw_32_1 : Cond.methodLink RX5 232 yX5_isThere ∈ wsL_law := inr_32 _ (List.mem_of_getElem? (i := 1) rfl)
theorem mw_32_2 : Cond.instanceMethod yX5_isThere ∈ wsL_law := inr_32 _ (List.mem_of_getElem? (i := 2) rfl)
theorem mw_32_3 : Cond.selects RX5 yX5_isThere yX5_isThere ∈ wsL_law := inr_32 _ (List.mem_of_getElem? (i := 3) rfl)
theorem mw_32_4 : Cond.code yX5_isThere cX5_isThere 3 (some .boolean) ∈ wsL_law := inr_32 _ (List.mem_of_getElem? (i := 4) rfl)
theorem mw_32_5 : Cond.methodLink RX5 235 yX5_addOf ∈ wsL_law := inr_32 _ (List.mem_of_getElem? (i := 5) rfl)
theorem mw_32_6 : Cond.instanceMethod yX5_addOf ∈ wsL_law := inr_32 _ (List.mem_of_getElem? (i := 6) rfl)
theorem mw_32_7 : Cond.selects RX5 yX5_addOf yX5_addOf ∈ wsL_law := inr_32 _ (List.mem_of_getElem? (i := 7) rfl)
theorem mw_32_8 : Cond.code yX5_addOf cX5_addOf 4 (some .int) ∈ wsL_law := inr_32 _ (List.mem_of_getElem? (i := 8) rfl)
theorem mw_32_9 : Cond.methodLink RX5 229 yX5_find ∈ wsL_law := inr_32 _ (List.mem_of_getElem? (i := 9) rfl)
theorem mw_32_10 : Cond.instanceMethod yX5_find ∈ wsL_law := inr_32 _ (List.mem_of_getElem? (i := 10) rfl)
theorem mw_32_11 : Cond.selects RX5 yX5_find yX5_find ∈ wsL_law := inr_32 _ (List.mem_of_getElem? (i := 11) rfl)
theorem mw_32_12 : Cond.code yX5_find cX5_find 4 (some .int) ∈ wsL_law := inr_32 _ (List.mem_of_getElem? (i := 12) rfl)
theorem mw_32_13 : Cond.methodLink RL 127 yX4_minus ∈ wsL_law := inr_32 _ (List.mem_of_getElem? (i := 13) rfl)
theorem mw_32_14 : Cond.instanceMethod yX4_minus ∈ wsL_law := inr_32 _ (List.mem_of_getElem? (i := 14) rfl)
theorem mw_32_15 : Cond.selects RX4 yX4_minus yX4_minus ∈ wsL_law := inr_32 _ (List.mem_of_getElem? (i := 15) rfl)
theorem mw_32_16 : Cond.code yX4_minus cX4_minus 4 (some .int) ∈ wsL_law := inr_32 _ (List.mem_of_getElem? (i := 16) rfl)
theorem mw_32_17 : Cond.methodLink RX4 220 yX0_oppositeOf ∈ wsL_law := inr_32 _ (List.mem_of_getElem? (i := 17) rfl)
theorem mw_32_18 : Cond.instanceMethod yX0_oppositeOf ∈ wsL_law := inr_32 _ (List.mem_of_getElem? (i := 18) rfl)
theorem mw_32_19 : Cond.selects RX0 yX0_oppositeOf yX0_oppositeOf ∈ wsL_law := inr_32 _ (List.mem_of_getElem? (i := 19) rfl)
theorem mw_32_20 : Cond.code yX0_oppositeOf cX0_oppositeOf 2 (some .int) ∈ wsL_law := inr_32 _ (List.mem_of_getElem? (i := 20) rfl)
theorem mw_32_21 : Cond.methodLink RL 130 yX5_minus ∈ wsL_law := inr_32 _ (List.mem_of_getElem? (i := 21) rfl)
theorem mw_32_22 : Cond.instanceMethod yX5_minus ∈ wsL_law := inr_32 _ (List.mem_of_getElem? (i := 22) rfl)
theorem mw_32_23 : Cond.selects RX5 yX5_minus yX5_minus ∈ wsL_law := inr_32 _ (List.mem_of_getElem? (i := 23) rfl)
theorem mw_33_0 : Cond.code yX5_minus cX5_minus 3 (some .int) ∈ wsL_law := inr_33 _ (List.mem_of_getElem? (i := 0) rfl)
theorem mw_33_1 : Cond.methodLink RL 131 yX4_order ∈ wsL_law := inr_33 _ (List.mem_of_getElem? (i := 1) rfl)
theorem mw_33_2 : Cond.instanceMethod yX4_order ∈ wsL_law := inr_33 _ (List.mem_of_getElem? (i := 2) rfl)
theorem mw_33_3 : Cond.selects RX4 yX4_order yX4_order ∈ wsL_law := inr_33 _ (List.mem_of_getElem? (i := 3) rfl)
theorem mw_33_4 : Cond.code yX4_order cX4_order 4 (some .int) ∈ wsL_law := inr_33 _ (List.mem_of_getElem? (i := 4) rfl)
theorem mw_33_5 : Cond.methodLink RX4 223 yX0_orderOf ∈ wsL_law := inr_33 _ (List.mem_of_getElem? (i := 5) rfl)
theorem mw_33_6 : Cond.instanceMethod yX0_orderOf ∈ wsL_law := inr_33 _ (List.mem_of_getElem? (i := 6) rfl)
theorem mw_33_7 : Cond.selects RX0 yX0_orderOf yX0_orderOf ∈ wsL_law := inr_33 _ (List.mem_of_getElem? (i := 7) rfl)
theorem mw_33_8 : Cond.code yX0_orderOf cX0_orderOf 5 (some .int) ∈ wsL_law := inr_33 _ (List.mem_of_getElem? (i := 8) rfl)
theorem mw_33_9 : Cond.methodLink RX0 68 yX0_multipleOf ∈ wsL_law := inr_33 _ (List.mem_of_getElem? (i := 9) rfl)
theorem mw_33_10 : Cond.instanceMethod yX0_multipleOf ∈ wsL_law := inr_33 _ (List.mem_of_getElem? (i := 10) rfl)
theorem mw_33_11 : Cond.selects RX0 yX0_multipleOf yX0_multipleOf ∈ wsL_law := inr_33 _ (List.mem_of_getElem? (i := 11) rfl)
theorem mw_33_12 : Cond.code yX0_multipleOf cX0_multipleOf 6 (some .int) ∈ wsL_law := inr_33 _ (List.mem_of_getElem? (i := 12) rfl)
theorem mw_33_13 : Cond.methodLink RX0 71 yX0_sumOf ∈ wsL_law := inr_33 _ (List.mem_of_getElem? (i := 13) rfl)
theorem mw_33_14 : Cond.methodLink RL 134 yX5_order ∈ wsL_law := inr_33 _ (List.mem_of_getElem? (i := 14) rfl)
theorem mw_33_15 : Cond.instanceMethod yX5_order ∈ wsL_law := inr_33 _ (List.mem_of_getElem? (i := 15) rfl)
theorem mw_33_16 : Cond.selects RX5 yX5_order yX5_order ∈ wsL_law := inr_33 _ (List.mem_of_getElem? (i := 16) rfl)
theorem mw_33_17 : Cond.code yX5_order cX5_order 5 (some .int) ∈ wsL_law := inr_33 _ (List.mem_of_getElem? (i := 17) rfl)
theorem mw_33_18 : Cond.methodLink RL 135 yX4_told ∈ wsL_law := inr_33 _ (List.mem_of_getElem? (i := 18) rfl)
theorem mw_33_19 : Cond.instanceMethod yX4_told ∈ wsL_law := inr_33 _ (List.mem_of_getElem? (i := 19) rfl)
theorem mw_33_20 : Cond.selects RX4 yX4_told yX4_told ∈ wsL_law := inr_33 _ (List.mem_of_getElem? (i := 20) rfl)
theorem mw_33_21 : Cond.code yX4_told cX4_told 2 (some .int) ∈ wsL_law := inr_33 _ (List.mem_of_getElem? (i := 21) rfl)
theorem mw_33_22 : Cond.methodLink RL 138 yX5_told ∈ wsL_law := inr_33 _ (List.mem_of_getElem? (i := 22) rfl)
theorem mw_33_23 : Cond.instanceMethod yX5_told ∈ wsL_law := inr_33 _ (List.mem_of_getElem? (i := 23) rfl)
theorem mw_34_0 : Cond.selects RX5 yX5_told yX5_told ∈ wsL_law := inr_34 _ (List.mem_of_getElem? (i := 0) rfl)
theorem mw_34_1 : Cond.code yX5_told cX5_told 2 (some .int) ∈ wsL_law := inr_34 _ (List.mem_of_getElem? (i := 1) rfl)
theorem mw_34_2 : Cond.methodLink RL 139 yX4_traced ∈ wsL_law := inr_34 _ (List.mem_of_getElem? (i := 2) rfl)
theorem mw_34_3 : Cond.instanceMethod yX4_traced ∈ wsL_law := inr_34 _ (List.mem_of_getElem? (i := 3) rfl)
theorem mw_34_4 : Cond.selects RX4 yX4_traced yX4_traced ∈ wsL_law := inr_34 _ (List.mem_of_getElem? (i := 4) rfl)
theorem mw_34_5 : Cond.code yX4_traced cX4_traced 1 (some .long) ∈ wsL_law := inr_34 _ (List.mem_of_getElem? (i := 5) rfl)
theorem mw_34_6 : Cond.methodLink RL 143 yX5_traced ∈ wsL_law := inr_34 _ (List.mem_of_getElem? (i := 6) rfl)
theorem mw_34_7 : Cond.instanceMethod yX5_traced ∈ wsL_law := inr_34 _ (List.mem_of_getElem? (i := 7) rfl)
theorem mw_34_8 : Cond.selects RX5 yX5_traced yX5_traced ∈ wsL_law := inr_34 _ (List.mem_of_getElem? (i := 8) rfl)
theorem mw_34_9 : Cond.code yX5_traced cX5_traced 1 (some .long) ∈ wsL_law := inr_34 _ (List.mem_of_getElem? (i := 9) rfl)
theorem wsG_all : ∀ w ∈ wsL_law, goodWord w = true := by
  intro w h
  have all (l : List Cond) (hl : l.all goodWord = true) : ∀ w ∈ l, goodWord w = true := fun w hw => List.all_eq_true.mp hl w hw
  unfold wsL_law at h
  simp only [List.mem_append] at h
  simp only [List.not_mem_nil, or_false] at h
  rcases h with ((((((h | (h | (h | (h | (h | (h | (h | (h | (h | (h | (h | (h | (h | (h | (h | (h | (h | (h | (h | (h | (h | (h | (h | (h | (h | (h | (h | (h | (h | (h | (h | (h | (h | h))))))))))))))))))))))))))))))))) | h) | h) | h) | h) | h) | h
  · exact all _ (by decide +kernel) _ h
  · exact all _ (by decide +kernel) _ h
  · exact all _ (by decide +kernel) _ h
  · exact all _ (by decide +kernel) _ h
  · exact all _ (by decide +kernel) _ h
  · exact all _ (by decide +kernel) _ h
  · exact all _ (by decide +kernel) _ h
  · exact all _ (by decide +kernel) _ h
  · exact all _ (by decide +kernel) _ h
  · exact all _ (by decide +kernel) _ h
  · exact all _ (by decide +kernel) _ h
  · exact all _ (by decide +kernel) _ h
  · exact all _ (by decide +kernel) _ h
  · exact all _ (by decide +kernel) _ h
  · exact all _ (by decide +kernel) _ h
  · exact all _ (by decide +kernel) _ h
  · exact all _ (by decide +kernel) _ h
  · exact all _ (by decide +kernel) _ h
  · exact all _ (by decide +kernel) _ h
  · exact all _ (by decide +kernel) _ h
  · exact all _ (by decide +kernel) _ h
  · exact all _ (by decide +kernel) _ h
  · exact all _ (by decide +kernel) _ h
  · exact all _ (by decide +kernel) _ h
  · exact all _ (by decide +kernel) _ h
  · exact all _ (by decide +kernel) _ h
  · exact all _ (by decide +kernel) _ h
  · exact all _ (by decide +kernel) _ h
  · exact all _ (by decide +kernel) _ h
  · exact all _ (by decide +kernel) _ h
  · exact all _ (by decide +kernel) _ h
  · exact all _ (by decide +kernel) _ h
  · exact all _ (by decide +kernel) _ h
  · exact all _ (by decide +kernel) _ h
  · exact all _ (by decide +kernel) _ h
  · exact all _ (by decide +kernel) _ h
  · exact all _ (by decide +kernel) _ h
  · exact all _ (by decide +kernel) _ h
  · exact all _ (by decide +kernel) _ h
  · exact all _ (by decide +kernel) _ h

