def R_O : String := "RealOperations"
def R_R : String := "RealOperations$Real"
def R_S : String := "RealOperations$Size"
def R_Lg : String := "java/lang/Long"
def R_M : String := "RealOperationsModel"
def R_L : String := "RealOperationsLaw"
def F_O : u_T := fun k => match k with
  | 0 => ("RealOperations", "tops", "[I", true)
  | 1 => ("RealOperations", "fractions", "[J", true)
  | 2 => ("RealOperations", "controlWord", "I", false)
  | 3 => ("RealOperations", "toldSoFar", "I", false)
  | 4 => ("RealOperations", "first", "LRealOperations$Real;", true)
  | 5 => ("RealOperations", "second", "LRealOperations$Real;", true)
  | 6 => ("RealOperations", "answer", "LRealOperations$Real;", true)
  | 7 => ("RealOperations", "size", "LRealOperations$Size;", true)
  | _ => ("RealOperations", "otherSize", "LRealOperations$Size;", true)
def t_O : Nat → FieldType := fun k => match k with
  | 0 => .array .int
  | 1 => .array .long
  | 2 => .int
  | 3 => .int
  | 4 => .object "RealOperations$Real"
  | 5 => .object "RealOperations$Real"
  | 6 => .object "RealOperations$Real"
  | 7 => .object "RealOperations$Size"
  | _ => .object "RealOperations$Size"
theorem n_O : ∀ a, a < 9 → ∀ b, b < 9 → a ≠ b → (F_O a).2.1 ≠ (F_O b).2.1 := by decide +kernel
theorem t_O_ok : ∀ k, k < 9 → parseFieldDescriptor (F_O k).2.2.1 = some (t_O k) := by decide +kernel
def F_R : u_T := fun k => match k with
  | 0 => ("RealOperations$Real", "negative", "Z", false)
  | 1 => ("RealOperations$Real", "power", "I", false)
  | _ => ("RealOperations$Real", "fraction", "J", false)
def t_R : Nat → FieldType := fun k => match k with
  | 0 => .boolean
  | 1 => .int
  | _ => .long
theorem n_R : ∀ a, a < 3 → ∀ b, b < 3 → a ≠ b → (F_R a).2.1 ≠ (F_R b).2.1 := by decide +kernel
theorem t_R_ok : ∀ k, k < 3 → parseFieldDescriptor (F_R k).2.2.1 = some (t_R k) := by decide +kernel
def F_S : u_T := fun k => match k with
  | 0 => ("RealOperations$Size", "high", "J", false)
  | 1 => ("RealOperations$Size", "low", "J", false)
  | _ => ("RealOperations$Size", "exponent", "I", false)
def t_S : Nat → FieldType := fun k => match k with
  | 0 => .long
  | 1 => .long
  | _ => .int
theorem n_S : ∀ a, a < 3 → ∀ b, b < 3 → a ≠ b → (F_S a).2.1 ≠ (F_S b).2.1 := by decide +kernel
theorem t_S_ok : ∀ k, k < 3 → parseFieldDescriptor (F_S k).2.2.1 = some (t_S k) := by decide +kernel
def F_M : u_T := fun k => match k with
  | 0 => ("RealOperationsModel", "code", "I", false)
  | 1 => ("RealOperationsModel", "word", "I", false)
  | 2 => ("RealOperationsModel", "top", "[I", true)
  | 3 => ("RealOperationsModel", "fraction", "[J", true)
  | 4 => ("RealOperationsModel", "all", "I", false)
  | 5 => ("RealOperationsModel", "minus", "[Z", true)
  | 6 => ("RealOperationsModel", "power", "[I", true)
  | 7 => ("RealOperationsModel", "part", "[J", true)
  | 8 => ("RealOperationsModel", "row", "[Z", true)
  | 9 => ("RealOperationsModel", "size", "I", false)
  | 10 => ("RealOperationsModel", "unit", "I", false)
  | 11 => ("RealOperationsModel", "more", "Z", false)
  | 12 => ("RealOperationsModel", "told", "I", false)
  | 13 => ("RealOperationsModel", "stopped", "Z", false)
  | 14 => ("RealOperationsModel", "topOf", "I", false)
  | 15 => ("RealOperationsModel", "fractionOf", "J", false)
  | _ => ("RealOperationsModel", "lossy", "Z", false)
def t_M : Nat → FieldType := fun k => match k with
  | 0 => .int
  | 1 => .int
  | 2 => .array .int
  | 3 => .array .long
  | 4 => .int
  | 5 => .array .boolean
  | 6 => .array .int
  | 7 => .array .long
  | 8 => .array .boolean
  | 9 => .int
  | 10 => .int
  | 11 => .boolean
  | 12 => .int
  | 13 => .boolean
  | 14 => .int
  | 15 => .long
  | _ => .boolean
theorem n_M : ∀ a, a < 17 → ∀ b, b < 17 → a ≠ b → (F_M a).2.1 ≠ (F_M b).2.1 := by decide +kernel
theorem t_M_ok : ∀ k, k < 17 → parseFieldDescriptor (F_M k).2.2.1 = some (t_M k) := by decide +kernel
abbrev classes : List vw_C := [(R_O, F_O, 9), (R_R, F_R, 3), (R_S, F_S, 3), (R_M, F_M, 17)]
abbrev b_Lg_compare : ByteArray := prog_9_method_42_code
def y_Lg_compare : MethodName := ⟨R_Lg, "compare", "(JJ)I"⟩
abbrev b_Lg_compareUnsigned : ByteArray := prog_9_method_43_code
def y_Lg_compareUnsigned : MethodName := ⟨R_Lg, "compareUnsigned", "(JJ)I"⟩
abbrev b_R_init : ByteArray := prog_2_method_1_code
def y_R_init : MethodName := ⟨R_R, "<init>", "()V"⟩
abbrev b_S_init : ByteArray := prog_3_method_1_code
def y_S_init : MethodName := ⟨R_S, "<init>", "()V"⟩
abbrev b_R_put : ByteArray := prog_2_method_3_code
def y_R_put : MethodName := ⟨R_R, "put", "(ZIJ)V"⟩
abbrev b_R_take : ByteArray := prog_2_method_2_code
def y_R_take : MethodName := ⟨R_R, "take", "(IJ)V"⟩
abbrev b_R_isDenormal : ByteArray := prog_2_method_6_code
def y_R_isDenormal : MethodName := ⟨R_R, "isDenormal", "()Z"⟩
abbrev b_R_isUnnormalOfSize : ByteArray := prog_2_method_7_code
def y_R_isUnnormalOfSize : MethodName := ⟨R_R, "isUnnormalOfSize", "()Z"⟩
abbrev b_R_isNothing : ByteArray := prog_2_method_8_code
def y_R_isNothing : MethodName := ⟨R_R, "isNothing", "()Z"⟩
abbrev b_R_isInfinite : ByteArray := prog_2_method_9_code
def y_R_isInfinite : MethodName := ⟨R_R, "isInfinite", "()Z"⟩
abbrev b_R_isNoNumber : ByteArray := prog_2_method_10_code
def y_R_isNoNumber : MethodName := ⟨R_R, "isNoNumber", "()Z"⟩
abbrev b_R_top : ByteArray := prog_2_method_5_code
def y_R_top : MethodName := ⟨R_R, "top", "()I"⟩
abbrev b_S_isZero : ByteArray := prog_3_method_3_code
def y_S_isZero : MethodName := ⟨R_S, "isZero", "()Z"⟩
abbrev b_S_power : ByteArray := prog_3_method_4_code
def y_S_power : MethodName := ⟨R_S, "power", "()I"⟩
abbrev b_S_isLessThan : ByteArray := prog_3_method_5_code
def y_S_isLessThan : MethodName := ⟨R_S, "isLessThan", "(LRealOperations$Size;)Z"⟩
abbrev b_S_normalize : ByteArray := prog_3_method_6_code
def y_S_normalize : MethodName := ⟨R_S, "normalize", "()V"⟩
abbrev b_S_take : ByteArray := prog_3_method_2_code
def y_S_take : MethodName := ⟨R_S, "take", "(LRealOperations$Real;)V"⟩
abbrev b_S_shiftRight : ByteArray := prog_3_method_7_code
def y_S_shiftRight : MethodName := ⟨R_S, "shiftRight", "(I)V"⟩
abbrev b_S_add : ByteArray := prog_3_method_8_code
def y_S_add : MethodName := ⟨R_S, "add", "(LRealOperations$Size;)V"⟩
abbrev b_S_subtract : ByteArray := prog_3_method_9_code
def y_S_subtract : MethodName := ⟨R_S, "subtract", "(LRealOperations$Size;)V"⟩
abbrev b_S_takeProduct : ByteArray := prog_3_method_11_code
def y_S_takeProduct : MethodName := ⟨R_S, "takeProduct", "(JJ)V"⟩
abbrev b_S_multiply : ByteArray := prog_3_method_10_code
def y_S_multiply : MethodName := ⟨R_S, "multiply", "(LRealOperations$Size;)V"⟩
abbrev b_S_divide : ByteArray := prog_3_method_12_code
def y_S_divide : MethodName := ⟨R_S, "divide", "(LRealOperations$Size;)V"⟩
abbrev b_S_isAbove : ByteArray := prog_3_method_14_code
def y_S_isAbove : MethodName := ⟨R_S, "isAbove", "(JJ)Z"⟩
abbrev b_S_digitsBelowRoot : ByteArray := prog_3_method_15_code
def y_S_digitsBelowRoot : MethodName := ⟨R_S, "digitsBelowRoot", "(JJJ)J"⟩
abbrev b_S_takeRoot : ByteArray := prog_3_method_13_code
def y_S_takeRoot : MethodName := ⟨R_S, "takeRoot", "()V"⟩
abbrev b_S_isRoundedAway : ByteArray := prog_3_method_17_code
def y_S_isRoundedAway : MethodName := ⟨R_S, "isRoundedAway", "(IZIZ)Z"⟩
abbrev b_S_compareDroppedWithHalf : ByteArray := prog_3_method_18_code
def y_S_compareDroppedWithHalf : MethodName := ⟨R_S, "compareDroppedWithHalf", "(I)I"⟩
abbrev b_S_round : ByteArray := prog_3_method_16_code
def y_S_round : MethodName := ⟨R_S, "round", "(IIZ)Z"⟩
abbrev b_R_putSize : ByteArray := prog_2_method_4_code
def y_R_putSize : MethodName := ⟨R_R, "putSize", "(ZLRealOperations$Size;)V"⟩
abbrev b_O_isRegister : ByteArray := prog_1_method_8_code
def y_O_isRegister : MethodName := ⟨R_O, "isRegister", "(I)Z"⟩
abbrev b_O_hasSixteenBits : ByteArray := prog_1_method_9_code
def y_O_hasSixteenBits : MethodName := ⟨R_O, "hasSixteenBits", "(I)Z"⟩
abbrev b_O_isDifference : ByteArray := prog_1_method_11_code
def y_O_isDifference : MethodName := ⟨R_O, "isDifference", "(I)Z"⟩
abbrev b_O_isSum : ByteArray := prog_1_method_10_code
def y_O_isSum : MethodName := ⟨R_O, "isSum", "(I)Z"⟩
abbrev b_O_isQuotient : ByteArray := prog_1_method_12_code
def y_O_isQuotient : MethodName := ⟨R_O, "isQuotient", "(I)Z"⟩
abbrev b_O_isMasked : ByteArray := prog_1_method_13_code
def y_O_isMasked : MethodName := ⟨R_O, "isMasked", "(I)Z"⟩
abbrev b_O_isStopped : ByteArray := prog_1_method_14_code
def y_O_isStopped : MethodName := ⟨R_O, "isStopped", "(I)Z"⟩
abbrev b_O_digits : ByteArray := prog_1_method_15_code
def y_O_digits : MethodName := ⟨R_O, "digits", "()I"⟩
abbrev b_O_rounding : ByteArray := prog_1_method_16_code
def y_O_rounding : MethodName := ⟨R_O, "rounding", "()I"⟩
abbrev b_O_hasTwoInfinites : ByteArray := prog_1_method_17_code
def y_O_hasTwoInfinites : MethodName := ⟨R_O, "hasTwoInfinites", "()Z"⟩
abbrev b_O_told : ByteArray := prog_1_method_6_code
def y_O_told : MethodName := ⟨R_O, "told", "()I"⟩
abbrev b_O_clear : ByteArray := prog_1_method_7_code
def y_O_clear : MethodName := ⟨R_O, "clear", "()V"⟩
abbrev b_O_hasOppositeSigns : ByteArray := prog_1_method_20_code
def y_O_hasOppositeSigns : MethodName := ⟨R_O, "hasOppositeSigns", "()Z"⟩
abbrev b_O_isInvalidRoot : ByteArray := prog_1_method_23_code
def y_O_isInvalidRoot : MethodName := ⟨R_O, "isInvalidRoot", "()Z"⟩
abbrev b_O_isInvalid : ByteArray := prog_1_method_22_code
def y_O_isInvalid : MethodName := ⟨R_O, "isInvalid", "(I)Z"⟩
abbrev b_O_answerNoNumber : ByteArray := prog_1_method_21_code
def y_O_answerNoNumber : MethodName := ⟨R_O, "answerNoNumber", "()V"⟩
abbrev b_O_answerOfInfinite : ByteArray := prog_1_method_24_code
def y_O_answerOfInfinite : MethodName := ⟨R_O, "answerOfInfinite", "(I)V"⟩
abbrev b_O_computeSum : ByteArray := prog_1_method_26_code
def y_O_computeSum : MethodName := ⟨R_O, "computeSum", "()Z"⟩
abbrev b_O_computeExactly : ByteArray := prog_1_method_25_code
def y_O_computeExactly : MethodName := ⟨R_O, "computeExactly", "(I)Z"⟩
abbrev b_O_roundSmall : ByteArray := prog_1_method_28_code
def y_O_roundSmall : MethodName := ⟨R_O, "roundSmall", "(Z)I"⟩
abbrev b_O_answerGreat : ByteArray := prog_1_method_29_code
def y_O_answerGreat : MethodName := ⟨R_O, "answerGreat", "(Z)I"⟩
abbrev b_O_make : ByteArray := prog_1_method_27_code
def y_O_make : MethodName := ⟨R_O, "make", "(Z)I"⟩
abbrev b_O_carryOut : ByteArray := prog_1_method_19_code
def y_O_carryOut : MethodName := ⟨R_O, "carryOut", "(I)I"⟩
abbrev b_O_takeOperands : ByteArray := prog_1_method_18_code
def y_O_takeOperands : MethodName := ⟨R_O, "takeOperands", "(III)V"⟩
abbrev b_O_control : ByteArray := prog_1_method_2_code
def y_O_control : MethodName := ⟨R_O, "control", "(I)V"⟩
abbrev b_O_set : ByteArray := prog_1_method_3_code
def y_O_set : MethodName := ⟨R_O, "set", "(IIII)V"⟩
abbrev b_O_part : ByteArray := prog_1_method_4_code
def y_O_part : MethodName := ⟨R_O, "part", "(II)I"⟩
abbrev b_O_operate : ByteArray := prog_1_method_5_code
def y_O_operate : MethodName := ⟨R_O, "operate", "(IIII)I"⟩
abbrev b_O_init : ByteArray := prog_1_method_1_code
def y_O_init : MethodName := ⟨R_O, "<init>", "()V"⟩
abbrev b_M_none : ByteArray := prog_5_method_4_code
def y_M_none : MethodName := ⟨R_M, "none", "(I)Z"⟩
abbrev b_M_below : ByteArray := prog_5_method_15_code
def y_M_below : MethodName := ⟨R_M, "below", "(JJ)Z"⟩
abbrev b_M_thrown : ByteArray := prog_5_method_2_code
def y_M_thrown : MethodName := ⟨R_M, "thrown", "()I"⟩
abbrev b_M_told : ByteArray := prog_5_method_7_code
def y_M_told : MethodName := ⟨R_M, "told", "()I"⟩
abbrev b_M_clear : ByteArray := prog_5_method_8_code
def y_M_clear : MethodName := ⟨R_M, "clear", "()V"⟩
abbrev b_M_digits : ByteArray := prog_5_method_23_code
def y_M_digits : MethodName := ⟨R_M, "digits", "()I"⟩
abbrev b_M_control : ByteArray := prog_5_method_3_code
def y_M_control : MethodName := ⟨R_M, "control", "(I)V"⟩
abbrev b_M_tell : ByteArray := prog_5_method_16_code
def y_M_tell : MethodName := ⟨R_M, "tell", "(I)Z"⟩
abbrev b_M_answer : ByteArray := prog_5_method_17_code
def y_M_answer : MethodName := ⟨R_M, "answer", "(ZIJ)V"⟩
abbrev b_M_isNone : ByteArray := prog_5_method_9_code
def y_M_isNone : MethodName := ⟨R_M, "isNone", "(I)Z"⟩
abbrev b_M_isEndless : ByteArray := prog_5_method_10_code
def y_M_isEndless : MethodName := ⟨R_M, "isEndless", "(I)Z"⟩
abbrev b_M_isNothing : ByteArray := prog_5_method_11_code
def y_M_isNothing : MethodName := ⟨R_M, "isNothing", "(I)Z"⟩
abbrev b_M_isDenormal : ByteArray := prog_5_method_12_code
def y_M_isDenormal : MethodName := ⟨R_M, "isDenormal", "(I)Z"⟩
abbrev b_M_isUnnormal : ByteArray := prog_5_method_13_code
def y_M_isUnnormal : MethodName := ⟨R_M, "isUnnormal", "(I)Z"⟩
abbrev b_M_unitOf : ByteArray := prog_5_method_14_code
def y_M_unitOf : MethodName := ⟨R_M, "unitOf", "(I)I"⟩
abbrev b_M_set : ByteArray := prog_5_method_5_code
def y_M_set : MethodName := ⟨R_M, "set", "(IIII)V"⟩
abbrev b_M_part : ByteArray := prog_5_method_6_code
def y_M_part : MethodName := ⟨R_M, "part", "(II)I"⟩
abbrev b_M_bit : ByteArray := prog_5_method_18_code
def y_M_bit : MethodName := ⟨R_M, "bit", "(I)Z"⟩
abbrev b_M_highest : ByteArray := prog_5_method_19_code
def y_M_highest : MethodName := ⟨R_M, "highest", "()I"⟩
abbrev b_M_rest : ByteArray := prog_5_method_20_code
def y_M_rest : MethodName := ⟨R_M, "rest", "(I)Z"⟩
abbrev b_M_times : ByteArray := prog_5_method_21_code
def y_M_times : MethodName := ⟨R_M, "times", "(IZ)J"⟩
abbrev b_M_put : ByteArray := prog_5_method_22_code
def y_M_put : MethodName := ⟨R_M, "put", "(ZJZII)V"⟩
abbrev b_M_make : ByteArray := prog_5_method_24_code
def y_M_make : MethodName := ⟨R_M, "make", "(Z)V"⟩
abbrev b_M_empty : ByteArray := prog_5_method_25_code
def y_M_empty : MethodName := ⟨R_M, "empty", "(II)V"⟩
abbrev b_M_join : ByteArray := prog_5_method_26_code
def y_M_join : MethodName := ⟨R_M, "join", "(JIZ)V"⟩
abbrev b_M_isLess : ByteArray := prog_5_method_27_code
def y_M_isLess : MethodName := ⟨R_M, "isLess", "()Z"⟩
abbrev b_M_sum : ByteArray := prog_5_method_28_code
def y_M_sum : MethodName := ⟨R_M, "sum", "()V"⟩
abbrev b_M_product : ByteArray := prog_5_method_29_code
def y_M_product : MethodName := ⟨R_M, "product", "(Z)V"⟩
abbrev b_M_quotient : ByteArray := prog_5_method_30_code
def y_M_quotient : MethodName := ⟨R_M, "quotient", "(Z)V"⟩
abbrev b_M_root : ByteArray := prog_5_method_31_code
def y_M_root : MethodName := ⟨R_M, "root", "()V"⟩
abbrev b_M_take : ByteArray := prog_5_method_32_code
def y_M_take : MethodName := ⟨R_M, "take", "(II)V"⟩
abbrev b_M_noNumber : ByteArray := prog_5_method_33_code
def y_M_noNumber : MethodName := ⟨R_M, "noNumber", "(III)V"⟩
abbrev b_M_isWrong : ByteArray := prog_5_method_34_code
def y_M_isWrong : MethodName := ⟨R_M, "isWrong", "(I)Z"⟩
abbrev b_M_work : ByteArray := prog_5_method_35_code
def y_M_work : MethodName := ⟨R_M, "work", "(I)V"⟩
abbrev b_M_operate : ByteArray := prog_5_method_36_code
def y_M_operate : MethodName := ⟨R_M, "operate", "(IIII)I"⟩
abbrev b_M_init : ByteArray := prog_5_method_1_code
def y_M_init : MethodName := ⟨R_M, "<init>", "()V"⟩
abbrev b_L_control : ByteArray := method_3_code
def y_L_control : MethodName := ⟨R_L, "control", "(LRealOperations;I)I"⟩
abbrev b_L_set : ByteArray := method_4_code
def y_L_set : MethodName := ⟨R_L, "set", "(LRealOperations;IIII)I"⟩
abbrev b_L_part : ByteArray := method_5_code
def y_L_part : MethodName := ⟨R_L, "part", "(LRealOperations;II[J)I"⟩
abbrev b_L_operate : ByteArray := method_6_code
def y_L_operate : MethodName := ⟨R_L, "operate", "(LRealOperations;IIII[J)I"⟩
abbrev b_L_law : ByteArray := code
/-! Own rows: booleans and shifts as the machine has them; a join of roads; a loop; a call by contract over one list of words. -/
def b2i (b : Bool) : Int32 := match b with
  | true => 1
  | false => 0
theorem b2i_z {b : Bool} (h : b2i b = 0) : ¬ b = true := by
  intro q
  subst q
  exact absurd h (by decide)
theorem b2i_nz {b : Bool} (h : ¬ b2i b = 0) : b = true := by
  cases b
  · exact absurd rfl h
  · rfl
theorem nar_b2i (b : Bool) : narrow .boolean (.int (b2i b)) = .int (b2i b) := by cases b <;> rfl
theorem fit_b2i (b : Bool) : fits .boolean (.int (b2i b)) = true := by cases b <;> rfl
def updB (f : Nat → Bool) (k : Nat) (x : Bool) : Nat → Bool := fun j => if j = k then x else f j
theorem upd_b2i (f : Nat → Bool) (k : Nat) (x : Bool) : upd (fun j => b2i (f j)) k (vp_nar .boolean (b2i x)) = fun j => b2i (updB f k x j) := by
  funext j
  have h : vp_nar .boolean (b2i x) = b2i x := by cases x <;> rfl
  rw [h]
  unfold upd updB
  by_cases q : j = k
  · rw [if_pos q, if_pos q]
  · rw [if_neg q, if_neg q]
def sL (x : Int64) (y : Int32) : Int64 := x <<< (y.toInt64 &&& 63)
def uR (x : Int64) (y : Int32) : Int64 := (x.toUInt64 >>> (y.toInt64.toUInt64 &&& Int64.toUInt64 63)).toInt64
def aR (x : Int64) (y : Int32) : Int64 := x >>> (y.toInt64 &&& 63)
def iU (x y : Int32) : Int32 := (x.toUInt32 >>> (y.toUInt32 &&& Int32.toUInt32 31)).toInt32
def lrun0 {S : Type} (nx : S → Option S) : Nat → S → S
  | 0, v => v
  | n + 1, v => match nx v with
    | none => v
    | some w => lrun0 nx n w
theorem lrun_ex {S : Type} (nx : S → Option S) : ∃ f : Nat → S → S, f = lrun0 nx := ⟨_, rfl⟩
/-- a loop's end after n turns at most; by choice, so that nobody unrolls it -/
noncomputable def lrun {S : Type} (nx : S → Option S) : Nat → S → S := Classical.choose (lrun_ex nx)
theorem lrun_is {S : Type} (nx : S → Option S) : lrun nx = lrun0 nx := Classical.choose_spec (lrun_ex nx)
theorem lrun_zero {S : Type} (nx : S → Option S) (v : S) : lrun nx 0 v = v := by rw [lrun_is]; rfl
theorem lrun_none {S : Type} {nx : S → Option S} {v : S} (h : nx v = none) : ∀ n, lrun nx n v = v := by
  intro n
  rw [lrun_is]
  cases n with
  | zero => rfl
  | succ n => simp only [lrun0, h]
theorem lrun_some {S : Type} {nx : S → Option S} {v w : S} (h : nx v = some w) (n : Nat) : lrun nx (n + 1) v = lrun nx n w := by
  rw [lrun_is]
  simp only [lrun0, h]
section OwnRows
variable {p : Program} {l : Launch} {e : Env} {R : Room} {s : State} {m : MethodId} {args : Array Value} {below : List Frame} {meth : Method} {c : Code} {H : Heap} {locs : List Loc} {cells slots : Nat} {Q : State → Prop}
theorem cut_join {X : Type} (k n : Nat) (pr : X → Heap → List Loc → Array Slot → Prop) (fr : X → Array Slot → JFrame) {g : JFrame}
    (J : ∀ (x : X) (H : Heap) (locs : List Loc) (ls : Array Slot), pr x H locs ls → W p l e R s m args below meth c H locs k n Q (fr x ls))
    (K : (∀ (x : X) (H : Heap) (locs : List Loc) (ls : Array Slot), pr x H locs ls → W p l e R s m args below meth c H locs k n Q (fr x ls)) → W p l e R s m args below meth c H locs cells slots Q g) : W p l e R s m args below meth c H locs cells slots Q g := K J
theorem loop_cut {S : Type} (nx : S → Option S) (n : Nat) (v0 : S) (hn : nx (lrun nx n v0) = none) (k j : Nat) (pr : S → Heap → List Loc → Array Slot → Prop) (fh fe : S → Array Slot → JFrame)
    (step : ∀ v : S, (nx v = none → ∀ (H : Heap) (locs : List Loc) (ls : Array Slot), pr v H locs ls → W p l e R s m args below meth c H locs k j Q (fe v ls)) →
      (∀ w : S, nx v = some w → ∀ (H : Heap) (locs : List Loc) (ls : Array Slot), pr w H locs ls → W p l e R s m args below meth c H locs k j Q (fh w ls)) →
      ∀ (H : Heap) (locs : List Loc) (ls : Array Slot), pr v H locs ls → W p l e R s m args below meth c H locs k j Q (fh v ls))
    (E : ∀ (v : S) (H : Heap) (locs : List Loc) (ls : Array Slot), v = lrun nx n v0 → pr v H locs ls → W p l e R s m args below meth c H locs k j Q (fe v ls)) :
    ∀ (H : Heap) (locs : List Loc) (ls : Array Slot), pr v0 H locs ls → W p l e R s m args below meth c H locs k j Q (fh v0 ls) := by
  induction n generalizing v0 with
  | zero =>
    refine step v0 (fun _ H locs ls h => E v0 H locs ls (lrun_zero nx v0).symm h) (fun w hw => ?_)
    rw [lrun_zero, hw] at hn
    cases hn
  | succ n ih =>
    refine step v0 (fun h0 H locs ls h => E v0 H locs ls (lrun_none h0 _).symm h) (fun w hw => ?_)
    have e1 : lrun nx (n + 1) v0 = lrun nx n w := lrun_some hw n
    rw [e1] at hn
    exact ih w hn (fun v H locs ls hv h => E v H locs ls (by rw [e1]; exact hv) h)
end OwnRows
/-- a word of a nest mate's private member -/
def isNest (w : Cond) : Bool := match w with
  | .fieldLinkNest .. => true
  | .methodLinkNest .. => true
  | .castable .. => true
  | .declares .. => true
  | _ => false
theorem nest_warm {w : Cond} (hw : isNest w = true) {s U : State} (hW : s.WarmedH U.vm) (hZ : va_Nw w s) : va_Nw w U := by
  cases w <;> first | exact va_Nw.warmF hW hZ | exact va_Nw.warmM hW hZ | exact va_Nw.warmC hW hZ | exact va_Nw.warmD hW hZ | cases hw
theorem nest_on {w : Cond} (hw : isNest w = true) : w.onTables = true := by
  cases w <;> first | rfl | cases hw

