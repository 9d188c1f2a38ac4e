def wOwn : List Cond := [
  .code y_Lg_compare b_Lg_compare 4 (some .int),
  .constantLong R_Lg 168 (-9223372036854775808),
  .initialized R_Lg,
  .methodLink R_Lg 302 y_Lg_compare,
  .static y_Lg_compare,
  .code y_Lg_compareUnsigned b_Lg_compareUnsigned 4 (some .int),
  .methodLink R_R 3 objectInit,
  .instanceMethod objectInit,
  .code objectInit ⟨#[0xb1]⟩ 1 none,
  .fieldLink R_R 9 "RealOperations$Real" "negative" "Z",
  .fieldLink R_R 15 "RealOperations$Real" "power" "I",
  .fieldLink R_R 19 "RealOperations$Real" "fraction" "J",
  .code y_R_init b_R_init 1 none,
  .methodLink R_S 3 objectInit,
  .fieldLink R_S 9 "RealOperations$Size" "high" "J",
  .fieldLink R_S 15 "RealOperations$Size" "low" "J",
  .fieldLink R_S 18 "RealOperations$Size" "exponent" "I",
  .code y_S_init b_S_init 1 none,
  .code y_R_put b_R_put 5 none,
  .constant R_R 23 32768,
  .initialized R_R,
  .methodLink R_R 24 y_R_put,
  .instanceMethod y_R_put,
  .selects R_R y_R_put y_R_put,
  .code y_R_take b_R_take 4 none,
  .code y_R_isDenormal b_R_isDenormal 1 (some .boolean),
  .code y_R_isUnnormalOfSize b_R_isUnnormalOfSize 1 (some .boolean),
  .code y_R_isNothing b_R_isNothing 1 (some .boolean),
  .code y_R_isInfinite b_R_isInfinite 1 (some .boolean),
  .code y_R_isNoNumber b_R_isNoNumber 1 (some .boolean),
  .code y_R_top b_R_top 1 (some .int),
  .code y_S_isZero b_S_isZero 1 (some .boolean),
  .code y_S_power b_S_power 1 (some .int),
  .methodLink R_S 39 y_Lg_compareUnsigned,
  .static y_Lg_compareUnsigned,
  .code y_S_isLessThan b_S_isLessThan 2 (some .boolean),
  .initialized R_S,
  .methodLink R_S 45 y_S_isZero,
  .instanceMethod y_S_isZero,
  .selects R_S y_S_isZero y_S_isZero,
  .code y_S_normalize b_S_normalize 2 none,
  .methodLink R_S 30 Lib.Math.max.name,
  .static Lib.Math.max.name,
  .initialized "java/lang/Math",
  .code Lib.Math.max.name Lib.Math.max.code 2 (some .int),
  .methodLink R_S 36 y_S_normalize,
  .instanceMethod y_S_normalize,
  .selects R_S y_S_normalize y_S_normalize,
  .code y_S_take b_S_take 2 none,
  .methodLink R_S 49 Lib.Math.min.name,
  .static Lib.Math.min.name,
  .code Lib.Math.min.name Lib.Math.min.code 2 (some .int),
  .code y_S_shiftRight b_S_shiftRight 4 none,
  .methodLink R_S 52 y_S_shiftRight,
  .instanceMethod y_S_shiftRight,
  .selects R_S y_S_shiftRight y_S_shiftRight,
  .code y_S_add b_S_add 3 none,
  .code y_S_subtract b_S_subtract 3 none,
  .constantLong R_S 60 4294967295,
  .code y_S_takeProduct b_S_takeProduct 19 none,
  .methodLink R_S 56 y_S_takeProduct,
  .instanceMethod y_S_takeProduct,
  .selects R_S y_S_takeProduct y_S_takeProduct,
  .code y_S_multiply b_S_multiply 2 none,
  .code y_S_divide b_S_divide 6 none,
  .code y_S_isAbove b_S_isAbove 6 (some .boolean),
  .constantLong R_S 70 (-9223372036854775807),
  .code y_S_digitsBelowRoot b_S_digitsBelowRoot 7 (some .long),
  .methodLink R_S 62 y_S_isAbove,
  .instanceMethod y_S_isAbove,
  .selects R_S y_S_isAbove y_S_isAbove,
  .methodLink R_S 66 y_S_digitsBelowRoot,
  .static y_S_digitsBelowRoot,
  .code y_S_takeRoot b_S_takeRoot 13 none,
  .code y_S_isRoundedAway b_S_isRoundedAway 4 (some .boolean),
  .constantLong R_S 80 (-9223372036854775808),
  .code y_S_compareDroppedWithHalf b_S_compareDroppedWithHalf 7 (some .int),
  .methodLink R_S 72 y_S_compareDroppedWithHalf,
  .instanceMethod y_S_compareDroppedWithHalf,
  .selects R_S y_S_compareDroppedWithHalf y_S_compareDroppedWithHalf,
  .methodLink R_S 76 y_S_isRoundedAway,
  .static y_S_isRoundedAway,
  .code y_S_round b_S_round 8 (some .boolean),
  .instanceMethod y_S_power,
  .selects R_S y_S_power y_S_power,
  .code y_R_putSize b_R_putSize 4 none,
  .code y_O_isRegister b_O_isRegister 1 (some .boolean),
  .constant R_O 93 65535,
  .code y_O_hasSixteenBits b_O_hasSixteenBits 1 (some .boolean),
  .code y_O_isDifference b_O_isDifference 1 (some .boolean),
  .initialized R_O,
  .methodLink R_O 94 y_O_isDifference,
  .static y_O_isDifference,
  .code y_O_isSum b_O_isSum 1 (some .boolean),
  .code y_O_isQuotient b_O_isQuotient 1 (some .boolean),
  .fieldLink R_O 17 "RealOperations" "controlWord" "I",
  .code y_O_isMasked b_O_isMasked 2 (some .boolean),
  .code y_O_isStopped b_O_isStopped 2 (some .boolean),
  .code y_O_digits b_O_digits 1 (some .int),
  .code y_O_rounding b_O_rounding 1 (some .int),
  .code y_O_hasTwoInfinites b_O_hasTwoInfinites 1 (some .boolean),
  .fieldLink R_O 21 "RealOperations" "toldSoFar" "I",
  .code y_O_told b_O_told 1 (some .int),
  .code y_O_clear b_O_clear 1 none,
  .fieldLink R_O 27 "RealOperations" "first" "LRealOperations$Real;",
  .fieldLink R_O 31 "RealOperations" "second" "LRealOperations$Real;",
  .code y_O_hasOppositeSigns b_O_hasOppositeSigns 1 (some .boolean),
  .instanceMethod y_R_isUnnormalOfSize,
  .selects R_R y_R_isUnnormalOfSize y_R_isUnnormalOfSize,
  .instanceMethod y_R_isInfinite,
  .selects R_R y_R_isInfinite y_R_isInfinite,
  .methodLink R_O 164 y_O_hasTwoInfinites,
  .instanceMethod y_O_hasTwoInfinites,
  .selects R_O y_O_hasTwoInfinites y_O_hasTwoInfinites,
  .instanceMethod y_R_isNothing,
  .selects R_R y_R_isNothing y_R_isNothing,
  .code y_O_isInvalidRoot b_O_isInvalidRoot 1 (some .boolean),
  .methodLink R_O 161 y_O_isSum,
  .static y_O_isSum,
  .methodLink R_O 133 y_O_hasOppositeSigns,
  .instanceMethod y_O_hasOppositeSigns,
  .selects R_O y_O_hasOppositeSigns y_O_hasOppositeSigns,
  .methodLink R_O 158 y_O_isInvalidRoot,
  .instanceMethod y_O_isInvalidRoot,
  .selects R_O y_O_isInvalidRoot y_O_isInvalidRoot,
  .code y_O_isInvalid b_O_isInvalid 3 (some .boolean),
  .instanceMethod y_R_isNoNumber,
  .selects R_R y_R_isNoNumber y_R_isNoNumber,
  .fieldLink R_O 34 "RealOperations" "answer" "LRealOperations$Real;",
  .methodLink R_O 149 y_Lg_compareUnsigned,
  .code y_O_answerNoNumber b_O_answerNoNumber 3 none,
  .methodLink R_O 124 y_O_isQuotient,
  .static y_O_isQuotient,
  .constantLong R_O 136 (-9223372036854775808),
  .code y_O_answerOfInfinite b_O_answerOfInfinite 3 none,
  .fieldLink R_O 40 "RealOperations" "size" "LRealOperations$Size;",
  .fieldLink R_O 44 "RealOperations" "otherSize" "LRealOperations$Size;",
  .instanceMethod y_S_isLessThan,
  .selects R_S y_S_isLessThan y_S_isLessThan,
  .instanceMethod y_S_take,
  .selects R_S y_S_take y_S_take,
  .instanceMethod y_S_subtract,
  .selects R_S y_S_subtract y_S_subtract,
  .methodLink R_O 199 y_O_rounding,
  .instanceMethod y_O_rounding,
  .selects R_O y_O_rounding y_O_rounding,
  .instanceMethod y_S_add,
  .selects R_S y_S_add y_S_add,
  .code y_O_computeSum b_O_computeSum 3 (some .boolean),
  .instanceMethod y_S_divide,
  .selects R_S y_S_divide y_S_divide,
  .instanceMethod y_S_multiply,
  .selects R_S y_S_multiply y_S_multiply,
  .instanceMethod y_S_takeRoot,
  .selects R_S y_S_takeRoot y_S_takeRoot,
  .methodLink R_O 173 y_O_computeSum,
  .instanceMethod y_O_computeSum,
  .selects R_O y_O_computeSum y_O_computeSum,
  .code y_O_computeExactly b_O_computeExactly 2 (some .boolean),
  .methodLink R_O 207 y_O_digits,
  .instanceMethod y_O_digits,
  .selects R_O y_O_digits y_O_digits,
  .methodLink R_O 221 y_O_isMasked,
  .instanceMethod y_O_isMasked,
  .selects R_O y_O_isMasked y_O_isMasked,
  .instanceMethod y_S_round,
  .selects R_S y_S_round y_S_round,
  .code y_O_roundSmall b_O_roundSmall 4 (some .int),
  .constantLong R_O 227 (-1),
  .instanceMethod y_R_putSize,
  .selects R_R y_R_putSize y_R_putSize,
  .code y_O_answerGreat b_O_answerGreat 3 (some .int),
  .methodLink R_O 214 y_O_answerGreat,
  .instanceMethod y_O_answerGreat,
  .selects R_O y_O_answerGreat y_O_answerGreat,
  .methodLink R_O 204 y_O_roundSmall,
  .instanceMethod y_O_roundSmall,
  .selects R_O y_O_roundSmall y_O_roundSmall,
  .code y_O_make b_O_make 3 (some .int),
  .methodLink R_O 105 y_O_answerNoNumber,
  .instanceMethod y_O_answerNoNumber,
  .selects R_O y_O_answerNoNumber y_O_answerNoNumber,
  .methodLink R_O 112 y_O_isInvalid,
  .instanceMethod y_O_isInvalid,
  .selects R_O y_O_isInvalid y_O_isInvalid,
  .instanceMethod y_R_isDenormal,
  .selects R_R y_R_isDenormal y_R_isDenormal,
  .methodLink R_O 82 y_O_isStopped,
  .instanceMethod y_O_isStopped,
  .selects R_O y_O_isStopped y_O_isStopped,
  .methodLink R_O 138 y_O_answerOfInfinite,
  .instanceMethod y_O_answerOfInfinite,
  .selects R_O y_O_answerOfInfinite y_O_answerOfInfinite,
  .methodLink R_O 142 y_O_computeExactly,
  .instanceMethod y_O_computeExactly,
  .selects R_O y_O_computeExactly y_O_computeExactly,
  .methodLink R_O 145 y_O_make,
  .instanceMethod y_O_make,
  .selects R_O y_O_make y_O_make,
  .constantLong R_O 115 (-4611686018427387904),
  .code y_O_carryOut b_O_carryOut 3 (some .int),
  .fieldLink R_O 9 "RealOperations" "tops" "[I",
  .fieldLink R_O 13 "RealOperations" "fractions" "[J",
  .instanceMethod y_R_take,
  .selects R_R y_R_take y_R_take,
  .code y_O_takeOperands b_O_takeOperands 7 none,
  .methodLink R_O 47 y_O_hasSixteenBits,
  .static y_O_hasSixteenBits,
  .classLink R_O 51 "java/lang/IllegalArgumentException",
  .initialized "java/lang/IllegalArgumentException",
  .code y_O_control b_O_control 2 none,
  .methodLink R_O 58 y_O_isRegister,
  .static y_O_isRegister,
  .constantLong R_O 68 4294967295,
  .classLink R_O 61 "java/lang/IndexOutOfBoundsException",
  .initialized "java/lang/IndexOutOfBoundsException",
  .code y_O_set b_O_set 5 none,
  .code y_O_part b_O_part 3 (some .int),
  .methodLink R_O 74 y_O_takeOperands,
  .instanceMethod y_O_takeOperands,
  .selects R_O y_O_takeOperands y_O_takeOperands,
  .methodLink R_O 78 y_O_carryOut,
  .instanceMethod y_O_carryOut,
  .selects R_O y_O_carryOut y_O_carryOut,
  .instanceMethod y_R_top,
  .selects R_R y_R_top y_R_top,
  .code y_O_operate b_O_operate 6 (some .int),
  .methodLink R_O 1 objectInit,
  .arrayClass .int,
  .arrayClass .long,
  .classLink R_O 24 R_R,
  .instantiable R_R 3,
  .instanceMethod y_R_init,
  .classLink R_O 37 R_S,
  .instantiable R_S 3,
  .instanceMethod y_S_init,
  .code y_O_init b_O_init 1 none,
  .code y_M_none b_M_none 1 (some .boolean),
  .code y_M_below b_M_below 4 (some .boolean),
  .fieldLink R_M 35 "RealOperationsModel" "code" "I",
  .code y_M_thrown b_M_thrown 1 (some .int),
  .fieldLink R_M 45 "RealOperationsModel" "all" "I",
  .code y_M_told b_M_told 1 (some .int),
  .code y_M_clear b_M_clear 1 none,
  .fieldLink R_M 7 "RealOperationsModel" "word" "I",
  .code y_M_digits b_M_digits 2 (some .int),
  .constant R_M 38 65535,
  .code y_M_control b_M_control 2 none,
  .fieldLink R_M 48 "RealOperationsModel" "told" "I",
  .fieldLink R_M 51 "RealOperationsModel" "stopped" "Z",
  .code y_M_tell b_M_tell 2 (some .boolean),
  .constant R_M 55 32768,
  .fieldLink R_M 56 "RealOperationsModel" "topOf" "I",
  .fieldLink R_M 59 "RealOperationsModel" "fractionOf" "J",
  .code y_M_answer b_M_answer 5 none,
  .fieldLink R_M 25 "RealOperationsModel" "power" "[I",
  .fieldLink R_M 28 "RealOperationsModel" "part" "[J",
  .code y_M_isNone b_M_isNone 2 (some .boolean),
  .code y_M_isEndless b_M_isEndless 2 (some .boolean),
  .code y_M_isNothing b_M_isNothing 2 (some .boolean),
  .code y_M_isDenormal b_M_isDenormal 2 (some .boolean),
  .code y_M_isUnnormal b_M_isUnnormal 2 (some .boolean),
  .code y_M_unitOf b_M_unitOf 2 (some .int),
  .initialized R_M,
  .methodLink R_M 39 y_M_none,
  .static y_M_none,
  .fieldLink R_M 13 "RealOperationsModel" "top" "[I",
  .fieldLink R_M 17 "RealOperationsModel" "fraction" "[J",
  .constantLong R_M 43 4294967295,
  .code y_M_set b_M_set 5 none,
  .code y_M_part b_M_part 3 (some .int),
  .fieldLink R_M 63 "RealOperationsModel" "size" "I",
  .fieldLink R_M 32 "RealOperationsModel" "row" "[Z",
  .code y_M_bit b_M_bit 2 (some .boolean),
  .code y_M_highest b_M_highest 2 (some .int),
  .fieldLink R_M 66 "RealOperationsModel" "more" "Z",
  .code y_M_rest b_M_rest 4 (some .boolean),
  .fieldLink R_M 69 "RealOperationsModel" "unit" "I",
  .constantLong R_M 72 2,
  .methodLink R_M 74 y_M_bit,
  .instanceMethod y_M_bit,
  .selects R_M y_M_bit y_M_bit,
  .methodLink R_M 77 y_M_rest,
  .instanceMethod y_M_rest,
  .selects R_M y_M_rest y_M_rest,
  .fieldLink R_M 80 "RealOperationsModel" "lossy" "Z",
  .code y_M_times b_M_times 10 (some .long),
  .constantLong R_M 87 (-9223372036854775808),
  .methodLink R_M 83 y_M_answer,
  .instanceMethod y_M_answer,
  .selects R_M y_M_answer y_M_answer,
  .code y_M_put b_M_put 11 none,
  .methodLink R_M 89 y_M_highest,
  .instanceMethod y_M_highest,
  .selects R_M y_M_highest y_M_highest,
  .methodLink R_M 93 y_M_digits,
  .instanceMethod y_M_digits,
  .selects R_M y_M_digits y_M_digits,
  .methodLink R_M 96 y_M_times,
  .instanceMethod y_M_times,
  .selects R_M y_M_times y_M_times,
  .constantLong R_M 104 (-1),
  .methodLink R_M 100 y_M_put,
  .instanceMethod y_M_put,
  .selects R_M y_M_put y_M_put,
  .code y_M_make b_M_make 13 none,
  .code y_M_empty b_M_empty 4 none,
  .code y_M_join b_M_join 9 none,
  .methodLink R_M 106 y_M_unitOf,
  .instanceMethod y_M_unitOf,
  .selects R_M y_M_unitOf y_M_unitOf,
  .code y_M_isLess b_M_isLess 8 (some .boolean),
  .fieldLink R_M 21 "RealOperationsModel" "minus" "[Z",
  .methodLink R_M 110 y_M_isLess,
  .instanceMethod y_M_isLess,
  .selects R_M y_M_isLess y_M_isLess,
  .methodLink R_M 114 y_M_empty,
  .instanceMethod y_M_empty,
  .selects R_M y_M_empty y_M_empty,
  .methodLink R_M 118 y_M_join,
  .instanceMethod y_M_join,
  .selects R_M y_M_join y_M_join,
  .methodLink R_M 126 y_M_isNothing,
  .instanceMethod y_M_isNothing,
  .selects R_M y_M_isNothing y_M_isNothing,
  .methodLink R_M 122 y_M_make,
  .instanceMethod y_M_make,
  .selects R_M y_M_make y_M_make,
  .code y_M_sum b_M_sum 6 none,
  .code y_M_product b_M_product 3 none,
  .methodLink R_M 129 y_M_below,
  .static y_M_below,
  .code y_M_quotient b_M_quotient 7 none,
  .code y_M_root b_M_root 19 none,
  .code y_M_take b_M_take 3 none,
  .methodLink R_M 133 y_M_isNone,
  .instanceMethod y_M_isNone,
  .selects R_M y_M_isNone y_M_isNone,
  .methodLink R_M 136 y_M_tell,
  .instanceMethod y_M_tell,
  .selects R_M y_M_tell y_M_tell,
  .code y_M_noNumber b_M_noNumber 5 none,
  .methodLink R_M 142 y_M_isEndless,
  .instanceMethod y_M_isEndless,
  .selects R_M y_M_isEndless y_M_isEndless,
  .methodLink R_M 139 y_M_isUnnormal,
  .instanceMethod y_M_isUnnormal,
  .selects R_M y_M_isUnnormal y_M_isUnnormal,
  .code y_M_isWrong b_M_isWrong 3 (some .boolean),
  .methodLink R_M 145 y_M_isWrong,
  .instanceMethod y_M_isWrong,
  .selects R_M y_M_isWrong y_M_isWrong,
  .methodLink R_M 150 y_M_isDenormal,
  .instanceMethod y_M_isDenormal,
  .selects R_M y_M_isDenormal y_M_isDenormal,
  .methodLink R_M 162 y_M_root,
  .instanceMethod y_M_root,
  .selects R_M y_M_root y_M_root,
  .methodLink R_M 159 y_M_quotient,
  .instanceMethod y_M_quotient,
  .selects R_M y_M_quotient y_M_quotient,
  .methodLink R_M 156 y_M_product,
  .instanceMethod y_M_product,
  .selects R_M y_M_product y_M_product,
  .methodLink R_M 153 y_M_sum,
  .instanceMethod y_M_sum,
  .selects R_M y_M_sum y_M_sum,
  .constantLong R_M 148 (-4611686018427387904),
  .code y_M_work b_M_work 5 none,
  .methodLink R_M 165 y_M_take,
  .instanceMethod y_M_take,
  .selects R_M y_M_take y_M_take,
  .methodLink R_M 168 y_M_noNumber,
  .instanceMethod y_M_noNumber,
  .selects R_M y_M_noNumber y_M_noNumber,
  .methodLink R_M 172 y_M_work,
  .instanceMethod y_M_work,
  .selects R_M y_M_work y_M_work,
  .code y_M_operate b_M_operate 7 (some .int),
  .methodLink R_M 1 objectInit,
  .arrayClass .boolean,
  .constant R_M 31 33000,
  .code y_M_init b_M_init 1 none,
  .methodLink R_L 7 y_O_control,
  .instanceMethod y_O_control,
  .selects R_O y_O_control y_O_control,
  .classLink R_L 13 "java/lang/IllegalArgumentException",
  .codeWith y_L_control b_L_control 3 (some .int) [(0, 5, 8, 13)],
  .methodLink R_L 15 y_O_set,
  .instanceMethod y_O_set,
  .selects R_O y_O_set y_O_set,
  .classLink R_L 19 "java/lang/IndexOutOfBoundsException",
  .codeWith y_L_set b_L_set 6 (some .int) [(0, 9, 12, 19), (0, 9, 16, 13)],
  .methodLink R_L 21 y_O_part,
  .instanceMethod y_O_part,
  .selects R_O y_O_part y_O_part,
  .codeWith y_L_part b_L_part 5 (some .int) [(0, 10, 13, 19), (0, 10, 17, 13)],
  .methodLink R_L 25 y_O_operate,
  .instanceMethod y_O_operate,
  .selects R_O y_O_operate y_O_operate,
  .codeWith y_L_operate b_L_operate 7 (some .int) [(0, 14, 17, 19), (0, 14, 21, 13)],
  .initialized R_L,
  .methodLink R_L 33 y_L_control,
  .static y_L_control,
  .methodLink R_L 38 y_M_control,
  .instanceMethod y_M_control,
  .selects R_M y_M_control y_M_control,
  .methodLink R_L 39 y_M_thrown,
  .instanceMethod y_M_thrown,
  .selects R_M y_M_thrown y_M_thrown,
  .methodLink R_L 43 y_L_set,
  .static y_L_set,
  .methodLink R_L 46 y_M_set,
  .instanceMethod y_M_set,
  .selects R_M y_M_set y_M_set,
  .methodLink R_L 47 y_L_part,
  .static y_L_part,
  .methodLink R_L 50 y_M_part,
  .instanceMethod y_M_part,
  .selects R_M y_M_part y_M_part,
  .methodLink R_L 51 y_L_operate,
  .static y_L_operate,
  .methodLink R_L 54 y_M_operate,
  .instanceMethod y_M_operate,
  .selects R_M y_M_operate y_M_operate,
  .methodLink R_L 55 y_O_told,
  .instanceMethod y_O_told,
  .selects R_O y_O_told y_O_told,
  .methodLink R_L 58 y_M_told,
  .instanceMethod y_M_told,
  .selects R_M y_M_told y_M_told,
  .methodLink R_L 59 y_O_clear,
  .instanceMethod y_O_clear,
  .selects R_O y_O_clear y_O_clear,
  .methodLink R_L 62 y_M_clear,
  .instanceMethod y_M_clear,
  .selects R_M y_M_clear y_M_clear,
  .laysFinal R_O "RealOperations" "tops" "[I",
  .laysFinal R_O "RealOperations" "fractions" "[J",
  .lays R_O "RealOperations" "controlWord" "I",
  .lays R_O "RealOperations" "toldSoFar" "I",
  .laysFinal R_O "RealOperations" "first" "LRealOperations$Real;",
  .laysFinal R_O "RealOperations" "second" "LRealOperations$Real;",
  .laysFinal R_O "RealOperations" "answer" "LRealOperations$Real;",
  .laysFinal R_O "RealOperations" "size" "LRealOperations$Size;",
  .laysFinal R_O "RealOperations" "otherSize" "LRealOperations$Size;",
  .lays R_R "RealOperations$Real" "negative" "Z",
  .lays R_R "RealOperations$Real" "power" "I",
  .lays R_R "RealOperations$Real" "fraction" "J",
  .lays R_S "RealOperations$Size" "high" "J",
  .lays R_S "RealOperations$Size" "low" "J",
  .lays R_S "RealOperations$Size" "exponent" "I",
  .lays R_M "RealOperationsModel" "code" "I",
  .lays R_M "RealOperationsModel" "word" "I",
  .laysFinal R_M "RealOperationsModel" "top" "[I",
  .laysFinal R_M "RealOperationsModel" "fraction" "[J",
  .lays R_M "RealOperationsModel" "all" "I",
  .laysFinal R_M "RealOperationsModel" "minus" "[Z",
  .laysFinal R_M "RealOperationsModel" "power" "[I",
  .laysFinal R_M "RealOperationsModel" "part" "[J",
  .laysFinal R_M "RealOperationsModel" "row" "[Z",
  .lays R_M "RealOperationsModel" "size" "I",
  .lays R_M "RealOperationsModel" "unit" "I",
  .lays R_M "RealOperationsModel" "more" "Z",
  .lays R_M "RealOperationsModel" "told" "I",
  .lays R_M "RealOperationsModel" "stopped" "Z",
  .lays R_M "RealOperationsModel" "topOf" "I",
  .lays R_M "RealOperationsModel" "fractionOf" "J",
  .lays R_M "RealOperationsModel" "lossy" "Z"]
def wThr : List Cond := (vx_atS R_O 55 "java/lang/IllegalArgumentException" ["java/lang/RuntimeException", "java/lang/Exception"]).filter goodWord ++ ((vx_atS R_O 65 "java/lang/IndexOutOfBoundsException" ["java/lang/RuntimeException", "java/lang/Exception"]).filter goodWord)
def wAll : List Cond := wOwn ++ wThr
def nAll : List Cond := [
  .fieldLinkNest R_S 22 "RealOperations$Real" "fraction" "J" "RealOperations",
  .fieldLinkNest R_S 27 "RealOperations$Real" "power" "I" "RealOperations",
  .methodLinkNest R_R 28 y_S_power "RealOperations",
  .methodLinkNest R_R 33 y_S_isZero "RealOperations",
  .fieldLinkNest R_R 37 "RealOperations$Size" "high" "J" "RealOperations",
  .fieldLinkNest R_O 108 "RealOperations$Real" "negative" "Z" "RealOperations",
  .methodLinkNest R_O 167 y_R_isUnnormalOfSize "RealOperations",
  .methodLinkNest R_O 130 y_R_isInfinite "RealOperations",
  .methodLinkNest R_O 127 y_R_isNothing "RealOperations",
  .methodLinkNest R_O 101 y_R_isNoNumber "RealOperations",
  .fieldLinkNest R_O 155 "RealOperations$Real" "power" "I" "RealOperations",
  .fieldLinkNest R_O 89 "RealOperations$Real" "fraction" "J" "RealOperations",
  .methodLinkNest R_O 117 y_R_put "RealOperations",
  .methodLinkNest R_O 186 y_S_isLessThan "RealOperations",
  .methodLinkNest R_O 170 y_S_take "RealOperations",
  .methodLinkNest R_O 193 y_S_subtract "RealOperations",
  .methodLinkNest R_O 196 y_S_isZero "RealOperations",
  .methodLinkNest R_O 190 y_S_add "RealOperations",
  .methodLinkNest R_O 183 y_S_divide "RealOperations",
  .methodLinkNest R_O 179 y_S_multiply "RealOperations",
  .methodLinkNest R_O 176 y_S_takeRoot "RealOperations",
  .methodLinkNest R_O 210 y_S_round "RealOperations",
  .fieldLinkNest R_O 224 "RealOperations$Size" "exponent" "I" "RealOperations",
  .methodLinkNest R_O 202 y_S_power "RealOperations",
  .methodLinkNest R_O 217 y_R_putSize "RealOperations",
  .methodLinkNest R_O 121 y_R_isDenormal "RealOperations",
  .methodLinkNest R_O 97 y_R_take "RealOperations",
  .castable "java/lang/IllegalArgumentException" "java/lang/IllegalArgumentException",
  .declares ⟨"java/lang/RuntimeException", "<init>", "(Ljava/lang/String;)V"⟩,
  .declares ⟨"java/lang/Exception", "<init>", "(Ljava/lang/String;)V"⟩,
  .declares ⟨"java/lang/Throwable", "<init>", "(Ljava/lang/String;)V"⟩,
  .castable "java/lang/IndexOutOfBoundsException" "java/lang/IndexOutOfBoundsException",
  .methodLinkNest R_O 85 y_R_top "RealOperations",
  .methodLinkNest R_O 26 y_R_init "RealOperations",
  .methodLinkNest R_O 39 y_S_init "RealOperations"]
set_option maxRecDepth 20000 in
theorem k_0 : (.code y_Lg_compare b_Lg_compare 4 (some .int) : Cond) ∈ wAll := List.mem_append_left _ (List.mem_of_getElem? (i := 0) rfl)
set_option maxRecDepth 20000 in
theorem k_1 : (.constantLong R_Lg 168 (-9223372036854775808) : Cond) ∈ wAll := List.mem_append_left _ (List.mem_of_getElem? (i := 1) rfl)
set_option maxRecDepth 20000 in
theorem k_2 : (.initialized R_Lg : Cond) ∈ wAll := List.mem_append_left _ (List.mem_of_getElem? (i := 2) rfl)
set_option maxRecDepth 20000 in
theorem k_3 : (.methodLink R_Lg 302 y_Lg_compare : Cond) ∈ wAll := List.mem_append_left _ (List.mem_of_getElem? (i := 3) rfl)
set_option maxRecDepth 20000 in
theorem k_4 : (.static y_Lg_compare : Cond) ∈ wAll := List.mem_append_left _ (List.mem_of_getElem? (i := 4) rfl)
set_option maxRecDepth 20000 in
theorem k_5 : (.code y_Lg_compareUnsigned b_Lg_compareUnsigned 4 (some .int) : Cond) ∈ wAll := List.mem_append_left _ (List.mem_of_getElem? (i := 5) rfl)
set_option maxRecDepth 20000 in
theorem k_6 : (.methodLink R_R 3 objectInit : Cond) ∈ wAll := List.mem_append_left _ (List.mem_of_getElem? (i := 6) rfl)
set_option maxRecDepth 20000 in
theorem k_7 : (.instanceMethod objectInit : Cond) ∈ wAll := List.mem_append_left _ (List.mem_of_getElem? (i := 7) rfl)
set_option maxRecDepth 20000 in
theorem k_8 : (.code objectInit ⟨#[0xb1]⟩ 1 none : Cond) ∈ wAll := List.mem_append_left _ (List.mem_of_getElem? (i := 8) rfl)
set_option maxRecDepth 20000 in
theorem k_9 : (.fieldLink R_R 9 "RealOperations$Real" "negative" "Z" : Cond) ∈ wAll := List.mem_append_left _ (List.mem_of_getElem? (i := 9) rfl)
set_option maxRecDepth 20000 in
theorem k_10 : (.fieldLink R_R 15 "RealOperations$Real" "power" "I" : Cond) ∈ wAll := List.mem_append_left _ (List.mem_of_getElem? (i := 10) rfl)
set_option maxRecDepth 20000 in
theorem k_11 : (.fieldLink R_R 19 "RealOperations$Real" "fraction" "J" : Cond) ∈ wAll := List.mem_append_left _ (List.mem_of_getElem? (i := 11) rfl)
set_option maxRecDepth 20000 in
theorem k_12 : (.code y_R_init b_R_init 1 none : Cond) ∈ wAll := List.mem_append_left _ (List.mem_of_getElem? (i := 12) rfl)
set_option maxRecDepth 20000 in
theorem k_13 : (.methodLink R_S 3 objectInit : Cond) ∈ wAll := List.mem_append_left _ (List.mem_of_getElem? (i := 13) rfl)
set_option maxRecDepth 20000 in
theorem k_14 : (.fieldLink R_S 9 "RealOperations$Size" "high" "J" : Cond) ∈ wAll := List.mem_append_left _ (List.mem_of_getElem? (i := 14) rfl)
set_option maxRecDepth 20000 in
theorem k_15 : (.fieldLink R_S 15 "RealOperations$Size" "low" "J" : Cond) ∈ wAll := List.mem_append_left _ (List.mem_of_getElem? (i := 15) rfl)
set_option maxRecDepth 20000 in
theorem k_16 : (.fieldLink R_S 18 "RealOperations$Size" "exponent" "I" : Cond) ∈ wAll := List.mem_append_left _ (List.mem_of_getElem? (i := 16) rfl)
set_option maxRecDepth 20000 in
theorem k_17 : (.code y_S_init b_S_init 1 none : Cond) ∈ wAll := List.mem_append_left _ (List.mem_of_getElem? (i := 17) rfl)
set_option maxRecDepth 20000 in
theorem k_18 : (.code y_R_put b_R_put 5 none : Cond) ∈ wAll := List.mem_append_left _ (List.mem_of_getElem? (i := 18) rfl)
set_option maxRecDepth 20000 in
theorem k_19 : (.constant R_R 23 32768 : Cond) ∈ wAll := List.mem_append_left _ (List.mem_of_getElem? (i := 19) rfl)
set_option maxRecDepth 20000 in
theorem k_20 : (.initialized R_R : Cond) ∈ wAll := List.mem_append_left _ (List.mem_of_getElem? (i := 20) rfl)
set_option maxRecDepth 20000 in
theorem k_21 : (.methodLink R_R 24 y_R_put : Cond) ∈ wAll := List.mem_append_left _ (List.mem_of_getElem? (i := 21) rfl)
set_option maxRecDepth 20000 in
theorem k_22 : (.instanceMethod y_R_put : Cond) ∈ wAll := List.mem_append_left _ (List.mem_of_getElem? (i := 22) rfl)
set_option maxRecDepth 20000 in
theorem k_23 : (.selects R_R y_R_put y_R_put : Cond) ∈ wAll := List.mem_append_left _ (List.mem_of_getElem? (i := 23) rfl)
set_option maxRecDepth 20000 in
theorem k_24 : (.code y_R_take b_R_take 4 none : Cond) ∈ wAll := List.mem_append_left _ (List.mem_of_getElem? (i := 24) rfl)
set_option maxRecDepth 20000 in
theorem k_25 : (.code y_R_isDenormal b_R_isDenormal 1 (some .boolean) : Cond) ∈ wAll := List.mem_append_left _ (List.mem_of_getElem? (i := 25) rfl)
set_option maxRecDepth 20000 in
theorem k_26 : (.code y_R_isUnnormalOfSize b_R_isUnnormalOfSize 1 (some .boolean) : Cond) ∈ wAll := List.mem_append_left _ (List.mem_of_getElem? (i := 26) rfl)
set_option maxRecDepth 20000 in
theorem k_27 : (.code y_R_isNothing b_R_isNothing 1 (some .boolean) : Cond) ∈ wAll := List.mem_append_left _ (List.mem_of_getElem? (i := 27) rfl)
set_option maxRecDepth 20000 in
theorem k_28 : (.code y_R_isInfinite b_R_isInfinite 1 (some .boolean) : Cond) ∈ wAll := List.mem_append_left _ (List.mem_of_getElem? (i := 28) rfl)
set_option maxRecDepth 20000 in
theorem k_29 : (.code y_R_isNoNumber b_R_isNoNumber 1 (some .boolean) : Cond) ∈ wAll := List.mem_append_left _ (List.mem_of_getElem? (i := 29) rfl)
set_option maxRecDepth 20000 in
theorem k_30 : (.code y_R_top b_R_top 1 (some .int) : Cond) ∈ wAll := List.mem_append_left _ (List.mem_of_getElem? (i := 30) rfl)
set_option maxRecDepth 20000 in
theorem k_31 : (.code y_S_isZero b_S_isZero 1 (some .boolean) : Cond) ∈ wAll := List.mem_append_left _ (List.mem_of_getElem? (i := 31) rfl)
set_option maxRecDepth 20000 in
theorem k_32 : (.code y_S_power b_S_power 1 (some .int) : Cond) ∈ wAll := List.mem_append_left _ (List.mem_of_getElem? (i := 32) rfl)
set_option maxRecDepth 20000 in
theorem k_33 : (.methodLink R_S 39 y_Lg_compareUnsigned : Cond) ∈ wAll := List.mem_append_left _ (List.mem_of_getElem? (i := 33) rfl)
set_option maxRecDepth 20000 in
theorem k_34 : (.static y_Lg_compareUnsigned : Cond) ∈ wAll := List.mem_append_left _ (List.mem_of_getElem? (i := 34) rfl)
set_option maxRecDepth 20000 in
theorem k_35 : (.code y_S_isLessThan b_S_isLessThan 2 (some .boolean) : Cond) ∈ wAll := List.mem_append_left _ (List.mem_of_getElem? (i := 35) rfl)
set_option maxRecDepth 20000 in
theorem k_36 : (.initialized R_S : Cond) ∈ wAll := List.mem_append_left _ (List.mem_of_getElem? (i := 36) rfl)
set_option maxRecDepth 20000 in
theorem k_37 : (.methodLink R_S 45 y_S_isZero : Cond) ∈ wAll := List.mem_append_left _ (List.mem_of_getElem? (i := 37) rfl)
set_option maxRecDepth 20000 in
theorem k_38 : (.instanceMethod y_S_isZero : Cond) ∈ wAll := List.mem_append_left _ (List.mem_of_getElem? (i := 38) rfl)
set_option maxRecDepth 20000 in
theorem k_39 : (.selects R_S y_S_isZero y_S_isZero : Cond) ∈ wAll := List.mem_append_left _ (List.mem_of_getElem? (i := 39) rfl)
set_option maxRecDepth 20000 in
theorem k_40 : (.code y_S_normalize b_S_normalize 2 none : Cond) ∈ wAll := List.mem_append_left _ (List.mem_of_getElem? (i := 40) rfl)
set_option maxRecDepth 20000 in
theorem k_41 : (.methodLink R_S 30 Lib.Math.max.name : Cond) ∈ wAll := List.mem_append_left _ (List.mem_of_getElem? (i := 41) rfl)
set_option maxRecDepth 20000 in
theorem k_42 : (.static Lib.Math.max.name : Cond) ∈ wAll := List.mem_append_left _ (List.mem_of_getElem? (i := 42) rfl)
set_option maxRecDepth 20000 in
theorem k_43 : (.initialized "java/lang/Math" : Cond) ∈ wAll := List.mem_append_left _ (List.mem_of_getElem? (i := 43) rfl)
set_option maxRecDepth 20000 in
theorem k_44 : (.code Lib.Math.max.name Lib.Math.max.code 2 (some .int) : Cond) ∈ wAll := List.mem_append_left _ (List.mem_of_getElem? (i := 44) rfl)
set_option maxRecDepth 20000 in
theorem k_45 : (.methodLink R_S 36 y_S_normalize : Cond) ∈ wAll := List.mem_append_left _ (List.mem_of_getElem? (i := 45) rfl)
set_option maxRecDepth 20000 in
theorem k_46 : (.instanceMethod y_S_normalize : Cond) ∈ wAll := List.mem_append_left _ (List.mem_of_getElem? (i := 46) rfl)
set_option maxRecDepth 20000 in
theorem k_47 : (.selects R_S y_S_normalize y_S_normalize : Cond) ∈ wAll := List.mem_append_left _ (List.mem_of_getElem? (i := 47) rfl)
set_option maxRecDepth 20000 in
theorem k_48 : (.code y_S_take b_S_take 2 none : Cond) ∈ wAll := List.mem_append_left _ (List.mem_of_getElem? (i := 48) rfl)
set_option maxRecDepth 20000 in
theorem k_49 : (.methodLink R_S 49 Lib.Math.min.name : Cond) ∈ wAll := List.mem_append_left _ (List.mem_of_getElem? (i := 49) rfl)
set_option maxRecDepth 20000 in
theorem k_50 : (.static Lib.Math.min.name : Cond) ∈ wAll := List.mem_append_left _ (List.mem_of_getElem? (i := 50) rfl)
set_option maxRecDepth 20000 in
theorem k_51 : (.code Lib.Math.min.name Lib.Math.min.code 2 (some .int) : Cond) ∈ wAll := List.mem_append_left _ (List.mem_of_getElem? (i := 51) rfl)
set_option maxRecDepth 20000 in
theorem k_52 : (.code y_S_shiftRight b_S_shiftRight 4 none : Cond) ∈ wAll := List.mem_append_left _ (List.mem_of_getElem? (i := 52) rfl)
set_option maxRecDepth 20000 in
theorem k_53 : (.methodLink R_S 52 y_S_shiftRight : Cond) ∈ wAll := List.mem_append_left _ (List.mem_of_getElem? (i := 53) rfl)
set_option maxRecDepth 20000 in
theorem k_54 : (.instanceMethod y_S_shiftRight : Cond) ∈ wAll := List.mem_append_left _ (List.mem_of_getElem? (i := 54) rfl)
set_option maxRecDepth 20000 in
theorem k_55 : (.selects R_S y_S_shiftRight y_S_shiftRight : Cond) ∈ wAll := List.mem_append_left _ (List.mem_of_getElem? (i := 55) rfl)
set_option maxRecDepth 20000 in
theorem k_56 : (.code y_S_add b_S_add 3 none : Cond) ∈ wAll := List.mem_append_left _ (List.mem_of_getElem? (i := 56) rfl)
set_option maxRecDepth 20000 in
theorem k_57 : (.code y_S_subtract b_S_subtract 3 none : Cond) ∈ wAll := List.mem_append_left _ (List.mem_of_getElem? (i := 57) rfl)
set_option maxRecDepth 20000 in
theorem k_58 : (.constantLong R_S 60 4294967295 : Cond) ∈ wAll := List.mem_append_left _ (List.mem_of_getElem? (i := 58) rfl)
set_option maxRecDepth 20000 in
theorem k_59 : (.code y_S_takeProduct b_S_takeProduct 19 none : Cond) ∈ wAll := List.mem_append_left _ (List.mem_of_getElem? (i := 59) rfl)
set_option maxRecDepth 20000 in
theorem k_60 : (.methodLink R_S 56 y_S_takeProduct : Cond) ∈ wAll := List.mem_append_left _ (List.mem_of_getElem? (i := 60) rfl)
set_option maxRecDepth 20000 in
theorem k_61 : (.instanceMethod y_S_takeProduct : Cond) ∈ wAll := List.mem_append_left _ (List.mem_of_getElem? (i := 61) rfl)
set_option maxRecDepth 20000 in
theorem k_62 : (.selects R_S y_S_takeProduct y_S_takeProduct : Cond) ∈ wAll := List.mem_append_left _ (List.mem_of_getElem? (i := 62) rfl)
set_option maxRecDepth 20000 in
theorem k_63 : (.code y_S_multiply b_S_multiply 2 none : Cond) ∈ wAll := List.mem_append_left _ (List.mem_of_getElem? (i := 63) rfl)
set_option maxRecDepth 20000 in
theorem k_64 : (.code y_S_divide b_S_divide 6 none : Cond) ∈ wAll := List.mem_append_left _ (List.mem_of_getElem? (i := 64) rfl)
set_option maxRecDepth 20000 in
theorem k_65 : (.code y_S_isAbove b_S_isAbove 6 (some .boolean) : Cond) ∈ wAll := List.mem_append_left _ (List.mem_of_getElem? (i := 65) rfl)
set_option maxRecDepth 20000 in
theorem k_66 : (.constantLong R_S 70 (-9223372036854775807) : Cond) ∈ wAll := List.mem_append_left _ (List.mem_of_getElem? (i := 66) rfl)
set_option maxRecDepth 20000 in
theorem k_67 : (.code y_S_digitsBelowRoot b_S_digitsBelowRoot 7 (some .long) : Cond) ∈ wAll := List.mem_append_left _ (List.mem_of_getElem? (i := 67) rfl)
set_option maxRecDepth 20000 in
theorem k_68 : (.methodLink R_S 62 y_S_isAbove : Cond) ∈ wAll := List.mem_append_left _ (List.mem_of_getElem? (i := 68) rfl)
set_option maxRecDepth 20000 in
theorem k_69 : (.instanceMethod y_S_isAbove : Cond) ∈ wAll := List.mem_append_left _ (List.mem_of_getElem? (i := 69) rfl)
set_option maxRecDepth 20000 in
theorem k_70 : (.selects R_S y_S_isAbove y_S_isAbove : Cond) ∈ wAll := List.mem_append_left _ (List.mem_of_getElem? (i := 70) rfl)
set_option maxRecDepth 20000 in
theorem k_71 : (.methodLink R_S 66 y_S_digitsBelowRoot : Cond) ∈ wAll := List.mem_append_left _ (List.mem_of_getElem? (i := 71) rfl)
set_option maxRecDepth 20000 in
theorem k_72 : (.static y_S_digitsBelowRoot : Cond) ∈ wAll := List.mem_append_left _ (List.mem_of_getElem? (i := 72) rfl)
set_option maxRecDepth 20000 in
theorem k_73 : (.code y_S_takeRoot b_S_takeRoot 13 none : Cond) ∈ wAll := List.mem_append_left _ (List.mem_of_getElem? (i := 73) rfl)
set_option maxRecDepth 20000 in
theorem k_74 : (.code y_S_isRoundedAway b_S_isRoundedAway 4 (some .boolean) : Cond) ∈ wAll := List.mem_append_left _ (List.mem_of_getElem? (i := 74) rfl)
set_option maxRecDepth 20000 in
theorem k_75 : (.constantLong R_S 80 (-9223372036854775808) : Cond) ∈ wAll := List.mem_append_left _ (List.mem_of_getElem? (i := 75) rfl)
set_option maxRecDepth 20000 in
theorem k_76 : (.code y_S_compareDroppedWithHalf b_S_compareDroppedWithHalf 7 (some .int) : Cond) ∈ wAll := List.mem_append_left _ (List.mem_of_getElem? (i := 76) rfl)
set_option maxRecDepth 20000 in
theorem k_77 : (.methodLink R_S 72 y_S_compareDroppedWithHalf : Cond) ∈ wAll := List.mem_append_left _ (List.mem_of_getElem? (i := 77) rfl)
set_option maxRecDepth 20000 in
theorem k_78 : (.instanceMethod y_S_compareDroppedWithHalf : Cond) ∈ wAll := List.mem_append_left _ (List.mem_of_getElem? (i := 78) rfl)
set_option maxRecDepth 20000 in
theorem k_79 : (.selects R_S y_S_compareDroppedWithHalf y_S_compareDroppedWithHalf : Cond) ∈ wAll := List.mem_append_left _ (List.mem_of_getElem? (i := 79) rfl)
set_option maxRecDepth 20000 in
theorem k_80 : (.methodLink R_S 76 y_S_isRoundedAway : Cond) ∈ wAll := List.mem_append_left _ (List.mem_of_getElem? (i := 80) rfl)
set_option maxRecDepth 20000 in
theorem k_81 : (.static y_S_isRoundedAway : Cond) ∈ wAll := List.mem_append_left _ (List.mem_of_getElem? (i := 81) rfl)
set_option maxRecDepth 20000 in
theorem k_82 : (.code y_S_round b_S_round 8 (some .boolean) : Cond) ∈ wAll := List.mem_append_left _ (List.mem_of_getElem? (i := 82) rfl)
set_option maxRecDepth 20000 in
theorem k_83 : (.instanceMethod y_S_power : Cond) ∈ wAll := List.mem_append_left _ (List.mem_of_getElem? (i := 83) rfl)
set_option maxRecDepth 20000 in
theorem k_84 : (.selects R_S y_S_power y_S_power : Cond) ∈ wAll := List.mem_append_left _ (List.mem_of_getElem? (i := 84) rfl)
set_option maxRecDepth 20000 in
theorem k_85 : (.code y_R_putSize b_R_putSize 4 none : Cond) ∈ wAll := List.mem_append_left _ (List.mem_of_getElem? (i := 85) rfl)
set_option maxRecDepth 20000 in
theorem k_86 : (.code y_O_isRegister b_O_isRegister 1 (some .boolean) : Cond) ∈ wAll := List.mem_append_left _ (List.mem_of_getElem? (i := 86) rfl)
set_option maxRecDepth 20000 in
theorem k_87 : (.constant R_O 93 65535 : Cond) ∈ wAll := List.mem_append_left _ (List.mem_of_getElem? (i := 87) rfl)
set_option maxRecDepth 20000 in
theorem k_88 : (.code y_O_hasSixteenBits b_O_hasSixteenBits 1 (some .boolean) : Cond) ∈ wAll := List.mem_append_left _ (List.mem_of_getElem? (i := 88) rfl)
set_option maxRecDepth 20000 in
theorem k_89 : (.code y_O_isDifference b_O_isDifference 1 (some .boolean) : Cond) ∈ wAll := List.mem_append_left _ (List.mem_of_getElem? (i := 89) rfl)
set_option maxRecDepth 20000 in
theorem k_90 : (.initialized R_O : Cond) ∈ wAll := List.mem_append_left _ (List.mem_of_getElem? (i := 90) rfl)
set_option maxRecDepth 20000 in
theorem k_91 : (.methodLink R_O 94 y_O_isDifference : Cond) ∈ wAll := List.mem_append_left _ (List.mem_of_getElem? (i := 91) rfl)
set_option maxRecDepth 20000 in
theorem k_92 : (.static y_O_isDifference : Cond) ∈ wAll := List.mem_append_left _ (List.mem_of_getElem? (i := 92) rfl)
set_option maxRecDepth 20000 in
theorem k_93 : (.code y_O_isSum b_O_isSum 1 (some .boolean) : Cond) ∈ wAll := List.mem_append_left _ (List.mem_of_getElem? (i := 93) rfl)
set_option maxRecDepth 20000 in
theorem k_94 : (.code y_O_isQuotient b_O_isQuotient 1 (some .boolean) : Cond) ∈ wAll := List.mem_append_left _ (List.mem_of_getElem? (i := 94) rfl)
set_option maxRecDepth 20000 in
theorem k_95 : (.fieldLink R_O 17 "RealOperations" "controlWord" "I" : Cond) ∈ wAll := List.mem_append_left _ (List.mem_of_getElem? (i := 95) rfl)
set_option maxRecDepth 20000 in
theorem k_96 : (.code y_O_isMasked b_O_isMasked 2 (some .boolean) : Cond) ∈ wAll := List.mem_append_left _ (List.mem_of_getElem? (i := 96) rfl)
set_option maxRecDepth 20000 in
theorem k_97 : (.code y_O_isStopped b_O_isStopped 2 (some .boolean) : Cond) ∈ wAll := List.mem_append_left _ (List.mem_of_getElem? (i := 97) rfl)
set_option maxRecDepth 20000 in
theorem k_98 : (.code y_O_digits b_O_digits 1 (some .int) : Cond) ∈ wAll := List.mem_append_left _ (List.mem_of_getElem? (i := 98) rfl)
set_option maxRecDepth 20000 in
theorem k_99 : (.code y_O_rounding b_O_rounding 1 (some .int) : Cond) ∈ wAll := List.mem_append_left _ (List.mem_of_getElem? (i := 99) rfl)
set_option maxRecDepth 20000 in
theorem k_100 : (.code y_O_hasTwoInfinites b_O_hasTwoInfinites 1 (some .boolean) : Cond) ∈ wAll := List.mem_append_left _ (List.mem_of_getElem? (i := 100) rfl)
set_option maxRecDepth 20000 in
theorem k_101 : (.fieldLink R_O 21 "RealOperations" "toldSoFar" "I" : Cond) ∈ wAll := List.mem_append_left _ (List.mem_of_getElem? (i := 101) rfl)
set_option maxRecDepth 20000 in
theorem k_102 : (.code y_O_told b_O_told 1 (some .int) : Cond) ∈ wAll := List.mem_append_left _ (List.mem_of_getElem? (i := 102) rfl)
set_option maxRecDepth 20000 in
theorem k_103 : (.code y_O_clear b_O_clear 1 none : Cond) ∈ wAll := List.mem_append_left _ (List.mem_of_getElem? (i := 103) rfl)
set_option maxRecDepth 20000 in
theorem k_104 : (.fieldLink R_O 27 "RealOperations" "first" "LRealOperations$Real;" : Cond) ∈ wAll := List.mem_append_left _ (List.mem_of_getElem? (i := 104) rfl)
set_option maxRecDepth 20000 in
theorem k_105 : (.fieldLink R_O 31 "RealOperations" "second" "LRealOperations$Real;" : Cond) ∈ wAll := List.mem_append_left _ (List.mem_of_getElem? (i := 105) rfl)
set_option maxRecDepth 20000 in
theorem k_106 : (.code y_O_hasOppositeSigns b_O_hasOppositeSigns 1 (some .boolean) : Cond) ∈ wAll := List.mem_append_left _ (List.mem_of_getElem? (i := 106) rfl)
set_option maxRecDepth 20000 in
theorem k_107 : (.instanceMethod y_R_isUnnormalOfSize : Cond) ∈ wAll := List.mem_append_left _ (List.mem_of_getElem? (i := 107) rfl)
set_option maxRecDepth 20000 in
theorem k_108 : (.selects R_R y_R_isUnnormalOfSize y_R_isUnnormalOfSize : Cond) ∈ wAll := List.mem_append_left _ (List.mem_of_getElem? (i := 108) rfl)
set_option maxRecDepth 20000 in
theorem k_109 : (.instanceMethod y_R_isInfinite : Cond) ∈ wAll := List.mem_append_left _ (List.mem_of_getElem? (i := 109) rfl)
set_option maxRecDepth 20000 in
theorem k_110 : (.selects R_R y_R_isInfinite y_R_isInfinite : Cond) ∈ wAll := List.mem_append_left _ (List.mem_of_getElem? (i := 110) rfl)
set_option maxRecDepth 20000 in
theorem k_111 : (.methodLink R_O 164 y_O_hasTwoInfinites : Cond) ∈ wAll := List.mem_append_left _ (List.mem_of_getElem? (i := 111) rfl)
set_option maxRecDepth 20000 in
theorem k_112 : (.instanceMethod y_O_hasTwoInfinites : Cond) ∈ wAll := List.mem_append_left _ (List.mem_of_getElem? (i := 112) rfl)
set_option maxRecDepth 20000 in
theorem k_113 : (.selects R_O y_O_hasTwoInfinites y_O_hasTwoInfinites : Cond) ∈ wAll := List.mem_append_left _ (List.mem_of_getElem? (i := 113) rfl)
set_option maxRecDepth 20000 in
theorem k_114 : (.instanceMethod y_R_isNothing : Cond) ∈ wAll := List.mem_append_left _ (List.mem_of_getElem? (i := 114) rfl)
set_option maxRecDepth 20000 in
theorem k_115 : (.selects R_R y_R_isNothing y_R_isNothing : Cond) ∈ wAll := List.mem_append_left _ (List.mem_of_getElem? (i := 115) rfl)
set_option maxRecDepth 20000 in
theorem k_116 : (.code y_O_isInvalidRoot b_O_isInvalidRoot 1 (some .boolean) : Cond) ∈ wAll := List.mem_append_left _ (List.mem_of_getElem? (i := 116) rfl)
set_option maxRecDepth 20000 in
theorem k_117 : (.methodLink R_O 161 y_O_isSum : Cond) ∈ wAll := List.mem_append_left _ (List.mem_of_getElem? (i := 117) rfl)
set_option maxRecDepth 20000 in
theorem k_118 : (.static y_O_isSum : Cond) ∈ wAll := List.mem_append_left _ (List.mem_of_getElem? (i := 118) rfl)
set_option maxRecDepth 20000 in
theorem k_119 : (.methodLink R_O 133 y_O_hasOppositeSigns : Cond) ∈ wAll := List.mem_append_left _ (List.mem_of_getElem? (i := 119) rfl)
set_option maxRecDepth 20000 in
theorem k_120 : (.instanceMethod y_O_hasOppositeSigns : Cond) ∈ wAll := List.mem_append_left _ (List.mem_of_getElem? (i := 120) rfl)
set_option maxRecDepth 20000 in
theorem k_121 : (.selects R_O y_O_hasOppositeSigns y_O_hasOppositeSigns : Cond) ∈ wAll := List.mem_append_left _ (List.mem_of_getElem? (i := 121) rfl)
set_option maxRecDepth 20000 in
theorem k_122 : (.methodLink R_O 158 y_O_isInvalidRoot : Cond) ∈ wAll := List.mem_append_left _ (List.mem_of_getElem? (i := 122) rfl)
set_option maxRecDepth 20000 in
theorem k_123 : (.instanceMethod y_O_isInvalidRoot : Cond) ∈ wAll := List.mem_append_left _ (List.mem_of_getElem? (i := 123) rfl)
set_option maxRecDepth 20000 in
theorem k_124 : (.selects R_O y_O_isInvalidRoot y_O_isInvalidRoot : Cond) ∈ wAll := List.mem_append_left _ (List.mem_of_getElem? (i := 124) rfl)
set_option maxRecDepth 20000 in
theorem k_125 : (.code y_O_isInvalid b_O_isInvalid 3 (some .boolean) : Cond) ∈ wAll := List.mem_append_left _ (List.mem_of_getElem? (i := 125) rfl)
set_option maxRecDepth 20000 in
theorem k_126 : (.instanceMethod y_R_isNoNumber : Cond) ∈ wAll := List.mem_append_left _ (List.mem_of_getElem? (i := 126) rfl)
set_option maxRecDepth 20000 in
theorem k_127 : (.selects R_R y_R_isNoNumber y_R_isNoNumber : Cond) ∈ wAll := List.mem_append_left _ (List.mem_of_getElem? (i := 127) rfl)
set_option maxRecDepth 20000 in
theorem k_128 : (.fieldLink R_O 34 "RealOperations" "answer" "LRealOperations$Real;" : Cond) ∈ wAll := List.mem_append_left _ (List.mem_of_getElem? (i := 128) rfl)
set_option maxRecDepth 20000 in
theorem k_129 : (.methodLink R_O 149 y_Lg_compareUnsigned : Cond) ∈ wAll := List.mem_append_left _ (List.mem_of_getElem? (i := 129) rfl)
set_option maxRecDepth 20000 in
theorem k_130 : (.code y_O_answerNoNumber b_O_answerNoNumber 3 none : Cond) ∈ wAll := List.mem_append_left _ (List.mem_of_getElem? (i := 130) rfl)
set_option maxRecDepth 20000 in
theorem k_131 : (.methodLink R_O 124 y_O_isQuotient : Cond) ∈ wAll := List.mem_append_left _ (List.mem_of_getElem? (i := 131) rfl)
set_option maxRecDepth 20000 in
theorem k_132 : (.static y_O_isQuotient : Cond) ∈ wAll := List.mem_append_left _ (List.mem_of_getElem? (i := 132) rfl)
set_option maxRecDepth 20000 in
theorem k_133 : (.constantLong R_O 136 (-9223372036854775808) : Cond) ∈ wAll := List.mem_append_left _ (List.mem_of_getElem? (i := 133) rfl)
set_option maxRecDepth 20000 in
theorem k_134 : (.code y_O_answerOfInfinite b_O_answerOfInfinite 3 none : Cond) ∈ wAll := List.mem_append_left _ (List.mem_of_getElem? (i := 134) rfl)
set_option maxRecDepth 20000 in
theorem k_135 : (.fieldLink R_O 40 "RealOperations" "size" "LRealOperations$Size;" : Cond) ∈ wAll := List.mem_append_left _ (List.mem_of_getElem? (i := 135) rfl)
set_option maxRecDepth 20000 in
theorem k_136 : (.fieldLink R_O 44 "RealOperations" "otherSize" "LRealOperations$Size;" : Cond) ∈ wAll := List.mem_append_left _ (List.mem_of_getElem? (i := 136) rfl)
set_option maxRecDepth 20000 in
theorem k_137 : (.instanceMethod y_S_isLessThan : Cond) ∈ wAll := List.mem_append_left _ (List.mem_of_getElem? (i := 137) rfl)
set_option maxRecDepth 20000 in
theorem k_138 : (.selects R_S y_S_isLessThan y_S_isLessThan : Cond) ∈ wAll := List.mem_append_left _ (List.mem_of_getElem? (i := 138) rfl)
set_option maxRecDepth 20000 in
theorem k_139 : (.instanceMethod y_S_take : Cond) ∈ wAll := List.mem_append_left _ (List.mem_of_getElem? (i := 139) rfl)
set_option maxRecDepth 20000 in
theorem k_140 : (.selects R_S y_S_take y_S_take : Cond) ∈ wAll := List.mem_append_left _ (List.mem_of_getElem? (i := 140) rfl)
set_option maxRecDepth 20000 in
theorem k_141 : (.instanceMethod y_S_subtract : Cond) ∈ wAll := List.mem_append_left _ (List.mem_of_getElem? (i := 141) rfl)
set_option maxRecDepth 20000 in
theorem k_142 : (.selects R_S y_S_subtract y_S_subtract : Cond) ∈ wAll := List.mem_append_left _ (List.mem_of_getElem? (i := 142) rfl)
set_option maxRecDepth 20000 in
theorem k_143 : (.methodLink R_O 199 y_O_rounding : Cond) ∈ wAll := List.mem_append_left _ (List.mem_of_getElem? (i := 143) rfl)
set_option maxRecDepth 20000 in
theorem k_144 : (.instanceMethod y_O_rounding : Cond) ∈ wAll := List.mem_append_left _ (List.mem_of_getElem? (i := 144) rfl)
set_option maxRecDepth 20000 in
theorem k_145 : (.selects R_O y_O_rounding y_O_rounding : Cond) ∈ wAll := List.mem_append_left _ (List.mem_of_getElem? (i := 145) rfl)
set_option maxRecDepth 20000 in
theorem k_146 : (.instanceMethod y_S_add : Cond) ∈ wAll := List.mem_append_left _ (List.mem_of_getElem? (i := 146) rfl)
set_option maxRecDepth 20000 in
theorem k_147 : (.selects R_S y_S_add y_S_add : Cond) ∈ wAll := List.mem_append_left _ (List.mem_of_getElem? (i := 147) rfl)
set_option maxRecDepth 20000 in
theorem k_148 : (.code y_O_computeSum b_O_computeSum 3 (some .boolean) : Cond) ∈ wAll := List.mem_append_left _ (List.mem_of_getElem? (i := 148) rfl)
set_option maxRecDepth 20000 in
theorem k_149 : (.instanceMethod y_S_divide : Cond) ∈ wAll := List.mem_append_left _ (List.mem_of_getElem? (i := 149) rfl)
set_option maxRecDepth 20000 in
theorem k_150 : (.selects R_S y_S_divide y_S_divide : Cond) ∈ wAll := List.mem_append_left _ (List.mem_of_getElem? (i := 150) rfl)
set_option maxRecDepth 20000 in
theorem k_151 : (.instanceMethod y_S_multiply : Cond) ∈ wAll := List.mem_append_left _ (List.mem_of_getElem? (i := 151) rfl)
set_option maxRecDepth 20000 in
theorem k_152 : (.selects R_S y_S_multiply y_S_multiply : Cond) ∈ wAll := List.mem_append_left _ (List.mem_of_getElem? (i := 152) rfl)
set_option maxRecDepth 20000 in
theorem k_153 : (.instanceMethod y_S_takeRoot : Cond) ∈ wAll := List.mem_append_left _ (List.mem_of_getElem? (i := 153) rfl)
set_option maxRecDepth 20000 in
theorem k_154 : (.selects R_S y_S_takeRoot y_S_takeRoot : Cond) ∈ wAll := List.mem_append_left _ (List.mem_of_getElem? (i := 154) rfl)
set_option maxRecDepth 20000 in
theorem k_155 : (.methodLink R_O 173 y_O_computeSum : Cond) ∈ wAll := List.mem_append_left _ (List.mem_of_getElem? (i := 155) rfl)
set_option maxRecDepth 20000 in
theorem k_156 : (.instanceMethod y_O_computeSum : Cond) ∈ wAll := List.mem_append_left _ (List.mem_of_getElem? (i := 156) rfl)
set_option maxRecDepth 20000 in
theorem k_157 : (.selects R_O y_O_computeSum y_O_computeSum : Cond) ∈ wAll := List.mem_append_left _ (List.mem_of_getElem? (i := 157) rfl)
set_option maxRecDepth 20000 in
theorem k_158 : (.code y_O_computeExactly b_O_computeExactly 2 (some .boolean) : Cond) ∈ wAll := List.mem_append_left _ (List.mem_of_getElem? (i := 158) rfl)
set_option maxRecDepth 20000 in
theorem k_159 : (.methodLink R_O 207 y_O_digits : Cond) ∈ wAll := List.mem_append_left _ (List.mem_of_getElem? (i := 159) rfl)
set_option maxRecDepth 20000 in
theorem k_160 : (.instanceMethod y_O_digits : Cond) ∈ wAll := List.mem_append_left _ (List.mem_of_getElem? (i := 160) rfl)
set_option maxRecDepth 20000 in
theorem k_161 : (.selects R_O y_O_digits y_O_digits : Cond) ∈ wAll := List.mem_append_left _ (List.mem_of_getElem? (i := 161) rfl)
set_option maxRecDepth 20000 in
theorem k_162 : (.methodLink R_O 221 y_O_isMasked : Cond) ∈ wAll := List.mem_append_left _ (List.mem_of_getElem? (i := 162) rfl)
set_option maxRecDepth 20000 in
theorem k_163 : (.instanceMethod y_O_isMasked : Cond) ∈ wAll := List.mem_append_left _ (List.mem_of_getElem? (i := 163) rfl)
set_option maxRecDepth 20000 in
theorem k_164 : (.selects R_O y_O_isMasked y_O_isMasked : Cond) ∈ wAll := List.mem_append_left _ (List.mem_of_getElem? (i := 164) rfl)
set_option maxRecDepth 20000 in
theorem k_165 : (.instanceMethod y_S_round : Cond) ∈ wAll := List.mem_append_left _ (List.mem_of_getElem? (i := 165) rfl)
set_option maxRecDepth 20000 in
theorem k_166 : (.selects R_S y_S_round y_S_round : Cond) ∈ wAll := List.mem_append_left _ (List.mem_of_getElem? (i := 166) rfl)
set_option maxRecDepth 20000 in
theorem k_167 : (.code y_O_roundSmall b_O_roundSmall 4 (some .int) : Cond) ∈ wAll := List.mem_append_left _ (List.mem_of_getElem? (i := 167) rfl)
set_option maxRecDepth 20000 in
theorem k_168 : (.constantLong R_O 227 (-1) : Cond) ∈ wAll := List.mem_append_left _ (List.mem_of_getElem? (i := 168) rfl)
set_option maxRecDepth 20000 in
theorem k_169 : (.instanceMethod y_R_putSize : Cond) ∈ wAll := List.mem_append_left _ (List.mem_of_getElem? (i := 169) rfl)
set_option maxRecDepth 20000 in
theorem k_170 : (.selects R_R y_R_putSize y_R_putSize : Cond) ∈ wAll := List.mem_append_left _ (List.mem_of_getElem? (i := 170) rfl)
set_option maxRecDepth 20000 in
theorem k_171 : (.code y_O_answerGreat b_O_answerGreat 3 (some .int) : Cond) ∈ wAll := List.mem_append_left _ (List.mem_of_getElem? (i := 171) rfl)
set_option maxRecDepth 20000 in
theorem k_172 : (.methodLink R_O 214 y_O_answerGreat : Cond) ∈ wAll := List.mem_append_left _ (List.mem_of_getElem? (i := 172) rfl)
set_option maxRecDepth 20000 in
theorem k_173 : (.instanceMethod y_O_answerGreat : Cond) ∈ wAll := List.mem_append_left _ (List.mem_of_getElem? (i := 173) rfl)
set_option maxRecDepth 20000 in
theorem k_174 : (.selects R_O y_O_answerGreat y_O_answerGreat : Cond) ∈ wAll := List.mem_append_left _ (List.mem_of_getElem? (i := 174) rfl)
set_option maxRecDepth 20000 in
theorem k_175 : (.methodLink R_O 204 y_O_roundSmall : Cond) ∈ wAll := List.mem_append_left _ (List.mem_of_getElem? (i := 175) rfl)
set_option maxRecDepth 20000 in
theorem k_176 : (.instanceMethod y_O_roundSmall : Cond) ∈ wAll := List.mem_append_left _ (List.mem_of_getElem? (i := 176) rfl)
set_option maxRecDepth 20000 in
theorem k_177 : (.selects R_O y_O_roundSmall y_O_roundSmall : Cond) ∈ wAll := List.mem_append_left _ (List.mem_of_getElem? (i := 177) rfl)
set_option maxRecDepth 20000 in
theorem k_178 : (.code y_O_make b_O_make 3 (some .int) : Cond) ∈ wAll := List.mem_append_left _ (List.mem_of_getElem? (i := 178) rfl)
set_option maxRecDepth 20000 in
theorem k_179 : (.methodLink R_O 105 y_O_answerNoNumber : Cond) ∈ wAll := List.mem_append_left _ (List.mem_of_getElem? (i := 179) rfl)
set_option maxRecDepth 20000 in
theorem k_180 : (.instanceMethod y_O_answerNoNumber : Cond) ∈ wAll := List.mem_append_left _ (List.mem_of_getElem? (i := 180) rfl)
set_option maxRecDepth 20000 in
theorem k_181 : (.selects R_O y_O_answerNoNumber y_O_answerNoNumber : Cond) ∈ wAll := List.mem_append_left _ (List.mem_of_getElem? (i := 181) rfl)
set_option maxRecDepth 20000 in
theorem k_182 : (.methodLink R_O 112 y_O_isInvalid : Cond) ∈ wAll := List.mem_append_left _ (List.mem_of_getElem? (i := 182) rfl)
set_option maxRecDepth 20000 in
theorem k_183 : (.instanceMethod y_O_isInvalid : Cond) ∈ wAll := List.mem_append_left _ (List.mem_of_getElem? (i := 183) rfl)
set_option maxRecDepth 20000 in
theorem k_184 : (.selects R_O y_O_isInvalid y_O_isInvalid : Cond) ∈ wAll := List.mem_append_left _ (List.mem_of_getElem? (i := 184) rfl)
set_option maxRecDepth 20000 in
theorem k_185 : (.instanceMethod y_R_isDenormal : Cond) ∈ wAll := List.mem_append_left _ (List.mem_of_getElem? (i := 185) rfl)
set_option maxRecDepth 20000 in
theorem k_186 : (.selects R_R y_R_isDenormal y_R_isDenormal : Cond) ∈ wAll := List.mem_append_left _ (List.mem_of_getElem? (i := 186) rfl)
set_option maxRecDepth 20000 in
theorem k_187 : (.methodLink R_O 82 y_O_isStopped : Cond) ∈ wAll := List.mem_append_left _ (List.mem_of_getElem? (i := 187) rfl)
set_option maxRecDepth 20000 in
theorem k_188 : (.instanceMethod y_O_isStopped : Cond) ∈ wAll := List.mem_append_left _ (List.mem_of_getElem? (i := 188) rfl)
set_option maxRecDepth 20000 in
theorem k_189 : (.selects R_O y_O_isStopped y_O_isStopped : Cond) ∈ wAll := List.mem_append_left _ (List.mem_of_getElem? (i := 189) rfl)
set_option maxRecDepth 20000 in
theorem k_190 : (.methodLink R_O 138 y_O_answerOfInfinite : Cond) ∈ wAll := List.mem_append_left _ (List.mem_of_getElem? (i := 190) rfl)
set_option maxRecDepth 20000 in
theorem k_191 : (.instanceMethod y_O_answerOfInfinite : Cond) ∈ wAll := List.mem_append_left _ (List.mem_of_getElem? (i := 191) rfl)
set_option maxRecDepth 20000 in
theorem k_192 : (.selects R_O y_O_answerOfInfinite y_O_answerOfInfinite : Cond) ∈ wAll := List.mem_append_left _ (List.mem_of_getElem? (i := 192) rfl)
set_option maxRecDepth 20000 in
theorem k_193 : (.methodLink R_O 142 y_O_computeExactly : Cond) ∈ wAll := List.mem_append_left _ (List.mem_of_getElem? (i := 193) rfl)
set_option maxRecDepth 20000 in
theorem k_194 : (.instanceMethod y_O_computeExactly : Cond) ∈ wAll := List.mem_append_left _ (List.mem_of_getElem? (i := 194) rfl)
set_option maxRecDepth 20000 in
theorem k_195 : (.selects R_O y_O_computeExactly y_O_computeExactly : Cond) ∈ wAll := List.mem_append_left _ (List.mem_of_getElem? (i := 195) rfl)
set_option maxRecDepth 20000 in
theorem k_196 : (.methodLink R_O 145 y_O_make : Cond) ∈ wAll := List.mem_append_left _ (List.mem_of_getElem? (i := 196) rfl)
set_option maxRecDepth 20000 in
theorem k_197 : (.instanceMethod y_O_make : Cond) ∈ wAll := List.mem_append_left _ (List.mem_of_getElem? (i := 197) rfl)
set_option maxRecDepth 20000 in
theorem k_198 : (.selects R_O y_O_make y_O_make : Cond) ∈ wAll := List.mem_append_left _ (List.mem_of_getElem? (i := 198) rfl)
set_option maxRecDepth 20000 in
theorem k_199 : (.constantLong R_O 115 (-4611686018427387904) : Cond) ∈ wAll := List.mem_append_left _ (List.mem_of_getElem? (i := 199) rfl)
set_option maxRecDepth 20000 in
theorem k_200 : (.code y_O_carryOut b_O_carryOut 3 (some .int) : Cond) ∈ wAll := List.mem_append_left _ (List.mem_of_getElem? (i := 200) rfl)
set_option maxRecDepth 20000 in
theorem k_201 : (.fieldLink R_O 9 "RealOperations" "tops" "[I" : Cond) ∈ wAll := List.mem_append_left _ (List.mem_of_getElem? (i := 201) rfl)
set_option maxRecDepth 20000 in
theorem k_202 : (.fieldLink R_O 13 "RealOperations" "fractions" "[J" : Cond) ∈ wAll := List.mem_append_left _ (List.mem_of_getElem? (i := 202) rfl)
set_option maxRecDepth 20000 in
theorem k_203 : (.instanceMethod y_R_take : Cond) ∈ wAll := List.mem_append_left _ (List.mem_of_getElem? (i := 203) rfl)
set_option maxRecDepth 20000 in
theorem k_204 : (.selects R_R y_R_take y_R_take : Cond) ∈ wAll := List.mem_append_left _ (List.mem_of_getElem? (i := 204) rfl)
set_option maxRecDepth 20000 in
theorem k_205 : (.code y_O_takeOperands b_O_takeOperands 7 none : Cond) ∈ wAll := List.mem_append_left _ (List.mem_of_getElem? (i := 205) rfl)
set_option maxRecDepth 20000 in
theorem k_206 : (.methodLink R_O 47 y_O_hasSixteenBits : Cond) ∈ wAll := List.mem_append_left _ (List.mem_of_getElem? (i := 206) rfl)
set_option maxRecDepth 20000 in
theorem k_207 : (.static y_O_hasSixteenBits : Cond) ∈ wAll := List.mem_append_left _ (List.mem_of_getElem? (i := 207) rfl)
set_option maxRecDepth 20000 in
theorem k_208 : (.classLink R_O 51 "java/lang/IllegalArgumentException" : Cond) ∈ wAll := List.mem_append_left _ (List.mem_of_getElem? (i := 208) rfl)
set_option maxRecDepth 20000 in
theorem k_209 : (.initialized "java/lang/IllegalArgumentException" : Cond) ∈ wAll := List.mem_append_left _ (List.mem_of_getElem? (i := 209) rfl)
set_option maxRecDepth 20000 in
theorem k_210 : (.code y_O_control b_O_control 2 none : Cond) ∈ wAll := List.mem_append_left _ (List.mem_of_getElem? (i := 210) rfl)
set_option maxRecDepth 20000 in
theorem k_211 : (.methodLink R_O 58 y_O_isRegister : Cond) ∈ wAll := List.mem_append_left _ (List.mem_of_getElem? (i := 211) rfl)
set_option maxRecDepth 20000 in
theorem k_212 : (.static y_O_isRegister : Cond) ∈ wAll := List.mem_append_left _ (List.mem_of_getElem? (i := 212) rfl)
set_option maxRecDepth 20000 in
theorem k_213 : (.constantLong R_O 68 4294967295 : Cond) ∈ wAll := List.mem_append_left _ (List.mem_of_getElem? (i := 213) rfl)
set_option maxRecDepth 20000 in
theorem k_214 : (.classLink R_O 61 "java/lang/IndexOutOfBoundsException" : Cond) ∈ wAll := List.mem_append_left _ (List.mem_of_getElem? (i := 214) rfl)
set_option maxRecDepth 20000 in
theorem k_215 : (.initialized "java/lang/IndexOutOfBoundsException" : Cond) ∈ wAll := List.mem_append_left _ (List.mem_of_getElem? (i := 215) rfl)
set_option maxRecDepth 20000 in
theorem k_216 : (.code y_O_set b_O_set 5 none : Cond) ∈ wAll := List.mem_append_left _ (List.mem_of_getElem? (i := 216) rfl)
set_option maxRecDepth 20000 in
theorem k_217 : (.code y_O_part b_O_part 3 (some .int) : Cond) ∈ wAll := List.mem_append_left _ (List.mem_of_getElem? (i := 217) rfl)
set_option maxRecDepth 20000 in
theorem k_218 : (.methodLink R_O 74 y_O_takeOperands : Cond) ∈ wAll := List.mem_append_left _ (List.mem_of_getElem? (i := 218) rfl)
set_option maxRecDepth 20000 in
theorem k_219 : (.instanceMethod y_O_takeOperands : Cond) ∈ wAll := List.mem_append_left _ (List.mem_of_getElem? (i := 219) rfl)
set_option maxRecDepth 20000 in
theorem k_220 : (.selects R_O y_O_takeOperands y_O_takeOperands : Cond) ∈ wAll := List.mem_append_left _ (List.mem_of_getElem? (i := 220) rfl)
set_option maxRecDepth 20000 in
theorem k_221 : (.methodLink R_O 78 y_O_carryOut : Cond) ∈ wAll := List.mem_append_left _ (List.mem_of_getElem? (i := 221) rfl)
set_option maxRecDepth 20000 in
theorem k_222 : (.instanceMethod y_O_carryOut : Cond) ∈ wAll := List.mem_append_left _ (List.mem_of_getElem? (i := 222) rfl)
set_option maxRecDepth 20000 in
theorem k_223 : (.selects R_O y_O_carryOut y_O_carryOut : Cond) ∈ wAll := List.mem_append_left _ (List.mem_of_getElem? (i := 223) rfl)
set_option maxRecDepth 20000 in
theorem k_224 : (.instanceMethod y_R_top : Cond) ∈ wAll := List.mem_append_left _ (List.mem_of_getElem? (i := 224) rfl)
set_option maxRecDepth 20000 in
theorem k_225 : (.selects R_R y_R_top y_R_top : Cond) ∈ wAll := List.mem_append_left _ (List.mem_of_getElem? (i := 225) rfl)
set_option maxRecDepth 20000 in
theorem k_226 : (.code y_O_operate b_O_operate 6 (some .int) : Cond) ∈ wAll := List.mem_append_left _ (List.mem_of_getElem? (i := 226) rfl)
set_option maxRecDepth 20000 in
theorem k_227 : (.methodLink R_O 1 objectInit : Cond) ∈ wAll := List.mem_append_left _ (List.mem_of_getElem? (i := 227) rfl)
set_option maxRecDepth 20000 in
theorem k_228 : (.arrayClass .int : Cond) ∈ wAll := List.mem_append_left _ (List.mem_of_getElem? (i := 228) rfl)
set_option maxRecDepth 20000 in
theorem k_229 : (.arrayClass .long : Cond) ∈ wAll := List.mem_append_left _ (List.mem_of_getElem? (i := 229) rfl)
set_option maxRecDepth 20000 in
theorem k_230 : (.classLink R_O 24 R_R : Cond) ∈ wAll := List.mem_append_left _ (List.mem_of_getElem? (i := 230) rfl)
set_option maxRecDepth 20000 in
theorem k_231 : (.instantiable R_R 3 : Cond) ∈ wAll := List.mem_append_left _ (List.mem_of_getElem? (i := 231) rfl)
set_option maxRecDepth 20000 in
theorem k_232 : (.instanceMethod y_R_init : Cond) ∈ wAll := List.mem_append_left _ (List.mem_of_getElem? (i := 232) rfl)
set_option maxRecDepth 20000 in
theorem k_233 : (.classLink R_O 37 R_S : Cond) ∈ wAll := List.mem_append_left _ (List.mem_of_getElem? (i := 233) rfl)
set_option maxRecDepth 20000 in
theorem k_234 : (.instantiable R_S 3 : Cond) ∈ wAll := List.mem_append_left _ (List.mem_of_getElem? (i := 234) rfl)
set_option maxRecDepth 20000 in
theorem k_235 : (.instanceMethod y_S_init : Cond) ∈ wAll := List.mem_append_left _ (List.mem_of_getElem? (i := 235) rfl)
set_option maxRecDepth 20000 in
theorem k_236 : (.code y_O_init b_O_init 1 none : Cond) ∈ wAll := List.mem_append_left _ (List.mem_of_getElem? (i := 236) rfl)
set_option maxRecDepth 20000 in
theorem k_237 : (.code y_M_none b_M_none 1 (some .boolean) : Cond) ∈ wAll := List.mem_append_left _ (List.mem_of_getElem? (i := 237) rfl)
set_option maxRecDepth 20000 in
theorem k_238 : (.code y_M_below b_M_below 4 (some .boolean) : Cond) ∈ wAll := List.mem_append_left _ (List.mem_of_getElem? (i := 238) rfl)
set_option maxRecDepth 20000 in
theorem k_239 : (.fieldLink R_M 35 "RealOperationsModel" "code" "I" : Cond) ∈ wAll := List.mem_append_left _ (List.mem_of_getElem? (i := 239) rfl)
set_option maxRecDepth 20000 in
theorem k_240 : (.code y_M_thrown b_M_thrown 1 (some .int) : Cond) ∈ wAll := List.mem_append_left _ (List.mem_of_getElem? (i := 240) rfl)
set_option maxRecDepth 20000 in
theorem k_241 : (.fieldLink R_M 45 "RealOperationsModel" "all" "I" : Cond) ∈ wAll := List.mem_append_left _ (List.mem_of_getElem? (i := 241) rfl)
set_option maxRecDepth 20000 in
theorem k_242 : (.code y_M_told b_M_told 1 (some .int) : Cond) ∈ wAll := List.mem_append_left _ (List.mem_of_getElem? (i := 242) rfl)
set_option maxRecDepth 20000 in
theorem k_243 : (.code y_M_clear b_M_clear 1 none : Cond) ∈ wAll := List.mem_append_left _ (List.mem_of_getElem? (i := 243) rfl)
set_option maxRecDepth 20000 in
theorem k_244 : (.fieldLink R_M 7 "RealOperationsModel" "word" "I" : Cond) ∈ wAll := List.mem_append_left _ (List.mem_of_getElem? (i := 244) rfl)
set_option maxRecDepth 20000 in
theorem k_245 : (.code y_M_digits b_M_digits 2 (some .int) : Cond) ∈ wAll := List.mem_append_left _ (List.mem_of_getElem? (i := 245) rfl)
set_option maxRecDepth 20000 in
theorem k_246 : (.constant R_M 38 65535 : Cond) ∈ wAll := List.mem_append_left _ (List.mem_of_getElem? (i := 246) rfl)
set_option maxRecDepth 20000 in
theorem k_247 : (.code y_M_control b_M_control 2 none : Cond) ∈ wAll := List.mem_append_left _ (List.mem_of_getElem? (i := 247) rfl)
set_option maxRecDepth 20000 in
theorem k_248 : (.fieldLink R_M 48 "RealOperationsModel" "told" "I" : Cond) ∈ wAll := List.mem_append_left _ (List.mem_of_getElem? (i := 248) rfl)
set_option maxRecDepth 20000 in
theorem k_249 : (.fieldLink R_M 51 "RealOperationsModel" "stopped" "Z" : Cond) ∈ wAll := List.mem_append_left _ (List.mem_of_getElem? (i := 249) rfl)
set_option maxRecDepth 20000 in
theorem k_250 : (.code y_M_tell b_M_tell 2 (some .boolean) : Cond) ∈ wAll := List.mem_append_left _ (List.mem_of_getElem? (i := 250) rfl)
set_option maxRecDepth 20000 in
theorem k_251 : (.constant R_M 55 32768 : Cond) ∈ wAll := List.mem_append_left _ (List.mem_of_getElem? (i := 251) rfl)
set_option maxRecDepth 20000 in
theorem k_252 : (.fieldLink R_M 56 "RealOperationsModel" "topOf" "I" : Cond) ∈ wAll := List.mem_append_left _ (List.mem_of_getElem? (i := 252) rfl)
set_option maxRecDepth 20000 in
theorem k_253 : (.fieldLink R_M 59 "RealOperationsModel" "fractionOf" "J" : Cond) ∈ wAll := List.mem_append_left _ (List.mem_of_getElem? (i := 253) rfl)
set_option maxRecDepth 20000 in
theorem k_254 : (.code y_M_answer b_M_answer 5 none : Cond) ∈ wAll := List.mem_append_left _ (List.mem_of_getElem? (i := 254) rfl)
set_option maxRecDepth 20000 in
theorem k_255 : (.fieldLink R_M 25 "RealOperationsModel" "power" "[I" : Cond) ∈ wAll := List.mem_append_left _ (List.mem_of_getElem? (i := 255) rfl)
set_option maxRecDepth 20000 in
theorem k_256 : (.fieldLink R_M 28 "RealOperationsModel" "part" "[J" : Cond) ∈ wAll := List.mem_append_left _ (List.mem_of_getElem? (i := 256) rfl)
set_option maxRecDepth 20000 in
theorem k_257 : (.code y_M_isNone b_M_isNone 2 (some .boolean) : Cond) ∈ wAll := List.mem_append_left _ (List.mem_of_getElem? (i := 257) rfl)
set_option maxRecDepth 20000 in
theorem k_258 : (.code y_M_isEndless b_M_isEndless 2 (some .boolean) : Cond) ∈ wAll := List.mem_append_left _ (List.mem_of_getElem? (i := 258) rfl)
set_option maxRecDepth 20000 in
theorem k_259 : (.code y_M_isNothing b_M_isNothing 2 (some .boolean) : Cond) ∈ wAll := List.mem_append_left _ (List.mem_of_getElem? (i := 259) rfl)
set_option maxRecDepth 20000 in
theorem k_260 : (.code y_M_isDenormal b_M_isDenormal 2 (some .boolean) : Cond) ∈ wAll := List.mem_append_left _ (List.mem_of_getElem? (i := 260) rfl)
set_option maxRecDepth 20000 in
theorem k_261 : (.code y_M_isUnnormal b_M_isUnnormal 2 (some .boolean) : Cond) ∈ wAll := List.mem_append_left _ (List.mem_of_getElem? (i := 261) rfl)
set_option maxRecDepth 20000 in
theorem k_262 : (.code y_M_unitOf b_M_unitOf 2 (some .int) : Cond) ∈ wAll := List.mem_append_left _ (List.mem_of_getElem? (i := 262) rfl)
set_option maxRecDepth 20000 in
theorem k_263 : (.initialized R_M : Cond) ∈ wAll := List.mem_append_left _ (List.mem_of_getElem? (i := 263) rfl)
set_option maxRecDepth 20000 in
theorem k_264 : (.methodLink R_M 39 y_M_none : Cond) ∈ wAll := List.mem_append_left _ (List.mem_of_getElem? (i := 264) rfl)
set_option maxRecDepth 20000 in
theorem k_265 : (.static y_M_none : Cond) ∈ wAll := List.mem_append_left _ (List.mem_of_getElem? (i := 265) rfl)
set_option maxRecDepth 20000 in
theorem k_266 : (.fieldLink R_M 13 "RealOperationsModel" "top" "[I" : Cond) ∈ wAll := List.mem_append_left _ (List.mem_of_getElem? (i := 266) rfl)
set_option maxRecDepth 20000 in
theorem k_267 : (.fieldLink R_M 17 "RealOperationsModel" "fraction" "[J" : Cond) ∈ wAll := List.mem_append_left _ (List.mem_of_getElem? (i := 267) rfl)
set_option maxRecDepth 20000 in
theorem k_268 : (.constantLong R_M 43 4294967295 : Cond) ∈ wAll := List.mem_append_left _ (List.mem_of_getElem? (i := 268) rfl)
set_option maxRecDepth 20000 in
theorem k_269 : (.code y_M_set b_M_set 5 none : Cond) ∈ wAll := List.mem_append_left _ (List.mem_of_getElem? (i := 269) rfl)
set_option maxRecDepth 20000 in
theorem k_270 : (.code y_M_part b_M_part 3 (some .int) : Cond) ∈ wAll := List.mem_append_left _ (List.mem_of_getElem? (i := 270) rfl)
set_option maxRecDepth 20000 in
theorem k_271 : (.fieldLink R_M 63 "RealOperationsModel" "size" "I" : Cond) ∈ wAll := List.mem_append_left _ (List.mem_of_getElem? (i := 271) rfl)
set_option maxRecDepth 20000 in
theorem k_272 : (.fieldLink R_M 32 "RealOperationsModel" "row" "[Z" : Cond) ∈ wAll := List.mem_append_left _ (List.mem_of_getElem? (i := 272) rfl)
set_option maxRecDepth 20000 in
theorem k_273 : (.code y_M_bit b_M_bit 2 (some .boolean) : Cond) ∈ wAll := List.mem_append_left _ (List.mem_of_getElem? (i := 273) rfl)
set_option maxRecDepth 20000 in
theorem k_274 : (.code y_M_highest b_M_highest 2 (some .int) : Cond) ∈ wAll := List.mem_append_left _ (List.mem_of_getElem? (i := 274) rfl)
set_option maxRecDepth 20000 in
theorem k_275 : (.fieldLink R_M 66 "RealOperationsModel" "more" "Z" : Cond) ∈ wAll := List.mem_append_left _ (List.mem_of_getElem? (i := 275) rfl)
set_option maxRecDepth 20000 in
theorem k_276 : (.code y_M_rest b_M_rest 4 (some .boolean) : Cond) ∈ wAll := List.mem_append_left _ (List.mem_of_getElem? (i := 276) rfl)
set_option maxRecDepth 20000 in
theorem k_277 : (.fieldLink R_M 69 "RealOperationsModel" "unit" "I" : Cond) ∈ wAll := List.mem_append_left _ (List.mem_of_getElem? (i := 277) rfl)
set_option maxRecDepth 20000 in
theorem k_278 : (.constantLong R_M 72 2 : Cond) ∈ wAll := List.mem_append_left _ (List.mem_of_getElem? (i := 278) rfl)
set_option maxRecDepth 20000 in
theorem k_279 : (.methodLink R_M 74 y_M_bit : Cond) ∈ wAll := List.mem_append_left _ (List.mem_of_getElem? (i := 279) rfl)
set_option maxRecDepth 20000 in
theorem k_280 : (.instanceMethod y_M_bit : Cond) ∈ wAll := List.mem_append_left _ (List.mem_of_getElem? (i := 280) rfl)
set_option maxRecDepth 20000 in
theorem k_281 : (.selects R_M y_M_bit y_M_bit : Cond) ∈ wAll := List.mem_append_left _ (List.mem_of_getElem? (i := 281) rfl)
set_option maxRecDepth 20000 in
theorem k_282 : (.methodLink R_M 77 y_M_rest : Cond) ∈ wAll := List.mem_append_left _ (List.mem_of_getElem? (i := 282) rfl)
set_option maxRecDepth 20000 in
theorem k_283 : (.instanceMethod y_M_rest : Cond) ∈ wAll := List.mem_append_left _ (List.mem_of_getElem? (i := 283) rfl)
set_option maxRecDepth 20000 in
theorem k_284 : (.selects R_M y_M_rest y_M_rest : Cond) ∈ wAll := List.mem_append_left _ (List.mem_of_getElem? (i := 284) rfl)
set_option maxRecDepth 20000 in
theorem k_285 : (.fieldLink R_M 80 "RealOperationsModel" "lossy" "Z" : Cond) ∈ wAll := List.mem_append_left _ (List.mem_of_getElem? (i := 285) rfl)
set_option maxRecDepth 20000 in
theorem k_286 : (.code y_M_times b_M_times 10 (some .long) : Cond) ∈ wAll := List.mem_append_left _ (List.mem_of_getElem? (i := 286) rfl)
set_option maxRecDepth 20000 in
theorem k_287 : (.constantLong R_M 87 (-9223372036854775808) : Cond) ∈ wAll := List.mem_append_left _ (List.mem_of_getElem? (i := 287) rfl)
set_option maxRecDepth 20000 in
theorem k_288 : (.methodLink R_M 83 y_M_answer : Cond) ∈ wAll := List.mem_append_left _ (List.mem_of_getElem? (i := 288) rfl)
set_option maxRecDepth 20000 in
theorem k_289 : (.instanceMethod y_M_answer : Cond) ∈ wAll := List.mem_append_left _ (List.mem_of_getElem? (i := 289) rfl)
set_option maxRecDepth 20000 in
theorem k_290 : (.selects R_M y_M_answer y_M_answer : Cond) ∈ wAll := List.mem_append_left _ (List.mem_of_getElem? (i := 290) rfl)
set_option maxRecDepth 20000 in
theorem k_291 : (.code y_M_put b_M_put 11 none : Cond) ∈ wAll := List.mem_append_left _ (List.mem_of_getElem? (i := 291) rfl)
set_option maxRecDepth 20000 in
theorem k_292 : (.methodLink R_M 89 y_M_highest : Cond) ∈ wAll := List.mem_append_left _ (List.mem_of_getElem? (i := 292) rfl)
set_option maxRecDepth 20000 in
theorem k_293 : (.instanceMethod y_M_highest : Cond) ∈ wAll := List.mem_append_left _ (List.mem_of_getElem? (i := 293) rfl)
set_option maxRecDepth 20000 in
theorem k_294 : (.selects R_M y_M_highest y_M_highest : Cond) ∈ wAll := List.mem_append_left _ (List.mem_of_getElem? (i := 294) rfl)
set_option maxRecDepth 20000 in
theorem k_295 : (.methodLink R_M 93 y_M_digits : Cond) ∈ wAll := List.mem_append_left _ (List.mem_of_getElem? (i := 295) rfl)
set_option maxRecDepth 20000 in
theorem k_296 : (.instanceMethod y_M_digits : Cond) ∈ wAll := List.mem_append_left _ (List.mem_of_getElem? (i := 296) rfl)
set_option maxRecDepth 20000 in
theorem k_297 : (.selects R_M y_M_digits y_M_digits : Cond) ∈ wAll := List.mem_append_left _ (List.mem_of_getElem? (i := 297) rfl)
set_option maxRecDepth 20000 in
theorem k_298 : (.methodLink R_M 96 y_M_times : Cond) ∈ wAll := List.mem_append_left _ (List.mem_of_getElem? (i := 298) rfl)
set_option maxRecDepth 20000 in
theorem k_299 : (.instanceMethod y_M_times : Cond) ∈ wAll := List.mem_append_left _ (List.mem_of_getElem? (i := 299) rfl)
set_option maxRecDepth 20000 in
theorem k_300 : (.selects R_M y_M_times y_M_times : Cond) ∈ wAll := List.mem_append_left _ (List.mem_of_getElem? (i := 300) rfl)
set_option maxRecDepth 20000 in
theorem k_301 : (.constantLong R_M 104 (-1) : Cond) ∈ wAll := List.mem_append_left _ (List.mem_of_getElem? (i := 301) rfl)
set_option maxRecDepth 20000 in
theorem k_302 : (.methodLink R_M 100 y_M_put : Cond) ∈ wAll := List.mem_append_left _ (List.mem_of_getElem? (i := 302) rfl)
set_option maxRecDepth 20000 in
theorem k_303 : (.instanceMethod y_M_put : Cond) ∈ wAll := List.mem_append_left _ (List.mem_of_getElem? (i := 303) rfl)
set_option maxRecDepth 20000 in
theorem k_304 : (.selects R_M y_M_put y_M_put : Cond) ∈ wAll := List.mem_append_left _ (List.mem_of_getElem? (i := 304) rfl)
set_option maxRecDepth 20000 in
theorem k_305 : (.code y_M_make b_M_make 13 none : Cond) ∈ wAll := List.mem_append_left _ (List.mem_of_getElem? (i := 305) rfl)
set_option maxRecDepth 20000 in
theorem k_306 : (.code y_M_empty b_M_empty 4 none : Cond) ∈ wAll := List.mem_append_left _ (List.mem_of_getElem? (i := 306) rfl)
set_option maxRecDepth 20000 in
theorem k_307 : (.code y_M_join b_M_join 9 none : Cond) ∈ wAll := List.mem_append_left _ (List.mem_of_getElem? (i := 307) rfl)
set_option maxRecDepth 20000 in
theorem k_308 : (.methodLink R_M 106 y_M_unitOf : Cond) ∈ wAll := List.mem_append_left _ (List.mem_of_getElem? (i := 308) rfl)
set_option maxRecDepth 20000 in
theorem k_309 : (.instanceMethod y_M_unitOf : Cond) ∈ wAll := List.mem_append_left _ (List.mem_of_getElem? (i := 309) rfl)
set_option maxRecDepth 20000 in
theorem k_310 : (.selects R_M y_M_unitOf y_M_unitOf : Cond) ∈ wAll := List.mem_append_left _ (List.mem_of_getElem? (i := 310) rfl)
set_option maxRecDepth 20000 in
theorem k_311 : (.code y_M_isLess b_M_isLess 8 (some .boolean) : Cond) ∈ wAll := List.mem_append_left _ (List.mem_of_getElem? (i := 311) rfl)
set_option maxRecDepth 20000 in
theorem k_312 : (.fieldLink R_M 21 "RealOperationsModel" "minus" "[Z" : Cond) ∈ wAll := List.mem_append_left _ (List.mem_of_getElem? (i := 312) rfl)
set_option maxRecDepth 20000 in
theorem k_313 : (.methodLink R_M 110 y_M_isLess : Cond) ∈ wAll := List.mem_append_left _ (List.mem_of_getElem? (i := 313) rfl)
set_option maxRecDepth 20000 in
theorem k_314 : (.instanceMethod y_M_isLess : Cond) ∈ wAll := List.mem_append_left _ (List.mem_of_getElem? (i := 314) rfl)
set_option maxRecDepth 20000 in
theorem k_315 : (.selects R_M y_M_isLess y_M_isLess : Cond) ∈ wAll := List.mem_append_left _ (List.mem_of_getElem? (i := 315) rfl)
set_option maxRecDepth 20000 in
theorem k_316 : (.methodLink R_M 114 y_M_empty : Cond) ∈ wAll := List.mem_append_left _ (List.mem_of_getElem? (i := 316) rfl)
set_option maxRecDepth 20000 in
theorem k_317 : (.instanceMethod y_M_empty : Cond) ∈ wAll := List.mem_append_left _ (List.mem_of_getElem? (i := 317) rfl)
set_option maxRecDepth 20000 in
theorem k_318 : (.selects R_M y_M_empty y_M_empty : Cond) ∈ wAll := List.mem_append_left _ (List.mem_of_getElem? (i := 318) rfl)
set_option maxRecDepth 20000 in
theorem k_319 : (.methodLink R_M 118 y_M_join : Cond) ∈ wAll := List.mem_append_left _ (List.mem_of_getElem? (i := 319) rfl)
set_option maxRecDepth 20000 in
theorem k_320 : (.instanceMethod y_M_join : Cond) ∈ wAll := List.mem_append_left _ (List.mem_of_getElem? (i := 320) rfl)
set_option maxRecDepth 20000 in
theorem k_321 : (.selects R_M y_M_join y_M_join : Cond) ∈ wAll := List.mem_append_left _ (List.mem_of_getElem? (i := 321) rfl)
set_option maxRecDepth 20000 in
theorem k_322 : (.methodLink R_M 126 y_M_isNothing : Cond) ∈ wAll := List.mem_append_left _ (List.mem_of_getElem? (i := 322) rfl)
set_option maxRecDepth 20000 in
theorem k_323 : (.instanceMethod y_M_isNothing : Cond) ∈ wAll := List.mem_append_left _ (List.mem_of_getElem? (i := 323) rfl)
set_option maxRecDepth 20000 in
theorem k_324 : (.selects R_M y_M_isNothing y_M_isNothing : Cond) ∈ wAll := List.mem_append_left _ (List.mem_of_getElem? (i := 324) rfl)
set_option maxRecDepth 20000 in
theorem k_325 : (.methodLink R_M 122 y_M_make : Cond) ∈ wAll := List.mem_append_left _ (List.mem_of_getElem? (i := 325) rfl)
set_option maxRecDepth 20000 in
theorem k_326 : (.instanceMethod y_M_make : Cond) ∈ wAll := List.mem_append_left _ (List.mem_of_getElem? (i := 326) rfl)
set_option maxRecDepth 20000 in
theorem k_327 : (.selects R_M y_M_make y_M_make : Cond) ∈ wAll := List.mem_append_left _ (List.mem_of_getElem? (i := 327) rfl)
set_option maxRecDepth 20000 in
theorem k_328 : (.code y_M_sum b_M_sum 6 none : Cond) ∈ wAll := List.mem_append_left _ (List.mem_of_getElem? (i := 328) rfl)
set_option maxRecDepth 20000 in
theorem k_329 : (.code y_M_product b_M_product 3 none : Cond) ∈ wAll := List.mem_append_left _ (List.mem_of_getElem? (i := 329) rfl)
set_option maxRecDepth 20000 in
theorem k_330 : (.methodLink R_M 129 y_M_below : Cond) ∈ wAll := List.mem_append_left _ (List.mem_of_getElem? (i := 330) rfl)
set_option maxRecDepth 20000 in
theorem k_331 : (.static y_M_below : Cond) ∈ wAll := List.mem_append_left _ (List.mem_of_getElem? (i := 331) rfl)
set_option maxRecDepth 20000 in
theorem k_332 : (.code y_M_quotient b_M_quotient 7 none : Cond) ∈ wAll := List.mem_append_left _ (List.mem_of_getElem? (i := 332) rfl)
set_option maxRecDepth 20000 in
theorem k_333 : (.code y_M_root b_M_root 19 none : Cond) ∈ wAll := List.mem_append_left _ (List.mem_of_getElem? (i := 333) rfl)
set_option maxRecDepth 20000 in
theorem k_334 : (.code y_M_take b_M_take 3 none : Cond) ∈ wAll := List.mem_append_left _ (List.mem_of_getElem? (i := 334) rfl)
set_option maxRecDepth 20000 in
theorem k_335 : (.methodLink R_M 133 y_M_isNone : Cond) ∈ wAll := List.mem_append_left _ (List.mem_of_getElem? (i := 335) rfl)
set_option maxRecDepth 20000 in
theorem k_336 : (.instanceMethod y_M_isNone : Cond) ∈ wAll := List.mem_append_left _ (List.mem_of_getElem? (i := 336) rfl)
set_option maxRecDepth 20000 in
theorem k_337 : (.selects R_M y_M_isNone y_M_isNone : Cond) ∈ wAll := List.mem_append_left _ (List.mem_of_getElem? (i := 337) rfl)
set_option maxRecDepth 20000 in
theorem k_338 : (.methodLink R_M 136 y_M_tell : Cond) ∈ wAll := List.mem_append_left _ (List.mem_of_getElem? (i := 338) rfl)
set_option maxRecDepth 20000 in
theorem k_339 : (.instanceMethod y_M_tell : Cond) ∈ wAll := List.mem_append_left _ (List.mem_of_getElem? (i := 339) rfl)
set_option maxRecDepth 20000 in
theorem k_340 : (.selects R_M y_M_tell y_M_tell : Cond) ∈ wAll := List.mem_append_left _ (List.mem_of_getElem? (i := 340) rfl)
set_option maxRecDepth 20000 in
theorem k_341 : (.code y_M_noNumber b_M_noNumber 5 none : Cond) ∈ wAll := List.mem_append_left _ (List.mem_of_getElem? (i := 341) rfl)
set_option maxRecDepth 20000 in
theorem k_342 : (.methodLink R_M 142 y_M_isEndless : Cond) ∈ wAll := List.mem_append_left _ (List.mem_of_getElem? (i := 342) rfl)
set_option maxRecDepth 20000 in
theorem k_343 : (.instanceMethod y_M_isEndless : Cond) ∈ wAll := List.mem_append_left _ (List.mem_of_getElem? (i := 343) rfl)
set_option maxRecDepth 20000 in
theorem k_344 : (.selects R_M y_M_isEndless y_M_isEndless : Cond) ∈ wAll := List.mem_append_left _ (List.mem_of_getElem? (i := 344) rfl)
set_option maxRecDepth 20000 in
theorem k_345 : (.methodLink R_M 139 y_M_isUnnormal : Cond) ∈ wAll := List.mem_append_left _ (List.mem_of_getElem? (i := 345) rfl)
set_option maxRecDepth 20000 in
theorem k_346 : (.instanceMethod y_M_isUnnormal : Cond) ∈ wAll := List.mem_append_left _ (List.mem_of_getElem? (i := 346) rfl)
set_option maxRecDepth 20000 in
theorem k_347 : (.selects R_M y_M_isUnnormal y_M_isUnnormal : Cond) ∈ wAll := List.mem_append_left _ (List.mem_of_getElem? (i := 347) rfl)
set_option maxRecDepth 20000 in
theorem k_348 : (.code y_M_isWrong b_M_isWrong 3 (some .boolean) : Cond) ∈ wAll := List.mem_append_left _ (List.mem_of_getElem? (i := 348) rfl)
set_option maxRecDepth 20000 in
theorem k_349 : (.methodLink R_M 145 y_M_isWrong : Cond) ∈ wAll := List.mem_append_left _ (List.mem_of_getElem? (i := 349) rfl)
set_option maxRecDepth 20000 in
theorem k_350 : (.instanceMethod y_M_isWrong : Cond) ∈ wAll := List.mem_append_left _ (List.mem_of_getElem? (i := 350) rfl)
set_option maxRecDepth 20000 in
theorem k_351 : (.selects R_M y_M_isWrong y_M_isWrong : Cond) ∈ wAll := List.mem_append_left _ (List.mem_of_getElem? (i := 351) rfl)
set_option maxRecDepth 20000 in
theorem k_352 : (.methodLink R_M 150 y_M_isDenormal : Cond) ∈ wAll := List.mem_append_left _ (List.mem_of_getElem? (i := 352) rfl)
set_option maxRecDepth 20000 in
theorem k_353 : (.instanceMethod y_M_isDenormal : Cond) ∈ wAll := List.mem_append_left _ (List.mem_of_getElem? (i := 353) rfl)
set_option maxRecDepth 20000 in
theorem k_354 : (.selects R_M y_M_isDenormal y_M_isDenormal : Cond) ∈ wAll := List.mem_append_left _ (List.mem_of_getElem? (i := 354) rfl)
set_option maxRecDepth 20000 in
theorem k_355 : (.methodLink R_M 162 y_M_root : Cond) ∈ wAll := List.mem_append_left _ (List.mem_of_getElem? (i := 355) rfl)
set_option maxRecDepth 20000 in
theorem k_356 : (.instanceMethod y_M_root : Cond) ∈ wAll := List.mem_append_left _ (List.mem_of_getElem? (i := 356) rfl)
set_option maxRecDepth 20000 in
theorem k_357 : (.selects R_M y_M_root y_M_root : Cond) ∈ wAll := List.mem_append_left _ (List.mem_of_getElem? (i := 357) rfl)
set_option maxRecDepth 20000 in
theorem k_358 : (.methodLink R_M 159 y_M_quotient : Cond) ∈ wAll := List.mem_append_left _ (List.mem_of_getElem? (i := 358) rfl)
set_option maxRecDepth 20000 in
theorem k_359 : (.instanceMethod y_M_quotient : Cond) ∈ wAll := List.mem_append_left _ (List.mem_of_getElem? (i := 359) rfl)
set_option maxRecDepth 20000 in
theorem k_360 : (.selects R_M y_M_quotient y_M_quotient : Cond) ∈ wAll := List.mem_append_left _ (List.mem_of_getElem? (i := 360) rfl)
set_option maxRecDepth 20000 in
theorem k_361 : (.methodLink R_M 156 y_M_product : Cond) ∈ wAll := List.mem_append_left _ (List.mem_of_getElem? (i := 361) rfl)
set_option maxRecDepth 20000 in
theorem k_362 : (.instanceMethod y_M_product : Cond) ∈ wAll := List.mem_append_left _ (List.mem_of_getElem? (i := 362) rfl)
set_option maxRecDepth 20000 in
theorem k_363 : (.selects R_M y_M_product y_M_product : Cond) ∈ wAll := List.mem_append_left _ (List.mem_of_getElem? (i := 363) rfl)
set_option maxRecDepth 20000 in
theorem k_364 : (.methodLink R_M 153 y_M_sum : Cond) ∈ wAll := List.mem_append_left _ (List.mem_of_getElem? (i := 364) rfl)
set_option maxRecDepth 20000 in
theorem k_365 : (.instanceMethod y_M_sum : Cond) ∈ wAll := List.mem_append_left _ (List.mem_of_getElem? (i := 365) rfl)
set_option maxRecDepth 20000 in
theorem k_366 : (.selects R_M y_M_sum y_M_sum : Cond) ∈ wAll := List.mem_append_left _ (List.mem_of_getElem? (i := 366) rfl)
set_option maxRecDepth 20000 in
theorem k_367 : (.constantLong R_M 148 (-4611686018427387904) : Cond) ∈ wAll := List.mem_append_left _ (List.mem_of_getElem? (i := 367) rfl)
set_option maxRecDepth 20000 in
theorem k_368 : (.code y_M_work b_M_work 5 none : Cond) ∈ wAll := List.mem_append_left _ (List.mem_of_getElem? (i := 368) rfl)
set_option maxRecDepth 20000 in
theorem k_369 : (.methodLink R_M 165 y_M_take : Cond) ∈ wAll := List.mem_append_left _ (List.mem_of_getElem? (i := 369) rfl)
set_option maxRecDepth 20000 in
theorem k_370 : (.instanceMethod y_M_take : Cond) ∈ wAll := List.mem_append_left _ (List.mem_of_getElem? (i := 370) rfl)
set_option maxRecDepth 20000 in
theorem k_371 : (.selects R_M y_M_take y_M_take : Cond) ∈ wAll := List.mem_append_left _ (List.mem_of_getElem? (i := 371) rfl)
set_option maxRecDepth 20000 in
theorem k_372 : (.methodLink R_M 168 y_M_noNumber : Cond) ∈ wAll := List.mem_append_left _ (List.mem_of_getElem? (i := 372) rfl)
set_option maxRecDepth 20000 in
theorem k_373 : (.instanceMethod y_M_noNumber : Cond) ∈ wAll := List.mem_append_left _ (List.mem_of_getElem? (i := 373) rfl)
set_option maxRecDepth 20000 in
theorem k_374 : (.selects R_M y_M_noNumber y_M_noNumber : Cond) ∈ wAll := List.mem_append_left _ (List.mem_of_getElem? (i := 374) rfl)
set_option maxRecDepth 20000 in
theorem k_375 : (.methodLink R_M 172 y_M_work : Cond) ∈ wAll := List.mem_append_left _ (List.mem_of_getElem? (i := 375) rfl)
set_option maxRecDepth 20000 in
theorem k_376 : (.instanceMethod y_M_work : Cond) ∈ wAll := List.mem_append_left _ (List.mem_of_getElem? (i := 376) rfl)
set_option maxRecDepth 20000 in
theorem k_377 : (.selects R_M y_M_work y_M_work : Cond) ∈ wAll := List.mem_append_left _ (List.mem_of_getElem? (i := 377) rfl)
set_option maxRecDepth 20000 in
theorem k_378 : (.code y_M_operate b_M_operate 7 (some .int) : Cond) ∈ wAll := List.mem_append_left _ (List.mem_of_getElem? (i := 378) rfl)
set_option maxRecDepth 20000 in
theorem k_379 : (.methodLink R_M 1 objectInit : Cond) ∈ wAll := List.mem_append_left _ (List.mem_of_getElem? (i := 379) rfl)
set_option maxRecDepth 20000 in
theorem k_380 : (.arrayClass .boolean : Cond) ∈ wAll := List.mem_append_left _ (List.mem_of_getElem? (i := 380) rfl)
set_option maxRecDepth 20000 in
theorem k_381 : (.constant R_M 31 33000 : Cond) ∈ wAll := List.mem_append_left _ (List.mem_of_getElem? (i := 381) rfl)
set_option maxRecDepth 20000 in
theorem k_382 : (.code y_M_init b_M_init 1 none : Cond) ∈ wAll := List.mem_append_left _ (List.mem_of_getElem? (i := 382) rfl)
set_option maxRecDepth 20000 in
theorem k_383 : (.methodLink R_L 7 y_O_control : Cond) ∈ wAll := List.mem_append_left _ (List.mem_of_getElem? (i := 383) rfl)
set_option maxRecDepth 20000 in
theorem k_384 : (.instanceMethod y_O_control : Cond) ∈ wAll := List.mem_append_left _ (List.mem_of_getElem? (i := 384) rfl)
set_option maxRecDepth 20000 in
theorem k_385 : (.selects R_O y_O_control y_O_control : Cond) ∈ wAll := List.mem_append_left _ (List.mem_of_getElem? (i := 385) rfl)
set_option maxRecDepth 20000 in
theorem k_386 : (.classLink R_L 13 "java/lang/IllegalArgumentException" : Cond) ∈ wAll := List.mem_append_left _ (List.mem_of_getElem? (i := 386) rfl)
set_option maxRecDepth 20000 in
theorem k_387 : (.codeWith y_L_control b_L_control 3 (some .int) [(0, 5, 8, 13)] : Cond) ∈ wAll := List.mem_append_left _ (List.mem_of_getElem? (i := 387) rfl)
set_option maxRecDepth 20000 in
theorem k_388 : (.methodLink R_L 15 y_O_set : Cond) ∈ wAll := List.mem_append_left _ (List.mem_of_getElem? (i := 388) rfl)
set_option maxRecDepth 20000 in
theorem k_389 : (.instanceMethod y_O_set : Cond) ∈ wAll := List.mem_append_left _ (List.mem_of_getElem? (i := 389) rfl)
set_option maxRecDepth 20000 in
theorem k_390 : (.selects R_O y_O_set y_O_set : Cond) ∈ wAll := List.mem_append_left _ (List.mem_of_getElem? (i := 390) rfl)
set_option maxRecDepth 20000 in
theorem k_391 : (.classLink R_L 19 "java/lang/IndexOutOfBoundsException" : Cond) ∈ wAll := List.mem_append_left _ (List.mem_of_getElem? (i := 391) rfl)
set_option maxRecDepth 20000 in
theorem k_392 : (.codeWith y_L_set b_L_set 6 (some .int) [(0, 9, 12, 19), (0, 9, 16, 13)] : Cond) ∈ wAll := List.mem_append_left _ (List.mem_of_getElem? (i := 392) rfl)
set_option maxRecDepth 20000 in
theorem k_393 : (.methodLink R_L 21 y_O_part : Cond) ∈ wAll := List.mem_append_left _ (List.mem_of_getElem? (i := 393) rfl)
set_option maxRecDepth 20000 in
theorem k_394 : (.instanceMethod y_O_part : Cond) ∈ wAll := List.mem_append_left _ (List.mem_of_getElem? (i := 394) rfl)
set_option maxRecDepth 20000 in
theorem k_395 : (.selects R_O y_O_part y_O_part : Cond) ∈ wAll := List.mem_append_left _ (List.mem_of_getElem? (i := 395) rfl)
set_option maxRecDepth 20000 in
theorem k_396 : (.codeWith y_L_part b_L_part 5 (some .int) [(0, 10, 13, 19), (0, 10, 17, 13)] : Cond) ∈ wAll := List.mem_append_left _ (List.mem_of_getElem? (i := 396) rfl)
set_option maxRecDepth 20000 in
theorem k_397 : (.methodLink R_L 25 y_O_operate : Cond) ∈ wAll := List.mem_append_left _ (List.mem_of_getElem? (i := 397) rfl)
set_option maxRecDepth 20000 in
theorem k_398 : (.instanceMethod y_O_operate : Cond) ∈ wAll := List.mem_append_left _ (List.mem_of_getElem? (i := 398) rfl)
set_option maxRecDepth 20000 in
theorem k_399 : (.selects R_O y_O_operate y_O_operate : Cond) ∈ wAll := List.mem_append_left _ (List.mem_of_getElem? (i := 399) rfl)
set_option maxRecDepth 20000 in
theorem k_400 : (.codeWith y_L_operate b_L_operate 7 (some .int) [(0, 14, 17, 19), (0, 14, 21, 13)] : Cond) ∈ wAll := List.mem_append_left _ (List.mem_of_getElem? (i := 400) rfl)
set_option maxRecDepth 20000 in
theorem k_401 : (.initialized R_L : Cond) ∈ wAll := List.mem_append_left _ (List.mem_of_getElem? (i := 401) rfl)
set_option maxRecDepth 20000 in
theorem k_402 : (.methodLink R_L 33 y_L_control : Cond) ∈ wAll := List.mem_append_left _ (List.mem_of_getElem? (i := 402) rfl)
set_option maxRecDepth 20000 in
theorem k_403 : (.static y_L_control : Cond) ∈ wAll := List.mem_append_left _ (List.mem_of_getElem? (i := 403) rfl)
set_option maxRecDepth 20000 in
theorem k_404 : (.methodLink R_L 38 y_M_control : Cond) ∈ wAll := List.mem_append_left _ (List.mem_of_getElem? (i := 404) rfl)
set_option maxRecDepth 20000 in
theorem k_405 : (.instanceMethod y_M_control : Cond) ∈ wAll := List.mem_append_left _ (List.mem_of_getElem? (i := 405) rfl)
set_option maxRecDepth 20000 in
theorem k_406 : (.selects R_M y_M_control y_M_control : Cond) ∈ wAll := List.mem_append_left _ (List.mem_of_getElem? (i := 406) rfl)
set_option maxRecDepth 20000 in
theorem k_407 : (.methodLink R_L 39 y_M_thrown : Cond) ∈ wAll := List.mem_append_left _ (List.mem_of_getElem? (i := 407) rfl)
set_option maxRecDepth 20000 in
theorem k_408 : (.instanceMethod y_M_thrown : Cond) ∈ wAll := List.mem_append_left _ (List.mem_of_getElem? (i := 408) rfl)
set_option maxRecDepth 20000 in
theorem k_409 : (.selects R_M y_M_thrown y_M_thrown : Cond) ∈ wAll := List.mem_append_left _ (List.mem_of_getElem? (i := 409) rfl)
set_option maxRecDepth 20000 in
theorem k_410 : (.methodLink R_L 43 y_L_set : Cond) ∈ wAll := List.mem_append_left _ (List.mem_of_getElem? (i := 410) rfl)
set_option maxRecDepth 20000 in
theorem k_411 : (.static y_L_set : Cond) ∈ wAll := List.mem_append_left _ (List.mem_of_getElem? (i := 411) rfl)
set_option maxRecDepth 20000 in
theorem k_412 : (.methodLink R_L 46 y_M_set : Cond) ∈ wAll := List.mem_append_left _ (List.mem_of_getElem? (i := 412) rfl)
set_option maxRecDepth 20000 in
theorem k_413 : (.instanceMethod y_M_set : Cond) ∈ wAll := List.mem_append_left _ (List.mem_of_getElem? (i := 413) rfl)
set_option maxRecDepth 20000 in
theorem k_414 : (.selects R_M y_M_set y_M_set : Cond) ∈ wAll := List.mem_append_left _ (List.mem_of_getElem? (i := 414) rfl)
set_option maxRecDepth 20000 in
theorem k_415 : (.methodLink R_L 47 y_L_part : Cond) ∈ wAll := List.mem_append_left _ (List.mem_of_getElem? (i := 415) rfl)
set_option maxRecDepth 20000 in
theorem k_416 : (.static y_L_part : Cond) ∈ wAll := List.mem_append_left _ (List.mem_of_getElem? (i := 416) rfl)
set_option maxRecDepth 20000 in
theorem k_417 : (.methodLink R_L 50 y_M_part : Cond) ∈ wAll := List.mem_append_left _ (List.mem_of_getElem? (i := 417) rfl)
set_option maxRecDepth 20000 in
theorem k_418 : (.instanceMethod y_M_part : Cond) ∈ wAll := List.mem_append_left _ (List.mem_of_getElem? (i := 418) rfl)
set_option maxRecDepth 20000 in
theorem k_419 : (.selects R_M y_M_part y_M_part : Cond) ∈ wAll := List.mem_append_left _ (List.mem_of_getElem? (i := 419) rfl)
set_option maxRecDepth 20000 in
theorem k_420 : (.methodLink R_L 51 y_L_operate : Cond) ∈ wAll := List.mem_append_left _ (List.mem_of_getElem? (i := 420) rfl)
set_option maxRecDepth 20000 in
theorem k_421 : (.static y_L_operate : Cond) ∈ wAll := List.mem_append_left _ (List.mem_of_getElem? (i := 421) rfl)
set_option maxRecDepth 20000 in
theorem k_422 : (.methodLink R_L 54 y_M_operate : Cond) ∈ wAll := List.mem_append_left _ (List.mem_of_getElem? (i := 422) rfl)
set_option maxRecDepth 20000 in
theorem k_423 : (.instanceMethod y_M_operate : Cond) ∈ wAll := List.mem_append_left _ (List.mem_of_getElem? (i := 423) rfl)
set_option maxRecDepth 20000 in
theorem k_424 : (.selects R_M y_M_operate y_M_operate : Cond) ∈ wAll := List.mem_append_left _ (List.mem_of_getElem? (i := 424) rfl)
set_option maxRecDepth 20000 in
theorem k_425 : (.methodLink R_L 55 y_O_told : Cond) ∈ wAll := List.mem_append_left _ (List.mem_of_getElem? (i := 425) rfl)
set_option maxRecDepth 20000 in
theorem k_426 : (.instanceMethod y_O_told : Cond) ∈ wAll := List.mem_append_left _ (List.mem_of_getElem? (i := 426) rfl)
set_option maxRecDepth 20000 in
theorem k_427 : (.selects R_O y_O_told y_O_told : Cond) ∈ wAll := List.mem_append_left _ (List.mem_of_getElem? (i := 427) rfl)
set_option maxRecDepth 20000 in
theorem k_428 : (.methodLink R_L 58 y_M_told : Cond) ∈ wAll := List.mem_append_left _ (List.mem_of_getElem? (i := 428) rfl)
set_option maxRecDepth 20000 in
theorem k_429 : (.instanceMethod y_M_told : Cond) ∈ wAll := List.mem_append_left _ (List.mem_of_getElem? (i := 429) rfl)
set_option maxRecDepth 20000 in
theorem k_430 : (.selects R_M y_M_told y_M_told : Cond) ∈ wAll := List.mem_append_left _ (List.mem_of_getElem? (i := 430) rfl)
set_option maxRecDepth 20000 in
theorem k_431 : (.methodLink R_L 59 y_O_clear : Cond) ∈ wAll := List.mem_append_left _ (List.mem_of_getElem? (i := 431) rfl)
set_option maxRecDepth 20000 in
theorem k_432 : (.instanceMethod y_O_clear : Cond) ∈ wAll := List.mem_append_left _ (List.mem_of_getElem? (i := 432) rfl)
set_option maxRecDepth 20000 in
theorem k_433 : (.selects R_O y_O_clear y_O_clear : Cond) ∈ wAll := List.mem_append_left _ (List.mem_of_getElem? (i := 433) rfl)
set_option maxRecDepth 20000 in
theorem k_434 : (.methodLink R_L 62 y_M_clear : Cond) ∈ wAll := List.mem_append_left _ (List.mem_of_getElem? (i := 434) rfl)
set_option maxRecDepth 20000 in
theorem k_435 : (.instanceMethod y_M_clear : Cond) ∈ wAll := List.mem_append_left _ (List.mem_of_getElem? (i := 435) rfl)
set_option maxRecDepth 20000 in
theorem k_436 : (.selects R_M y_M_clear y_M_clear : Cond) ∈ wAll := List.mem_append_left _ (List.mem_of_getElem? (i := 436) rfl)
set_option maxRecDepth 20000 in
theorem k_437 : (.laysFinal R_O "RealOperations" "tops" "[I" : Cond) ∈ wAll := List.mem_append_left _ (List.mem_of_getElem? (i := 437) rfl)
set_option maxRecDepth 20000 in
theorem k_438 : (.laysFinal R_O "RealOperations" "fractions" "[J" : Cond) ∈ wAll := List.mem_append_left _ (List.mem_of_getElem? (i := 438) rfl)
set_option maxRecDepth 20000 in
theorem k_439 : (.lays R_O "RealOperations" "controlWord" "I" : Cond) ∈ wAll := List.mem_append_left _ (List.mem_of_getElem? (i := 439) rfl)
set_option maxRecDepth 20000 in
theorem k_440 : (.lays R_O "RealOperations" "toldSoFar" "I" : Cond) ∈ wAll := List.mem_append_left _ (List.mem_of_getElem? (i := 440) rfl)
set_option maxRecDepth 20000 in
theorem k_441 : (.laysFinal R_O "RealOperations" "first" "LRealOperations$Real;" : Cond) ∈ wAll := List.mem_append_left _ (List.mem_of_getElem? (i := 441) rfl)
set_option maxRecDepth 20000 in
theorem k_442 : (.laysFinal R_O "RealOperations" "second" "LRealOperations$Real;" : Cond) ∈ wAll := List.mem_append_left _ (List.mem_of_getElem? (i := 442) rfl)
set_option maxRecDepth 20000 in
theorem k_443 : (.laysFinal R_O "RealOperations" "answer" "LRealOperations$Real;" : Cond) ∈ wAll := List.mem_append_left _ (List.mem_of_getElem? (i := 443) rfl)
set_option maxRecDepth 20000 in
theorem k_444 : (.laysFinal R_O "RealOperations" "size" "LRealOperations$Size;" : Cond) ∈ wAll := List.mem_append_left _ (List.mem_of_getElem? (i := 444) rfl)
set_option maxRecDepth 20000 in
theorem k_445 : (.laysFinal R_O "RealOperations" "otherSize" "LRealOperations$Size;" : Cond) ∈ wAll := List.mem_append_left _ (List.mem_of_getElem? (i := 445) rfl)
set_option maxRecDepth 20000 in
theorem k_446 : (.lays R_R "RealOperations$Real" "negative" "Z" : Cond) ∈ wAll := List.mem_append_left _ (List.mem_of_getElem? (i := 446) rfl)
set_option maxRecDepth 20000 in
theorem k_447 : (.lays R_R "RealOperations$Real" "power" "I" : Cond) ∈ wAll := List.mem_append_left _ (List.mem_of_getElem? (i := 447) rfl)
set_option maxRecDepth 20000 in
theorem k_448 : (.lays R_R "RealOperations$Real" "fraction" "J" : Cond) ∈ wAll := List.mem_append_left _ (List.mem_of_getElem? (i := 448) rfl)
set_option maxRecDepth 20000 in
theorem k_449 : (.lays R_S "RealOperations$Size" "high" "J" : Cond) ∈ wAll := List.mem_append_left _ (List.mem_of_getElem? (i := 449) rfl)
set_option maxRecDepth 20000 in
theorem k_450 : (.lays R_S "RealOperations$Size" "low" "J" : Cond) ∈ wAll := List.mem_append_left _ (List.mem_of_getElem? (i := 450) rfl)
set_option maxRecDepth 20000 in
theorem k_451 : (.lays R_S "RealOperations$Size" "exponent" "I" : Cond) ∈ wAll := List.mem_append_left _ (List.mem_of_getElem? (i := 451) rfl)
set_option maxRecDepth 20000 in
theorem k_452 : (.lays R_M "RealOperationsModel" "code" "I" : Cond) ∈ wAll := List.mem_append_left _ (List.mem_of_getElem? (i := 452) rfl)
set_option maxRecDepth 20000 in
theorem k_453 : (.lays R_M "RealOperationsModel" "word" "I" : Cond) ∈ wAll := List.mem_append_left _ (List.mem_of_getElem? (i := 453) rfl)
set_option maxRecDepth 20000 in
theorem k_454 : (.laysFinal R_M "RealOperationsModel" "top" "[I" : Cond) ∈ wAll := List.mem_append_left _ (List.mem_of_getElem? (i := 454) rfl)
set_option maxRecDepth 20000 in
theorem k_455 : (.laysFinal R_M "RealOperationsModel" "fraction" "[J" : Cond) ∈ wAll := List.mem_append_left _ (List.mem_of_getElem? (i := 455) rfl)
set_option maxRecDepth 20000 in
theorem k_456 : (.lays R_M "RealOperationsModel" "all" "I" : Cond) ∈ wAll := List.mem_append_left _ (List.mem_of_getElem? (i := 456) rfl)
set_option maxRecDepth 20000 in
theorem k_457 : (.laysFinal R_M "RealOperationsModel" "minus" "[Z" : Cond) ∈ wAll := List.mem_append_left _ (List.mem_of_getElem? (i := 457) rfl)
set_option maxRecDepth 20000 in
theorem k_458 : (.laysFinal R_M "RealOperationsModel" "power" "[I" : Cond) ∈ wAll := List.mem_append_left _ (List.mem_of_getElem? (i := 458) rfl)
set_option maxRecDepth 20000 in
theorem k_459 : (.laysFinal R_M "RealOperationsModel" "part" "[J" : Cond) ∈ wAll := List.mem_append_left _ (List.mem_of_getElem? (i := 459) rfl)
set_option maxRecDepth 20000 in
theorem k_460 : (.laysFinal R_M "RealOperationsModel" "row" "[Z" : Cond) ∈ wAll := List.mem_append_left _ (List.mem_of_getElem? (i := 460) rfl)
set_option maxRecDepth 20000 in
theorem k_461 : (.lays R_M "RealOperationsModel" "size" "I" : Cond) ∈ wAll := List.mem_append_left _ (List.mem_of_getElem? (i := 461) rfl)
set_option maxRecDepth 20000 in
theorem k_462 : (.lays R_M "RealOperationsModel" "unit" "I" : Cond) ∈ wAll := List.mem_append_left _ (List.mem_of_getElem? (i := 462) rfl)
set_option maxRecDepth 20000 in
theorem k_463 : (.lays R_M "RealOperationsModel" "more" "Z" : Cond) ∈ wAll := List.mem_append_left _ (List.mem_of_getElem? (i := 463) rfl)
set_option maxRecDepth 20000 in
theorem k_464 : (.lays R_M "RealOperationsModel" "told" "I" : Cond) ∈ wAll := List.mem_append_left _ (List.mem_of_getElem? (i := 464) rfl)
set_option maxRecDepth 20000 in
theorem k_465 : (.lays R_M "RealOperationsModel" "stopped" "Z" : Cond) ∈ wAll := List.mem_append_left _ (List.mem_of_getElem? (i := 465) rfl)
set_option maxRecDepth 20000 in
theorem k_466 : (.lays R_M "RealOperationsModel" "topOf" "I" : Cond) ∈ wAll := List.mem_append_left _ (List.mem_of_getElem? (i := 466) rfl)
set_option maxRecDepth 20000 in
theorem k_467 : (.lays R_M "RealOperationsModel" "fractionOf" "J" : Cond) ∈ wAll := List.mem_append_left _ (List.mem_of_getElem? (i := 467) rfl)
set_option maxRecDepth 20000 in
theorem k_468 : (.lays R_M "RealOperationsModel" "lossy" "Z" : Cond) ∈ wAll := List.mem_append_left _ (List.mem_of_getElem? (i := 468) rfl)
set_option maxRecDepth 20000 in
theorem n_0 : (.fieldLinkNest R_S 22 "RealOperations$Real" "fraction" "J" "RealOperations" : Cond) ∈ nAll := List.mem_of_getElem? (i := 0) rfl
set_option maxRecDepth 20000 in
theorem n_1 : (.fieldLinkNest R_S 27 "RealOperations$Real" "power" "I" "RealOperations" : Cond) ∈ nAll := List.mem_of_getElem? (i := 1) rfl
set_option maxRecDepth 20000 in
theorem n_2 : (.methodLinkNest R_R 28 y_S_power "RealOperations" : Cond) ∈ nAll := List.mem_of_getElem? (i := 2) rfl
set_option maxRecDepth 20000 in
theorem n_3 : (.methodLinkNest R_R 33 y_S_isZero "RealOperations" : Cond) ∈ nAll := List.mem_of_getElem? (i := 3) rfl
set_option maxRecDepth 20000 in
theorem n_4 : (.fieldLinkNest R_R 37 "RealOperations$Size" "high" "J" "RealOperations" : Cond) ∈ nAll := List.mem_of_getElem? (i := 4) rfl
set_option maxRecDepth 20000 in
theorem n_5 : (.fieldLinkNest R_O 108 "RealOperations$Real" "negative" "Z" "RealOperations" : Cond) ∈ nAll := List.mem_of_getElem? (i := 5) rfl
set_option maxRecDepth 20000 in
theorem n_6 : (.methodLinkNest R_O 167 y_R_isUnnormalOfSize "RealOperations" : Cond) ∈ nAll := List.mem_of_getElem? (i := 6) rfl
set_option maxRecDepth 20000 in
theorem n_7 : (.methodLinkNest R_O 130 y_R_isInfinite "RealOperations" : Cond) ∈ nAll := List.mem_of_getElem? (i := 7) rfl
set_option maxRecDepth 20000 in
theorem n_8 : (.methodLinkNest R_O 127 y_R_isNothing "RealOperations" : Cond) ∈ nAll := List.mem_of_getElem? (i := 8) rfl
set_option maxRecDepth 20000 in
theorem n_9 : (.methodLinkNest R_O 101 y_R_isNoNumber "RealOperations" : Cond) ∈ nAll := List.mem_of_getElem? (i := 9) rfl
set_option maxRecDepth 20000 in
theorem n_10 : (.fieldLinkNest R_O 155 "RealOperations$Real" "power" "I" "RealOperations" : Cond) ∈ nAll := List.mem_of_getElem? (i := 10) rfl
set_option maxRecDepth 20000 in
theorem n_11 : (.fieldLinkNest R_O 89 "RealOperations$Real" "fraction" "J" "RealOperations" : Cond) ∈ nAll := List.mem_of_getElem? (i := 11) rfl
set_option maxRecDepth 20000 in
theorem n_12 : (.methodLinkNest R_O 117 y_R_put "RealOperations" : Cond) ∈ nAll := List.mem_of_getElem? (i := 12) rfl
set_option maxRecDepth 20000 in
theorem n_13 : (.methodLinkNest R_O 186 y_S_isLessThan "RealOperations" : Cond) ∈ nAll := List.mem_of_getElem? (i := 13) rfl
set_option maxRecDepth 20000 in
theorem n_14 : (.methodLinkNest R_O 170 y_S_take "RealOperations" : Cond) ∈ nAll := List.mem_of_getElem? (i := 14) rfl
set_option maxRecDepth 20000 in
theorem n_15 : (.methodLinkNest R_O 193 y_S_subtract "RealOperations" : Cond) ∈ nAll := List.mem_of_getElem? (i := 15) rfl
set_option maxRecDepth 20000 in
theorem n_16 : (.methodLinkNest R_O 196 y_S_isZero "RealOperations" : Cond) ∈ nAll := List.mem_of_getElem? (i := 16) rfl
set_option maxRecDepth 20000 in
theorem n_17 : (.methodLinkNest R_O 190 y_S_add "RealOperations" : Cond) ∈ nAll := List.mem_of_getElem? (i := 17) rfl
set_option maxRecDepth 20000 in
theorem n_18 : (.methodLinkNest R_O 183 y_S_divide "RealOperations" : Cond) ∈ nAll := List.mem_of_getElem? (i := 18) rfl
set_option maxRecDepth 20000 in
theorem n_19 : (.methodLinkNest R_O 179 y_S_multiply "RealOperations" : Cond) ∈ nAll := List.mem_of_getElem? (i := 19) rfl
set_option maxRecDepth 20000 in
theorem n_20 : (.methodLinkNest R_O 176 y_S_takeRoot "RealOperations" : Cond) ∈ nAll := List.mem_of_getElem? (i := 20) rfl
set_option maxRecDepth 20000 in
theorem n_21 : (.methodLinkNest R_O 210 y_S_round "RealOperations" : Cond) ∈ nAll := List.mem_of_getElem? (i := 21) rfl
set_option maxRecDepth 20000 in
theorem n_22 : (.fieldLinkNest R_O 224 "RealOperations$Size" "exponent" "I" "RealOperations" : Cond) ∈ nAll := List.mem_of_getElem? (i := 22) rfl
set_option maxRecDepth 20000 in
theorem n_23 : (.methodLinkNest R_O 202 y_S_power "RealOperations" : Cond) ∈ nAll := List.mem_of_getElem? (i := 23) rfl
set_option maxRecDepth 20000 in
theorem n_24 : (.methodLinkNest R_O 217 y_R_putSize "RealOperations" : Cond) ∈ nAll := List.mem_of_getElem? (i := 24) rfl
set_option maxRecDepth 20000 in
theorem n_25 : (.methodLinkNest R_O 121 y_R_isDenormal "RealOperations" : Cond) ∈ nAll := List.mem_of_getElem? (i := 25) rfl
set_option maxRecDepth 20000 in
theorem n_26 : (.methodLinkNest R_O 97 y_R_take "RealOperations" : Cond) ∈ nAll := List.mem_of_getElem? (i := 26) rfl
set_option maxRecDepth 20000 in
theorem n_27 : (.castable "java/lang/IllegalArgumentException" "java/lang/IllegalArgumentException" : Cond) ∈ nAll := List.mem_of_getElem? (i := 27) rfl
set_option maxRecDepth 20000 in
theorem n_28 : (.declares ⟨"java/lang/RuntimeException", "<init>", "(Ljava/lang/String;)V"⟩ : Cond) ∈ nAll := List.mem_of_getElem? (i := 28) rfl
set_option maxRecDepth 20000 in
theorem n_29 : (.declares ⟨"java/lang/Exception", "<init>", "(Ljava/lang/String;)V"⟩ : Cond) ∈ nAll := List.mem_of_getElem? (i := 29) rfl
set_option maxRecDepth 20000 in
theorem n_30 : (.declares ⟨"java/lang/Throwable", "<init>", "(Ljava/lang/String;)V"⟩ : Cond) ∈ nAll := List.mem_of_getElem? (i := 30) rfl
set_option maxRecDepth 20000 in
theorem n_31 : (.castable "java/lang/IndexOutOfBoundsException" "java/lang/IndexOutOfBoundsException" : Cond) ∈ nAll := List.mem_of_getElem? (i := 31) rfl
set_option maxRecDepth 20000 in
theorem n_32 : (.methodLinkNest R_O 85 y_R_top "RealOperations" : Cond) ∈ nAll := List.mem_of_getElem? (i := 32) rfl
set_option maxRecDepth 20000 in
theorem n_33 : (.methodLinkNest R_O 26 y_R_init "RealOperations" : Cond) ∈ nAll := List.mem_of_getElem? (i := 33) rfl
set_option maxRecDepth 20000 in
theorem n_34 : (.methodLinkNest R_O 39 y_S_init "RealOperations" : Cond) ∈ nAll := List.mem_of_getElem? (i := 34) rfl
theorem hat_0 : ∀ w ∈ (vx_atS R_O 55 "java/lang/IllegalArgumentException" ["java/lang/RuntimeException", "java/lang/Exception"]).filter goodWord, w ∈ wAll := fun w h => List.mem_append_right _ (List.mem_append_left _ h)
theorem hat_1 : ∀ w ∈ (vx_atS R_O 65 "java/lang/IndexOutOfBoundsException" ["java/lang/RuntimeException", "java/lang/Exception"]).filter goodWord, w ∈ wAll := fun w h => List.mem_append_right _ (List.mem_append_right _ h)
def sAll : List (String × Nat × String) := [(R_O, 53, "the control has more than 16 bits"), (R_O, 66, "top has more than 16 bits"), (R_O, 63, "no such register"), (R_O, 70, "no such part"), (R_O, 72, "no such operation")]
theorem s_0 : ((R_O, 53, "the control has more than 16 bits") : String × Nat × String) ∈ sAll := List.mem_of_getElem? (i := 0) rfl
theorem s_1 : ((R_O, 66, "top has more than 16 bits") : String × Nat × String) ∈ sAll := List.mem_of_getElem? (i := 1) rfl
theorem s_2 : ((R_O, 63, "no such register") : String × Nat × String) ∈ sAll := List.mem_of_getElem? (i := 2) rfl
theorem s_3 : ((R_O, 70, "no such part") : String × Nat × String) ∈ sAll := List.mem_of_getElem? (i := 3) rfl
theorem s_4 : ((R_O, 72, "no such operation") : String × Nat × String) ∈ sAll := List.mem_of_getElem? (i := 4) rfl
abbrev w_Lg_compare : List Cond := .code y_Lg_compare b_Lg_compare 4 (some .int) :: wAll
abbrev w_Lg_compareUnsigned : List Cond := .code y_Lg_compareUnsigned b_Lg_compareUnsigned 4 (some .int) :: wAll
abbrev w_R_init : List Cond := .code y_R_init b_R_init 1 none :: wAll
abbrev w_S_init : List Cond := .code y_S_init b_S_init 1 none :: wAll
abbrev w_R_put : List Cond := .code y_R_put b_R_put 5 none :: wAll
abbrev w_R_take : List Cond := .code y_R_take b_R_take 4 none :: wAll
abbrev w_R_isDenormal : List Cond := .code y_R_isDenormal b_R_isDenormal 1 (some .boolean) :: wAll
abbrev w_R_isUnnormalOfSize : List Cond := .code y_R_isUnnormalOfSize b_R_isUnnormalOfSize 1 (some .boolean) :: wAll
abbrev w_R_isNothing : List Cond := .code y_R_isNothing b_R_isNothing 1 (some .boolean) :: wAll
abbrev w_R_isInfinite : List Cond := .code y_R_isInfinite b_R_isInfinite 1 (some .boolean) :: wAll
abbrev w_R_isNoNumber : List Cond := .code y_R_isNoNumber b_R_isNoNumber 1 (some .boolean) :: wAll
abbrev w_R_top : List Cond := .code y_R_top b_R_top 1 (some .int) :: wAll
abbrev w_S_isZero : List Cond := .code y_S_isZero b_S_isZero 1 (some .boolean) :: wAll
abbrev w_S_power : List Cond := .code y_S_power b_S_power 1 (some .int) :: wAll
abbrev w_S_isLessThan : List Cond := .code y_S_isLessThan b_S_isLessThan 2 (some .boolean) :: wAll
abbrev w_S_normalize : List Cond := .code y_S_normalize b_S_normalize 2 none :: wAll
abbrev w_S_take : List Cond := .code y_S_take b_S_take 2 none :: wAll
abbrev w_S_shiftRight : List Cond := .code y_S_shiftRight b_S_shiftRight 4 none :: wAll
abbrev w_S_add : List Cond := .code y_S_add b_S_add 3 none :: wAll
abbrev w_S_subtract : List Cond := .code y_S_subtract b_S_subtract 3 none :: wAll
abbrev w_S_takeProduct : List Cond := .code y_S_takeProduct b_S_takeProduct 19 none :: wAll
abbrev w_S_multiply : List Cond := .code y_S_multiply b_S_multiply 2 none :: wAll
abbrev w_S_divide : List Cond := .code y_S_divide b_S_divide 6 none :: wAll
abbrev w_S_isAbove : List Cond := .code y_S_isAbove b_S_isAbove 6 (some .boolean) :: wAll
abbrev w_S_digitsBelowRoot : List Cond := .code y_S_digitsBelowRoot b_S_digitsBelowRoot 7 (some .long) :: wAll
abbrev w_S_takeRoot : List Cond := .code y_S_takeRoot b_S_takeRoot 13 none :: wAll
abbrev w_S_isRoundedAway : List Cond := .code y_S_isRoundedAway b_S_isRoundedAway 4 (some .boolean) :: wAll
abbrev w_S_compareDroppedWithHalf : List Cond := .code y_S_compareDroppedWithHalf b_S_compareDroppedWithHalf 7 (some .int) :: wAll
abbrev w_S_round : List Cond := .code y_S_round b_S_round 8 (some .boolean) :: wAll
abbrev w_R_putSize : List Cond := .code y_R_putSize b_R_putSize 4 none :: wAll
abbrev w_O_isRegister : List Cond := .code y_O_isRegister b_O_isRegister 1 (some .boolean) :: wAll
abbrev w_O_hasSixteenBits : List Cond := .code y_O_hasSixteenBits b_O_hasSixteenBits 1 (some .boolean) :: wAll
abbrev w_O_isDifference : List Cond := .code y_O_isDifference b_O_isDifference 1 (some .boolean) :: wAll
abbrev w_O_isSum : List Cond := .code y_O_isSum b_O_isSum 1 (some .boolean) :: wAll
abbrev w_O_isQuotient : List Cond := .code y_O_isQuotient b_O_isQuotient 1 (some .boolean) :: wAll
abbrev w_O_isMasked : List Cond := .code y_O_isMasked b_O_isMasked 2 (some .boolean) :: wAll
abbrev w_O_isStopped : List Cond := .code y_O_isStopped b_O_isStopped 2 (some .boolean) :: wAll
abbrev w_O_digits : List Cond := .code y_O_digits b_O_digits 1 (some .int) :: wAll
abbrev w_O_rounding : List Cond := .code y_O_rounding b_O_rounding 1 (some .int) :: wAll
abbrev w_O_hasTwoInfinites : List Cond := .code y_O_hasTwoInfinites b_O_hasTwoInfinites 1 (some .boolean) :: wAll
abbrev w_O_told : List Cond := .code y_O_told b_O_told 1 (some .int) :: wAll
abbrev w_O_clear : List Cond := .code y_O_clear b_O_clear 1 none :: wAll
abbrev w_O_hasOppositeSigns : List Cond := .code y_O_hasOppositeSigns b_O_hasOppositeSigns 1 (some .boolean) :: wAll
abbrev w_O_isInvalidRoot : List Cond := .code y_O_isInvalidRoot b_O_isInvalidRoot 1 (some .boolean) :: wAll
abbrev w_O_isInvalid : List Cond := .code y_O_isInvalid b_O_isInvalid 3 (some .boolean) :: wAll
abbrev w_O_answerNoNumber : List Cond := .code y_O_answerNoNumber b_O_answerNoNumber 3 none :: wAll
abbrev w_O_answerOfInfinite : List Cond := .code y_O_answerOfInfinite b_O_answerOfInfinite 3 none :: wAll
abbrev w_O_computeSum : List Cond := .code y_O_computeSum b_O_computeSum 3 (some .boolean) :: wAll
abbrev w_O_computeExactly : List Cond := .code y_O_computeExactly b_O_computeExactly 2 (some .boolean) :: wAll
abbrev w_O_roundSmall : List Cond := .code y_O_roundSmall b_O_roundSmall 4 (some .int) :: wAll
abbrev w_O_answerGreat : List Cond := .code y_O_answerGreat b_O_answerGreat 3 (some .int) :: wAll
abbrev w_O_make : List Cond := .code y_O_make b_O_make 3 (some .int) :: wAll
abbrev w_O_carryOut : List Cond := .code y_O_carryOut b_O_carryOut 3 (some .int) :: wAll
abbrev w_O_takeOperands : List Cond := .code y_O_takeOperands b_O_takeOperands 7 none :: wAll
abbrev w_O_control : List Cond := .code y_O_control b_O_control 2 none :: wAll
abbrev w_O_set : List Cond := .code y_O_set b_O_set 5 none :: wAll
abbrev w_O_part : List Cond := .code y_O_part b_O_part 3 (some .int) :: wAll
abbrev w_O_operate : List Cond := .code y_O_operate b_O_operate 6 (some .int) :: wAll
abbrev w_O_init : List Cond := .code y_O_init b_O_init 1 none :: wAll
abbrev w_M_none : List Cond := .code y_M_none b_M_none 1 (some .boolean) :: wAll
abbrev w_M_below : List Cond := .code y_M_below b_M_below 4 (some .boolean) :: wAll
abbrev w_M_thrown : List Cond := .code y_M_thrown b_M_thrown 1 (some .int) :: wAll
abbrev w_M_told : List Cond := .code y_M_told b_M_told 1 (some .int) :: wAll
abbrev w_M_clear : List Cond := .code y_M_clear b_M_clear 1 none :: wAll
abbrev w_M_digits : List Cond := .code y_M_digits b_M_digits 2 (some .int) :: wAll
abbrev w_M_control : List Cond := .code y_M_control b_M_control 2 none :: wAll
abbrev w_M_tell : List Cond := .code y_M_tell b_M_tell 2 (some .boolean) :: wAll
abbrev w_M_answer : List Cond := .code y_M_answer b_M_answer 5 none :: wAll
abbrev w_M_isNone : List Cond := .code y_M_isNone b_M_isNone 2 (some .boolean) :: wAll
abbrev w_M_isEndless : List Cond := .code y_M_isEndless b_M_isEndless 2 (some .boolean) :: wAll
abbrev w_M_isNothing : List Cond := .code y_M_isNothing b_M_isNothing 2 (some .boolean) :: wAll
abbrev w_M_isDenormal : List Cond := .code y_M_isDenormal b_M_isDenormal 2 (some .boolean) :: wAll
abbrev w_M_isUnnormal : List Cond := .code y_M_isUnnormal b_M_isUnnormal 2 (some .boolean) :: wAll
abbrev w_M_unitOf : List Cond := .code y_M_unitOf b_M_unitOf 2 (some .int) :: wAll
abbrev w_M_set : List Cond := .code y_M_set b_M_set 5 none :: wAll
abbrev w_M_part : List Cond := .code y_M_part b_M_part 3 (some .int) :: wAll
abbrev w_M_bit : List Cond := .code y_M_bit b_M_bit 2 (some .boolean) :: wAll
abbrev w_M_highest : List Cond := .code y_M_highest b_M_highest 2 (some .int) :: wAll
abbrev w_M_rest : List Cond := .code y_M_rest b_M_rest 4 (some .boolean) :: wAll
abbrev w_M_times : List Cond := .code y_M_times b_M_times 10 (some .long) :: wAll
abbrev w_M_put : List Cond := .code y_M_put b_M_put 11 none :: wAll
abbrev w_M_make : List Cond := .code y_M_make b_M_make 13 none :: wAll
abbrev w_M_empty : List Cond := .code y_M_empty b_M_empty 4 none :: wAll
abbrev w_M_join : List Cond := .code y_M_join b_M_join 9 none :: wAll
abbrev w_M_isLess : List Cond := .code y_M_isLess b_M_isLess 8 (some .boolean) :: wAll
abbrev w_M_sum : List Cond := .code y_M_sum b_M_sum 6 none :: wAll
abbrev w_M_product : List Cond := .code y_M_product b_M_product 3 none :: wAll
abbrev w_M_quotient : List Cond := .code y_M_quotient b_M_quotient 7 none :: wAll
abbrev w_M_root : List Cond := .code y_M_root b_M_root 19 none :: wAll
abbrev w_M_take : List Cond := .code y_M_take b_M_take 3 none :: wAll
abbrev w_M_noNumber : List Cond := .code y_M_noNumber b_M_noNumber 5 none :: wAll
abbrev w_M_isWrong : List Cond := .code y_M_isWrong b_M_isWrong 3 (some .boolean) :: wAll
abbrev w_M_work : List Cond := .code y_M_work b_M_work 5 none :: wAll
abbrev w_M_operate : List Cond := .code y_M_operate b_M_operate 7 (some .int) :: wAll
abbrev w_M_init : List Cond := .code y_M_init b_M_init 1 none :: wAll
abbrev w_L_control : List Cond := .codeWith y_L_control b_L_control 3 (some .int) [(0, 5, 8, 13)] :: wAll
abbrev w_L_set : List Cond := .codeWith y_L_set b_L_set 6 (some .int) [(0, 9, 12, 19), (0, 9, 16, 13)] :: wAll
abbrev w_L_part : List Cond := .codeWith y_L_part b_L_part 5 (some .int) [(0, 10, 13, 19), (0, 10, 17, 13)] :: wAll
abbrev w_L_operate : List Cond := .codeWith y_L_operate b_L_operate 7 (some .int) [(0, 14, 17, 19), (0, 14, 21, 13)] :: wAll
set_option maxRecDepth 20000 in
theorem in_O : ∀ w ∈ u_ws R_O F_O 9, w ∈ wAll := by decide +kernel
set_option maxRecDepth 20000 in
theorem in_R : ∀ w ∈ u_ws R_R F_R 3, w ∈ wAll := by decide +kernel
set_option maxRecDepth 20000 in
theorem in_S : ∀ w ∈ u_ws R_S F_S 3, w ∈ wAll := by decide +kernel
set_option maxRecDepth 20000 in
theorem in_M : ∀ w ∈ u_ws R_M F_M 17, w ∈ wAll := by decide +kernel
/-! Own rows over the lists wAll (words that stay good), nAll (words of nest mates) and 'classes'. -/
theorem nAll_nest : ∀ w ∈ nAll, isNest w = true := by decide +kernel
def nw_all (U : State) : Prop := ∀ w ∈ nAll, va_Nw w U
theorem nw_same {u U : State} (h : u.vm = U.vm) (hn : nw_all u) : nw_all U := fun w hw => va_Nw.same (nest_on (nAll_nest w hw)) h (hn w hw)
theorem nw_warm {s U : State} (hW : s.WarmedH U.vm) (hn : nw_all s) : nw_all U := fun w hw => nest_warm (nAll_nest w hw) hW (hn w hw)
theorem wAll_good : ∀ w ∈ wAll, (w.onTables && w.keeps) = true ∨ ∃ ty, w = .arrayClass ty := by
  intro w hw
  have h : wAll.all goodWord = true := by decide +kernel
  exact good_of_word (List.all_eq_true.mp h w hw)
theorem gi_code {y : MethodName} {b : ByteArray} {n : Nat} {r : Option FieldType} (h : Cond.code y b n r ∈ wAll) : GoodIn wAll (Cond.code y b n r :: wAll) := by
  intro w hw
  rcases List.mem_cons.mp hw with rfl | hw
  · exact ⟨h, wAll_good _ h⟩
  · exact ⟨hw, wAll_good _ hw⟩
theorem gi_V {own C : String} {idx : Nat} {y : MethodName} {ws : List Cond} (h1 : Cond.methodLink own idx y ∈ wAll) (h2 : Cond.instanceMethod y ∈ wAll) (h3 : Cond.selects C y y ∈ wAll) (h4 : Cond.initialized C ∈ wAll) (h : GoodIn wAll ws) : GoodIn wAll (wsV own idx C y ws) := by
  intro w hw
  rcases List.mem_append.mp hw with hw | hw
  · have hm : w ∈ wAll := by
      simp only [List.mem_cons, List.not_mem_nil, or_false] at hw
      rcases hw with rfl | rfl | rfl | rfl
      · exact h1
      · exact h2
      · exact h3
      · exact h4
    exact ⟨hm, wAll_good _ hm⟩
  · exact h w hw
theorem gi_S {own : String} {idx : Nat} {y : MethodName} {ws : List Cond} (h1 : Cond.methodLink own idx y ∈ wAll) (h2 : Cond.static y ∈ wAll) (h3 : Cond.initialized y.cls ∈ wAll) (h : GoodIn wAll ws) : GoodIn wAll (va_wsS own idx y ws) := by
  intro w hw
  rcases List.mem_append.mp hw with hw | hw
  · have hm : w ∈ wAll := by
      simp only [List.mem_cons, List.not_mem_nil, or_false] at hw
      rcases hw with rfl | rfl | rfl
      · exact h1
      · exact h2
      · exact h3
    exact ⟨hm, wAll_good _ hm⟩
  · exact h w hw
/-- a contract's start: the arguments, the world, the tables -/
def cPc (D : va_G) (tys : List (ClassId × FieldType)) (av : List Value) (ws : va_W) (sz : Nat) : Array Value → State → Prop :=
  va_Pc av (fun U => U.heap.size = sz ∧ va_P D classes ws U.heap ∧ va_K D classes tys U ∧ va_D (fun _ => True) ws ∧ nw_all U)
theorem cPc_blind {D : va_G} {tys : List (ClassId × FieldType)} {av : List Value} {ws : va_W} {sz : Nat} : FrameBlind (cPc D tys av ws sz) := by
  intro a U g mk q
  obtain ⟨q0, q1, qP, qK, qD, qn⟩ := q
  exact ⟨q0, q1, qP, va_K.moved (u := U) (U := U.calling g mk a) (Vm.Alike.refl U.vm) qK, qD, nw_same (u := U) (U := U.calling g mk a) rfl qn⟩
theorem pre_S {D : va_G} {tys : List (ClassId × FieldType)} {As : List Value} {wc : va_W} {A : Nat → Prop} {s : State} {H : Heap} (hnw : nw_all s) (hPc : va_P D classes wc H) (hKc : va_K D classes tys s) (hDc : va_D A wc) : PreS s H (cPc D tys As wc H.size) As :=
  ⟨cPc_blind, fun U hU hW => ⟨rfl, by rw [hU], by rw [hU]; exact hPc, va_K.moved hW.alike hKc, hDc.weaken (fun _ _ _ _ => trivial), nw_warm hW hnw⟩⟩
theorem pre_V {D : va_G} {tys : List (ClassId × FieldType)} {As : List Value} {wc : va_W} {A : Nat → Prop} {s : State} {H : Heap} {b : Nat} {C : String} {T : u_T} {N : Nat} {fs : List Value} (hnw : nw_all s) (hPc : va_P D classes wc H) (hKc : va_K D classes tys s) (hDc : va_D A wc) {ci q0 : Nat} (hc : classes[ci]? = some (C, T, N)) (he : wc[q0]? = some (b, .inr (ci, fs))) :
    PreV s H C b (cPc D tys (.ref b :: As) wc H.size) As :=
  ⟨cPc_blind, va_recv hKc hPc hc he, fun U hU hW => ⟨rfl, by rw [hU], by rw [hU]; exact hPc, va_K.moved hW.alike hKc, hDc.weaken (fun _ _ _ _ => trivial), nw_warm hW hnw⟩⟩
section OwnCalls
variable {p : Program} {l : Launch} {e : Env} {R : Room} {s : State} {m : MethodId} {args : Array Value} {below : List Frame} {meth : Method} {c : Code} {H : Heap} {locs : List Loc} {cells slots : Nat} {Q : State → Prop}
variable {pc mc ms : Nat} {ls : Array Slot} {rest st0 : List Value} {a : Array Value} {A0 : Nat → Prop} {H0 : Heap} {D : va_G} {cl : List vw_C} {ws wc wr w1 : va_W}
theorem cc_i {r0 : Int32} (hr : va_Run p l e R s m args below meth c H locs cells slots mc ms (F0 m pc ls st0) rest (va_Qi (fun (r : Int32) (_ : Unit) => r = r0) (fun _ t => va_P D cl w1 t.heap ∧ va_D (va_A wc H.size) w1) (va_A wc H.size) a) (va_A wc H.size)) (hS : va_S A0 H0 H locs) (hF : ∀ q, va_A wc H.size q → A0 q) (hP : va_P D cl ws H) (hD : va_D A0 ws)
    (isC isR : List Nat) (hC : isC.map (fun i => ws[i]?) = wc.map some) (hR : isR.map (fun i => ws[i]?) = wr.map some) (hn : va_nd isR = true) (hdis : ∀ i ∈ isR, i ∉ isC)
    (kk : ∀ (H1 : Heap) (locs1 : List Loc), va_P D cl (wr ++ w1) H1 → va_D A0 (wr ++ w1) → va_S A0 H0 H1 locs1 → W p l e R s m args below meth c H1 locs1 (cells + mc) (slots + ms) Q (F0 m (pc + 3) ls (.int r0 :: rest))) : W p l e R s m args below meth c H locs cells slots Q (F0 m pc ls st0) := by
  refine va_calli hr hS (fun q _ h => hF q h) hF (fun r u t H1 locs1 ht hvm hw hB hz1 hk1 hS1 => ?_)
  obtain ⟨hP1, hD1⟩ := hB
  rw [ht] at hP1
  obtain ⟨hP2, hD2⟩ := va_join hP hD isC isR hC hR hn hdis hk1 hF hP1 hD1
  have hw : r = r0 := hw
  rw [hw]
  exact kk H1 locs1 hP2 hD2 hS1
theorem cc_l {r0 : Int64} (hr : va_Run p l e R s m args below meth c H locs cells slots mc ms (F0 m pc ls st0) rest (va_Ql (fun (r : Int64) (_ : Unit) => r = r0) (fun _ t => va_P D cl w1 t.heap ∧ va_D (va_A wc H.size) w1) (va_A wc H.size) a) (va_A wc H.size)) (hS : va_S A0 H0 H locs) (hF : ∀ q, va_A wc H.size q → A0 q) (hP : va_P D cl ws H) (hD : va_D A0 ws)
    (isC isR : List Nat) (hC : isC.map (fun i => ws[i]?) = wc.map some) (hR : isR.map (fun i => ws[i]?) = wr.map some) (hn : va_nd isR = true) (hdis : ∀ i ∈ isR, i ∉ isC)
    (kk : ∀ (H1 : Heap) (locs1 : List Loc), va_P D cl (wr ++ w1) H1 → va_D A0 (wr ++ w1) → va_S A0 H0 H1 locs1 → W p l e R s m args below meth c H1 locs1 (cells + mc) (slots + ms) Q (F0 m (pc + 3) ls (.long r0 :: rest))) : W p l e R s m args below meth c H locs cells slots Q (F0 m pc ls st0) := by
  refine va_calll hr hS (fun q _ h => hF q h) hF (fun r u t H1 locs1 ht hvm hw hB hz1 hk1 hS1 => ?_)
  obtain ⟨hP1, hD1⟩ := hB
  rw [ht] at hP1
  obtain ⟨hP2, hD2⟩ := va_join hP hD isC isR hC hR hn hdis hk1 hF hP1 hD1
  have hw : r = r0 := hw
  rw [hw]
  exact kk H1 locs1 hP2 hD2 hS1
theorem cc_v (hr : va_Run p l e R s m args below meth c H locs cells slots mc ms (F0 m pc ls st0) rest (va_Qv (fun (_ : Unit) => True) (fun _ t => va_P D cl w1 t.heap ∧ va_D (va_A wc H.size) w1) (va_A wc H.size) a) (va_A wc H.size)) (hS : va_S A0 H0 H locs) (hF : ∀ q, va_A wc H.size q → A0 q) (hP : va_P D cl ws H) (hD : va_D A0 ws)
    (isC isR : List Nat) (hC : isC.map (fun i => ws[i]?) = wc.map some) (hR : isR.map (fun i => ws[i]?) = wr.map some) (hn : va_nd isR = true) (hdis : ∀ i ∈ isR, i ∉ isC)
    (kk : ∀ (H1 : Heap) (locs1 : List Loc), va_P D cl (wr ++ w1) H1 → va_D A0 (wr ++ w1) → va_S A0 H0 H1 locs1 → W p l e R s m args below meth c H1 locs1 (cells + mc) (slots + ms) Q (F0 m (pc + 3) ls rest)) : W p l e R s m args below meth c H locs cells slots Q (F0 m pc ls st0) := by
  refine va_callv hr hS (fun q _ h => hF q h) hF (fun u t H1 locs1 ht hvm hw hB hz1 hk1 hS1 => ?_)
  obtain ⟨hP1, hD1⟩ := hB
  rw [ht] at hP1
  obtain ⟨hP2, hD2⟩ := va_join hP hD isC isR hC hR hn hdis hk1 hF hP1 hD1
  exact kk H1 locs1 hP2 hD2 hS1
end OwnCalls
/-! Own rows for methods that may throw: their start. -/
def sw_all (U : State) : Prop := ∀ q ∈ sAll, ∃ sa, vk_R q.1 q.2.1 q.2.2 sa U
theorem sw_same {u U : State} (h : U.vm = u.vm) (hn : sw_all u) : sw_all U := fun q hq => (hn q hq).imp (fun _ h1 => vk_R.same h h1)
theorem sw_warm {s U : State} (hW : s.WarmedH U.vm) (hn : sw_all s) : sw_all U := fun q hq => (hn q hq).imp (fun _ h1 => vk_R.warm hW h1)
def cPx (D : va_G) (tys : List (ClassId × FieldType)) (av : List Value) (ws : va_W) (sz : Nat) : Array Value → State → Prop :=
  va_Pc av (fun U => U.heap.size = sz ∧ va_P D classes ws U.heap ∧ va_K D classes tys U ∧ va_D (fun _ => True) ws ∧ nw_all U ∧ vx_Zq Bundle.tN "UNASSIGNED_STACK" Bundle.steD (va_A ws sz) U U.heap ∧ vx_Zq Bundle.tN "SUPPRESSED_SENTINEL" Bundle.listD (va_A ws sz) U U.heap ∧ sw_all U)
theorem cPx_blind {D : va_G} {tys : List (ClassId × FieldType)} {av : List Value} {ws : va_W} {sz : Nat} : FrameBlind (cPx D tys av ws sz) := by
  intro a U g mk q
  obtain ⟨q0, q1, qP, qK, qD, qn, qU, qN, qs⟩ := q
  exact ⟨q0, q1, qP, va_K.moved (u := U) (U := U.calling g mk a) (Vm.Alike.refl U.vm) qK, qD, nw_same (u := U) (U := U.calling g mk a) rfl qn, vx_Zq.moved (u := U) (U := U.calling g mk a) (Vm.Alike.refl U.vm) qU, vx_Zq.moved (u := U) (U := U.calling g mk a) (Vm.Alike.refl U.vm) qN, sw_same (u := U) (U := U.calling g mk a) rfl qs⟩
/-! Own rows for the law's helpers. -/
theorem pre_X {D : va_G} {tys : List (ClassId × FieldType)} {As : List Value} {wc : va_W} {A : Nat → Prop} {s : State} {H : Heap} {locs : List Loc} {b : Nat} {C : String} {T : u_T} {N : Nat} {fs : List Value} (hnw : nw_all s) (hsw : sw_all s) (hZU : vx_Zq Bundle.tN "UNASSIGNED_STACK" Bundle.steD A s s.heap) (hZN : vx_Zq Bundle.tN "SUPPRESSED_SENTINEL" Bundle.listD A s s.heap) (hS : va_S A s.heap H locs) (hF : ∀ q, va_A wc H.size q → A q)
    (hPc : va_P D classes wc H) (hKc : va_K D classes tys s) (hDc : va_D A wc) {ci q0 : Nat} (hc : classes[ci]? = some (C, T, N)) (he : wc[q0]? = some (b, .inr (ci, fs))) : PreV s H C b (cPx D tys (.ref b :: As) wc H.size) As :=
  ⟨cPx_blind, va_recv hKc hPc hc he, fun U hU hW => ⟨rfl, by rw [hU], by rw [hU]; exact hPc, va_K.moved hW.alike hKc, hDc.weaken (fun _ _ _ _ => trivial), nw_warm hW hnw, by rw [hU]; exact vx_Zq.moved hW.alike ((hZU.kept hS.2.1).narrow hF), by rw [hU]; exact vx_Zq.moved hW.alike ((hZN.kept hS.2.1).narrow hF), sw_warm hW hsw⟩⟩
def cPl (D : va_G) (tys : List (ClassId × FieldType)) (av : List Value) (ws : va_W) (sz : Nat) : Array Value → State → Prop :=
  va_Pc av (fun U => U.heap.size = sz ∧ va_P D classes ws U.heap ∧ va_K D classes tys U ∧ va_D (fun _ => True) ws ∧ nw_all U ∧ vx_Zq Bundle.tN "UNASSIGNED_STACK" Bundle.steD (va_A ws sz) U U.heap ∧ vx_Zq Bundle.tN "SUPPRESSED_SENTINEL" Bundle.listD (va_A ws sz) U U.heap ∧ sw_all U ∧ va_Nc "java/lang/IllegalArgumentException" "java/lang/IndexOutOfBoundsException" U)
theorem cPl_blind {D : va_G} {tys : List (ClassId × FieldType)} {av : List Value} {ws : va_W} {sz : Nat} : FrameBlind (cPl D tys av ws sz) := by
  intro a U g mk q
  obtain ⟨q0, q1, qP, qK, qD, qn, qU, qN, qs, qc⟩ := q
  exact ⟨q0, q1, qP, va_K.moved (u := U) (U := U.calling g mk a) (Vm.Alike.refl U.vm) qK, qD, nw_same (u := U) (U := U.calling g mk a) rfl qn, vx_Zq.moved (u := U) (U := U.calling g mk a) (Vm.Alike.refl U.vm) qU, vx_Zq.moved (u := U) (U := U.calling g mk a) (Vm.Alike.refl U.vm) qN, sw_same (u := U) (U := U.calling g mk a) rfl qs, va_Nc.moved (u := U) (U := U.calling g mk a) (Vm.Alike.refl U.vm) qc⟩
theorem pre_L {D : va_G} {tys : List (ClassId × FieldType)} {As : List Value} {wc : va_W} {A : Nat → Prop} {s : State} {H : Heap} {locs : List Loc} (hnw : nw_all s) (hsw : sw_all s) (hZU : vx_Zq Bundle.tN "UNASSIGNED_STACK" Bundle.steD A s s.heap) (hZN : vx_Zq Bundle.tN "SUPPRESSED_SENTINEL" Bundle.listD A s s.heap) (hnc : va_Nc "java/lang/IllegalArgumentException" "java/lang/IndexOutOfBoundsException" s) (hS : va_S A s.heap H locs) (hF : ∀ q, va_A wc H.size q → A q)
    (hPc : va_P D classes wc H) (hKc : va_K D classes tys s) (hDc : va_D A wc) : PreS s H (cPl D tys As wc H.size) As :=
  ⟨cPl_blind, fun U hU hW => ⟨rfl, by rw [hU], by rw [hU]; exact hPc, va_K.moved hW.alike hKc, hDc.weaken (fun _ _ _ _ => trivial), nw_warm hW hnw, by rw [hU]; exact vx_Zq.moved hW.alike ((hZU.kept hS.2.1).narrow hF), by rw [hU]; exact vx_Zq.moved hW.alike ((hZN.kept hS.2.1).narrow hF), sw_warm hW hsw, va_Nc.moved hW.alike hnc⟩⟩
theorem gi_codeW {y : MethodName} {b : ByteArray} {n : Nat} {r : Option FieldType} {hh : List (Nat × Nat × Nat × Nat)} (h : Cond.codeWith y b n r hh ∈ wAll) : GoodIn wAll (Cond.codeWith y b n r hh :: wAll) := by
  intro w hw
  rcases List.mem_cons.mp hw with rfl | hw
  · exact ⟨h, wAll_good _ h⟩
  · exact ⟨hw, wAll_good _ hw⟩
theorem in1_0 : vp_in 0 1 := by rw [vp_in_iff]; decide

