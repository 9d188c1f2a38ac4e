set_option maxRecDepth 20000 in
theorem wi_0 : (.code y_Lg_compare b_Lg_compare 4 (some .int) : Cond) ∈ lw_tbl := List.mem_of_getElem? (i := 320) rfl
set_option maxRecDepth 20000 in
theorem wi_1 : (.constantLong R_Lg 168 (-9223372036854775808) : Cond) ∈ lw_tbl := List.mem_of_getElem? (i := 317) (by decide +kernel)
set_option maxRecDepth 20000 in
theorem wi_2 : (.initialized R_Lg : Cond) ∈ lw_tbl := List.mem_of_getElem? (i := 78) (by decide +kernel)
set_option maxRecDepth 20000 in
theorem wi_3 : (.methodLink R_Lg 302 y_Lg_compare : Cond) ∈ lw_tbl := List.mem_of_getElem? (i := 318) (by decide +kernel)
set_option maxRecDepth 20000 in
theorem wi_4 : (.static y_Lg_compare : Cond) ∈ lw_tbl := List.mem_of_getElem? (i := 319) (by decide +kernel)
set_option maxRecDepth 20000 in
theorem wi_5 : (.code y_Lg_compareUnsigned b_Lg_compareUnsigned 4 (some .int) : Cond) ∈ lw_tbl := List.mem_of_getElem? (i := 316) rfl
set_option maxRecDepth 20000 in
theorem wi_6 : (.methodLink R_R 3 objectInit : Cond) ∈ lw_tbl := List.mem_of_getElem? (i := 93) (by decide +kernel)
set_option maxRecDepth 20000 in
theorem wi_7 : (.instanceMethod objectInit : Cond) ∈ lw_tbl := List.mem_of_getElem? (i := 86) (by decide +kernel)
set_option maxRecDepth 20000 in
theorem wi_8 : (.code objectInit ⟨#[0xb1]⟩ 1 none : Cond) ∈ lw_tbl := List.mem_of_getElem? (i := 87) rfl
set_option maxRecDepth 20000 in
theorem wi_9 : (.fieldLink R_R 9 "RealOperations$Real" "negative" "Z" : Cond) ∈ lw_tbl := List.mem_of_getElem? (i := 94) (by decide +kernel)
set_option maxRecDepth 20000 in
theorem wi_10 : (.fieldLink R_R 15 "RealOperations$Real" "power" "I" : Cond) ∈ lw_tbl := List.mem_of_getElem? (i := 96) (by decide +kernel)
set_option maxRecDepth 20000 in
theorem wi_11 : (.fieldLink R_R 19 "RealOperations$Real" "fraction" "J" : Cond) ∈ lw_tbl := List.mem_of_getElem? (i := 99) (by decide +kernel)
set_option maxRecDepth 20000 in
theorem wi_12 : (.code y_R_init b_R_init 1 none : Cond) ∈ lw_tbl := List.mem_of_getElem? (i := 92) rfl
set_option maxRecDepth 20000 in
theorem wi_13 : (.methodLink R_S 3 objectInit : Cond) ∈ lw_tbl := List.mem_of_getElem? (i := 116) (by decide +kernel)
set_option maxRecDepth 20000 in
theorem wi_14 : (.fieldLink R_S 9 "RealOperations$Size" "high" "J" : Cond) ∈ lw_tbl := List.mem_of_getElem? (i := 117) (by decide +kernel)
set_option maxRecDepth 20000 in
theorem wi_15 : (.fieldLink R_S 15 "RealOperations$Size" "low" "J" : Cond) ∈ lw_tbl := List.mem_of_getElem? (i := 119) (by decide +kernel)
set_option maxRecDepth 20000 in
theorem wi_16 : (.fieldLink R_S 18 "RealOperations$Size" "exponent" "I" : Cond) ∈ lw_tbl := List.mem_of_getElem? (i := 120) (by decide +kernel)
set_option maxRecDepth 20000 in
theorem wi_17 : (.code y_S_init b_S_init 1 none : Cond) ∈ lw_tbl := List.mem_of_getElem? (i := 115) rfl
set_option maxRecDepth 20000 in
theorem wi_18 : (.code y_R_put b_R_put 5 none : Cond) ∈ lw_tbl := List.mem_of_getElem? (i := 301) rfl
set_option maxRecDepth 20000 in
theorem wi_19 : (.constant R_R 23 32768 : Cond) ∈ lw_tbl := List.mem_of_getElem? (i := 297) (by decide +kernel)
set_option maxRecDepth 20000 in
theorem wi_20 : (.initialized R_R : Cond) ∈ lw_tbl := List.mem_of_getElem? (i := 70) (by decide +kernel)
set_option maxRecDepth 20000 in
theorem wi_21 : (.methodLink R_R 24 y_R_put : Cond) ∈ lw_tbl := List.mem_of_getElem? (i := 298) (by decide +kernel)
set_option maxRecDepth 20000 in
theorem wi_22 : (.instanceMethod y_R_put : Cond) ∈ lw_tbl := List.mem_of_getElem? (i := 300) (by decide +kernel)
set_option maxRecDepth 20000 in
theorem wi_23 : (.selects R_R y_R_put y_R_put : Cond) ∈ lw_tbl := List.mem_of_getElem? (i := 3) (by decide +kernel)
def wo_0 : List Cond := [.code y_Lg_compare b_Lg_compare 4 (some .int), .constantLong R_Lg 168 (-9223372036854775808), .initialized R_Lg, .methodLink R_Lg 302 y_Lg_compare, .static y_Lg_compare, .code y_Lg_compareUnsigned b_Lg_compareUnsigned 4 (some .int), .methodLink R_R 3 objectInit, .instanceMethod objectInit, .code objectInit ⟨#[0xb1]⟩ 1 none, .fieldLink R_R 9 "RealOperations$Real" "negative" "Z", .fieldLink R_R 15 "RealOperations$Real" "power" "I", .fieldLink R_R 19 "RealOperations$Real" "fraction" "J", .code y_R_init b_R_init 1 none, .methodLink R_S 3 objectInit, .fieldLink R_S 9 "RealOperations$Size" "high" "J", .fieldLink R_S 15 "RealOperations$Size" "low" "J", .fieldLink R_S 18 "RealOperations$Size" "exponent" "I", .code y_S_init b_S_init 1 none, .code y_R_put b_R_put 5 none, .constant R_R 23 32768, .initialized R_R, .methodLink R_R 24 y_R_put, .instanceMethod y_R_put, .selects R_R y_R_put y_R_put]
theorem wo_0_in : ∀ w ∈ wo_0, w ∈ lw_tbl := List.forall_mem_cons.mpr ⟨wi_0, List.forall_mem_cons.mpr ⟨wi_1, List.forall_mem_cons.mpr ⟨wi_2, List.forall_mem_cons.mpr ⟨wi_3, List.forall_mem_cons.mpr ⟨wi_4, List.forall_mem_cons.mpr ⟨wi_5, List.forall_mem_cons.mpr ⟨wi_6, List.forall_mem_cons.mpr ⟨wi_7, List.forall_mem_cons.mpr ⟨wi_8, List.forall_mem_cons.mpr ⟨wi_9, List.forall_mem_cons.mpr ⟨wi_10, List.forall_mem_cons.mpr ⟨wi_11, List.forall_mem_cons.mpr ⟨wi_12, List.forall_mem_cons.mpr ⟨wi_13, List.forall_mem_cons.mpr ⟨wi_14, List.forall_mem_cons.mpr ⟨wi_15, List.forall_mem_cons.mpr ⟨wi_16, List.forall_mem_cons.mpr ⟨wi_17, List.forall_mem_cons.mpr ⟨wi_18, List.forall_mem_cons.mpr ⟨wi_19, List.forall_mem_cons.mpr ⟨wi_20, List.forall_mem_cons.mpr ⟨wi_21, List.forall_mem_cons.mpr ⟨wi_22, List.forall_mem_cons.mpr ⟨wi_23, (fun _ h => (List.not_mem_nil h).elim)⟩⟩⟩⟩⟩⟩⟩⟩⟩⟩⟩⟩⟩⟩⟩⟩⟩⟩⟩⟩⟩⟩⟩⟩
set_option maxRecDepth 20000 in
theorem wi_24 : (.code y_R_take b_R_take 4 none : Cond) ∈ lw_tbl := List.mem_of_getElem? (i := 296) rfl
set_option maxRecDepth 20000 in
theorem wi_25 : (.code y_R_isDenormal b_R_isDenormal 1 (some .boolean) : Cond) ∈ lw_tbl := List.mem_of_getElem? (i := 360) rfl
set_option maxRecDepth 20000 in
theorem wi_26 : (.code y_R_isUnnormalOfSize b_R_isUnnormalOfSize 1 (some .boolean) : Cond) ∈ lw_tbl := List.mem_of_getElem? (i := 340) rfl
set_option maxRecDepth 20000 in
theorem wi_27 : (.code y_R_isNothing b_R_isNothing 1 (some .boolean) : Cond) ∈ lw_tbl := List.mem_of_getElem? (i := 336) rfl
set_option maxRecDepth 20000 in
theorem wi_28 : (.code y_R_isInfinite b_R_isInfinite 1 (some .boolean) : Cond) ∈ lw_tbl := List.mem_of_getElem? (i := 344) rfl
set_option maxRecDepth 20000 in
theorem wi_29 : (.code y_R_isNoNumber b_R_isNoNumber 1 (some .boolean) : Cond) ∈ lw_tbl := List.mem_of_getElem? (i := 309) rfl
set_option maxRecDepth 20000 in
theorem wi_30 : (.code y_R_top b_R_top 1 (some .int) : Cond) ∈ lw_tbl := List.mem_of_getElem? (i := 492) rfl
set_option maxRecDepth 20000 in
theorem wi_31 : (.code y_S_isZero b_S_isZero 1 (some .boolean) : Cond) ∈ lw_tbl := List.mem_of_getElem? (i := 391) rfl
set_option maxRecDepth 20000 in
theorem wi_32 : (.code y_S_power b_S_power 1 (some .int) : Cond) ∈ lw_tbl := List.mem_of_getElem? (i := 453) rfl
set_option maxRecDepth 20000 in
theorem wi_33 : (.methodLink R_S 39 y_Lg_compareUnsigned : Cond) ∈ lw_tbl := List.mem_of_getElem? (i := 400) (by decide +kernel)
set_option maxRecDepth 20000 in
theorem wi_34 : (.static y_Lg_compareUnsigned : Cond) ∈ lw_tbl := List.mem_of_getElem? (i := 315) (by decide +kernel)
set_option maxRecDepth 20000 in
theorem wi_35 : (.code y_S_isLessThan b_S_isLessThan 2 (some .boolean) : Cond) ∈ lw_tbl := List.mem_of_getElem? (i := 399) rfl
set_option maxRecDepth 20000 in
theorem wi_36 : (.initialized R_S : Cond) ∈ lw_tbl := List.mem_of_getElem? (i := 71) (by decide +kernel)
set_option maxRecDepth 20000 in
theorem wi_37 : (.methodLink R_S 45 y_S_isZero : Cond) ∈ lw_tbl := List.mem_of_getElem? (i := 388) (by decide +kernel)
set_option maxRecDepth 20000 in
theorem wi_38 : (.instanceMethod y_S_isZero : Cond) ∈ lw_tbl := List.mem_of_getElem? (i := 390) (by decide +kernel)
set_option maxRecDepth 20000 in
theorem wi_39 : (.selects R_S y_S_isZero y_S_isZero : Cond) ∈ lw_tbl := List.mem_of_getElem? (i := 20) (by decide +kernel)
set_option maxRecDepth 20000 in
theorem wi_40 : (.code y_S_normalize b_S_normalize 2 none : Cond) ∈ lw_tbl := List.mem_of_getElem? (i := 387) rfl
set_option maxRecDepth 20000 in
theorem wi_41 : (.methodLink R_S 30 Lib.Math.max.name : Cond) ∈ lw_tbl := List.mem_of_getElem? (i := 381) (by decide +kernel)
set_option maxRecDepth 20000 in
theorem wi_42 : (.static Lib.Math.max.name : Cond) ∈ lw_tbl := List.mem_of_getElem? (i := 382) (by decide +kernel)
set_option maxRecDepth 20000 in
theorem wi_43 : (.initialized "java/lang/Math" : Cond) ∈ lw_tbl := List.mem_of_getElem? (i := 79) (by decide +kernel)
set_option maxRecDepth 20000 in
theorem wi_44 : (.code Lib.Math.max.name Lib.Math.max.code 2 (some .int) : Cond) ∈ lw_tbl := List.mem_of_getElem? (i := 383) rfl
set_option maxRecDepth 20000 in
theorem wi_45 : (.methodLink R_S 36 y_S_normalize : Cond) ∈ lw_tbl := List.mem_of_getElem? (i := 384) (by decide +kernel)
set_option maxRecDepth 20000 in
theorem wi_46 : (.instanceMethod y_S_normalize : Cond) ∈ lw_tbl := List.mem_of_getElem? (i := 386) (by decide +kernel)
set_option maxRecDepth 20000 in
theorem wi_47 : (.selects R_S y_S_normalize y_S_normalize : Cond) ∈ lw_tbl := List.mem_of_getElem? (i := 19) (by decide +kernel)
def wo_1 : List Cond := [.code y_R_take b_R_take 4 none, .code y_R_isDenormal b_R_isDenormal 1 (some .boolean), .code y_R_isUnnormalOfSize b_R_isUnnormalOfSize 1 (some .boolean), .code y_R_isNothing b_R_isNothing 1 (some .boolean), .code y_R_isInfinite b_R_isInfinite 1 (some .boolean), .code y_R_isNoNumber b_R_isNoNumber 1 (some .boolean), .code y_R_top b_R_top 1 (some .int), .code y_S_isZero b_S_isZero 1 (some .boolean), .code y_S_power b_S_power 1 (some .int), .methodLink R_S 39 y_Lg_compareUnsigned, .static y_Lg_compareUnsigned, .code y_S_isLessThan b_S_isLessThan 2 (some .boolean), .initialized R_S, .methodLink R_S 45 y_S_isZero, .instanceMethod y_S_isZero, .selects R_S y_S_isZero y_S_isZero, .code y_S_normalize b_S_normalize 2 none, .methodLink R_S 30 Lib.Math.max.name, .static Lib.Math.max.name, .initialized "java/lang/Math", .code Lib.Math.max.name Lib.Math.max.code 2 (some .int), .methodLink R_S 36 y_S_normalize, .instanceMethod y_S_normalize, .selects R_S y_S_normalize y_S_normalize]
theorem wo_1_in : ∀ w ∈ wo_1, w ∈ lw_tbl := List.forall_mem_cons.mpr ⟨wi_24, List.forall_mem_cons.mpr ⟨wi_25, List.forall_mem_cons.mpr ⟨wi_26, List.forall_mem_cons.mpr ⟨wi_27, List.forall_mem_cons.mpr ⟨wi_28, List.forall_mem_cons.mpr ⟨wi_29, List.forall_mem_cons.mpr ⟨wi_30, List.forall_mem_cons.mpr ⟨wi_31, List.forall_mem_cons.mpr ⟨wi_32, List.forall_mem_cons.mpr ⟨wi_33, List.forall_mem_cons.mpr ⟨wi_34, List.forall_mem_cons.mpr ⟨wi_35, List.forall_mem_cons.mpr ⟨wi_36, List.forall_mem_cons.mpr ⟨wi_37, List.forall_mem_cons.mpr ⟨wi_38, List.forall_mem_cons.mpr ⟨wi_39, List.forall_mem_cons.mpr ⟨wi_40, List.forall_mem_cons.mpr ⟨wi_41, List.forall_mem_cons.mpr ⟨wi_42, List.forall_mem_cons.mpr ⟨wi_43, List.forall_mem_cons.mpr ⟨wi_44, List.forall_mem_cons.mpr ⟨wi_45, List.forall_mem_cons.mpr ⟨wi_46, List.forall_mem_cons.mpr ⟨wi_47, (fun _ h => (List.not_mem_nil h).elim)⟩⟩⟩⟩⟩⟩⟩⟩⟩⟩⟩⟩⟩⟩⟩⟩⟩⟩⟩⟩⟩⟩⟩⟩
set_option maxRecDepth 20000 in
theorem wi_48 : (.code y_S_take b_S_take 2 none : Cond) ∈ lw_tbl := List.mem_of_getElem? (i := 380) rfl
set_option maxRecDepth 20000 in
theorem wi_49 : (.methodLink R_S 49 Lib.Math.min.name : Cond) ∈ lw_tbl := List.mem_of_getElem? (i := 409) (by decide +kernel)
set_option maxRecDepth 20000 in
theorem wi_50 : (.static Lib.Math.min.name : Cond) ∈ lw_tbl := List.mem_of_getElem? (i := 410) (by decide +kernel)
set_option maxRecDepth 20000 in
theorem wi_51 : (.code Lib.Math.min.name Lib.Math.min.code 2 (some .int) : Cond) ∈ lw_tbl := List.mem_of_getElem? (i := 411) rfl
set_option maxRecDepth 20000 in
theorem wi_52 : (.code y_S_shiftRight b_S_shiftRight 4 none : Cond) ∈ lw_tbl := List.mem_of_getElem? (i := 408) rfl
set_option maxRecDepth 20000 in
theorem wi_53 : (.methodLink R_S 52 y_S_shiftRight : Cond) ∈ lw_tbl := List.mem_of_getElem? (i := 405) (by decide +kernel)
set_option maxRecDepth 20000 in
theorem wi_54 : (.instanceMethod y_S_shiftRight : Cond) ∈ lw_tbl := List.mem_of_getElem? (i := 407) (by decide +kernel)
set_option maxRecDepth 20000 in
theorem wi_55 : (.selects R_S y_S_shiftRight y_S_shiftRight : Cond) ∈ lw_tbl := List.mem_of_getElem? (i := 24) (by decide +kernel)
set_option maxRecDepth 20000 in
theorem wi_56 : (.code y_S_add b_S_add 3 none : Cond) ∈ lw_tbl := List.mem_of_getElem? (i := 404) rfl
set_option maxRecDepth 20000 in
theorem wi_57 : (.code y_S_subtract b_S_subtract 3 none : Cond) ∈ lw_tbl := List.mem_of_getElem? (i := 415) rfl
set_option maxRecDepth 20000 in
theorem wi_58 : (.constantLong R_S 60 4294967295 : Cond) ∈ lw_tbl := List.mem_of_getElem? (i := 429) (by decide +kernel)
set_option maxRecDepth 20000 in
theorem wi_59 : (.code y_S_takeProduct b_S_takeProduct 19 none : Cond) ∈ lw_tbl := List.mem_of_getElem? (i := 428) rfl
set_option maxRecDepth 20000 in
theorem wi_60 : (.methodLink R_S 56 y_S_takeProduct : Cond) ∈ lw_tbl := List.mem_of_getElem? (i := 425) (by decide +kernel)
set_option maxRecDepth 20000 in
theorem wi_61 : (.instanceMethod y_S_takeProduct : Cond) ∈ lw_tbl := List.mem_of_getElem? (i := 427) (by decide +kernel)
set_option maxRecDepth 20000 in
theorem wi_62 : (.selects R_S y_S_takeProduct y_S_takeProduct : Cond) ∈ lw_tbl := List.mem_of_getElem? (i := 28) (by decide +kernel)
set_option maxRecDepth 20000 in
theorem wi_63 : (.code y_S_multiply b_S_multiply 2 none : Cond) ∈ lw_tbl := List.mem_of_getElem? (i := 441) rfl
set_option maxRecDepth 20000 in
theorem wi_64 : (.code y_S_divide b_S_divide 6 none : Cond) ∈ lw_tbl := List.mem_of_getElem? (i := 445) rfl
set_option maxRecDepth 20000 in
theorem wi_65 : (.code y_S_isAbove b_S_isAbove 6 (some .boolean) : Cond) ∈ lw_tbl := List.mem_of_getElem? (i := 433) rfl
set_option maxRecDepth 20000 in
theorem wi_66 : (.constantLong R_S 70 (-9223372036854775807) : Cond) ∈ lw_tbl := List.mem_of_getElem? (i := 437) (by decide +kernel)
set_option maxRecDepth 20000 in
theorem wi_67 : (.code y_S_digitsBelowRoot b_S_digitsBelowRoot 7 (some .long) : Cond) ∈ lw_tbl := List.mem_of_getElem? (i := 436) rfl
set_option maxRecDepth 20000 in
theorem wi_68 : (.methodLink R_S 62 y_S_isAbove : Cond) ∈ lw_tbl := List.mem_of_getElem? (i := 430) (by decide +kernel)
set_option maxRecDepth 20000 in
theorem wi_69 : (.instanceMethod y_S_isAbove : Cond) ∈ lw_tbl := List.mem_of_getElem? (i := 432) (by decide +kernel)
set_option maxRecDepth 20000 in
theorem wi_70 : (.selects R_S y_S_isAbove y_S_isAbove : Cond) ∈ lw_tbl := List.mem_of_getElem? (i := 29) (by decide +kernel)
set_option maxRecDepth 20000 in
theorem wi_71 : (.methodLink R_S 66 y_S_digitsBelowRoot : Cond) ∈ lw_tbl := List.mem_of_getElem? (i := 434) (by decide +kernel)
def wo_2 : List Cond := [.code y_S_take b_S_take 2 none, .methodLink R_S 49 Lib.Math.min.name, .static Lib.Math.min.name, .code Lib.Math.min.name Lib.Math.min.code 2 (some .int), .code y_S_shiftRight b_S_shiftRight 4 none, .methodLink R_S 52 y_S_shiftRight, .instanceMethod y_S_shiftRight, .selects R_S y_S_shiftRight y_S_shiftRight, .code y_S_add b_S_add 3 none, .code y_S_subtract b_S_subtract 3 none, .constantLong R_S 60 4294967295, .code y_S_takeProduct b_S_takeProduct 19 none, .methodLink R_S 56 y_S_takeProduct, .instanceMethod y_S_takeProduct, .selects R_S y_S_takeProduct y_S_takeProduct, .code y_S_multiply b_S_multiply 2 none, .code y_S_divide b_S_divide 6 none, .code y_S_isAbove b_S_isAbove 6 (some .boolean), .constantLong R_S 70 (-9223372036854775807), .code y_S_digitsBelowRoot b_S_digitsBelowRoot 7 (some .long), .methodLink R_S 62 y_S_isAbove, .instanceMethod y_S_isAbove, .selects R_S y_S_isAbove y_S_isAbove, .methodLink R_S 66 y_S_digitsBelowRoot]
theorem wo_2_in : ∀ w ∈ wo_2, w ∈ lw_tbl := List.forall_mem_cons.mpr ⟨wi_48, List.forall_mem_cons.mpr ⟨wi_49, List.forall_mem_cons.mpr ⟨wi_50, List.forall_mem_cons.mpr ⟨wi_51, List.forall_mem_cons.mpr ⟨wi_52, List.forall_mem_cons.mpr ⟨wi_53, List.forall_mem_cons.mpr ⟨wi_54, List.forall_mem_cons.mpr ⟨wi_55, List.forall_mem_cons.mpr ⟨wi_56, List.forall_mem_cons.mpr ⟨wi_57, List.forall_mem_cons.mpr ⟨wi_58, List.forall_mem_cons.mpr ⟨wi_59, List.forall_mem_cons.mpr ⟨wi_60, List.forall_mem_cons.mpr ⟨wi_61, List.forall_mem_cons.mpr ⟨wi_62, List.forall_mem_cons.mpr ⟨wi_63, List.forall_mem_cons.mpr ⟨wi_64, List.forall_mem_cons.mpr ⟨wi_65, List.forall_mem_cons.mpr ⟨wi_66, List.forall_mem_cons.mpr ⟨wi_67, List.forall_mem_cons.mpr ⟨wi_68, List.forall_mem_cons.mpr ⟨wi_69, List.forall_mem_cons.mpr ⟨wi_70, List.forall_mem_cons.mpr ⟨wi_71, (fun _ h => (List.not_mem_nil h).elim)⟩⟩⟩⟩⟩⟩⟩⟩⟩⟩⟩⟩⟩⟩⟩⟩⟩⟩⟩⟩⟩⟩⟩⟩
set_option maxRecDepth 20000 in
theorem wi_72 : (.static y_S_digitsBelowRoot : Cond) ∈ lw_tbl := List.mem_of_getElem? (i := 435) (by decide +kernel)
set_option maxRecDepth 20000 in
theorem wi_73 : (.code y_S_takeRoot b_S_takeRoot 13 none : Cond) ∈ lw_tbl := List.mem_of_getElem? (i := 424) rfl
set_option maxRecDepth 20000 in
theorem wi_74 : (.code y_S_isRoundedAway b_S_isRoundedAway 4 (some .boolean) : Cond) ∈ lw_tbl := List.mem_of_getElem? (i := 477) rfl
set_option maxRecDepth 20000 in
theorem wi_75 : (.constantLong R_S 80 (-9223372036854775808) : Cond) ∈ lw_tbl := List.mem_of_getElem? (i := 474) (by decide +kernel)
set_option maxRecDepth 20000 in
theorem wi_76 : (.code y_S_compareDroppedWithHalf b_S_compareDroppedWithHalf 7 (some .int) : Cond) ∈ lw_tbl := List.mem_of_getElem? (i := 473) rfl
set_option maxRecDepth 20000 in
theorem wi_77 : (.methodLink R_S 72 y_S_compareDroppedWithHalf : Cond) ∈ lw_tbl := List.mem_of_getElem? (i := 470) (by decide +kernel)
set_option maxRecDepth 20000 in
theorem wi_78 : (.instanceMethod y_S_compareDroppedWithHalf : Cond) ∈ lw_tbl := List.mem_of_getElem? (i := 472) (by decide +kernel)
set_option maxRecDepth 20000 in
theorem wi_79 : (.selects R_S y_S_compareDroppedWithHalf y_S_compareDroppedWithHalf : Cond) ∈ lw_tbl := List.mem_of_getElem? (i := 38) (by decide +kernel)
set_option maxRecDepth 20000 in
theorem wi_80 : (.methodLink R_S 76 y_S_isRoundedAway : Cond) ∈ lw_tbl := List.mem_of_getElem? (i := 475) (by decide +kernel)
set_option maxRecDepth 20000 in
theorem wi_81 : (.static y_S_isRoundedAway : Cond) ∈ lw_tbl := List.mem_of_getElem? (i := 476) (by decide +kernel)
set_option maxRecDepth 20000 in
theorem wi_82 : (.code y_S_round b_S_round 8 (some .boolean) : Cond) ∈ lw_tbl := List.mem_of_getElem? (i := 469) rfl
set_option maxRecDepth 20000 in
theorem wi_83 : (.instanceMethod y_S_power : Cond) ∈ lw_tbl := List.mem_of_getElem? (i := 452) (by decide +kernel)
set_option maxRecDepth 20000 in
theorem wi_84 : (.selects R_S y_S_power y_S_power : Cond) ∈ lw_tbl := List.mem_of_getElem? (i := 33) (by decide +kernel)
set_option maxRecDepth 20000 in
theorem wi_85 : (.code y_R_putSize b_R_putSize 4 none : Cond) ∈ lw_tbl := List.mem_of_getElem? (i := 485) rfl
set_option maxRecDepth 20000 in
theorem wi_86 : (.code y_O_isRegister b_O_isRegister 1 (some .boolean) : Cond) ∈ lw_tbl := List.mem_of_getElem? (i := 254) rfl
set_option maxRecDepth 20000 in
theorem wi_87 : (.constant R_O 93 65535 : Cond) ∈ lw_tbl := List.mem_of_getElem? (i := 176) (by decide +kernel)
set_option maxRecDepth 20000 in
theorem wi_88 : (.code y_O_hasSixteenBits b_O_hasSixteenBits 1 (some .boolean) : Cond) ∈ lw_tbl := List.mem_of_getElem? (i := 175) rfl
set_option maxRecDepth 20000 in
theorem wi_89 : (.code y_O_isDifference b_O_isDifference 1 (some .boolean) : Cond) ∈ lw_tbl := List.mem_of_getElem? (i := 324) rfl
set_option maxRecDepth 20000 in
theorem wi_90 : (.initialized R_O : Cond) ∈ lw_tbl := List.mem_of_getElem? (i := 69) (by decide +kernel)
set_option maxRecDepth 20000 in
theorem wi_91 : (.methodLink R_O 94 y_O_isDifference : Cond) ∈ lw_tbl := List.mem_of_getElem? (i := 322) (by decide +kernel)
set_option maxRecDepth 20000 in
theorem wi_92 : (.static y_O_isDifference : Cond) ∈ lw_tbl := List.mem_of_getElem? (i := 323) (by decide +kernel)
set_option maxRecDepth 20000 in
theorem wi_93 : (.code y_O_isSum b_O_isSum 1 (some .boolean) : Cond) ∈ lw_tbl := List.mem_of_getElem? (i := 351) rfl
set_option maxRecDepth 20000 in
theorem wi_94 : (.code y_O_isQuotient b_O_isQuotient 1 (some .boolean) : Cond) ∈ lw_tbl := List.mem_of_getElem? (i := 367) rfl
set_option maxRecDepth 20000 in
theorem wi_95 : (.fieldLink R_O 17 "RealOperations" "controlWord" "I" : Cond) ∈ lw_tbl := List.mem_of_getElem? (i := 131) (by decide +kernel)
def wo_3 : List Cond := [.static y_S_digitsBelowRoot, .code y_S_takeRoot b_S_takeRoot 13 none, .code y_S_isRoundedAway b_S_isRoundedAway 4 (some .boolean), .constantLong R_S 80 (-9223372036854775808), .code y_S_compareDroppedWithHalf b_S_compareDroppedWithHalf 7 (some .int), .methodLink R_S 72 y_S_compareDroppedWithHalf, .instanceMethod y_S_compareDroppedWithHalf, .selects R_S y_S_compareDroppedWithHalf y_S_compareDroppedWithHalf, .methodLink R_S 76 y_S_isRoundedAway, .static y_S_isRoundedAway, .code y_S_round b_S_round 8 (some .boolean), .instanceMethod y_S_power, .selects R_S y_S_power y_S_power, .code y_R_putSize b_R_putSize 4 none, .code y_O_isRegister b_O_isRegister 1 (some .boolean), .constant R_O 93 65535, .code y_O_hasSixteenBits b_O_hasSixteenBits 1 (some .boolean), .code y_O_isDifference b_O_isDifference 1 (some .boolean), .initialized R_O, .methodLink R_O 94 y_O_isDifference, .static y_O_isDifference, .code y_O_isSum b_O_isSum 1 (some .boolean), .code y_O_isQuotient b_O_isQuotient 1 (some .boolean), .fieldLink R_O 17 "RealOperations" "controlWord" "I"]
theorem wo_3_in : ∀ w ∈ wo_3, w ∈ lw_tbl := List.forall_mem_cons.mpr ⟨wi_72, List.forall_mem_cons.mpr ⟨wi_73, List.forall_mem_cons.mpr ⟨wi_74, List.forall_mem_cons.mpr ⟨wi_75, List.forall_mem_cons.mpr ⟨wi_76, List.forall_mem_cons.mpr ⟨wi_77, List.forall_mem_cons.mpr ⟨wi_78, List.forall_mem_cons.mpr ⟨wi_79, List.forall_mem_cons.mpr ⟨wi_80, List.forall_mem_cons.mpr ⟨wi_81, List.forall_mem_cons.mpr ⟨wi_82, List.forall_mem_cons.mpr ⟨wi_83, List.forall_mem_cons.mpr ⟨wi_84, List.forall_mem_cons.mpr ⟨wi_85, List.forall_mem_cons.mpr ⟨wi_86, List.forall_mem_cons.mpr ⟨wi_87, List.forall_mem_cons.mpr ⟨wi_88, List.forall_mem_cons.mpr ⟨wi_89, List.forall_mem_cons.mpr ⟨wi_90, List.forall_mem_cons.mpr ⟨wi_91, List.forall_mem_cons.mpr ⟨wi_92, List.forall_mem_cons.mpr ⟨wi_93, List.forall_mem_cons.mpr ⟨wi_94, List.forall_mem_cons.mpr ⟨wi_95, (fun _ h => (List.not_mem_nil h).elim)⟩⟩⟩⟩⟩⟩⟩⟩⟩⟩⟩⟩⟩⟩⟩⟩⟩⟩⟩⟩⟩⟩⟩⟩
set_option maxRecDepth 20000 in
theorem wi_96 : (.code y_O_isMasked b_O_isMasked 2 (some .boolean) : Cond) ∈ lw_tbl := List.mem_of_getElem? (i := 465) rfl
set_option maxRecDepth 20000 in
theorem wi_97 : (.code y_O_isStopped b_O_isStopped 2 (some .boolean) : Cond) ∈ lw_tbl := List.mem_of_getElem? (i := 364) rfl
set_option maxRecDepth 20000 in
theorem wi_98 : (.code y_O_digits b_O_digits 1 (some .int) : Cond) ∈ lw_tbl := List.mem_of_getElem? (i := 461) rfl
set_option maxRecDepth 20000 in
theorem wi_99 : (.code y_O_rounding b_O_rounding 1 (some .int) : Cond) ∈ lw_tbl := List.mem_of_getElem? (i := 420) rfl
set_option maxRecDepth 20000 in
theorem wi_100 : (.code y_O_hasTwoInfinites b_O_hasTwoInfinites 1 (some .boolean) : Cond) ∈ lw_tbl := List.mem_of_getElem? (i := 348) rfl
set_option maxRecDepth 20000 in
theorem wi_101 : (.fieldLink R_O 21 "RealOperations" "toldSoFar" "I" : Cond) ∈ lw_tbl := List.mem_of_getElem? (i := 132) (by decide +kernel)
set_option maxRecDepth 20000 in
theorem wi_102 : (.code y_O_told b_O_told 1 (some .int) : Cond) ∈ lw_tbl := List.mem_of_getElem? (i := 160) rfl
set_option maxRecDepth 20000 in
theorem wi_103 : (.code y_O_clear b_O_clear 1 none : Cond) ∈ lw_tbl := List.mem_of_getElem? (i := 164) rfl
set_option maxRecDepth 20000 in
theorem wi_104 : (.fieldLink R_O 27 "RealOperations" "first" "LRealOperations$Real;" : Cond) ∈ lw_tbl := List.mem_of_getElem? (i := 133) (by decide +kernel)
set_option maxRecDepth 20000 in
theorem wi_105 : (.fieldLink R_O 31 "RealOperations" "second" "LRealOperations$Real;" : Cond) ∈ lw_tbl := List.mem_of_getElem? (i := 134) (by decide +kernel)
set_option maxRecDepth 20000 in
theorem wi_106 : (.code y_O_hasOppositeSigns b_O_hasOppositeSigns 1 (some .boolean) : Cond) ∈ lw_tbl := List.mem_of_getElem? (i := 355) rfl
set_option maxRecDepth 20000 in
theorem wi_107 : (.instanceMethod y_R_isUnnormalOfSize : Cond) ∈ lw_tbl := List.mem_of_getElem? (i := 339) (by decide +kernel)
set_option maxRecDepth 20000 in
theorem wi_108 : (.selects R_R y_R_isUnnormalOfSize y_R_isUnnormalOfSize : Cond) ∈ lw_tbl := List.mem_of_getElem? (i := 10) (by decide +kernel)
set_option maxRecDepth 20000 in
theorem wi_109 : (.instanceMethod y_R_isInfinite : Cond) ∈ lw_tbl := List.mem_of_getElem? (i := 343) (by decide +kernel)
set_option maxRecDepth 20000 in
theorem wi_110 : (.selects R_R y_R_isInfinite y_R_isInfinite : Cond) ∈ lw_tbl := List.mem_of_getElem? (i := 11) (by decide +kernel)
set_option maxRecDepth 20000 in
theorem wi_111 : (.methodLink R_O 164 y_O_hasTwoInfinites : Cond) ∈ lw_tbl := List.mem_of_getElem? (i := 345) (by decide +kernel)
set_option maxRecDepth 20000 in
theorem wi_112 : (.instanceMethod y_O_hasTwoInfinites : Cond) ∈ lw_tbl := List.mem_of_getElem? (i := 347) (by decide +kernel)
set_option maxRecDepth 20000 in
theorem wi_113 : (.selects R_O y_O_hasTwoInfinites y_O_hasTwoInfinites : Cond) ∈ lw_tbl := List.mem_of_getElem? (i := 12) (by decide +kernel)
set_option maxRecDepth 20000 in
theorem wi_114 : (.instanceMethod y_R_isNothing : Cond) ∈ lw_tbl := List.mem_of_getElem? (i := 335) (by decide +kernel)
set_option maxRecDepth 20000 in
theorem wi_115 : (.selects R_R y_R_isNothing y_R_isNothing : Cond) ∈ lw_tbl := List.mem_of_getElem? (i := 9) (by decide +kernel)
set_option maxRecDepth 20000 in
theorem wi_116 : (.code y_O_isInvalidRoot b_O_isInvalidRoot 1 (some .boolean) : Cond) ∈ lw_tbl := List.mem_of_getElem? (i := 332) rfl
set_option maxRecDepth 20000 in
theorem wi_117 : (.methodLink R_O 161 y_O_isSum : Cond) ∈ lw_tbl := List.mem_of_getElem? (i := 349) (by decide +kernel)
set_option maxRecDepth 20000 in
theorem wi_118 : (.static y_O_isSum : Cond) ∈ lw_tbl := List.mem_of_getElem? (i := 350) (by decide +kernel)
set_option maxRecDepth 20000 in
theorem wi_119 : (.methodLink R_O 133 y_O_hasOppositeSigns : Cond) ∈ lw_tbl := List.mem_of_getElem? (i := 352) (by decide +kernel)
def wo_4 : List Cond := [.code y_O_isMasked b_O_isMasked 2 (some .boolean), .code y_O_isStopped b_O_isStopped 2 (some .boolean), .code y_O_digits b_O_digits 1 (some .int), .code y_O_rounding b_O_rounding 1 (some .int), .code y_O_hasTwoInfinites b_O_hasTwoInfinites 1 (some .boolean), .fieldLink R_O 21 "RealOperations" "toldSoFar" "I", .code y_O_told b_O_told 1 (some .int), .code y_O_clear b_O_clear 1 none, .fieldLink R_O 27 "RealOperations" "first" "LRealOperations$Real;", .fieldLink R_O 31 "RealOperations" "second" "LRealOperations$Real;", .code y_O_hasOppositeSigns b_O_hasOppositeSigns 1 (some .boolean), .instanceMethod y_R_isUnnormalOfSize, .selects R_R y_R_isUnnormalOfSize y_R_isUnnormalOfSize, .instanceMethod y_R_isInfinite, .selects R_R y_R_isInfinite y_R_isInfinite, .methodLink R_O 164 y_O_hasTwoInfinites, .instanceMethod y_O_hasTwoInfinites, .selects R_O y_O_hasTwoInfinites y_O_hasTwoInfinites, .instanceMethod y_R_isNothing, .selects R_R y_R_isNothing y_R_isNothing, .code y_O_isInvalidRoot b_O_isInvalidRoot 1 (some .boolean), .methodLink R_O 161 y_O_isSum, .static y_O_isSum, .methodLink R_O 133 y_O_hasOppositeSigns]
theorem wo_4_in : ∀ w ∈ wo_4, w ∈ lw_tbl := List.forall_mem_cons.mpr ⟨wi_96, List.forall_mem_cons.mpr ⟨wi_97, List.forall_mem_cons.mpr ⟨wi_98, List.forall_mem_cons.mpr ⟨wi_99, List.forall_mem_cons.mpr ⟨wi_100, List.forall_mem_cons.mpr ⟨wi_101, List.forall_mem_cons.mpr ⟨wi_102, List.forall_mem_cons.mpr ⟨wi_103, List.forall_mem_cons.mpr ⟨wi_104, List.forall_mem_cons.mpr ⟨wi_105, List.forall_mem_cons.mpr ⟨wi_106, List.forall_mem_cons.mpr ⟨wi_107, List.forall_mem_cons.mpr ⟨wi_108, List.forall_mem_cons.mpr ⟨wi_109, List.forall_mem_cons.mpr ⟨wi_110, List.forall_mem_cons.mpr ⟨wi_111, List.forall_mem_cons.mpr ⟨wi_112, List.forall_mem_cons.mpr ⟨wi_113, List.forall_mem_cons.mpr ⟨wi_114, List.forall_mem_cons.mpr ⟨wi_115, List.forall_mem_cons.mpr ⟨wi_116, List.forall_mem_cons.mpr ⟨wi_117, List.forall_mem_cons.mpr ⟨wi_118, List.forall_mem_cons.mpr ⟨wi_119, (fun _ h => (List.not_mem_nil h).elim)⟩⟩⟩⟩⟩⟩⟩⟩⟩⟩⟩⟩⟩⟩⟩⟩⟩⟩⟩⟩⟩⟩⟩⟩
set_option maxRecDepth 20000 in
theorem wi_120 : (.instanceMethod y_O_hasOppositeSigns : Cond) ∈ lw_tbl := List.mem_of_getElem? (i := 354) (by decide +kernel)
set_option maxRecDepth 20000 in
theorem wi_121 : (.selects R_O y_O_hasOppositeSigns y_O_hasOppositeSigns : Cond) ∈ lw_tbl := List.mem_of_getElem? (i := 13) (by decide +kernel)
set_option maxRecDepth 20000 in
theorem wi_122 : (.methodLink R_O 158 y_O_isInvalidRoot : Cond) ∈ lw_tbl := List.mem_of_getElem? (i := 329) (by decide +kernel)
set_option maxRecDepth 20000 in
theorem wi_123 : (.instanceMethod y_O_isInvalidRoot : Cond) ∈ lw_tbl := List.mem_of_getElem? (i := 331) (by decide +kernel)
set_option maxRecDepth 20000 in
theorem wi_124 : (.selects R_O y_O_isInvalidRoot y_O_isInvalidRoot : Cond) ∈ lw_tbl := List.mem_of_getElem? (i := 8) (by decide +kernel)
set_option maxRecDepth 20000 in
theorem wi_125 : (.code y_O_isInvalid b_O_isInvalid 3 (some .boolean) : Cond) ∈ lw_tbl := List.mem_of_getElem? (i := 328) rfl
set_option maxRecDepth 20000 in
theorem wi_126 : (.instanceMethod y_R_isNoNumber : Cond) ∈ lw_tbl := List.mem_of_getElem? (i := 308) (by decide +kernel)
set_option maxRecDepth 20000 in
theorem wi_127 : (.selects R_R y_R_isNoNumber y_R_isNoNumber : Cond) ∈ lw_tbl := List.mem_of_getElem? (i := 5) (by decide +kernel)
set_option maxRecDepth 20000 in
theorem wi_128 : (.fieldLink R_O 34 "RealOperations" "answer" "LRealOperations$Real;" : Cond) ∈ lw_tbl := List.mem_of_getElem? (i := 135) (by decide +kernel)
set_option maxRecDepth 20000 in
theorem wi_129 : (.methodLink R_O 149 y_Lg_compareUnsigned : Cond) ∈ lw_tbl := List.mem_of_getElem? (i := 314) (by decide +kernel)
set_option maxRecDepth 20000 in
theorem wi_130 : (.code y_O_answerNoNumber b_O_answerNoNumber 3 none : Cond) ∈ lw_tbl := List.mem_of_getElem? (i := 313) rfl
set_option maxRecDepth 20000 in
theorem wi_131 : (.methodLink R_O 124 y_O_isQuotient : Cond) ∈ lw_tbl := List.mem_of_getElem? (i := 365) (by decide +kernel)
set_option maxRecDepth 20000 in
theorem wi_132 : (.static y_O_isQuotient : Cond) ∈ lw_tbl := List.mem_of_getElem? (i := 366) (by decide +kernel)
set_option maxRecDepth 20000 in
theorem wi_133 : (.constantLong R_O 136 (-9223372036854775808) : Cond) ∈ lw_tbl := List.mem_of_getElem? (i := 368) (by decide +kernel)
set_option maxRecDepth 20000 in
theorem wi_134 : (.code y_O_answerOfInfinite b_O_answerOfInfinite 3 none : Cond) ∈ lw_tbl := List.mem_of_getElem? (i := 372) rfl
set_option maxRecDepth 20000 in
theorem wi_135 : (.fieldLink R_O 40 "RealOperations" "size" "LRealOperations$Size;" : Cond) ∈ lw_tbl := List.mem_of_getElem? (i := 136) (by decide +kernel)
set_option maxRecDepth 20000 in
theorem wi_136 : (.fieldLink R_O 44 "RealOperations" "otherSize" "LRealOperations$Size;" : Cond) ∈ lw_tbl := List.mem_of_getElem? (i := 137) (by decide +kernel)
set_option maxRecDepth 20000 in
theorem wi_137 : (.instanceMethod y_S_isLessThan : Cond) ∈ lw_tbl := List.mem_of_getElem? (i := 398) (by decide +kernel)
set_option maxRecDepth 20000 in
theorem wi_138 : (.selects R_S y_S_isLessThan y_S_isLessThan : Cond) ∈ lw_tbl := List.mem_of_getElem? (i := 22) (by decide +kernel)
set_option maxRecDepth 20000 in
theorem wi_139 : (.instanceMethod y_S_take : Cond) ∈ lw_tbl := List.mem_of_getElem? (i := 379) (by decide +kernel)
set_option maxRecDepth 20000 in
theorem wi_140 : (.selects R_S y_S_take y_S_take : Cond) ∈ lw_tbl := List.mem_of_getElem? (i := 18) (by decide +kernel)
set_option maxRecDepth 20000 in
theorem wi_141 : (.instanceMethod y_S_subtract : Cond) ∈ lw_tbl := List.mem_of_getElem? (i := 414) (by decide +kernel)
set_option maxRecDepth 20000 in
theorem wi_142 : (.selects R_S y_S_subtract y_S_subtract : Cond) ∈ lw_tbl := List.mem_of_getElem? (i := 25) (by decide +kernel)
set_option maxRecDepth 20000 in
theorem wi_143 : (.methodLink R_O 199 y_O_rounding : Cond) ∈ lw_tbl := List.mem_of_getElem? (i := 417) (by decide +kernel)
def wo_5 : List Cond := [.instanceMethod y_O_hasOppositeSigns, .selects R_O y_O_hasOppositeSigns y_O_hasOppositeSigns, .methodLink R_O 158 y_O_isInvalidRoot, .instanceMethod y_O_isInvalidRoot, .selects R_O y_O_isInvalidRoot y_O_isInvalidRoot, .code y_O_isInvalid b_O_isInvalid 3 (some .boolean), .instanceMethod y_R_isNoNumber, .selects R_R y_R_isNoNumber y_R_isNoNumber, .fieldLink R_O 34 "RealOperations" "answer" "LRealOperations$Real;", .methodLink R_O 149 y_Lg_compareUnsigned, .code y_O_answerNoNumber b_O_answerNoNumber 3 none, .methodLink R_O 124 y_O_isQuotient, .static y_O_isQuotient, .constantLong R_O 136 (-9223372036854775808), .code y_O_answerOfInfinite b_O_answerOfInfinite 3 none, .fieldLink R_O 40 "RealOperations" "size" "LRealOperations$Size;", .fieldLink R_O 44 "RealOperations" "otherSize" "LRealOperations$Size;", .instanceMethod y_S_isLessThan, .selects R_S y_S_isLessThan y_S_isLessThan, .instanceMethod y_S_take, .selects R_S y_S_take y_S_take, .instanceMethod y_S_subtract, .selects R_S y_S_subtract y_S_subtract, .methodLink R_O 199 y_O_rounding]
theorem wo_5_in : ∀ w ∈ wo_5, w ∈ lw_tbl := List.forall_mem_cons.mpr ⟨wi_120, List.forall_mem_cons.mpr ⟨wi_121, List.forall_mem_cons.mpr ⟨wi_122, List.forall_mem_cons.mpr ⟨wi_123, List.forall_mem_cons.mpr ⟨wi_124, List.forall_mem_cons.mpr ⟨wi_125, List.forall_mem_cons.mpr ⟨wi_126, List.forall_mem_cons.mpr ⟨wi_127, List.forall_mem_cons.mpr ⟨wi_128, List.forall_mem_cons.mpr ⟨wi_129, List.forall_mem_cons.mpr ⟨wi_130, List.forall_mem_cons.mpr ⟨wi_131, List.forall_mem_cons.mpr ⟨wi_132, List.forall_mem_cons.mpr ⟨wi_133, List.forall_mem_cons.mpr ⟨wi_134, List.forall_mem_cons.mpr ⟨wi_135, List.forall_mem_cons.mpr ⟨wi_136, List.forall_mem_cons.mpr ⟨wi_137, List.forall_mem_cons.mpr ⟨wi_138, List.forall_mem_cons.mpr ⟨wi_139, List.forall_mem_cons.mpr ⟨wi_140, List.forall_mem_cons.mpr ⟨wi_141, List.forall_mem_cons.mpr ⟨wi_142, List.forall_mem_cons.mpr ⟨wi_143, (fun _ h => (List.not_mem_nil h).elim)⟩⟩⟩⟩⟩⟩⟩⟩⟩⟩⟩⟩⟩⟩⟩⟩⟩⟩⟩⟩⟩⟩⟩⟩
set_option maxRecDepth 20000 in
theorem wi_144 : (.instanceMethod y_O_rounding : Cond) ∈ lw_tbl := List.mem_of_getElem? (i := 419) (by decide +kernel)
set_option maxRecDepth 20000 in
theorem wi_145 : (.selects R_O y_O_rounding y_O_rounding : Cond) ∈ lw_tbl := List.mem_of_getElem? (i := 26) (by decide +kernel)
set_option maxRecDepth 20000 in
theorem wi_146 : (.instanceMethod y_S_add : Cond) ∈ lw_tbl := List.mem_of_getElem? (i := 403) (by decide +kernel)
set_option maxRecDepth 20000 in
theorem wi_147 : (.selects R_S y_S_add y_S_add : Cond) ∈ lw_tbl := List.mem_of_getElem? (i := 23) (by decide +kernel)
set_option maxRecDepth 20000 in
theorem wi_148 : (.code y_O_computeSum b_O_computeSum 3 (some .boolean) : Cond) ∈ lw_tbl := List.mem_of_getElem? (i := 395) rfl
set_option maxRecDepth 20000 in
theorem wi_149 : (.instanceMethod y_S_divide : Cond) ∈ lw_tbl := List.mem_of_getElem? (i := 444) (by decide +kernel)
set_option maxRecDepth 20000 in
theorem wi_150 : (.selects R_S y_S_divide y_S_divide : Cond) ∈ lw_tbl := List.mem_of_getElem? (i := 31) (by decide +kernel)
set_option maxRecDepth 20000 in
theorem wi_151 : (.instanceMethod y_S_multiply : Cond) ∈ lw_tbl := List.mem_of_getElem? (i := 440) (by decide +kernel)
set_option maxRecDepth 20000 in
theorem wi_152 : (.selects R_S y_S_multiply y_S_multiply : Cond) ∈ lw_tbl := List.mem_of_getElem? (i := 30) (by decide +kernel)
set_option maxRecDepth 20000 in
theorem wi_153 : (.instanceMethod y_S_takeRoot : Cond) ∈ lw_tbl := List.mem_of_getElem? (i := 423) (by decide +kernel)
set_option maxRecDepth 20000 in
theorem wi_154 : (.selects R_S y_S_takeRoot y_S_takeRoot : Cond) ∈ lw_tbl := List.mem_of_getElem? (i := 27) (by decide +kernel)
set_option maxRecDepth 20000 in
theorem wi_155 : (.methodLink R_O 173 y_O_computeSum : Cond) ∈ lw_tbl := List.mem_of_getElem? (i := 392) (by decide +kernel)
set_option maxRecDepth 20000 in
theorem wi_156 : (.instanceMethod y_O_computeSum : Cond) ∈ lw_tbl := List.mem_of_getElem? (i := 394) (by decide +kernel)
set_option maxRecDepth 20000 in
theorem wi_157 : (.selects R_O y_O_computeSum y_O_computeSum : Cond) ∈ lw_tbl := List.mem_of_getElem? (i := 21) (by decide +kernel)
set_option maxRecDepth 20000 in
theorem wi_158 : (.code y_O_computeExactly b_O_computeExactly 2 (some .boolean) : Cond) ∈ lw_tbl := List.mem_of_getElem? (i := 376) rfl
set_option maxRecDepth 20000 in
theorem wi_159 : (.methodLink R_O 207 y_O_digits : Cond) ∈ lw_tbl := List.mem_of_getElem? (i := 458) (by decide +kernel)
set_option maxRecDepth 20000 in
theorem wi_160 : (.instanceMethod y_O_digits : Cond) ∈ lw_tbl := List.mem_of_getElem? (i := 460) (by decide +kernel)
set_option maxRecDepth 20000 in
theorem wi_161 : (.selects R_O y_O_digits y_O_digits : Cond) ∈ lw_tbl := List.mem_of_getElem? (i := 35) (by decide +kernel)
set_option maxRecDepth 20000 in
theorem wi_162 : (.methodLink R_O 221 y_O_isMasked : Cond) ∈ lw_tbl := List.mem_of_getElem? (i := 462) (by decide +kernel)
set_option maxRecDepth 20000 in
theorem wi_163 : (.instanceMethod y_O_isMasked : Cond) ∈ lw_tbl := List.mem_of_getElem? (i := 464) (by decide +kernel)
set_option maxRecDepth 20000 in
theorem wi_164 : (.selects R_O y_O_isMasked y_O_isMasked : Cond) ∈ lw_tbl := List.mem_of_getElem? (i := 36) (by decide +kernel)
set_option maxRecDepth 20000 in
theorem wi_165 : (.instanceMethod y_S_round : Cond) ∈ lw_tbl := List.mem_of_getElem? (i := 468) (by decide +kernel)
set_option maxRecDepth 20000 in
theorem wi_166 : (.selects R_S y_S_round y_S_round : Cond) ∈ lw_tbl := List.mem_of_getElem? (i := 37) (by decide +kernel)
set_option maxRecDepth 20000 in
theorem wi_167 : (.code y_O_roundSmall b_O_roundSmall 4 (some .int) : Cond) ∈ lw_tbl := List.mem_of_getElem? (i := 457) rfl
def wo_6 : List Cond := [.instanceMethod y_O_rounding, .selects R_O y_O_rounding y_O_rounding, .instanceMethod y_S_add, .selects R_S y_S_add y_S_add, .code y_O_computeSum b_O_computeSum 3 (some .boolean), .instanceMethod y_S_divide, .selects R_S y_S_divide y_S_divide, .instanceMethod y_S_multiply, .selects R_S y_S_multiply y_S_multiply, .instanceMethod y_S_takeRoot, .selects R_S y_S_takeRoot y_S_takeRoot, .methodLink R_O 173 y_O_computeSum, .instanceMethod y_O_computeSum, .selects R_O y_O_computeSum y_O_computeSum, .code y_O_computeExactly b_O_computeExactly 2 (some .boolean), .methodLink R_O 207 y_O_digits, .instanceMethod y_O_digits, .selects R_O y_O_digits y_O_digits, .methodLink R_O 221 y_O_isMasked, .instanceMethod y_O_isMasked, .selects R_O y_O_isMasked y_O_isMasked, .instanceMethod y_S_round, .selects R_S y_S_round y_S_round, .code y_O_roundSmall b_O_roundSmall 4 (some .int)]
theorem wo_6_in : ∀ w ∈ wo_6, w ∈ lw_tbl := List.forall_mem_cons.mpr ⟨wi_144, List.forall_mem_cons.mpr ⟨wi_145, List.forall_mem_cons.mpr ⟨wi_146, List.forall_mem_cons.mpr ⟨wi_147, List.forall_mem_cons.mpr ⟨wi_148, List.forall_mem_cons.mpr ⟨wi_149, List.forall_mem_cons.mpr ⟨wi_150, List.forall_mem_cons.mpr ⟨wi_151, List.forall_mem_cons.mpr ⟨wi_152, List.forall_mem_cons.mpr ⟨wi_153, List.forall_mem_cons.mpr ⟨wi_154, List.forall_mem_cons.mpr ⟨wi_155, List.forall_mem_cons.mpr ⟨wi_156, List.forall_mem_cons.mpr ⟨wi_157, List.forall_mem_cons.mpr ⟨wi_158, List.forall_mem_cons.mpr ⟨wi_159, List.forall_mem_cons.mpr ⟨wi_160, List.forall_mem_cons.mpr ⟨wi_161, List.forall_mem_cons.mpr ⟨wi_162, List.forall_mem_cons.mpr ⟨wi_163, List.forall_mem_cons.mpr ⟨wi_164, List.forall_mem_cons.mpr ⟨wi_165, List.forall_mem_cons.mpr ⟨wi_166, List.forall_mem_cons.mpr ⟨wi_167, (fun _ h => (List.not_mem_nil h).elim)⟩⟩⟩⟩⟩⟩⟩⟩⟩⟩⟩⟩⟩⟩⟩⟩⟩⟩⟩⟩⟩⟩⟩⟩
set_option maxRecDepth 20000 in
theorem wi_168 : (.constantLong R_O 227 (-1) : Cond) ∈ lw_tbl := List.mem_of_getElem? (i := 488) (by decide +kernel)
set_option maxRecDepth 20000 in
theorem wi_169 : (.instanceMethod y_R_putSize : Cond) ∈ lw_tbl := List.mem_of_getElem? (i := 484) (by decide +kernel)
set_option maxRecDepth 20000 in
theorem wi_170 : (.selects R_R y_R_putSize y_R_putSize : Cond) ∈ lw_tbl := List.mem_of_getElem? (i := 40) (by decide +kernel)
set_option maxRecDepth 20000 in
theorem wi_171 : (.code y_O_answerGreat b_O_answerGreat 3 (some .int) : Cond) ∈ lw_tbl := List.mem_of_getElem? (i := 481) rfl
set_option maxRecDepth 20000 in
theorem wi_172 : (.methodLink R_O 214 y_O_answerGreat : Cond) ∈ lw_tbl := List.mem_of_getElem? (i := 478) (by decide +kernel)
set_option maxRecDepth 20000 in
theorem wi_173 : (.instanceMethod y_O_answerGreat : Cond) ∈ lw_tbl := List.mem_of_getElem? (i := 480) (by decide +kernel)
set_option maxRecDepth 20000 in
theorem wi_174 : (.selects R_O y_O_answerGreat y_O_answerGreat : Cond) ∈ lw_tbl := List.mem_of_getElem? (i := 39) (by decide +kernel)
set_option maxRecDepth 20000 in
theorem wi_175 : (.methodLink R_O 204 y_O_roundSmall : Cond) ∈ lw_tbl := List.mem_of_getElem? (i := 454) (by decide +kernel)
set_option maxRecDepth 20000 in
theorem wi_176 : (.instanceMethod y_O_roundSmall : Cond) ∈ lw_tbl := List.mem_of_getElem? (i := 456) (by decide +kernel)
set_option maxRecDepth 20000 in
theorem wi_177 : (.selects R_O y_O_roundSmall y_O_roundSmall : Cond) ∈ lw_tbl := List.mem_of_getElem? (i := 34) (by decide +kernel)
set_option maxRecDepth 20000 in
theorem wi_178 : (.code y_O_make b_O_make 3 (some .int) : Cond) ∈ lw_tbl := List.mem_of_getElem? (i := 449) rfl
set_option maxRecDepth 20000 in
theorem wi_179 : (.methodLink R_O 105 y_O_answerNoNumber : Cond) ∈ lw_tbl := List.mem_of_getElem? (i := 310) (by decide +kernel)
set_option maxRecDepth 20000 in
theorem wi_180 : (.instanceMethod y_O_answerNoNumber : Cond) ∈ lw_tbl := List.mem_of_getElem? (i := 312) (by decide +kernel)
set_option maxRecDepth 20000 in
theorem wi_181 : (.selects R_O y_O_answerNoNumber y_O_answerNoNumber : Cond) ∈ lw_tbl := List.mem_of_getElem? (i := 6) (by decide +kernel)
set_option maxRecDepth 20000 in
theorem wi_182 : (.methodLink R_O 112 y_O_isInvalid : Cond) ∈ lw_tbl := List.mem_of_getElem? (i := 325) (by decide +kernel)
set_option maxRecDepth 20000 in
theorem wi_183 : (.instanceMethod y_O_isInvalid : Cond) ∈ lw_tbl := List.mem_of_getElem? (i := 327) (by decide +kernel)
set_option maxRecDepth 20000 in
theorem wi_184 : (.selects R_O y_O_isInvalid y_O_isInvalid : Cond) ∈ lw_tbl := List.mem_of_getElem? (i := 7) (by decide +kernel)
set_option maxRecDepth 20000 in
theorem wi_185 : (.instanceMethod y_R_isDenormal : Cond) ∈ lw_tbl := List.mem_of_getElem? (i := 359) (by decide +kernel)
set_option maxRecDepth 20000 in
theorem wi_186 : (.selects R_R y_R_isDenormal y_R_isDenormal : Cond) ∈ lw_tbl := List.mem_of_getElem? (i := 14) (by decide +kernel)
set_option maxRecDepth 20000 in
theorem wi_187 : (.methodLink R_O 82 y_O_isStopped : Cond) ∈ lw_tbl := List.mem_of_getElem? (i := 361) (by decide +kernel)
set_option maxRecDepth 20000 in
theorem wi_188 : (.instanceMethod y_O_isStopped : Cond) ∈ lw_tbl := List.mem_of_getElem? (i := 363) (by decide +kernel)
set_option maxRecDepth 20000 in
theorem wi_189 : (.selects R_O y_O_isStopped y_O_isStopped : Cond) ∈ lw_tbl := List.mem_of_getElem? (i := 15) (by decide +kernel)
set_option maxRecDepth 20000 in
theorem wi_190 : (.methodLink R_O 138 y_O_answerOfInfinite : Cond) ∈ lw_tbl := List.mem_of_getElem? (i := 369) (by decide +kernel)
set_option maxRecDepth 20000 in
theorem wi_191 : (.instanceMethod y_O_answerOfInfinite : Cond) ∈ lw_tbl := List.mem_of_getElem? (i := 371) (by decide +kernel)
def wo_7 : List Cond := [.constantLong R_O 227 (-1), .instanceMethod y_R_putSize, .selects R_R y_R_putSize y_R_putSize, .code y_O_answerGreat b_O_answerGreat 3 (some .int), .methodLink R_O 214 y_O_answerGreat, .instanceMethod y_O_answerGreat, .selects R_O y_O_answerGreat y_O_answerGreat, .methodLink R_O 204 y_O_roundSmall, .instanceMethod y_O_roundSmall, .selects R_O y_O_roundSmall y_O_roundSmall, .code y_O_make b_O_make 3 (some .int), .methodLink R_O 105 y_O_answerNoNumber, .instanceMethod y_O_answerNoNumber, .selects R_O y_O_answerNoNumber y_O_answerNoNumber, .methodLink R_O 112 y_O_isInvalid, .instanceMethod y_O_isInvalid, .selects R_O y_O_isInvalid y_O_isInvalid, .instanceMethod y_R_isDenormal, .selects R_R y_R_isDenormal y_R_isDenormal, .methodLink R_O 82 y_O_isStopped, .instanceMethod y_O_isStopped, .selects R_O y_O_isStopped y_O_isStopped, .methodLink R_O 138 y_O_answerOfInfinite, .instanceMethod y_O_answerOfInfinite]
theorem wo_7_in : ∀ w ∈ wo_7, w ∈ lw_tbl := List.forall_mem_cons.mpr ⟨wi_168, List.forall_mem_cons.mpr ⟨wi_169, List.forall_mem_cons.mpr ⟨wi_170, List.forall_mem_cons.mpr ⟨wi_171, List.forall_mem_cons.mpr ⟨wi_172, List.forall_mem_cons.mpr ⟨wi_173, List.forall_mem_cons.mpr ⟨wi_174, List.forall_mem_cons.mpr ⟨wi_175, List.forall_mem_cons.mpr ⟨wi_176, List.forall_mem_cons.mpr ⟨wi_177, List.forall_mem_cons.mpr ⟨wi_178, List.forall_mem_cons.mpr ⟨wi_179, List.forall_mem_cons.mpr ⟨wi_180, List.forall_mem_cons.mpr ⟨wi_181, List.forall_mem_cons.mpr ⟨wi_182, List.forall_mem_cons.mpr ⟨wi_183, List.forall_mem_cons.mpr ⟨wi_184, List.forall_mem_cons.mpr ⟨wi_185, List.forall_mem_cons.mpr ⟨wi_186, List.forall_mem_cons.mpr ⟨wi_187, List.forall_mem_cons.mpr ⟨wi_188, List.forall_mem_cons.mpr ⟨wi_189, List.forall_mem_cons.mpr ⟨wi_190, List.forall_mem_cons.mpr ⟨wi_191, (fun _ h => (List.not_mem_nil h).elim)⟩⟩⟩⟩⟩⟩⟩⟩⟩⟩⟩⟩⟩⟩⟩⟩⟩⟩⟩⟩⟩⟩⟩⟩
set_option maxRecDepth 20000 in
theorem wi_192 : (.selects R_O y_O_answerOfInfinite y_O_answerOfInfinite : Cond) ∈ lw_tbl := List.mem_of_getElem? (i := 16) (by decide +kernel)
set_option maxRecDepth 20000 in
theorem wi_193 : (.methodLink R_O 142 y_O_computeExactly : Cond) ∈ lw_tbl := List.mem_of_getElem? (i := 373) (by decide +kernel)
set_option maxRecDepth 20000 in
theorem wi_194 : (.instanceMethod y_O_computeExactly : Cond) ∈ lw_tbl := List.mem_of_getElem? (i := 375) (by decide +kernel)
set_option maxRecDepth 20000 in
theorem wi_195 : (.selects R_O y_O_computeExactly y_O_computeExactly : Cond) ∈ lw_tbl := List.mem_of_getElem? (i := 17) (by decide +kernel)
set_option maxRecDepth 20000 in
theorem wi_196 : (.methodLink R_O 145 y_O_make : Cond) ∈ lw_tbl := List.mem_of_getElem? (i := 446) (by decide +kernel)
set_option maxRecDepth 20000 in
theorem wi_197 : (.instanceMethod y_O_make : Cond) ∈ lw_tbl := List.mem_of_getElem? (i := 448) (by decide +kernel)
set_option maxRecDepth 20000 in
theorem wi_198 : (.selects R_O y_O_make y_O_make : Cond) ∈ lw_tbl := List.mem_of_getElem? (i := 32) (by decide +kernel)
set_option maxRecDepth 20000 in
theorem wi_199 : (.constantLong R_O 115 (-4611686018427387904) : Cond) ∈ lw_tbl := List.mem_of_getElem? (i := 356) (by decide +kernel)
set_option maxRecDepth 20000 in
theorem wi_200 : (.code y_O_carryOut b_O_carryOut 3 (some .int) : Cond) ∈ lw_tbl := List.mem_of_getElem? (i := 305) rfl
set_option maxRecDepth 20000 in
theorem wi_201 : (.fieldLink R_O 9 "RealOperations" "tops" "[I" : Cond) ∈ lw_tbl := List.mem_of_getElem? (i := 129) (by decide +kernel)
set_option maxRecDepth 20000 in
theorem wi_202 : (.fieldLink R_O 13 "RealOperations" "fractions" "[J" : Cond) ∈ lw_tbl := List.mem_of_getElem? (i := 130) (by decide +kernel)
set_option maxRecDepth 20000 in
theorem wi_203 : (.instanceMethod y_R_take : Cond) ∈ lw_tbl := List.mem_of_getElem? (i := 295) (by decide +kernel)
set_option maxRecDepth 20000 in
theorem wi_204 : (.selects R_R y_R_take y_R_take : Cond) ∈ lw_tbl := List.mem_of_getElem? (i := 2) (by decide +kernel)
set_option maxRecDepth 20000 in
theorem wi_205 : (.code y_O_takeOperands b_O_takeOperands 7 none : Cond) ∈ lw_tbl := List.mem_of_getElem? (i := 292) rfl
set_option maxRecDepth 20000 in
theorem wi_206 : (.methodLink R_O 47 y_O_hasSixteenBits : Cond) ∈ lw_tbl := List.mem_of_getElem? (i := 173) (by decide +kernel)
set_option maxRecDepth 20000 in
theorem wi_207 : (.static y_O_hasSixteenBits : Cond) ∈ lw_tbl := List.mem_of_getElem? (i := 174) (by decide +kernel)
set_option maxRecDepth 20000 in
theorem wi_208 : (.classLink R_O 51 "java/lang/IllegalArgumentException" : Cond) ∈ lw_tbl := List.mem_of_getElem? (i := 177) (by decide +kernel)
set_option maxRecDepth 20000 in
theorem wi_209 : (.initialized "java/lang/IllegalArgumentException" : Cond) ∈ lw_tbl := List.mem_of_getElem? (i := 76) (by decide +kernel)
set_option maxRecDepth 20000 in
theorem wi_210 : (.code y_O_control b_O_control 2 none : Cond) ∈ lw_tbl := List.mem_of_getElem? (i := 172) rfl
set_option maxRecDepth 20000 in
theorem wi_211 : (.methodLink R_O 58 y_O_isRegister : Cond) ∈ lw_tbl := List.mem_of_getElem? (i := 252) (by decide +kernel)
set_option maxRecDepth 20000 in
theorem wi_212 : (.static y_O_isRegister : Cond) ∈ lw_tbl := List.mem_of_getElem? (i := 253) (by decide +kernel)
set_option maxRecDepth 20000 in
theorem wi_213 : (.constantLong R_O 68 4294967295 : Cond) ∈ lw_tbl := List.mem_of_getElem? (i := 272) (by decide +kernel)
set_option maxRecDepth 20000 in
theorem wi_214 : (.classLink R_O 61 "java/lang/IndexOutOfBoundsException" : Cond) ∈ lw_tbl := List.mem_of_getElem? (i := 255) (by decide +kernel)
set_option maxRecDepth 20000 in
theorem wi_215 : (.initialized "java/lang/IndexOutOfBoundsException" : Cond) ∈ lw_tbl := List.mem_of_getElem? (i := 77) (by decide +kernel)
def wo_8 : List Cond := [.selects R_O y_O_answerOfInfinite y_O_answerOfInfinite, .methodLink R_O 142 y_O_computeExactly, .instanceMethod y_O_computeExactly, .selects R_O y_O_computeExactly y_O_computeExactly, .methodLink R_O 145 y_O_make, .instanceMethod y_O_make, .selects R_O y_O_make y_O_make, .constantLong R_O 115 (-4611686018427387904), .code y_O_carryOut b_O_carryOut 3 (some .int), .fieldLink R_O 9 "RealOperations" "tops" "[I", .fieldLink R_O 13 "RealOperations" "fractions" "[J", .instanceMethod y_R_take, .selects R_R y_R_take y_R_take, .code y_O_takeOperands b_O_takeOperands 7 none, .methodLink R_O 47 y_O_hasSixteenBits, .static y_O_hasSixteenBits, .classLink R_O 51 "java/lang/IllegalArgumentException", .initialized "java/lang/IllegalArgumentException", .code y_O_control b_O_control 2 none, .methodLink R_O 58 y_O_isRegister, .static y_O_isRegister, .constantLong R_O 68 4294967295, .classLink R_O 61 "java/lang/IndexOutOfBoundsException", .initialized "java/lang/IndexOutOfBoundsException"]
theorem wo_8_in : ∀ w ∈ wo_8, w ∈ lw_tbl := List.forall_mem_cons.mpr ⟨wi_192, List.forall_mem_cons.mpr ⟨wi_193, List.forall_mem_cons.mpr ⟨wi_194, List.forall_mem_cons.mpr ⟨wi_195, List.forall_mem_cons.mpr ⟨wi_196, List.forall_mem_cons.mpr ⟨wi_197, List.forall_mem_cons.mpr ⟨wi_198, List.forall_mem_cons.mpr ⟨wi_199, List.forall_mem_cons.mpr ⟨wi_200, List.forall_mem_cons.mpr ⟨wi_201, List.forall_mem_cons.mpr ⟨wi_202, List.forall_mem_cons.mpr ⟨wi_203, List.forall_mem_cons.mpr ⟨wi_204, List.forall_mem_cons.mpr ⟨wi_205, List.forall_mem_cons.mpr ⟨wi_206, List.forall_mem_cons.mpr ⟨wi_207, List.forall_mem_cons.mpr ⟨wi_208, List.forall_mem_cons.mpr ⟨wi_209, List.forall_mem_cons.mpr ⟨wi_210, List.forall_mem_cons.mpr ⟨wi_211, List.forall_mem_cons.mpr ⟨wi_212, List.forall_mem_cons.mpr ⟨wi_213, List.forall_mem_cons.mpr ⟨wi_214, List.forall_mem_cons.mpr ⟨wi_215, (fun _ h => (List.not_mem_nil h).elim)⟩⟩⟩⟩⟩⟩⟩⟩⟩⟩⟩⟩⟩⟩⟩⟩⟩⟩⟩⟩⟩⟩⟩⟩
set_option maxRecDepth 20000 in
theorem wi_216 : (.code y_O_set b_O_set 5 none : Cond) ∈ lw_tbl := List.mem_of_getElem? (i := 251) rfl
set_option maxRecDepth 20000 in
theorem wi_217 : (.code y_O_part b_O_part 3 (some .int) : Cond) ∈ lw_tbl := List.mem_of_getElem? (i := 279) rfl
set_option maxRecDepth 20000 in
theorem wi_218 : (.methodLink R_O 74 y_O_takeOperands : Cond) ∈ lw_tbl := List.mem_of_getElem? (i := 289) (by decide +kernel)
set_option maxRecDepth 20000 in
theorem wi_219 : (.instanceMethod y_O_takeOperands : Cond) ∈ lw_tbl := List.mem_of_getElem? (i := 291) (by decide +kernel)
set_option maxRecDepth 20000 in
theorem wi_220 : (.selects R_O y_O_takeOperands y_O_takeOperands : Cond) ∈ lw_tbl := List.mem_of_getElem? (i := 1) (by decide +kernel)
set_option maxRecDepth 20000 in
theorem wi_221 : (.methodLink R_O 78 y_O_carryOut : Cond) ∈ lw_tbl := List.mem_of_getElem? (i := 302) (by decide +kernel)
set_option maxRecDepth 20000 in
theorem wi_222 : (.instanceMethod y_O_carryOut : Cond) ∈ lw_tbl := List.mem_of_getElem? (i := 304) (by decide +kernel)
set_option maxRecDepth 20000 in
theorem wi_223 : (.selects R_O y_O_carryOut y_O_carryOut : Cond) ∈ lw_tbl := List.mem_of_getElem? (i := 4) (by decide +kernel)
set_option maxRecDepth 20000 in
theorem wi_224 : (.instanceMethod y_R_top : Cond) ∈ lw_tbl := List.mem_of_getElem? (i := 491) (by decide +kernel)
set_option maxRecDepth 20000 in
theorem wi_225 : (.selects R_R y_R_top y_R_top : Cond) ∈ lw_tbl := List.mem_of_getElem? (i := 41) (by decide +kernel)
set_option maxRecDepth 20000 in
theorem wi_226 : (.code y_O_operate b_O_operate 6 (some .int) : Cond) ∈ lw_tbl := List.mem_of_getElem? (i := 287) rfl
set_option maxRecDepth 20000 in
theorem wi_227 : (.methodLink R_O 1 objectInit : Cond) ∈ lw_tbl := List.mem_of_getElem? (i := 85) (by decide +kernel)
set_option maxRecDepth 20000 in
theorem wi_228 : (.arrayClass .int : Cond) ∈ lw_tbl := List.mem_of_getElem? (i := 109) (by decide +kernel)
set_option maxRecDepth 20000 in
theorem wi_229 : (.arrayClass .long : Cond) ∈ lw_tbl := List.mem_of_getElem? (i := 110) (by decide +kernel)
set_option maxRecDepth 20000 in
theorem wi_230 : (.classLink R_O 24 R_R : Cond) ∈ lw_tbl := List.mem_of_getElem? (i := 88) (by decide +kernel)
set_option maxRecDepth 20000 in
theorem wi_231 : (.instantiable R_R 3 : Cond) ∈ lw_tbl := List.mem_of_getElem? (i := 89) (by decide +kernel)
set_option maxRecDepth 20000 in
theorem wi_232 : (.instanceMethod y_R_init : Cond) ∈ lw_tbl := List.mem_of_getElem? (i := 91) (by decide +kernel)
set_option maxRecDepth 20000 in
theorem wi_233 : (.classLink R_O 37 R_S : Cond) ∈ lw_tbl := List.mem_of_getElem? (i := 111) (by decide +kernel)
set_option maxRecDepth 20000 in
theorem wi_234 : (.instantiable R_S 3 : Cond) ∈ lw_tbl := List.mem_of_getElem? (i := 112) (by decide +kernel)
set_option maxRecDepth 20000 in
theorem wi_235 : (.instanceMethod y_S_init : Cond) ∈ lw_tbl := List.mem_of_getElem? (i := 114) (by decide +kernel)
set_option maxRecDepth 20000 in
theorem wi_236 : (.code y_O_init b_O_init 1 none : Cond) ∈ lw_tbl := List.mem_of_getElem? (i := 84) rfl
set_option maxRecDepth 20000 in
theorem wi_237 : (.code y_M_none b_M_none 1 (some .boolean) : Cond) ∈ lw_tbl := List.mem_of_getElem? (i := 568) rfl
set_option maxRecDepth 20000 in
theorem wi_238 : (.code y_M_below b_M_below 4 (some .boolean) : Cond) ∈ lw_tbl := List.mem_of_getElem? (i := 601) rfl
set_option maxRecDepth 20000 in
theorem wi_239 : (.fieldLink R_M 35 "RealOperationsModel" "code" "I" : Cond) ∈ lw_tbl := List.mem_of_getElem? (i := 500) (by decide +kernel)
def wo_9 : List Cond := [.code y_O_set b_O_set 5 none, .code y_O_part b_O_part 3 (some .int), .methodLink R_O 74 y_O_takeOperands, .instanceMethod y_O_takeOperands, .selects R_O y_O_takeOperands y_O_takeOperands, .methodLink R_O 78 y_O_carryOut, .instanceMethod y_O_carryOut, .selects R_O y_O_carryOut y_O_carryOut, .instanceMethod y_R_top, .selects R_R y_R_top y_R_top, .code y_O_operate b_O_operate 6 (some .int), .methodLink R_O 1 objectInit, .arrayClass .int, .arrayClass .long, .classLink R_O 24 R_R, .instantiable R_R 3, .instanceMethod y_R_init, .classLink R_O 37 R_S, .instantiable R_S 3, .instanceMethod y_S_init, .code y_O_init b_O_init 1 none, .code y_M_none b_M_none 1 (some .boolean), .code y_M_below b_M_below 4 (some .boolean), .fieldLink R_M 35 "RealOperationsModel" "code" "I"]
theorem wo_9_in : ∀ w ∈ wo_9, w ∈ lw_tbl := List.forall_mem_cons.mpr ⟨wi_216, List.forall_mem_cons.mpr ⟨wi_217, List.forall_mem_cons.mpr ⟨wi_218, List.forall_mem_cons.mpr ⟨wi_219, List.forall_mem_cons.mpr ⟨wi_220, List.forall_mem_cons.mpr ⟨wi_221, List.forall_mem_cons.mpr ⟨wi_222, List.forall_mem_cons.mpr ⟨wi_223, List.forall_mem_cons.mpr ⟨wi_224, List.forall_mem_cons.mpr ⟨wi_225, List.forall_mem_cons.mpr ⟨wi_226, List.forall_mem_cons.mpr ⟨wi_227, List.forall_mem_cons.mpr ⟨wi_228, List.forall_mem_cons.mpr ⟨wi_229, List.forall_mem_cons.mpr ⟨wi_230, List.forall_mem_cons.mpr ⟨wi_231, List.forall_mem_cons.mpr ⟨wi_232, List.forall_mem_cons.mpr ⟨wi_233, List.forall_mem_cons.mpr ⟨wi_234, List.forall_mem_cons.mpr ⟨wi_235, List.forall_mem_cons.mpr ⟨wi_236, List.forall_mem_cons.mpr ⟨wi_237, List.forall_mem_cons.mpr ⟨wi_238, List.forall_mem_cons.mpr ⟨wi_239, (fun _ h => (List.not_mem_nil h).elim)⟩⟩⟩⟩⟩⟩⟩⟩⟩⟩⟩⟩⟩⟩⟩⟩⟩⟩⟩⟩⟩⟩⟩⟩
set_option maxRecDepth 20000 in
theorem wi_240 : (.code y_M_thrown b_M_thrown 1 (some .int) : Cond) ∈ lw_tbl := List.mem_of_getElem? (i := 556) rfl
set_option maxRecDepth 20000 in
theorem wi_241 : (.fieldLink R_M 45 "RealOperationsModel" "all" "I" : Cond) ∈ lw_tbl := List.mem_of_getElem? (i := 504) (by decide +kernel)
set_option maxRecDepth 20000 in
theorem wi_242 : (.code y_M_told b_M_told 1 (some .int) : Cond) ∈ lw_tbl := List.mem_of_getElem? (i := 577) rfl
set_option maxRecDepth 20000 in
theorem wi_243 : (.code y_M_clear b_M_clear 1 none : Cond) ∈ lw_tbl := List.mem_of_getElem? (i := 581) rfl
set_option maxRecDepth 20000 in
theorem wi_244 : (.fieldLink R_M 7 "RealOperationsModel" "word" "I" : Cond) ∈ lw_tbl := List.mem_of_getElem? (i := 501) (by decide +kernel)
set_option maxRecDepth 20000 in
theorem wi_245 : (.code y_M_digits b_M_digits 2 (some .int) : Cond) ∈ lw_tbl := List.mem_of_getElem? (i := 667) rfl
set_option maxRecDepth 20000 in
theorem wi_246 : (.constant R_M 38 65535 : Cond) ∈ lw_tbl := List.mem_of_getElem? (i := 561) (by decide +kernel)
set_option maxRecDepth 20000 in
theorem wi_247 : (.code y_M_control b_M_control 2 none : Cond) ∈ lw_tbl := List.mem_of_getElem? (i := 560) rfl
set_option maxRecDepth 20000 in
theorem wi_248 : (.fieldLink R_M 48 "RealOperationsModel" "told" "I" : Cond) ∈ lw_tbl := List.mem_of_getElem? (i := 512) (by decide +kernel)
set_option maxRecDepth 20000 in
theorem wi_249 : (.fieldLink R_M 51 "RealOperationsModel" "stopped" "Z" : Cond) ∈ lw_tbl := List.mem_of_getElem? (i := 513) (by decide +kernel)
set_option maxRecDepth 20000 in
theorem wi_250 : (.code y_M_tell b_M_tell 2 (some .boolean) : Cond) ∈ lw_tbl := List.mem_of_getElem? (i := 605) rfl
set_option maxRecDepth 20000 in
theorem wi_251 : (.constant R_M 55 32768 : Cond) ∈ lw_tbl := List.mem_of_getElem? (i := 590) (by decide +kernel)
set_option maxRecDepth 20000 in
theorem wi_252 : (.fieldLink R_M 56 "RealOperationsModel" "topOf" "I" : Cond) ∈ lw_tbl := List.mem_of_getElem? (i := 514) (by decide +kernel)
set_option maxRecDepth 20000 in
theorem wi_253 : (.fieldLink R_M 59 "RealOperationsModel" "fractionOf" "J" : Cond) ∈ lw_tbl := List.mem_of_getElem? (i := 515) (by decide +kernel)
set_option maxRecDepth 20000 in
theorem wi_254 : (.code y_M_answer b_M_answer 5 none : Cond) ∈ lw_tbl := List.mem_of_getElem? (i := 630) rfl
set_option maxRecDepth 20000 in
theorem wi_255 : (.fieldLink R_M 25 "RealOperationsModel" "power" "[I" : Cond) ∈ lw_tbl := List.mem_of_getElem? (i := 506) (by decide +kernel)
set_option maxRecDepth 20000 in
theorem wi_256 : (.fieldLink R_M 28 "RealOperationsModel" "part" "[J" : Cond) ∈ lw_tbl := List.mem_of_getElem? (i := 507) (by decide +kernel)
set_option maxRecDepth 20000 in
theorem wi_257 : (.code y_M_isNone b_M_isNone 2 (some .boolean) : Cond) ∈ lw_tbl := List.mem_of_getElem? (i := 594) rfl
set_option maxRecDepth 20000 in
theorem wi_258 : (.code y_M_isEndless b_M_isEndless 2 (some .boolean) : Cond) ∈ lw_tbl := List.mem_of_getElem? (i := 625) rfl
set_option maxRecDepth 20000 in
theorem wi_259 : (.code y_M_isNothing b_M_isNothing 2 (some .boolean) : Cond) ∈ lw_tbl := List.mem_of_getElem? (i := 617) rfl
set_option maxRecDepth 20000 in
theorem wi_260 : (.code y_M_isDenormal b_M_isDenormal 2 (some .boolean) : Cond) ∈ lw_tbl := List.mem_of_getElem? (i := 634) rfl
set_option maxRecDepth 20000 in
theorem wi_261 : (.code y_M_isUnnormal b_M_isUnnormal 2 (some .boolean) : Cond) ∈ lw_tbl := List.mem_of_getElem? (i := 621) rfl
set_option maxRecDepth 20000 in
theorem wi_262 : (.code y_M_unitOf b_M_unitOf 2 (some .int) : Cond) ∈ lw_tbl := List.mem_of_getElem? (i := 643) rfl
set_option maxRecDepth 20000 in
theorem wi_263 : (.initialized R_M : Cond) ∈ lw_tbl := List.mem_of_getElem? (i := 72) (by decide +kernel)
def wo_10 : List Cond := [.code y_M_thrown b_M_thrown 1 (some .int), .fieldLink R_M 45 "RealOperationsModel" "all" "I", .code y_M_told b_M_told 1 (some .int), .code y_M_clear b_M_clear 1 none, .fieldLink R_M 7 "RealOperationsModel" "word" "I", .code y_M_digits b_M_digits 2 (some .int), .constant R_M 38 65535, .code y_M_control b_M_control 2 none, .fieldLink R_M 48 "RealOperationsModel" "told" "I", .fieldLink R_M 51 "RealOperationsModel" "stopped" "Z", .code y_M_tell b_M_tell 2 (some .boolean), .constant R_M 55 32768, .fieldLink R_M 56 "RealOperationsModel" "topOf" "I", .fieldLink R_M 59 "RealOperationsModel" "fractionOf" "J", .code y_M_answer b_M_answer 5 none, .fieldLink R_M 25 "RealOperationsModel" "power" "[I", .fieldLink R_M 28 "RealOperationsModel" "part" "[J", .code y_M_isNone b_M_isNone 2 (some .boolean), .code y_M_isEndless b_M_isEndless 2 (some .boolean), .code y_M_isNothing b_M_isNothing 2 (some .boolean), .code y_M_isDenormal b_M_isDenormal 2 (some .boolean), .code y_M_isUnnormal b_M_isUnnormal 2 (some .boolean), .code y_M_unitOf b_M_unitOf 2 (some .int), .initialized R_M]
theorem wo_10_in : ∀ w ∈ wo_10, w ∈ lw_tbl := List.forall_mem_cons.mpr ⟨wi_240, List.forall_mem_cons.mpr ⟨wi_241, List.forall_mem_cons.mpr ⟨wi_242, List.forall_mem_cons.mpr ⟨wi_243, List.forall_mem_cons.mpr ⟨wi_244, List.forall_mem_cons.mpr ⟨wi_245, List.forall_mem_cons.mpr ⟨wi_246, List.forall_mem_cons.mpr ⟨wi_247, List.forall_mem_cons.mpr ⟨wi_248, List.forall_mem_cons.mpr ⟨wi_249, List.forall_mem_cons.mpr ⟨wi_250, List.forall_mem_cons.mpr ⟨wi_251, List.forall_mem_cons.mpr ⟨wi_252, List.forall_mem_cons.mpr ⟨wi_253, List.forall_mem_cons.mpr ⟨wi_254, List.forall_mem_cons.mpr ⟨wi_255, List.forall_mem_cons.mpr ⟨wi_256, List.forall_mem_cons.mpr ⟨wi_257, List.forall_mem_cons.mpr ⟨wi_258, List.forall_mem_cons.mpr ⟨wi_259, List.forall_mem_cons.mpr ⟨wi_260, List.forall_mem_cons.mpr ⟨wi_261, List.forall_mem_cons.mpr ⟨wi_262, List.forall_mem_cons.mpr ⟨wi_263, (fun _ h => (List.not_mem_nil h).elim)⟩⟩⟩⟩⟩⟩⟩⟩⟩⟩⟩⟩⟩⟩⟩⟩⟩⟩⟩⟩⟩⟩⟩⟩
set_option maxRecDepth 20000 in
theorem wi_264 : (.methodLink R_M 39 y_M_none : Cond) ∈ lw_tbl := List.mem_of_getElem? (i := 566) (by decide +kernel)
set_option maxRecDepth 20000 in
theorem wi_265 : (.static y_M_none : Cond) ∈ lw_tbl := List.mem_of_getElem? (i := 567) (by decide +kernel)
set_option maxRecDepth 20000 in
theorem wi_266 : (.fieldLink R_M 13 "RealOperationsModel" "top" "[I" : Cond) ∈ lw_tbl := List.mem_of_getElem? (i := 502) (by decide +kernel)
set_option maxRecDepth 20000 in
theorem wi_267 : (.fieldLink R_M 17 "RealOperationsModel" "fraction" "[J" : Cond) ∈ lw_tbl := List.mem_of_getElem? (i := 503) (by decide +kernel)
set_option maxRecDepth 20000 in
theorem wi_268 : (.constantLong R_M 43 4294967295 : Cond) ∈ lw_tbl := List.mem_of_getElem? (i := 569) (by decide +kernel)
set_option maxRecDepth 20000 in
theorem wi_269 : (.code y_M_set b_M_set 5 none : Cond) ∈ lw_tbl := List.mem_of_getElem? (i := 565) rfl
set_option maxRecDepth 20000 in
theorem wi_270 : (.code y_M_part b_M_part 3 (some .int) : Cond) ∈ lw_tbl := List.mem_of_getElem? (i := 573) rfl
set_option maxRecDepth 20000 in
theorem wi_271 : (.fieldLink R_M 63 "RealOperationsModel" "size" "I" : Cond) ∈ lw_tbl := List.mem_of_getElem? (i := 509) (by decide +kernel)
set_option maxRecDepth 20000 in
theorem wi_272 : (.fieldLink R_M 32 "RealOperationsModel" "row" "[Z" : Cond) ∈ lw_tbl := List.mem_of_getElem? (i := 508) (by decide +kernel)
set_option maxRecDepth 20000 in
theorem wi_273 : (.code y_M_bit b_M_bit 2 (some .boolean) : Cond) ∈ lw_tbl := List.mem_of_getElem? (i := 676) rfl
set_option maxRecDepth 20000 in
theorem wi_274 : (.code y_M_highest b_M_highest 2 (some .int) : Cond) ∈ lw_tbl := List.mem_of_getElem? (i := 659) rfl
set_option maxRecDepth 20000 in
theorem wi_275 : (.fieldLink R_M 66 "RealOperationsModel" "more" "Z" : Cond) ∈ lw_tbl := List.mem_of_getElem? (i := 511) (by decide +kernel)
set_option maxRecDepth 20000 in
theorem wi_276 : (.code y_M_rest b_M_rest 4 (some .boolean) : Cond) ∈ lw_tbl := List.mem_of_getElem? (i := 680) rfl
set_option maxRecDepth 20000 in
theorem wi_277 : (.fieldLink R_M 69 "RealOperationsModel" "unit" "I" : Cond) ∈ lw_tbl := List.mem_of_getElem? (i := 510) (by decide +kernel)
set_option maxRecDepth 20000 in
theorem wi_278 : (.constantLong R_M 72 2 : Cond) ∈ lw_tbl := List.mem_of_getElem? (i := 672) (by decide +kernel)
set_option maxRecDepth 20000 in
theorem wi_279 : (.methodLink R_M 74 y_M_bit : Cond) ∈ lw_tbl := List.mem_of_getElem? (i := 673) (by decide +kernel)
set_option maxRecDepth 20000 in
theorem wi_280 : (.instanceMethod y_M_bit : Cond) ∈ lw_tbl := List.mem_of_getElem? (i := 675) (by decide +kernel)
set_option maxRecDepth 20000 in
theorem wi_281 : (.selects R_M y_M_bit y_M_bit : Cond) ∈ lw_tbl := List.mem_of_getElem? (i := 62) (by decide +kernel)
set_option maxRecDepth 20000 in
theorem wi_282 : (.methodLink R_M 77 y_M_rest : Cond) ∈ lw_tbl := List.mem_of_getElem? (i := 677) (by decide +kernel)
set_option maxRecDepth 20000 in
theorem wi_283 : (.instanceMethod y_M_rest : Cond) ∈ lw_tbl := List.mem_of_getElem? (i := 679) (by decide +kernel)
set_option maxRecDepth 20000 in
theorem wi_284 : (.selects R_M y_M_rest y_M_rest : Cond) ∈ lw_tbl := List.mem_of_getElem? (i := 63) (by decide +kernel)
set_option maxRecDepth 20000 in
theorem wi_285 : (.fieldLink R_M 80 "RealOperationsModel" "lossy" "Z" : Cond) ∈ lw_tbl := List.mem_of_getElem? (i := 516) (by decide +kernel)
set_option maxRecDepth 20000 in
theorem wi_286 : (.code y_M_times b_M_times 10 (some .long) : Cond) ∈ lw_tbl := List.mem_of_getElem? (i := 671) rfl
set_option maxRecDepth 20000 in
theorem wi_287 : (.constantLong R_M 87 (-9223372036854775808) : Cond) ∈ lw_tbl := List.mem_of_getElem? (i := 635) (by decide +kernel)
def wo_11 : List Cond := [.methodLink R_M 39 y_M_none, .static y_M_none, .fieldLink R_M 13 "RealOperationsModel" "top" "[I", .fieldLink R_M 17 "RealOperationsModel" "fraction" "[J", .constantLong R_M 43 4294967295, .code y_M_set b_M_set 5 none, .code y_M_part b_M_part 3 (some .int), .fieldLink R_M 63 "RealOperationsModel" "size" "I", .fieldLink R_M 32 "RealOperationsModel" "row" "[Z", .code y_M_bit b_M_bit 2 (some .boolean), .code y_M_highest b_M_highest 2 (some .int), .fieldLink R_M 66 "RealOperationsModel" "more" "Z", .code y_M_rest b_M_rest 4 (some .boolean), .fieldLink R_M 69 "RealOperationsModel" "unit" "I", .constantLong R_M 72 2, .methodLink R_M 74 y_M_bit, .instanceMethod y_M_bit, .selects R_M y_M_bit y_M_bit, .methodLink R_M 77 y_M_rest, .instanceMethod y_M_rest, .selects R_M y_M_rest y_M_rest, .fieldLink R_M 80 "RealOperationsModel" "lossy" "Z", .code y_M_times b_M_times 10 (some .long), .constantLong R_M 87 (-9223372036854775808)]
theorem wo_11_in : ∀ w ∈ wo_11, w ∈ lw_tbl := List.forall_mem_cons.mpr ⟨wi_264, List.forall_mem_cons.mpr ⟨wi_265, List.forall_mem_cons.mpr ⟨wi_266, List.forall_mem_cons.mpr ⟨wi_267, List.forall_mem_cons.mpr ⟨wi_268, List.forall_mem_cons.mpr ⟨wi_269, List.forall_mem_cons.mpr ⟨wi_270, List.forall_mem_cons.mpr ⟨wi_271, List.forall_mem_cons.mpr ⟨wi_272, List.forall_mem_cons.mpr ⟨wi_273, List.forall_mem_cons.mpr ⟨wi_274, List.forall_mem_cons.mpr ⟨wi_275, List.forall_mem_cons.mpr ⟨wi_276, List.forall_mem_cons.mpr ⟨wi_277, List.forall_mem_cons.mpr ⟨wi_278, List.forall_mem_cons.mpr ⟨wi_279, List.forall_mem_cons.mpr ⟨wi_280, List.forall_mem_cons.mpr ⟨wi_281, List.forall_mem_cons.mpr ⟨wi_282, List.forall_mem_cons.mpr ⟨wi_283, List.forall_mem_cons.mpr ⟨wi_284, List.forall_mem_cons.mpr ⟨wi_285, List.forall_mem_cons.mpr ⟨wi_286, List.forall_mem_cons.mpr ⟨wi_287, (fun _ h => (List.not_mem_nil h).elim)⟩⟩⟩⟩⟩⟩⟩⟩⟩⟩⟩⟩⟩⟩⟩⟩⟩⟩⟩⟩⟩⟩⟩⟩
set_option maxRecDepth 20000 in
theorem wi_288 : (.methodLink R_M 83 y_M_answer : Cond) ∈ lw_tbl := List.mem_of_getElem? (i := 627) (by decide +kernel)
set_option maxRecDepth 20000 in
theorem wi_289 : (.instanceMethod y_M_answer : Cond) ∈ lw_tbl := List.mem_of_getElem? (i := 629) (by decide +kernel)
set_option maxRecDepth 20000 in
theorem wi_290 : (.selects R_M y_M_answer y_M_answer : Cond) ∈ lw_tbl := List.mem_of_getElem? (i := 51) (by decide +kernel)
set_option maxRecDepth 20000 in
theorem wi_291 : (.code y_M_put b_M_put 11 none : Cond) ∈ lw_tbl := List.mem_of_getElem? (i := 684) rfl
set_option maxRecDepth 20000 in
theorem wi_292 : (.methodLink R_M 89 y_M_highest : Cond) ∈ lw_tbl := List.mem_of_getElem? (i := 656) (by decide +kernel)
set_option maxRecDepth 20000 in
theorem wi_293 : (.instanceMethod y_M_highest : Cond) ∈ lw_tbl := List.mem_of_getElem? (i := 658) (by decide +kernel)
set_option maxRecDepth 20000 in
theorem wi_294 : (.selects R_M y_M_highest y_M_highest : Cond) ∈ lw_tbl := List.mem_of_getElem? (i := 58) (by decide +kernel)
set_option maxRecDepth 20000 in
theorem wi_295 : (.methodLink R_M 93 y_M_digits : Cond) ∈ lw_tbl := List.mem_of_getElem? (i := 664) (by decide +kernel)
set_option maxRecDepth 20000 in
theorem wi_296 : (.instanceMethod y_M_digits : Cond) ∈ lw_tbl := List.mem_of_getElem? (i := 666) (by decide +kernel)
set_option maxRecDepth 20000 in
theorem wi_297 : (.selects R_M y_M_digits y_M_digits : Cond) ∈ lw_tbl := List.mem_of_getElem? (i := 60) (by decide +kernel)
set_option maxRecDepth 20000 in
theorem wi_298 : (.methodLink R_M 96 y_M_times : Cond) ∈ lw_tbl := List.mem_of_getElem? (i := 668) (by decide +kernel)
set_option maxRecDepth 20000 in
theorem wi_299 : (.instanceMethod y_M_times : Cond) ∈ lw_tbl := List.mem_of_getElem? (i := 670) (by decide +kernel)
set_option maxRecDepth 20000 in
theorem wi_300 : (.selects R_M y_M_times y_M_times : Cond) ∈ lw_tbl := List.mem_of_getElem? (i := 61) (by decide +kernel)
set_option maxRecDepth 20000 in
theorem wi_301 : (.constantLong R_M 104 (-1) : Cond) ∈ lw_tbl := List.mem_of_getElem? (i := 685) (by decide +kernel)
set_option maxRecDepth 20000 in
theorem wi_302 : (.methodLink R_M 100 y_M_put : Cond) ∈ lw_tbl := List.mem_of_getElem? (i := 681) (by decide +kernel)
set_option maxRecDepth 20000 in
theorem wi_303 : (.instanceMethod y_M_put : Cond) ∈ lw_tbl := List.mem_of_getElem? (i := 683) (by decide +kernel)
set_option maxRecDepth 20000 in
theorem wi_304 : (.selects R_M y_M_put y_M_put : Cond) ∈ lw_tbl := List.mem_of_getElem? (i := 64) (by decide +kernel)
set_option maxRecDepth 20000 in
theorem wi_305 : (.code y_M_make b_M_make 13 none : Cond) ∈ lw_tbl := List.mem_of_getElem? (i := 663) rfl
set_option maxRecDepth 20000 in
theorem wi_306 : (.code y_M_empty b_M_empty 4 none : Cond) ∈ lw_tbl := List.mem_of_getElem? (i := 651) rfl
set_option maxRecDepth 20000 in
theorem wi_307 : (.code y_M_join b_M_join 9 none : Cond) ∈ lw_tbl := List.mem_of_getElem? (i := 655) rfl
set_option maxRecDepth 20000 in
theorem wi_308 : (.methodLink R_M 106 y_M_unitOf : Cond) ∈ lw_tbl := List.mem_of_getElem? (i := 640) (by decide +kernel)
set_option maxRecDepth 20000 in
theorem wi_309 : (.instanceMethod y_M_unitOf : Cond) ∈ lw_tbl := List.mem_of_getElem? (i := 642) (by decide +kernel)
set_option maxRecDepth 20000 in
theorem wi_310 : (.selects R_M y_M_unitOf y_M_unitOf : Cond) ∈ lw_tbl := List.mem_of_getElem? (i := 54) (by decide +kernel)
set_option maxRecDepth 20000 in
theorem wi_311 : (.code y_M_isLess b_M_isLess 8 (some .boolean) : Cond) ∈ lw_tbl := List.mem_of_getElem? (i := 647) rfl
def wo_12 : List Cond := [.methodLink R_M 83 y_M_answer, .instanceMethod y_M_answer, .selects R_M y_M_answer y_M_answer, .code y_M_put b_M_put 11 none, .methodLink R_M 89 y_M_highest, .instanceMethod y_M_highest, .selects R_M y_M_highest y_M_highest, .methodLink R_M 93 y_M_digits, .instanceMethod y_M_digits, .selects R_M y_M_digits y_M_digits, .methodLink R_M 96 y_M_times, .instanceMethod y_M_times, .selects R_M y_M_times y_M_times, .constantLong R_M 104 (-1), .methodLink R_M 100 y_M_put, .instanceMethod y_M_put, .selects R_M y_M_put y_M_put, .code y_M_make b_M_make 13 none, .code y_M_empty b_M_empty 4 none, .code y_M_join b_M_join 9 none, .methodLink R_M 106 y_M_unitOf, .instanceMethod y_M_unitOf, .selects R_M y_M_unitOf y_M_unitOf, .code y_M_isLess b_M_isLess 8 (some .boolean)]
theorem wo_12_in : ∀ w ∈ wo_12, w ∈ lw_tbl := List.forall_mem_cons.mpr ⟨wi_288, List.forall_mem_cons.mpr ⟨wi_289, List.forall_mem_cons.mpr ⟨wi_290, List.forall_mem_cons.mpr ⟨wi_291, List.forall_mem_cons.mpr ⟨wi_292, List.forall_mem_cons.mpr ⟨wi_293, List.forall_mem_cons.mpr ⟨wi_294, List.forall_mem_cons.mpr ⟨wi_295, List.forall_mem_cons.mpr ⟨wi_296, List.forall_mem_cons.mpr ⟨wi_297, List.forall_mem_cons.mpr ⟨wi_298, List.forall_mem_cons.mpr ⟨wi_299, List.forall_mem_cons.mpr ⟨wi_300, List.forall_mem_cons.mpr ⟨wi_301, List.forall_mem_cons.mpr ⟨wi_302, List.forall_mem_cons.mpr ⟨wi_303, List.forall_mem_cons.mpr ⟨wi_304, List.forall_mem_cons.mpr ⟨wi_305, List.forall_mem_cons.mpr ⟨wi_306, List.forall_mem_cons.mpr ⟨wi_307, List.forall_mem_cons.mpr ⟨wi_308, List.forall_mem_cons.mpr ⟨wi_309, List.forall_mem_cons.mpr ⟨wi_310, List.forall_mem_cons.mpr ⟨wi_311, (fun _ h => (List.not_mem_nil h).elim)⟩⟩⟩⟩⟩⟩⟩⟩⟩⟩⟩⟩⟩⟩⟩⟩⟩⟩⟩⟩⟩⟩⟩⟩
set_option maxRecDepth 20000 in
theorem wi_312 : (.fieldLink R_M 21 "RealOperationsModel" "minus" "[Z" : Cond) ∈ lw_tbl := List.mem_of_getElem? (i := 505) (by decide +kernel)
set_option maxRecDepth 20000 in
theorem wi_313 : (.methodLink R_M 110 y_M_isLess : Cond) ∈ lw_tbl := List.mem_of_getElem? (i := 644) (by decide +kernel)
set_option maxRecDepth 20000 in
theorem wi_314 : (.instanceMethod y_M_isLess : Cond) ∈ lw_tbl := List.mem_of_getElem? (i := 646) (by decide +kernel)
set_option maxRecDepth 20000 in
theorem wi_315 : (.selects R_M y_M_isLess y_M_isLess : Cond) ∈ lw_tbl := List.mem_of_getElem? (i := 55) (by decide +kernel)
set_option maxRecDepth 20000 in
theorem wi_316 : (.methodLink R_M 114 y_M_empty : Cond) ∈ lw_tbl := List.mem_of_getElem? (i := 648) (by decide +kernel)
set_option maxRecDepth 20000 in
theorem wi_317 : (.instanceMethod y_M_empty : Cond) ∈ lw_tbl := List.mem_of_getElem? (i := 650) (by decide +kernel)
set_option maxRecDepth 20000 in
theorem wi_318 : (.selects R_M y_M_empty y_M_empty : Cond) ∈ lw_tbl := List.mem_of_getElem? (i := 56) (by decide +kernel)
set_option maxRecDepth 20000 in
theorem wi_319 : (.methodLink R_M 118 y_M_join : Cond) ∈ lw_tbl := List.mem_of_getElem? (i := 652) (by decide +kernel)
set_option maxRecDepth 20000 in
theorem wi_320 : (.instanceMethod y_M_join : Cond) ∈ lw_tbl := List.mem_of_getElem? (i := 654) (by decide +kernel)
set_option maxRecDepth 20000 in
theorem wi_321 : (.selects R_M y_M_join y_M_join : Cond) ∈ lw_tbl := List.mem_of_getElem? (i := 57) (by decide +kernel)
set_option maxRecDepth 20000 in
theorem wi_322 : (.methodLink R_M 126 y_M_isNothing : Cond) ∈ lw_tbl := List.mem_of_getElem? (i := 614) (by decide +kernel)
set_option maxRecDepth 20000 in
theorem wi_323 : (.instanceMethod y_M_isNothing : Cond) ∈ lw_tbl := List.mem_of_getElem? (i := 616) (by decide +kernel)
set_option maxRecDepth 20000 in
theorem wi_324 : (.selects R_M y_M_isNothing y_M_isNothing : Cond) ∈ lw_tbl := List.mem_of_getElem? (i := 48) (by decide +kernel)
set_option maxRecDepth 20000 in
theorem wi_325 : (.methodLink R_M 122 y_M_make : Cond) ∈ lw_tbl := List.mem_of_getElem? (i := 660) (by decide +kernel)
set_option maxRecDepth 20000 in
theorem wi_326 : (.instanceMethod y_M_make : Cond) ∈ lw_tbl := List.mem_of_getElem? (i := 662) (by decide +kernel)
set_option maxRecDepth 20000 in
theorem wi_327 : (.selects R_M y_M_make y_M_make : Cond) ∈ lw_tbl := List.mem_of_getElem? (i := 59) (by decide +kernel)
set_option maxRecDepth 20000 in
theorem wi_328 : (.code y_M_sum b_M_sum 6 none : Cond) ∈ lw_tbl := List.mem_of_getElem? (i := 639) rfl
set_option maxRecDepth 20000 in
theorem wi_329 : (.code y_M_product b_M_product 3 none : Cond) ∈ lw_tbl := List.mem_of_getElem? (i := 689) rfl
set_option maxRecDepth 20000 in
theorem wi_330 : (.methodLink R_M 129 y_M_below : Cond) ∈ lw_tbl := List.mem_of_getElem? (i := 599) (by decide +kernel)
set_option maxRecDepth 20000 in
theorem wi_331 : (.static y_M_below : Cond) ∈ lw_tbl := List.mem_of_getElem? (i := 600) (by decide +kernel)
set_option maxRecDepth 20000 in
theorem wi_332 : (.code y_M_quotient b_M_quotient 7 none : Cond) ∈ lw_tbl := List.mem_of_getElem? (i := 693) rfl
set_option maxRecDepth 20000 in
theorem wi_333 : (.code y_M_root b_M_root 19 none : Cond) ∈ lw_tbl := List.mem_of_getElem? (i := 697) rfl
set_option maxRecDepth 20000 in
theorem wi_334 : (.code y_M_take b_M_take 3 none : Cond) ∈ lw_tbl := List.mem_of_getElem? (i := 589) rfl
set_option maxRecDepth 20000 in
theorem wi_335 : (.methodLink R_M 133 y_M_isNone : Cond) ∈ lw_tbl := List.mem_of_getElem? (i := 591) (by decide +kernel)
def wo_13 : List Cond := [.fieldLink R_M 21 "RealOperationsModel" "minus" "[Z", .methodLink R_M 110 y_M_isLess, .instanceMethod y_M_isLess, .selects R_M y_M_isLess y_M_isLess, .methodLink R_M 114 y_M_empty, .instanceMethod y_M_empty, .selects R_M y_M_empty y_M_empty, .methodLink R_M 118 y_M_join, .instanceMethod y_M_join, .selects R_M y_M_join y_M_join, .methodLink R_M 126 y_M_isNothing, .instanceMethod y_M_isNothing, .selects R_M y_M_isNothing y_M_isNothing, .methodLink R_M 122 y_M_make, .instanceMethod y_M_make, .selects R_M y_M_make y_M_make, .code y_M_sum b_M_sum 6 none, .code y_M_product b_M_product 3 none, .methodLink R_M 129 y_M_below, .static y_M_below, .code y_M_quotient b_M_quotient 7 none, .code y_M_root b_M_root 19 none, .code y_M_take b_M_take 3 none, .methodLink R_M 133 y_M_isNone]
theorem wo_13_in : ∀ w ∈ wo_13, w ∈ lw_tbl := List.forall_mem_cons.mpr ⟨wi_312, List.forall_mem_cons.mpr ⟨wi_313, List.forall_mem_cons.mpr ⟨wi_314, List.forall_mem_cons.mpr ⟨wi_315, List.forall_mem_cons.mpr ⟨wi_316, List.forall_mem_cons.mpr ⟨wi_317, List.forall_mem_cons.mpr ⟨wi_318, List.forall_mem_cons.mpr ⟨wi_319, List.forall_mem_cons.mpr ⟨wi_320, List.forall_mem_cons.mpr ⟨wi_321, List.forall_mem_cons.mpr ⟨wi_322, List.forall_mem_cons.mpr ⟨wi_323, List.forall_mem_cons.mpr ⟨wi_324, List.forall_mem_cons.mpr ⟨wi_325, List.forall_mem_cons.mpr ⟨wi_326, List.forall_mem_cons.mpr ⟨wi_327, List.forall_mem_cons.mpr ⟨wi_328, List.forall_mem_cons.mpr ⟨wi_329, List.forall_mem_cons.mpr ⟨wi_330, List.forall_mem_cons.mpr ⟨wi_331, List.forall_mem_cons.mpr ⟨wi_332, List.forall_mem_cons.mpr ⟨wi_333, List.forall_mem_cons.mpr ⟨wi_334, List.forall_mem_cons.mpr ⟨wi_335, (fun _ h => (List.not_mem_nil h).elim)⟩⟩⟩⟩⟩⟩⟩⟩⟩⟩⟩⟩⟩⟩⟩⟩⟩⟩⟩⟩⟩⟩⟩⟩
set_option maxRecDepth 20000 in
theorem wi_336 : (.instanceMethod y_M_isNone : Cond) ∈ lw_tbl := List.mem_of_getElem? (i := 593) (by decide +kernel)
set_option maxRecDepth 20000 in
theorem wi_337 : (.selects R_M y_M_isNone y_M_isNone : Cond) ∈ lw_tbl := List.mem_of_getElem? (i := 43) (by decide +kernel)
set_option maxRecDepth 20000 in
theorem wi_338 : (.methodLink R_M 136 y_M_tell : Cond) ∈ lw_tbl := List.mem_of_getElem? (i := 602) (by decide +kernel)
set_option maxRecDepth 20000 in
theorem wi_339 : (.instanceMethod y_M_tell : Cond) ∈ lw_tbl := List.mem_of_getElem? (i := 604) (by decide +kernel)
set_option maxRecDepth 20000 in
theorem wi_340 : (.selects R_M y_M_tell y_M_tell : Cond) ∈ lw_tbl := List.mem_of_getElem? (i := 45) (by decide +kernel)
set_option maxRecDepth 20000 in
theorem wi_341 : (.code y_M_noNumber b_M_noNumber 5 none : Cond) ∈ lw_tbl := List.mem_of_getElem? (i := 598) rfl
set_option maxRecDepth 20000 in
theorem wi_342 : (.methodLink R_M 142 y_M_isEndless : Cond) ∈ lw_tbl := List.mem_of_getElem? (i := 622) (by decide +kernel)
set_option maxRecDepth 20000 in
theorem wi_343 : (.instanceMethod y_M_isEndless : Cond) ∈ lw_tbl := List.mem_of_getElem? (i := 624) (by decide +kernel)
set_option maxRecDepth 20000 in
theorem wi_344 : (.selects R_M y_M_isEndless y_M_isEndless : Cond) ∈ lw_tbl := List.mem_of_getElem? (i := 50) (by decide +kernel)
set_option maxRecDepth 20000 in
theorem wi_345 : (.methodLink R_M 139 y_M_isUnnormal : Cond) ∈ lw_tbl := List.mem_of_getElem? (i := 618) (by decide +kernel)
set_option maxRecDepth 20000 in
theorem wi_346 : (.instanceMethod y_M_isUnnormal : Cond) ∈ lw_tbl := List.mem_of_getElem? (i := 620) (by decide +kernel)
set_option maxRecDepth 20000 in
theorem wi_347 : (.selects R_M y_M_isUnnormal y_M_isUnnormal : Cond) ∈ lw_tbl := List.mem_of_getElem? (i := 49) (by decide +kernel)
set_option maxRecDepth 20000 in
theorem wi_348 : (.code y_M_isWrong b_M_isWrong 3 (some .boolean) : Cond) ∈ lw_tbl := List.mem_of_getElem? (i := 613) rfl
set_option maxRecDepth 20000 in
theorem wi_349 : (.methodLink R_M 145 y_M_isWrong : Cond) ∈ lw_tbl := List.mem_of_getElem? (i := 610) (by decide +kernel)
set_option maxRecDepth 20000 in
theorem wi_350 : (.instanceMethod y_M_isWrong : Cond) ∈ lw_tbl := List.mem_of_getElem? (i := 612) (by decide +kernel)
set_option maxRecDepth 20000 in
theorem wi_351 : (.selects R_M y_M_isWrong y_M_isWrong : Cond) ∈ lw_tbl := List.mem_of_getElem? (i := 47) (by decide +kernel)
set_option maxRecDepth 20000 in
theorem wi_352 : (.methodLink R_M 150 y_M_isDenormal : Cond) ∈ lw_tbl := List.mem_of_getElem? (i := 631) (by decide +kernel)
set_option maxRecDepth 20000 in
theorem wi_353 : (.instanceMethod y_M_isDenormal : Cond) ∈ lw_tbl := List.mem_of_getElem? (i := 633) (by decide +kernel)
set_option maxRecDepth 20000 in
theorem wi_354 : (.selects R_M y_M_isDenormal y_M_isDenormal : Cond) ∈ lw_tbl := List.mem_of_getElem? (i := 52) (by decide +kernel)
set_option maxRecDepth 20000 in
theorem wi_355 : (.methodLink R_M 162 y_M_root : Cond) ∈ lw_tbl := List.mem_of_getElem? (i := 694) (by decide +kernel)
set_option maxRecDepth 20000 in
theorem wi_356 : (.instanceMethod y_M_root : Cond) ∈ lw_tbl := List.mem_of_getElem? (i := 696) (by decide +kernel)
set_option maxRecDepth 20000 in
theorem wi_357 : (.selects R_M y_M_root y_M_root : Cond) ∈ lw_tbl := List.mem_of_getElem? (i := 67) (by decide +kernel)
set_option maxRecDepth 20000 in
theorem wi_358 : (.methodLink R_M 159 y_M_quotient : Cond) ∈ lw_tbl := List.mem_of_getElem? (i := 690) (by decide +kernel)
set_option maxRecDepth 20000 in
theorem wi_359 : (.instanceMethod y_M_quotient : Cond) ∈ lw_tbl := List.mem_of_getElem? (i := 692) (by decide +kernel)
def wo_14 : List Cond := [.instanceMethod y_M_isNone, .selects R_M y_M_isNone y_M_isNone, .methodLink R_M 136 y_M_tell, .instanceMethod y_M_tell, .selects R_M y_M_tell y_M_tell, .code y_M_noNumber b_M_noNumber 5 none, .methodLink R_M 142 y_M_isEndless, .instanceMethod y_M_isEndless, .selects R_M y_M_isEndless y_M_isEndless, .methodLink R_M 139 y_M_isUnnormal, .instanceMethod y_M_isUnnormal, .selects R_M y_M_isUnnormal y_M_isUnnormal, .code y_M_isWrong b_M_isWrong 3 (some .boolean), .methodLink R_M 145 y_M_isWrong, .instanceMethod y_M_isWrong, .selects R_M y_M_isWrong y_M_isWrong, .methodLink R_M 150 y_M_isDenormal, .instanceMethod y_M_isDenormal, .selects R_M y_M_isDenormal y_M_isDenormal, .methodLink R_M 162 y_M_root, .instanceMethod y_M_root, .selects R_M y_M_root y_M_root, .methodLink R_M 159 y_M_quotient, .instanceMethod y_M_quotient]
theorem wo_14_in : ∀ w ∈ wo_14, w ∈ lw_tbl := List.forall_mem_cons.mpr ⟨wi_336, List.forall_mem_cons.mpr ⟨wi_337, List.forall_mem_cons.mpr ⟨wi_338, List.forall_mem_cons.mpr ⟨wi_339, List.forall_mem_cons.mpr ⟨wi_340, List.forall_mem_cons.mpr ⟨wi_341, List.forall_mem_cons.mpr ⟨wi_342, List.forall_mem_cons.mpr ⟨wi_343, List.forall_mem_cons.mpr ⟨wi_344, List.forall_mem_cons.mpr ⟨wi_345, List.forall_mem_cons.mpr ⟨wi_346, List.forall_mem_cons.mpr ⟨wi_347, List.forall_mem_cons.mpr ⟨wi_348, List.forall_mem_cons.mpr ⟨wi_349, List.forall_mem_cons.mpr ⟨wi_350, List.forall_mem_cons.mpr ⟨wi_351, List.forall_mem_cons.mpr ⟨wi_352, List.forall_mem_cons.mpr ⟨wi_353, List.forall_mem_cons.mpr ⟨wi_354, List.forall_mem_cons.mpr ⟨wi_355, List.forall_mem_cons.mpr ⟨wi_356, List.forall_mem_cons.mpr ⟨wi_357, List.forall_mem_cons.mpr ⟨wi_358, List.forall_mem_cons.mpr ⟨wi_359, (fun _ h => (List.not_mem_nil h).elim)⟩⟩⟩⟩⟩⟩⟩⟩⟩⟩⟩⟩⟩⟩⟩⟩⟩⟩⟩⟩⟩⟩⟩⟩
set_option maxRecDepth 20000 in
theorem wi_360 : (.selects R_M y_M_quotient y_M_quotient : Cond) ∈ lw_tbl := List.mem_of_getElem? (i := 66) (by decide +kernel)
set_option maxRecDepth 20000 in
theorem wi_361 : (.methodLink R_M 156 y_M_product : Cond) ∈ lw_tbl := List.mem_of_getElem? (i := 686) (by decide +kernel)
set_option maxRecDepth 20000 in
theorem wi_362 : (.instanceMethod y_M_product : Cond) ∈ lw_tbl := List.mem_of_getElem? (i := 688) (by decide +kernel)
set_option maxRecDepth 20000 in
theorem wi_363 : (.selects R_M y_M_product y_M_product : Cond) ∈ lw_tbl := List.mem_of_getElem? (i := 65) (by decide +kernel)
set_option maxRecDepth 20000 in
theorem wi_364 : (.methodLink R_M 153 y_M_sum : Cond) ∈ lw_tbl := List.mem_of_getElem? (i := 636) (by decide +kernel)
set_option maxRecDepth 20000 in
theorem wi_365 : (.instanceMethod y_M_sum : Cond) ∈ lw_tbl := List.mem_of_getElem? (i := 638) (by decide +kernel)
set_option maxRecDepth 20000 in
theorem wi_366 : (.selects R_M y_M_sum y_M_sum : Cond) ∈ lw_tbl := List.mem_of_getElem? (i := 53) (by decide +kernel)
set_option maxRecDepth 20000 in
theorem wi_367 : (.constantLong R_M 148 (-4611686018427387904) : Cond) ∈ lw_tbl := List.mem_of_getElem? (i := 626) (by decide +kernel)
set_option maxRecDepth 20000 in
theorem wi_368 : (.code y_M_work b_M_work 5 none : Cond) ∈ lw_tbl := List.mem_of_getElem? (i := 609) rfl
set_option maxRecDepth 20000 in
theorem wi_369 : (.methodLink R_M 165 y_M_take : Cond) ∈ lw_tbl := List.mem_of_getElem? (i := 586) (by decide +kernel)
set_option maxRecDepth 20000 in
theorem wi_370 : (.instanceMethod y_M_take : Cond) ∈ lw_tbl := List.mem_of_getElem? (i := 588) (by decide +kernel)
set_option maxRecDepth 20000 in
theorem wi_371 : (.selects R_M y_M_take y_M_take : Cond) ∈ lw_tbl := List.mem_of_getElem? (i := 42) (by decide +kernel)
set_option maxRecDepth 20000 in
theorem wi_372 : (.methodLink R_M 168 y_M_noNumber : Cond) ∈ lw_tbl := List.mem_of_getElem? (i := 595) (by decide +kernel)
set_option maxRecDepth 20000 in
theorem wi_373 : (.instanceMethod y_M_noNumber : Cond) ∈ lw_tbl := List.mem_of_getElem? (i := 597) (by decide +kernel)
set_option maxRecDepth 20000 in
theorem wi_374 : (.selects R_M y_M_noNumber y_M_noNumber : Cond) ∈ lw_tbl := List.mem_of_getElem? (i := 44) (by decide +kernel)
set_option maxRecDepth 20000 in
theorem wi_375 : (.methodLink R_M 172 y_M_work : Cond) ∈ lw_tbl := List.mem_of_getElem? (i := 606) (by decide +kernel)
set_option maxRecDepth 20000 in
theorem wi_376 : (.instanceMethod y_M_work : Cond) ∈ lw_tbl := List.mem_of_getElem? (i := 608) (by decide +kernel)
set_option maxRecDepth 20000 in
theorem wi_377 : (.selects R_M y_M_work y_M_work : Cond) ∈ lw_tbl := List.mem_of_getElem? (i := 46) (by decide +kernel)
set_option maxRecDepth 20000 in
theorem wi_378 : (.code y_M_operate b_M_operate 7 (some .int) : Cond) ∈ lw_tbl := List.mem_of_getElem? (i := 585) rfl
set_option maxRecDepth 20000 in
theorem wi_379 : (.methodLink R_M 1 objectInit : Cond) ∈ lw_tbl := List.mem_of_getElem? (i := 498) (by decide +kernel)
set_option maxRecDepth 20000 in
theorem wi_380 : (.arrayClass .boolean : Cond) ∈ lw_tbl := List.mem_of_getElem? (i := 552) (by decide +kernel)
set_option maxRecDepth 20000 in
theorem wi_381 : (.constant R_M 31 33000 : Cond) ∈ lw_tbl := List.mem_of_getElem? (i := 499) (by decide +kernel)
set_option maxRecDepth 20000 in
theorem wi_382 : (.code y_M_init b_M_init 1 none : Cond) ∈ lw_tbl := List.mem_of_getElem? (i := 497) rfl
set_option maxRecDepth 20000 in
theorem wi_383 : (.methodLink R_L 7 y_O_control : Cond) ∈ lw_tbl := List.mem_of_getElem? (i := 169) (by decide +kernel)
def wo_15 : List Cond := [.selects R_M y_M_quotient y_M_quotient, .methodLink R_M 156 y_M_product, .instanceMethod y_M_product, .selects R_M y_M_product y_M_product, .methodLink R_M 153 y_M_sum, .instanceMethod y_M_sum, .selects R_M y_M_sum y_M_sum, .constantLong R_M 148 (-4611686018427387904), .code y_M_work b_M_work 5 none, .methodLink R_M 165 y_M_take, .instanceMethod y_M_take, .selects R_M y_M_take y_M_take, .methodLink R_M 168 y_M_noNumber, .instanceMethod y_M_noNumber, .selects R_M y_M_noNumber y_M_noNumber, .methodLink R_M 172 y_M_work, .instanceMethod y_M_work, .selects R_M y_M_work y_M_work, .code y_M_operate b_M_operate 7 (some .int), .methodLink R_M 1 objectInit, .arrayClass .boolean, .constant R_M 31 33000, .code y_M_init b_M_init 1 none, .methodLink R_L 7 y_O_control]
theorem wo_15_in : ∀ w ∈ wo_15, w ∈ lw_tbl := List.forall_mem_cons.mpr ⟨wi_360, List.forall_mem_cons.mpr ⟨wi_361, List.forall_mem_cons.mpr ⟨wi_362, List.forall_mem_cons.mpr ⟨wi_363, List.forall_mem_cons.mpr ⟨wi_364, List.forall_mem_cons.mpr ⟨wi_365, List.forall_mem_cons.mpr ⟨wi_366, List.forall_mem_cons.mpr ⟨wi_367, List.forall_mem_cons.mpr ⟨wi_368, List.forall_mem_cons.mpr ⟨wi_369, List.forall_mem_cons.mpr ⟨wi_370, List.forall_mem_cons.mpr ⟨wi_371, List.forall_mem_cons.mpr ⟨wi_372, List.forall_mem_cons.mpr ⟨wi_373, List.forall_mem_cons.mpr ⟨wi_374, List.forall_mem_cons.mpr ⟨wi_375, List.forall_mem_cons.mpr ⟨wi_376, List.forall_mem_cons.mpr ⟨wi_377, List.forall_mem_cons.mpr ⟨wi_378, List.forall_mem_cons.mpr ⟨wi_379, List.forall_mem_cons.mpr ⟨wi_380, List.forall_mem_cons.mpr ⟨wi_381, List.forall_mem_cons.mpr ⟨wi_382, List.forall_mem_cons.mpr ⟨wi_383, (fun _ h => (List.not_mem_nil h).elim)⟩⟩⟩⟩⟩⟩⟩⟩⟩⟩⟩⟩⟩⟩⟩⟩⟩⟩⟩⟩⟩⟩⟩⟩
set_option maxRecDepth 20000 in
theorem wi_384 : (.instanceMethod y_O_control : Cond) ∈ lw_tbl := List.mem_of_getElem? (i := 170) (by decide +kernel)
set_option maxRecDepth 20000 in
theorem wi_385 : (.selects R_O y_O_control y_O_control : Cond) ∈ lw_tbl := List.mem_of_getElem? (i := 171) (by decide +kernel)
set_option maxRecDepth 20000 in
theorem wi_386 : (.classLink R_L 13 "java/lang/IllegalArgumentException" : Cond) ∈ lw_tbl := List.mem_of_getElem? (i := 168) (by decide +kernel)
set_option maxRecDepth 20000 in
theorem wi_387 : (.codeWith y_L_control b_L_control 3 (some .int) [(0, 5, 8, 13)] : Cond) ∈ lw_tbl := List.mem_of_getElem? (i := 167) rfl
set_option maxRecDepth 20000 in
theorem wi_388 : (.methodLink R_L 15 y_O_set : Cond) ∈ lw_tbl := List.mem_of_getElem? (i := 248) (by decide +kernel)
set_option maxRecDepth 20000 in
theorem wi_389 : (.instanceMethod y_O_set : Cond) ∈ lw_tbl := List.mem_of_getElem? (i := 249) (by decide +kernel)
set_option maxRecDepth 20000 in
theorem wi_390 : (.selects R_O y_O_set y_O_set : Cond) ∈ lw_tbl := List.mem_of_getElem? (i := 250) (by decide +kernel)
set_option maxRecDepth 20000 in
theorem wi_391 : (.classLink R_L 19 "java/lang/IndexOutOfBoundsException" : Cond) ∈ lw_tbl := List.mem_of_getElem? (i := 247) (by decide +kernel)
set_option maxRecDepth 20000 in
theorem wi_392 : (.codeWith y_L_set b_L_set 6 (some .int) [(0, 9, 12, 19), (0, 9, 16, 13)] : Cond) ∈ lw_tbl := List.mem_of_getElem? (i := 246) rfl
set_option maxRecDepth 20000 in
theorem wi_393 : (.methodLink R_L 21 y_O_part : Cond) ∈ lw_tbl := List.mem_of_getElem? (i := 276) (by decide +kernel)
set_option maxRecDepth 20000 in
theorem wi_394 : (.instanceMethod y_O_part : Cond) ∈ lw_tbl := List.mem_of_getElem? (i := 277) (by decide +kernel)
set_option maxRecDepth 20000 in
theorem wi_395 : (.selects R_O y_O_part y_O_part : Cond) ∈ lw_tbl := List.mem_of_getElem? (i := 278) (by decide +kernel)
set_option maxRecDepth 20000 in
theorem wi_396 : (.codeWith y_L_part b_L_part 5 (some .int) [(0, 10, 13, 19), (0, 10, 17, 13)] : Cond) ∈ lw_tbl := List.mem_of_getElem? (i := 275) rfl
set_option maxRecDepth 20000 in
theorem wi_397 : (.methodLink R_L 25 y_O_operate : Cond) ∈ lw_tbl := List.mem_of_getElem? (i := 284) (by decide +kernel)
set_option maxRecDepth 20000 in
theorem wi_398 : (.instanceMethod y_O_operate : Cond) ∈ lw_tbl := List.mem_of_getElem? (i := 285) (by decide +kernel)
set_option maxRecDepth 20000 in
theorem wi_399 : (.selects R_O y_O_operate y_O_operate : Cond) ∈ lw_tbl := List.mem_of_getElem? (i := 286) (by decide +kernel)
set_option maxRecDepth 20000 in
theorem wi_400 : (.codeWith y_L_operate b_L_operate 7 (some .int) [(0, 14, 17, 19), (0, 14, 21, 13)] : Cond) ∈ lw_tbl := List.mem_of_getElem? (i := 283) rfl
set_option maxRecDepth 20000 in
theorem wi_401 : (.initialized R_L : Cond) ∈ lw_tbl := List.mem_of_getElem? (i := 68) (by decide +kernel)
set_option maxRecDepth 20000 in
theorem wi_402 : (.methodLink R_L 33 y_L_control : Cond) ∈ lw_tbl := List.mem_of_getElem? (i := 165) (by decide +kernel)
set_option maxRecDepth 20000 in
theorem wi_403 : (.static y_L_control : Cond) ∈ lw_tbl := List.mem_of_getElem? (i := 166) (by decide +kernel)
set_option maxRecDepth 20000 in
theorem wi_404 : (.methodLink R_L 38 y_M_control : Cond) ∈ lw_tbl := List.mem_of_getElem? (i := 557) (by decide +kernel)
set_option maxRecDepth 20000 in
theorem wi_405 : (.instanceMethod y_M_control : Cond) ∈ lw_tbl := List.mem_of_getElem? (i := 558) (by decide +kernel)
set_option maxRecDepth 20000 in
theorem wi_406 : (.selects R_M y_M_control y_M_control : Cond) ∈ lw_tbl := List.mem_of_getElem? (i := 559) (by decide +kernel)
set_option maxRecDepth 20000 in
theorem wi_407 : (.methodLink R_L 39 y_M_thrown : Cond) ∈ lw_tbl := List.mem_of_getElem? (i := 553) (by decide +kernel)
def wo_16 : List Cond := [.instanceMethod y_O_control, .selects R_O y_O_control y_O_control, .classLink R_L 13 "java/lang/IllegalArgumentException", .codeWith y_L_control b_L_control 3 (some .int) [(0, 5, 8, 13)], .methodLink R_L 15 y_O_set, .instanceMethod y_O_set, .selects R_O y_O_set y_O_set, .classLink R_L 19 "java/lang/IndexOutOfBoundsException", .codeWith y_L_set b_L_set 6 (some .int) [(0, 9, 12, 19), (0, 9, 16, 13)], .methodLink R_L 21 y_O_part, .instanceMethod y_O_part, .selects R_O y_O_part y_O_part, .codeWith y_L_part b_L_part 5 (some .int) [(0, 10, 13, 19), (0, 10, 17, 13)], .methodLink R_L 25 y_O_operate, .instanceMethod y_O_operate, .selects R_O y_O_operate y_O_operate, .codeWith y_L_operate b_L_operate 7 (some .int) [(0, 14, 17, 19), (0, 14, 21, 13)], .initialized R_L, .methodLink R_L 33 y_L_control, .static y_L_control, .methodLink R_L 38 y_M_control, .instanceMethod y_M_control, .selects R_M y_M_control y_M_control, .methodLink R_L 39 y_M_thrown]
theorem wo_16_in : ∀ w ∈ wo_16, w ∈ lw_tbl := List.forall_mem_cons.mpr ⟨wi_384, List.forall_mem_cons.mpr ⟨wi_385, List.forall_mem_cons.mpr ⟨wi_386, List.forall_mem_cons.mpr ⟨wi_387, List.forall_mem_cons.mpr ⟨wi_388, List.forall_mem_cons.mpr ⟨wi_389, List.forall_mem_cons.mpr ⟨wi_390, List.forall_mem_cons.mpr ⟨wi_391, List.forall_mem_cons.mpr ⟨wi_392, List.forall_mem_cons.mpr ⟨wi_393, List.forall_mem_cons.mpr ⟨wi_394, List.forall_mem_cons.mpr ⟨wi_395, List.forall_mem_cons.mpr ⟨wi_396, List.forall_mem_cons.mpr ⟨wi_397, List.forall_mem_cons.mpr ⟨wi_398, List.forall_mem_cons.mpr ⟨wi_399, List.forall_mem_cons.mpr ⟨wi_400, List.forall_mem_cons.mpr ⟨wi_401, List.forall_mem_cons.mpr ⟨wi_402, List.forall_mem_cons.mpr ⟨wi_403, List.forall_mem_cons.mpr ⟨wi_404, List.forall_mem_cons.mpr ⟨wi_405, List.forall_mem_cons.mpr ⟨wi_406, List.forall_mem_cons.mpr ⟨wi_407, (fun _ h => (List.not_mem_nil h).elim)⟩⟩⟩⟩⟩⟩⟩⟩⟩⟩⟩⟩⟩⟩⟩⟩⟩⟩⟩⟩⟩⟩⟩⟩
set_option maxRecDepth 20000 in
theorem wi_408 : (.instanceMethod y_M_thrown : Cond) ∈ lw_tbl := List.mem_of_getElem? (i := 554) (by decide +kernel)
set_option maxRecDepth 20000 in
theorem wi_409 : (.selects R_M y_M_thrown y_M_thrown : Cond) ∈ lw_tbl := List.mem_of_getElem? (i := 555) (by decide +kernel)
set_option maxRecDepth 20000 in
theorem wi_410 : (.methodLink R_L 43 y_L_set : Cond) ∈ lw_tbl := List.mem_of_getElem? (i := 244) (by decide +kernel)
set_option maxRecDepth 20000 in
theorem wi_411 : (.static y_L_set : Cond) ∈ lw_tbl := List.mem_of_getElem? (i := 245) (by decide +kernel)
set_option maxRecDepth 20000 in
theorem wi_412 : (.methodLink R_L 46 y_M_set : Cond) ∈ lw_tbl := List.mem_of_getElem? (i := 562) (by decide +kernel)
set_option maxRecDepth 20000 in
theorem wi_413 : (.instanceMethod y_M_set : Cond) ∈ lw_tbl := List.mem_of_getElem? (i := 563) (by decide +kernel)
set_option maxRecDepth 20000 in
theorem wi_414 : (.selects R_M y_M_set y_M_set : Cond) ∈ lw_tbl := List.mem_of_getElem? (i := 564) (by decide +kernel)
set_option maxRecDepth 20000 in
theorem wi_415 : (.methodLink R_L 47 y_L_part : Cond) ∈ lw_tbl := List.mem_of_getElem? (i := 273) (by decide +kernel)
set_option maxRecDepth 20000 in
theorem wi_416 : (.static y_L_part : Cond) ∈ lw_tbl := List.mem_of_getElem? (i := 274) (by decide +kernel)
set_option maxRecDepth 20000 in
theorem wi_417 : (.methodLink R_L 50 y_M_part : Cond) ∈ lw_tbl := List.mem_of_getElem? (i := 570) (by decide +kernel)
set_option maxRecDepth 20000 in
theorem wi_418 : (.instanceMethod y_M_part : Cond) ∈ lw_tbl := List.mem_of_getElem? (i := 571) (by decide +kernel)
set_option maxRecDepth 20000 in
theorem wi_419 : (.selects R_M y_M_part y_M_part : Cond) ∈ lw_tbl := List.mem_of_getElem? (i := 572) (by decide +kernel)
set_option maxRecDepth 20000 in
theorem wi_420 : (.methodLink R_L 51 y_L_operate : Cond) ∈ lw_tbl := List.mem_of_getElem? (i := 281) (by decide +kernel)
set_option maxRecDepth 20000 in
theorem wi_421 : (.static y_L_operate : Cond) ∈ lw_tbl := List.mem_of_getElem? (i := 282) (by decide +kernel)
set_option maxRecDepth 20000 in
theorem wi_422 : (.methodLink R_L 54 y_M_operate : Cond) ∈ lw_tbl := List.mem_of_getElem? (i := 582) (by decide +kernel)
set_option maxRecDepth 20000 in
theorem wi_423 : (.instanceMethod y_M_operate : Cond) ∈ lw_tbl := List.mem_of_getElem? (i := 583) (by decide +kernel)
set_option maxRecDepth 20000 in
theorem wi_424 : (.selects R_M y_M_operate y_M_operate : Cond) ∈ lw_tbl := List.mem_of_getElem? (i := 584) (by decide +kernel)
set_option maxRecDepth 20000 in
theorem wi_425 : (.methodLink R_L 55 y_O_told : Cond) ∈ lw_tbl := List.mem_of_getElem? (i := 157) (by decide +kernel)
set_option maxRecDepth 20000 in
theorem wi_426 : (.instanceMethod y_O_told : Cond) ∈ lw_tbl := List.mem_of_getElem? (i := 158) (by decide +kernel)
set_option maxRecDepth 20000 in
theorem wi_427 : (.selects R_O y_O_told y_O_told : Cond) ∈ lw_tbl := List.mem_of_getElem? (i := 159) (by decide +kernel)
set_option maxRecDepth 20000 in
theorem wi_428 : (.methodLink R_L 58 y_M_told : Cond) ∈ lw_tbl := List.mem_of_getElem? (i := 574) (by decide +kernel)
set_option maxRecDepth 20000 in
theorem wi_429 : (.instanceMethod y_M_told : Cond) ∈ lw_tbl := List.mem_of_getElem? (i := 575) (by decide +kernel)
set_option maxRecDepth 20000 in
theorem wi_430 : (.selects R_M y_M_told y_M_told : Cond) ∈ lw_tbl := List.mem_of_getElem? (i := 576) (by decide +kernel)
set_option maxRecDepth 20000 in
theorem wi_431 : (.methodLink R_L 59 y_O_clear : Cond) ∈ lw_tbl := List.mem_of_getElem? (i := 161) (by decide +kernel)
def wo_17 : List Cond := [.instanceMethod y_M_thrown, .selects R_M y_M_thrown y_M_thrown, .methodLink R_L 43 y_L_set, .static y_L_set, .methodLink R_L 46 y_M_set, .instanceMethod y_M_set, .selects R_M y_M_set y_M_set, .methodLink R_L 47 y_L_part, .static y_L_part, .methodLink R_L 50 y_M_part, .instanceMethod y_M_part, .selects R_M y_M_part y_M_part, .methodLink R_L 51 y_L_operate, .static y_L_operate, .methodLink R_L 54 y_M_operate, .instanceMethod y_M_operate, .selects R_M y_M_operate y_M_operate, .methodLink R_L 55 y_O_told, .instanceMethod y_O_told, .selects R_O y_O_told y_O_told, .methodLink R_L 58 y_M_told, .instanceMethod y_M_told, .selects R_M y_M_told y_M_told, .methodLink R_L 59 y_O_clear]
theorem wo_17_in : ∀ w ∈ wo_17, w ∈ lw_tbl := List.forall_mem_cons.mpr ⟨wi_408, List.forall_mem_cons.mpr ⟨wi_409, List.forall_mem_cons.mpr ⟨wi_410, List.forall_mem_cons.mpr ⟨wi_411, List.forall_mem_cons.mpr ⟨wi_412, List.forall_mem_cons.mpr ⟨wi_413, List.forall_mem_cons.mpr ⟨wi_414, List.forall_mem_cons.mpr ⟨wi_415, List.forall_mem_cons.mpr ⟨wi_416, List.forall_mem_cons.mpr ⟨wi_417, List.forall_mem_cons.mpr ⟨wi_418, List.forall_mem_cons.mpr ⟨wi_419, List.forall_mem_cons.mpr ⟨wi_420, List.forall_mem_cons.mpr ⟨wi_421, List.forall_mem_cons.mpr ⟨wi_422, List.forall_mem_cons.mpr ⟨wi_423, List.forall_mem_cons.mpr ⟨wi_424, List.forall_mem_cons.mpr ⟨wi_425, List.forall_mem_cons.mpr ⟨wi_426, List.forall_mem_cons.mpr ⟨wi_427, List.forall_mem_cons.mpr ⟨wi_428, List.forall_mem_cons.mpr ⟨wi_429, List.forall_mem_cons.mpr ⟨wi_430, List.forall_mem_cons.mpr ⟨wi_431, (fun _ h => (List.not_mem_nil h).elim)⟩⟩⟩⟩⟩⟩⟩⟩⟩⟩⟩⟩⟩⟩⟩⟩⟩⟩⟩⟩⟩⟩⟩⟩
set_option maxRecDepth 20000 in
theorem wi_432 : (.instanceMethod y_O_clear : Cond) ∈ lw_tbl := List.mem_of_getElem? (i := 162) (by decide +kernel)
set_option maxRecDepth 20000 in
theorem wi_433 : (.selects R_O y_O_clear y_O_clear : Cond) ∈ lw_tbl := List.mem_of_getElem? (i := 163) (by decide +kernel)
set_option maxRecDepth 20000 in
theorem wi_434 : (.methodLink R_L 62 y_M_clear : Cond) ∈ lw_tbl := List.mem_of_getElem? (i := 578) (by decide +kernel)
set_option maxRecDepth 20000 in
theorem wi_435 : (.instanceMethod y_M_clear : Cond) ∈ lw_tbl := List.mem_of_getElem? (i := 579) (by decide +kernel)
set_option maxRecDepth 20000 in
theorem wi_436 : (.selects R_M y_M_clear y_M_clear : Cond) ∈ lw_tbl := List.mem_of_getElem? (i := 580) (by decide +kernel)
set_option maxRecDepth 20000 in
theorem wi_437 : (.laysFinal R_O "RealOperations" "tops" "[I" : Cond) ∈ lw_tbl := List.mem_of_getElem? (i := 138) (by decide +kernel)
set_option maxRecDepth 20000 in
theorem wi_438 : (.laysFinal R_O "RealOperations" "fractions" "[J" : Cond) ∈ lw_tbl := List.mem_of_getElem? (i := 140) (by decide +kernel)
set_option maxRecDepth 20000 in
theorem wi_439 : (.lays R_O "RealOperations" "controlWord" "I" : Cond) ∈ lw_tbl := List.mem_of_getElem? (i := 142) (by decide +kernel)
set_option maxRecDepth 20000 in
theorem wi_440 : (.lays R_O "RealOperations" "toldSoFar" "I" : Cond) ∈ lw_tbl := List.mem_of_getElem? (i := 144) (by decide +kernel)
set_option maxRecDepth 20000 in
theorem wi_441 : (.laysFinal R_O "RealOperations" "first" "LRealOperations$Real;" : Cond) ∈ lw_tbl := List.mem_of_getElem? (i := 146) (by decide +kernel)
set_option maxRecDepth 20000 in
theorem wi_442 : (.laysFinal R_O "RealOperations" "second" "LRealOperations$Real;" : Cond) ∈ lw_tbl := List.mem_of_getElem? (i := 148) (by decide +kernel)
set_option maxRecDepth 20000 in
theorem wi_443 : (.laysFinal R_O "RealOperations" "answer" "LRealOperations$Real;" : Cond) ∈ lw_tbl := List.mem_of_getElem? (i := 150) (by decide +kernel)
set_option maxRecDepth 20000 in
theorem wi_444 : (.laysFinal R_O "RealOperations" "size" "LRealOperations$Size;" : Cond) ∈ lw_tbl := List.mem_of_getElem? (i := 152) (by decide +kernel)
set_option maxRecDepth 20000 in
theorem wi_445 : (.laysFinal R_O "RealOperations" "otherSize" "LRealOperations$Size;" : Cond) ∈ lw_tbl := List.mem_of_getElem? (i := 154) (by decide +kernel)
set_option maxRecDepth 20000 in
theorem wi_446 : (.lays R_R "RealOperations$Real" "negative" "Z" : Cond) ∈ lw_tbl := List.mem_of_getElem? (i := 102) (by decide +kernel)
set_option maxRecDepth 20000 in
theorem wi_447 : (.lays R_R "RealOperations$Real" "power" "I" : Cond) ∈ lw_tbl := List.mem_of_getElem? (i := 104) (by decide +kernel)
set_option maxRecDepth 20000 in
theorem wi_448 : (.lays R_R "RealOperations$Real" "fraction" "J" : Cond) ∈ lw_tbl := List.mem_of_getElem? (i := 106) (by decide +kernel)
set_option maxRecDepth 20000 in
theorem wi_449 : (.lays R_S "RealOperations$Size" "high" "J" : Cond) ∈ lw_tbl := List.mem_of_getElem? (i := 122) (by decide +kernel)
set_option maxRecDepth 20000 in
theorem wi_450 : (.lays R_S "RealOperations$Size" "low" "J" : Cond) ∈ lw_tbl := List.mem_of_getElem? (i := 124) (by decide +kernel)
set_option maxRecDepth 20000 in
theorem wi_451 : (.lays R_S "RealOperations$Size" "exponent" "I" : Cond) ∈ lw_tbl := List.mem_of_getElem? (i := 126) (by decide +kernel)
set_option maxRecDepth 20000 in
theorem wi_452 : (.lays R_M "RealOperationsModel" "code" "I" : Cond) ∈ lw_tbl := List.mem_of_getElem? (i := 517) (by decide +kernel)
set_option maxRecDepth 20000 in
theorem wi_453 : (.lays R_M "RealOperationsModel" "word" "I" : Cond) ∈ lw_tbl := List.mem_of_getElem? (i := 519) (by decide +kernel)
set_option maxRecDepth 20000 in
theorem wi_454 : (.laysFinal R_M "RealOperationsModel" "top" "[I" : Cond) ∈ lw_tbl := List.mem_of_getElem? (i := 521) (by decide +kernel)
set_option maxRecDepth 20000 in
theorem wi_455 : (.laysFinal R_M "RealOperationsModel" "fraction" "[J" : Cond) ∈ lw_tbl := List.mem_of_getElem? (i := 523) (by decide +kernel)
def wo_18 : List Cond := [.instanceMethod y_O_clear, .selects R_O y_O_clear y_O_clear, .methodLink R_L 62 y_M_clear, .instanceMethod y_M_clear, .selects R_M y_M_clear y_M_clear, .laysFinal R_O "RealOperations" "tops" "[I", .laysFinal R_O "RealOperations" "fractions" "[J", .lays R_O "RealOperations" "controlWord" "I", .lays R_O "RealOperations" "toldSoFar" "I", .laysFinal R_O "RealOperations" "first" "LRealOperations$Real;", .laysFinal R_O "RealOperations" "second" "LRealOperations$Real;", .laysFinal R_O "RealOperations" "answer" "LRealOperations$Real;", .laysFinal R_O "RealOperations" "size" "LRealOperations$Size;", .laysFinal R_O "RealOperations" "otherSize" "LRealOperations$Size;", .lays R_R "RealOperations$Real" "negative" "Z", .lays R_R "RealOperations$Real" "power" "I", .lays R_R "RealOperations$Real" "fraction" "J", .lays R_S "RealOperations$Size" "high" "J", .lays R_S "RealOperations$Size" "low" "J", .lays R_S "RealOperations$Size" "exponent" "I", .lays R_M "RealOperationsModel" "code" "I", .lays R_M "RealOperationsModel" "word" "I", .laysFinal R_M "RealOperationsModel" "top" "[I", .laysFinal R_M "RealOperationsModel" "fraction" "[J"]
theorem wo_18_in : ∀ w ∈ wo_18, w ∈ lw_tbl := List.forall_mem_cons.mpr ⟨wi_432, List.forall_mem_cons.mpr ⟨wi_433, List.forall_mem_cons.mpr ⟨wi_434, List.forall_mem_cons.mpr ⟨wi_435, List.forall_mem_cons.mpr ⟨wi_436, List.forall_mem_cons.mpr ⟨wi_437, List.forall_mem_cons.mpr ⟨wi_438, List.forall_mem_cons.mpr ⟨wi_439, List.forall_mem_cons.mpr ⟨wi_440, List.forall_mem_cons.mpr ⟨wi_441, List.forall_mem_cons.mpr ⟨wi_442, List.forall_mem_cons.mpr ⟨wi_443, List.forall_mem_cons.mpr ⟨wi_444, List.forall_mem_cons.mpr ⟨wi_445, List.forall_mem_cons.mpr ⟨wi_446, List.forall_mem_cons.mpr ⟨wi_447, List.forall_mem_cons.mpr ⟨wi_448, List.forall_mem_cons.mpr ⟨wi_449, List.forall_mem_cons.mpr ⟨wi_450, List.forall_mem_cons.mpr ⟨wi_451, List.forall_mem_cons.mpr ⟨wi_452, List.forall_mem_cons.mpr ⟨wi_453, List.forall_mem_cons.mpr ⟨wi_454, List.forall_mem_cons.mpr ⟨wi_455, (fun _ h => (List.not_mem_nil h).elim)⟩⟩⟩⟩⟩⟩⟩⟩⟩⟩⟩⟩⟩⟩⟩⟩⟩⟩⟩⟩⟩⟩⟩⟩
set_option maxRecDepth 20000 in
theorem wi_456 : (.lays R_M "RealOperationsModel" "all" "I" : Cond) ∈ lw_tbl := List.mem_of_getElem? (i := 525) (by decide +kernel)
set_option maxRecDepth 20000 in
theorem wi_457 : (.laysFinal R_M "RealOperationsModel" "minus" "[Z" : Cond) ∈ lw_tbl := List.mem_of_getElem? (i := 527) (by decide +kernel)
set_option maxRecDepth 20000 in
theorem wi_458 : (.laysFinal R_M "RealOperationsModel" "power" "[I" : Cond) ∈ lw_tbl := List.mem_of_getElem? (i := 529) (by decide +kernel)
set_option maxRecDepth 20000 in
theorem wi_459 : (.laysFinal R_M "RealOperationsModel" "part" "[J" : Cond) ∈ lw_tbl := List.mem_of_getElem? (i := 531) (by decide +kernel)
set_option maxRecDepth 20000 in
theorem wi_460 : (.laysFinal R_M "RealOperationsModel" "row" "[Z" : Cond) ∈ lw_tbl := List.mem_of_getElem? (i := 533) (by decide +kernel)
set_option maxRecDepth 20000 in
theorem wi_461 : (.lays R_M "RealOperationsModel" "size" "I" : Cond) ∈ lw_tbl := List.mem_of_getElem? (i := 535) (by decide +kernel)
set_option maxRecDepth 20000 in
theorem wi_462 : (.lays R_M "RealOperationsModel" "unit" "I" : Cond) ∈ lw_tbl := List.mem_of_getElem? (i := 537) (by decide +kernel)
set_option maxRecDepth 20000 in
theorem wi_463 : (.lays R_M "RealOperationsModel" "more" "Z" : Cond) ∈ lw_tbl := List.mem_of_getElem? (i := 539) (by decide +kernel)
set_option maxRecDepth 20000 in
theorem wi_464 : (.lays R_M "RealOperationsModel" "told" "I" : Cond) ∈ lw_tbl := List.mem_of_getElem? (i := 541) (by decide +kernel)
set_option maxRecDepth 20000 in
theorem wi_465 : (.lays R_M "RealOperationsModel" "stopped" "Z" : Cond) ∈ lw_tbl := List.mem_of_getElem? (i := 543) (by decide +kernel)
set_option maxRecDepth 20000 in
theorem wi_466 : (.lays R_M "RealOperationsModel" "topOf" "I" : Cond) ∈ lw_tbl := List.mem_of_getElem? (i := 545) (by decide +kernel)
set_option maxRecDepth 20000 in
theorem wi_467 : (.lays R_M "RealOperationsModel" "fractionOf" "J" : Cond) ∈ lw_tbl := List.mem_of_getElem? (i := 547) (by decide +kernel)
set_option maxRecDepth 20000 in
theorem wi_468 : (.lays R_M "RealOperationsModel" "lossy" "Z" : Cond) ∈ lw_tbl := List.mem_of_getElem? (i := 549) (by decide +kernel)
def wo_19 : List Cond := [.lays R_M "RealOperationsModel" "all" "I", .laysFinal R_M "RealOperationsModel" "minus" "[Z", .laysFinal R_M "RealOperationsModel" "power" "[I", .laysFinal R_M "RealOperationsModel" "part" "[J", .laysFinal R_M "RealOperationsModel" "row" "[Z", .lays R_M "RealOperationsModel" "size" "I", .lays R_M "RealOperationsModel" "unit" "I", .lays R_M "RealOperationsModel" "more" "Z", .lays R_M "RealOperationsModel" "told" "I", .lays R_M "RealOperationsModel" "stopped" "Z", .lays R_M "RealOperationsModel" "topOf" "I", .lays R_M "RealOperationsModel" "fractionOf" "J", .lays R_M "RealOperationsModel" "lossy" "Z"]
theorem wo_19_in : ∀ w ∈ wo_19, w ∈ lw_tbl := List.forall_mem_cons.mpr ⟨wi_456, List.forall_mem_cons.mpr ⟨wi_457, List.forall_mem_cons.mpr ⟨wi_458, List.forall_mem_cons.mpr ⟨wi_459, List.forall_mem_cons.mpr ⟨wi_460, List.forall_mem_cons.mpr ⟨wi_461, List.forall_mem_cons.mpr ⟨wi_462, List.forall_mem_cons.mpr ⟨wi_463, List.forall_mem_cons.mpr ⟨wi_464, List.forall_mem_cons.mpr ⟨wi_465, List.forall_mem_cons.mpr ⟨wi_466, List.forall_mem_cons.mpr ⟨wi_467, List.forall_mem_cons.mpr ⟨wi_468, (fun _ h => (List.not_mem_nil h).elim)⟩⟩⟩⟩⟩⟩⟩⟩⟩⟩⟩⟩⟩
set_option maxRecDepth 20000 in
theorem wOwn_split : wOwn = wo_0 ++ (wo_1 ++ (wo_2 ++ (wo_3 ++ (wo_4 ++ (wo_5 ++ (wo_6 ++ (wo_7 ++ (wo_8 ++ (wo_9 ++ (wo_10 ++ (wo_11 ++ (wo_12 ++ (wo_13 ++ (wo_14 ++ (wo_15 ++ (wo_16 ++ (wo_17 ++ (wo_18 ++ (wo_19))))))))))))))))))) := rfl
theorem wOwn_in : ∀ w ∈ wOwn, w ∈ lw_tbl := by
  intro w h
  rw [wOwn_split] at h
  rcases List.mem_append.mp h with h | h
  · exact wo_0_in w h
  rcases List.mem_append.mp h with h | h
  · exact wo_1_in w h
  rcases List.mem_append.mp h with h | h
  · exact wo_2_in w h
  rcases List.mem_append.mp h with h | h
  · exact wo_3_in w h
  rcases List.mem_append.mp h with h | h
  · exact wo_4_in w h
  rcases List.mem_append.mp h with h | h
  · exact wo_5_in w h
  rcases List.mem_append.mp h with h | h
  · exact wo_6_in w h
  rcases List.mem_append.mp h with h | h
  · exact wo_7_in w h
  rcases List.mem_append.mp h with h | h
  · exact wo_8_in w h
  rcases List.mem_append.mp h with h | h
  · exact wo_9_in w h
  rcases List.mem_append.mp h with h | h
  · exact wo_10_in w h
  rcases List.mem_append.mp h with h | h
  · exact wo_11_in w h
  rcases List.mem_append.mp h with h | h
  · exact wo_12_in w h
  rcases List.mem_append.mp h with h | h
  · exact wo_13_in w h
  rcases List.mem_append.mp h with h | h
  · exact wo_14_in w h
  rcases List.mem_append.mp h with h | h
  · exact wo_15_in w h
  rcases List.mem_append.mp h with h | h
  · exact wo_16_in w h
  rcases List.mem_append.mp h with h | h
  · exact wo_17_in w h
  rcases List.mem_append.mp h with h | h
  · exact wo_18_in w h
  exact wo_19_in w h
theorem wThr_in : ∀ w ∈ wThr, w ∈ lw_tbl := by decide +kernel
theorem wAll_in : ∀ w ∈ wAll, w ∈ lw_tbl := by
  intro w h
  rcases List.mem_append.mp h with h | h
  · exact wOwn_in w h
  · exact wThr_in w h

