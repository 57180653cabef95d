theorem kf_RX2_9 : Cond.fieldLink RX2 9 RX2 "signs" "[C" ∈ lc_T := lc_in (List.mem_of_getElem? (i := 83) (by decide +kernel)) rfl
theorem kf_RX2_15 : Cond.fieldLink RX2 15 RX2 "length" "I" ∈ lc_T := lc_in (List.mem_of_getElem? (i := 84) (by decide +kernel)) rfl
theorem kf_RX2_24 : Cond.fieldLink RX2 24 RX2 "at" "I" ∈ lc_T := lc_in (List.mem_of_getElem? (i := 86) (by decide +kernel)) rfl
theorem kf_RX0_9 : Cond.fieldLink RX0 9 RX0 "capacities" "[I" ∈ lc_T := lc_in (List.mem_of_getElem? (i := 101) (by decide +kernel)) rfl
theorem kf_RX3_126 : Cond.fieldLink RX3 126 RX0 "capacities" "[I" ∈ lc_T := lc_in (List.mem_of_getElem? (i := 102) (by decide +kernel)) rfl
theorem kf_RX0_15 : Cond.fieldLink RX0 15 RX0 "charges" "[I" ∈ lc_T := lc_in (List.mem_of_getElem? (i := 103) (by decide +kernel)) rfl
theorem kf_RX3_130 : Cond.fieldLink RX3 130 RX0 "charges" "[I" ∈ lc_T := lc_in (List.mem_of_getElem? (i := 104) (by decide +kernel)) rfl
theorem kf_RX0_18 : Cond.fieldLink RX0 18 RX0 "leaks" "[I" ∈ lc_T := lc_in (List.mem_of_getElem? (i := 105) (by decide +kernel)) rfl
theorem kf_RX3_133 : Cond.fieldLink RX3 133 RX0 "leaks" "[I" ∈ lc_T := lc_in (List.mem_of_getElem? (i := 106) (by decide +kernel)) rfl
theorem kf_RX0_21 : Cond.fieldLink RX0 21 RX0 "lateRounds" "[I" ∈ lc_T := lc_in (List.mem_of_getElem? (i := 107) (by decide +kernel)) rfl
theorem kf_RX3_136 : Cond.fieldLink RX3 136 RX0 "lateRounds" "[I" ∈ lc_T := lc_in (List.mem_of_getElem? (i := 108) (by decide +kernel)) rfl
theorem kf_RX0_24 : Cond.fieldLink RX0 24 RX0 "lenders" "[I" ∈ lc_T := lc_in (List.mem_of_getElem? (i := 109) (by decide +kernel)) rfl
theorem kf_RX3_159 : Cond.fieldLink RX3 159 RX0 "lenders" "[I" ∈ lc_T := lc_in (List.mem_of_getElem? (i := 110) (by decide +kernel)) rfl
theorem kf_RX0_27 : Cond.fieldLink RX0 27 RX0 "borrowers" "[I" ∈ lc_T := lc_in (List.mem_of_getElem? (i := 111) (by decide +kernel)) rfl
theorem kf_RX3_162 : Cond.fieldLink RX3 162 RX0 "borrowers" "[I" ∈ lc_T := lc_in (List.mem_of_getElem? (i := 112) (by decide +kernel)) rfl
theorem kf_RX0_30 : Cond.fieldLink RX0 30 RX0 "owed" "[I" ∈ lc_T := lc_in (List.mem_of_getElem? (i := 113) (by decide +kernel)) rfl
theorem kf_RX3_165 : Cond.fieldLink RX3 165 RX0 "owed" "[I" ∈ lc_T := lc_in (List.mem_of_getElem? (i := 114) (by decide +kernel)) rfl
theorem kf_RX0_33 : Cond.fieldLink RX0 33 RX0 "rates" "[I" ∈ lc_T := lc_in (List.mem_of_getElem? (i := 115) (by decide +kernel)) rfl
theorem kf_RX3_168 : Cond.fieldLink RX3 168 RX0 "rates" "[I" ∈ lc_T := lc_in (List.mem_of_getElem? (i := 116) (by decide +kernel)) rfl
theorem kf_RX0_36 : Cond.fieldLink RX0 36 RX0 "arrived" "[I" ∈ lc_T := lc_in (List.mem_of_getElem? (i := 117) (by decide +kernel)) rfl
theorem kf_RX3_174 : Cond.fieldLink RX3 174 RX0 "arrived" "[I" ∈ lc_T := lc_in (List.mem_of_getElem? (i := 118) (by decide +kernel)) rfl
theorem kf_RX0_43 : Cond.fieldLink RX0 43 RX0 "cellCount" "I" ∈ lc_T := lc_in (List.mem_of_getElem? (i := 119) (by decide +kernel)) rfl
theorem kf_RX3_84 : Cond.fieldLink RX3 84 RX0 "cellCount" "I" ∈ lc_T := lc_in (List.mem_of_getElem? (i := 120) (by decide +kernel)) rfl
theorem kf_RX2_41 : Cond.fieldLink RX2 41 RX0 "cellCount" "I" ∈ lc_T := lc_in (List.mem_of_getElem? (i := 121) (by decide +kernel)) rfl
theorem kf_RX0_46 : Cond.fieldLink RX0 46 RX0 "loanCount" "I" ∈ lc_T := lc_in (List.mem_of_getElem? (i := 122) (by decide +kernel)) rfl
theorem kf_RX3_87 : Cond.fieldLink RX3 87 RX0 "loanCount" "I" ∈ lc_T := lc_in (List.mem_of_getElem? (i := 123) (by decide +kernel)) rfl
theorem kf_RX2_55 : Cond.fieldLink RX2 55 RX0 "loanCount" "I" ∈ lc_T := lc_in (List.mem_of_getElem? (i := 124) (by decide +kernel)) rfl
theorem kf_RX0_49 : Cond.fieldLink RX0 49 RX0 "rounds" "I" ∈ lc_T := lc_in (List.mem_of_getElem? (i := 125) (by decide +kernel)) rfl
theorem kf_RX3_90 : Cond.fieldLink RX3 90 RX0 "rounds" "I" ∈ lc_T := lc_in (List.mem_of_getElem? (i := 126) (by decide +kernel)) rfl
theorem kf_RX0_52 : Cond.fieldLink RX0 52 RX0 "putIn" "I" ∈ lc_T := lc_in (List.mem_of_getElem? (i := 127) (by decide +kernel)) rfl
theorem kf_RX3_97 : Cond.fieldLink RX3 97 RX0 "putIn" "I" ∈ lc_T := lc_in (List.mem_of_getElem? (i := 128) (by decide +kernel)) rfl
theorem kf_RX0_55 : Cond.fieldLink RX0 55 RX0 "used" "I" ∈ lc_T := lc_in (List.mem_of_getElem? (i := 129) (by decide +kernel)) rfl
theorem kf_RX3_100 : Cond.fieldLink RX3 100 RX0 "used" "I" ∈ lc_T := lc_in (List.mem_of_getElem? (i := 130) (by decide +kernel)) rfl
theorem kf_RX0_58 : Cond.fieldLink RX0 58 RX0 "heat" "I" ∈ lc_T := lc_in (List.mem_of_getElem? (i := 131) (by decide +kernel)) rfl
theorem kf_RX3_103 : Cond.fieldLink RX3 103 RX0 "heat" "I" ∈ lc_T := lc_in (List.mem_of_getElem? (i := 132) (by decide +kernel)) rfl
theorem kf_RX0_61 : Cond.fieldLink RX0 61 RX0 "writtenOff" "I" ∈ lc_T := lc_in (List.mem_of_getElem? (i := 133) (by decide +kernel)) rfl
theorem kf_RX3_109 : Cond.fieldLink RX3 109 RX0 "writtenOff" "I" ∈ lc_T := lc_in (List.mem_of_getElem? (i := 134) (by decide +kernel)) rfl
theorem kf_RX0_39 : Cond.fieldLink RX0 39 RX0 "watchedLoan" "I" ∈ lc_T := lc_in (List.mem_of_getElem? (i := 135) (by decide +kernel)) rfl
theorem kf_RX3_253 : Cond.fieldLink RX3 253 RX0 "watchedLoan" "I" ∈ lc_T := lc_in (List.mem_of_getElem? (i := 136) (by decide +kernel)) rfl
theorem kf_RX0_64 : Cond.fieldLink RX0 64 RX0 "watchedBurn" "I" ∈ lc_T := lc_in (List.mem_of_getElem? (i := 137) (by decide +kernel)) rfl
theorem kf_RX3_256 : Cond.fieldLink RX3 256 RX0 "watchedBurn" "I" ∈ lc_T := lc_in (List.mem_of_getElem? (i := 138) (by decide +kernel)) rfl
theorem kf_RX1_11 : Cond.fieldLink RX1 11 RX1 "states" "[LLendingCells$Battery;" ∈ lc_T := lc_in (List.mem_of_getElem? (i := 186) (by decide +kernel)) rfl
theorem kf_RX1_18 : Cond.fieldLink RX1 18 RX1 "first" "I" ∈ lc_T := lc_in (List.mem_of_getElem? (i := 187) (by decide +kernel)) rfl
theorem kf_RX1_22 : Cond.fieldLink RX1 22 RX1 "count" "I" ∈ lc_T := lc_in (List.mem_of_getElem? (i := 188) (by decide +kernel)) rfl
theorem kf_RX3_10 : Cond.fieldLink RX3 10 RX3 "text" "LLendingCells$Text;" ∈ lc_T := lc_in (List.mem_of_getElem? (i := 197) (by decide +kernel)) rfl
theorem kf_RX3_19 : Cond.fieldLink RX3 19 RX3 "now" "LLendingCells$Battery;" ∈ lc_T := lc_in (List.mem_of_getElem? (i := 198) (by decide +kernel)) rfl
theorem kf_RX3_26 : Cond.fieldLink RX3 26 RX3 "history" "LLendingCells$History;" ∈ lc_T := lc_in (List.mem_of_getElem? (i := 199) (by decide +kernel)) rfl
theorem kf_RX3_30 : Cond.fieldLink RX3 30 RX3 "slots" "[LLendingCells$Battery;" ∈ lc_T := lc_in (List.mem_of_getElem? (i := 200) (by decide +kernel)) rfl
theorem kf_RX3_34 : Cond.fieldLink RX3 34 RX3 "filled" "[Z" ∈ lc_T := lc_in (List.mem_of_getElem? (i := 201) (by decide +kernel)) rfl
theorem kf_RX3_38 : Cond.fieldLink RX3 38 RX3 "trial" "LLendingCells$Battery;" ∈ lc_T := lc_in (List.mem_of_getElem? (i := 202) (by decide +kernel)) rfl
theorem kf_RX3_41 : Cond.fieldLink RX3 41 RX3 "before" "LLendingCells$Battery;" ∈ lc_T := lc_in (List.mem_of_getElem? (i := 203) (by decide +kernel)) rfl
theorem kc_RX3_267 : Cond.constantLong RX3 267 (100000) ∈ lc_T := lc_in (List.mem_of_getElem? (i := 723) (by decide +kernel)) rfl
theorem kc_RJ6_265 : Cond.constant RJ6 265 (1431655765) ∈ lc_T := lc_in (List.mem_of_getElem? (i := 732) (by decide +kernel)) rfl
theorem kc_RJ6_266 : Cond.constant RJ6 266 (858993459) ∈ lc_T := lc_in (List.mem_of_getElem? (i := 733) (by decide +kernel)) rfl
theorem kc_RJ6_267 : Cond.constant RJ6 267 (252645135) ∈ lc_T := lc_in (List.mem_of_getElem? (i := 734) (by decide +kernel)) rfl
theorem kc_RX3_275 : Cond.constantLong RX3 275 (6364136223846793005) ∈ lc_T := lc_in (List.mem_of_getElem? (i := 743) (by decide +kernel)) rfl
theorem kc_RX3_277 : Cond.constantLong RX3 277 (1442695040888963407) ∈ lc_T := lc_in (List.mem_of_getElem? (i := 744) (by decide +kernel)) rfl
theorem kc_RX3_288 : Cond.constant RX3 288 (100000) ∈ lc_T := lc_in (List.mem_of_getElem? (i := 749) (by decide +kernel)) rfl
theorem kf_RX4_35 : Cond.fieldLink RX4 35 RX4 "thrown" "I" ∈ lc_T := lc_in (List.mem_of_getElem? (i := 772) (by decide +kernel)) rfl
theorem kf_RX4_7 : Cond.fieldLink RX4 7 RX4 "now" "[I" ∈ lc_T := lc_in (List.mem_of_getElem? (i := 773) (by decide +kernel)) rfl
theorem kf_RX4_13 : Cond.fieldLink RX4 13 RX4 "put" "[I" ∈ lc_T := lc_in (List.mem_of_getElem? (i := 774) (by decide +kernel)) rfl
theorem kf_RX4_16 : Cond.fieldLink RX4 16 RX4 "slots" "[I" ∈ lc_T := lc_in (List.mem_of_getElem? (i := 775) (by decide +kernel)) rfl
theorem kf_RX4_19 : Cond.fieldLink RX4 19 RX4 "isSaved" "[Z" ∈ lc_T := lc_in (List.mem_of_getElem? (i := 776) (by decide +kernel)) rfl
theorem kf_RX4_23 : Cond.fieldLink RX4 23 RX4 "was" "[I" ∈ lc_T := lc_in (List.mem_of_getElem? (i := 777) (by decide +kernel)) rfl
theorem kf_RX4_47 : Cond.fieldLink RX4 47 RX4 "acts" "I" ∈ lc_T := lc_in (List.mem_of_getElem? (i := 778) (by decide +kernel)) rfl
theorem kf_RX4_26 : Cond.fieldLink RX4 26 RX4 "text" "[I" ∈ lc_T := lc_in (List.mem_of_getElem? (i := 779) (by decide +kernel)) rfl
theorem kf_RX4_112 : Cond.fieldLink RX4 112 RX4 "typed" "I" ∈ lc_T := lc_in (List.mem_of_getElem? (i := 780) (by decide +kernel)) rfl
theorem kf_RX4_61 : Cond.fieldLink RX4 61 RX4 "watched" "I" ∈ lc_T := lc_in (List.mem_of_getElem? (i := 781) (by decide +kernel)) rfl
theorem kf_RX4_71 : Cond.fieldLink RX4 71 RX4 "burned" "I" ∈ lc_T := lc_in (List.mem_of_getElem? (i := 782) (by decide +kernel)) rfl
theorem kf_RX4_29 : Cond.fieldLink RX4 29 RX4 "hasMissed" "[Z" ∈ lc_T := lc_in (List.mem_of_getElem? (i := 783) (by decide +kernel)) rfl
theorem kf_RX4_32 : Cond.fieldLink RX4 32 RX4 "ahead" "[I" ∈ lc_T := lc_in (List.mem_of_getElem? (i := 784) (by decide +kernel)) rfl
theorem kf_RX4_115 : Cond.fieldLink RX4 115 RX4 "at" "I" ∈ lc_T := lc_in (List.mem_of_getElem? (i := 785) (by decide +kernel)) rfl
theorem kf_RX4_118 : Cond.fieldLink RX4 118 RX4 "isStuck" "Z" ∈ lc_T := lc_in (List.mem_of_getElem? (i := 786) (by decide +kernel)) rfl
theorem kc_RX4_214 : Cond.constantLong RX4 214 (100000) ∈ lc_T := lc_in (List.mem_of_getElem? (i := 1079) (by decide +kernel)) rfl
theorem kc_RX4_216 : Cond.constantLong RX4 216 (10000000000) ∈ lc_T := lc_in (List.mem_of_getElem? (i := 1080) (by decide +kernel)) rfl
theorem kc_RX4_218 : Cond.constantLong RX4 218 (1000000000000000) ∈ lc_T := lc_in (List.mem_of_getElem? (i := 1081) (by decide +kernel)) rfl
theorem kc_RX4_223 : Cond.constantLong RX4 223 (6364136223846793005) ∈ lc_T := lc_in (List.mem_of_getElem? (i := 1109) (by decide +kernel)) rfl
theorem kc_RX4_225 : Cond.constantLong RX4 225 (1442695040888963407) ∈ lc_T := lc_in (List.mem_of_getElem? (i := 1110) (by decide +kernel)) rfl
theorem kc_RX4_227 : Cond.constant RX4 227 (100000) ∈ lc_T := lc_in (List.mem_of_getElem? (i := 1111) (by decide +kernel)) rfl
theorem kc_RL_168 : Cond.constantLong RL 168 (4294967295) ∈ lc_T := lc_in (List.mem_of_getElem? (i := 1120) (by decide +kernel)) rfl
theorem ki_RL : Cond.initialized RL ∈ lc_T := lc_in (List.mem_of_getElem? (i := 54) (by decide +kernel)) rfl
theorem ki_RX3 : Cond.initialized RX3 ∈ lc_T := lc_in (List.mem_of_getElem? (i := 55) (by decide +kernel)) rfl
theorem ki_RX2 : Cond.initialized RX2 ∈ lc_T := lc_in (List.mem_of_getElem? (i := 56) (by decide +kernel)) rfl
theorem ki_RX0 : Cond.initialized RX0 ∈ lc_T := lc_in (List.mem_of_getElem? (i := 57) (by decide +kernel)) rfl
theorem ki_RX1 : Cond.initialized RX1 ∈ lc_T := lc_in (List.mem_of_getElem? (i := 58) (by decide +kernel)) rfl
theorem ki_RX4 : Cond.initialized RX4 ∈ lc_T := lc_in (List.mem_of_getElem? (i := 59) (by decide +kernel)) rfl
theorem ki_Throwable : Cond.initialized "java/lang/Throwable" ∈ lc_T := lc_in (List.mem_of_getElem? (i := 60) (by decide +kernel)) rfl
theorem ki_Exception : Cond.initialized "java/lang/Exception" ∈ lc_T := lc_in (List.mem_of_getElem? (i := 61) (by decide +kernel)) rfl
theorem ki_RuntimeException : Cond.initialized "java/lang/RuntimeException" ∈ lc_T := lc_in (List.mem_of_getElem? (i := 62) (by decide +kernel)) rfl
theorem ki_IllegalArgumentException : Cond.initialized "java/lang/IllegalArgumentException" ∈ lc_T := lc_in (List.mem_of_getElem? (i := 63) (by decide +kernel)) rfl
theorem ki_IllegalStateException : Cond.initialized "java/lang/IllegalStateException" ∈ lc_T := lc_in (List.mem_of_getElem? (i := 64) (by decide +kernel)) rfl
theorem ki_RJ10 : Cond.initialized RJ10 ∈ lc_T := lc_in (List.mem_of_getElem? (i := 65) (by decide +kernel)) rfl
theorem ki_IndexOutOfBoundsException : Cond.initialized "java/lang/IndexOutOfBoundsException" ∈ lc_T := lc_in (List.mem_of_getElem? (i := 66) (by decide +kernel)) rfl
theorem ki_RJ9 : Cond.initialized RJ9 ∈ lc_T := lc_in (List.mem_of_getElem? (i := 67) (by decide +kernel)) rfl
theorem ki_RJ6 : Cond.initialized RJ6 ∈ lc_T := lc_in (List.mem_of_getElem? (i := 68) (by decide +kernel)) rfl
theorem mc_X3_init : Cond.code yX3_init cX3_init 2 none ∈ lc_T := lc_in (List.mem_of_getElem? (i := 73) (by decide +kernel)) rfl
theorem md_X3_init : yX3_init.cls ≠ "java/lang/invoke/MethodHandle" ∧ yX3_init.cls ≠ "java/lang/invoke/VarHandle" ∧ (parseMethodDescriptor yX3_init.desc).map (fun d => d.parameters.length) = some 0 := ⟨by decide +kernel, by decide +kernel, by decide +kernel⟩
theorem mi_X3_init : Cond.instanceMethod yX3_init ∈ lc_T := lc_in (List.mem_of_getElem? (i := 72) (by decide +kernel)) rfl
theorem mc_X2_init : Cond.code yX2_init cX2_init 1 none ∈ lc_T := lc_in (List.mem_of_getElem? (i := 81) (by decide +kernel)) rfl
theorem md_X2_init : yX2_init.cls ≠ "java/lang/invoke/MethodHandle" ∧ yX2_init.cls ≠ "java/lang/invoke/VarHandle" ∧ (parseMethodDescriptor yX2_init.desc).map (fun d => d.parameters.length) = some 0 := ⟨by decide +kernel, by decide +kernel, by decide +kernel⟩
theorem mi_X2_init : Cond.instanceMethod yX2_init ∈ lc_T := lc_in (List.mem_of_getElem? (i := 80) (by decide +kernel)) rfl
theorem mc_X0_init : Cond.code yX0_init cX0_init 1 none ∈ lc_T := lc_in (List.mem_of_getElem? (i := 99) (by decide +kernel)) rfl
theorem md_X0_init : yX0_init.cls ≠ "java/lang/invoke/MethodHandle" ∧ yX0_init.cls ≠ "java/lang/invoke/VarHandle" ∧ (parseMethodDescriptor yX0_init.desc).map (fun d => d.parameters.length) = some 0 := ⟨by decide +kernel, by decide +kernel, by decide +kernel⟩
theorem mi_X0_init : Cond.instanceMethod yX0_init ∈ lc_T := lc_in (List.mem_of_getElem? (i := 98) (by decide +kernel)) rfl
theorem mc_X1_init : Cond.code yX1_init cX1_init 2 none ∈ lc_T := lc_in (List.mem_of_getElem? (i := 181) (by decide +kernel)) rfl
theorem md_X1_init : yX1_init.cls ≠ "java/lang/invoke/MethodHandle" ∧ yX1_init.cls ≠ "java/lang/invoke/VarHandle" ∧ (parseMethodDescriptor yX1_init.desc).map (fun d => d.parameters.length) = some 0 := ⟨by decide +kernel, by decide +kernel, by decide +kernel⟩
theorem mi_X1_init : Cond.instanceMethod yX1_init ∈ lc_T := lc_in (List.mem_of_getElem? (i := 180) (by decide +kernel)) rfl
theorem mc_X3_clearText : Cond.code yX3_clearText cX3_clearText 2 (some .int) ∈ lc_T := lc_in (List.mem_of_getElem? (i := 223) (by decide +kernel)) rfl
theorem md_X3_clearText : yX3_clearText.cls ≠ "java/lang/invoke/MethodHandle" ∧ yX3_clearText.cls ≠ "java/lang/invoke/VarHandle" ∧ (parseMethodDescriptor yX3_clearText.desc).map (fun d => d.parameters.length) = some 0 := ⟨by decide +kernel, by decide +kernel, by decide +kernel⟩
theorem mi_X3_clearText : Cond.instanceMethod yX3_clearText ∈ lc_T := lc_in (List.mem_of_getElem? (i := 221) (by decide +kernel)) rfl
theorem mv_X3_clearText : Cond.selects yX3_clearText.cls yX3_clearText yX3_clearText ∈ lc_T := lc_in (List.mem_of_getElem? (i := 222) (by decide +kernel)) rfl
theorem mc_X2_becomeEmpty : Cond.code yX2_becomeEmpty cX2_becomeEmpty 1 none ∈ lc_T := lc_in (List.mem_of_getElem? (i := 227) (by decide +kernel)) rfl
theorem md_X2_becomeEmpty : yX2_becomeEmpty.cls ≠ "java/lang/invoke/MethodHandle" ∧ yX2_becomeEmpty.cls ≠ "java/lang/invoke/VarHandle" ∧ (parseMethodDescriptor yX2_becomeEmpty.desc).map (fun d => d.parameters.length) = some 0 := ⟨by decide +kernel, by decide +kernel, by decide +kernel⟩
theorem mi_X2_becomeEmpty : Cond.instanceMethod yX2_becomeEmpty ∈ lc_T := lc_in (List.mem_of_getElem? (i := 225) (by decide +kernel)) rfl
theorem mv_X2_becomeEmpty : Cond.selects yX2_becomeEmpty.cls yX2_becomeEmpty yX2_becomeEmpty ∈ lc_T := lc_in (List.mem_of_getElem? (i := 226) (by decide +kernel)) rfl
theorem mc_X3_errorPosition : Cond.code yX3_errorPosition cX3_errorPosition 1 (some .int) ∈ lc_T := lc_in (List.mem_of_getElem? (i := 231) (by decide +kernel)) rfl
theorem md_X3_errorPosition : yX3_errorPosition.cls ≠ "java/lang/invoke/MethodHandle" ∧ yX3_errorPosition.cls ≠ "java/lang/invoke/VarHandle" ∧ (parseMethodDescriptor yX3_errorPosition.desc).map (fun d => d.parameters.length) = some 0 := ⟨by decide +kernel, by decide +kernel, by decide +kernel⟩
theorem mi_X3_errorPosition : Cond.instanceMethod yX3_errorPosition ∈ lc_T := lc_in (List.mem_of_getElem? (i := 229) (by decide +kernel)) rfl
theorem mv_X3_errorPosition : Cond.selects yX3_errorPosition.cls yX3_errorPosition yX3_errorPosition ∈ lc_T := lc_in (List.mem_of_getElem? (i := 230) (by decide +kernel)) rfl
theorem mc_X2_readInto : Cond.code yX2_readInto cX2_readInto 3 (some .int) ∈ lc_T := lc_in (List.mem_of_getElem? (i := 235) (by decide +kernel)) rfl
theorem md_X2_readInto : yX2_readInto.cls ≠ "java/lang/invoke/MethodHandle" ∧ yX2_readInto.cls ≠ "java/lang/invoke/VarHandle" ∧ (parseMethodDescriptor yX2_readInto.desc).map (fun d => d.parameters.length) = some 1 := ⟨by decide +kernel, by decide +kernel, by decide +kernel⟩
theorem mi_X2_readInto : Cond.instanceMethod yX2_readInto ∈ lc_T := lc_in (List.mem_of_getElem? (i := 233) (by decide +kernel)) rfl
theorem mv_X2_readInto : Cond.selects yX2_readInto.cls yX2_readInto yX2_readInto ∈ lc_T := lc_in (List.mem_of_getElem? (i := 234) (by decide +kernel)) rfl
theorem mc_X0_becomeEmpty : Cond.code yX0_becomeEmpty cX0_becomeEmpty 1 none ∈ lc_T := lc_in (List.mem_of_getElem? (i := 239) (by decide +kernel)) rfl
theorem md_X0_becomeEmpty : yX0_becomeEmpty.cls ≠ "java/lang/invoke/MethodHandle" ∧ yX0_becomeEmpty.cls ≠ "java/lang/invoke/VarHandle" ∧ (parseMethodDescriptor yX0_becomeEmpty.desc).map (fun d => d.parameters.length) = some 0 := ⟨by decide +kernel, by decide +kernel, by decide +kernel⟩
theorem mi_X0_becomeEmpty : Cond.instanceMethod yX0_becomeEmpty ∈ lc_T := lc_in (List.mem_of_getElem? (i := 237) (by decide +kernel)) rfl
theorem mv_X0_becomeEmpty : Cond.selects yX0_becomeEmpty.cls yX0_becomeEmpty yX0_becomeEmpty ∈ lc_T := lc_in (List.mem_of_getElem? (i := 238) (by decide +kernel)) rfl
theorem mc_X2_isAt : Cond.code yX2_isAt cX2_isAt 2 (some .boolean) ∈ lc_T := lc_in (List.mem_of_getElem? (i := 243) (by decide +kernel)) rfl
theorem md_X2_isAt : yX2_isAt.cls ≠ "java/lang/invoke/MethodHandle" ∧ yX2_isAt.cls ≠ "java/lang/invoke/VarHandle" ∧ (parseMethodDescriptor yX2_isAt.desc).map (fun d => d.parameters.length) = some 1 := ⟨by decide +kernel, by decide +kernel, by decide +kernel⟩
theorem mi_X2_isAt : Cond.instanceMethod yX2_isAt ∈ lc_T := lc_in (List.mem_of_getElem? (i := 242) (by decide +kernel)) rfl
theorem mv_X2_isAt : Cond.selects yX2_isAt.cls yX2_isAt yX2_isAt ∈ lc_T := lc_in (List.mem_of_getElem? (i := 0) (by decide +kernel)) rfl
theorem mc_X2_readPart : Cond.code yX2_readPart cX2_readPart 2 (some .boolean) ∈ lc_T := lc_in (List.mem_of_getElem? (i := 247) (by decide +kernel)) rfl
theorem md_X2_readPart : yX2_readPart.cls ≠ "java/lang/invoke/MethodHandle" ∧ yX2_readPart.cls ≠ "java/lang/invoke/VarHandle" ∧ (parseMethodDescriptor yX2_readPart.desc).map (fun d => d.parameters.length) = some 1 := ⟨by decide +kernel, by decide +kernel, by decide +kernel⟩
theorem mi_X2_readPart : Cond.instanceMethod yX2_readPart ∈ lc_T := lc_in (List.mem_of_getElem? (i := 246) (by decide +kernel)) rfl
theorem mv_X2_readPart : Cond.selects yX2_readPart.cls yX2_readPart yX2_readPart ∈ lc_T := lc_in (List.mem_of_getElem? (i := 1) (by decide +kernel)) rfl
theorem mc_X2_readCell : Cond.code yX2_readCell cX2_readCell 5 (some .boolean) ∈ lc_T := lc_in (List.mem_of_getElem? (i := 251) (by decide +kernel)) rfl
theorem md_X2_readCell : yX2_readCell.cls ≠ "java/lang/invoke/MethodHandle" ∧ yX2_readCell.cls ≠ "java/lang/invoke/VarHandle" ∧ (parseMethodDescriptor yX2_readCell.desc).map (fun d => d.parameters.length) = some 1 := ⟨by decide +kernel, by decide +kernel, by decide +kernel⟩
theorem mi_X2_readCell : Cond.instanceMethod yX2_readCell ∈ lc_T := lc_in (List.mem_of_getElem? (i := 250) (by decide +kernel)) rfl
theorem mv_X2_readCell : Cond.selects yX2_readCell.cls yX2_readCell yX2_readCell ∈ lc_T := lc_in (List.mem_of_getElem? (i := 2) (by decide +kernel)) rfl
theorem mc_X2_readNumber : Cond.code yX2_readNumber cX2_readNumber 5 (some .int) ∈ lc_T := lc_in (List.mem_of_getElem? (i := 255) (by decide +kernel)) rfl
theorem md_X2_readNumber : yX2_readNumber.cls ≠ "java/lang/invoke/MethodHandle" ∧ yX2_readNumber.cls ≠ "java/lang/invoke/VarHandle" ∧ (parseMethodDescriptor yX2_readNumber.desc).map (fun d => d.parameters.length) = some 2 := ⟨by decide +kernel, by decide +kernel, by decide +kernel⟩
theorem mi_X2_readNumber : Cond.instanceMethod yX2_readNumber ∈ lc_T := lc_in (List.mem_of_getElem? (i := 254) (by decide +kernel)) rfl
theorem mv_X2_readNumber : Cond.selects yX2_readNumber.cls yX2_readNumber yX2_readNumber ∈ lc_T := lc_in (List.mem_of_getElem? (i := 3) (by decide +kernel)) rfl
theorem mc_X2_readDigit : Cond.code yX2_readDigit cX2_readDigit 4 (some .int) ∈ lc_T := lc_in (List.mem_of_getElem? (i := 259) (by decide +kernel)) rfl
theorem md_X2_readDigit : yX2_readDigit.cls ≠ "java/lang/invoke/MethodHandle" ∧ yX2_readDigit.cls ≠ "java/lang/invoke/VarHandle" ∧ (parseMethodDescriptor yX2_readDigit.desc).map (fun d => d.parameters.length) = some 2 := ⟨by decide +kernel, by decide +kernel, by decide +kernel⟩
theorem mi_X2_readDigit : Cond.instanceMethod yX2_readDigit ∈ lc_T := lc_in (List.mem_of_getElem? (i := 258) (by decide +kernel)) rfl
theorem mv_X2_readDigit : Cond.selects yX2_readDigit.cls yX2_readDigit yX2_readDigit ∈ lc_T := lc_in (List.mem_of_getElem? (i := 4) (by decide +kernel)) rfl
theorem mc_X2_digitHere : Cond.code yX2_digitHere cX2_digitHere 2 (some .int) ∈ lc_T := lc_in (List.mem_of_getElem? (i := 263) (by decide +kernel)) rfl
theorem md_X2_digitHere : yX2_digitHere.cls ≠ "java/lang/invoke/MethodHandle" ∧ yX2_digitHere.cls ≠ "java/lang/invoke/VarHandle" ∧ (parseMethodDescriptor yX2_digitHere.desc).map (fun d => d.parameters.length) = some 0 := ⟨by decide +kernel, by decide +kernel, by decide +kernel⟩
theorem mi_X2_digitHere : Cond.instanceMethod yX2_digitHere ∈ lc_T := lc_in (List.mem_of_getElem? (i := 262) (by decide +kernel)) rfl
theorem mv_X2_digitHere : Cond.selects yX2_digitHere.cls yX2_digitHere yX2_digitHere ∈ lc_T := lc_in (List.mem_of_getElem? (i := 5) (by decide +kernel)) rfl
theorem mc_X3_isWithin : Cond.code yX3_isWithin cX3_isWithin 3 (some .boolean) ∈ lc_T := lc_in (List.mem_of_getElem? (i := 266) (by decide +kernel)) rfl
theorem md_X3_isWithin : yX3_isWithin.cls ≠ "java/lang/invoke/MethodHandle" ∧ yX3_isWithin.cls ≠ "java/lang/invoke/VarHandle" ∧ (parseMethodDescriptor yX3_isWithin.desc).map (fun d => d.parameters.length) = some 3 := ⟨by decide +kernel, by decide +kernel, by decide +kernel⟩
theorem ms_X3_isWithin : Cond.static yX3_isWithin ∈ lc_T := lc_in (List.mem_of_getElem? (i := 265) (by decide +kernel)) rfl
theorem mc_X0_putCell : Cond.code yX0_putCell cX0_putCell 5 (some .int) ∈ lc_T := lc_in (List.mem_of_getElem? (i := 270) (by decide +kernel)) rfl
theorem md_X0_putCell : yX0_putCell.cls ≠ "java/lang/invoke/MethodHandle" ∧ yX0_putCell.cls ≠ "java/lang/invoke/VarHandle" ∧ (parseMethodDescriptor yX0_putCell.desc).map (fun d => d.parameters.length) = some 3 := ⟨by decide +kernel, by decide +kernel, by decide +kernel⟩
theorem mi_X0_putCell : Cond.instanceMethod yX0_putCell ∈ lc_T := lc_in (List.mem_of_getElem? (i := 268) (by decide +kernel)) rfl
theorem mv_X0_putCell : Cond.selects yX0_putCell.cls yX0_putCell yX0_putCell ∈ lc_T := lc_in (List.mem_of_getElem? (i := 269) (by decide +kernel)) rfl
theorem mc_X2_readLoan : Cond.code yX2_readLoan cX2_readLoan 7 (some .boolean) ∈ lc_T := lc_in (List.mem_of_getElem? (i := 274) (by decide +kernel)) rfl
theorem md_X2_readLoan : yX2_readLoan.cls ≠ "java/lang/invoke/MethodHandle" ∧ yX2_readLoan.cls ≠ "java/lang/invoke/VarHandle" ∧ (parseMethodDescriptor yX2_readLoan.desc).map (fun d => d.parameters.length) = some 1 := ⟨by decide +kernel, by decide +kernel, by decide +kernel⟩
theorem mi_X2_readLoan : Cond.instanceMethod yX2_readLoan ∈ lc_T := lc_in (List.mem_of_getElem? (i := 273) (by decide +kernel)) rfl
theorem mv_X2_readLoan : Cond.selects yX2_readLoan.cls yX2_readLoan yX2_readLoan ∈ lc_T := lc_in (List.mem_of_getElem? (i := 6) (by decide +kernel)) rfl
theorem mc_X0_chargeOf : Cond.code yX0_chargeOf cX0_chargeOf 2 (some .int) ∈ lc_T := lc_in (List.mem_of_getElem? (i := 278) (by decide +kernel)) rfl
theorem md_X0_chargeOf : yX0_chargeOf.cls ≠ "java/lang/invoke/MethodHandle" ∧ yX0_chargeOf.cls ≠ "java/lang/invoke/VarHandle" ∧ (parseMethodDescriptor yX0_chargeOf.desc).map (fun d => d.parameters.length) = some 1 := ⟨by decide +kernel, by decide +kernel, by decide +kernel⟩
theorem mi_X0_chargeOf : Cond.instanceMethod yX0_chargeOf ∈ lc_T := lc_in (List.mem_of_getElem? (i := 276) (by decide +kernel)) rfl
theorem mv_X0_chargeOf : Cond.selects yX0_chargeOf.cls yX0_chargeOf yX0_chargeOf ∈ lc_T := lc_in (List.mem_of_getElem? (i := 277) (by decide +kernel)) rfl
theorem mc_X0_hasCell : Cond.code yX0_hasCell cX0_hasCell 2 (some .boolean) ∈ lc_T := lc_in (List.mem_of_getElem? (i := 282) (by decide +kernel)) rfl
theorem md_X0_hasCell : yX0_hasCell.cls ≠ "java/lang/invoke/MethodHandle" ∧ yX0_hasCell.cls ≠ "java/lang/invoke/VarHandle" ∧ (parseMethodDescriptor yX0_hasCell.desc).map (fun d => d.parameters.length) = some 1 := ⟨by decide +kernel, by decide +kernel, by decide +kernel⟩
theorem mi_X0_hasCell : Cond.instanceMethod yX0_hasCell ∈ lc_T := lc_in (List.mem_of_getElem? (i := 280) (by decide +kernel)) rfl
theorem mv_X0_hasCell : Cond.selects yX0_hasCell.cls yX0_hasCell yX0_hasCell ∈ lc_T := lc_in (List.mem_of_getElem? (i := 281) (by decide +kernel)) rfl
theorem mc_X0_makeLoan : Cond.code yX0_makeLoan cX0_makeLoan 6 (some .int) ∈ lc_T := lc_in (List.mem_of_getElem? (i := 287) (by decide +kernel)) rfl
theorem md_X0_makeLoan : yX0_makeLoan.cls ≠ "java/lang/invoke/MethodHandle" ∧ yX0_makeLoan.cls ≠ "java/lang/invoke/VarHandle" ∧ (parseMethodDescriptor yX0_makeLoan.desc).map (fun d => d.parameters.length) = some 4 := ⟨by decide +kernel, by decide +kernel, by decide +kernel⟩
theorem mi_X0_makeLoan : Cond.instanceMethod yX0_makeLoan ∈ lc_T := lc_in (List.mem_of_getElem? (i := 285) (by decide +kernel)) rfl
theorem mv_X0_makeLoan : Cond.selects yX0_makeLoan.cls yX0_makeLoan yX0_makeLoan ∈ lc_T := lc_in (List.mem_of_getElem? (i := 286) (by decide +kernel)) rfl
theorem mc_X0_canLend : Cond.code yX0_canLend cX0_canLend 4 (some .boolean) ∈ lc_T := lc_in (List.mem_of_getElem? (i := 291) (by decide +kernel)) rfl
theorem md_X0_canLend : yX0_canLend.cls ≠ "java/lang/invoke/MethodHandle" ∧ yX0_canLend.cls ≠ "java/lang/invoke/VarHandle" ∧ (parseMethodDescriptor yX0_canLend.desc).map (fun d => d.parameters.length) = some 3 := ⟨by decide +kernel, by decide +kernel, by decide +kernel⟩
theorem mi_X0_canLend : Cond.instanceMethod yX0_canLend ∈ lc_T := lc_in (List.mem_of_getElem? (i := 289) (by decide +kernel)) rfl
theorem mv_X0_canLend : Cond.selects yX0_canLend.cls yX0_canLend yX0_canLend ∈ lc_T := lc_in (List.mem_of_getElem? (i := 290) (by decide +kernel)) rfl
theorem mc_X0_isBankrupt : Cond.code yX0_isBankrupt cX0_isBankrupt 2 (some .boolean) ∈ lc_T := lc_in (List.mem_of_getElem? (i := 295) (by decide +kernel)) rfl
theorem md_X0_isBankrupt : yX0_isBankrupt.cls ≠ "java/lang/invoke/MethodHandle" ∧ yX0_isBankrupt.cls ≠ "java/lang/invoke/VarHandle" ∧ (parseMethodDescriptor yX0_isBankrupt.desc).map (fun d => d.parameters.length) = some 1 := ⟨by decide +kernel, by decide +kernel, by decide +kernel⟩
theorem mi_X0_isBankrupt : Cond.instanceMethod yX0_isBankrupt ∈ lc_T := lc_in (List.mem_of_getElem? (i := 293) (by decide +kernel)) rfl
theorem mv_X0_isBankrupt : Cond.selects yX0_isBankrupt.cls yX0_isBankrupt yX0_isBankrupt ∈ lc_T := lc_in (List.mem_of_getElem? (i := 294) (by decide +kernel)) rfl
theorem mc_X0_arriving : Cond.code yX0_arriving cX0_arriving 5 (some .int) ∈ lc_T := lc_in (List.mem_of_getElem? (i := 300) (by decide +kernel)) rfl
theorem md_X0_arriving : yX0_arriving.cls ≠ "java/lang/invoke/MethodHandle" ∧ yX0_arriving.cls ≠ "java/lang/invoke/VarHandle" ∧ (parseMethodDescriptor yX0_arriving.desc).map (fun d => d.parameters.length) = some 3 := ⟨by decide +kernel, by decide +kernel, by decide +kernel⟩
theorem mi_X0_arriving : Cond.instanceMethod yX0_arriving ∈ lc_T := lc_in (List.mem_of_getElem? (i := 298) (by decide +kernel)) rfl
theorem mv_X0_arriving : Cond.selects yX0_arriving.cls yX0_arriving yX0_arriving ∈ lc_T := lc_in (List.mem_of_getElem? (i := 299) (by decide +kernel)) rfl
theorem mc_X0_roomOf : Cond.code yX0_roomOf cX0_roomOf 2 (some .int) ∈ lc_T := lc_in (List.mem_of_getElem? (i := 304) (by decide +kernel)) rfl
theorem md_X0_roomOf : yX0_roomOf.cls ≠ "java/lang/invoke/MethodHandle" ∧ yX0_roomOf.cls ≠ "java/lang/invoke/VarHandle" ∧ (parseMethodDescriptor yX0_roomOf.desc).map (fun d => d.parameters.length) = some 1 := ⟨by decide +kernel, by decide +kernel, by decide +kernel⟩
theorem mi_X0_roomOf : Cond.instanceMethod yX0_roomOf ∈ lc_T := lc_in (List.mem_of_getElem? (i := 302) (by decide +kernel)) rfl
theorem mv_X0_roomOf : Cond.selects yX0_roomOf.cls yX0_roomOf yX0_roomOf ∈ lc_T := lc_in (List.mem_of_getElem? (i := 303) (by decide +kernel)) rfl
theorem mc_X0_shuttle : Cond.code yX0_shuttle cX0_shuttle 5 (some .int) ∈ lc_T := lc_in (List.mem_of_getElem? (i := 308) (by decide +kernel)) rfl
theorem md_X0_shuttle : yX0_shuttle.cls ≠ "java/lang/invoke/MethodHandle" ∧ yX0_shuttle.cls ≠ "java/lang/invoke/VarHandle" ∧ (parseMethodDescriptor yX0_shuttle.desc).map (fun d => d.parameters.length) = some 3 := ⟨by decide +kernel, by decide +kernel, by decide +kernel⟩
theorem mi_X0_shuttle : Cond.instanceMethod yX0_shuttle ∈ lc_T := lc_in (List.mem_of_getElem? (i := 306) (by decide +kernel)) rfl
theorem mv_X0_shuttle : Cond.selects yX0_shuttle.cls yX0_shuttle yX0_shuttle ∈ lc_T := lc_in (List.mem_of_getElem? (i := 307) (by decide +kernel)) rfl
theorem mc_X3_most : Cond.code yX3_most cX3_most 2 (some .int) ∈ lc_T := lc_in (List.mem_of_getElem? (i := 312) (by decide +kernel)) rfl
theorem md_X3_most : yX3_most.cls ≠ "java/lang/invoke/MethodHandle" ∧ yX3_most.cls ≠ "java/lang/invoke/VarHandle" ∧ (parseMethodDescriptor yX3_most.desc).map (fun d => d.parameters.length) = some 0 := ⟨by decide +kernel, by decide +kernel, by decide +kernel⟩
theorem mi_X3_most : Cond.instanceMethod yX3_most ∈ lc_T := lc_in (List.mem_of_getElem? (i := 310) (by decide +kernel)) rfl
theorem mv_X3_most : Cond.selects yX3_most.cls yX3_most yX3_most ∈ lc_T := lc_in (List.mem_of_getElem? (i := 311) (by decide +kernel)) rfl
theorem mc_X0_copyFrom : Cond.code yX0_copyFrom cX0_copyFrom 2 none ∈ lc_T := lc_in (List.mem_of_getElem? (i := 316) (by decide +kernel)) rfl
theorem md_X0_copyFrom : yX0_copyFrom.cls ≠ "java/lang/invoke/MethodHandle" ∧ yX0_copyFrom.cls ≠ "java/lang/invoke/VarHandle" ∧ (parseMethodDescriptor yX0_copyFrom.desc).map (fun d => d.parameters.length) = some 1 := ⟨by decide +kernel, by decide +kernel, by decide +kernel⟩
theorem mi_X0_copyFrom : Cond.instanceMethod yX0_copyFrom ∈ lc_T := lc_in (List.mem_of_getElem? (i := 314) (by decide +kernel)) rfl
theorem mv_X0_copyFrom : Cond.selects yX0_copyFrom.cls yX0_copyFrom yX0_copyFrom ∈ lc_T := lc_in (List.mem_of_getElem? (i := 315) (by decide +kernel)) rfl
theorem mc_X0_giveEach : Cond.code yX0_giveEach cX0_giveEach 4 (some .int) ∈ lc_T := lc_in (List.mem_of_getElem? (i := 323) (by decide +kernel)) rfl
theorem md_X0_giveEach : yX0_giveEach.cls ≠ "java/lang/invoke/MethodHandle" ∧ yX0_giveEach.cls ≠ "java/lang/invoke/VarHandle" ∧ (parseMethodDescriptor yX0_giveEach.desc).map (fun d => d.parameters.length) = some 1 := ⟨by decide +kernel, by decide +kernel, by decide +kernel⟩
theorem mi_X0_giveEach : Cond.instanceMethod yX0_giveEach ∈ lc_T := lc_in (List.mem_of_getElem? (i := 321) (by decide +kernel)) rfl
theorem mv_X0_giveEach : Cond.selects yX0_giveEach.cls yX0_giveEach yX0_giveEach ∈ lc_T := lc_in (List.mem_of_getElem? (i := 322) (by decide +kernel)) rfl
theorem mc_X0_borrowUpTo : Cond.code yX0_borrowUpTo cX0_borrowUpTo 5 (some .boolean) ∈ lc_T := lc_in (List.mem_of_getElem? (i := 327) (by decide +kernel)) rfl
theorem md_X0_borrowUpTo : yX0_borrowUpTo.cls ≠ "java/lang/invoke/MethodHandle" ∧ yX0_borrowUpTo.cls ≠ "java/lang/invoke/VarHandle" ∧ (parseMethodDescriptor yX0_borrowUpTo.desc).map (fun d => d.parameters.length) = some 2 := ⟨by decide +kernel, by decide +kernel, by decide +kernel⟩
theorem mi_X0_borrowUpTo : Cond.instanceMethod yX0_borrowUpTo ∈ lc_T := lc_in (List.mem_of_getElem? (i := 325) (by decide +kernel)) rfl
theorem mv_X0_borrowUpTo : Cond.selects yX0_borrowUpTo.cls yX0_borrowUpTo yX0_borrowUpTo ∈ lc_T := lc_in (List.mem_of_getElem? (i := 326) (by decide +kernel)) rfl
theorem mc_X0_fullestOther : Cond.code yX0_fullestOther cX0_fullestOther 4 (some .int) ∈ lc_T := lc_in (List.mem_of_getElem? (i := 331) (by decide +kernel)) rfl
theorem md_X0_fullestOther : yX0_fullestOther.cls ≠ "java/lang/invoke/MethodHandle" ∧ yX0_fullestOther.cls ≠ "java/lang/invoke/VarHandle" ∧ (parseMethodDescriptor yX0_fullestOther.desc).map (fun d => d.parameters.length) = some 1 := ⟨by decide +kernel, by decide +kernel, by decide +kernel⟩
theorem mi_X0_fullestOther : Cond.instanceMethod yX0_fullestOther ∈ lc_T := lc_in (List.mem_of_getElem? (i := 329) (by decide +kernel)) rfl
theorem mv_X0_fullestOther : Cond.selects yX0_fullestOther.cls yX0_fullestOther yX0_fullestOther ∈ lc_T := lc_in (List.mem_of_getElem? (i := 330) (by decide +kernel)) rfl
theorem mc_X0_sizeToBring : Cond.code yX0_sizeToBring cX0_sizeToBring 5 (some .int) ∈ lc_T := lc_in (List.mem_of_getElem? (i := 335) (by decide +kernel)) rfl
theorem md_X0_sizeToBring : yX0_sizeToBring.cls ≠ "java/lang/invoke/MethodHandle" ∧ yX0_sizeToBring.cls ≠ "java/lang/invoke/VarHandle" ∧ (parseMethodDescriptor yX0_sizeToBring.desc).map (fun d => d.parameters.length) = some 3 := ⟨by decide +kernel, by decide +kernel, by decide +kernel⟩
theorem mi_X0_sizeToBring : Cond.instanceMethod yX0_sizeToBring ∈ lc_T := lc_in (List.mem_of_getElem? (i := 333) (by decide +kernel)) rfl
theorem mv_X0_sizeToBring : Cond.selects yX0_sizeToBring.cls yX0_sizeToBring yX0_sizeToBring ∈ lc_T := lc_in (List.mem_of_getElem? (i := 334) (by decide +kernel)) rfl
theorem mc_X3_append : Cond.code yX3_append cX3_append 2 (some .int) ∈ lc_T := lc_in (List.mem_of_getElem? (i := 345) (by decide +kernel)) rfl
theorem md_X3_append : yX3_append.cls ≠ "java/lang/invoke/MethodHandle" ∧ yX3_append.cls ≠ "java/lang/invoke/VarHandle" ∧ (parseMethodDescriptor yX3_append.desc).map (fun d => d.parameters.length) = some 1 := ⟨by decide +kernel, by decide +kernel, by decide +kernel⟩
theorem mi_X3_append : Cond.instanceMethod yX3_append ∈ lc_T := lc_in (List.mem_of_getElem? (i := 343) (by decide +kernel)) rfl
theorem mv_X3_append : Cond.selects yX3_append.cls yX3_append yX3_append ∈ lc_T := lc_in (List.mem_of_getElem? (i := 344) (by decide +kernel)) rfl
theorem mc_X2_put : Cond.code yX2_put cX2_put 2 (some .int) ∈ lc_T := lc_in (List.mem_of_getElem? (i := 434) (by decide +kernel)) rfl
theorem md_X2_put : yX2_put.cls ≠ "java/lang/invoke/MethodHandle" ∧ yX2_put.cls ≠ "java/lang/invoke/VarHandle" ∧ (parseMethodDescriptor yX2_put.desc).map (fun d => d.parameters.length) = some 1 := ⟨by decide +kernel, by decide +kernel, by decide +kernel⟩
theorem mi_X2_put : Cond.instanceMethod yX2_put ∈ lc_T := lc_in (List.mem_of_getElem? (i := 432) (by decide +kernel)) rfl
theorem mv_X2_put : Cond.selects yX2_put.cls yX2_put yX2_put ∈ lc_T := lc_in (List.mem_of_getElem? (i := 433) (by decide +kernel)) rfl
theorem mc_X3_load : Cond.code yX3_load cX3_load 2 (some .int) ∈ lc_T := lc_in (List.mem_of_getElem? (i := 441) (by decide +kernel)) rfl
theorem md_X3_load : yX3_load.cls ≠ "java/lang/invoke/MethodHandle" ∧ yX3_load.cls ≠ "java/lang/invoke/VarHandle" ∧ (parseMethodDescriptor yX3_load.desc).map (fun d => d.parameters.length) = some 0 := ⟨by decide +kernel, by decide +kernel, by decide +kernel⟩
theorem mi_X3_load : Cond.instanceMethod yX3_load ∈ lc_T := lc_in (List.mem_of_getElem? (i := 439) (by decide +kernel)) rfl
theorem mv_X3_load : Cond.selects yX3_load.cls yX3_load yX3_load ∈ lc_T := lc_in (List.mem_of_getElem? (i := 440) (by decide +kernel)) rfl
theorem mc_X1_forgetAll : Cond.code yX1_forgetAll cX1_forgetAll 1 none ∈ lc_T := lc_in (List.mem_of_getElem? (i := 446) (by decide +kernel)) rfl
theorem md_X1_forgetAll : yX1_forgetAll.cls ≠ "java/lang/invoke/MethodHandle" ∧ yX1_forgetAll.cls ≠ "java/lang/invoke/VarHandle" ∧ (parseMethodDescriptor yX1_forgetAll.desc).map (fun d => d.parameters.length) = some 0 := ⟨by decide +kernel, by decide +kernel, by decide +kernel⟩
theorem mi_X1_forgetAll : Cond.instanceMethod yX1_forgetAll ∈ lc_T := lc_in (List.mem_of_getElem? (i := 444) (by decide +kernel)) rfl
theorem mv_X1_forgetAll : Cond.selects yX1_forgetAll.cls yX1_forgetAll yX1_forgetAll ∈ lc_T := lc_in (List.mem_of_getElem? (i := 445) (by decide +kernel)) rfl
theorem mc_X3_about : Cond.code yX3_about cX3_about 2 (some .int) ∈ lc_T := lc_in (List.mem_of_getElem? (i := 453) (by decide +kernel)) rfl
theorem md_X3_about : yX3_about.cls ≠ "java/lang/invoke/MethodHandle" ∧ yX3_about.cls ≠ "java/lang/invoke/VarHandle" ∧ (parseMethodDescriptor yX3_about.desc).map (fun d => d.parameters.length) = some 1 := ⟨by decide +kernel, by decide +kernel, by decide +kernel⟩
theorem mi_X3_about : Cond.instanceMethod yX3_about ∈ lc_T := lc_in (List.mem_of_getElem? (i := 451) (by decide +kernel)) rfl
theorem mv_X3_about : Cond.selects yX3_about.cls yX3_about yX3_about ∈ lc_T := lc_in (List.mem_of_getElem? (i := 452) (by decide +kernel)) rfl
theorem mc_X0_allCharge : Cond.code yX0_allCharge cX0_allCharge 3 (some .int) ∈ lc_T := lc_in (List.mem_of_getElem? (i := 457) (by decide +kernel)) rfl
theorem md_X0_allCharge : yX0_allCharge.cls ≠ "java/lang/invoke/MethodHandle" ∧ yX0_allCharge.cls ≠ "java/lang/invoke/VarHandle" ∧ (parseMethodDescriptor yX0_allCharge.desc).map (fun d => d.parameters.length) = some 0 := ⟨by decide +kernel, by decide +kernel, by decide +kernel⟩
theorem mi_X0_allCharge : Cond.instanceMethod yX0_allCharge ∈ lc_T := lc_in (List.mem_of_getElem? (i := 455) (by decide +kernel)) rfl
theorem mv_X0_allCharge : Cond.selects yX0_allCharge.cls yX0_allCharge yX0_allCharge ∈ lc_T := lc_in (List.mem_of_getElem? (i := 456) (by decide +kernel)) rfl
theorem mc_X0_allOwed : Cond.code yX0_allOwed cX0_allOwed 3 (some .int) ∈ lc_T := lc_in (List.mem_of_getElem? (i := 461) (by decide +kernel)) rfl
theorem md_X0_allOwed : yX0_allOwed.cls ≠ "java/lang/invoke/MethodHandle" ∧ yX0_allOwed.cls ≠ "java/lang/invoke/VarHandle" ∧ (parseMethodDescriptor yX0_allOwed.desc).map (fun d => d.parameters.length) = some 0 := ⟨by decide +kernel, by decide +kernel, by decide +kernel⟩
theorem mi_X0_allOwed : Cond.instanceMethod yX0_allOwed ∈ lc_T := lc_in (List.mem_of_getElem? (i := 459) (by decide +kernel)) rfl
theorem mv_X0_allOwed : Cond.selects yX0_allOwed.cls yX0_allOwed yX0_allOwed ∈ lc_T := lc_in (List.mem_of_getElem? (i := 460) (by decide +kernel)) rfl
theorem mc_X0_bankruptCells : Cond.code yX0_bankruptCells cX0_bankruptCells 3 (some .int) ∈ lc_T := lc_in (List.mem_of_getElem? (i := 465) (by decide +kernel)) rfl
theorem md_X0_bankruptCells : yX0_bankruptCells.cls ≠ "java/lang/invoke/MethodHandle" ∧ yX0_bankruptCells.cls ≠ "java/lang/invoke/VarHandle" ∧ (parseMethodDescriptor yX0_bankruptCells.desc).map (fun d => d.parameters.length) = some 0 := ⟨by decide +kernel, by decide +kernel, by decide +kernel⟩
theorem mi_X0_bankruptCells : Cond.instanceMethod yX0_bankruptCells ∈ lc_T := lc_in (List.mem_of_getElem? (i := 463) (by decide +kernel)) rfl
theorem mv_X0_bankruptCells : Cond.selects yX0_bankruptCells.cls yX0_bankruptCells yX0_bankruptCells ∈ lc_T := lc_in (List.mem_of_getElem? (i := 464) (by decide +kernel)) rfl
theorem mc_X3_cell : Cond.code yX3_cell cX3_cell 3 (some .int) ∈ lc_T := lc_in (List.mem_of_getElem? (i := 474) (by decide +kernel)) rfl
theorem md_X3_cell : yX3_cell.cls ≠ "java/lang/invoke/MethodHandle" ∧ yX3_cell.cls ≠ "java/lang/invoke/VarHandle" ∧ (parseMethodDescriptor yX3_cell.desc).map (fun d => d.parameters.length) = some 2 := ⟨by decide +kernel, by decide +kernel, by decide +kernel⟩
theorem mi_X3_cell : Cond.instanceMethod yX3_cell ∈ lc_T := lc_in (List.mem_of_getElem? (i := 472) (by decide +kernel)) rfl
theorem mv_X3_cell : Cond.selects yX3_cell.cls yX3_cell yX3_cell ∈ lc_T := lc_in (List.mem_of_getElem? (i := 473) (by decide +kernel)) rfl
theorem mc_X0_owedBy : Cond.code yX0_owedBy cX0_owedBy 4 (some .int) ∈ lc_T := lc_in (List.mem_of_getElem? (i := 495) (by decide +kernel)) rfl
theorem md_X0_owedBy : yX0_owedBy.cls ≠ "java/lang/invoke/MethodHandle" ∧ yX0_owedBy.cls ≠ "java/lang/invoke/VarHandle" ∧ (parseMethodDescriptor yX0_owedBy.desc).map (fun d => d.parameters.length) = some 1 := ⟨by decide +kernel, by decide +kernel, by decide +kernel⟩
theorem mi_X0_owedBy : Cond.instanceMethod yX0_owedBy ∈ lc_T := lc_in (List.mem_of_getElem? (i := 493) (by decide +kernel)) rfl
theorem mv_X0_owedBy : Cond.selects yX0_owedBy.cls yX0_owedBy yX0_owedBy ∈ lc_T := lc_in (List.mem_of_getElem? (i := 494) (by decide +kernel)) rfl
theorem mc_X0_owedTo : Cond.code yX0_owedTo cX0_owedTo 4 (some .int) ∈ lc_T := lc_in (List.mem_of_getElem? (i := 499) (by decide +kernel)) rfl
theorem md_X0_owedTo : yX0_owedTo.cls ≠ "java/lang/invoke/MethodHandle" ∧ yX0_owedTo.cls ≠ "java/lang/invoke/VarHandle" ∧ (parseMethodDescriptor yX0_owedTo.desc).map (fun d => d.parameters.length) = some 1 := ⟨by decide +kernel, by decide +kernel, by decide +kernel⟩
theorem mi_X0_owedTo : Cond.instanceMethod yX0_owedTo ∈ lc_T := lc_in (List.mem_of_getElem? (i := 497) (by decide +kernel)) rfl
theorem mv_X0_owedTo : Cond.selects yX0_owedTo.cls yX0_owedTo yX0_owedTo ∈ lc_T := lc_in (List.mem_of_getElem? (i := 498) (by decide +kernel)) rfl
theorem mc_X0_interestBy : Cond.code yX0_interestBy cX0_interestBy 4 (some .int) ∈ lc_T := lc_in (List.mem_of_getElem? (i := 503) (by decide +kernel)) rfl
theorem md_X0_interestBy : yX0_interestBy.cls ≠ "java/lang/invoke/MethodHandle" ∧ yX0_interestBy.cls ≠ "java/lang/invoke/VarHandle" ∧ (parseMethodDescriptor yX0_interestBy.desc).map (fun d => d.parameters.length) = some 1 := ⟨by decide +kernel, by decide +kernel, by decide +kernel⟩
theorem mi_X0_interestBy : Cond.instanceMethod yX0_interestBy ∈ lc_T := lc_in (List.mem_of_getElem? (i := 501) (by decide +kernel)) rfl
theorem mv_X0_interestBy : Cond.selects yX0_interestBy.cls yX0_interestBy yX0_interestBy ∈ lc_T := lc_in (List.mem_of_getElem? (i := 502) (by decide +kernel)) rfl
theorem mc_X0_interestOf : Cond.code yX0_interestOf cX0_interestOf 2 (some .int) ∈ lc_T := lc_in (List.mem_of_getElem? (i := 507) (by decide +kernel)) rfl
theorem md_X0_interestOf : yX0_interestOf.cls ≠ "java/lang/invoke/MethodHandle" ∧ yX0_interestOf.cls ≠ "java/lang/invoke/VarHandle" ∧ (parseMethodDescriptor yX0_interestOf.desc).map (fun d => d.parameters.length) = some 1 := ⟨by decide +kernel, by decide +kernel, by decide +kernel⟩
theorem mi_X0_interestOf : Cond.instanceMethod yX0_interestOf ∈ lc_T := lc_in (List.mem_of_getElem? (i := 505) (by decide +kernel)) rfl
theorem mv_X0_interestOf : Cond.selects yX0_interestOf.cls yX0_interestOf yX0_interestOf ∈ lc_T := lc_in (List.mem_of_getElem? (i := 506) (by decide +kernel)) rfl
theorem mc_X0_hasLoan : Cond.code yX0_hasLoan cX0_hasLoan 2 (some .boolean) ∈ lc_T := lc_in (List.mem_of_getElem? (i := 511) (by decide +kernel)) rfl
theorem md_X0_hasLoan : yX0_hasLoan.cls ≠ "java/lang/invoke/MethodHandle" ∧ yX0_hasLoan.cls ≠ "java/lang/invoke/VarHandle" ∧ (parseMethodDescriptor yX0_hasLoan.desc).map (fun d => d.parameters.length) = some 1 := ⟨by decide +kernel, by decide +kernel, by decide +kernel⟩
theorem mi_X0_hasLoan : Cond.instanceMethod yX0_hasLoan ∈ lc_T := lc_in (List.mem_of_getElem? (i := 509) (by decide +kernel)) rfl
theorem mv_X0_hasLoan : Cond.selects yX0_hasLoan.cls yX0_hasLoan yX0_hasLoan ∈ lc_T := lc_in (List.mem_of_getElem? (i := 510) (by decide +kernel)) rfl
theorem mc_X0_kindOf : Cond.code yX0_kindOf cX0_kindOf 2 (some .int) ∈ lc_T := lc_in (List.mem_of_getElem? (i := 515) (by decide +kernel)) rfl
theorem md_X0_kindOf : yX0_kindOf.cls ≠ "java/lang/invoke/MethodHandle" ∧ yX0_kindOf.cls ≠ "java/lang/invoke/VarHandle" ∧ (parseMethodDescriptor yX0_kindOf.desc).map (fun d => d.parameters.length) = some 1 := ⟨by decide +kernel, by decide +kernel, by decide +kernel⟩
theorem mi_X0_kindOf : Cond.instanceMethod yX0_kindOf ∈ lc_T := lc_in (List.mem_of_getElem? (i := 513) (by decide +kernel)) rfl
theorem mv_X0_kindOf : Cond.selects yX0_kindOf.cls yX0_kindOf yX0_kindOf ∈ lc_T := lc_in (List.mem_of_getElem? (i := 514) (by decide +kernel)) rfl
theorem mc_X3_loan : Cond.code yX3_loan cX3_loan 3 (some .int) ∈ lc_T := lc_in (List.mem_of_getElem? (i := 524) (by decide +kernel)) rfl
theorem md_X3_loan : yX3_loan.cls ≠ "java/lang/invoke/MethodHandle" ∧ yX3_loan.cls ≠ "java/lang/invoke/VarHandle" ∧ (parseMethodDescriptor yX3_loan.desc).map (fun d => d.parameters.length) = some 2 := ⟨by decide +kernel, by decide +kernel, by decide +kernel⟩
theorem mi_X3_loan : Cond.instanceMethod yX3_loan ∈ lc_T := lc_in (List.mem_of_getElem? (i := 522) (by decide +kernel)) rfl
theorem mv_X3_loan : Cond.selects yX3_loan.cls yX3_loan yX3_loan ∈ lc_T := lc_in (List.mem_of_getElem? (i := 523) (by decide +kernel)) rfl
theorem mc_X3_order : Cond.code yX3_order cX3_order 2 (some .int) ∈ lc_T := lc_in (List.mem_of_getElem? (i := 535) (by decide +kernel)) rfl
theorem md_X3_order : yX3_order.cls ≠ "java/lang/invoke/MethodHandle" ∧ yX3_order.cls ≠ "java/lang/invoke/VarHandle" ∧ (parseMethodDescriptor yX3_order.desc).map (fun d => d.parameters.length) = some 1 := ⟨by decide +kernel, by decide +kernel, by decide +kernel⟩
theorem mi_X3_order : Cond.instanceMethod yX3_order ∈ lc_T := lc_in (List.mem_of_getElem? (i := 533) (by decide +kernel)) rfl
theorem mv_X3_order : Cond.selects yX3_order.cls yX3_order yX3_order ∈ lc_T := lc_in (List.mem_of_getElem? (i := 534) (by decide +kernel)) rfl
theorem mc_X0_cellAtPlace : Cond.code yX0_cellAtPlace cX0_cellAtPlace 3 (some .int) ∈ lc_T := lc_in (List.mem_of_getElem? (i := 540) (by decide +kernel)) rfl
theorem md_X0_cellAtPlace : yX0_cellAtPlace.cls ≠ "java/lang/invoke/MethodHandle" ∧ yX0_cellAtPlace.cls ≠ "java/lang/invoke/VarHandle" ∧ (parseMethodDescriptor yX0_cellAtPlace.desc).map (fun d => d.parameters.length) = some 1 := ⟨by decide +kernel, by decide +kernel, by decide +kernel⟩
theorem mi_X0_cellAtPlace : Cond.instanceMethod yX0_cellAtPlace ∈ lc_T := lc_in (List.mem_of_getElem? (i := 538) (by decide +kernel)) rfl
theorem mv_X0_cellAtPlace : Cond.selects yX0_cellAtPlace.cls yX0_cellAtPlace yX0_cellAtPlace ∈ lc_T := lc_in (List.mem_of_getElem? (i := 539) (by decide +kernel)) rfl
theorem mc_X0_placeOf : Cond.code yX0_placeOf cX0_placeOf 5 (some .int) ∈ lc_T := lc_in (List.mem_of_getElem? (i := 544) (by decide +kernel)) rfl
theorem md_X0_placeOf : yX0_placeOf.cls ≠ "java/lang/invoke/MethodHandle" ∧ yX0_placeOf.cls ≠ "java/lang/invoke/VarHandle" ∧ (parseMethodDescriptor yX0_placeOf.desc).map (fun d => d.parameters.length) = some 1 := ⟨by decide +kernel, by decide +kernel, by decide +kernel⟩
theorem mi_X0_placeOf : Cond.instanceMethod yX0_placeOf ∈ lc_T := lc_in (List.mem_of_getElem? (i := 542) (by decide +kernel)) rfl
theorem mv_X0_placeOf : Cond.selects yX0_placeOf.cls yX0_placeOf yX0_placeOf ∈ lc_T := lc_in (List.mem_of_getElem? (i := 543) (by decide +kernel)) rfl
theorem mc_X3_addCell : Cond.code yX3_addCell cX3_addCell 4 (some .int) ∈ lc_T := lc_in (List.mem_of_getElem? (i := 551) (by decide +kernel)) rfl
theorem md_X3_addCell : yX3_addCell.cls ≠ "java/lang/invoke/MethodHandle" ∧ yX3_addCell.cls ≠ "java/lang/invoke/VarHandle" ∧ (parseMethodDescriptor yX3_addCell.desc).map (fun d => d.parameters.length) = some 3 := ⟨by decide +kernel, by decide +kernel, by decide +kernel⟩
theorem mi_X3_addCell : Cond.instanceMethod yX3_addCell ∈ lc_T := lc_in (List.mem_of_getElem? (i := 549) (by decide +kernel)) rfl
theorem mv_X3_addCell : Cond.selects yX3_addCell.cls yX3_addCell yX3_addCell ∈ lc_T := lc_in (List.mem_of_getElem? (i := 550) (by decide +kernel)) rfl
theorem mc_X1_remember : Cond.code yX1_remember cX1_remember 2 none ∈ lc_T := lc_in (List.mem_of_getElem? (i := 557) (by decide +kernel)) rfl
theorem md_X1_remember : yX1_remember.cls ≠ "java/lang/invoke/MethodHandle" ∧ yX1_remember.cls ≠ "java/lang/invoke/VarHandle" ∧ (parseMethodDescriptor yX1_remember.desc).map (fun d => d.parameters.length) = some 1 := ⟨by decide +kernel, by decide +kernel, by decide +kernel⟩
theorem mi_X1_remember : Cond.instanceMethod yX1_remember ∈ lc_T := lc_in (List.mem_of_getElem? (i := 555) (by decide +kernel)) rfl
theorem mv_X1_remember : Cond.selects yX1_remember.cls yX1_remember yX1_remember ∈ lc_T := lc_in (List.mem_of_getElem? (i := 556) (by decide +kernel)) rfl
theorem mc_X3_lend : Cond.code yX3_lend cX3_lend 5 (some .int) ∈ lc_T := lc_in (List.mem_of_getElem? (i := 566) (by decide +kernel)) rfl
theorem md_X3_lend : yX3_lend.cls ≠ "java/lang/invoke/MethodHandle" ∧ yX3_lend.cls ≠ "java/lang/invoke/VarHandle" ∧ (parseMethodDescriptor yX3_lend.desc).map (fun d => d.parameters.length) = some 4 := ⟨by decide +kernel, by decide +kernel, by decide +kernel⟩
theorem mi_X3_lend : Cond.instanceMethod yX3_lend ∈ lc_T := lc_in (List.mem_of_getElem? (i := 564) (by decide +kernel)) rfl
theorem mv_X3_lend : Cond.selects yX3_lend.cls yX3_lend yX3_lend ∈ lc_T := lc_in (List.mem_of_getElem? (i := 565) (by decide +kernel)) rfl
theorem mc_X3_isUnits : Cond.code yX3_isUnits cX3_isUnits 1 (some .boolean) ∈ lc_T := lc_in (List.mem_of_getElem? (i := 569) (by decide +kernel)) rfl
theorem md_X3_isUnits : yX3_isUnits.cls ≠ "java/lang/invoke/MethodHandle" ∧ yX3_isUnits.cls ≠ "java/lang/invoke/VarHandle" ∧ (parseMethodDescriptor yX3_isUnits.desc).map (fun d => d.parameters.length) = some 1 := ⟨by decide +kernel, by decide +kernel, by decide +kernel⟩
theorem ms_X3_isUnits : Cond.static yX3_isUnits ∈ lc_T := lc_in (List.mem_of_getElem? (i := 568) (by decide +kernel)) rfl
theorem mc_X3_repay : Cond.code yX3_repay cX3_repay 3 (some .int) ∈ lc_T := lc_in (List.mem_of_getElem? (i := 580) (by decide +kernel)) rfl
theorem md_X3_repay : yX3_repay.cls ≠ "java/lang/invoke/MethodHandle" ∧ yX3_repay.cls ≠ "java/lang/invoke/VarHandle" ∧ (parseMethodDescriptor yX3_repay.desc).map (fun d => d.parameters.length) = some 2 := ⟨by decide +kernel, by decide +kernel, by decide +kernel⟩
theorem mi_X3_repay : Cond.instanceMethod yX3_repay ∈ lc_T := lc_in (List.mem_of_getElem? (i := 578) (by decide +kernel)) rfl
theorem mv_X3_repay : Cond.selects yX3_repay.cls yX3_repay yX3_repay ∈ lc_T := lc_in (List.mem_of_getElem? (i := 579) (by decide +kernel)) rfl
theorem mc_X0_canPayBack : Cond.code yX0_canPayBack cX0_canPayBack 3 (some .boolean) ∈ lc_T := lc_in (List.mem_of_getElem? (i := 585) (by decide +kernel)) rfl
theorem md_X0_canPayBack : yX0_canPayBack.cls ≠ "java/lang/invoke/MethodHandle" ∧ yX0_canPayBack.cls ≠ "java/lang/invoke/VarHandle" ∧ (parseMethodDescriptor yX0_canPayBack.desc).map (fun d => d.parameters.length) = some 2 := ⟨by decide +kernel, by decide +kernel, by decide +kernel⟩
theorem mi_X0_canPayBack : Cond.instanceMethod yX0_canPayBack ∈ lc_T := lc_in (List.mem_of_getElem? (i := 583) (by decide +kernel)) rfl
theorem mv_X0_canPayBack : Cond.selects yX0_canPayBack.cls yX0_canPayBack yX0_canPayBack ∈ lc_T := lc_in (List.mem_of_getElem? (i := 584) (by decide +kernel)) rfl
theorem mc_X0_payBack : Cond.code yX0_payBack cX0_payBack 4 (some .int) ∈ lc_T := lc_in (List.mem_of_getElem? (i := 590) (by decide +kernel)) rfl
theorem md_X0_payBack : yX0_payBack.cls ≠ "java/lang/invoke/MethodHandle" ∧ yX0_payBack.cls ≠ "java/lang/invoke/VarHandle" ∧ (parseMethodDescriptor yX0_payBack.desc).map (fun d => d.parameters.length) = some 2 := ⟨by decide +kernel, by decide +kernel, by decide +kernel⟩
theorem mi_X0_payBack : Cond.instanceMethod yX0_payBack ∈ lc_T := lc_in (List.mem_of_getElem? (i := 588) (by decide +kernel)) rfl
theorem mv_X0_payBack : Cond.selects yX0_payBack.cls yX0_payBack yX0_payBack ∈ lc_T := lc_in (List.mem_of_getElem? (i := 589) (by decide +kernel)) rfl
theorem mc_X0_removeLoan : Cond.code yX0_removeLoan cX0_removeLoan 3 none ∈ lc_T := lc_in (List.mem_of_getElem? (i := 595) (by decide +kernel)) rfl
theorem md_X0_removeLoan : yX0_removeLoan.cls ≠ "java/lang/invoke/MethodHandle" ∧ yX0_removeLoan.cls ≠ "java/lang/invoke/VarHandle" ∧ (parseMethodDescriptor yX0_removeLoan.desc).map (fun d => d.parameters.length) = some 1 := ⟨by decide +kernel, by decide +kernel, by decide +kernel⟩
theorem mi_X0_removeLoan : Cond.instanceMethod yX0_removeLoan ∈ lc_T := lc_in (List.mem_of_getElem? (i := 593) (by decide +kernel)) rfl
theorem mv_X0_removeLoan : Cond.selects yX0_removeLoan.cls yX0_removeLoan yX0_removeLoan ∈ lc_T := lc_in (List.mem_of_getElem? (i := 594) (by decide +kernel)) rfl
theorem mc_X3_setLeak : Cond.code yX3_setLeak cX3_setLeak 4 (some .int) ∈ lc_T := lc_in (List.mem_of_getElem? (i := 602) (by decide +kernel)) rfl
theorem md_X3_setLeak : yX3_setLeak.cls ≠ "java/lang/invoke/MethodHandle" ∧ yX3_setLeak.cls ≠ "java/lang/invoke/VarHandle" ∧ (parseMethodDescriptor yX3_setLeak.desc).map (fun d => d.parameters.length) = some 2 := ⟨by decide +kernel, by decide +kernel, by decide +kernel⟩
theorem mi_X3_setLeak : Cond.instanceMethod yX3_setLeak ∈ lc_T := lc_in (List.mem_of_getElem? (i := 600) (by decide +kernel)) rfl
theorem mv_X3_setLeak : Cond.selects yX3_setLeak.cls yX3_setLeak yX3_setLeak ∈ lc_T := lc_in (List.mem_of_getElem? (i := 601) (by decide +kernel)) rfl
theorem mc_X3_charge : Cond.code yX3_charge cX3_charge 2 (some .int) ∈ lc_T := lc_in (List.mem_of_getElem? (i := 610) (by decide +kernel)) rfl
theorem md_X3_charge : yX3_charge.cls ≠ "java/lang/invoke/MethodHandle" ∧ yX3_charge.cls ≠ "java/lang/invoke/VarHandle" ∧ (parseMethodDescriptor yX3_charge.desc).map (fun d => d.parameters.length) = some 1 := ⟨by decide +kernel, by decide +kernel, by decide +kernel⟩
theorem mi_X3_charge : Cond.instanceMethod yX3_charge ∈ lc_T := lc_in (List.mem_of_getElem? (i := 608) (by decide +kernel)) rfl
theorem mv_X3_charge : Cond.selects yX3_charge.cls yX3_charge yX3_charge ∈ lc_T := lc_in (List.mem_of_getElem? (i := 609) (by decide +kernel)) rfl
theorem mc_X0_fillEach : Cond.code yX0_fillEach cX0_fillEach 5 (some .int) ∈ lc_T := lc_in (List.mem_of_getElem? (i := 614) (by decide +kernel)) rfl
theorem md_X0_fillEach : yX0_fillEach.cls ≠ "java/lang/invoke/MethodHandle" ∧ yX0_fillEach.cls ≠ "java/lang/invoke/VarHandle" ∧ (parseMethodDescriptor yX0_fillEach.desc).map (fun d => d.parameters.length) = some 1 := ⟨by decide +kernel, by decide +kernel, by decide +kernel⟩
theorem mi_X0_fillEach : Cond.instanceMethod yX0_fillEach ∈ lc_T := lc_in (List.mem_of_getElem? (i := 612) (by decide +kernel)) rfl
theorem mv_X0_fillEach : Cond.selects yX0_fillEach.cls yX0_fillEach yX0_fillEach ∈ lc_T := lc_in (List.mem_of_getElem? (i := 613) (by decide +kernel)) rfl
theorem mc_J9_min_7cf53 : Cond.code yJ9_min_7cf53 cJ9_min_7cf53 2 (some .int) ∈ lc_T := lc_in (List.mem_of_getElem? (i := 617) (by decide +kernel)) rfl
theorem md_J9_min_7cf53 : yJ9_min_7cf53.cls ≠ "java/lang/invoke/MethodHandle" ∧ yJ9_min_7cf53.cls ≠ "java/lang/invoke/VarHandle" ∧ (parseMethodDescriptor yJ9_min_7cf53.desc).map (fun d => d.parameters.length) = some 2 := ⟨by decide +kernel, by decide +kernel, by decide +kernel⟩
theorem ms_J9_min_7cf53 : Cond.static yJ9_min_7cf53 ∈ lc_T := lc_in (List.mem_of_getElem? (i := 616) (by decide +kernel)) rfl
theorem mc_X3_draw : Cond.code yX3_draw cX3_draw 3 (some .int) ∈ lc_T := lc_in (List.mem_of_getElem? (i := 624) (by decide +kernel)) rfl
theorem md_X3_draw : yX3_draw.cls ≠ "java/lang/invoke/MethodHandle" ∧ yX3_draw.cls ≠ "java/lang/invoke/VarHandle" ∧ (parseMethodDescriptor yX3_draw.desc).map (fun d => d.parameters.length) = some 1 := ⟨by decide +kernel, by decide +kernel, by decide +kernel⟩
theorem mi_X3_draw : Cond.instanceMethod yX3_draw ∈ lc_T := lc_in (List.mem_of_getElem? (i := 622) (by decide +kernel)) rfl
theorem mv_X3_draw : Cond.selects yX3_draw.cls yX3_draw yX3_draw ∈ lc_T := lc_in (List.mem_of_getElem? (i := 623) (by decide +kernel)) rfl
theorem mc_X3_pass : Cond.code yX3_pass cX3_pass 2 (some .int) ∈ lc_T := lc_in (List.mem_of_getElem? (i := 632) (by decide +kernel)) rfl
theorem md_X3_pass : yX3_pass.cls ≠ "java/lang/invoke/MethodHandle" ∧ yX3_pass.cls ≠ "java/lang/invoke/VarHandle" ∧ (parseMethodDescriptor yX3_pass.desc).map (fun d => d.parameters.length) = some 1 := ⟨by decide +kernel, by decide +kernel, by decide +kernel⟩
theorem mi_X3_pass : Cond.instanceMethod yX3_pass ∈ lc_T := lc_in (List.mem_of_getElem? (i := 630) (by decide +kernel)) rfl
theorem mv_X3_pass : Cond.selects yX3_pass.cls yX3_pass yX3_pass ∈ lc_T := lc_in (List.mem_of_getElem? (i := 631) (by decide +kernel)) rfl
theorem mc_X0_letRoundsGoBy : Cond.code yX0_letRoundsGoBy cX0_letRoundsGoBy 4 (some .int) ∈ lc_T := lc_in (List.mem_of_getElem? (i := 637) (by decide +kernel)) rfl
theorem md_X0_letRoundsGoBy : yX0_letRoundsGoBy.cls ≠ "java/lang/invoke/MethodHandle" ∧ yX0_letRoundsGoBy.cls ≠ "java/lang/invoke/VarHandle" ∧ (parseMethodDescriptor yX0_letRoundsGoBy.desc).map (fun d => d.parameters.length) = some 1 := ⟨by decide +kernel, by decide +kernel, by decide +kernel⟩
theorem mi_X0_letRoundsGoBy : Cond.instanceMethod yX0_letRoundsGoBy ∈ lc_T := lc_in (List.mem_of_getElem? (i := 635) (by decide +kernel)) rfl
theorem mv_X0_letRoundsGoBy : Cond.selects yX0_letRoundsGoBy.cls yX0_letRoundsGoBy yX0_letRoundsGoBy ∈ lc_T := lc_in (List.mem_of_getElem? (i := 636) (by decide +kernel)) rfl
theorem mc_X0_letRoundGoBy : Cond.code yX0_letRoundGoBy cX0_letRoundGoBy 3 (some .int) ∈ lc_T := lc_in (List.mem_of_getElem? (i := 641) (by decide +kernel)) rfl
theorem md_X0_letRoundGoBy : yX0_letRoundGoBy.cls ≠ "java/lang/invoke/MethodHandle" ∧ yX0_letRoundGoBy.cls ≠ "java/lang/invoke/VarHandle" ∧ (parseMethodDescriptor yX0_letRoundGoBy.desc).map (fun d => d.parameters.length) = some 0 := ⟨by decide +kernel, by decide +kernel, by decide +kernel⟩
theorem mi_X0_letRoundGoBy : Cond.instanceMethod yX0_letRoundGoBy ∈ lc_T := lc_in (List.mem_of_getElem? (i := 639) (by decide +kernel)) rfl
theorem mv_X0_letRoundGoBy : Cond.selects yX0_letRoundGoBy.cls yX0_letRoundGoBy yX0_letRoundGoBy ∈ lc_T := lc_in (List.mem_of_getElem? (i := 640) (by decide +kernel)) rfl
theorem mc_X0_leakAll : Cond.code yX0_leakAll cX0_leakAll 2 none ∈ lc_T := lc_in (List.mem_of_getElem? (i := 645) (by decide +kernel)) rfl
theorem md_X0_leakAll : yX0_leakAll.cls ≠ "java/lang/invoke/MethodHandle" ∧ yX0_leakAll.cls ≠ "java/lang/invoke/VarHandle" ∧ (parseMethodDescriptor yX0_leakAll.desc).map (fun d => d.parameters.length) = some 0 := ⟨by decide +kernel, by decide +kernel, by decide +kernel⟩
theorem mi_X0_leakAll : Cond.instanceMethod yX0_leakAll ∈ lc_T := lc_in (List.mem_of_getElem? (i := 643) (by decide +kernel)) rfl
theorem mv_X0_leakAll : Cond.selects yX0_leakAll.cls yX0_leakAll yX0_leakAll ∈ lc_T := lc_in (List.mem_of_getElem? (i := 644) (by decide +kernel)) rfl
theorem mc_X0_loseAsHeat : Cond.code yX0_loseAsHeat cX0_loseAsHeat 3 none ∈ lc_T := lc_in (List.mem_of_getElem? (i := 649) (by decide +kernel)) rfl
theorem md_X0_loseAsHeat : yX0_loseAsHeat.cls ≠ "java/lang/invoke/MethodHandle" ∧ yX0_loseAsHeat.cls ≠ "java/lang/invoke/VarHandle" ∧ (parseMethodDescriptor yX0_loseAsHeat.desc).map (fun d => d.parameters.length) = some 2 := ⟨by decide +kernel, by decide +kernel, by decide +kernel⟩
theorem mi_X0_loseAsHeat : Cond.instanceMethod yX0_loseAsHeat ∈ lc_T := lc_in (List.mem_of_getElem? (i := 647) (by decide +kernel)) rfl
theorem mv_X0_loseAsHeat : Cond.selects yX0_loseAsHeat.cls yX0_loseAsHeat yX0_loseAsHeat ∈ lc_T := lc_in (List.mem_of_getElem? (i := 648) (by decide +kernel)) rfl
theorem mc_X0_burnInterest : Cond.code yX0_burnInterest cX0_burnInterest 5 (some .int) ∈ lc_T := lc_in (List.mem_of_getElem? (i := 653) (by decide +kernel)) rfl
theorem md_X0_burnInterest : yX0_burnInterest.cls ≠ "java/lang/invoke/MethodHandle" ∧ yX0_burnInterest.cls ≠ "java/lang/invoke/VarHandle" ∧ (parseMethodDescriptor yX0_burnInterest.desc).map (fun d => d.parameters.length) = some 0 := ⟨by decide +kernel, by decide +kernel, by decide +kernel⟩
theorem mi_X0_burnInterest : Cond.instanceMethod yX0_burnInterest ∈ lc_T := lc_in (List.mem_of_getElem? (i := 651) (by decide +kernel)) rfl
theorem mv_X0_burnInterest : Cond.selects yX0_burnInterest.cls yX0_burnInterest yX0_burnInterest ∈ lc_T := lc_in (List.mem_of_getElem? (i := 652) (by decide +kernel)) rfl
theorem mc_X0_countLateRounds : Cond.code yX0_countLateRounds cX0_countLateRounds 5 (some .int) ∈ lc_T := lc_in (List.mem_of_getElem? (i := 657) (by decide +kernel)) rfl
theorem md_X0_countLateRounds : yX0_countLateRounds.cls ≠ "java/lang/invoke/MethodHandle" ∧ yX0_countLateRounds.cls ≠ "java/lang/invoke/VarHandle" ∧ (parseMethodDescriptor yX0_countLateRounds.desc).map (fun d => d.parameters.length) = some 1 := ⟨by decide +kernel, by decide +kernel, by decide +kernel⟩
theorem mi_X0_countLateRounds : Cond.instanceMethod yX0_countLateRounds ∈ lc_T := lc_in (List.mem_of_getElem? (i := 655) (by decide +kernel)) rfl
theorem mv_X0_countLateRounds : Cond.selects yX0_countLateRounds.cls yX0_countLateRounds yX0_countLateRounds ∈ lc_T := lc_in (List.mem_of_getElem? (i := 656) (by decide +kernel)) rfl
theorem mc_X0_shareOut : Cond.code yX0_shareOut cX0_shareOut 8 none ∈ lc_T := lc_in (List.mem_of_getElem? (i := 661) (by decide +kernel)) rfl
theorem md_X0_shareOut : yX0_shareOut.cls ≠ "java/lang/invoke/MethodHandle" ∧ yX0_shareOut.cls ≠ "java/lang/invoke/VarHandle" ∧ (parseMethodDescriptor yX0_shareOut.desc).map (fun d => d.parameters.length) = some 1 := ⟨by decide +kernel, by decide +kernel, by decide +kernel⟩
theorem mi_X0_shareOut : Cond.instanceMethod yX0_shareOut ∈ lc_T := lc_in (List.mem_of_getElem? (i := 659) (by decide +kernel)) rfl
theorem mv_X0_shareOut : Cond.selects yX0_shareOut.cls yX0_shareOut yX0_shareOut ∈ lc_T := lc_in (List.mem_of_getElem? (i := 660) (by decide +kernel)) rfl
theorem mc_X0_dropLoansOf : Cond.code yX0_dropLoansOf cX0_dropLoansOf 3 none ∈ lc_T := lc_in (List.mem_of_getElem? (i := 665) (by decide +kernel)) rfl
theorem md_X0_dropLoansOf : yX0_dropLoansOf.cls ≠ "java/lang/invoke/MethodHandle" ∧ yX0_dropLoansOf.cls ≠ "java/lang/invoke/VarHandle" ∧ (parseMethodDescriptor yX0_dropLoansOf.desc).map (fun d => d.parameters.length) = some 1 := ⟨by decide +kernel, by decide +kernel, by decide +kernel⟩
theorem mi_X0_dropLoansOf : Cond.instanceMethod yX0_dropLoansOf ∈ lc_T := lc_in (List.mem_of_getElem? (i := 663) (by decide +kernel)) rfl
theorem mv_X0_dropLoansOf : Cond.selects yX0_dropLoansOf.cls yX0_dropLoansOf yX0_dropLoansOf ∈ lc_T := lc_in (List.mem_of_getElem? (i := 664) (by decide +kernel)) rfl
theorem mc_X3_undo : Cond.code yX3_undo cX3_undo 1 (some .int) ∈ lc_T := lc_in (List.mem_of_getElem? (i := 672) (by decide +kernel)) rfl
theorem md_X3_undo : yX3_undo.cls ≠ "java/lang/invoke/MethodHandle" ∧ yX3_undo.cls ≠ "java/lang/invoke/VarHandle" ∧ (parseMethodDescriptor yX3_undo.desc).map (fun d => d.parameters.length) = some 0 := ⟨by decide +kernel, by decide +kernel, by decide +kernel⟩
theorem mi_X3_undo : Cond.instanceMethod yX3_undo ∈ lc_T := lc_in (List.mem_of_getElem? (i := 670) (by decide +kernel)) rfl
theorem mv_X3_undo : Cond.selects yX3_undo.cls yX3_undo yX3_undo ∈ lc_T := lc_in (List.mem_of_getElem? (i := 671) (by decide +kernel)) rfl
theorem mc_X1_takeBack : Cond.code yX1_takeBack cX1_takeBack 2 none ∈ lc_T := lc_in (List.mem_of_getElem? (i := 677) (by decide +kernel)) rfl
theorem md_X1_takeBack : yX1_takeBack.cls ≠ "java/lang/invoke/MethodHandle" ∧ yX1_takeBack.cls ≠ "java/lang/invoke/VarHandle" ∧ (parseMethodDescriptor yX1_takeBack.desc).map (fun d => d.parameters.length) = some 1 := ⟨by decide +kernel, by decide +kernel, by decide +kernel⟩
theorem mi_X1_takeBack : Cond.instanceMethod yX1_takeBack ∈ lc_T := lc_in (List.mem_of_getElem? (i := 675) (by decide +kernel)) rfl
theorem mv_X1_takeBack : Cond.selects yX1_takeBack.cls yX1_takeBack yX1_takeBack ∈ lc_T := lc_in (List.mem_of_getElem? (i := 676) (by decide +kernel)) rfl
theorem mc_X3_holds : Cond.code yX3_holds cX3_holds 3 (some .int) ∈ lc_T := lc_in (List.mem_of_getElem? (i := 684) (by decide +kernel)) rfl
theorem md_X3_holds : yX3_holds.cls ≠ "java/lang/invoke/MethodHandle" ∧ yX3_holds.cls ≠ "java/lang/invoke/VarHandle" ∧ (parseMethodDescriptor yX3_holds.desc).map (fun d => d.parameters.length) = some 1 := ⟨by decide +kernel, by decide +kernel, by decide +kernel⟩
theorem mi_X3_holds : Cond.instanceMethod yX3_holds ∈ lc_T := lc_in (List.mem_of_getElem? (i := 682) (by decide +kernel)) rfl
theorem mv_X3_holds : Cond.selects yX3_holds.cls yX3_holds yX3_holds ∈ lc_T := lc_in (List.mem_of_getElem? (i := 683) (by decide +kernel)) rfl
theorem mc_X3_draws : Cond.code yX3_draws cX3_draws 3 (some .int) ∈ lc_T := lc_in (List.mem_of_getElem? (i := 693) (by decide +kernel)) rfl
theorem md_X3_draws : yX3_draws.cls ≠ "java/lang/invoke/MethodHandle" ∧ yX3_draws.cls ≠ "java/lang/invoke/VarHandle" ∧ (parseMethodDescriptor yX3_draws.desc).map (fun d => d.parameters.length) = some 1 := ⟨by decide +kernel, by decide +kernel, by decide +kernel⟩
theorem mi_X3_draws : Cond.instanceMethod yX3_draws ∈ lc_T := lc_in (List.mem_of_getElem? (i := 691) (by decide +kernel)) rfl
theorem mv_X3_draws : Cond.selects yX3_draws.cls yX3_draws yX3_draws ∈ lc_T := lc_in (List.mem_of_getElem? (i := 692) (by decide +kernel)) rfl
theorem mc_X3_bestLender : Cond.code yX3_bestLender cX3_bestLender 3 (some .int) ∈ lc_T := lc_in (List.mem_of_getElem? (i := 700) (by decide +kernel)) rfl
theorem md_X3_bestLender : yX3_bestLender.cls ≠ "java/lang/invoke/MethodHandle" ∧ yX3_bestLender.cls ≠ "java/lang/invoke/VarHandle" ∧ (parseMethodDescriptor yX3_bestLender.desc).map (fun d => d.parameters.length) = some 2 := ⟨by decide +kernel, by decide +kernel, by decide +kernel⟩
theorem mi_X3_bestLender : Cond.instanceMethod yX3_bestLender ∈ lc_T := lc_in (List.mem_of_getElem? (i := 698) (by decide +kernel)) rfl
theorem mv_X3_bestLender : Cond.selects yX3_bestLender.cls yX3_bestLender yX3_bestLender ∈ lc_T := lc_in (List.mem_of_getElem? (i := 699) (by decide +kernel)) rfl
theorem mc_X0_cheapestLender : Cond.code yX0_cheapestLender cX0_cheapestLender 8 (some .int) ∈ lc_T := lc_in (List.mem_of_getElem? (i := 704) (by decide +kernel)) rfl
theorem md_X0_cheapestLender : yX0_cheapestLender.cls ≠ "java/lang/invoke/MethodHandle" ∧ yX0_cheapestLender.cls ≠ "java/lang/invoke/VarHandle" ∧ (parseMethodDescriptor yX0_cheapestLender.desc).map (fun d => d.parameters.length) = some 2 := ⟨by decide +kernel, by decide +kernel, by decide +kernel⟩
theorem mi_X0_cheapestLender : Cond.instanceMethod yX0_cheapestLender ∈ lc_T := lc_in (List.mem_of_getElem? (i := 702) (by decide +kernel)) rfl
theorem mv_X0_cheapestLender : Cond.selects yX0_cheapestLender.cls yX0_cheapestLender yX0_cheapestLender ∈ lc_T := lc_in (List.mem_of_getElem? (i := 703) (by decide +kernel)) rfl
theorem mc_X3_costs : Cond.code yX3_costs cX3_costs 3 (some .int) ∈ lc_T := lc_in (List.mem_of_getElem? (i := 711) (by decide +kernel)) rfl
theorem md_X3_costs : yX3_costs.cls ≠ "java/lang/invoke/MethodHandle" ∧ yX3_costs.cls ≠ "java/lang/invoke/VarHandle" ∧ (parseMethodDescriptor yX3_costs.desc).map (fun d => d.parameters.length) = some 2 := ⟨by decide +kernel, by decide +kernel, by decide +kernel⟩
theorem mi_X3_costs : Cond.instanceMethod yX3_costs ∈ lc_T := lc_in (List.mem_of_getElem? (i := 709) (by decide +kernel)) rfl
theorem mv_X3_costs : Cond.selects yX3_costs.cls yX3_costs yX3_costs ∈ lc_T := lc_in (List.mem_of_getElem? (i := 710) (by decide +kernel)) rfl
theorem mc_X3_runScript : Cond.code yX3_runScript cX3_runScript 7 (some .int) ∈ lc_T := lc_in (List.mem_of_getElem? (i := 718) (by decide +kernel)) rfl
theorem md_X3_runScript : yX3_runScript.cls ≠ "java/lang/invoke/MethodHandle" ∧ yX3_runScript.cls ≠ "java/lang/invoke/VarHandle" ∧ (parseMethodDescriptor yX3_runScript.desc).map (fun d => d.parameters.length) = some 2 := ⟨by decide +kernel, by decide +kernel, by decide +kernel⟩
theorem mi_X3_runScript : Cond.instanceMethod yX3_runScript ∈ lc_T := lc_in (List.mem_of_getElem? (i := 716) (by decide +kernel)) rfl
theorem mv_X3_runScript : Cond.selects yX3_runScript.cls yX3_runScript yX3_runScript ∈ lc_T := lc_in (List.mem_of_getElem? (i := 717) (by decide +kernel)) rfl
theorem mc_X3_withoutLastGroups : Cond.code yX3_withoutLastGroups cX3_withoutLastGroups 6 (some .long) ∈ lc_T := lc_in (List.mem_of_getElem? (i := 722) (by decide +kernel)) rfl
theorem md_X3_withoutLastGroups : yX3_withoutLastGroups.cls ≠ "java/lang/invoke/MethodHandle" ∧ yX3_withoutLastGroups.cls ≠ "java/lang/invoke/VarHandle" ∧ (parseMethodDescriptor yX3_withoutLastGroups.desc).map (fun d => d.parameters.length) = some 2 := ⟨by decide +kernel, by decide +kernel, by decide +kernel⟩
theorem ms_X3_withoutLastGroups : Cond.static yX3_withoutLastGroups ∈ lc_T := lc_in (List.mem_of_getElem? (i := 721) (by decide +kernel)) rfl
theorem mc_X3_succeeds : Cond.code yX3_succeeds cX3_succeeds 7 (some .boolean) ∈ lc_T := lc_in (List.mem_of_getElem? (i := 727) (by decide +kernel)) rfl
theorem md_X3_succeeds : yX3_succeeds.cls ≠ "java/lang/invoke/MethodHandle" ∧ yX3_succeeds.cls ≠ "java/lang/invoke/VarHandle" ∧ (parseMethodDescriptor yX3_succeeds.desc).map (fun d => d.parameters.length) = some 2 := ⟨by decide +kernel, by decide +kernel, by decide +kernel⟩
theorem ms_X3_succeeds : Cond.static yX3_succeeds ∈ lc_T := lc_in (List.mem_of_getElem? (i := 726) (by decide +kernel)) rfl
theorem mc_J6_bitCount_0f7a4 : Cond.code yJ6_bitCount_0f7a4 cJ6_bitCount_0f7a4 1 (some .int) ∈ lc_T := lc_in (List.mem_of_getElem? (i := 731) (by decide +kernel)) rfl
theorem md_J6_bitCount_0f7a4 : yJ6_bitCount_0f7a4.cls ≠ "java/lang/invoke/MethodHandle" ∧ yJ6_bitCount_0f7a4.cls ≠ "java/lang/invoke/VarHandle" ∧ (parseMethodDescriptor yJ6_bitCount_0f7a4.desc).map (fun d => d.parameters.length) = some 1 := ⟨by decide +kernel, by decide +kernel, by decide +kernel⟩
theorem ms_J6_bitCount_0f7a4 : Cond.static yJ6_bitCount_0f7a4 ∈ lc_T := lc_in (List.mem_of_getElem? (i := 730) (by decide +kernel)) rfl
theorem mc_X3_simulate : Cond.code yX3_simulate cX3_simulate 10 (some .int) ∈ lc_T := lc_in (List.mem_of_getElem? (i := 741) (by decide +kernel)) rfl
theorem md_X3_simulate : yX3_simulate.cls ≠ "java/lang/invoke/MethodHandle" ∧ yX3_simulate.cls ≠ "java/lang/invoke/VarHandle" ∧ (parseMethodDescriptor yX3_simulate.desc).map (fun d => d.parameters.length) = some 2 := ⟨by decide +kernel, by decide +kernel, by decide +kernel⟩
theorem mi_X3_simulate : Cond.instanceMethod yX3_simulate ∈ lc_T := lc_in (List.mem_of_getElem? (i := 739) (by decide +kernel)) rfl
theorem mv_X3_simulate : Cond.selects yX3_simulate.cls yX3_simulate yX3_simulate ∈ lc_T := lc_in (List.mem_of_getElem? (i := 740) (by decide +kernel)) rfl
theorem mc_X3_giveIfPossible : Cond.code yX3_giveIfPossible cX3_giveIfPossible 2 none ∈ lc_T := lc_in (List.mem_of_getElem? (i := 748) (by decide +kernel)) rfl
theorem md_X3_giveIfPossible : yX3_giveIfPossible.cls ≠ "java/lang/invoke/MethodHandle" ∧ yX3_giveIfPossible.cls ≠ "java/lang/invoke/VarHandle" ∧ (parseMethodDescriptor yX3_giveIfPossible.desc).map (fun d => d.parameters.length) = some 1 := ⟨by decide +kernel, by decide +kernel, by decide +kernel⟩
theorem mi_X3_giveIfPossible : Cond.instanceMethod yX3_giveIfPossible ∈ lc_T := lc_in (List.mem_of_getElem? (i := 747) (by decide +kernel)) rfl
theorem mv_X3_giveIfPossible : Cond.selects yX3_giveIfPossible.cls yX3_giveIfPossible yX3_giveIfPossible ∈ lc_T := lc_in (List.mem_of_getElem? (i := 8) (by decide +kernel)) rfl
theorem mc_X3_save : Cond.code yX3_save cX3_save 2 (some .int) ∈ lc_T := lc_in (List.mem_of_getElem? (i := 756) (by decide +kernel)) rfl
theorem md_X3_save : yX3_save.cls ≠ "java/lang/invoke/MethodHandle" ∧ yX3_save.cls ≠ "java/lang/invoke/VarHandle" ∧ (parseMethodDescriptor yX3_save.desc).map (fun d => d.parameters.length) = some 1 := ⟨by decide +kernel, by decide +kernel, by decide +kernel⟩
theorem mi_X3_save : Cond.instanceMethod yX3_save ∈ lc_T := lc_in (List.mem_of_getElem? (i := 754) (by decide +kernel)) rfl
theorem mv_X3_save : Cond.selects yX3_save.cls yX3_save yX3_save ∈ lc_T := lc_in (List.mem_of_getElem? (i := 755) (by decide +kernel)) rfl
theorem mc_X3_restore : Cond.code yX3_restore cX3_restore 2 (some .int) ∈ lc_T := lc_in (List.mem_of_getElem? (i := 764) (by decide +kernel)) rfl
theorem md_X3_restore : yX3_restore.cls ≠ "java/lang/invoke/MethodHandle" ∧ yX3_restore.cls ≠ "java/lang/invoke/VarHandle" ∧ (parseMethodDescriptor yX3_restore.desc).map (fun d => d.parameters.length) = some 1 := ⟨by decide +kernel, by decide +kernel, by decide +kernel⟩
theorem mi_X3_restore : Cond.instanceMethod yX3_restore ∈ lc_T := lc_in (List.mem_of_getElem? (i := 762) (by decide +kernel)) rfl
theorem mv_X3_restore : Cond.selects yX3_restore.cls yX3_restore yX3_restore ∈ lc_T := lc_in (List.mem_of_getElem? (i := 763) (by decide +kernel)) rfl
theorem mc_X4_init : Cond.code yX4_init cX4_init 1 none ∈ lc_T := lc_in (List.mem_of_getElem? (i := 770) (by decide +kernel)) rfl
theorem md_X4_init : yX4_init.cls ≠ "java/lang/invoke/MethodHandle" ∧ yX4_init.cls ≠ "java/lang/invoke/VarHandle" ∧ (parseMethodDescriptor yX4_init.desc).map (fun d => d.parameters.length) = some 0 := ⟨by decide +kernel, by decide +kernel, by decide +kernel⟩
theorem mi_X4_init : Cond.instanceMethod yX4_init ∈ lc_T := lc_in (List.mem_of_getElem? (i := 769) (by decide +kernel)) rfl
theorem mc_X4_thrown : Cond.code yX4_thrown cX4_thrown 1 (some .int) ∈ lc_T := lc_in (List.mem_of_getElem? (i := 821) (by decide +kernel)) rfl
theorem md_X4_thrown : yX4_thrown.cls ≠ "java/lang/invoke/MethodHandle" ∧ yX4_thrown.cls ≠ "java/lang/invoke/VarHandle" ∧ (parseMethodDescriptor yX4_thrown.desc).map (fun d => d.parameters.length) = some 0 := ⟨by decide +kernel, by decide +kernel, by decide +kernel⟩
theorem mi_X4_thrown : Cond.instanceMethod yX4_thrown ∈ lc_T := lc_in (List.mem_of_getElem? (i := 819) (by decide +kernel)) rfl
theorem mv_X4_thrown : Cond.selects yX4_thrown.cls yX4_thrown yX4_thrown ∈ lc_T := lc_in (List.mem_of_getElem? (i := 820) (by decide +kernel)) rfl
theorem mc_X4_append : Cond.code yX4_append cX4_append 2 (some .int) ∈ lc_T := lc_in (List.mem_of_getElem? (i := 825) (by decide +kernel)) rfl
theorem md_X4_append : yX4_append.cls ≠ "java/lang/invoke/MethodHandle" ∧ yX4_append.cls ≠ "java/lang/invoke/VarHandle" ∧ (parseMethodDescriptor yX4_append.desc).map (fun d => d.parameters.length) = some 1 := ⟨by decide +kernel, by decide +kernel, by decide +kernel⟩
theorem mi_X4_append : Cond.instanceMethod yX4_append ∈ lc_T := lc_in (List.mem_of_getElem? (i := 823) (by decide +kernel)) rfl
theorem mv_X4_append : Cond.selects yX4_append.cls yX4_append yX4_append ∈ lc_T := lc_in (List.mem_of_getElem? (i := 824) (by decide +kernel)) rfl
theorem mc_X4_in : Cond.code yX4_in cX4_in 3 (some .boolean) ∈ lc_T := lc_in (List.mem_of_getElem? (i := 828) (by decide +kernel)) rfl
theorem md_X4_in : yX4_in.cls ≠ "java/lang/invoke/MethodHandle" ∧ yX4_in.cls ≠ "java/lang/invoke/VarHandle" ∧ (parseMethodDescriptor yX4_in.desc).map (fun d => d.parameters.length) = some 3 := ⟨by decide +kernel, by decide +kernel, by decide +kernel⟩
theorem ms_X4_in : Cond.static yX4_in ∈ lc_T := lc_in (List.mem_of_getElem? (i := 827) (by decide +kernel)) rfl
theorem mc_X4_clearText : Cond.code yX4_clearText cX4_clearText 2 (some .int) ∈ lc_T := lc_in (List.mem_of_getElem? (i := 832) (by decide +kernel)) rfl
theorem md_X4_clearText : yX4_clearText.cls ≠ "java/lang/invoke/MethodHandle" ∧ yX4_clearText.cls ≠ "java/lang/invoke/VarHandle" ∧ (parseMethodDescriptor yX4_clearText.desc).map (fun d => d.parameters.length) = some 0 := ⟨by decide +kernel, by decide +kernel, by decide +kernel⟩
theorem mi_X4_clearText : Cond.instanceMethod yX4_clearText ∈ lc_T := lc_in (List.mem_of_getElem? (i := 830) (by decide +kernel)) rfl
theorem mv_X4_clearText : Cond.selects yX4_clearText.cls yX4_clearText yX4_clearText ∈ lc_T := lc_in (List.mem_of_getElem? (i := 831) (by decide +kernel)) rfl
theorem mc_X4_errorPosition : Cond.code yX4_errorPosition cX4_errorPosition 2 (some .int) ∈ lc_T := lc_in (List.mem_of_getElem? (i := 836) (by decide +kernel)) rfl
theorem md_X4_errorPosition : yX4_errorPosition.cls ≠ "java/lang/invoke/MethodHandle" ∧ yX4_errorPosition.cls ≠ "java/lang/invoke/VarHandle" ∧ (parseMethodDescriptor yX4_errorPosition.desc).map (fun d => d.parameters.length) = some 0 := ⟨by decide +kernel, by decide +kernel, by decide +kernel⟩
theorem mi_X4_errorPosition : Cond.instanceMethod yX4_errorPosition ∈ lc_T := lc_in (List.mem_of_getElem? (i := 834) (by decide +kernel)) rfl
theorem mv_X4_errorPosition : Cond.selects yX4_errorPosition.cls yX4_errorPosition yX4_errorPosition ∈ lc_T := lc_in (List.mem_of_getElem? (i := 835) (by decide +kernel)) rfl
theorem mc_X4_layPut : Cond.code yX4_layPut cX4_layPut 2 none ∈ lc_T := lc_in (List.mem_of_getElem? (i := 840) (by decide +kernel)) rfl
theorem md_X4_layPut : yX4_layPut.cls ≠ "java/lang/invoke/MethodHandle" ∧ yX4_layPut.cls ≠ "java/lang/invoke/VarHandle" ∧ (parseMethodDescriptor yX4_layPut.desc).map (fun d => d.parameters.length) = some 0 := ⟨by decide +kernel, by decide +kernel, by decide +kernel⟩
theorem mi_X4_layPut : Cond.instanceMethod yX4_layPut ∈ lc_T := lc_in (List.mem_of_getElem? (i := 839) (by decide +kernel)) rfl
theorem mv_X4_layPut : Cond.selects yX4_layPut.cls yX4_layPut yX4_layPut ∈ lc_T := lc_in (List.mem_of_getElem? (i := 9) (by decide +kernel)) rfl
theorem mc_X4_isBattery : Cond.code yX4_isBattery cX4_isBattery 2 (some .boolean) ∈ lc_T := lc_in (List.mem_of_getElem? (i := 844) (by decide +kernel)) rfl
theorem md_X4_isBattery : yX4_isBattery.cls ≠ "java/lang/invoke/MethodHandle" ∧ yX4_isBattery.cls ≠ "java/lang/invoke/VarHandle" ∧ (parseMethodDescriptor yX4_isBattery.desc).map (fun d => d.parameters.length) = some 0 := ⟨by decide +kernel, by decide +kernel, by decide +kernel⟩
theorem mi_X4_isBattery : Cond.instanceMethod yX4_isBattery ∈ lc_T := lc_in (List.mem_of_getElem? (i := 843) (by decide +kernel)) rfl
theorem mv_X4_isBattery : Cond.selects yX4_isBattery.cls yX4_isBattery yX4_isBattery ∈ lc_T := lc_in (List.mem_of_getElem? (i := 10) (by decide +kernel)) rfl
theorem mc_X4_look : Cond.code yX4_look cX4_look 1 (some .int) ∈ lc_T := lc_in (List.mem_of_getElem? (i := 848) (by decide +kernel)) rfl
theorem md_X4_look : yX4_look.cls ≠ "java/lang/invoke/MethodHandle" ∧ yX4_look.cls ≠ "java/lang/invoke/VarHandle" ∧ (parseMethodDescriptor yX4_look.desc).map (fun d => d.parameters.length) = some 0 := ⟨by decide +kernel, by decide +kernel, by decide +kernel⟩
theorem mi_X4_look : Cond.instanceMethod yX4_look ∈ lc_T := lc_in (List.mem_of_getElem? (i := 847) (by decide +kernel)) rfl
theorem mv_X4_look : Cond.selects yX4_look.cls yX4_look yX4_look ∈ lc_T := lc_in (List.mem_of_getElem? (i := 11) (by decide +kernel)) rfl
theorem mc_X4_must : Cond.code yX4_must cX4_must 2 none ∈ lc_T := lc_in (List.mem_of_getElem? (i := 852) (by decide +kernel)) rfl
theorem md_X4_must : yX4_must.cls ≠ "java/lang/invoke/MethodHandle" ∧ yX4_must.cls ≠ "java/lang/invoke/VarHandle" ∧ (parseMethodDescriptor yX4_must.desc).map (fun d => d.parameters.length) = some 1 := ⟨by decide +kernel, by decide +kernel, by decide +kernel⟩
theorem mi_X4_must : Cond.instanceMethod yX4_must ∈ lc_T := lc_in (List.mem_of_getElem? (i := 851) (by decide +kernel)) rfl
theorem mv_X4_must : Cond.selects yX4_must.cls yX4_must yX4_must ∈ lc_T := lc_in (List.mem_of_getElem? (i := 12) (by decide +kernel)) rfl
theorem mc_X4_readCell : Cond.code yX4_readCell cX4_readCell 4 none ∈ lc_T := lc_in (List.mem_of_getElem? (i := 856) (by decide +kernel)) rfl
theorem md_X4_readCell : yX4_readCell.cls ≠ "java/lang/invoke/MethodHandle" ∧ yX4_readCell.cls ≠ "java/lang/invoke/VarHandle" ∧ (parseMethodDescriptor yX4_readCell.desc).map (fun d => d.parameters.length) = some 0 := ⟨by decide +kernel, by decide +kernel, by decide +kernel⟩
theorem mi_X4_readCell : Cond.instanceMethod yX4_readCell ∈ lc_T := lc_in (List.mem_of_getElem? (i := 855) (by decide +kernel)) rfl
theorem mv_X4_readCell : Cond.selects yX4_readCell.cls yX4_readCell yX4_readCell ∈ lc_T := lc_in (List.mem_of_getElem? (i := 13) (by decide +kernel)) rfl
theorem mc_X4_number : Cond.code yX4_number cX4_number 9 (some .int) ∈ lc_T := lc_in (List.mem_of_getElem? (i := 860) (by decide +kernel)) rfl
theorem md_X4_number : yX4_number.cls ≠ "java/lang/invoke/MethodHandle" ∧ yX4_number.cls ≠ "java/lang/invoke/VarHandle" ∧ (parseMethodDescriptor yX4_number.desc).map (fun d => d.parameters.length) = some 3 := ⟨by decide +kernel, by decide +kernel, by decide +kernel⟩
theorem mi_X4_number : Cond.instanceMethod yX4_number ∈ lc_T := lc_in (List.mem_of_getElem? (i := 859) (by decide +kernel)) rfl
theorem mv_X4_number : Cond.selects yX4_number.cls yX4_number yX4_number ∈ lc_T := lc_in (List.mem_of_getElem? (i := 14) (by decide +kernel)) rfl
theorem mc_X4_newCell : Cond.code yX4_newCell cX4_newCell 6 (some .int) ∈ lc_T := lc_in (List.mem_of_getElem? (i := 864) (by decide +kernel)) rfl
theorem md_X4_newCell : yX4_newCell.cls ≠ "java/lang/invoke/MethodHandle" ∧ yX4_newCell.cls ≠ "java/lang/invoke/VarHandle" ∧ (parseMethodDescriptor yX4_newCell.desc).map (fun d => d.parameters.length) = some 3 := ⟨by decide +kernel, by decide +kernel, by decide +kernel⟩
theorem mi_X4_newCell : Cond.instanceMethod yX4_newCell ∈ lc_T := lc_in (List.mem_of_getElem? (i := 863) (by decide +kernel)) rfl
theorem mv_X4_newCell : Cond.selects yX4_newCell.cls yX4_newCell yX4_newCell ∈ lc_T := lc_in (List.mem_of_getElem? (i := 15) (by decide +kernel)) rfl
theorem mc_X4_readLoan : Cond.code yX4_readLoan cX4_readLoan 6 none ∈ lc_T := lc_in (List.mem_of_getElem? (i := 868) (by decide +kernel)) rfl
theorem md_X4_readLoan : yX4_readLoan.cls ≠ "java/lang/invoke/MethodHandle" ∧ yX4_readLoan.cls ≠ "java/lang/invoke/VarHandle" ∧ (parseMethodDescriptor yX4_readLoan.desc).map (fun d => d.parameters.length) = some 0 := ⟨by decide +kernel, by decide +kernel, by decide +kernel⟩
theorem mi_X4_readLoan : Cond.instanceMethod yX4_readLoan ∈ lc_T := lc_in (List.mem_of_getElem? (i := 867) (by decide +kernel)) rfl
theorem mv_X4_readLoan : Cond.selects yX4_readLoan.cls yX4_readLoan yX4_readLoan ∈ lc_T := lc_in (List.mem_of_getElem? (i := 16) (by decide +kernel)) rfl
theorem mc_X4_cellHere : Cond.code yX4_cellHere cX4_cellHere 3 (some .int) ∈ lc_T := lc_in (List.mem_of_getElem? (i := 872) (by decide +kernel)) rfl
theorem md_X4_cellHere : yX4_cellHere.cls ≠ "java/lang/invoke/MethodHandle" ∧ yX4_cellHere.cls ≠ "java/lang/invoke/VarHandle" ∧ (parseMethodDescriptor yX4_cellHere.desc).map (fun d => d.parameters.length) = some 1 := ⟨by decide +kernel, by decide +kernel, by decide +kernel⟩
theorem mi_X4_cellHere : Cond.instanceMethod yX4_cellHere ∈ lc_T := lc_in (List.mem_of_getElem? (i := 871) (by decide +kernel)) rfl
theorem mv_X4_cellHere : Cond.selects yX4_cellHere.cls yX4_cellHere yX4_cellHere ∈ lc_T := lc_in (List.mem_of_getElem? (i := 17) (by decide +kernel)) rfl
theorem mc_X4_isCell : Cond.code yX4_isCell cX4_isCell 2 (some .boolean) ∈ lc_T := lc_in (List.mem_of_getElem? (i := 876) (by decide +kernel)) rfl
theorem md_X4_isCell : yX4_isCell.cls ≠ "java/lang/invoke/MethodHandle" ∧ yX4_isCell.cls ≠ "java/lang/invoke/VarHandle" ∧ (parseMethodDescriptor yX4_isCell.desc).map (fun d => d.parameters.length) = some 1 := ⟨by decide +kernel, by decide +kernel, by decide +kernel⟩
theorem mi_X4_isCell : Cond.instanceMethod yX4_isCell ∈ lc_T := lc_in (List.mem_of_getElem? (i := 875) (by decide +kernel)) rfl
theorem mv_X4_isCell : Cond.selects yX4_isCell.cls yX4_isCell yX4_isCell ∈ lc_T := lc_in (List.mem_of_getElem? (i := 18) (by decide +kernel)) rfl
theorem mc_X4_of : Cond.code yX4_of cX4_of 3 (some .int) ∈ lc_T := lc_in (List.mem_of_getElem? (i := 880) (by decide +kernel)) rfl
theorem md_X4_of : yX4_of.cls ≠ "java/lang/invoke/MethodHandle" ∧ yX4_of.cls ≠ "java/lang/invoke/VarHandle" ∧ (parseMethodDescriptor yX4_of.desc).map (fun d => d.parameters.length) = some 2 := ⟨by decide +kernel, by decide +kernel, by decide +kernel⟩
theorem mi_X4_of : Cond.instanceMethod yX4_of ∈ lc_T := lc_in (List.mem_of_getElem? (i := 879) (by decide +kernel)) rfl
theorem mv_X4_of : Cond.selects yX4_of.cls yX4_of yX4_of ∈ lc_T := lc_in (List.mem_of_getElem? (i := 19) (by decide +kernel)) rfl
theorem mc_X4_isTooMuch : Cond.code yX4_isTooMuch cX4_isTooMuch 4 (some .boolean) ∈ lc_T := lc_in (List.mem_of_getElem? (i := 884) (by decide +kernel)) rfl
theorem md_X4_isTooMuch : yX4_isTooMuch.cls ≠ "java/lang/invoke/MethodHandle" ∧ yX4_isTooMuch.cls ≠ "java/lang/invoke/VarHandle" ∧ (parseMethodDescriptor yX4_isTooMuch.desc).map (fun d => d.parameters.length) = some 3 := ⟨by decide +kernel, by decide +kernel, by decide +kernel⟩
theorem mi_X4_isTooMuch : Cond.instanceMethod yX4_isTooMuch ∈ lc_T := lc_in (List.mem_of_getElem? (i := 883) (by decide +kernel)) rfl
theorem mv_X4_isTooMuch : Cond.selects yX4_isTooMuch.cls yX4_isTooMuch yX4_isTooMuch ∈ lc_T := lc_in (List.mem_of_getElem? (i := 20) (by decide +kernel)) rfl
theorem mc_X4_arrives : Cond.code yX4_arrives cX4_arrives 4 (some .int) ∈ lc_T := lc_in (List.mem_of_getElem? (i := 887) (by decide +kernel)) rfl
theorem md_X4_arrives : yX4_arrives.cls ≠ "java/lang/invoke/MethodHandle" ∧ yX4_arrives.cls ≠ "java/lang/invoke/VarHandle" ∧ (parseMethodDescriptor yX4_arrives.desc).map (fun d => d.parameters.length) = some 3 := ⟨by decide +kernel, by decide +kernel, by decide +kernel⟩
theorem ms_X4_arrives : Cond.static yX4_arrives ∈ lc_T := lc_in (List.mem_of_getElem? (i := 886) (by decide +kernel)) rfl
theorem mc_X4_makeLoan : Cond.code yX4_makeLoan cX4_makeLoan 6 (some .int) ∈ lc_T := lc_in (List.mem_of_getElem? (i := 891) (by decide +kernel)) rfl
theorem md_X4_makeLoan : yX4_makeLoan.cls ≠ "java/lang/invoke/MethodHandle" ∧ yX4_makeLoan.cls ≠ "java/lang/invoke/VarHandle" ∧ (parseMethodDescriptor yX4_makeLoan.desc).map (fun d => d.parameters.length) = some 4 := ⟨by decide +kernel, by decide +kernel, by decide +kernel⟩
theorem mi_X4_makeLoan : Cond.instanceMethod yX4_makeLoan ∈ lc_T := lc_in (List.mem_of_getElem? (i := 890) (by decide +kernel)) rfl
theorem mv_X4_makeLoan : Cond.selects yX4_makeLoan.cls yX4_makeLoan yX4_makeLoan ∈ lc_T := lc_in (List.mem_of_getElem? (i := 21) (by decide +kernel)) rfl
theorem mc_X4_shuttle : Cond.code yX4_shuttle cX4_shuttle 5 (some .int) ∈ lc_T := lc_in (List.mem_of_getElem? (i := 895) (by decide +kernel)) rfl
theorem md_X4_shuttle : yX4_shuttle.cls ≠ "java/lang/invoke/MethodHandle" ∧ yX4_shuttle.cls ≠ "java/lang/invoke/VarHandle" ∧ (parseMethodDescriptor yX4_shuttle.desc).map (fun d => d.parameters.length) = some 3 := ⟨by decide +kernel, by decide +kernel, by decide +kernel⟩
theorem mi_X4_shuttle : Cond.instanceMethod yX4_shuttle ∈ lc_T := lc_in (List.mem_of_getElem? (i := 894) (by decide +kernel)) rfl
theorem mv_X4_shuttle : Cond.selects yX4_shuttle.cls yX4_shuttle yX4_shuttle ∈ lc_T := lc_in (List.mem_of_getElem? (i := 22) (by decide +kernel)) rfl
theorem mc_X4_more : Cond.code yX4_more cX4_more 4 none ∈ lc_T := lc_in (List.mem_of_getElem? (i := 899) (by decide +kernel)) rfl
theorem md_X4_more : yX4_more.cls ≠ "java/lang/invoke/MethodHandle" ∧ yX4_more.cls ≠ "java/lang/invoke/VarHandle" ∧ (parseMethodDescriptor yX4_more.desc).map (fun d => d.parameters.length) = some 3 := ⟨by decide +kernel, by decide +kernel, by decide +kernel⟩
theorem mi_X4_more : Cond.instanceMethod yX4_more ∈ lc_T := lc_in (List.mem_of_getElem? (i := 898) (by decide +kernel)) rfl
theorem mv_X4_more : Cond.selects yX4_more.cls yX4_more yX4_more ∈ lc_T := lc_in (List.mem_of_getElem? (i := 23) (by decide +kernel)) rfl
theorem mc_X4_putBack : Cond.code yX4_putBack cX4_putBack 2 none ∈ lc_T := lc_in (List.mem_of_getElem? (i := 903) (by decide +kernel)) rfl
theorem md_X4_putBack : yX4_putBack.cls ≠ "java/lang/invoke/MethodHandle" ∧ yX4_putBack.cls ≠ "java/lang/invoke/VarHandle" ∧ (parseMethodDescriptor yX4_putBack.desc).map (fun d => d.parameters.length) = some 0 := ⟨by decide +kernel, by decide +kernel, by decide +kernel⟩
theorem mi_X4_putBack : Cond.instanceMethod yX4_putBack ∈ lc_T := lc_in (List.mem_of_getElem? (i := 902) (by decide +kernel)) rfl
theorem mv_X4_putBack : Cond.selects yX4_putBack.cls yX4_putBack yX4_putBack ∈ lc_T := lc_in (List.mem_of_getElem? (i := 24) (by decide +kernel)) rfl
theorem mc_X4_load : Cond.code yX4_load cX4_load 1 (some .int) ∈ lc_T := lc_in (List.mem_of_getElem? (i := 907) (by decide +kernel)) rfl
theorem md_X4_load : yX4_load.cls ≠ "java/lang/invoke/MethodHandle" ∧ yX4_load.cls ≠ "java/lang/invoke/VarHandle" ∧ (parseMethodDescriptor yX4_load.desc).map (fun d => d.parameters.length) = some 0 := ⟨by decide +kernel, by decide +kernel, by decide +kernel⟩
theorem mi_X4_load : Cond.instanceMethod yX4_load ∈ lc_T := lc_in (List.mem_of_getElem? (i := 905) (by decide +kernel)) rfl
theorem mv_X4_load : Cond.selects yX4_load.cls yX4_load yX4_load ∈ lc_T := lc_in (List.mem_of_getElem? (i := 906) (by decide +kernel)) rfl
theorem mc_X4_about : Cond.code yX4_about cX4_about 2 (some .int) ∈ lc_T := lc_in (List.mem_of_getElem? (i := 911) (by decide +kernel)) rfl
theorem md_X4_about : yX4_about.cls ≠ "java/lang/invoke/MethodHandle" ∧ yX4_about.cls ≠ "java/lang/invoke/VarHandle" ∧ (parseMethodDescriptor yX4_about.desc).map (fun d => d.parameters.length) = some 1 := ⟨by decide +kernel, by decide +kernel, by decide +kernel⟩
theorem mi_X4_about : Cond.instanceMethod yX4_about ∈ lc_T := lc_in (List.mem_of_getElem? (i := 909) (by decide +kernel)) rfl
theorem mv_X4_about : Cond.selects yX4_about.cls yX4_about yX4_about ∈ lc_T := lc_in (List.mem_of_getElem? (i := 910) (by decide +kernel)) rfl
theorem mc_X4_allCharge : Cond.code yX4_allCharge cX4_allCharge 3 (some .int) ∈ lc_T := lc_in (List.mem_of_getElem? (i := 915) (by decide +kernel)) rfl
theorem md_X4_allCharge : yX4_allCharge.cls ≠ "java/lang/invoke/MethodHandle" ∧ yX4_allCharge.cls ≠ "java/lang/invoke/VarHandle" ∧ (parseMethodDescriptor yX4_allCharge.desc).map (fun d => d.parameters.length) = some 0 := ⟨by decide +kernel, by decide +kernel, by decide +kernel⟩
theorem mi_X4_allCharge : Cond.instanceMethod yX4_allCharge ∈ lc_T := lc_in (List.mem_of_getElem? (i := 914) (by decide +kernel)) rfl
theorem mv_X4_allCharge : Cond.selects yX4_allCharge.cls yX4_allCharge yX4_allCharge ∈ lc_T := lc_in (List.mem_of_getElem? (i := 25) (by decide +kernel)) rfl
theorem mc_X4_allOwed : Cond.code yX4_allOwed cX4_allOwed 3 (some .int) ∈ lc_T := lc_in (List.mem_of_getElem? (i := 919) (by decide +kernel)) rfl
theorem md_X4_allOwed : yX4_allOwed.cls ≠ "java/lang/invoke/MethodHandle" ∧ yX4_allOwed.cls ≠ "java/lang/invoke/VarHandle" ∧ (parseMethodDescriptor yX4_allOwed.desc).map (fun d => d.parameters.length) = some 0 := ⟨by decide +kernel, by decide +kernel, by decide +kernel⟩
theorem mi_X4_allOwed : Cond.instanceMethod yX4_allOwed ∈ lc_T := lc_in (List.mem_of_getElem? (i := 918) (by decide +kernel)) rfl
theorem mv_X4_allOwed : Cond.selects yX4_allOwed.cls yX4_allOwed yX4_allOwed ∈ lc_T := lc_in (List.mem_of_getElem? (i := 26) (by decide +kernel)) rfl
theorem mc_X4_ofLoan : Cond.code yX4_ofLoan cX4_ofLoan 3 (some .int) ∈ lc_T := lc_in (List.mem_of_getElem? (i := 923) (by decide +kernel)) rfl
theorem md_X4_ofLoan : yX4_ofLoan.cls ≠ "java/lang/invoke/MethodHandle" ∧ yX4_ofLoan.cls ≠ "java/lang/invoke/VarHandle" ∧ (parseMethodDescriptor yX4_ofLoan.desc).map (fun d => d.parameters.length) = some 2 := ⟨by decide +kernel, by decide +kernel, by decide +kernel⟩
theorem mi_X4_ofLoan : Cond.instanceMethod yX4_ofLoan ∈ lc_T := lc_in (List.mem_of_getElem? (i := 922) (by decide +kernel)) rfl
theorem mv_X4_ofLoan : Cond.selects yX4_ofLoan.cls yX4_ofLoan yX4_ofLoan ∈ lc_T := lc_in (List.mem_of_getElem? (i := 27) (by decide +kernel)) rfl
theorem mc_X4_bankrupts : Cond.code yX4_bankrupts cX4_bankrupts 3 (some .int) ∈ lc_T := lc_in (List.mem_of_getElem? (i := 927) (by decide +kernel)) rfl
theorem md_X4_bankrupts : yX4_bankrupts.cls ≠ "java/lang/invoke/MethodHandle" ∧ yX4_bankrupts.cls ≠ "java/lang/invoke/VarHandle" ∧ (parseMethodDescriptor yX4_bankrupts.desc).map (fun d => d.parameters.length) = some 0 := ⟨by decide +kernel, by decide +kernel, by decide +kernel⟩
theorem mi_X4_bankrupts : Cond.instanceMethod yX4_bankrupts ∈ lc_T := lc_in (List.mem_of_getElem? (i := 926) (by decide +kernel)) rfl
theorem mv_X4_bankrupts : Cond.selects yX4_bankrupts.cls yX4_bankrupts yX4_bankrupts ∈ lc_T := lc_in (List.mem_of_getElem? (i := 28) (by decide +kernel)) rfl
theorem mc_X4_isSound : Cond.code yX4_isSound cX4_isSound 2 (some .boolean) ∈ lc_T := lc_in (List.mem_of_getElem? (i := 931) (by decide +kernel)) rfl
theorem md_X4_isSound : yX4_isSound.cls ≠ "java/lang/invoke/MethodHandle" ∧ yX4_isSound.cls ≠ "java/lang/invoke/VarHandle" ∧ (parseMethodDescriptor yX4_isSound.desc).map (fun d => d.parameters.length) = some 1 := ⟨by decide +kernel, by decide +kernel, by decide +kernel⟩
theorem mi_X4_isSound : Cond.instanceMethod yX4_isSound ∈ lc_T := lc_in (List.mem_of_getElem? (i := 930) (by decide +kernel)) rfl
theorem mv_X4_isSound : Cond.selects yX4_isSound.cls yX4_isSound yX4_isSound ∈ lc_T := lc_in (List.mem_of_getElem? (i := 29) (by decide +kernel)) rfl
theorem mc_X4_cell : Cond.code yX4_cell cX4_cell 3 (some .int) ∈ lc_T := lc_in (List.mem_of_getElem? (i := 935) (by decide +kernel)) rfl
theorem md_X4_cell : yX4_cell.cls ≠ "java/lang/invoke/MethodHandle" ∧ yX4_cell.cls ≠ "java/lang/invoke/VarHandle" ∧ (parseMethodDescriptor yX4_cell.desc).map (fun d => d.parameters.length) = some 2 := ⟨by decide +kernel, by decide +kernel, by decide +kernel⟩
theorem mi_X4_cell : Cond.instanceMethod yX4_cell ∈ lc_T := lc_in (List.mem_of_getElem? (i := 933) (by decide +kernel)) rfl
theorem mv_X4_cell : Cond.selects yX4_cell.cls yX4_cell yX4_cell ∈ lc_T := lc_in (List.mem_of_getElem? (i := 934) (by decide +kernel)) rfl
theorem mc_X4_owedBy : Cond.code yX4_owedBy cX4_owedBy 5 (some .int) ∈ lc_T := lc_in (List.mem_of_getElem? (i := 939) (by decide +kernel)) rfl
theorem md_X4_owedBy : yX4_owedBy.cls ≠ "java/lang/invoke/MethodHandle" ∧ yX4_owedBy.cls ≠ "java/lang/invoke/VarHandle" ∧ (parseMethodDescriptor yX4_owedBy.desc).map (fun d => d.parameters.length) = some 2 := ⟨by decide +kernel, by decide +kernel, by decide +kernel⟩
theorem mi_X4_owedBy : Cond.instanceMethod yX4_owedBy ∈ lc_T := lc_in (List.mem_of_getElem? (i := 938) (by decide +kernel)) rfl
theorem mv_X4_owedBy : Cond.selects yX4_owedBy.cls yX4_owedBy yX4_owedBy ∈ lc_T := lc_in (List.mem_of_getElem? (i := 30) (by decide +kernel)) rfl
theorem mc_X4_interestOf : Cond.code yX4_interestOf cX4_interestOf 4 (some .int) ∈ lc_T := lc_in (List.mem_of_getElem? (i := 943) (by decide +kernel)) rfl
theorem md_X4_interestOf : yX4_interestOf.cls ≠ "java/lang/invoke/MethodHandle" ∧ yX4_interestOf.cls ≠ "java/lang/invoke/VarHandle" ∧ (parseMethodDescriptor yX4_interestOf.desc).map (fun d => d.parameters.length) = some 1 := ⟨by decide +kernel, by decide +kernel, by decide +kernel⟩
theorem mi_X4_interestOf : Cond.instanceMethod yX4_interestOf ∈ lc_T := lc_in (List.mem_of_getElem? (i := 942) (by decide +kernel)) rfl
theorem mv_X4_interestOf : Cond.selects yX4_interestOf.cls yX4_interestOf yX4_interestOf ∈ lc_T := lc_in (List.mem_of_getElem? (i := 31) (by decide +kernel)) rfl
theorem mc_X4_interest : Cond.code yX4_interest cX4_interest 2 (some .int) ∈ lc_T := lc_in (List.mem_of_getElem? (i := 947) (by decide +kernel)) rfl
theorem md_X4_interest : yX4_interest.cls ≠ "java/lang/invoke/MethodHandle" ∧ yX4_interest.cls ≠ "java/lang/invoke/VarHandle" ∧ (parseMethodDescriptor yX4_interest.desc).map (fun d => d.parameters.length) = some 1 := ⟨by decide +kernel, by decide +kernel, by decide +kernel⟩
theorem mi_X4_interest : Cond.instanceMethod yX4_interest ∈ lc_T := lc_in (List.mem_of_getElem? (i := 946) (by decide +kernel)) rfl
theorem mv_X4_interest : Cond.selects yX4_interest.cls yX4_interest yX4_interest ∈ lc_T := lc_in (List.mem_of_getElem? (i := 32) (by decide +kernel)) rfl
theorem mc_X4_kindOf : Cond.code yX4_kindOf cX4_kindOf 2 (some .int) ∈ lc_T := lc_in (List.mem_of_getElem? (i := 951) (by decide +kernel)) rfl
theorem md_X4_kindOf : yX4_kindOf.cls ≠ "java/lang/invoke/MethodHandle" ∧ yX4_kindOf.cls ≠ "java/lang/invoke/VarHandle" ∧ (parseMethodDescriptor yX4_kindOf.desc).map (fun d => d.parameters.length) = some 1 := ⟨by decide +kernel, by decide +kernel, by decide +kernel⟩
theorem mi_X4_kindOf : Cond.instanceMethod yX4_kindOf ∈ lc_T := lc_in (List.mem_of_getElem? (i := 950) (by decide +kernel)) rfl
theorem mv_X4_kindOf : Cond.selects yX4_kindOf.cls yX4_kindOf yX4_kindOf ∈ lc_T := lc_in (List.mem_of_getElem? (i := 33) (by decide +kernel)) rfl
theorem mc_X4_loan : Cond.code yX4_loan cX4_loan 3 (some .int) ∈ lc_T := lc_in (List.mem_of_getElem? (i := 955) (by decide +kernel)) rfl
theorem md_X4_loan : yX4_loan.cls ≠ "java/lang/invoke/MethodHandle" ∧ yX4_loan.cls ≠ "java/lang/invoke/VarHandle" ∧ (parseMethodDescriptor yX4_loan.desc).map (fun d => d.parameters.length) = some 2 := ⟨by decide +kernel, by decide +kernel, by decide +kernel⟩
theorem mi_X4_loan : Cond.instanceMethod yX4_loan ∈ lc_T := lc_in (List.mem_of_getElem? (i := 953) (by decide +kernel)) rfl
theorem mv_X4_loan : Cond.selects yX4_loan.cls yX4_loan yX4_loan ∈ lc_T := lc_in (List.mem_of_getElem? (i := 954) (by decide +kernel)) rfl
theorem mc_X4_isLoan : Cond.code yX4_isLoan cX4_isLoan 2 (some .boolean) ∈ lc_T := lc_in (List.mem_of_getElem? (i := 959) (by decide +kernel)) rfl
theorem md_X4_isLoan : yX4_isLoan.cls ≠ "java/lang/invoke/MethodHandle" ∧ yX4_isLoan.cls ≠ "java/lang/invoke/VarHandle" ∧ (parseMethodDescriptor yX4_isLoan.desc).map (fun d => d.parameters.length) = some 1 := ⟨by decide +kernel, by decide +kernel, by decide +kernel⟩
theorem mi_X4_isLoan : Cond.instanceMethod yX4_isLoan ∈ lc_T := lc_in (List.mem_of_getElem? (i := 958) (by decide +kernel)) rfl
theorem mv_X4_isLoan : Cond.selects yX4_isLoan.cls yX4_isLoan yX4_isLoan ∈ lc_T := lc_in (List.mem_of_getElem? (i := 34) (by decide +kernel)) rfl
theorem mc_X4_order : Cond.code yX4_order cX4_order 5 (some .int) ∈ lc_T := lc_in (List.mem_of_getElem? (i := 963) (by decide +kernel)) rfl
theorem md_X4_order : yX4_order.cls ≠ "java/lang/invoke/MethodHandle" ∧ yX4_order.cls ≠ "java/lang/invoke/VarHandle" ∧ (parseMethodDescriptor yX4_order.desc).map (fun d => d.parameters.length) = some 1 := ⟨by decide +kernel, by decide +kernel, by decide +kernel⟩
theorem mi_X4_order : Cond.instanceMethod yX4_order ∈ lc_T := lc_in (List.mem_of_getElem? (i := 961) (by decide +kernel)) rfl
theorem mv_X4_order : Cond.selects yX4_order.cls yX4_order yX4_order ∈ lc_T := lc_in (List.mem_of_getElem? (i := 962) (by decide +kernel)) rfl
theorem mc_X4_addCell : Cond.code yX4_addCell cX4_addCell 4 (some .int) ∈ lc_T := lc_in (List.mem_of_getElem? (i := 967) (by decide +kernel)) rfl
theorem md_X4_addCell : yX4_addCell.cls ≠ "java/lang/invoke/MethodHandle" ∧ yX4_addCell.cls ≠ "java/lang/invoke/VarHandle" ∧ (parseMethodDescriptor yX4_addCell.desc).map (fun d => d.parameters.length) = some 3 := ⟨by decide +kernel, by decide +kernel, by decide +kernel⟩
theorem mi_X4_addCell : Cond.instanceMethod yX4_addCell ∈ lc_T := lc_in (List.mem_of_getElem? (i := 965) (by decide +kernel)) rfl
theorem mv_X4_addCell : Cond.selects yX4_addCell.cls yX4_addCell yX4_addCell ∈ lc_T := lc_in (List.mem_of_getElem? (i := 966) (by decide +kernel)) rfl
theorem mc_X4_remember : Cond.code yX4_remember cX4_remember 2 none ∈ lc_T := lc_in (List.mem_of_getElem? (i := 971) (by decide +kernel)) rfl
theorem md_X4_remember : yX4_remember.cls ≠ "java/lang/invoke/MethodHandle" ∧ yX4_remember.cls ≠ "java/lang/invoke/VarHandle" ∧ (parseMethodDescriptor yX4_remember.desc).map (fun d => d.parameters.length) = some 0 := ⟨by decide +kernel, by decide +kernel, by decide +kernel⟩
theorem mi_X4_remember : Cond.instanceMethod yX4_remember ∈ lc_T := lc_in (List.mem_of_getElem? (i := 970) (by decide +kernel)) rfl
theorem mv_X4_remember : Cond.selects yX4_remember.cls yX4_remember yX4_remember ∈ lc_T := lc_in (List.mem_of_getElem? (i := 35) (by decide +kernel)) rfl
theorem mc_X4_lend : Cond.code yX4_lend cX4_lend 5 (some .int) ∈ lc_T := lc_in (List.mem_of_getElem? (i := 975) (by decide +kernel)) rfl
theorem md_X4_lend : yX4_lend.cls ≠ "java/lang/invoke/MethodHandle" ∧ yX4_lend.cls ≠ "java/lang/invoke/VarHandle" ∧ (parseMethodDescriptor yX4_lend.desc).map (fun d => d.parameters.length) = some 4 := ⟨by decide +kernel, by decide +kernel, by decide +kernel⟩
theorem mi_X4_lend : Cond.instanceMethod yX4_lend ∈ lc_T := lc_in (List.mem_of_getElem? (i := 973) (by decide +kernel)) rfl
theorem mv_X4_lend : Cond.selects yX4_lend.cls yX4_lend yX4_lend ∈ lc_T := lc_in (List.mem_of_getElem? (i := 974) (by decide +kernel)) rfl
theorem mc_X4_whyNoLend : Cond.code yX4_whyNoLend cX4_whyNoLend 5 (some .int) ∈ lc_T := lc_in (List.mem_of_getElem? (i := 979) (by decide +kernel)) rfl
theorem md_X4_whyNoLend : yX4_whyNoLend.cls ≠ "java/lang/invoke/MethodHandle" ∧ yX4_whyNoLend.cls ≠ "java/lang/invoke/VarHandle" ∧ (parseMethodDescriptor yX4_whyNoLend.desc).map (fun d => d.parameters.length) = some 4 := ⟨by decide +kernel, by decide +kernel, by decide +kernel⟩
theorem mi_X4_whyNoLend : Cond.instanceMethod yX4_whyNoLend ∈ lc_T := lc_in (List.mem_of_getElem? (i := 978) (by decide +kernel)) rfl
theorem mv_X4_whyNoLend : Cond.selects yX4_whyNoLend.cls yX4_whyNoLend yX4_whyNoLend ∈ lc_T := lc_in (List.mem_of_getElem? (i := 36) (by decide +kernel)) rfl
theorem mc_X4_repay : Cond.code yX4_repay cX4_repay 3 (some .int) ∈ lc_T := lc_in (List.mem_of_getElem? (i := 983) (by decide +kernel)) rfl
theorem md_X4_repay : yX4_repay.cls ≠ "java/lang/invoke/MethodHandle" ∧ yX4_repay.cls ≠ "java/lang/invoke/VarHandle" ∧ (parseMethodDescriptor yX4_repay.desc).map (fun d => d.parameters.length) = some 2 := ⟨by decide +kernel, by decide +kernel, by decide +kernel⟩
theorem mi_X4_repay : Cond.instanceMethod yX4_repay ∈ lc_T := lc_in (List.mem_of_getElem? (i := 981) (by decide +kernel)) rfl
theorem mv_X4_repay : Cond.selects yX4_repay.cls yX4_repay yX4_repay ∈ lc_T := lc_in (List.mem_of_getElem? (i := 982) (by decide +kernel)) rfl
theorem mc_X4_whyNoRepay : Cond.code yX4_whyNoRepay cX4_whyNoRepay 4 (some .int) ∈ lc_T := lc_in (List.mem_of_getElem? (i := 987) (by decide +kernel)) rfl
theorem md_X4_whyNoRepay : yX4_whyNoRepay.cls ≠ "java/lang/invoke/MethodHandle" ∧ yX4_whyNoRepay.cls ≠ "java/lang/invoke/VarHandle" ∧ (parseMethodDescriptor yX4_whyNoRepay.desc).map (fun d => d.parameters.length) = some 2 := ⟨by decide +kernel, by decide +kernel, by decide +kernel⟩
theorem mi_X4_whyNoRepay : Cond.instanceMethod yX4_whyNoRepay ∈ lc_T := lc_in (List.mem_of_getElem? (i := 986) (by decide +kernel)) rfl
theorem mv_X4_whyNoRepay : Cond.selects yX4_whyNoRepay.cls yX4_whyNoRepay yX4_whyNoRepay ∈ lc_T := lc_in (List.mem_of_getElem? (i := 37) (by decide +kernel)) rfl
theorem mc_X4_repays : Cond.code yX4_repays cX4_repays 4 (some .int) ∈ lc_T := lc_in (List.mem_of_getElem? (i := 991) (by decide +kernel)) rfl
theorem md_X4_repays : yX4_repays.cls ≠ "java/lang/invoke/MethodHandle" ∧ yX4_repays.cls ≠ "java/lang/invoke/VarHandle" ∧ (parseMethodDescriptor yX4_repays.desc).map (fun d => d.parameters.length) = some 2 := ⟨by decide +kernel, by decide +kernel, by decide +kernel⟩
theorem mi_X4_repays : Cond.instanceMethod yX4_repays ∈ lc_T := lc_in (List.mem_of_getElem? (i := 990) (by decide +kernel)) rfl
theorem mv_X4_repays : Cond.selects yX4_repays.cls yX4_repays yX4_repays ∈ lc_T := lc_in (List.mem_of_getElem? (i := 38) (by decide +kernel)) rfl
theorem mc_X4_removeLoan : Cond.code yX4_removeLoan cX4_removeLoan 3 none ∈ lc_T := lc_in (List.mem_of_getElem? (i := 995) (by decide +kernel)) rfl
theorem md_X4_removeLoan : yX4_removeLoan.cls ≠ "java/lang/invoke/MethodHandle" ∧ yX4_removeLoan.cls ≠ "java/lang/invoke/VarHandle" ∧ (parseMethodDescriptor yX4_removeLoan.desc).map (fun d => d.parameters.length) = some 1 := ⟨by decide +kernel, by decide +kernel, by decide +kernel⟩
theorem mi_X4_removeLoan : Cond.instanceMethod yX4_removeLoan ∈ lc_T := lc_in (List.mem_of_getElem? (i := 994) (by decide +kernel)) rfl
theorem mv_X4_removeLoan : Cond.selects yX4_removeLoan.cls yX4_removeLoan yX4_removeLoan ∈ lc_T := lc_in (List.mem_of_getElem? (i := 39) (by decide +kernel)) rfl
theorem mc_X4_setLeak : Cond.code yX4_setLeak cX4_setLeak 4 (some .int) ∈ lc_T := lc_in (List.mem_of_getElem? (i := 999) (by decide +kernel)) rfl
theorem md_X4_setLeak : yX4_setLeak.cls ≠ "java/lang/invoke/MethodHandle" ∧ yX4_setLeak.cls ≠ "java/lang/invoke/VarHandle" ∧ (parseMethodDescriptor yX4_setLeak.desc).map (fun d => d.parameters.length) = some 2 := ⟨by decide +kernel, by decide +kernel, by decide +kernel⟩
theorem mi_X4_setLeak : Cond.instanceMethod yX4_setLeak ∈ lc_T := lc_in (List.mem_of_getElem? (i := 997) (by decide +kernel)) rfl
theorem mv_X4_setLeak : Cond.selects yX4_setLeak.cls yX4_setLeak yX4_setLeak ∈ lc_T := lc_in (List.mem_of_getElem? (i := 998) (by decide +kernel)) rfl
theorem mc_X4_charge : Cond.code yX4_charge cX4_charge 2 (some .int) ∈ lc_T := lc_in (List.mem_of_getElem? (i := 1003) (by decide +kernel)) rfl
theorem md_X4_charge : yX4_charge.cls ≠ "java/lang/invoke/MethodHandle" ∧ yX4_charge.cls ≠ "java/lang/invoke/VarHandle" ∧ (parseMethodDescriptor yX4_charge.desc).map (fun d => d.parameters.length) = some 1 := ⟨by decide +kernel, by decide +kernel, by decide +kernel⟩
theorem mi_X4_charge : Cond.instanceMethod yX4_charge ∈ lc_T := lc_in (List.mem_of_getElem? (i := 1001) (by decide +kernel)) rfl
theorem mv_X4_charge : Cond.selects yX4_charge.cls yX4_charge yX4_charge ∈ lc_T := lc_in (List.mem_of_getElem? (i := 1002) (by decide +kernel)) rfl
theorem mc_X4_charges : Cond.code yX4_charges cX4_charges 5 (some .int) ∈ lc_T := lc_in (List.mem_of_getElem? (i := 1007) (by decide +kernel)) rfl
theorem md_X4_charges : yX4_charges.cls ≠ "java/lang/invoke/MethodHandle" ∧ yX4_charges.cls ≠ "java/lang/invoke/VarHandle" ∧ (parseMethodDescriptor yX4_charges.desc).map (fun d => d.parameters.length) = some 1 := ⟨by decide +kernel, by decide +kernel, by decide +kernel⟩
theorem mi_X4_charges : Cond.instanceMethod yX4_charges ∈ lc_T := lc_in (List.mem_of_getElem? (i := 1006) (by decide +kernel)) rfl
theorem mv_X4_charges : Cond.selects yX4_charges.cls yX4_charges yX4_charges ∈ lc_T := lc_in (List.mem_of_getElem? (i := 40) (by decide +kernel)) rfl
theorem mc_X4_draw : Cond.code yX4_draw cX4_draw 4 (some .int) ∈ lc_T := lc_in (List.mem_of_getElem? (i := 1011) (by decide +kernel)) rfl
theorem md_X4_draw : yX4_draw.cls ≠ "java/lang/invoke/MethodHandle" ∧ yX4_draw.cls ≠ "java/lang/invoke/VarHandle" ∧ (parseMethodDescriptor yX4_draw.desc).map (fun d => d.parameters.length) = some 1 := ⟨by decide +kernel, by decide +kernel, by decide +kernel⟩
theorem mi_X4_draw : Cond.instanceMethod yX4_draw ∈ lc_T := lc_in (List.mem_of_getElem? (i := 1009) (by decide +kernel)) rfl
theorem mv_X4_draw : Cond.selects yX4_draw.cls yX4_draw yX4_draw ∈ lc_T := lc_in (List.mem_of_getElem? (i := 1010) (by decide +kernel)) rfl
theorem mc_X4_drawn : Cond.code yX4_drawn cX4_drawn 4 (some .int) ∈ lc_T := lc_in (List.mem_of_getElem? (i := 1015) (by decide +kernel)) rfl
theorem md_X4_drawn : yX4_drawn.cls ≠ "java/lang/invoke/MethodHandle" ∧ yX4_drawn.cls ≠ "java/lang/invoke/VarHandle" ∧ (parseMethodDescriptor yX4_drawn.desc).map (fun d => d.parameters.length) = some 1 := ⟨by decide +kernel, by decide +kernel, by decide +kernel⟩
theorem mi_X4_drawn : Cond.instanceMethod yX4_drawn ∈ lc_T := lc_in (List.mem_of_getElem? (i := 1014) (by decide +kernel)) rfl
theorem mv_X4_drawn : Cond.selects yX4_drawn.cls yX4_drawn yX4_drawn ∈ lc_T := lc_in (List.mem_of_getElem? (i := 41) (by decide +kernel)) rfl
theorem mc_X4_draws0 : Cond.code yX4_draws0 cX4_draws0 4 (some .int) ∈ lc_T := lc_in (List.mem_of_getElem? (i := 1019) (by decide +kernel)) rfl
theorem md_X4_draws0 : yX4_draws0.cls ≠ "java/lang/invoke/MethodHandle" ∧ yX4_draws0.cls ≠ "java/lang/invoke/VarHandle" ∧ (parseMethodDescriptor yX4_draws0.desc).map (fun d => d.parameters.length) = some 1 := ⟨by decide +kernel, by decide +kernel, by decide +kernel⟩
theorem mi_X4_draws0 : Cond.instanceMethod yX4_draws0 ∈ lc_T := lc_in (List.mem_of_getElem? (i := 1018) (by decide +kernel)) rfl
theorem mv_X4_draws0 : Cond.selects yX4_draws0.cls yX4_draws0 yX4_draws0 ∈ lc_T := lc_in (List.mem_of_getElem? (i := 42) (by decide +kernel)) rfl
theorem mc_X4_borrows : Cond.code yX4_borrows cX4_borrows 5 (some .boolean) ∈ lc_T := lc_in (List.mem_of_getElem? (i := 1023) (by decide +kernel)) rfl
theorem md_X4_borrows : yX4_borrows.cls ≠ "java/lang/invoke/MethodHandle" ∧ yX4_borrows.cls ≠ "java/lang/invoke/VarHandle" ∧ (parseMethodDescriptor yX4_borrows.desc).map (fun d => d.parameters.length) = some 2 := ⟨by decide +kernel, by decide +kernel, by decide +kernel⟩
theorem mi_X4_borrows : Cond.instanceMethod yX4_borrows ∈ lc_T := lc_in (List.mem_of_getElem? (i := 1022) (by decide +kernel)) rfl
theorem mv_X4_borrows : Cond.selects yX4_borrows.cls yX4_borrows yX4_borrows ∈ lc_T := lc_in (List.mem_of_getElem? (i := 43) (by decide +kernel)) rfl
theorem mc_X4_richest : Cond.code yX4_richest cX4_richest 4 (some .int) ∈ lc_T := lc_in (List.mem_of_getElem? (i := 1027) (by decide +kernel)) rfl
theorem md_X4_richest : yX4_richest.cls ≠ "java/lang/invoke/MethodHandle" ∧ yX4_richest.cls ≠ "java/lang/invoke/VarHandle" ∧ (parseMethodDescriptor yX4_richest.desc).map (fun d => d.parameters.length) = some 1 := ⟨by decide +kernel, by decide +kernel, by decide +kernel⟩
theorem mi_X4_richest : Cond.instanceMethod yX4_richest ∈ lc_T := lc_in (List.mem_of_getElem? (i := 1026) (by decide +kernel)) rfl
theorem mv_X4_richest : Cond.selects yX4_richest.cls yX4_richest yX4_richest ∈ lc_T := lc_in (List.mem_of_getElem? (i := 44) (by decide +kernel)) rfl
theorem mc_X4_size : Cond.code yX4_size cX4_size 4 (some .int) ∈ lc_T := lc_in (List.mem_of_getElem? (i := 1030) (by decide +kernel)) rfl
theorem md_X4_size : yX4_size.cls ≠ "java/lang/invoke/MethodHandle" ∧ yX4_size.cls ≠ "java/lang/invoke/VarHandle" ∧ (parseMethodDescriptor yX4_size.desc).map (fun d => d.parameters.length) = some 3 := ⟨by decide +kernel, by decide +kernel, by decide +kernel⟩
theorem ms_X4_size : Cond.static yX4_size ∈ lc_T := lc_in (List.mem_of_getElem? (i := 1029) (by decide +kernel)) rfl
theorem mc_X4_pass : Cond.code yX4_pass cX4_pass 2 (some .int) ∈ lc_T := lc_in (List.mem_of_getElem? (i := 1034) (by decide +kernel)) rfl
theorem md_X4_pass : yX4_pass.cls ≠ "java/lang/invoke/MethodHandle" ∧ yX4_pass.cls ≠ "java/lang/invoke/VarHandle" ∧ (parseMethodDescriptor yX4_pass.desc).map (fun d => d.parameters.length) = some 1 := ⟨by decide +kernel, by decide +kernel, by decide +kernel⟩
theorem mi_X4_pass : Cond.instanceMethod yX4_pass ∈ lc_T := lc_in (List.mem_of_getElem? (i := 1032) (by decide +kernel)) rfl
theorem mv_X4_pass : Cond.selects yX4_pass.cls yX4_pass yX4_pass ∈ lc_T := lc_in (List.mem_of_getElem? (i := 1033) (by decide +kernel)) rfl
theorem mc_X4_rounds : Cond.code yX4_rounds cX4_rounds 4 (some .int) ∈ lc_T := lc_in (List.mem_of_getElem? (i := 1038) (by decide +kernel)) rfl
theorem md_X4_rounds : yX4_rounds.cls ≠ "java/lang/invoke/MethodHandle" ∧ yX4_rounds.cls ≠ "java/lang/invoke/VarHandle" ∧ (parseMethodDescriptor yX4_rounds.desc).map (fun d => d.parameters.length) = some 1 := ⟨by decide +kernel, by decide +kernel, by decide +kernel⟩
theorem mi_X4_rounds : Cond.instanceMethod yX4_rounds ∈ lc_T := lc_in (List.mem_of_getElem? (i := 1037) (by decide +kernel)) rfl
theorem mv_X4_rounds : Cond.selects yX4_rounds.cls yX4_rounds yX4_rounds ∈ lc_T := lc_in (List.mem_of_getElem? (i := 45) (by decide +kernel)) rfl
theorem mc_X4_round : Cond.code yX4_round cX4_round 3 (some .int) ∈ lc_T := lc_in (List.mem_of_getElem? (i := 1042) (by decide +kernel)) rfl
theorem md_X4_round : yX4_round.cls ≠ "java/lang/invoke/MethodHandle" ∧ yX4_round.cls ≠ "java/lang/invoke/VarHandle" ∧ (parseMethodDescriptor yX4_round.desc).map (fun d => d.parameters.length) = some 0 := ⟨by decide +kernel, by decide +kernel, by decide +kernel⟩
theorem mi_X4_round : Cond.instanceMethod yX4_round ∈ lc_T := lc_in (List.mem_of_getElem? (i := 1041) (by decide +kernel)) rfl
theorem mv_X4_round : Cond.selects yX4_round.cls yX4_round yX4_round ∈ lc_T := lc_in (List.mem_of_getElem? (i := 46) (by decide +kernel)) rfl
theorem mc_X4_burnInterest : Cond.code yX4_burnInterest cX4_burnInterest 5 none ∈ lc_T := lc_in (List.mem_of_getElem? (i := 1046) (by decide +kernel)) rfl
theorem md_X4_burnInterest : yX4_burnInterest.cls ≠ "java/lang/invoke/MethodHandle" ∧ yX4_burnInterest.cls ≠ "java/lang/invoke/VarHandle" ∧ (parseMethodDescriptor yX4_burnInterest.desc).map (fun d => d.parameters.length) = some 0 := ⟨by decide +kernel, by decide +kernel, by decide +kernel⟩
theorem mi_X4_burnInterest : Cond.instanceMethod yX4_burnInterest ∈ lc_T := lc_in (List.mem_of_getElem? (i := 1045) (by decide +kernel)) rfl
theorem mv_X4_burnInterest : Cond.selects yX4_burnInterest.cls yX4_burnInterest yX4_burnInterest ∈ lc_T := lc_in (List.mem_of_getElem? (i := 47) (by decide +kernel)) rfl
theorem mc_X4_breaks : Cond.code yX4_breaks cX4_breaks 9 none ∈ lc_T := lc_in (List.mem_of_getElem? (i := 1050) (by decide +kernel)) rfl
theorem md_X4_breaks : yX4_breaks.cls ≠ "java/lang/invoke/MethodHandle" ∧ yX4_breaks.cls ≠ "java/lang/invoke/VarHandle" ∧ (parseMethodDescriptor yX4_breaks.desc).map (fun d => d.parameters.length) = some 1 := ⟨by decide +kernel, by decide +kernel, by decide +kernel⟩
theorem mi_X4_breaks : Cond.instanceMethod yX4_breaks ∈ lc_T := lc_in (List.mem_of_getElem? (i := 1049) (by decide +kernel)) rfl
theorem mv_X4_breaks : Cond.selects yX4_breaks.cls yX4_breaks yX4_breaks ∈ lc_T := lc_in (List.mem_of_getElem? (i := 48) (by decide +kernel)) rfl
theorem mc_X4_undo : Cond.code yX4_undo cX4_undo 2 (some .int) ∈ lc_T := lc_in (List.mem_of_getElem? (i := 1054) (by decide +kernel)) rfl
theorem md_X4_undo : yX4_undo.cls ≠ "java/lang/invoke/MethodHandle" ∧ yX4_undo.cls ≠ "java/lang/invoke/VarHandle" ∧ (parseMethodDescriptor yX4_undo.desc).map (fun d => d.parameters.length) = some 0 := ⟨by decide +kernel, by decide +kernel, by decide +kernel⟩
theorem mi_X4_undo : Cond.instanceMethod yX4_undo ∈ lc_T := lc_in (List.mem_of_getElem? (i := 1052) (by decide +kernel)) rfl
theorem mv_X4_undo : Cond.selects yX4_undo.cls yX4_undo yX4_undo ∈ lc_T := lc_in (List.mem_of_getElem? (i := 1053) (by decide +kernel)) rfl
theorem mc_X4_holds : Cond.code yX4_holds cX4_holds 4 (some .int) ∈ lc_T := lc_in (List.mem_of_getElem? (i := 1058) (by decide +kernel)) rfl
theorem md_X4_holds : yX4_holds.cls ≠ "java/lang/invoke/MethodHandle" ∧ yX4_holds.cls ≠ "java/lang/invoke/VarHandle" ∧ (parseMethodDescriptor yX4_holds.desc).map (fun d => d.parameters.length) = some 1 := ⟨by decide +kernel, by decide +kernel, by decide +kernel⟩
theorem mi_X4_holds : Cond.instanceMethod yX4_holds ∈ lc_T := lc_in (List.mem_of_getElem? (i := 1056) (by decide +kernel)) rfl
theorem mv_X4_holds : Cond.selects yX4_holds.cls yX4_holds yX4_holds ∈ lc_T := lc_in (List.mem_of_getElem? (i := 1057) (by decide +kernel)) rfl
theorem mc_X4_draws : Cond.code yX4_draws cX4_draws 3 (some .int) ∈ lc_T := lc_in (List.mem_of_getElem? (i := 1062) (by decide +kernel)) rfl
theorem md_X4_draws : yX4_draws.cls ≠ "java/lang/invoke/MethodHandle" ∧ yX4_draws.cls ≠ "java/lang/invoke/VarHandle" ∧ (parseMethodDescriptor yX4_draws.desc).map (fun d => d.parameters.length) = some 1 := ⟨by decide +kernel, by decide +kernel, by decide +kernel⟩
theorem mi_X4_draws : Cond.instanceMethod yX4_draws ∈ lc_T := lc_in (List.mem_of_getElem? (i := 1060) (by decide +kernel)) rfl
theorem mv_X4_draws : Cond.selects yX4_draws.cls yX4_draws yX4_draws ∈ lc_T := lc_in (List.mem_of_getElem? (i := 1061) (by decide +kernel)) rfl
theorem mc_X4_most : Cond.code yX4_most cX4_most 3 (some .int) ∈ lc_T := lc_in (List.mem_of_getElem? (i := 1066) (by decide +kernel)) rfl
theorem md_X4_most : yX4_most.cls ≠ "java/lang/invoke/MethodHandle" ∧ yX4_most.cls ≠ "java/lang/invoke/VarHandle" ∧ (parseMethodDescriptor yX4_most.desc).map (fun d => d.parameters.length) = some 0 := ⟨by decide +kernel, by decide +kernel, by decide +kernel⟩
theorem mi_X4_most : Cond.instanceMethod yX4_most ∈ lc_T := lc_in (List.mem_of_getElem? (i := 1064) (by decide +kernel)) rfl
theorem mv_X4_most : Cond.selects yX4_most.cls yX4_most yX4_most ∈ lc_T := lc_in (List.mem_of_getElem? (i := 1065) (by decide +kernel)) rfl
theorem mc_X4_bestLender : Cond.code yX4_bestLender cX4_bestLender 8 (some .int) ∈ lc_T := lc_in (List.mem_of_getElem? (i := 1070) (by decide +kernel)) rfl
theorem md_X4_bestLender : yX4_bestLender.cls ≠ "java/lang/invoke/MethodHandle" ∧ yX4_bestLender.cls ≠ "java/lang/invoke/VarHandle" ∧ (parseMethodDescriptor yX4_bestLender.desc).map (fun d => d.parameters.length) = some 2 := ⟨by decide +kernel, by decide +kernel, by decide +kernel⟩
theorem mi_X4_bestLender : Cond.instanceMethod yX4_bestLender ∈ lc_T := lc_in (List.mem_of_getElem? (i := 1068) (by decide +kernel)) rfl
theorem mv_X4_bestLender : Cond.selects yX4_bestLender.cls yX4_bestLender yX4_bestLender ∈ lc_T := lc_in (List.mem_of_getElem? (i := 1069) (by decide +kernel)) rfl
theorem mc_X4_costs : Cond.code yX4_costs cX4_costs 3 (some .int) ∈ lc_T := lc_in (List.mem_of_getElem? (i := 1074) (by decide +kernel)) rfl
theorem md_X4_costs : yX4_costs.cls ≠ "java/lang/invoke/MethodHandle" ∧ yX4_costs.cls ≠ "java/lang/invoke/VarHandle" ∧ (parseMethodDescriptor yX4_costs.desc).map (fun d => d.parameters.length) = some 2 := ⟨by decide +kernel, by decide +kernel, by decide +kernel⟩
theorem mi_X4_costs : Cond.instanceMethod yX4_costs ∈ lc_T := lc_in (List.mem_of_getElem? (i := 1072) (by decide +kernel)) rfl
theorem mv_X4_costs : Cond.selects yX4_costs.cls yX4_costs yX4_costs ∈ lc_T := lc_in (List.mem_of_getElem? (i := 1073) (by decide +kernel)) rfl
theorem mc_X4_runScript : Cond.code yX4_runScript cX4_runScript 10 (some .int) ∈ lc_T := lc_in (List.mem_of_getElem? (i := 1078) (by decide +kernel)) rfl
theorem md_X4_runScript : yX4_runScript.cls ≠ "java/lang/invoke/MethodHandle" ∧ yX4_runScript.cls ≠ "java/lang/invoke/VarHandle" ∧ (parseMethodDescriptor yX4_runScript.desc).map (fun d => d.parameters.length) = some 2 := ⟨by decide +kernel, by decide +kernel, by decide +kernel⟩
theorem mi_X4_runScript : Cond.instanceMethod yX4_runScript ∈ lc_T := lc_in (List.mem_of_getElem? (i := 1076) (by decide +kernel)) rfl
theorem mv_X4_runScript : Cond.selects yX4_runScript.cls yX4_runScript yX4_runScript ∈ lc_T := lc_in (List.mem_of_getElem? (i := 1077) (by decide +kernel)) rfl
theorem mc_X4_succeeds : Cond.code yX4_succeeds cX4_succeeds 5 (some .boolean) ∈ lc_T := lc_in (List.mem_of_getElem? (i := 1085) (by decide +kernel)) rfl
theorem md_X4_succeeds : yX4_succeeds.cls ≠ "java/lang/invoke/MethodHandle" ∧ yX4_succeeds.cls ≠ "java/lang/invoke/VarHandle" ∧ (parseMethodDescriptor yX4_succeeds.desc).map (fun d => d.parameters.length) = some 1 := ⟨by decide +kernel, by decide +kernel, by decide +kernel⟩
theorem mi_X4_succeeds : Cond.instanceMethod yX4_succeeds ∈ lc_T := lc_in (List.mem_of_getElem? (i := 1084) (by decide +kernel)) rfl
theorem mv_X4_succeeds : Cond.selects yX4_succeeds.cls yX4_succeeds yX4_succeeds ∈ lc_T := lc_in (List.mem_of_getElem? (i := 49) (by decide +kernel)) rfl
theorem mc_X4_isLent : Cond.code yX4_isLent cX4_isLent 5 (some .boolean) ∈ lc_T := lc_in (List.mem_of_getElem? (i := 1089) (by decide +kernel)) rfl
theorem md_X4_isLent : yX4_isLent.cls ≠ "java/lang/invoke/MethodHandle" ∧ yX4_isLent.cls ≠ "java/lang/invoke/VarHandle" ∧ (parseMethodDescriptor yX4_isLent.desc).map (fun d => d.parameters.length) = some 3 := ⟨by decide +kernel, by decide +kernel, by decide +kernel⟩
theorem mi_X4_isLent : Cond.instanceMethod yX4_isLent ∈ lc_T := lc_in (List.mem_of_getElem? (i := 1088) (by decide +kernel)) rfl
theorem mv_X4_isLent : Cond.selects yX4_isLent.cls yX4_isLent yX4_isLent ∈ lc_T := lc_in (List.mem_of_getElem? (i := 50) (by decide +kernel)) rfl
theorem mc_X4_isRepaid : Cond.code yX4_isRepaid cX4_isRepaid 4 (some .boolean) ∈ lc_T := lc_in (List.mem_of_getElem? (i := 1093) (by decide +kernel)) rfl
theorem md_X4_isRepaid : yX4_isRepaid.cls ≠ "java/lang/invoke/MethodHandle" ∧ yX4_isRepaid.cls ≠ "java/lang/invoke/VarHandle" ∧ (parseMethodDescriptor yX4_isRepaid.desc).map (fun d => d.parameters.length) = some 2 := ⟨by decide +kernel, by decide +kernel, by decide +kernel⟩
theorem mi_X4_isRepaid : Cond.instanceMethod yX4_isRepaid ∈ lc_T := lc_in (List.mem_of_getElem? (i := 1092) (by decide +kernel)) rfl
theorem mv_X4_isRepaid : Cond.selects yX4_isRepaid.cls yX4_isRepaid yX4_isRepaid ∈ lc_T := lc_in (List.mem_of_getElem? (i := 51) (by decide +kernel)) rfl
theorem mc_X4_isCharged : Cond.code yX4_isCharged cX4_isCharged 2 (some .boolean) ∈ lc_T := lc_in (List.mem_of_getElem? (i := 1097) (by decide +kernel)) rfl
theorem md_X4_isCharged : yX4_isCharged.cls ≠ "java/lang/invoke/MethodHandle" ∧ yX4_isCharged.cls ≠ "java/lang/invoke/VarHandle" ∧ (parseMethodDescriptor yX4_isCharged.desc).map (fun d => d.parameters.length) = some 1 := ⟨by decide +kernel, by decide +kernel, by decide +kernel⟩
theorem mi_X4_isCharged : Cond.instanceMethod yX4_isCharged ∈ lc_T := lc_in (List.mem_of_getElem? (i := 1096) (by decide +kernel)) rfl
theorem mv_X4_isCharged : Cond.selects yX4_isCharged.cls yX4_isCharged yX4_isCharged ∈ lc_T := lc_in (List.mem_of_getElem? (i := 52) (by decide +kernel)) rfl
theorem mc_X4_isPassed : Cond.code yX4_isPassed cX4_isPassed 3 (some .boolean) ∈ lc_T := lc_in (List.mem_of_getElem? (i := 1101) (by decide +kernel)) rfl
theorem md_X4_isPassed : yX4_isPassed.cls ≠ "java/lang/invoke/MethodHandle" ∧ yX4_isPassed.cls ≠ "java/lang/invoke/VarHandle" ∧ (parseMethodDescriptor yX4_isPassed.desc).map (fun d => d.parameters.length) = some 1 := ⟨by decide +kernel, by decide +kernel, by decide +kernel⟩
theorem mi_X4_isPassed : Cond.instanceMethod yX4_isPassed ∈ lc_T := lc_in (List.mem_of_getElem? (i := 1100) (by decide +kernel)) rfl
theorem mv_X4_isPassed : Cond.selects yX4_isPassed.cls yX4_isPassed yX4_isPassed ∈ lc_T := lc_in (List.mem_of_getElem? (i := 53) (by decide +kernel)) rfl
theorem mc_X4_bits : Cond.code yX4_bits cX4_bits 3 (some .int) ∈ lc_T := lc_in (List.mem_of_getElem? (i := 1104) (by decide +kernel)) rfl
theorem md_X4_bits : yX4_bits.cls ≠ "java/lang/invoke/MethodHandle" ∧ yX4_bits.cls ≠ "java/lang/invoke/VarHandle" ∧ (parseMethodDescriptor yX4_bits.desc).map (fun d => d.parameters.length) = some 1 := ⟨by decide +kernel, by decide +kernel, by decide +kernel⟩
theorem ms_X4_bits : Cond.static yX4_bits ∈ lc_T := lc_in (List.mem_of_getElem? (i := 1103) (by decide +kernel)) rfl
theorem mc_X4_simulate : Cond.code yX4_simulate cX4_simulate 11 (some .int) ∈ lc_T := lc_in (List.mem_of_getElem? (i := 1108) (by decide +kernel)) rfl
theorem md_X4_simulate : yX4_simulate.cls ≠ "java/lang/invoke/MethodHandle" ∧ yX4_simulate.cls ≠ "java/lang/invoke/VarHandle" ∧ (parseMethodDescriptor yX4_simulate.desc).map (fun d => d.parameters.length) = some 2 := ⟨by decide +kernel, by decide +kernel, by decide +kernel⟩
theorem mi_X4_simulate : Cond.instanceMethod yX4_simulate ∈ lc_T := lc_in (List.mem_of_getElem? (i := 1106) (by decide +kernel)) rfl
theorem mv_X4_simulate : Cond.selects yX4_simulate.cls yX4_simulate yX4_simulate ∈ lc_T := lc_in (List.mem_of_getElem? (i := 1107) (by decide +kernel)) rfl
theorem mc_X4_save : Cond.code yX4_save cX4_save 3 (some .int) ∈ lc_T := lc_in (List.mem_of_getElem? (i := 1115) (by decide +kernel)) rfl
theorem md_X4_save : yX4_save.cls ≠ "java/lang/invoke/MethodHandle" ∧ yX4_save.cls ≠ "java/lang/invoke/VarHandle" ∧ (parseMethodDescriptor yX4_save.desc).map (fun d => d.parameters.length) = some 1 := ⟨by decide +kernel, by decide +kernel, by decide +kernel⟩
theorem mi_X4_save : Cond.instanceMethod yX4_save ∈ lc_T := lc_in (List.mem_of_getElem? (i := 1113) (by decide +kernel)) rfl
theorem mv_X4_save : Cond.selects yX4_save.cls yX4_save yX4_save ∈ lc_T := lc_in (List.mem_of_getElem? (i := 1114) (by decide +kernel)) rfl
theorem mc_X4_restore : Cond.code yX4_restore cX4_restore 3 (some .int) ∈ lc_T := lc_in (List.mem_of_getElem? (i := 1119) (by decide +kernel)) rfl
theorem md_X4_restore : yX4_restore.cls ≠ "java/lang/invoke/MethodHandle" ∧ yX4_restore.cls ≠ "java/lang/invoke/VarHandle" ∧ (parseMethodDescriptor yX4_restore.desc).map (fun d => d.parameters.length) = some 1 := ⟨by decide +kernel, by decide +kernel, by decide +kernel⟩
theorem mi_X4_restore : Cond.instanceMethod yX4_restore ∈ lc_T := lc_in (List.mem_of_getElem? (i := 1117) (by decide +kernel)) rfl
theorem mv_X4_restore : Cond.selects yX4_restore.cls yX4_restore yX4_restore ∈ lc_T := lc_in (List.mem_of_getElem? (i := 1118) (by decide +kernel)) rfl
theorem kl_RL_101 : lc_kV RL 101 yX3_clearText cX3_clearText 2 (some .int) 0 := ⟨⟨lc_in (List.mem_of_getElem? (i := 220) (by decide +kernel)) rfl, mi_X3_clearText, mv_X3_clearText, ki_RX3, mc_X3_clearText⟩, md_X3_clearText⟩
theorem kl_RX3_68 : lc_kV RX3 68 yX2_becomeEmpty cX2_becomeEmpty 1 none 0 := ⟨⟨lc_in (List.mem_of_getElem? (i := 224) (by decide +kernel)) rfl, mi_X2_becomeEmpty, mv_X2_becomeEmpty, ki_RX2, mc_X2_becomeEmpty⟩, md_X2_becomeEmpty⟩
theorem kl_RL_105 : lc_kV RL 105 yX3_errorPosition cX3_errorPosition 1 (some .int) 0 := ⟨⟨lc_in (List.mem_of_getElem? (i := 228) (by decide +kernel)) rfl, mi_X3_errorPosition, mv_X3_errorPosition, ki_RX3, mc_X3_errorPosition⟩, md_X3_errorPosition⟩
theorem kl_RX3_71 : lc_kV RX3 71 yX2_readInto cX2_readInto 3 (some .int) 1 := ⟨⟨lc_in (List.mem_of_getElem? (i := 232) (by decide +kernel)) rfl, mi_X2_readInto, mv_X2_readInto, ki_RX2, mc_X2_readInto⟩, md_X2_readInto⟩
theorem kl_RX2_19 : lc_kV RX2 19 yX0_becomeEmpty cX0_becomeEmpty 1 none 0 := ⟨⟨lc_in (List.mem_of_getElem? (i := 236) (by decide +kernel)) rfl, mi_X0_becomeEmpty, mv_X0_becomeEmpty, ki_RX0, mc_X0_becomeEmpty⟩, md_X0_becomeEmpty⟩
theorem kl_RX2_27 : lc_kV RX2 27 yX2_isAt cX2_isAt 2 (some .boolean) 1 := ⟨⟨lc_in (List.mem_of_getElem? (i := 240) (by decide +kernel)) rfl, mi_X2_isAt, mv_X2_isAt, ki_RX2, mc_X2_isAt⟩, md_X2_isAt⟩
theorem kl_RX2_31 : lc_kV RX2 31 yX2_readPart cX2_readPart 2 (some .boolean) 1 := ⟨⟨lc_in (List.mem_of_getElem? (i := 244) (by decide +kernel)) rfl, mi_X2_readPart, mv_X2_readPart, ki_RX2, mc_X2_readPart⟩, md_X2_readPart⟩
theorem kl_RX2_35 : lc_kV RX2 35 yX2_readCell cX2_readCell 5 (some .boolean) 1 := ⟨⟨lc_in (List.mem_of_getElem? (i := 248) (by decide +kernel)) rfl, mi_X2_readCell, mv_X2_readCell, ki_RX2, mc_X2_readCell⟩, md_X2_readCell⟩
theorem kl_RX2_44 : lc_kV RX2 44 yX2_readNumber cX2_readNumber 5 (some .int) 2 := ⟨⟨lc_in (List.mem_of_getElem? (i := 252) (by decide +kernel)) rfl, mi_X2_readNumber, mv_X2_readNumber, ki_RX2, mc_X2_readNumber⟩, md_X2_readNumber⟩
theorem kl_RX2_48 : lc_kV RX2 48 yX2_readDigit cX2_readDigit 4 (some .int) 2 := ⟨⟨lc_in (List.mem_of_getElem? (i := 256) (by decide +kernel)) rfl, mi_X2_readDigit, mv_X2_readDigit, ki_RX2, mc_X2_readDigit⟩, md_X2_readDigit⟩
theorem kl_RX2_58 : lc_kV RX2 58 yX2_digitHere cX2_digitHere 2 (some .int) 0 := ⟨⟨lc_in (List.mem_of_getElem? (i := 260) (by decide +kernel)) rfl, mi_X2_digitHere, mv_X2_digitHere, ki_RX2, mc_X2_digitHere⟩, md_X2_digitHere⟩
theorem kl_RX2_74 : lc_kN RX2 74 yX3_isWithin "LendingCells" cX3_isWithin 3 (some .boolean) 3 := ⟨⟨fun U h => h.2.2.1, ms_X3_isWithin, ki_RX3, mc_X3_isWithin⟩, md_X3_isWithin⟩
theorem kl_RX2_51 : lc_kV RX2 51 yX0_putCell cX0_putCell 5 (some .int) 3 := ⟨⟨lc_in (List.mem_of_getElem? (i := 267) (by decide +kernel)) rfl, mi_X0_putCell, mv_X0_putCell, ki_RX0, mc_X0_putCell⟩, md_X0_putCell⟩
theorem kl_RX2_38 : lc_kV RX2 38 yX2_readLoan cX2_readLoan 7 (some .boolean) 1 := ⟨⟨lc_in (List.mem_of_getElem? (i := 271) (by decide +kernel)) rfl, mi_X2_readLoan, mv_X2_readLoan, ki_RX2, mc_X2_readLoan⟩, md_X2_readLoan⟩
theorem kl_RX2_62 : lc_kV RX2 62 yX0_chargeOf cX0_chargeOf 2 (some .int) 1 := ⟨⟨lc_in (List.mem_of_getElem? (i := 275) (by decide +kernel)) rfl, mi_X0_chargeOf, mv_X0_chargeOf, ki_RX0, mc_X0_chargeOf⟩, md_X0_chargeOf⟩
theorem kl_RX0_73 : lc_kV RX0 73 yX0_hasCell cX0_hasCell 2 (some .boolean) 1 := ⟨⟨lc_in (List.mem_of_getElem? (i := 279) (by decide +kernel)) rfl, mi_X0_hasCell, mv_X0_hasCell, ki_RX0, mc_X0_hasCell⟩, md_X0_hasCell⟩
theorem kl_RX2_66 : lc_kV RX2 66 yX0_hasCell cX0_hasCell 2 (some .boolean) 1 := ⟨⟨lc_in (List.mem_of_getElem? (i := 283) (by decide +kernel)) rfl, mi_X0_hasCell, mv_X0_hasCell, ki_RX0, mc_X0_hasCell⟩, md_X0_hasCell⟩
theorem kl_RX2_70 : lc_kV RX2 70 yX0_makeLoan cX0_makeLoan 6 (some .int) 4 := ⟨⟨lc_in (List.mem_of_getElem? (i := 284) (by decide +kernel)) rfl, mi_X0_makeLoan, mv_X0_makeLoan, ki_RX0, mc_X0_makeLoan⟩, md_X0_makeLoan⟩
theorem kl_RX0_103 : lc_kV RX0 103 yX0_canLend cX0_canLend 4 (some .boolean) 3 := ⟨⟨lc_in (List.mem_of_getElem? (i := 288) (by decide +kernel)) rfl, mi_X0_canLend, mv_X0_canLend, ki_RX0, mc_X0_canLend⟩, md_X0_canLend⟩
theorem kl_RX0_77 : lc_kV RX0 77 yX0_isBankrupt cX0_isBankrupt 2 (some .boolean) 1 := ⟨⟨lc_in (List.mem_of_getElem? (i := 292) (by decide +kernel)) rfl, mi_X0_isBankrupt, mv_X0_isBankrupt, ki_RX0, mc_X0_isBankrupt⟩, md_X0_isBankrupt⟩
theorem kl_RX0_93 : lc_kV RX0 93 yX0_chargeOf cX0_chargeOf 2 (some .int) 1 := ⟨⟨lc_in (List.mem_of_getElem? (i := 296) (by decide +kernel)) rfl, mi_X0_chargeOf, mv_X0_chargeOf, ki_RX0, mc_X0_chargeOf⟩, md_X0_chargeOf⟩
theorem kl_RX0_96 : lc_kV RX0 96 yX0_arriving cX0_arriving 5 (some .int) 3 := ⟨⟨lc_in (List.mem_of_getElem? (i := 297) (by decide +kernel)) rfl, mi_X0_arriving, mv_X0_arriving, ki_RX0, mc_X0_arriving⟩, md_X0_arriving⟩
theorem kl_RX0_100 : lc_kV RX0 100 yX0_roomOf cX0_roomOf 2 (some .int) 1 := ⟨⟨lc_in (List.mem_of_getElem? (i := 301) (by decide +kernel)) rfl, mi_X0_roomOf, mv_X0_roomOf, ki_RX0, mc_X0_roomOf⟩, md_X0_roomOf⟩
theorem kl_RX0_107 : lc_kV RX0 107 yX0_shuttle cX0_shuttle 5 (some .int) 3 := ⟨⟨lc_in (List.mem_of_getElem? (i := 305) (by decide +kernel)) rfl, mi_X0_shuttle, mv_X0_shuttle, ki_RX0, mc_X0_shuttle⟩, md_X0_shuttle⟩
theorem kl_RL_158 : lc_kV RL 158 yX3_most cX3_most 2 (some .int) 0 := ⟨⟨lc_in (List.mem_of_getElem? (i := 309) (by decide +kernel)) rfl, mi_X3_most, mv_X3_most, ki_RX3, mc_X3_most⟩, md_X3_most⟩
theorem kl_RX3_77 : lc_kV RX3 77 yX0_copyFrom cX0_copyFrom 2 none 1 := ⟨⟨lc_in (List.mem_of_getElem? (i := 313) (by decide +kernel)) rfl, mi_X0_copyFrom, mv_X0_copyFrom, ki_RX0, mc_X0_copyFrom⟩, md_X0_copyFrom⟩
theorem kl_RX3_226 : lc_kV RX3 226 yX0_giveEach cX0_giveEach 4 (some .int) 1 := ⟨⟨lc_in (List.mem_of_getElem? (i := 320) (by decide +kernel)) rfl, mi_X0_giveEach, mv_X0_giveEach, ki_RX0, mc_X0_giveEach⟩, md_X0_giveEach⟩
theorem kl_RX0_127 : lc_kV RX0 127 yX0_borrowUpTo cX0_borrowUpTo 5 (some .boolean) 2 := ⟨⟨lc_in (List.mem_of_getElem? (i := 324) (by decide +kernel)) rfl, mi_X0_borrowUpTo, mv_X0_borrowUpTo, ki_RX0, mc_X0_borrowUpTo⟩, md_X0_borrowUpTo⟩
theorem kl_RX0_130 : lc_kV RX0 130 yX0_fullestOther cX0_fullestOther 4 (some .int) 1 := ⟨⟨lc_in (List.mem_of_getElem? (i := 328) (by decide +kernel)) rfl, mi_X0_fullestOther, mv_X0_fullestOther, ki_RX0, mc_X0_fullestOther⟩, md_X0_fullestOther⟩
theorem kl_RX0_118 : lc_kV RX0 118 yX0_sizeToBring cX0_sizeToBring 5 (some .int) 3 := ⟨⟨lc_in (List.mem_of_getElem? (i := 332) (by decide +kernel)) rfl, mi_X0_sizeToBring, mv_X0_sizeToBring, ki_RX0, mc_X0_sizeToBring⟩, md_X0_sizeToBring⟩
theorem kl_RX0_133 : lc_kV RX0 133 yX0_makeLoan cX0_makeLoan 6 (some .int) 4 := ⟨⟨lc_in (List.mem_of_getElem? (i := 336) (by decide +kernel)) rfl, mi_X0_makeLoan, mv_X0_makeLoan, ki_RX0, mc_X0_makeLoan⟩, md_X0_makeLoan⟩
theorem kl_RL_7 : lc_kV RL 7 yX3_append cX3_append 2 (some .int) 1 := ⟨⟨lc_in (List.mem_of_getElem? (i := 342) (by decide +kernel)) rfl, mi_X3_append, mv_X3_append, ki_RX3, mc_X3_append⟩, md_X3_append⟩
theorem kl_RX3_44 : lc_kS RX3 44 yX3_isWithin cX3_isWithin 3 (some .boolean) 3 := ⟨⟨lc_in (List.mem_of_getElem? (i := 346) (by decide +kernel)) rfl, ms_X3_isWithin, ki_RX3, mc_X3_isWithin⟩, md_X3_isWithin⟩
theorem kl_RX3_64 : lc_kV RX3 64 yX2_put cX2_put 2 (some .int) 1 := ⟨⟨lc_in (List.mem_of_getElem? (i := 431) (by decide +kernel)) rfl, mi_X2_put, mv_X2_put, ki_RX2, mc_X2_put⟩, md_X2_put⟩
theorem kl_RL_17 : lc_kV RL 17 yX3_load cX3_load 2 (some .int) 0 := ⟨⟨lc_in (List.mem_of_getElem? (i := 438) (by decide +kernel)) rfl, mi_X3_load, mv_X3_load, ki_RX3, mc_X3_load⟩, md_X3_load⟩
theorem kl_RX3_81 : lc_kV RX3 81 yX1_forgetAll cX1_forgetAll 1 none 0 := ⟨⟨lc_in (List.mem_of_getElem? (i := 443) (by decide +kernel)) rfl, mi_X1_forgetAll, mv_X1_forgetAll, ki_RX1, mc_X1_forgetAll⟩, md_X1_forgetAll⟩
theorem kl_RL_21 : lc_kV RL 21 yX3_about cX3_about 2 (some .int) 1 := ⟨⟨lc_in (List.mem_of_getElem? (i := 450) (by decide +kernel)) rfl, mi_X3_about, mv_X3_about, ki_RX3, mc_X3_about⟩, md_X3_about⟩
theorem kl_RX3_93 : lc_kV RX3 93 yX0_allCharge cX0_allCharge 3 (some .int) 0 := ⟨⟨lc_in (List.mem_of_getElem? (i := 454) (by decide +kernel)) rfl, mi_X0_allCharge, mv_X0_allCharge, ki_RX0, mc_X0_allCharge⟩, md_X0_allCharge⟩
theorem kl_RX3_106 : lc_kV RX3 106 yX0_allOwed cX0_allOwed 3 (some .int) 0 := ⟨⟨lc_in (List.mem_of_getElem? (i := 458) (by decide +kernel)) rfl, mi_X0_allOwed, mv_X0_allOwed, ki_RX0, mc_X0_allOwed⟩, md_X0_allOwed⟩
theorem kl_RX3_112 : lc_kV RX3 112 yX0_bankruptCells cX0_bankruptCells 3 (some .int) 0 := ⟨⟨lc_in (List.mem_of_getElem? (i := 462) (by decide +kernel)) rfl, mi_X0_bankruptCells, mv_X0_bankruptCells, ki_RX0, mc_X0_bankruptCells⟩, md_X0_bankruptCells⟩
theorem kl_RL_24 : lc_kV RL 24 yX3_cell cX3_cell 3 (some .int) 2 := ⟨⟨lc_in (List.mem_of_getElem? (i := 471) (by decide +kernel)) rfl, mi_X3_cell, mv_X3_cell, ki_RX3, mc_X3_cell⟩, md_X3_cell⟩
theorem kl_RX3_117 : lc_kV RX3 117 yX0_hasCell cX0_hasCell 2 (some .boolean) 1 := ⟨⟨lc_in (List.mem_of_getElem? (i := 475) (by decide +kernel)) rfl, mi_X0_hasCell, mv_X0_hasCell, ki_RX0, mc_X0_hasCell⟩, md_X0_hasCell⟩
theorem kl_RX3_139 : lc_kV RX3 139 yX0_owedBy cX0_owedBy 4 (some .int) 1 := ⟨⟨lc_in (List.mem_of_getElem? (i := 492) (by decide +kernel)) rfl, mi_X0_owedBy, mv_X0_owedBy, ki_RX0, mc_X0_owedBy⟩, md_X0_owedBy⟩
theorem kl_RX3_143 : lc_kV RX3 143 yX0_owedTo cX0_owedTo 4 (some .int) 1 := ⟨⟨lc_in (List.mem_of_getElem? (i := 496) (by decide +kernel)) rfl, mi_X0_owedTo, mv_X0_owedTo, ki_RX0, mc_X0_owedTo⟩, md_X0_owedTo⟩
theorem kl_RX3_146 : lc_kV RX3 146 yX0_interestBy cX0_interestBy 4 (some .int) 1 := ⟨⟨lc_in (List.mem_of_getElem? (i := 500) (by decide +kernel)) rfl, mi_X0_interestBy, mv_X0_interestBy, ki_RX0, mc_X0_interestBy⟩, md_X0_interestBy⟩
theorem kl_RX0_83 : lc_kV RX0 83 yX0_interestOf cX0_interestOf 2 (some .int) 1 := ⟨⟨lc_in (List.mem_of_getElem? (i := 504) (by decide +kernel)) rfl, mi_X0_interestOf, mv_X0_interestOf, ki_RX0, mc_X0_interestOf⟩, md_X0_interestOf⟩
theorem kl_RX0_80 : lc_kV RX0 80 yX0_hasLoan cX0_hasLoan 2 (some .boolean) 1 := ⟨⟨lc_in (List.mem_of_getElem? (i := 508) (by decide +kernel)) rfl, mi_X0_hasLoan, mv_X0_hasLoan, ki_RX0, mc_X0_hasLoan⟩, md_X0_hasLoan⟩
theorem kl_RX3_149 : lc_kV RX3 149 yX0_kindOf cX0_kindOf 2 (some .int) 1 := ⟨⟨lc_in (List.mem_of_getElem? (i := 512) (by decide +kernel)) rfl, mi_X0_kindOf, mv_X0_kindOf, ki_RX0, mc_X0_kindOf⟩, md_X0_kindOf⟩
theorem kl_RX0_87 : lc_kV RX0 87 yX0_owedBy cX0_owedBy 4 (some .int) 1 := ⟨⟨lc_in (List.mem_of_getElem? (i := 516) (by decide +kernel)) rfl, mi_X0_owedBy, mv_X0_owedBy, ki_RX0, mc_X0_owedBy⟩, md_X0_owedBy⟩
theorem kl_RL_30 : lc_kV RL 30 yX3_loan cX3_loan 3 (some .int) 2 := ⟨⟨lc_in (List.mem_of_getElem? (i := 521) (by decide +kernel)) rfl, mi_X3_loan, mv_X3_loan, ki_RX3, mc_X3_loan⟩, md_X3_loan⟩
theorem kl_RX3_154 : lc_kV RX3 154 yX0_hasLoan cX0_hasLoan 2 (some .boolean) 1 := ⟨⟨lc_in (List.mem_of_getElem? (i := 525) (by decide +kernel)) rfl, mi_X0_hasLoan, mv_X0_hasLoan, ki_RX0, mc_X0_hasLoan⟩, md_X0_hasLoan⟩
theorem kl_RX3_171 : lc_kV RX3 171 yX0_interestOf cX0_interestOf 2 (some .int) 1 := ⟨⟨lc_in (List.mem_of_getElem? (i := 527) (by decide +kernel)) rfl, mi_X0_interestOf, mv_X0_interestOf, ki_RX0, mc_X0_interestOf⟩, md_X0_interestOf⟩
theorem kl_RL_33 : lc_kV RL 33 yX3_order cX3_order 2 (some .int) 1 := ⟨⟨lc_in (List.mem_of_getElem? (i := 532) (by decide +kernel)) rfl, mi_X3_order, mv_X3_order, ki_RX3, mc_X3_order⟩, md_X3_order⟩
theorem kl_RX3_181 : lc_kV RX3 181 yX0_cellAtPlace cX0_cellAtPlace 3 (some .int) 1 := ⟨⟨lc_in (List.mem_of_getElem? (i := 537) (by decide +kernel)) rfl, mi_X0_cellAtPlace, mv_X0_cellAtPlace, ki_RX0, mc_X0_cellAtPlace⟩, md_X0_cellAtPlace⟩
theorem kl_RX0_90 : lc_kV RX0 90 yX0_placeOf cX0_placeOf 5 (some .int) 1 := ⟨⟨lc_in (List.mem_of_getElem? (i := 541) (by decide +kernel)) rfl, mi_X0_placeOf, mv_X0_placeOf, ki_RX0, mc_X0_placeOf⟩, md_X0_placeOf⟩
theorem kl_RL_36 : lc_kV RL 36 yX3_addCell cX3_addCell 4 (some .int) 3 := ⟨⟨lc_in (List.mem_of_getElem? (i := 548) (by decide +kernel)) rfl, mi_X3_addCell, mv_X3_addCell, ki_RX3, mc_X3_addCell⟩, md_X3_addCell⟩
theorem kl_RX3_188 : lc_kV RX3 188 yX1_remember cX1_remember 2 none 1 := ⟨⟨lc_in (List.mem_of_getElem? (i := 554) (by decide +kernel)) rfl, mi_X1_remember, mv_X1_remember, ki_RX1, mc_X1_remember⟩, md_X1_remember⟩
theorem kl_RX1_25 : lc_kV RX1 25 yX0_copyFrom cX0_copyFrom 2 none 1 := ⟨⟨lc_in (List.mem_of_getElem? (i := 558) (by decide +kernel)) rfl, mi_X0_copyFrom, mv_X0_copyFrom, ki_RX0, mc_X0_copyFrom⟩, md_X0_copyFrom⟩
theorem kl_RX3_191 : lc_kV RX3 191 yX0_putCell cX0_putCell 5 (some .int) 3 := ⟨⟨lc_in (List.mem_of_getElem? (i := 559) (by decide +kernel)) rfl, mi_X0_putCell, mv_X0_putCell, ki_RX0, mc_X0_putCell⟩, md_X0_putCell⟩
theorem kl_RL_40 : lc_kV RL 40 yX3_lend cX3_lend 5 (some .int) 4 := ⟨⟨lc_in (List.mem_of_getElem? (i := 563) (by decide +kernel)) rfl, mi_X3_lend, mv_X3_lend, ki_RX3, mc_X3_lend⟩, md_X3_lend⟩
theorem kl_RX3_195 : lc_kS RX3 195 yX3_isUnits cX3_isUnits 1 (some .boolean) 1 := ⟨⟨lc_in (List.mem_of_getElem? (i := 567) (by decide +kernel)) rfl, ms_X3_isUnits, ki_RX3, mc_X3_isUnits⟩, md_X3_isUnits⟩
theorem kl_RX3_200 : lc_kV RX3 200 yX0_canLend cX0_canLend 4 (some .boolean) 3 := ⟨⟨lc_in (List.mem_of_getElem? (i := 571) (by decide +kernel)) rfl, mi_X0_canLend, mv_X0_canLend, ki_RX0, mc_X0_canLend⟩, md_X0_canLend⟩
theorem kl_RX3_205 : lc_kV RX3 205 yX0_makeLoan cX0_makeLoan 6 (some .int) 4 := ⟨⟨lc_in (List.mem_of_getElem? (i := 573) (by decide +kernel)) rfl, mi_X0_makeLoan, mv_X0_makeLoan, ki_RX0, mc_X0_makeLoan⟩, md_X0_makeLoan⟩
theorem kl_RL_44 : lc_kV RL 44 yX3_repay cX3_repay 3 (some .int) 2 := ⟨⟨lc_in (List.mem_of_getElem? (i := 577) (by decide +kernel)) rfl, mi_X3_repay, mv_X3_repay, ki_RX3, mc_X3_repay⟩, md_X3_repay⟩
theorem kl_RX3_211 : lc_kV RX3 211 yX0_canPayBack cX0_canPayBack 3 (some .boolean) 2 := ⟨⟨lc_in (List.mem_of_getElem? (i := 582) (by decide +kernel)) rfl, mi_X0_canPayBack, mv_X0_canPayBack, ki_RX0, mc_X0_canPayBack⟩, md_X0_canPayBack⟩
theorem kl_RX3_217 : lc_kV RX3 217 yX0_payBack cX0_payBack 4 (some .int) 2 := ⟨⟨lc_in (List.mem_of_getElem? (i := 587) (by decide +kernel)) rfl, mi_X0_payBack, mv_X0_payBack, ki_RX0, mc_X0_payBack⟩, md_X0_payBack⟩
theorem kl_RX0_110 : lc_kV RX0 110 yX0_canPayBack cX0_canPayBack 3 (some .boolean) 2 := ⟨⟨lc_in (List.mem_of_getElem? (i := 591) (by decide +kernel)) rfl, mi_X0_canPayBack, mv_X0_canPayBack, ki_RX0, mc_X0_canPayBack⟩, md_X0_canPayBack⟩
theorem kl_RX0_114 : lc_kV RX0 114 yX0_removeLoan cX0_removeLoan 3 none 1 := ⟨⟨lc_in (List.mem_of_getElem? (i := 592) (by decide +kernel)) rfl, mi_X0_removeLoan, mv_X0_removeLoan, ki_RX0, mc_X0_removeLoan⟩, md_X0_removeLoan⟩
theorem kl_RL_47 : lc_kV RL 47 yX3_setLeak cX3_setLeak 4 (some .int) 2 := ⟨⟨lc_in (List.mem_of_getElem? (i := 599) (by decide +kernel)) rfl, mi_X3_setLeak, mv_X3_setLeak, ki_RX3, mc_X3_setLeak⟩, md_X3_setLeak⟩
theorem kl_RL_50 : lc_kV RL 50 yX3_charge cX3_charge 2 (some .int) 1 := ⟨⟨lc_in (List.mem_of_getElem? (i := 607) (by decide +kernel)) rfl, mi_X3_charge, mv_X3_charge, ki_RX3, mc_X3_charge⟩, md_X3_charge⟩
theorem kl_RX3_223 : lc_kV RX3 223 yX0_fillEach cX0_fillEach 5 (some .int) 1 := ⟨⟨lc_in (List.mem_of_getElem? (i := 611) (by decide +kernel)) rfl, mi_X0_fillEach, mv_X0_fillEach, ki_RX0, mc_X0_fillEach⟩, md_X0_fillEach⟩
theorem kl_RX0_121 : lc_kS RX0 121 yJ9_min_7cf53 cJ9_min_7cf53 2 (some .int) 2 := ⟨⟨lc_in (List.mem_of_getElem? (i := 615) (by decide +kernel)) rfl, ms_J9_min_7cf53, ki_RJ9, mc_J9_min_7cf53⟩, md_J9_min_7cf53⟩
theorem kl_RL_53 : lc_kV RL 53 yX3_draw cX3_draw 3 (some .int) 1 := ⟨⟨lc_in (List.mem_of_getElem? (i := 621) (by decide +kernel)) rfl, mi_X3_draw, mv_X3_draw, ki_RX3, mc_X3_draw⟩, md_X3_draw⟩
theorem kl_RL_56 : lc_kV RL 56 yX3_pass cX3_pass 2 (some .int) 1 := ⟨⟨lc_in (List.mem_of_getElem? (i := 629) (by decide +kernel)) rfl, mi_X3_pass, mv_X3_pass, ki_RX3, mc_X3_pass⟩, md_X3_pass⟩
theorem kl_RX3_233 : lc_kV RX3 233 yX0_letRoundsGoBy cX0_letRoundsGoBy 4 (some .int) 1 := ⟨⟨lc_in (List.mem_of_getElem? (i := 634) (by decide +kernel)) rfl, mi_X0_letRoundsGoBy, mv_X0_letRoundsGoBy, ki_RX0, mc_X0_letRoundsGoBy⟩, md_X0_letRoundsGoBy⟩
theorem kl_RX0_137 : lc_kV RX0 137 yX0_letRoundGoBy cX0_letRoundGoBy 3 (some .int) 0 := ⟨⟨lc_in (List.mem_of_getElem? (i := 638) (by decide +kernel)) rfl, mi_X0_letRoundGoBy, mv_X0_letRoundGoBy, ki_RX0, mc_X0_letRoundGoBy⟩, md_X0_letRoundGoBy⟩
theorem kl_RX0_141 : lc_kV RX0 141 yX0_leakAll cX0_leakAll 2 none 0 := ⟨⟨lc_in (List.mem_of_getElem? (i := 642) (by decide +kernel)) rfl, mi_X0_leakAll, mv_X0_leakAll, ki_RX0, mc_X0_leakAll⟩, md_X0_leakAll⟩
theorem kl_RX0_150 : lc_kV RX0 150 yX0_loseAsHeat cX0_loseAsHeat 3 none 2 := ⟨⟨lc_in (List.mem_of_getElem? (i := 646) (by decide +kernel)) rfl, mi_X0_loseAsHeat, mv_X0_loseAsHeat, ki_RX0, mc_X0_loseAsHeat⟩, md_X0_loseAsHeat⟩
theorem kl_RX0_144 : lc_kV RX0 144 yX0_burnInterest cX0_burnInterest 5 (some .int) 0 := ⟨⟨lc_in (List.mem_of_getElem? (i := 650) (by decide +kernel)) rfl, mi_X0_burnInterest, mv_X0_burnInterest, ki_RX0, mc_X0_burnInterest⟩, md_X0_burnInterest⟩
theorem kl_RX0_147 : lc_kV RX0 147 yX0_countLateRounds cX0_countLateRounds 5 (some .int) 1 := ⟨⟨lc_in (List.mem_of_getElem? (i := 654) (by decide +kernel)) rfl, mi_X0_countLateRounds, mv_X0_countLateRounds, ki_RX0, mc_X0_countLateRounds⟩, md_X0_countLateRounds⟩
theorem kl_RX0_154 : lc_kV RX0 154 yX0_shareOut cX0_shareOut 8 none 1 := ⟨⟨lc_in (List.mem_of_getElem? (i := 658) (by decide +kernel)) rfl, mi_X0_shareOut, mv_X0_shareOut, ki_RX0, mc_X0_shareOut⟩, md_X0_shareOut⟩
theorem kl_RX0_157 : lc_kV RX0 157 yX0_dropLoansOf cX0_dropLoansOf 3 none 1 := ⟨⟨lc_in (List.mem_of_getElem? (i := 662) (by decide +kernel)) rfl, mi_X0_dropLoansOf, mv_X0_dropLoansOf, ki_RX0, mc_X0_dropLoansOf⟩, md_X0_dropLoansOf⟩
theorem kl_RL_59 : lc_kV RL 59 yX3_undo cX3_undo 1 (some .int) 0 := ⟨⟨lc_in (List.mem_of_getElem? (i := 669) (by decide +kernel)) rfl, mi_X3_undo, mv_X3_undo, ki_RX3, mc_X3_undo⟩, md_X3_undo⟩
theorem kl_RX3_241 : lc_kV RX3 241 yX1_takeBack cX1_takeBack 2 none 1 := ⟨⟨lc_in (List.mem_of_getElem? (i := 674) (by decide +kernel)) rfl, mi_X1_takeBack, mv_X1_takeBack, ki_RX1, mc_X1_takeBack⟩, md_X1_takeBack⟩
theorem kl_RL_62 : lc_kV RL 62 yX3_holds cX3_holds 3 (some .int) 1 := ⟨⟨lc_in (List.mem_of_getElem? (i := 681) (by decide +kernel)) rfl, mi_X3_holds, mv_X3_holds, ki_RX3, mc_X3_holds⟩, md_X3_holds⟩
theorem kl_RX3_244 : lc_kV RX3 244 yX0_isBankrupt cX0_isBankrupt 2 (some .boolean) 1 := ⟨⟨lc_in (List.mem_of_getElem? (i := 685) (by decide +kernel)) rfl, mi_X0_isBankrupt, mv_X0_isBankrupt, ki_RX0, mc_X0_isBankrupt⟩, md_X0_isBankrupt⟩
theorem kl_RX3_247 : lc_kV RX3 247 yX0_letRoundGoBy cX0_letRoundGoBy 3 (some .int) 0 := ⟨⟨lc_in (List.mem_of_getElem? (i := 686) (by decide +kernel)) rfl, mi_X0_letRoundGoBy, mv_X0_letRoundGoBy, ki_RX0, mc_X0_letRoundGoBy⟩, md_X0_letRoundGoBy⟩
theorem kl_RL_65 : lc_kV RL 65 yX3_draws cX3_draws 3 (some .int) 1 := ⟨⟨lc_in (List.mem_of_getElem? (i := 690) (by decide +kernel)) rfl, mi_X3_draws, mv_X3_draws, ki_RX3, mc_X3_draws⟩, md_X3_draws⟩
theorem kl_RL_68 : lc_kV RL 68 yX3_bestLender cX3_bestLender 3 (some .int) 2 := ⟨⟨lc_in (List.mem_of_getElem? (i := 697) (by decide +kernel)) rfl, mi_X3_bestLender, mv_X3_bestLender, ki_RX3, mc_X3_bestLender⟩, md_X3_bestLender⟩
theorem kl_RX3_250 : lc_kV RX3 250 yX0_cheapestLender cX0_cheapestLender 8 (some .int) 2 := ⟨⟨lc_in (List.mem_of_getElem? (i := 701) (by decide +kernel)) rfl, mi_X0_cheapestLender, mv_X0_cheapestLender, ki_RX0, mc_X0_cheapestLender⟩, md_X0_cheapestLender⟩
theorem kl_RL_71 : lc_kV RL 71 yX3_costs cX3_costs 3 (some .int) 2 := ⟨⟨lc_in (List.mem_of_getElem? (i := 708) (by decide +kernel)) rfl, mi_X3_costs, mv_X3_costs, ki_RX3, mc_X3_costs⟩, md_X3_costs⟩
theorem kl_RL_74 : lc_kV RL 74 yX3_runScript cX3_runScript 7 (some .int) 2 := ⟨⟨lc_in (List.mem_of_getElem? (i := 715) (by decide +kernel)) rfl, mi_X3_runScript, mv_X3_runScript, ki_RX3, mc_X3_runScript⟩, md_X3_runScript⟩
theorem kl_RX3_261 : lc_kS RX3 261 yX3_withoutLastGroups cX3_withoutLastGroups 6 (some .long) 2 := ⟨⟨lc_in (List.mem_of_getElem? (i := 720) (by decide +kernel)) rfl, ms_X3_withoutLastGroups, ki_RX3, mc_X3_withoutLastGroups⟩, md_X3_withoutLastGroups⟩
theorem kl_RX3_269 : lc_kS RX3 269 yX3_succeeds cX3_succeeds 7 (some .boolean) 2 := ⟨⟨lc_in (List.mem_of_getElem? (i := 725) (by decide +kernel)) rfl, ms_X3_succeeds, ki_RX3, mc_X3_succeeds⟩, md_X3_succeeds⟩
theorem kl_RX3_293 : lc_kV RX3 293 yX0_chargeOf cX0_chargeOf 2 (some .int) 1 := ⟨⟨lc_in (List.mem_of_getElem? (i := 728) (by decide +kernel)) rfl, mi_X0_chargeOf, mv_X0_chargeOf, ki_RX0, mc_X0_chargeOf⟩, md_X0_chargeOf⟩
theorem kl_RX3_283 : lc_kS RX3 283 yJ6_bitCount_0f7a4 cJ6_bitCount_0f7a4 1 (some .int) 1 := ⟨⟨lc_in (List.mem_of_getElem? (i := 729) (by decide +kernel)) rfl, ms_J6_bitCount_0f7a4, ki_RJ6, mc_J6_bitCount_0f7a4⟩, md_J6_bitCount_0f7a4⟩
theorem kl_RL_78 : lc_kV RL 78 yX3_simulate cX3_simulate 10 (some .int) 2 := ⟨⟨lc_in (List.mem_of_getElem? (i := 738) (by decide +kernel)) rfl, mi_X3_simulate, mv_X3_simulate, ki_RX3, mc_X3_simulate⟩, md_X3_simulate⟩
theorem kl_RX3_279 : lc_kV RX3 279 yX3_giveIfPossible cX3_giveIfPossible 2 none 1 := ⟨⟨lc_in (List.mem_of_getElem? (i := 745) (by decide +kernel)) rfl, mi_X3_giveIfPossible, mv_X3_giveIfPossible, ki_RX3, mc_X3_giveIfPossible⟩, md_X3_giveIfPossible⟩
theorem kl_RL_82 : lc_kV RL 82 yX3_save cX3_save 2 (some .int) 1 := ⟨⟨lc_in (List.mem_of_getElem? (i := 753) (by decide +kernel)) rfl, mi_X3_save, mv_X3_save, ki_RX3, mc_X3_save⟩, md_X3_save⟩
theorem kl_RL_85 : lc_kV RL 85 yX3_restore cX3_restore 2 (some .int) 1 := ⟨⟨lc_in (List.mem_of_getElem? (i := 761) (by decide +kernel)) rfl, mi_X3_restore, mv_X3_restore, ki_RX3, mc_X3_restore⟩, md_X3_restore⟩
theorem kl_RL_98 : lc_kV RL 98 yX4_thrown cX4_thrown 1 (some .int) 0 := ⟨⟨lc_in (List.mem_of_getElem? (i := 818) (by decide +kernel)) rfl, mi_X4_thrown, mv_X4_thrown, ki_RX4, mc_X4_thrown⟩, md_X4_thrown⟩
theorem kl_RL_97 : lc_kV RL 97 yX4_append cX4_append 2 (some .int) 1 := ⟨⟨lc_in (List.mem_of_getElem? (i := 822) (by decide +kernel)) rfl, mi_X4_append, mv_X4_append, ki_RX4, mc_X4_append⟩, md_X4_append⟩
theorem kl_RX4_39 : lc_kS RX4 39 yX4_in cX4_in 3 (some .boolean) 3 := ⟨⟨lc_in (List.mem_of_getElem? (i := 826) (by decide +kernel)) rfl, ms_X4_in, ki_RX4, mc_X4_in⟩, md_X4_in⟩
theorem kl_RL_104 : lc_kV RL 104 yX4_clearText cX4_clearText 2 (some .int) 0 := ⟨⟨lc_in (List.mem_of_getElem? (i := 829) (by decide +kernel)) rfl, mi_X4_clearText, mv_X4_clearText, ki_RX4, mc_X4_clearText⟩, md_X4_clearText⟩
theorem kl_RL_108 : lc_kV RL 108 yX4_errorPosition cX4_errorPosition 2 (some .int) 0 := ⟨⟨lc_in (List.mem_of_getElem? (i := 833) (by decide +kernel)) rfl, mi_X4_errorPosition, mv_X4_errorPosition, ki_RX4, mc_X4_errorPosition⟩, md_X4_errorPosition⟩
theorem kl_RX4_150 : lc_kV RX4 150 yX4_layPut cX4_layPut 2 none 0 := ⟨⟨lc_in (List.mem_of_getElem? (i := 837) (by decide +kernel)) rfl, mi_X4_layPut, mv_X4_layPut, ki_RX4, mc_X4_layPut⟩, md_X4_layPut⟩
theorem kl_RX4_153 : lc_kV RX4 153 yX4_isBattery cX4_isBattery 2 (some .boolean) 0 := ⟨⟨lc_in (List.mem_of_getElem? (i := 841) (by decide +kernel)) rfl, mi_X4_isBattery, mv_X4_isBattery, ki_RX4, mc_X4_isBattery⟩, md_X4_isBattery⟩
theorem kl_RX4_122 : lc_kV RX4 122 yX4_look cX4_look 1 (some .int) 0 := ⟨⟨lc_in (List.mem_of_getElem? (i := 845) (by decide +kernel)) rfl, mi_X4_look, mv_X4_look, ki_RX4, mc_X4_look⟩, md_X4_look⟩
theorem kl_RX4_125 : lc_kV RX4 125 yX4_must cX4_must 2 none 1 := ⟨⟨lc_in (List.mem_of_getElem? (i := 849) (by decide +kernel)) rfl, mi_X4_must, mv_X4_must, ki_RX4, mc_X4_must⟩, md_X4_must⟩
theorem kl_RX4_144 : lc_kV RX4 144 yX4_readCell cX4_readCell 4 none 0 := ⟨⟨lc_in (List.mem_of_getElem? (i := 853) (by decide +kernel)) rfl, mi_X4_readCell, mv_X4_readCell, ki_RX4, mc_X4_readCell⟩, md_X4_readCell⟩
theorem kl_RX4_129 : lc_kV RX4 129 yX4_number cX4_number 9 (some .int) 3 := ⟨⟨lc_in (List.mem_of_getElem? (i := 857) (by decide +kernel)) rfl, mi_X4_number, mv_X4_number, ki_RX4, mc_X4_number⟩, md_X4_number⟩
theorem kl_RX4_132 : lc_kV RX4 132 yX4_newCell cX4_newCell 6 (some .int) 3 := ⟨⟨lc_in (List.mem_of_getElem? (i := 861) (by decide +kernel)) rfl, mi_X4_newCell, mv_X4_newCell, ki_RX4, mc_X4_newCell⟩, md_X4_newCell⟩
theorem kl_RX4_147 : lc_kV RX4 147 yX4_readLoan cX4_readLoan 6 none 0 := ⟨⟨lc_in (List.mem_of_getElem? (i := 865) (by decide +kernel)) rfl, mi_X4_readLoan, mv_X4_readLoan, ki_RX4, mc_X4_readLoan⟩, md_X4_readLoan⟩
theorem kl_RX4_138 : lc_kV RX4 138 yX4_cellHere cX4_cellHere 3 (some .int) 1 := ⟨⟨lc_in (List.mem_of_getElem? (i := 869) (by decide +kernel)) rfl, mi_X4_cellHere, mv_X4_cellHere, ki_RX4, mc_X4_cellHere⟩, md_X4_cellHere⟩
theorem kl_RX4_135 : lc_kV RX4 135 yX4_isCell cX4_isCell 2 (some .boolean) 1 := ⟨⟨lc_in (List.mem_of_getElem? (i := 873) (by decide +kernel)) rfl, mi_X4_isCell, mv_X4_isCell, ki_RX4, mc_X4_isCell⟩, md_X4_isCell⟩
theorem kl_RX4_43 : lc_kV RX4 43 yX4_of cX4_of 3 (some .int) 2 := ⟨⟨lc_in (List.mem_of_getElem? (i := 877) (by decide +kernel)) rfl, mi_X4_of, mv_X4_of, ki_RX4, mc_X4_of⟩, md_X4_of⟩
theorem kl_RX4_141 : lc_kV RX4 141 yX4_isTooMuch cX4_isTooMuch 4 (some .boolean) 3 := ⟨⟨lc_in (List.mem_of_getElem? (i := 881) (by decide +kernel)) rfl, mi_X4_isTooMuch, mv_X4_isTooMuch, ki_RX4, mc_X4_isTooMuch⟩, md_X4_isTooMuch⟩
theorem kl_RX4_50 : lc_kS RX4 50 yX4_arrives cX4_arrives 4 (some .int) 3 := ⟨⟨lc_in (List.mem_of_getElem? (i := 885) (by decide +kernel)) rfl, ms_X4_arrives, ki_RX4, mc_X4_arrives⟩, md_X4_arrives⟩
theorem kl_RX4_101 : lc_kV RX4 101 yX4_makeLoan cX4_makeLoan 6 (some .int) 4 := ⟨⟨lc_in (List.mem_of_getElem? (i := 888) (by decide +kernel)) rfl, mi_X4_makeLoan, mv_X4_makeLoan, ki_RX4, mc_X4_makeLoan⟩, md_X4_makeLoan⟩
theorem kl_RX4_58 : lc_kV RX4 58 yX4_shuttle cX4_shuttle 5 (some .int) 3 := ⟨⟨lc_in (List.mem_of_getElem? (i := 892) (by decide +kernel)) rfl, mi_X4_shuttle, mv_X4_shuttle, ki_RX4, mc_X4_shuttle⟩, md_X4_shuttle⟩
theorem kl_RX4_54 : lc_kV RX4 54 yX4_more cX4_more 4 none 3 := ⟨⟨lc_in (List.mem_of_getElem? (i := 896) (by decide +kernel)) rfl, mi_X4_more, mv_X4_more, ki_RX4, mc_X4_more⟩, md_X4_more⟩
theorem kl_RX4_157 : lc_kV RX4 157 yX4_putBack cX4_putBack 2 none 0 := ⟨⟨lc_in (List.mem_of_getElem? (i := 900) (by decide +kernel)) rfl, mi_X4_putBack, mv_X4_putBack, ki_RX4, mc_X4_putBack⟩, md_X4_putBack⟩
theorem kl_RL_112 : lc_kV RL 112 yX4_load cX4_load 1 (some .int) 0 := ⟨⟨lc_in (List.mem_of_getElem? (i := 904) (by decide +kernel)) rfl, mi_X4_load, mv_X4_load, ki_RX4, mc_X4_load⟩, md_X4_load⟩
theorem kl_RL_115 : lc_kV RL 115 yX4_about cX4_about 2 (some .int) 1 := ⟨⟨lc_in (List.mem_of_getElem? (i := 908) (by decide +kernel)) rfl, mi_X4_about, mv_X4_about, ki_RX4, mc_X4_about⟩, md_X4_about⟩
theorem kl_RX4_160 : lc_kV RX4 160 yX4_allCharge cX4_allCharge 3 (some .int) 0 := ⟨⟨lc_in (List.mem_of_getElem? (i := 912) (by decide +kernel)) rfl, mi_X4_allCharge, mv_X4_allCharge, ki_RX4, mc_X4_allCharge⟩, md_X4_allCharge⟩
theorem kl_RX4_163 : lc_kV RX4 163 yX4_allOwed cX4_allOwed 3 (some .int) 0 := ⟨⟨lc_in (List.mem_of_getElem? (i := 916) (by decide +kernel)) rfl, mi_X4_allOwed, mv_X4_allOwed, ki_RX4, mc_X4_allOwed⟩, md_X4_allOwed⟩
theorem kl_RX4_64 : lc_kV RX4 64 yX4_ofLoan cX4_ofLoan 3 (some .int) 2 := ⟨⟨lc_in (List.mem_of_getElem? (i := 920) (by decide +kernel)) rfl, mi_X4_ofLoan, mv_X4_ofLoan, ki_RX4, mc_X4_ofLoan⟩, md_X4_ofLoan⟩
theorem kl_RX4_166 : lc_kV RX4 166 yX4_bankrupts cX4_bankrupts 3 (some .int) 0 := ⟨⟨lc_in (List.mem_of_getElem? (i := 924) (by decide +kernel)) rfl, mi_X4_bankrupts, mv_X4_bankrupts, ki_RX4, mc_X4_bankrupts⟩, md_X4_bankrupts⟩
theorem kl_RX4_84 : lc_kV RX4 84 yX4_isSound cX4_isSound 2 (some .boolean) 1 := ⟨⟨lc_in (List.mem_of_getElem? (i := 928) (by decide +kernel)) rfl, mi_X4_isSound, mv_X4_isSound, ki_RX4, mc_X4_isSound⟩, md_X4_isSound⟩
theorem kl_RL_119 : lc_kV RL 119 yX4_cell cX4_cell 3 (some .int) 2 := ⟨⟨lc_in (List.mem_of_getElem? (i := 932) (by decide +kernel)) rfl, mi_X4_cell, mv_X4_cell, ki_RX4, mc_X4_cell⟩, md_X4_cell⟩
theorem kl_RX4_74 : lc_kV RX4 74 yX4_owedBy cX4_owedBy 5 (some .int) 2 := ⟨⟨lc_in (List.mem_of_getElem? (i := 936) (by decide +kernel)) rfl, mi_X4_owedBy, mv_X4_owedBy, ki_RX4, mc_X4_owedBy⟩, md_X4_owedBy⟩
theorem kl_RX4_169 : lc_kV RX4 169 yX4_interestOf cX4_interestOf 4 (some .int) 1 := ⟨⟨lc_in (List.mem_of_getElem? (i := 940) (by decide +kernel)) rfl, mi_X4_interestOf, mv_X4_interestOf, ki_RX4, mc_X4_interestOf⟩, md_X4_interestOf⟩
theorem kl_RX4_67 : lc_kV RX4 67 yX4_interest cX4_interest 2 (some .int) 1 := ⟨⟨lc_in (List.mem_of_getElem? (i := 944) (by decide +kernel)) rfl, mi_X4_interest, mv_X4_interest, ki_RX4, mc_X4_interest⟩, md_X4_interest⟩
theorem kl_RX4_172 : lc_kV RX4 172 yX4_kindOf cX4_kindOf 2 (some .int) 1 := ⟨⟨lc_in (List.mem_of_getElem? (i := 948) (by decide +kernel)) rfl, mi_X4_kindOf, mv_X4_kindOf, ki_RX4, mc_X4_kindOf⟩, md_X4_kindOf⟩
theorem kl_RL_122 : lc_kV RL 122 yX4_loan cX4_loan 3 (some .int) 2 := ⟨⟨lc_in (List.mem_of_getElem? (i := 952) (by decide +kernel)) rfl, mi_X4_loan, mv_X4_loan, ki_RX4, mc_X4_loan⟩, md_X4_loan⟩
theorem kl_RX4_175 : lc_kV RX4 175 yX4_isLoan cX4_isLoan 2 (some .boolean) 1 := ⟨⟨lc_in (List.mem_of_getElem? (i := 956) (by decide +kernel)) rfl, mi_X4_isLoan, mv_X4_isLoan, ki_RX4, mc_X4_isLoan⟩, md_X4_isLoan⟩
theorem kl_RL_125 : lc_kV RL 125 yX4_order cX4_order 5 (some .int) 1 := ⟨⟨lc_in (List.mem_of_getElem? (i := 960) (by decide +kernel)) rfl, mi_X4_order, mv_X4_order, ki_RX4, mc_X4_order⟩, md_X4_order⟩
theorem kl_RL_129 : lc_kV RL 129 yX4_addCell cX4_addCell 4 (some .int) 3 := ⟨⟨lc_in (List.mem_of_getElem? (i := 964) (by decide +kernel)) rfl, mi_X4_addCell, mv_X4_addCell, ki_RX4, mc_X4_addCell⟩, md_X4_addCell⟩
theorem kl_RX4_178 : lc_kV RX4 178 yX4_remember cX4_remember 2 none 0 := ⟨⟨lc_in (List.mem_of_getElem? (i := 968) (by decide +kernel)) rfl, mi_X4_remember, mv_X4_remember, ki_RX4, mc_X4_remember⟩, md_X4_remember⟩
theorem kl_RL_133 : lc_kV RL 133 yX4_lend cX4_lend 5 (some .int) 4 := ⟨⟨lc_in (List.mem_of_getElem? (i := 972) (by decide +kernel)) rfl, mi_X4_lend, mv_X4_lend, ki_RX4, mc_X4_lend⟩, md_X4_lend⟩
theorem kl_RX4_181 : lc_kV RX4 181 yX4_whyNoLend cX4_whyNoLend 5 (some .int) 4 := ⟨⟨lc_in (List.mem_of_getElem? (i := 976) (by decide +kernel)) rfl, mi_X4_whyNoLend, mv_X4_whyNoLend, ki_RX4, mc_X4_whyNoLend⟩, md_X4_whyNoLend⟩
theorem kl_RL_136 : lc_kV RL 136 yX4_repay cX4_repay 3 (some .int) 2 := ⟨⟨lc_in (List.mem_of_getElem? (i := 980) (by decide +kernel)) rfl, mi_X4_repay, mv_X4_repay, ki_RX4, mc_X4_repay⟩, md_X4_repay⟩
theorem kl_RX4_184 : lc_kV RX4 184 yX4_whyNoRepay cX4_whyNoRepay 4 (some .int) 2 := ⟨⟨lc_in (List.mem_of_getElem? (i := 984) (by decide +kernel)) rfl, mi_X4_whyNoRepay, mv_X4_whyNoRepay, ki_RX4, mc_X4_whyNoRepay⟩, md_X4_whyNoRepay⟩
theorem kl_RX4_187 : lc_kV RX4 187 yX4_repays cX4_repays 4 (some .int) 2 := ⟨⟨lc_in (List.mem_of_getElem? (i := 988) (by decide +kernel)) rfl, mi_X4_repays, mv_X4_repays, ki_RX4, mc_X4_repays⟩, md_X4_repays⟩
theorem kl_RX4_77 : lc_kV RX4 77 yX4_removeLoan cX4_removeLoan 3 none 1 := ⟨⟨lc_in (List.mem_of_getElem? (i := 992) (by decide +kernel)) rfl, mi_X4_removeLoan, mv_X4_removeLoan, ki_RX4, mc_X4_removeLoan⟩, md_X4_removeLoan⟩
theorem kl_RL_139 : lc_kV RL 139 yX4_setLeak cX4_setLeak 4 (some .int) 2 := ⟨⟨lc_in (List.mem_of_getElem? (i := 996) (by decide +kernel)) rfl, mi_X4_setLeak, mv_X4_setLeak, ki_RX4, mc_X4_setLeak⟩, md_X4_setLeak⟩
theorem kl_RL_142 : lc_kV RL 142 yX4_charge cX4_charge 2 (some .int) 1 := ⟨⟨lc_in (List.mem_of_getElem? (i := 1000) (by decide +kernel)) rfl, mi_X4_charge, mv_X4_charge, ki_RX4, mc_X4_charge⟩, md_X4_charge⟩
theorem kl_RX4_190 : lc_kV RX4 190 yX4_charges cX4_charges 5 (some .int) 1 := ⟨⟨lc_in (List.mem_of_getElem? (i := 1004) (by decide +kernel)) rfl, mi_X4_charges, mv_X4_charges, ki_RX4, mc_X4_charges⟩, md_X4_charges⟩
theorem kl_RL_145 : lc_kV RL 145 yX4_draw cX4_draw 4 (some .int) 1 := ⟨⟨lc_in (List.mem_of_getElem? (i := 1008) (by decide +kernel)) rfl, mi_X4_draw, mv_X4_draw, ki_RX4, mc_X4_draw⟩, md_X4_draw⟩
theorem kl_RX4_193 : lc_kV RX4 193 yX4_drawn cX4_drawn 4 (some .int) 1 := ⟨⟨lc_in (List.mem_of_getElem? (i := 1012) (by decide +kernel)) rfl, mi_X4_drawn, mv_X4_drawn, ki_RX4, mc_X4_drawn⟩, md_X4_drawn⟩
theorem kl_RX4_109 : lc_kV RX4 109 yX4_draws0 cX4_draws0 4 (some .int) 1 := ⟨⟨lc_in (List.mem_of_getElem? (i := 1016) (by decide +kernel)) rfl, mi_X4_draws0, mv_X4_draws0, ki_RX4, mc_X4_draws0⟩, md_X4_draws0⟩
theorem kl_RX4_105 : lc_kV RX4 105 yX4_borrows cX4_borrows 5 (some .boolean) 2 := ⟨⟨lc_in (List.mem_of_getElem? (i := 1020) (by decide +kernel)) rfl, mi_X4_borrows, mv_X4_borrows, ki_RX4, mc_X4_borrows⟩, md_X4_borrows⟩
theorem kl_RX4_95 : lc_kV RX4 95 yX4_richest cX4_richest 4 (some .int) 1 := ⟨⟨lc_in (List.mem_of_getElem? (i := 1024) (by decide +kernel)) rfl, mi_X4_richest, mv_X4_richest, ki_RX4, mc_X4_richest⟩, md_X4_richest⟩
theorem kl_RX4_98 : lc_kS RX4 98 yX4_size cX4_size 4 (some .int) 3 := ⟨⟨lc_in (List.mem_of_getElem? (i := 1028) (by decide +kernel)) rfl, ms_X4_size, ki_RX4, mc_X4_size⟩, md_X4_size⟩
theorem kl_RL_148 : lc_kV RL 148 yX4_pass cX4_pass 2 (some .int) 1 := ⟨⟨lc_in (List.mem_of_getElem? (i := 1031) (by decide +kernel)) rfl, mi_X4_pass, mv_X4_pass, ki_RX4, mc_X4_pass⟩, md_X4_pass⟩
theorem kl_RX4_196 : lc_kV RX4 196 yX4_rounds cX4_rounds 4 (some .int) 1 := ⟨⟨lc_in (List.mem_of_getElem? (i := 1035) (by decide +kernel)) rfl, mi_X4_rounds, mv_X4_rounds, ki_RX4, mc_X4_rounds⟩, md_X4_rounds⟩
theorem kl_RX4_91 : lc_kV RX4 91 yX4_round cX4_round 3 (some .int) 0 := ⟨⟨lc_in (List.mem_of_getElem? (i := 1039) (by decide +kernel)) rfl, mi_X4_round, mv_X4_round, ki_RX4, mc_X4_round⟩, md_X4_round⟩
theorem kl_RX4_81 : lc_kV RX4 81 yX4_burnInterest cX4_burnInterest 5 none 0 := ⟨⟨lc_in (List.mem_of_getElem? (i := 1043) (by decide +kernel)) rfl, mi_X4_burnInterest, mv_X4_burnInterest, ki_RX4, mc_X4_burnInterest⟩, md_X4_burnInterest⟩
theorem kl_RX4_88 : lc_kV RX4 88 yX4_breaks cX4_breaks 9 none 1 := ⟨⟨lc_in (List.mem_of_getElem? (i := 1047) (by decide +kernel)) rfl, mi_X4_breaks, mv_X4_breaks, ki_RX4, mc_X4_breaks⟩, md_X4_breaks⟩
theorem kl_RL_151 : lc_kV RL 151 yX4_undo cX4_undo 2 (some .int) 0 := ⟨⟨lc_in (List.mem_of_getElem? (i := 1051) (by decide +kernel)) rfl, mi_X4_undo, mv_X4_undo, ki_RX4, mc_X4_undo⟩, md_X4_undo⟩
theorem kl_RL_154 : lc_kV RL 154 yX4_holds cX4_holds 4 (some .int) 1 := ⟨⟨lc_in (List.mem_of_getElem? (i := 1055) (by decide +kernel)) rfl, mi_X4_holds, mv_X4_holds, ki_RX4, mc_X4_holds⟩, md_X4_holds⟩
theorem kl_RL_157 : lc_kV RL 157 yX4_draws cX4_draws 3 (some .int) 1 := ⟨⟨lc_in (List.mem_of_getElem? (i := 1059) (by decide +kernel)) rfl, mi_X4_draws, mv_X4_draws, ki_RX4, mc_X4_draws⟩, md_X4_draws⟩
theorem kl_RL_161 : lc_kV RL 161 yX4_most cX4_most 3 (some .int) 0 := ⟨⟨lc_in (List.mem_of_getElem? (i := 1063) (by decide +kernel)) rfl, mi_X4_most, mv_X4_most, ki_RX4, mc_X4_most⟩, md_X4_most⟩
theorem kl_RL_164 : lc_kV RL 164 yX4_bestLender cX4_bestLender 8 (some .int) 2 := ⟨⟨lc_in (List.mem_of_getElem? (i := 1067) (by decide +kernel)) rfl, mi_X4_bestLender, mv_X4_bestLender, ki_RX4, mc_X4_bestLender⟩, md_X4_bestLender⟩
theorem kl_RL_167 : lc_kV RL 167 yX4_costs cX4_costs 3 (some .int) 2 := ⟨⟨lc_in (List.mem_of_getElem? (i := 1071) (by decide +kernel)) rfl, mi_X4_costs, mv_X4_costs, ki_RX4, mc_X4_costs⟩, md_X4_costs⟩
theorem kl_RL_173 : lc_kV RL 173 yX4_runScript cX4_runScript 10 (some .int) 2 := ⟨⟨lc_in (List.mem_of_getElem? (i := 1075) (by decide +kernel)) rfl, mi_X4_runScript, mv_X4_runScript, ki_RX4, mc_X4_runScript⟩, md_X4_runScript⟩
theorem kl_RX4_220 : lc_kV RX4 220 yX4_succeeds cX4_succeeds 5 (some .boolean) 1 := ⟨⟨lc_in (List.mem_of_getElem? (i := 1082) (by decide +kernel)) rfl, mi_X4_succeeds, mv_X4_succeeds, ki_RX4, mc_X4_succeeds⟩, md_X4_succeeds⟩
theorem kl_RX4_199 : lc_kV RX4 199 yX4_isLent cX4_isLent 5 (some .boolean) 3 := ⟨⟨lc_in (List.mem_of_getElem? (i := 1086) (by decide +kernel)) rfl, mi_X4_isLent, mv_X4_isLent, ki_RX4, mc_X4_isLent⟩, md_X4_isLent⟩
theorem kl_RX4_202 : lc_kV RX4 202 yX4_isRepaid cX4_isRepaid 4 (some .boolean) 2 := ⟨⟨lc_in (List.mem_of_getElem? (i := 1090) (by decide +kernel)) rfl, mi_X4_isRepaid, mv_X4_isRepaid, ki_RX4, mc_X4_isRepaid⟩, md_X4_isRepaid⟩
theorem kl_RX4_205 : lc_kV RX4 205 yX4_isCharged cX4_isCharged 2 (some .boolean) 1 := ⟨⟨lc_in (List.mem_of_getElem? (i := 1094) (by decide +kernel)) rfl, mi_X4_isCharged, mv_X4_isCharged, ki_RX4, mc_X4_isCharged⟩, md_X4_isCharged⟩
theorem kl_RX4_208 : lc_kV RX4 208 yX4_isPassed cX4_isPassed 3 (some .boolean) 1 := ⟨⟨lc_in (List.mem_of_getElem? (i := 1098) (by decide +kernel)) rfl, mi_X4_isPassed, mv_X4_isPassed, ki_RX4, mc_X4_isPassed⟩, md_X4_isPassed⟩
theorem kl_RX4_211 : lc_kS RX4 211 yX4_bits cX4_bits 3 (some .int) 1 := ⟨⟨lc_in (List.mem_of_getElem? (i := 1102) (by decide +kernel)) rfl, ms_X4_bits, ki_RX4, mc_X4_bits⟩, md_X4_bits⟩
theorem kl_RL_177 : lc_kV RL 177 yX4_simulate cX4_simulate 11 (some .int) 2 := ⟨⟨lc_in (List.mem_of_getElem? (i := 1105) (by decide +kernel)) rfl, mi_X4_simulate, mv_X4_simulate, ki_RX4, mc_X4_simulate⟩, md_X4_simulate⟩
theorem kl_RL_180 : lc_kV RL 180 yX4_save cX4_save 3 (some .int) 1 := ⟨⟨lc_in (List.mem_of_getElem? (i := 1112) (by decide +kernel)) rfl, mi_X4_save, mv_X4_save, ki_RX4, mc_X4_save⟩, md_X4_save⟩
theorem kl_RL_183 : lc_kV RL 183 yX4_restore cX4_restore 3 (some .int) 1 := ⟨⟨lc_in (List.mem_of_getElem? (i := 1116) (by decide +kernel)) rfl, mi_X4_restore, mv_X4_restore, ki_RX4, mc_X4_restore⟩, md_X4_restore⟩
