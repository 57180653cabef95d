theorem kf_RX2_9 : Cond.fieldLink RX2 9 RX2 "signs" "[C" ∈ lc_T := lc_in (List.mem_of_getElem? (i := 28) (by decide +kernel)) rfl
theorem kf_RX0_9 : Cond.fieldLink RX0 9 RX0 "capacities" "[I" ∈ lc_T := lc_in (List.mem_of_getElem? (i := 43) (by decide +kernel)) rfl
theorem kf_RX3_126 : Cond.fieldLink RX3 126 RX0 "capacities" "[I" ∈ lc_T := lc_in (List.mem_of_getElem? (i := 44) (by decide +kernel)) rfl
theorem kf_RX0_15 : Cond.fieldLink RX0 15 RX0 "charges" "[I" ∈ lc_T := lc_in (List.mem_of_getElem? (i := 45) (by decide +kernel)) rfl
theorem kf_RX3_130 : Cond.fieldLink RX3 130 RX0 "charges" "[I" ∈ lc_T := lc_in (List.mem_of_getElem? (i := 46) (by decide +kernel)) rfl
theorem kf_RX0_18 : Cond.fieldLink RX0 18 RX0 "leaks" "[I" ∈ lc_T := lc_in (List.mem_of_getElem? (i := 47) (by decide +kernel)) rfl
theorem kf_RX3_133 : Cond.fieldLink RX3 133 RX0 "leaks" "[I" ∈ lc_T := lc_in (List.mem_of_getElem? (i := 48) (by decide +kernel)) rfl
theorem kf_RX0_21 : Cond.fieldLink RX0 21 RX0 "lateRounds" "[I" ∈ lc_T := lc_in (List.mem_of_getElem? (i := 49) (by decide +kernel)) rfl
theorem kf_RX3_136 : Cond.fieldLink RX3 136 RX0 "lateRounds" "[I" ∈ lc_T := lc_in (List.mem_of_getElem? (i := 50) (by decide +kernel)) rfl
theorem kf_RX0_24 : Cond.fieldLink RX0 24 RX0 "lenders" "[I" ∈ lc_T := lc_in (List.mem_of_getElem? (i := 51) (by decide +kernel)) rfl
theorem kf_RX3_159 : Cond.fieldLink RX3 159 RX0 "lenders" "[I" ∈ lc_T := lc_in (List.mem_of_getElem? (i := 52) (by decide +kernel)) rfl
theorem kf_RX0_27 : Cond.fieldLink RX0 27 RX0 "borrowers" "[I" ∈ lc_T := lc_in (List.mem_of_getElem? (i := 53) (by decide +kernel)) rfl
theorem kf_RX3_162 : Cond.fieldLink RX3 162 RX0 "borrowers" "[I" ∈ lc_T := lc_in (List.mem_of_getElem? (i := 54) (by decide +kernel)) rfl
theorem kf_RX0_30 : Cond.fieldLink RX0 30 RX0 "owed" "[I" ∈ lc_T := lc_in (List.mem_of_getElem? (i := 55) (by decide +kernel)) rfl
theorem kf_RX3_165 : Cond.fieldLink RX3 165 RX0 "owed" "[I" ∈ lc_T := lc_in (List.mem_of_getElem? (i := 56) (by decide +kernel)) rfl
theorem kf_RX0_33 : Cond.fieldLink RX0 33 RX0 "rates" "[I" ∈ lc_T := lc_in (List.mem_of_getElem? (i := 57) (by decide +kernel)) rfl
theorem kf_RX3_168 : Cond.fieldLink RX3 168 RX0 "rates" "[I" ∈ lc_T := lc_in (List.mem_of_getElem? (i := 58) (by decide +kernel)) rfl
theorem kf_RX0_36 : Cond.fieldLink RX0 36 RX0 "arrived" "[I" ∈ lc_T := lc_in (List.mem_of_getElem? (i := 59) (by decide +kernel)) rfl
theorem kf_RX3_174 : Cond.fieldLink RX3 174 RX0 "arrived" "[I" ∈ lc_T := lc_in (List.mem_of_getElem? (i := 60) (by decide +kernel)) rfl
theorem kf_RX0_43 : Cond.fieldLink RX0 43 RX0 "cellCount" "I" ∈ lc_T := lc_in (List.mem_of_getElem? (i := 61) (by decide +kernel)) rfl
theorem kf_RX3_84 : Cond.fieldLink RX3 84 RX0 "cellCount" "I" ∈ lc_T := lc_in (List.mem_of_getElem? (i := 62) (by decide +kernel)) rfl
theorem kf_RX0_46 : Cond.fieldLink RX0 46 RX0 "loanCount" "I" ∈ lc_T := lc_in (List.mem_of_getElem? (i := 63) (by decide +kernel)) rfl
theorem kf_RX3_87 : Cond.fieldLink RX3 87 RX0 "loanCount" "I" ∈ lc_T := lc_in (List.mem_of_getElem? (i := 64) (by decide +kernel)) rfl
theorem kf_RX0_49 : Cond.fieldLink RX0 49 RX0 "rounds" "I" ∈ lc_T := lc_in (List.mem_of_getElem? (i := 65) (by decide +kernel)) rfl
theorem kf_RX3_90 : Cond.fieldLink RX3 90 RX0 "rounds" "I" ∈ lc_T := lc_in (List.mem_of_getElem? (i := 66) (by decide +kernel)) rfl
theorem kf_RX0_52 : Cond.fieldLink RX0 52 RX0 "putIn" "I" ∈ lc_T := lc_in (List.mem_of_getElem? (i := 67) (by decide +kernel)) rfl
theorem kf_RX3_97 : Cond.fieldLink RX3 97 RX0 "putIn" "I" ∈ lc_T := lc_in (List.mem_of_getElem? (i := 68) (by decide +kernel)) rfl
theorem kf_RX0_55 : Cond.fieldLink RX0 55 RX0 "used" "I" ∈ lc_T := lc_in (List.mem_of_getElem? (i := 69) (by decide +kernel)) rfl
theorem kf_RX3_100 : Cond.fieldLink RX3 100 RX0 "used" "I" ∈ lc_T := lc_in (List.mem_of_getElem? (i := 70) (by decide +kernel)) rfl
theorem kf_RX0_58 : Cond.fieldLink RX0 58 RX0 "heat" "I" ∈ lc_T := lc_in (List.mem_of_getElem? (i := 71) (by decide +kernel)) rfl
theorem kf_RX3_103 : Cond.fieldLink RX3 103 RX0 "heat" "I" ∈ lc_T := lc_in (List.mem_of_getElem? (i := 72) (by decide +kernel)) rfl
theorem kf_RX0_61 : Cond.fieldLink RX0 61 RX0 "writtenOff" "I" ∈ lc_T := lc_in (List.mem_of_getElem? (i := 73) (by decide +kernel)) rfl
theorem kf_RX3_109 : Cond.fieldLink RX3 109 RX0 "writtenOff" "I" ∈ lc_T := lc_in (List.mem_of_getElem? (i := 74) (by decide +kernel)) rfl
theorem kf_RX0_39 : Cond.fieldLink RX0 39 RX0 "watchedLoan" "I" ∈ lc_T := lc_in (List.mem_of_getElem? (i := 75) (by decide +kernel)) rfl
theorem kf_RX0_64 : Cond.fieldLink RX0 64 RX0 "watchedBurn" "I" ∈ lc_T := lc_in (List.mem_of_getElem? (i := 76) (by decide +kernel)) rfl
theorem kf_RX1_11 : Cond.fieldLink RX1 11 RX1 "states" "[LLendingCells$Battery;" ∈ lc_T := lc_in (List.mem_of_getElem? (i := 124) (by decide +kernel)) rfl
theorem kf_RX1_18 : Cond.fieldLink RX1 18 RX1 "first" "I" ∈ lc_T := lc_in (List.mem_of_getElem? (i := 125) (by decide +kernel)) rfl
theorem kf_RX1_22 : Cond.fieldLink RX1 22 RX1 "count" "I" ∈ lc_T := lc_in (List.mem_of_getElem? (i := 126) (by decide +kernel)) rfl
theorem kf_RX3_10 : Cond.fieldLink RX3 10 RX3 "text" "LLendingCells$Text;" ∈ lc_T := lc_in (List.mem_of_getElem? (i := 134) (by decide +kernel)) rfl
theorem kf_RX3_19 : Cond.fieldLink RX3 19 RX3 "now" "LLendingCells$Battery;" ∈ lc_T := lc_in (List.mem_of_getElem? (i := 135) (by decide +kernel)) rfl
theorem kf_RX3_26 : Cond.fieldLink RX3 26 RX3 "history" "LLendingCells$History;" ∈ lc_T := lc_in (List.mem_of_getElem? (i := 136) (by decide +kernel)) rfl
theorem kf_RX3_30 : Cond.fieldLink RX3 30 RX3 "slots" "[LLendingCells$Battery;" ∈ lc_T := lc_in (List.mem_of_getElem? (i := 137) (by decide +kernel)) rfl
theorem kf_RX3_34 : Cond.fieldLink RX3 34 RX3 "filled" "[Z" ∈ lc_T := lc_in (List.mem_of_getElem? (i := 138) (by decide +kernel)) rfl
theorem kf_RX3_38 : Cond.fieldLink RX3 38 RX3 "trial" "LLendingCells$Battery;" ∈ lc_T := lc_in (List.mem_of_getElem? (i := 139) (by decide +kernel)) rfl
theorem kf_RX3_41 : Cond.fieldLink RX3 41 RX3 "before" "LLendingCells$Battery;" ∈ lc_T := lc_in (List.mem_of_getElem? (i := 140) (by decide +kernel)) rfl
theorem kc_RL_7 : Cond.constant RL 7 (1013904223) ∈ lc_T := lc_in (List.mem_of_getElem? (i := 160) (by decide +kernel)) rfl
theorem kc_RL_8 : Cond.constant RL 8 (2147483647) ∈ lc_T := lc_in (List.mem_of_getElem? (i := 164) (by decide +kernel)) rfl
theorem ki_RL : Cond.initialized RL ∈ lc_T := lc_in (List.mem_of_getElem? (i := 1) (by decide +kernel)) rfl
theorem ki_RX3 : Cond.initialized RX3 ∈ lc_T := lc_in (List.mem_of_getElem? (i := 2) (by decide +kernel)) rfl
theorem ki_RX2 : Cond.initialized RX2 ∈ lc_T := lc_in (List.mem_of_getElem? (i := 3) (by decide +kernel)) rfl
theorem ki_RX0 : Cond.initialized RX0 ∈ lc_T := lc_in (List.mem_of_getElem? (i := 4) (by decide +kernel)) rfl
theorem ki_RX1 : Cond.initialized RX1 ∈ lc_T := lc_in (List.mem_of_getElem? (i := 5) (by decide +kernel)) rfl
theorem ki_Throwable : Cond.initialized "java/lang/Throwable" ∈ lc_T := lc_in (List.mem_of_getElem? (i := 6) (by decide +kernel)) rfl
theorem ki_Exception : Cond.initialized "java/lang/Exception" ∈ lc_T := lc_in (List.mem_of_getElem? (i := 7) (by decide +kernel)) rfl
theorem ki_RuntimeException : Cond.initialized "java/lang/RuntimeException" ∈ lc_T := lc_in (List.mem_of_getElem? (i := 8) (by decide +kernel)) rfl
theorem ki_IllegalArgumentException : Cond.initialized "java/lang/IllegalArgumentException" ∈ lc_T := lc_in (List.mem_of_getElem? (i := 9) (by decide +kernel)) rfl
theorem ki_RJ10 : Cond.initialized RJ10 ∈ lc_T := lc_in (List.mem_of_getElem? (i := 10) (by decide +kernel)) rfl
theorem ki_IllegalStateException : Cond.initialized "java/lang/IllegalStateException" ∈ lc_T := lc_in (List.mem_of_getElem? (i := 11) (by decide +kernel)) rfl
theorem ki_RJ9 : Cond.initialized RJ9 ∈ lc_T := lc_in (List.mem_of_getElem? (i := 12) (by decide +kernel)) rfl
theorem ki_IndexOutOfBoundsException : Cond.initialized "java/lang/IndexOutOfBoundsException" ∈ lc_T := lc_in (List.mem_of_getElem? (i := 13) (by decide +kernel)) rfl
theorem mc_X3_init : Cond.code yX3_init cX3_init 2 none ∈ lc_T := lc_in (List.mem_of_getElem? (i := 18) (by decide +kernel)) rfl
theorem md_X3_init : yX3_init.cls ≠ "java/lang/invoke/MethodHandle" ∧ yX3_init.cls ≠ "java/lang/invoke/VarHandle" ∧ (parseMethodDescriptor yX3_init.desc).map (fun d => d.parameters.length) = some 0 := ⟨by decide +kernel, by decide +kernel, by decide +kernel⟩
theorem mi_X3_init : Cond.instanceMethod yX3_init ∈ lc_T := lc_in (List.mem_of_getElem? (i := 17) (by decide +kernel)) rfl
theorem mc_X2_init : Cond.code yX2_init cX2_init 1 none ∈ lc_T := lc_in (List.mem_of_getElem? (i := 26) (by decide +kernel)) rfl
theorem md_X2_init : yX2_init.cls ≠ "java/lang/invoke/MethodHandle" ∧ yX2_init.cls ≠ "java/lang/invoke/VarHandle" ∧ (parseMethodDescriptor yX2_init.desc).map (fun d => d.parameters.length) = some 0 := ⟨by decide +kernel, by decide +kernel, by decide +kernel⟩
theorem mi_X2_init : Cond.instanceMethod yX2_init ∈ lc_T := lc_in (List.mem_of_getElem? (i := 25) (by decide +kernel)) rfl
theorem mc_X0_init : Cond.code yX0_init cX0_init 1 none ∈ lc_T := lc_in (List.mem_of_getElem? (i := 41) (by decide +kernel)) rfl
theorem md_X0_init : yX0_init.cls ≠ "java/lang/invoke/MethodHandle" ∧ yX0_init.cls ≠ "java/lang/invoke/VarHandle" ∧ (parseMethodDescriptor yX0_init.desc).map (fun d => d.parameters.length) = some 0 := ⟨by decide +kernel, by decide +kernel, by decide +kernel⟩
theorem mi_X0_init : Cond.instanceMethod yX0_init ∈ lc_T := lc_in (List.mem_of_getElem? (i := 40) (by decide +kernel)) rfl
theorem mc_X1_init : Cond.code yX1_init cX1_init 2 none ∈ lc_T := lc_in (List.mem_of_getElem? (i := 119) (by decide +kernel)) rfl
theorem md_X1_init : yX1_init.cls ≠ "java/lang/invoke/MethodHandle" ∧ yX1_init.cls ≠ "java/lang/invoke/VarHandle" ∧ (parseMethodDescriptor yX1_init.desc).map (fun d => d.parameters.length) = some 0 := ⟨by decide +kernel, by decide +kernel, by decide +kernel⟩
theorem mi_X1_init : Cond.instanceMethod yX1_init ∈ lc_T := lc_in (List.mem_of_getElem? (i := 118) (by decide +kernel)) rfl
theorem mc_L_cell : Cond.code yL_cell cL_cell 2 (some .int) ∈ lc_T := lc_in (List.mem_of_getElem? (i := 159) (by decide +kernel)) rfl
theorem md_L_cell : yL_cell.cls ≠ "java/lang/invoke/MethodHandle" ∧ yL_cell.cls ≠ "java/lang/invoke/VarHandle" ∧ (parseMethodDescriptor yL_cell.desc).map (fun d => d.parameters.length) = some 2 := ⟨by decide +kernel, by decide +kernel, by decide +kernel⟩
theorem ms_L_cell : Cond.static yL_cell ∈ lc_T := lc_in (List.mem_of_getElem? (i := 158) (by decide +kernel)) rfl
theorem mc_L_low : Cond.code yL_low cL_low 2 (some .int) ∈ lc_T := lc_in (List.mem_of_getElem? (i := 163) (by decide +kernel)) rfl
theorem md_L_low : yL_low.cls ≠ "java/lang/invoke/MethodHandle" ∧ yL_low.cls ≠ "java/lang/invoke/VarHandle" ∧ (parseMethodDescriptor yL_low.desc).map (fun d => d.parameters.length) = some 2 := ⟨by decide +kernel, by decide +kernel, by decide +kernel⟩
theorem ms_L_low : Cond.static yL_low ∈ lc_T := lc_in (List.mem_of_getElem? (i := 162) (by decide +kernel)) rfl
theorem mc_X3_lend : Cond.code yX3_lend cX3_lend 5 (some .int) ∈ lc_T := lc_in (List.mem_of_getElem? (i := 174) (by decide +kernel)) rfl
theorem md_X3_lend : yX3_lend.cls ≠ "java/lang/invoke/MethodHandle" ∧ yX3_lend.cls ≠ "java/lang/invoke/VarHandle" ∧ (parseMethodDescriptor yX3_lend.desc).map (fun d => d.parameters.length) = some 4 := ⟨by decide +kernel, by decide +kernel, by decide +kernel⟩
theorem mi_X3_lend : Cond.instanceMethod yX3_lend ∈ lc_T := lc_in (List.mem_of_getElem? (i := 172) (by decide +kernel)) rfl
theorem mv_X3_lend : Cond.selects yX3_lend.cls yX3_lend yX3_lend ∈ lc_T := lc_in (List.mem_of_getElem? (i := 173) (by decide +kernel)) rfl
theorem mc_X0_hasCell : Cond.code yX0_hasCell cX0_hasCell 2 (some .boolean) ∈ lc_T := lc_in (List.mem_of_getElem? (i := 178) (by decide +kernel)) rfl
theorem md_X0_hasCell : yX0_hasCell.cls ≠ "java/lang/invoke/MethodHandle" ∧ yX0_hasCell.cls ≠ "java/lang/invoke/VarHandle" ∧ (parseMethodDescriptor yX0_hasCell.desc).map (fun d => d.parameters.length) = some 1 := ⟨by decide +kernel, by decide +kernel, by decide +kernel⟩
theorem mi_X0_hasCell : Cond.instanceMethod yX0_hasCell ∈ lc_T := lc_in (List.mem_of_getElem? (i := 176) (by decide +kernel)) rfl
theorem mv_X0_hasCell : Cond.selects yX0_hasCell.cls yX0_hasCell yX0_hasCell ∈ lc_T := lc_in (List.mem_of_getElem? (i := 177) (by decide +kernel)) rfl
theorem mc_X3_isUnits : Cond.code yX3_isUnits cX3_isUnits 1 (some .boolean) ∈ lc_T := lc_in (List.mem_of_getElem? (i := 249) (by decide +kernel)) rfl
theorem md_X3_isUnits : yX3_isUnits.cls ≠ "java/lang/invoke/MethodHandle" ∧ yX3_isUnits.cls ≠ "java/lang/invoke/VarHandle" ∧ (parseMethodDescriptor yX3_isUnits.desc).map (fun d => d.parameters.length) = some 1 := ⟨by decide +kernel, by decide +kernel, by decide +kernel⟩
theorem ms_X3_isUnits : Cond.static yX3_isUnits ∈ lc_T := lc_in (List.mem_of_getElem? (i := 248) (by decide +kernel)) rfl
theorem mc_X3_isWithin : Cond.code yX3_isWithin cX3_isWithin 3 (some .boolean) ∈ lc_T := lc_in (List.mem_of_getElem? (i := 252) (by decide +kernel)) rfl
theorem md_X3_isWithin : yX3_isWithin.cls ≠ "java/lang/invoke/MethodHandle" ∧ yX3_isWithin.cls ≠ "java/lang/invoke/VarHandle" ∧ (parseMethodDescriptor yX3_isWithin.desc).map (fun d => d.parameters.length) = some 3 := ⟨by decide +kernel, by decide +kernel, by decide +kernel⟩
theorem ms_X3_isWithin : Cond.static yX3_isWithin ∈ lc_T := lc_in (List.mem_of_getElem? (i := 251) (by decide +kernel)) rfl
theorem mc_X0_canLend : Cond.code yX0_canLend cX0_canLend 4 (some .boolean) ∈ lc_T := lc_in (List.mem_of_getElem? (i := 272) (by decide +kernel)) rfl
theorem md_X0_canLend : yX0_canLend.cls ≠ "java/lang/invoke/MethodHandle" ∧ yX0_canLend.cls ≠ "java/lang/invoke/VarHandle" ∧ (parseMethodDescriptor yX0_canLend.desc).map (fun d => d.parameters.length) = some 3 := ⟨by decide +kernel, by decide +kernel, by decide +kernel⟩
theorem mi_X0_canLend : Cond.instanceMethod yX0_canLend ∈ lc_T := lc_in (List.mem_of_getElem? (i := 270) (by decide +kernel)) rfl
theorem mv_X0_canLend : Cond.selects yX0_canLend.cls yX0_canLend yX0_canLend ∈ lc_T := lc_in (List.mem_of_getElem? (i := 271) (by decide +kernel)) rfl
theorem mc_X0_isBankrupt : Cond.code yX0_isBankrupt cX0_isBankrupt 2 (some .boolean) ∈ lc_T := lc_in (List.mem_of_getElem? (i := 277) (by decide +kernel)) rfl
theorem md_X0_isBankrupt : yX0_isBankrupt.cls ≠ "java/lang/invoke/MethodHandle" ∧ yX0_isBankrupt.cls ≠ "java/lang/invoke/VarHandle" ∧ (parseMethodDescriptor yX0_isBankrupt.desc).map (fun d => d.parameters.length) = some 1 := ⟨by decide +kernel, by decide +kernel, by decide +kernel⟩
theorem mi_X0_isBankrupt : Cond.instanceMethod yX0_isBankrupt ∈ lc_T := lc_in (List.mem_of_getElem? (i := 275) (by decide +kernel)) rfl
theorem mv_X0_isBankrupt : Cond.selects yX0_isBankrupt.cls yX0_isBankrupt yX0_isBankrupt ∈ lc_T := lc_in (List.mem_of_getElem? (i := 276) (by decide +kernel)) rfl
theorem mc_X0_chargeOf : Cond.code yX0_chargeOf cX0_chargeOf 2 (some .int) ∈ lc_T := lc_in (List.mem_of_getElem? (i := 281) (by decide +kernel)) rfl
theorem md_X0_chargeOf : yX0_chargeOf.cls ≠ "java/lang/invoke/MethodHandle" ∧ yX0_chargeOf.cls ≠ "java/lang/invoke/VarHandle" ∧ (parseMethodDescriptor yX0_chargeOf.desc).map (fun d => d.parameters.length) = some 1 := ⟨by decide +kernel, by decide +kernel, by decide +kernel⟩
theorem mi_X0_chargeOf : Cond.instanceMethod yX0_chargeOf ∈ lc_T := lc_in (List.mem_of_getElem? (i := 279) (by decide +kernel)) rfl
theorem mv_X0_chargeOf : Cond.selects yX0_chargeOf.cls yX0_chargeOf yX0_chargeOf ∈ lc_T := lc_in (List.mem_of_getElem? (i := 280) (by decide +kernel)) rfl
theorem mc_X0_arriving : Cond.code yX0_arriving cX0_arriving 5 (some .int) ∈ lc_T := lc_in (List.mem_of_getElem? (i := 285) (by decide +kernel)) rfl
theorem md_X0_arriving : yX0_arriving.cls ≠ "java/lang/invoke/MethodHandle" ∧ yX0_arriving.cls ≠ "java/lang/invoke/VarHandle" ∧ (parseMethodDescriptor yX0_arriving.desc).map (fun d => d.parameters.length) = some 3 := ⟨by decide +kernel, by decide +kernel, by decide +kernel⟩
theorem mi_X0_arriving : Cond.instanceMethod yX0_arriving ∈ lc_T := lc_in (List.mem_of_getElem? (i := 283) (by decide +kernel)) rfl
theorem mv_X0_arriving : Cond.selects yX0_arriving.cls yX0_arriving yX0_arriving ∈ lc_T := lc_in (List.mem_of_getElem? (i := 284) (by decide +kernel)) rfl
theorem mc_X0_roomOf : Cond.code yX0_roomOf cX0_roomOf 2 (some .int) ∈ lc_T := lc_in (List.mem_of_getElem? (i := 289) (by decide +kernel)) rfl
theorem md_X0_roomOf : yX0_roomOf.cls ≠ "java/lang/invoke/MethodHandle" ∧ yX0_roomOf.cls ≠ "java/lang/invoke/VarHandle" ∧ (parseMethodDescriptor yX0_roomOf.desc).map (fun d => d.parameters.length) = some 1 := ⟨by decide +kernel, by decide +kernel, by decide +kernel⟩
theorem mi_X0_roomOf : Cond.instanceMethod yX0_roomOf ∈ lc_T := lc_in (List.mem_of_getElem? (i := 287) (by decide +kernel)) rfl
theorem mv_X0_roomOf : Cond.selects yX0_roomOf.cls yX0_roomOf yX0_roomOf ∈ lc_T := lc_in (List.mem_of_getElem? (i := 288) (by decide +kernel)) rfl
theorem mc_X1_remember : Cond.code yX1_remember cX1_remember 2 none ∈ lc_T := lc_in (List.mem_of_getElem? (i := 309) (by decide +kernel)) rfl
theorem md_X1_remember : yX1_remember.cls ≠ "java/lang/invoke/MethodHandle" ∧ yX1_remember.cls ≠ "java/lang/invoke/VarHandle" ∧ (parseMethodDescriptor yX1_remember.desc).map (fun d => d.parameters.length) = some 1 := ⟨by decide +kernel, by decide +kernel, by decide +kernel⟩
theorem mi_X1_remember : Cond.instanceMethod yX1_remember ∈ lc_T := lc_in (List.mem_of_getElem? (i := 307) (by decide +kernel)) rfl
theorem mv_X1_remember : Cond.selects yX1_remember.cls yX1_remember yX1_remember ∈ lc_T := lc_in (List.mem_of_getElem? (i := 308) (by decide +kernel)) rfl
theorem mc_X0_copyFrom : Cond.code yX0_copyFrom cX0_copyFrom 2 none ∈ lc_T := lc_in (List.mem_of_getElem? (i := 313) (by decide +kernel)) rfl
theorem md_X0_copyFrom : yX0_copyFrom.cls ≠ "java/lang/invoke/MethodHandle" ∧ yX0_copyFrom.cls ≠ "java/lang/invoke/VarHandle" ∧ (parseMethodDescriptor yX0_copyFrom.desc).map (fun d => d.parameters.length) = some 1 := ⟨by decide +kernel, by decide +kernel, by decide +kernel⟩
theorem mi_X0_copyFrom : Cond.instanceMethod yX0_copyFrom ∈ lc_T := lc_in (List.mem_of_getElem? (i := 311) (by decide +kernel)) rfl
theorem mv_X0_copyFrom : Cond.selects yX0_copyFrom.cls yX0_copyFrom yX0_copyFrom ∈ lc_T := lc_in (List.mem_of_getElem? (i := 312) (by decide +kernel)) rfl
theorem mc_X0_makeLoan : Cond.code yX0_makeLoan cX0_makeLoan 6 (some .int) ∈ lc_T := lc_in (List.mem_of_getElem? (i := 320) (by decide +kernel)) rfl
theorem md_X0_makeLoan : yX0_makeLoan.cls ≠ "java/lang/invoke/MethodHandle" ∧ yX0_makeLoan.cls ≠ "java/lang/invoke/VarHandle" ∧ (parseMethodDescriptor yX0_makeLoan.desc).map (fun d => d.parameters.length) = some 4 := ⟨by decide +kernel, by decide +kernel, by decide +kernel⟩
theorem mi_X0_makeLoan : Cond.instanceMethod yX0_makeLoan ∈ lc_T := lc_in (List.mem_of_getElem? (i := 318) (by decide +kernel)) rfl
theorem mv_X0_makeLoan : Cond.selects yX0_makeLoan.cls yX0_makeLoan yX0_makeLoan ∈ lc_T := lc_in (List.mem_of_getElem? (i := 319) (by decide +kernel)) rfl
theorem mc_X0_shuttle : Cond.code yX0_shuttle cX0_shuttle 5 (some .int) ∈ lc_T := lc_in (List.mem_of_getElem? (i := 325) (by decide +kernel)) rfl
theorem md_X0_shuttle : yX0_shuttle.cls ≠ "java/lang/invoke/MethodHandle" ∧ yX0_shuttle.cls ≠ "java/lang/invoke/VarHandle" ∧ (parseMethodDescriptor yX0_shuttle.desc).map (fun d => d.parameters.length) = some 3 := ⟨by decide +kernel, by decide +kernel, by decide +kernel⟩
theorem mi_X0_shuttle : Cond.instanceMethod yX0_shuttle ∈ lc_T := lc_in (List.mem_of_getElem? (i := 323) (by decide +kernel)) rfl
theorem mv_X0_shuttle : Cond.selects yX0_shuttle.cls yX0_shuttle yX0_shuttle ∈ lc_T := lc_in (List.mem_of_getElem? (i := 324) (by decide +kernel)) rfl
theorem mc_X3_setLeak : Cond.code yX3_setLeak cX3_setLeak 4 (some .int) ∈ lc_T := lc_in (List.mem_of_getElem? (i := 332) (by decide +kernel)) rfl
theorem md_X3_setLeak : yX3_setLeak.cls ≠ "java/lang/invoke/MethodHandle" ∧ yX3_setLeak.cls ≠ "java/lang/invoke/VarHandle" ∧ (parseMethodDescriptor yX3_setLeak.desc).map (fun d => d.parameters.length) = some 2 := ⟨by decide +kernel, by decide +kernel, by decide +kernel⟩
theorem mi_X3_setLeak : Cond.instanceMethod yX3_setLeak ∈ lc_T := lc_in (List.mem_of_getElem? (i := 330) (by decide +kernel)) rfl
theorem mv_X3_setLeak : Cond.selects yX3_setLeak.cls yX3_setLeak yX3_setLeak ∈ lc_T := lc_in (List.mem_of_getElem? (i := 331) (by decide +kernel)) rfl
theorem mc_X3_draw : Cond.code yX3_draw cX3_draw 3 (some .int) ∈ lc_T := lc_in (List.mem_of_getElem? (i := 340) (by decide +kernel)) rfl
theorem md_X3_draw : yX3_draw.cls ≠ "java/lang/invoke/MethodHandle" ∧ yX3_draw.cls ≠ "java/lang/invoke/VarHandle" ∧ (parseMethodDescriptor yX3_draw.desc).map (fun d => d.parameters.length) = some 1 := ⟨by decide +kernel, by decide +kernel, by decide +kernel⟩
theorem mi_X3_draw : Cond.instanceMethod yX3_draw ∈ lc_T := lc_in (List.mem_of_getElem? (i := 338) (by decide +kernel)) rfl
theorem mv_X3_draw : Cond.selects yX3_draw.cls yX3_draw yX3_draw ∈ lc_T := lc_in (List.mem_of_getElem? (i := 339) (by decide +kernel)) rfl
theorem mc_X0_giveEach : Cond.code yX0_giveEach cX0_giveEach 4 (some .int) ∈ lc_T := lc_in (List.mem_of_getElem? (i := 346) (by decide +kernel)) rfl
theorem md_X0_giveEach : yX0_giveEach.cls ≠ "java/lang/invoke/MethodHandle" ∧ yX0_giveEach.cls ≠ "java/lang/invoke/VarHandle" ∧ (parseMethodDescriptor yX0_giveEach.desc).map (fun d => d.parameters.length) = some 1 := ⟨by decide +kernel, by decide +kernel, by decide +kernel⟩
theorem mi_X0_giveEach : Cond.instanceMethod yX0_giveEach ∈ lc_T := lc_in (List.mem_of_getElem? (i := 344) (by decide +kernel)) rfl
theorem mv_X0_giveEach : Cond.selects yX0_giveEach.cls yX0_giveEach yX0_giveEach ∈ lc_T := lc_in (List.mem_of_getElem? (i := 345) (by decide +kernel)) rfl
theorem mc_X0_borrowUpTo : Cond.code yX0_borrowUpTo cX0_borrowUpTo 5 (some .boolean) ∈ lc_T := lc_in (List.mem_of_getElem? (i := 350) (by decide +kernel)) rfl
theorem md_X0_borrowUpTo : yX0_borrowUpTo.cls ≠ "java/lang/invoke/MethodHandle" ∧ yX0_borrowUpTo.cls ≠ "java/lang/invoke/VarHandle" ∧ (parseMethodDescriptor yX0_borrowUpTo.desc).map (fun d => d.parameters.length) = some 2 := ⟨by decide +kernel, by decide +kernel, by decide +kernel⟩
theorem mi_X0_borrowUpTo : Cond.instanceMethod yX0_borrowUpTo ∈ lc_T := lc_in (List.mem_of_getElem? (i := 348) (by decide +kernel)) rfl
theorem mv_X0_borrowUpTo : Cond.selects yX0_borrowUpTo.cls yX0_borrowUpTo yX0_borrowUpTo ∈ lc_T := lc_in (List.mem_of_getElem? (i := 349) (by decide +kernel)) rfl
theorem mc_X0_fullestOther : Cond.code yX0_fullestOther cX0_fullestOther 4 (some .int) ∈ lc_T := lc_in (List.mem_of_getElem? (i := 354) (by decide +kernel)) rfl
theorem md_X0_fullestOther : yX0_fullestOther.cls ≠ "java/lang/invoke/MethodHandle" ∧ yX0_fullestOther.cls ≠ "java/lang/invoke/VarHandle" ∧ (parseMethodDescriptor yX0_fullestOther.desc).map (fun d => d.parameters.length) = some 1 := ⟨by decide +kernel, by decide +kernel, by decide +kernel⟩
theorem mi_X0_fullestOther : Cond.instanceMethod yX0_fullestOther ∈ lc_T := lc_in (List.mem_of_getElem? (i := 352) (by decide +kernel)) rfl
theorem mv_X0_fullestOther : Cond.selects yX0_fullestOther.cls yX0_fullestOther yX0_fullestOther ∈ lc_T := lc_in (List.mem_of_getElem? (i := 353) (by decide +kernel)) rfl
theorem mc_X0_sizeToBring : Cond.code yX0_sizeToBring cX0_sizeToBring 5 (some .int) ∈ lc_T := lc_in (List.mem_of_getElem? (i := 358) (by decide +kernel)) rfl
theorem md_X0_sizeToBring : yX0_sizeToBring.cls ≠ "java/lang/invoke/MethodHandle" ∧ yX0_sizeToBring.cls ≠ "java/lang/invoke/VarHandle" ∧ (parseMethodDescriptor yX0_sizeToBring.desc).map (fun d => d.parameters.length) = some 3 := ⟨by decide +kernel, by decide +kernel, by decide +kernel⟩
theorem mi_X0_sizeToBring : Cond.instanceMethod yX0_sizeToBring ∈ lc_T := lc_in (List.mem_of_getElem? (i := 356) (by decide +kernel)) rfl
theorem mv_X0_sizeToBring : Cond.selects yX0_sizeToBring.cls yX0_sizeToBring yX0_sizeToBring ∈ lc_T := lc_in (List.mem_of_getElem? (i := 357) (by decide +kernel)) rfl
theorem mc_X3_pass : Cond.code yX3_pass cX3_pass 2 (some .int) ∈ lc_T := lc_in (List.mem_of_getElem? (i := 367) (by decide +kernel)) rfl
theorem md_X3_pass : yX3_pass.cls ≠ "java/lang/invoke/MethodHandle" ∧ yX3_pass.cls ≠ "java/lang/invoke/VarHandle" ∧ (parseMethodDescriptor yX3_pass.desc).map (fun d => d.parameters.length) = some 1 := ⟨by decide +kernel, by decide +kernel, by decide +kernel⟩
theorem mi_X3_pass : Cond.instanceMethod yX3_pass ∈ lc_T := lc_in (List.mem_of_getElem? (i := 365) (by decide +kernel)) rfl
theorem mv_X3_pass : Cond.selects yX3_pass.cls yX3_pass yX3_pass ∈ lc_T := lc_in (List.mem_of_getElem? (i := 366) (by decide +kernel)) rfl
theorem mc_X0_letRoundsGoBy : Cond.code yX0_letRoundsGoBy cX0_letRoundsGoBy 4 (some .int) ∈ lc_T := lc_in (List.mem_of_getElem? (i := 372) (by decide +kernel)) rfl
theorem md_X0_letRoundsGoBy : yX0_letRoundsGoBy.cls ≠ "java/lang/invoke/MethodHandle" ∧ yX0_letRoundsGoBy.cls ≠ "java/lang/invoke/VarHandle" ∧ (parseMethodDescriptor yX0_letRoundsGoBy.desc).map (fun d => d.parameters.length) = some 1 := ⟨by decide +kernel, by decide +kernel, by decide +kernel⟩
theorem mi_X0_letRoundsGoBy : Cond.instanceMethod yX0_letRoundsGoBy ∈ lc_T := lc_in (List.mem_of_getElem? (i := 370) (by decide +kernel)) rfl
theorem mv_X0_letRoundsGoBy : Cond.selects yX0_letRoundsGoBy.cls yX0_letRoundsGoBy yX0_letRoundsGoBy ∈ lc_T := lc_in (List.mem_of_getElem? (i := 371) (by decide +kernel)) rfl
theorem mc_X0_letRoundGoBy : Cond.code yX0_letRoundGoBy cX0_letRoundGoBy 3 (some .int) ∈ lc_T := lc_in (List.mem_of_getElem? (i := 376) (by decide +kernel)) rfl
theorem md_X0_letRoundGoBy : yX0_letRoundGoBy.cls ≠ "java/lang/invoke/MethodHandle" ∧ yX0_letRoundGoBy.cls ≠ "java/lang/invoke/VarHandle" ∧ (parseMethodDescriptor yX0_letRoundGoBy.desc).map (fun d => d.parameters.length) = some 0 := ⟨by decide +kernel, by decide +kernel, by decide +kernel⟩
theorem mi_X0_letRoundGoBy : Cond.instanceMethod yX0_letRoundGoBy ∈ lc_T := lc_in (List.mem_of_getElem? (i := 374) (by decide +kernel)) rfl
theorem mv_X0_letRoundGoBy : Cond.selects yX0_letRoundGoBy.cls yX0_letRoundGoBy yX0_letRoundGoBy ∈ lc_T := lc_in (List.mem_of_getElem? (i := 375) (by decide +kernel)) rfl
theorem mc_X0_leakAll : Cond.code yX0_leakAll cX0_leakAll 2 none ∈ lc_T := lc_in (List.mem_of_getElem? (i := 380) (by decide +kernel)) rfl
theorem md_X0_leakAll : yX0_leakAll.cls ≠ "java/lang/invoke/MethodHandle" ∧ yX0_leakAll.cls ≠ "java/lang/invoke/VarHandle" ∧ (parseMethodDescriptor yX0_leakAll.desc).map (fun d => d.parameters.length) = some 0 := ⟨by decide +kernel, by decide +kernel, by decide +kernel⟩
theorem mi_X0_leakAll : Cond.instanceMethod yX0_leakAll ∈ lc_T := lc_in (List.mem_of_getElem? (i := 378) (by decide +kernel)) rfl
theorem mv_X0_leakAll : Cond.selects yX0_leakAll.cls yX0_leakAll yX0_leakAll ∈ lc_T := lc_in (List.mem_of_getElem? (i := 379) (by decide +kernel)) rfl
theorem mc_J9_min_7cf53 : Cond.code yJ9_min_7cf53 cJ9_min_7cf53 2 (some .int) ∈ lc_T := lc_in (List.mem_of_getElem? (i := 383) (by decide +kernel)) rfl
theorem md_J9_min_7cf53 : yJ9_min_7cf53.cls ≠ "java/lang/invoke/MethodHandle" ∧ yJ9_min_7cf53.cls ≠ "java/lang/invoke/VarHandle" ∧ (parseMethodDescriptor yJ9_min_7cf53.desc).map (fun d => d.parameters.length) = some 2 := ⟨by decide +kernel, by decide +kernel, by decide +kernel⟩
theorem ms_J9_min_7cf53 : Cond.static yJ9_min_7cf53 ∈ lc_T := lc_in (List.mem_of_getElem? (i := 382) (by decide +kernel)) rfl
theorem mc_X0_loseAsHeat : Cond.code yX0_loseAsHeat cX0_loseAsHeat 3 none ∈ lc_T := lc_in (List.mem_of_getElem? (i := 387) (by decide +kernel)) rfl
theorem md_X0_loseAsHeat : yX0_loseAsHeat.cls ≠ "java/lang/invoke/MethodHandle" ∧ yX0_loseAsHeat.cls ≠ "java/lang/invoke/VarHandle" ∧ (parseMethodDescriptor yX0_loseAsHeat.desc).map (fun d => d.parameters.length) = some 2 := ⟨by decide +kernel, by decide +kernel, by decide +kernel⟩
theorem mi_X0_loseAsHeat : Cond.instanceMethod yX0_loseAsHeat ∈ lc_T := lc_in (List.mem_of_getElem? (i := 385) (by decide +kernel)) rfl
theorem mv_X0_loseAsHeat : Cond.selects yX0_loseAsHeat.cls yX0_loseAsHeat yX0_loseAsHeat ∈ lc_T := lc_in (List.mem_of_getElem? (i := 386) (by decide +kernel)) rfl
theorem mc_X0_burnInterest : Cond.code yX0_burnInterest cX0_burnInterest 5 (some .int) ∈ lc_T := lc_in (List.mem_of_getElem? (i := 391) (by decide +kernel)) rfl
theorem md_X0_burnInterest : yX0_burnInterest.cls ≠ "java/lang/invoke/MethodHandle" ∧ yX0_burnInterest.cls ≠ "java/lang/invoke/VarHandle" ∧ (parseMethodDescriptor yX0_burnInterest.desc).map (fun d => d.parameters.length) = some 0 := ⟨by decide +kernel, by decide +kernel, by decide +kernel⟩
theorem mi_X0_burnInterest : Cond.instanceMethod yX0_burnInterest ∈ lc_T := lc_in (List.mem_of_getElem? (i := 389) (by decide +kernel)) rfl
theorem mv_X0_burnInterest : Cond.selects yX0_burnInterest.cls yX0_burnInterest yX0_burnInterest ∈ lc_T := lc_in (List.mem_of_getElem? (i := 390) (by decide +kernel)) rfl
theorem mc_X0_interestOf : Cond.code yX0_interestOf cX0_interestOf 2 (some .int) ∈ lc_T := lc_in (List.mem_of_getElem? (i := 395) (by decide +kernel)) rfl
theorem md_X0_interestOf : yX0_interestOf.cls ≠ "java/lang/invoke/MethodHandle" ∧ yX0_interestOf.cls ≠ "java/lang/invoke/VarHandle" ∧ (parseMethodDescriptor yX0_interestOf.desc).map (fun d => d.parameters.length) = some 1 := ⟨by decide +kernel, by decide +kernel, by decide +kernel⟩
theorem mi_X0_interestOf : Cond.instanceMethod yX0_interestOf ∈ lc_T := lc_in (List.mem_of_getElem? (i := 393) (by decide +kernel)) rfl
theorem mv_X0_interestOf : Cond.selects yX0_interestOf.cls yX0_interestOf yX0_interestOf ∈ lc_T := lc_in (List.mem_of_getElem? (i := 394) (by decide +kernel)) rfl
theorem mc_X0_hasLoan : Cond.code yX0_hasLoan cX0_hasLoan 2 (some .boolean) ∈ lc_T := lc_in (List.mem_of_getElem? (i := 399) (by decide +kernel)) rfl
theorem md_X0_hasLoan : yX0_hasLoan.cls ≠ "java/lang/invoke/MethodHandle" ∧ yX0_hasLoan.cls ≠ "java/lang/invoke/VarHandle" ∧ (parseMethodDescriptor yX0_hasLoan.desc).map (fun d => d.parameters.length) = some 1 := ⟨by decide +kernel, by decide +kernel, by decide +kernel⟩
theorem mi_X0_hasLoan : Cond.instanceMethod yX0_hasLoan ∈ lc_T := lc_in (List.mem_of_getElem? (i := 397) (by decide +kernel)) rfl
theorem mv_X0_hasLoan : Cond.selects yX0_hasLoan.cls yX0_hasLoan yX0_hasLoan ∈ lc_T := lc_in (List.mem_of_getElem? (i := 398) (by decide +kernel)) rfl
theorem mc_X0_countLateRounds : Cond.code yX0_countLateRounds cX0_countLateRounds 5 (some .int) ∈ lc_T := lc_in (List.mem_of_getElem? (i := 403) (by decide +kernel)) rfl
theorem md_X0_countLateRounds : yX0_countLateRounds.cls ≠ "java/lang/invoke/MethodHandle" ∧ yX0_countLateRounds.cls ≠ "java/lang/invoke/VarHandle" ∧ (parseMethodDescriptor yX0_countLateRounds.desc).map (fun d => d.parameters.length) = some 1 := ⟨by decide +kernel, by decide +kernel, by decide +kernel⟩
theorem mi_X0_countLateRounds : Cond.instanceMethod yX0_countLateRounds ∈ lc_T := lc_in (List.mem_of_getElem? (i := 401) (by decide +kernel)) rfl
theorem mv_X0_countLateRounds : Cond.selects yX0_countLateRounds.cls yX0_countLateRounds yX0_countLateRounds ∈ lc_T := lc_in (List.mem_of_getElem? (i := 402) (by decide +kernel)) rfl
theorem mc_X0_shareOut : Cond.code yX0_shareOut cX0_shareOut 8 none ∈ lc_T := lc_in (List.mem_of_getElem? (i := 407) (by decide +kernel)) rfl
theorem md_X0_shareOut : yX0_shareOut.cls ≠ "java/lang/invoke/MethodHandle" ∧ yX0_shareOut.cls ≠ "java/lang/invoke/VarHandle" ∧ (parseMethodDescriptor yX0_shareOut.desc).map (fun d => d.parameters.length) = some 1 := ⟨by decide +kernel, by decide +kernel, by decide +kernel⟩
theorem mi_X0_shareOut : Cond.instanceMethod yX0_shareOut ∈ lc_T := lc_in (List.mem_of_getElem? (i := 405) (by decide +kernel)) rfl
theorem mv_X0_shareOut : Cond.selects yX0_shareOut.cls yX0_shareOut yX0_shareOut ∈ lc_T := lc_in (List.mem_of_getElem? (i := 406) (by decide +kernel)) rfl
theorem mc_X0_owedBy : Cond.code yX0_owedBy cX0_owedBy 4 (some .int) ∈ lc_T := lc_in (List.mem_of_getElem? (i := 411) (by decide +kernel)) rfl
theorem md_X0_owedBy : yX0_owedBy.cls ≠ "java/lang/invoke/MethodHandle" ∧ yX0_owedBy.cls ≠ "java/lang/invoke/VarHandle" ∧ (parseMethodDescriptor yX0_owedBy.desc).map (fun d => d.parameters.length) = some 1 := ⟨by decide +kernel, by decide +kernel, by decide +kernel⟩
theorem mi_X0_owedBy : Cond.instanceMethod yX0_owedBy ∈ lc_T := lc_in (List.mem_of_getElem? (i := 409) (by decide +kernel)) rfl
theorem mv_X0_owedBy : Cond.selects yX0_owedBy.cls yX0_owedBy yX0_owedBy ∈ lc_T := lc_in (List.mem_of_getElem? (i := 410) (by decide +kernel)) rfl
theorem mc_X0_dropLoansOf : Cond.code yX0_dropLoansOf cX0_dropLoansOf 3 none ∈ lc_T := lc_in (List.mem_of_getElem? (i := 415) (by decide +kernel)) rfl
theorem md_X0_dropLoansOf : yX0_dropLoansOf.cls ≠ "java/lang/invoke/MethodHandle" ∧ yX0_dropLoansOf.cls ≠ "java/lang/invoke/VarHandle" ∧ (parseMethodDescriptor yX0_dropLoansOf.desc).map (fun d => d.parameters.length) = some 1 := ⟨by decide +kernel, by decide +kernel, by decide +kernel⟩
theorem mi_X0_dropLoansOf : Cond.instanceMethod yX0_dropLoansOf ∈ lc_T := lc_in (List.mem_of_getElem? (i := 413) (by decide +kernel)) rfl
theorem mv_X0_dropLoansOf : Cond.selects yX0_dropLoansOf.cls yX0_dropLoansOf yX0_dropLoansOf ∈ lc_T := lc_in (List.mem_of_getElem? (i := 414) (by decide +kernel)) rfl
theorem mc_X0_removeLoan : Cond.code yX0_removeLoan cX0_removeLoan 3 none ∈ lc_T := lc_in (List.mem_of_getElem? (i := 419) (by decide +kernel)) rfl
theorem md_X0_removeLoan : yX0_removeLoan.cls ≠ "java/lang/invoke/MethodHandle" ∧ yX0_removeLoan.cls ≠ "java/lang/invoke/VarHandle" ∧ (parseMethodDescriptor yX0_removeLoan.desc).map (fun d => d.parameters.length) = some 1 := ⟨by decide +kernel, by decide +kernel, by decide +kernel⟩
theorem mi_X0_removeLoan : Cond.instanceMethod yX0_removeLoan ∈ lc_T := lc_in (List.mem_of_getElem? (i := 417) (by decide +kernel)) rfl
theorem mv_X0_removeLoan : Cond.selects yX0_removeLoan.cls yX0_removeLoan yX0_removeLoan ∈ lc_T := lc_in (List.mem_of_getElem? (i := 418) (by decide +kernel)) rfl
theorem mc_L_areCells : Cond.code yL_areCells cL_areCells 11 (some .boolean) ∈ lc_T := lc_in (List.mem_of_getElem? (i := 422) (by decide +kernel)) rfl
theorem md_L_areCells : yL_areCells.cls ≠ "java/lang/invoke/MethodHandle" ∧ yL_areCells.cls ≠ "java/lang/invoke/VarHandle" ∧ (parseMethodDescriptor yL_areCells.desc).map (fun d => d.parameters.length) = some 4 := ⟨by decide +kernel, by decide +kernel, by decide +kernel⟩
theorem ms_L_areCells : Cond.static yL_areCells ∈ lc_T := lc_in (List.mem_of_getElem? (i := 421) (by decide +kernel)) rfl
theorem mc_L_owed : Cond.code yL_owed cL_owed 6 (some .int) ∈ lc_T := lc_in (List.mem_of_getElem? (i := 425) (by decide +kernel)) rfl
theorem md_L_owed : yL_owed.cls ≠ "java/lang/invoke/MethodHandle" ∧ yL_owed.cls ≠ "java/lang/invoke/VarHandle" ∧ (parseMethodDescriptor yL_owed.desc).map (fun d => d.parameters.length) = some 4 := ⟨by decide +kernel, by decide +kernel, by decide +kernel⟩
theorem ms_L_owed : Cond.static yL_owed ∈ lc_T := lc_in (List.mem_of_getElem? (i := 424) (by decide +kernel)) rfl
theorem mc_L_interest : Cond.code yL_interest cL_interest 3 (some .int) ∈ lc_T := lc_in (List.mem_of_getElem? (i := 428) (by decide +kernel)) rfl
theorem md_L_interest : yL_interest.cls ≠ "java/lang/invoke/MethodHandle" ∧ yL_interest.cls ≠ "java/lang/invoke/VarHandle" ∧ (parseMethodDescriptor yL_interest.desc).map (fun d => d.parameters.length) = some 2 := ⟨by decide +kernel, by decide +kernel, by decide +kernel⟩
theorem ms_L_interest : Cond.static yL_interest ∈ lc_T := lc_in (List.mem_of_getElem? (i := 427) (by decide +kernel)) rfl
theorem mc_X3_cell : Cond.code yX3_cell cX3_cell 3 (some .int) ∈ lc_T := lc_in (List.mem_of_getElem? (i := 432) (by decide +kernel)) rfl
theorem md_X3_cell : yX3_cell.cls ≠ "java/lang/invoke/MethodHandle" ∧ yX3_cell.cls ≠ "java/lang/invoke/VarHandle" ∧ (parseMethodDescriptor yX3_cell.desc).map (fun d => d.parameters.length) = some 2 := ⟨by decide +kernel, by decide +kernel, by decide +kernel⟩
theorem mi_X3_cell : Cond.instanceMethod yX3_cell ∈ lc_T := lc_in (List.mem_of_getElem? (i := 430) (by decide +kernel)) rfl
theorem mv_X3_cell : Cond.selects yX3_cell.cls yX3_cell yX3_cell ∈ lc_T := lc_in (List.mem_of_getElem? (i := 431) (by decide +kernel)) rfl
theorem mc_X0_owedTo : Cond.code yX0_owedTo cX0_owedTo 4 (some .int) ∈ lc_T := lc_in (List.mem_of_getElem? (i := 437) (by decide +kernel)) rfl
theorem md_X0_owedTo : yX0_owedTo.cls ≠ "java/lang/invoke/MethodHandle" ∧ yX0_owedTo.cls ≠ "java/lang/invoke/VarHandle" ∧ (parseMethodDescriptor yX0_owedTo.desc).map (fun d => d.parameters.length) = some 1 := ⟨by decide +kernel, by decide +kernel, by decide +kernel⟩
theorem mi_X0_owedTo : Cond.instanceMethod yX0_owedTo ∈ lc_T := lc_in (List.mem_of_getElem? (i := 435) (by decide +kernel)) rfl
theorem mv_X0_owedTo : Cond.selects yX0_owedTo.cls yX0_owedTo yX0_owedTo ∈ lc_T := lc_in (List.mem_of_getElem? (i := 436) (by decide +kernel)) rfl
theorem mc_X0_interestBy : Cond.code yX0_interestBy cX0_interestBy 4 (some .int) ∈ lc_T := lc_in (List.mem_of_getElem? (i := 441) (by decide +kernel)) rfl
theorem md_X0_interestBy : yX0_interestBy.cls ≠ "java/lang/invoke/MethodHandle" ∧ yX0_interestBy.cls ≠ "java/lang/invoke/VarHandle" ∧ (parseMethodDescriptor yX0_interestBy.desc).map (fun d => d.parameters.length) = some 1 := ⟨by decide +kernel, by decide +kernel, by decide +kernel⟩
theorem mi_X0_interestBy : Cond.instanceMethod yX0_interestBy ∈ lc_T := lc_in (List.mem_of_getElem? (i := 439) (by decide +kernel)) rfl
theorem mv_X0_interestBy : Cond.selects yX0_interestBy.cls yX0_interestBy yX0_interestBy ∈ lc_T := lc_in (List.mem_of_getElem? (i := 440) (by decide +kernel)) rfl
theorem mc_X0_kindOf : Cond.code yX0_kindOf cX0_kindOf 2 (some .int) ∈ lc_T := lc_in (List.mem_of_getElem? (i := 445) (by decide +kernel)) rfl
theorem md_X0_kindOf : yX0_kindOf.cls ≠ "java/lang/invoke/MethodHandle" ∧ yX0_kindOf.cls ≠ "java/lang/invoke/VarHandle" ∧ (parseMethodDescriptor yX0_kindOf.desc).map (fun d => d.parameters.length) = some 1 := ⟨by decide +kernel, by decide +kernel, by decide +kernel⟩
theorem mi_X0_kindOf : Cond.instanceMethod yX0_kindOf ∈ lc_T := lc_in (List.mem_of_getElem? (i := 443) (by decide +kernel)) rfl
theorem mv_X0_kindOf : Cond.selects yX0_kindOf.cls yX0_kindOf yX0_kindOf ∈ lc_T := lc_in (List.mem_of_getElem? (i := 444) (by decide +kernel)) rfl
theorem mc_X3_loan : Cond.code yX3_loan cX3_loan 3 (some .int) ∈ lc_T := lc_in (List.mem_of_getElem? (i := 450) (by decide +kernel)) rfl
theorem md_X3_loan : yX3_loan.cls ≠ "java/lang/invoke/MethodHandle" ∧ yX3_loan.cls ≠ "java/lang/invoke/VarHandle" ∧ (parseMethodDescriptor yX3_loan.desc).map (fun d => d.parameters.length) = some 2 := ⟨by decide +kernel, by decide +kernel, by decide +kernel⟩
theorem mi_X3_loan : Cond.instanceMethod yX3_loan ∈ lc_T := lc_in (List.mem_of_getElem? (i := 448) (by decide +kernel)) rfl
theorem mv_X3_loan : Cond.selects yX3_loan.cls yX3_loan yX3_loan ∈ lc_T := lc_in (List.mem_of_getElem? (i := 449) (by decide +kernel)) rfl
theorem mc_X3_about : Cond.code yX3_about cX3_about 2 (some .int) ∈ lc_T := lc_in (List.mem_of_getElem? (i := 458) (by decide +kernel)) rfl
theorem md_X3_about : yX3_about.cls ≠ "java/lang/invoke/MethodHandle" ∧ yX3_about.cls ≠ "java/lang/invoke/VarHandle" ∧ (parseMethodDescriptor yX3_about.desc).map (fun d => d.parameters.length) = some 1 := ⟨by decide +kernel, by decide +kernel, by decide +kernel⟩
theorem mi_X3_about : Cond.instanceMethod yX3_about ∈ lc_T := lc_in (List.mem_of_getElem? (i := 456) (by decide +kernel)) rfl
theorem mv_X3_about : Cond.selects yX3_about.cls yX3_about yX3_about ∈ lc_T := lc_in (List.mem_of_getElem? (i := 457) (by decide +kernel)) rfl
theorem mc_X0_allCharge : Cond.code yX0_allCharge cX0_allCharge 3 (some .int) ∈ lc_T := lc_in (List.mem_of_getElem? (i := 462) (by decide +kernel)) rfl
theorem md_X0_allCharge : yX0_allCharge.cls ≠ "java/lang/invoke/MethodHandle" ∧ yX0_allCharge.cls ≠ "java/lang/invoke/VarHandle" ∧ (parseMethodDescriptor yX0_allCharge.desc).map (fun d => d.parameters.length) = some 0 := ⟨by decide +kernel, by decide +kernel, by decide +kernel⟩
theorem mi_X0_allCharge : Cond.instanceMethod yX0_allCharge ∈ lc_T := lc_in (List.mem_of_getElem? (i := 460) (by decide +kernel)) rfl
theorem mv_X0_allCharge : Cond.selects yX0_allCharge.cls yX0_allCharge yX0_allCharge ∈ lc_T := lc_in (List.mem_of_getElem? (i := 461) (by decide +kernel)) rfl
theorem mc_X0_allOwed : Cond.code yX0_allOwed cX0_allOwed 3 (some .int) ∈ lc_T := lc_in (List.mem_of_getElem? (i := 466) (by decide +kernel)) rfl
theorem md_X0_allOwed : yX0_allOwed.cls ≠ "java/lang/invoke/MethodHandle" ∧ yX0_allOwed.cls ≠ "java/lang/invoke/VarHandle" ∧ (parseMethodDescriptor yX0_allOwed.desc).map (fun d => d.parameters.length) = some 0 := ⟨by decide +kernel, by decide +kernel, by decide +kernel⟩
theorem mi_X0_allOwed : Cond.instanceMethod yX0_allOwed ∈ lc_T := lc_in (List.mem_of_getElem? (i := 464) (by decide +kernel)) rfl
theorem mv_X0_allOwed : Cond.selects yX0_allOwed.cls yX0_allOwed yX0_allOwed ∈ lc_T := lc_in (List.mem_of_getElem? (i := 465) (by decide +kernel)) rfl
theorem mc_X0_bankruptCells : Cond.code yX0_bankruptCells cX0_bankruptCells 3 (some .int) ∈ lc_T := lc_in (List.mem_of_getElem? (i := 470) (by decide +kernel)) rfl
theorem md_X0_bankruptCells : yX0_bankruptCells.cls ≠ "java/lang/invoke/MethodHandle" ∧ yX0_bankruptCells.cls ≠ "java/lang/invoke/VarHandle" ∧ (parseMethodDescriptor yX0_bankruptCells.desc).map (fun d => d.parameters.length) = some 0 := ⟨by decide +kernel, by decide +kernel, by decide +kernel⟩
theorem mi_X0_bankruptCells : Cond.instanceMethod yX0_bankruptCells ∈ lc_T := lc_in (List.mem_of_getElem? (i := 468) (by decide +kernel)) rfl
theorem mv_X0_bankruptCells : Cond.selects yX0_bankruptCells.cls yX0_bankruptCells yX0_bankruptCells ∈ lc_T := lc_in (List.mem_of_getElem? (i := 469) (by decide +kernel)) rfl
theorem mc_L_isAdded : Cond.code yL_isAdded cL_isAdded 6 (some .boolean) ∈ lc_T := lc_in (List.mem_of_getElem? (i := 474) (by decide +kernel)) rfl
theorem md_L_isAdded : yL_isAdded.cls ≠ "java/lang/invoke/MethodHandle" ∧ yL_isAdded.cls ≠ "java/lang/invoke/VarHandle" ∧ (parseMethodDescriptor yL_isAdded.desc).map (fun d => d.parameters.length) = some 5 := ⟨by decide +kernel, by decide +kernel, by decide +kernel⟩
theorem ms_L_isAdded : Cond.static yL_isAdded ∈ lc_T := lc_in (List.mem_of_getElem? (i := 473) (by decide +kernel)) rfl
theorem mc_X3_addCell : Cond.code yX3_addCell cX3_addCell 4 (some .int) ∈ lc_T := lc_in (List.mem_of_getElem? (i := 481) (by decide +kernel)) rfl
theorem md_X3_addCell : yX3_addCell.cls ≠ "java/lang/invoke/MethodHandle" ∧ yX3_addCell.cls ≠ "java/lang/invoke/VarHandle" ∧ (parseMethodDescriptor yX3_addCell.desc).map (fun d => d.parameters.length) = some 3 := ⟨by decide +kernel, by decide +kernel, by decide +kernel⟩
theorem mi_X3_addCell : Cond.instanceMethod yX3_addCell ∈ lc_T := lc_in (List.mem_of_getElem? (i := 479) (by decide +kernel)) rfl
theorem mv_X3_addCell : Cond.selects yX3_addCell.cls yX3_addCell yX3_addCell ∈ lc_T := lc_in (List.mem_of_getElem? (i := 480) (by decide +kernel)) rfl
theorem mc_X0_putCell : Cond.code yX0_putCell cX0_putCell 5 (some .int) ∈ lc_T := lc_in (List.mem_of_getElem? (i := 487) (by decide +kernel)) rfl
theorem md_X0_putCell : yX0_putCell.cls ≠ "java/lang/invoke/MethodHandle" ∧ yX0_putCell.cls ≠ "java/lang/invoke/VarHandle" ∧ (parseMethodDescriptor yX0_putCell.desc).map (fun d => d.parameters.length) = some 3 := ⟨by decide +kernel, by decide +kernel, by decide +kernel⟩
theorem mi_X0_putCell : Cond.instanceMethod yX0_putCell ∈ lc_T := lc_in (List.mem_of_getElem? (i := 485) (by decide +kernel)) rfl
theorem mv_X0_putCell : Cond.selects yX0_putCell.cls yX0_putCell yX0_putCell ∈ lc_T := lc_in (List.mem_of_getElem? (i := 486) (by decide +kernel)) rfl
theorem mc_L_isLent : Cond.code yL_isLent cL_isLent 12 (some .boolean) ∈ lc_T := lc_in (List.mem_of_getElem? (i := 490) (by decide +kernel)) rfl
theorem md_L_isLent : yL_isLent.cls ≠ "java/lang/invoke/MethodHandle" ∧ yL_isLent.cls ≠ "java/lang/invoke/VarHandle" ∧ (parseMethodDescriptor yL_isLent.desc).map (fun d => d.parameters.length) = some 6 := ⟨by decide +kernel, by decide +kernel, by decide +kernel⟩
theorem ms_L_isLent : Cond.static yL_isLent ∈ lc_T := lc_in (List.mem_of_getElem? (i := 489) (by decide +kernel)) rfl
theorem mc_L_lost : Cond.code yL_lost cL_lost 3 (some .int) ∈ lc_T := lc_in (List.mem_of_getElem? (i := 493) (by decide +kernel)) rfl
theorem md_L_lost : yL_lost.cls ≠ "java/lang/invoke/MethodHandle" ∧ yL_lost.cls ≠ "java/lang/invoke/VarHandle" ∧ (parseMethodDescriptor yL_lost.desc).map (fun d => d.parameters.length) = some 3 := ⟨by decide +kernel, by decide +kernel, by decide +kernel⟩
theorem ms_L_lost : Cond.static yL_lost ∈ lc_T := lc_in (List.mem_of_getElem? (i := 492) (by decide +kernel)) rfl
theorem mc_L_lends : Cond.code yL_lends cL_lends 8 (some .int) ∈ lc_T := lc_in (List.mem_of_getElem? (i := 496) (by decide +kernel)) rfl
theorem md_L_lends : yL_lends.cls ≠ "java/lang/invoke/MethodHandle" ∧ yL_lends.cls ≠ "java/lang/invoke/VarHandle" ∧ (parseMethodDescriptor yL_lends.desc).map (fun d => d.parameters.length) = some 7 := ⟨by decide +kernel, by decide +kernel, by decide +kernel⟩
theorem ms_L_lends : Cond.static yL_lends ∈ lc_T := lc_in (List.mem_of_getElem? (i := 495) (by decide +kernel)) rfl
theorem mc_L_goes : Cond.code yL_goes cL_goes 6 (some .int) ∈ lc_T := lc_in (List.mem_of_getElem? (i := 499) (by decide +kernel)) rfl
theorem md_L_goes : yL_goes.cls ≠ "java/lang/invoke/MethodHandle" ∧ yL_goes.cls ≠ "java/lang/invoke/VarHandle" ∧ (parseMethodDescriptor yL_goes.desc).map (fun d => d.parameters.length) = some 5 := ⟨by decide +kernel, by decide +kernel, by decide +kernel⟩
theorem ms_L_goes : Cond.static yL_goes ∈ lc_T := lc_in (List.mem_of_getElem? (i := 498) (by decide +kernel)) rfl
theorem mc_L_isRepaid : Cond.code yL_isRepaid cL_isRepaid 12 (some .boolean) ∈ lc_T := lc_in (List.mem_of_getElem? (i := 502) (by decide +kernel)) rfl
theorem md_L_isRepaid : yL_isRepaid.cls ≠ "java/lang/invoke/MethodHandle" ∧ yL_isRepaid.cls ≠ "java/lang/invoke/VarHandle" ∧ (parseMethodDescriptor yL_isRepaid.desc).map (fun d => d.parameters.length) = some 6 := ⟨by decide +kernel, by decide +kernel, by decide +kernel⟩
theorem ms_L_isRepaid : Cond.static yL_isRepaid ∈ lc_T := lc_in (List.mem_of_getElem? (i := 501) (by decide +kernel)) rfl
theorem mc_X3_repay : Cond.code yX3_repay cX3_repay 3 (some .int) ∈ lc_T := lc_in (List.mem_of_getElem? (i := 509) (by decide +kernel)) rfl
theorem md_X3_repay : yX3_repay.cls ≠ "java/lang/invoke/MethodHandle" ∧ yX3_repay.cls ≠ "java/lang/invoke/VarHandle" ∧ (parseMethodDescriptor yX3_repay.desc).map (fun d => d.parameters.length) = some 2 := ⟨by decide +kernel, by decide +kernel, by decide +kernel⟩
theorem mi_X3_repay : Cond.instanceMethod yX3_repay ∈ lc_T := lc_in (List.mem_of_getElem? (i := 507) (by decide +kernel)) rfl
theorem mv_X3_repay : Cond.selects yX3_repay.cls yX3_repay yX3_repay ∈ lc_T := lc_in (List.mem_of_getElem? (i := 508) (by decide +kernel)) rfl
theorem mc_X0_canPayBack : Cond.code yX0_canPayBack cX0_canPayBack 3 (some .boolean) ∈ lc_T := lc_in (List.mem_of_getElem? (i := 513) (by decide +kernel)) rfl
theorem md_X0_canPayBack : yX0_canPayBack.cls ≠ "java/lang/invoke/MethodHandle" ∧ yX0_canPayBack.cls ≠ "java/lang/invoke/VarHandle" ∧ (parseMethodDescriptor yX0_canPayBack.desc).map (fun d => d.parameters.length) = some 2 := ⟨by decide +kernel, by decide +kernel, by decide +kernel⟩
theorem mi_X0_canPayBack : Cond.instanceMethod yX0_canPayBack ∈ lc_T := lc_in (List.mem_of_getElem? (i := 511) (by decide +kernel)) rfl
theorem mv_X0_canPayBack : Cond.selects yX0_canPayBack.cls yX0_canPayBack yX0_canPayBack ∈ lc_T := lc_in (List.mem_of_getElem? (i := 512) (by decide +kernel)) rfl
theorem mc_X0_payBack : Cond.code yX0_payBack cX0_payBack 4 (some .int) ∈ lc_T := lc_in (List.mem_of_getElem? (i := 518) (by decide +kernel)) rfl
theorem md_X0_payBack : yX0_payBack.cls ≠ "java/lang/invoke/MethodHandle" ∧ yX0_payBack.cls ≠ "java/lang/invoke/VarHandle" ∧ (parseMethodDescriptor yX0_payBack.desc).map (fun d => d.parameters.length) = some 2 := ⟨by decide +kernel, by decide +kernel, by decide +kernel⟩
theorem mi_X0_payBack : Cond.instanceMethod yX0_payBack ∈ lc_T := lc_in (List.mem_of_getElem? (i := 516) (by decide +kernel)) rfl
theorem mv_X0_payBack : Cond.selects yX0_payBack.cls yX0_payBack yX0_payBack ∈ lc_T := lc_in (List.mem_of_getElem? (i := 517) (by decide +kernel)) rfl
theorem mc_L_clears : Cond.code yL_clears cL_clears 5 none ∈ lc_T := lc_in (List.mem_of_getElem? (i := 522) (by decide +kernel)) rfl
theorem md_L_clears : yL_clears.cls ≠ "java/lang/invoke/MethodHandle" ∧ yL_clears.cls ≠ "java/lang/invoke/VarHandle" ∧ (parseMethodDescriptor yL_clears.desc).map (fun d => d.parameters.length) = some 2 := ⟨by decide +kernel, by decide +kernel, by decide +kernel⟩
theorem ms_L_clears : Cond.static yL_clears ∈ lc_T := lc_in (List.mem_of_getElem? (i := 521) (by decide +kernel)) rfl
theorem mc_L_isCharged : Cond.code yL_isCharged cL_isCharged 9 (some .boolean) ∈ lc_T := lc_in (List.mem_of_getElem? (i := 525) (by decide +kernel)) rfl
theorem md_L_isCharged : yL_isCharged.cls ≠ "java/lang/invoke/MethodHandle" ∧ yL_isCharged.cls ≠ "java/lang/invoke/VarHandle" ∧ (parseMethodDescriptor yL_isCharged.desc).map (fun d => d.parameters.length) = some 5 := ⟨by decide +kernel, by decide +kernel, by decide +kernel⟩
theorem ms_L_isCharged : Cond.static yL_isCharged ∈ lc_T := lc_in (List.mem_of_getElem? (i := 524) (by decide +kernel)) rfl
theorem mc_X3_charge : Cond.code yX3_charge cX3_charge 2 (some .int) ∈ lc_T := lc_in (List.mem_of_getElem? (i := 532) (by decide +kernel)) rfl
theorem md_X3_charge : yX3_charge.cls ≠ "java/lang/invoke/MethodHandle" ∧ yX3_charge.cls ≠ "java/lang/invoke/VarHandle" ∧ (parseMethodDescriptor yX3_charge.desc).map (fun d => d.parameters.length) = some 1 := ⟨by decide +kernel, by decide +kernel, by decide +kernel⟩
theorem mi_X3_charge : Cond.instanceMethod yX3_charge ∈ lc_T := lc_in (List.mem_of_getElem? (i := 530) (by decide +kernel)) rfl
theorem mv_X3_charge : Cond.selects yX3_charge.cls yX3_charge yX3_charge ∈ lc_T := lc_in (List.mem_of_getElem? (i := 531) (by decide +kernel)) rfl
theorem mc_X0_fillEach : Cond.code yX0_fillEach cX0_fillEach 5 (some .int) ∈ lc_T := lc_in (List.mem_of_getElem? (i := 536) (by decide +kernel)) rfl
theorem md_X0_fillEach : yX0_fillEach.cls ≠ "java/lang/invoke/MethodHandle" ∧ yX0_fillEach.cls ≠ "java/lang/invoke/VarHandle" ∧ (parseMethodDescriptor yX0_fillEach.desc).map (fun d => d.parameters.length) = some 1 := ⟨by decide +kernel, by decide +kernel, by decide +kernel⟩
theorem mi_X0_fillEach : Cond.instanceMethod yX0_fillEach ∈ lc_T := lc_in (List.mem_of_getElem? (i := 534) (by decide +kernel)) rfl
theorem mv_X0_fillEach : Cond.selects yX0_fillEach.cls yX0_fillEach yX0_fillEach ∈ lc_T := lc_in (List.mem_of_getElem? (i := 535) (by decide +kernel)) rfl
theorem mc_L_isDrawn : Cond.code yL_isDrawn cL_isDrawn 12 (some .boolean) ∈ lc_T := lc_in (List.mem_of_getElem? (i := 539) (by decide +kernel)) rfl
theorem md_L_isDrawn : yL_isDrawn.cls ≠ "java/lang/invoke/MethodHandle" ∧ yL_isDrawn.cls ≠ "java/lang/invoke/VarHandle" ∧ (parseMethodDescriptor yL_isDrawn.desc).map (fun d => d.parameters.length) = some 9 := ⟨by decide +kernel, by decide +kernel, by decide +kernel⟩
theorem ms_L_isDrawn : Cond.static yL_isDrawn ∈ lc_T := lc_in (List.mem_of_getElem? (i := 538) (by decide +kernel)) rfl
theorem mc_L_borrow : Cond.code yL_borrow cL_borrow 8 (some .boolean) ∈ lc_T := lc_in (List.mem_of_getElem? (i := 542) (by decide +kernel)) rfl
theorem md_L_borrow : yL_borrow.cls ≠ "java/lang/invoke/MethodHandle" ∧ yL_borrow.cls ≠ "java/lang/invoke/VarHandle" ∧ (parseMethodDescriptor yL_borrow.desc).map (fun d => d.parameters.length) = some 4 := ⟨by decide +kernel, by decide +kernel, by decide +kernel⟩
theorem ms_L_borrow : Cond.static yL_borrow ∈ lc_T := lc_in (List.mem_of_getElem? (i := 541) (by decide +kernel)) rfl
theorem mc_L_isPassed : Cond.code yL_isPassed cL_isPassed 8 (some .boolean) ∈ lc_T := lc_in (List.mem_of_getElem? (i := 545) (by decide +kernel)) rfl
theorem md_L_isPassed : yL_isPassed.cls ≠ "java/lang/invoke/MethodHandle" ∧ yL_isPassed.cls ≠ "java/lang/invoke/VarHandle" ∧ (parseMethodDescriptor yL_isPassed.desc).map (fun d => d.parameters.length) = some 6 := ⟨by decide +kernel, by decide +kernel, by decide +kernel⟩
theorem ms_L_isPassed : Cond.static yL_isPassed ∈ lc_T := lc_in (List.mem_of_getElem? (i := 544) (by decide +kernel)) rfl
theorem mc_L_round : Cond.code yL_round cL_round 7 (some .int) ∈ lc_T := lc_in (List.mem_of_getElem? (i := 548) (by decide +kernel)) rfl
theorem md_L_round : yL_round.cls ≠ "java/lang/invoke/MethodHandle" ∧ yL_round.cls ≠ "java/lang/invoke/VarHandle" ∧ (parseMethodDescriptor yL_round.desc).map (fun d => d.parameters.length) = some 3 := ⟨by decide +kernel, by decide +kernel, by decide +kernel⟩
theorem ms_L_round : Cond.static yL_round ∈ lc_T := lc_in (List.mem_of_getElem? (i := 547) (by decide +kernel)) rfl
theorem mc_L_breaks : Cond.code yL_breaks cL_breaks 11 none ∈ lc_T := lc_in (List.mem_of_getElem? (i := 551) (by decide +kernel)) rfl
theorem md_L_breaks : yL_breaks.cls ≠ "java/lang/invoke/MethodHandle" ∧ yL_breaks.cls ≠ "java/lang/invoke/VarHandle" ∧ (parseMethodDescriptor yL_breaks.desc).map (fun d => d.parameters.length) = some 4 := ⟨by decide +kernel, by decide +kernel, by decide +kernel⟩
theorem ms_L_breaks : Cond.static yL_breaks ∈ lc_T := lc_in (List.mem_of_getElem? (i := 550) (by decide +kernel)) rfl
theorem kl_RL_108 : lc_kS RL 108 yL_cell cL_cell 2 (some .int) 2 := ⟨⟨lc_in (List.mem_of_getElem? (i := 157) (by decide +kernel)) rfl, ms_L_cell, ki_RL, mc_L_cell⟩, md_L_cell⟩
theorem kl_RL_83 : lc_kS RL 83 yL_low cL_low 2 (some .int) 2 := ⟨⟨lc_in (List.mem_of_getElem? (i := 161) (by decide +kernel)) rfl, ms_L_low, ki_RL, mc_L_low⟩, md_L_low⟩
theorem kl_RL_9 : lc_kV RL 9 yX3_lend cX3_lend 5 (some .int) 4 := ⟨⟨lc_in (List.mem_of_getElem? (i := 171) (by decide +kernel)) rfl, mi_X3_lend, mv_X3_lend, ki_RX3, mc_X3_lend⟩, md_X3_lend⟩
theorem kl_RX3_117 : lc_kV RX3 117 yX0_hasCell cX0_hasCell 2 (some .boolean) 1 := ⟨⟨lc_in (List.mem_of_getElem? (i := 175) (by decide +kernel)) rfl, mi_X0_hasCell, mv_X0_hasCell, ki_RX0, mc_X0_hasCell⟩, md_X0_hasCell⟩
theorem kl_RX3_195 : lc_kS RX3 195 yX3_isUnits cX3_isUnits 1 (some .boolean) 1 := ⟨⟨lc_in (List.mem_of_getElem? (i := 247) (by decide +kernel)) rfl, ms_X3_isUnits, ki_RX3, mc_X3_isUnits⟩, md_X3_isUnits⟩
theorem kl_RX3_44 : lc_kS RX3 44 yX3_isWithin cX3_isWithin 3 (some .boolean) 3 := ⟨⟨lc_in (List.mem_of_getElem? (i := 250) (by decide +kernel)) rfl, ms_X3_isWithin, ki_RX3, mc_X3_isWithin⟩, md_X3_isWithin⟩
theorem kl_RX3_200 : lc_kV RX3 200 yX0_canLend cX0_canLend 4 (some .boolean) 3 := ⟨⟨lc_in (List.mem_of_getElem? (i := 269) (by decide +kernel)) rfl, mi_X0_canLend, mv_X0_canLend, ki_RX0, mc_X0_canLend⟩, md_X0_canLend⟩
theorem kl_RX0_73 : lc_kV RX0 73 yX0_hasCell cX0_hasCell 2 (some .boolean) 1 := ⟨⟨lc_in (List.mem_of_getElem? (i := 273) (by decide +kernel)) rfl, mi_X0_hasCell, mv_X0_hasCell, ki_RX0, mc_X0_hasCell⟩, md_X0_hasCell⟩
theorem kl_RX0_77 : lc_kV RX0 77 yX0_isBankrupt cX0_isBankrupt 2 (some .boolean) 1 := ⟨⟨lc_in (List.mem_of_getElem? (i := 274) (by decide +kernel)) rfl, mi_X0_isBankrupt, mv_X0_isBankrupt, ki_RX0, mc_X0_isBankrupt⟩, md_X0_isBankrupt⟩
theorem kl_RX0_93 : lc_kV RX0 93 yX0_chargeOf cX0_chargeOf 2 (some .int) 1 := ⟨⟨lc_in (List.mem_of_getElem? (i := 278) (by decide +kernel)) rfl, mi_X0_chargeOf, mv_X0_chargeOf, ki_RX0, mc_X0_chargeOf⟩, md_X0_chargeOf⟩
theorem kl_RX0_96 : lc_kV RX0 96 yX0_arriving cX0_arriving 5 (some .int) 3 := ⟨⟨lc_in (List.mem_of_getElem? (i := 282) (by decide +kernel)) rfl, mi_X0_arriving, mv_X0_arriving, ki_RX0, mc_X0_arriving⟩, md_X0_arriving⟩
theorem kl_RX0_100 : lc_kV RX0 100 yX0_roomOf cX0_roomOf 2 (some .int) 1 := ⟨⟨lc_in (List.mem_of_getElem? (i := 286) (by decide +kernel)) rfl, mi_X0_roomOf, mv_X0_roomOf, ki_RX0, mc_X0_roomOf⟩, md_X0_roomOf⟩
theorem kl_RX3_188 : lc_kV RX3 188 yX1_remember cX1_remember 2 none 1 := ⟨⟨lc_in (List.mem_of_getElem? (i := 306) (by decide +kernel)) rfl, mi_X1_remember, mv_X1_remember, ki_RX1, mc_X1_remember⟩, md_X1_remember⟩
theorem kl_RX1_25 : lc_kV RX1 25 yX0_copyFrom cX0_copyFrom 2 none 1 := ⟨⟨lc_in (List.mem_of_getElem? (i := 310) (by decide +kernel)) rfl, mi_X0_copyFrom, mv_X0_copyFrom, ki_RX0, mc_X0_copyFrom⟩, md_X0_copyFrom⟩
theorem kl_RX3_205 : lc_kV RX3 205 yX0_makeLoan cX0_makeLoan 6 (some .int) 4 := ⟨⟨lc_in (List.mem_of_getElem? (i := 317) (by decide +kernel)) rfl, mi_X0_makeLoan, mv_X0_makeLoan, ki_RX0, mc_X0_makeLoan⟩, md_X0_makeLoan⟩
theorem kl_RX0_103 : lc_kV RX0 103 yX0_canLend cX0_canLend 4 (some .boolean) 3 := ⟨⟨lc_in (List.mem_of_getElem? (i := 321) (by decide +kernel)) rfl, mi_X0_canLend, mv_X0_canLend, ki_RX0, mc_X0_canLend⟩, md_X0_canLend⟩
theorem kl_RX0_107 : lc_kV RX0 107 yX0_shuttle cX0_shuttle 5 (some .int) 3 := ⟨⟨lc_in (List.mem_of_getElem? (i := 322) (by decide +kernel)) rfl, mi_X0_shuttle, mv_X0_shuttle, ki_RX0, mc_X0_shuttle⟩, md_X0_shuttle⟩
theorem kl_RL_25 : lc_kV RL 25 yX3_setLeak cX3_setLeak 4 (some .int) 2 := ⟨⟨lc_in (List.mem_of_getElem? (i := 329) (by decide +kernel)) rfl, mi_X3_setLeak, mv_X3_setLeak, ki_RX3, mc_X3_setLeak⟩, md_X3_setLeak⟩
theorem kl_RL_32 : lc_kV RL 32 yX3_draw cX3_draw 3 (some .int) 1 := ⟨⟨lc_in (List.mem_of_getElem? (i := 337) (by decide +kernel)) rfl, mi_X3_draw, mv_X3_draw, ki_RX3, mc_X3_draw⟩, md_X3_draw⟩
theorem kl_RX3_77 : lc_kV RX3 77 yX0_copyFrom cX0_copyFrom 2 none 1 := ⟨⟨lc_in (List.mem_of_getElem? (i := 342) (by decide +kernel)) rfl, mi_X0_copyFrom, mv_X0_copyFrom, ki_RX0, mc_X0_copyFrom⟩, md_X0_copyFrom⟩
theorem kl_RX3_226 : lc_kV RX3 226 yX0_giveEach cX0_giveEach 4 (some .int) 1 := ⟨⟨lc_in (List.mem_of_getElem? (i := 343) (by decide +kernel)) rfl, mi_X0_giveEach, mv_X0_giveEach, ki_RX0, mc_X0_giveEach⟩, md_X0_giveEach⟩
theorem kl_RX0_127 : lc_kV RX0 127 yX0_borrowUpTo cX0_borrowUpTo 5 (some .boolean) 2 := ⟨⟨lc_in (List.mem_of_getElem? (i := 347) (by decide +kernel)) rfl, mi_X0_borrowUpTo, mv_X0_borrowUpTo, ki_RX0, mc_X0_borrowUpTo⟩, md_X0_borrowUpTo⟩
theorem kl_RX0_130 : lc_kV RX0 130 yX0_fullestOther cX0_fullestOther 4 (some .int) 1 := ⟨⟨lc_in (List.mem_of_getElem? (i := 351) (by decide +kernel)) rfl, mi_X0_fullestOther, mv_X0_fullestOther, ki_RX0, mc_X0_fullestOther⟩, md_X0_fullestOther⟩
theorem kl_RX0_118 : lc_kV RX0 118 yX0_sizeToBring cX0_sizeToBring 5 (some .int) 3 := ⟨⟨lc_in (List.mem_of_getElem? (i := 355) (by decide +kernel)) rfl, mi_X0_sizeToBring, mv_X0_sizeToBring, ki_RX0, mc_X0_sizeToBring⟩, md_X0_sizeToBring⟩
theorem kl_RX0_133 : lc_kV RX0 133 yX0_makeLoan cX0_makeLoan 6 (some .int) 4 := ⟨⟨lc_in (List.mem_of_getElem? (i := 359) (by decide +kernel)) rfl, mi_X0_makeLoan, mv_X0_makeLoan, ki_RX0, mc_X0_makeLoan⟩, md_X0_makeLoan⟩
theorem kl_RL_35 : lc_kV RL 35 yX3_pass cX3_pass 2 (some .int) 1 := ⟨⟨lc_in (List.mem_of_getElem? (i := 364) (by decide +kernel)) rfl, mi_X3_pass, mv_X3_pass, ki_RX3, mc_X3_pass⟩, md_X3_pass⟩
theorem kl_RX3_233 : lc_kV RX3 233 yX0_letRoundsGoBy cX0_letRoundsGoBy 4 (some .int) 1 := ⟨⟨lc_in (List.mem_of_getElem? (i := 369) (by decide +kernel)) rfl, mi_X0_letRoundsGoBy, mv_X0_letRoundsGoBy, ki_RX0, mc_X0_letRoundsGoBy⟩, md_X0_letRoundsGoBy⟩
theorem kl_RX0_137 : lc_kV RX0 137 yX0_letRoundGoBy cX0_letRoundGoBy 3 (some .int) 0 := ⟨⟨lc_in (List.mem_of_getElem? (i := 373) (by decide +kernel)) rfl, mi_X0_letRoundGoBy, mv_X0_letRoundGoBy, ki_RX0, mc_X0_letRoundGoBy⟩, md_X0_letRoundGoBy⟩
theorem kl_RX0_141 : lc_kV RX0 141 yX0_leakAll cX0_leakAll 2 none 0 := ⟨⟨lc_in (List.mem_of_getElem? (i := 377) (by decide +kernel)) rfl, mi_X0_leakAll, mv_X0_leakAll, ki_RX0, mc_X0_leakAll⟩, md_X0_leakAll⟩
theorem kl_RX0_121 : lc_kS RX0 121 yJ9_min_7cf53 cJ9_min_7cf53 2 (some .int) 2 := ⟨⟨lc_in (List.mem_of_getElem? (i := 381) (by decide +kernel)) rfl, ms_J9_min_7cf53, ki_RJ9, mc_J9_min_7cf53⟩, md_J9_min_7cf53⟩
theorem kl_RX0_150 : lc_kV RX0 150 yX0_loseAsHeat cX0_loseAsHeat 3 none 2 := ⟨⟨lc_in (List.mem_of_getElem? (i := 384) (by decide +kernel)) rfl, mi_X0_loseAsHeat, mv_X0_loseAsHeat, ki_RX0, mc_X0_loseAsHeat⟩, md_X0_loseAsHeat⟩
theorem kl_RX0_144 : lc_kV RX0 144 yX0_burnInterest cX0_burnInterest 5 (some .int) 0 := ⟨⟨lc_in (List.mem_of_getElem? (i := 388) (by decide +kernel)) rfl, mi_X0_burnInterest, mv_X0_burnInterest, ki_RX0, mc_X0_burnInterest⟩, md_X0_burnInterest⟩
theorem kl_RX0_83 : lc_kV RX0 83 yX0_interestOf cX0_interestOf 2 (some .int) 1 := ⟨⟨lc_in (List.mem_of_getElem? (i := 392) (by decide +kernel)) rfl, mi_X0_interestOf, mv_X0_interestOf, ki_RX0, mc_X0_interestOf⟩, md_X0_interestOf⟩
theorem kl_RX0_80 : lc_kV RX0 80 yX0_hasLoan cX0_hasLoan 2 (some .boolean) 1 := ⟨⟨lc_in (List.mem_of_getElem? (i := 396) (by decide +kernel)) rfl, mi_X0_hasLoan, mv_X0_hasLoan, ki_RX0, mc_X0_hasLoan⟩, md_X0_hasLoan⟩
theorem kl_RX0_147 : lc_kV RX0 147 yX0_countLateRounds cX0_countLateRounds 5 (some .int) 1 := ⟨⟨lc_in (List.mem_of_getElem? (i := 400) (by decide +kernel)) rfl, mi_X0_countLateRounds, mv_X0_countLateRounds, ki_RX0, mc_X0_countLateRounds⟩, md_X0_countLateRounds⟩
theorem kl_RX0_154 : lc_kV RX0 154 yX0_shareOut cX0_shareOut 8 none 1 := ⟨⟨lc_in (List.mem_of_getElem? (i := 404) (by decide +kernel)) rfl, mi_X0_shareOut, mv_X0_shareOut, ki_RX0, mc_X0_shareOut⟩, md_X0_shareOut⟩
theorem kl_RX0_87 : lc_kV RX0 87 yX0_owedBy cX0_owedBy 4 (some .int) 1 := ⟨⟨lc_in (List.mem_of_getElem? (i := 408) (by decide +kernel)) rfl, mi_X0_owedBy, mv_X0_owedBy, ki_RX0, mc_X0_owedBy⟩, md_X0_owedBy⟩
theorem kl_RX0_157 : lc_kV RX0 157 yX0_dropLoansOf cX0_dropLoansOf 3 none 1 := ⟨⟨lc_in (List.mem_of_getElem? (i := 412) (by decide +kernel)) rfl, mi_X0_dropLoansOf, mv_X0_dropLoansOf, ki_RX0, mc_X0_dropLoansOf⟩, md_X0_dropLoansOf⟩
theorem kl_RX0_114 : lc_kV RX0 114 yX0_removeLoan cX0_removeLoan 3 none 1 := ⟨⟨lc_in (List.mem_of_getElem? (i := 416) (by decide +kernel)) rfl, mi_X0_removeLoan, mv_X0_removeLoan, ki_RX0, mc_X0_removeLoan⟩, md_X0_removeLoan⟩
theorem kl_RL_133 : lc_kS RL 133 yL_areCells cL_areCells 11 (some .boolean) 4 := ⟨⟨lc_in (List.mem_of_getElem? (i := 420) (by decide +kernel)) rfl, ms_L_areCells, ki_RL, mc_L_areCells⟩, md_L_areCells⟩
theorem kl_RL_51 : lc_kS RL 51 yL_owed cL_owed 6 (some .int) 4 := ⟨⟨lc_in (List.mem_of_getElem? (i := 423) (by decide +kernel)) rfl, ms_L_owed, ki_RL, mc_L_owed⟩, md_L_owed⟩
theorem kl_RL_59 : lc_kS RL 59 yL_interest cL_interest 3 (some .int) 2 := ⟨⟨lc_in (List.mem_of_getElem? (i := 426) (by decide +kernel)) rfl, ms_L_interest, ki_RL, mc_L_interest⟩, md_L_interest⟩
theorem kl_RL_71 : lc_kV RL 71 yX3_cell cX3_cell 3 (some .int) 2 := ⟨⟨lc_in (List.mem_of_getElem? (i := 429) (by decide +kernel)) rfl, mi_X3_cell, mv_X3_cell, ki_RX3, mc_X3_cell⟩, md_X3_cell⟩
theorem kl_RX3_139 : lc_kV RX3 139 yX0_owedBy cX0_owedBy 4 (some .int) 1 := ⟨⟨lc_in (List.mem_of_getElem? (i := 433) (by decide +kernel)) rfl, mi_X0_owedBy, mv_X0_owedBy, ki_RX0, mc_X0_owedBy⟩, md_X0_owedBy⟩
theorem kl_RX3_143 : lc_kV RX3 143 yX0_owedTo cX0_owedTo 4 (some .int) 1 := ⟨⟨lc_in (List.mem_of_getElem? (i := 434) (by decide +kernel)) rfl, mi_X0_owedTo, mv_X0_owedTo, ki_RX0, mc_X0_owedTo⟩, md_X0_owedTo⟩
theorem kl_RX3_146 : lc_kV RX3 146 yX0_interestBy cX0_interestBy 4 (some .int) 1 := ⟨⟨lc_in (List.mem_of_getElem? (i := 438) (by decide +kernel)) rfl, mi_X0_interestBy, mv_X0_interestBy, ki_RX0, mc_X0_interestBy⟩, md_X0_interestBy⟩
theorem kl_RX3_149 : lc_kV RX3 149 yX0_kindOf cX0_kindOf 2 (some .int) 1 := ⟨⟨lc_in (List.mem_of_getElem? (i := 442) (by decide +kernel)) rfl, mi_X0_kindOf, mv_X0_kindOf, ki_RX0, mc_X0_kindOf⟩, md_X0_kindOf⟩
theorem kl_RL_74 : lc_kV RL 74 yX3_loan cX3_loan 3 (some .int) 2 := ⟨⟨lc_in (List.mem_of_getElem? (i := 447) (by decide +kernel)) rfl, mi_X3_loan, mv_X3_loan, ki_RX3, mc_X3_loan⟩, md_X3_loan⟩
theorem kl_RX3_154 : lc_kV RX3 154 yX0_hasLoan cX0_hasLoan 2 (some .boolean) 1 := ⟨⟨lc_in (List.mem_of_getElem? (i := 451) (by decide +kernel)) rfl, mi_X0_hasLoan, mv_X0_hasLoan, ki_RX0, mc_X0_hasLoan⟩, md_X0_hasLoan⟩
theorem kl_RX3_171 : lc_kV RX3 171 yX0_interestOf cX0_interestOf 2 (some .int) 1 := ⟨⟨lc_in (List.mem_of_getElem? (i := 453) (by decide +kernel)) rfl, mi_X0_interestOf, mv_X0_interestOf, ki_RX0, mc_X0_interestOf⟩, md_X0_interestOf⟩
theorem kl_RL_77 : lc_kV RL 77 yX3_about cX3_about 2 (some .int) 1 := ⟨⟨lc_in (List.mem_of_getElem? (i := 455) (by decide +kernel)) rfl, mi_X3_about, mv_X3_about, ki_RX3, mc_X3_about⟩, md_X3_about⟩
theorem kl_RX3_93 : lc_kV RX3 93 yX0_allCharge cX0_allCharge 3 (some .int) 0 := ⟨⟨lc_in (List.mem_of_getElem? (i := 459) (by decide +kernel)) rfl, mi_X0_allCharge, mv_X0_allCharge, ki_RX0, mc_X0_allCharge⟩, md_X0_allCharge⟩
theorem kl_RX3_106 : lc_kV RX3 106 yX0_allOwed cX0_allOwed 3 (some .int) 0 := ⟨⟨lc_in (List.mem_of_getElem? (i := 463) (by decide +kernel)) rfl, mi_X0_allOwed, mv_X0_allOwed, ki_RX0, mc_X0_allOwed⟩, md_X0_allOwed⟩
theorem kl_RX3_112 : lc_kV RX3 112 yX0_bankruptCells cX0_bankruptCells 3 (some .int) 0 := ⟨⟨lc_in (List.mem_of_getElem? (i := 467) (by decide +kernel)) rfl, mi_X0_bankruptCells, mv_X0_bankruptCells, ki_RX0, mc_X0_bankruptCells⟩, md_X0_bankruptCells⟩
theorem kl_RL_130 : lc_kS RL 130 yL_isAdded cL_isAdded 6 (some .boolean) 5 := ⟨⟨lc_in (List.mem_of_getElem? (i := 472) (by decide +kernel)) rfl, ms_L_isAdded, ki_RL, mc_L_isAdded⟩, md_L_isAdded⟩
theorem kl_RL_38 : lc_kV RL 38 yX3_addCell cX3_addCell 4 (some .int) 3 := ⟨⟨lc_in (List.mem_of_getElem? (i := 478) (by decide +kernel)) rfl, mi_X3_addCell, mv_X3_addCell, ki_RX3, mc_X3_addCell⟩, md_X3_addCell⟩
theorem kl_RX3_191 : lc_kV RX3 191 yX0_putCell cX0_putCell 5 (some .int) 3 := ⟨⟨lc_in (List.mem_of_getElem? (i := 484) (by decide +kernel)) rfl, mi_X0_putCell, mv_X0_putCell, ki_RX0, mc_X0_putCell⟩, md_X0_putCell⟩
theorem kl_RL_110 : lc_kS RL 110 yL_isLent cL_isLent 12 (some .boolean) 6 := ⟨⟨lc_in (List.mem_of_getElem? (i := 488) (by decide +kernel)) rfl, ms_L_isLent, ki_RL, mc_L_isLent⟩, md_L_isLent⟩
theorem kl_RL_42 : lc_kS RL 42 yL_lost cL_lost 3 (some .int) 3 := ⟨⟨lc_in (List.mem_of_getElem? (i := 491) (by decide +kernel)) rfl, ms_L_lost, ki_RL, mc_L_lost⟩, md_L_lost⟩
theorem kl_RL_67 : lc_kS RL 67 yL_lends cL_lends 8 (some .int) 7 := ⟨⟨lc_in (List.mem_of_getElem? (i := 494) (by decide +kernel)) rfl, ms_L_lends, ki_RL, mc_L_lends⟩, md_L_lends⟩
theorem kl_RL_47 : lc_kS RL 47 yL_goes cL_goes 6 (some .int) 5 := ⟨⟨lc_in (List.mem_of_getElem? (i := 497) (by decide +kernel)) rfl, ms_L_goes, ki_RL, mc_L_goes⟩, md_L_goes⟩
theorem kl_RL_114 : lc_kS RL 114 yL_isRepaid cL_isRepaid 12 (some .boolean) 6 := ⟨⟨lc_in (List.mem_of_getElem? (i := 500) (by decide +kernel)) rfl, ms_L_isRepaid, ki_RL, mc_L_isRepaid⟩, md_L_isRepaid⟩
theorem kl_RL_21 : lc_kV RL 21 yX3_repay cX3_repay 3 (some .int) 2 := ⟨⟨lc_in (List.mem_of_getElem? (i := 506) (by decide +kernel)) rfl, mi_X3_repay, mv_X3_repay, ki_RX3, mc_X3_repay⟩, md_X3_repay⟩
theorem kl_RX3_211 : lc_kV RX3 211 yX0_canPayBack cX0_canPayBack 3 (some .boolean) 2 := ⟨⟨lc_in (List.mem_of_getElem? (i := 510) (by decide +kernel)) rfl, mi_X0_canPayBack, mv_X0_canPayBack, ki_RX0, mc_X0_canPayBack⟩, md_X0_canPayBack⟩
theorem kl_RX3_217 : lc_kV RX3 217 yX0_payBack cX0_payBack 4 (some .int) 2 := ⟨⟨lc_in (List.mem_of_getElem? (i := 515) (by decide +kernel)) rfl, mi_X0_payBack, mv_X0_payBack, ki_RX0, mc_X0_payBack⟩, md_X0_payBack⟩
theorem kl_RX0_110 : lc_kV RX0 110 yX0_canPayBack cX0_canPayBack 3 (some .boolean) 2 := ⟨⟨lc_in (List.mem_of_getElem? (i := 519) (by decide +kernel)) rfl, mi_X0_canPayBack, mv_X0_canPayBack, ki_RX0, mc_X0_canPayBack⟩, md_X0_canPayBack⟩
theorem kl_RL_55 : lc_kS RL 55 yL_clears cL_clears 5 none 2 := ⟨⟨lc_in (List.mem_of_getElem? (i := 520) (by decide +kernel)) rfl, ms_L_clears, ki_RL, mc_L_clears⟩, md_L_clears⟩
theorem kl_RL_117 : lc_kS RL 117 yL_isCharged cL_isCharged 9 (some .boolean) 5 := ⟨⟨lc_in (List.mem_of_getElem? (i := 523) (by decide +kernel)) rfl, ms_L_isCharged, ki_RL, mc_L_isCharged⟩, md_L_isCharged⟩
theorem kl_RL_28 : lc_kV RL 28 yX3_charge cX3_charge 2 (some .int) 1 := ⟨⟨lc_in (List.mem_of_getElem? (i := 529) (by decide +kernel)) rfl, mi_X3_charge, mv_X3_charge, ki_RX3, mc_X3_charge⟩, md_X3_charge⟩
theorem kl_RX3_223 : lc_kV RX3 223 yX0_fillEach cX0_fillEach 5 (some .int) 1 := ⟨⟨lc_in (List.mem_of_getElem? (i := 533) (by decide +kernel)) rfl, mi_X0_fillEach, mv_X0_fillEach, ki_RX0, mc_X0_fillEach⟩, md_X0_fillEach⟩
theorem kl_RL_121 : lc_kS RL 121 yL_isDrawn cL_isDrawn 12 (some .boolean) 9 := ⟨⟨lc_in (List.mem_of_getElem? (i := 537) (by decide +kernel)) rfl, ms_L_isDrawn, ki_RL, mc_L_isDrawn⟩, md_L_isDrawn⟩
theorem kl_RL_95 : lc_kS RL 95 yL_borrow cL_borrow 8 (some .boolean) 4 := ⟨⟨lc_in (List.mem_of_getElem? (i := 540) (by decide +kernel)) rfl, ms_L_borrow, ki_RL, mc_L_borrow⟩, md_L_borrow⟩
theorem kl_RL_125 : lc_kS RL 125 yL_isPassed cL_isPassed 8 (some .boolean) 6 := ⟨⟨lc_in (List.mem_of_getElem? (i := 543) (by decide +kernel)) rfl, ms_L_isPassed, ki_RL, mc_L_isPassed⟩, md_L_isPassed⟩
theorem kl_RL_101 : lc_kS RL 101 yL_round cL_round 7 (some .int) 3 := ⟨⟨lc_in (List.mem_of_getElem? (i := 546) (by decide +kernel)) rfl, ms_L_round, ki_RL, mc_L_round⟩, md_L_round⟩
theorem kl_RL_63 : lc_kS RL 63 yL_breaks cL_breaks 11 none 4 := ⟨⟨lc_in (List.mem_of_getElem? (i := 549) (by decide +kernel)) rfl, ms_L_breaks, ki_RL, mc_L_breaks⟩, md_L_breaks⟩
