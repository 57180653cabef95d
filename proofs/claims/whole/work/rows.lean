section
-- ===== PART A: goes FIRST, ahead of the names: the tables' words, and 'selects' of the private methods out of them =====
/-- a private method of a class that the tables say can be made, by its rows of tables_1 -/
def lw_okq (q : MethodName × Nat) : Prop := (q.1.cls ≠ "java/lang/invoke/MethodHandle" ∧ q.1.cls ≠ "java/lang/invoke/VarHandle") ∧ Cond.instantiable q.1.cls q.2 ∈ tables_1 ∧ Cond.privateMethod q.1 ∈ tables_1 ∧ Cond.instanceMethod q.1 ∈ tables_1
theorem lw_p0 : lw_okq (⟨"LendingCells$Text", "isAt", "(C)Z"⟩, 3) := ⟨⟨by decide +kernel, by decide +kernel⟩, List.mem_of_getElem? (i := 24) (by decide +kernel), List.mem_of_getElem? (i := 187) (by decide +kernel), List.mem_of_getElem? (i := 188) (by decide +kernel)⟩
theorem lw_p1 : lw_okq (⟨"LendingCells$Text", "readPart", "(LLendingCells$Battery;)Z"⟩, 3) := ⟨⟨by decide +kernel, by decide +kernel⟩, List.mem_of_getElem? (i := 24) (by decide +kernel), List.mem_of_getElem? (i := 191) (by decide +kernel), List.mem_of_getElem? (i := 192) (by decide +kernel)⟩
theorem lw_p2 : lw_okq (⟨"LendingCells$Text", "readCell", "(LLendingCells$Battery;)Z"⟩, 3) := ⟨⟨by decide +kernel, by decide +kernel⟩, List.mem_of_getElem? (i := 24) (by decide +kernel), List.mem_of_getElem? (i := 195) (by decide +kernel), List.mem_of_getElem? (i := 196) (by decide +kernel)⟩
theorem lw_p3 : lw_okq (⟨"LendingCells$Text", "readNumber", "(II)I"⟩, 3) := ⟨⟨by decide +kernel, by decide +kernel⟩, List.mem_of_getElem? (i := 24) (by decide +kernel), List.mem_of_getElem? (i := 199) (by decide +kernel), List.mem_of_getElem? (i := 200) (by decide +kernel)⟩
theorem lw_p4 : lw_okq (⟨"LendingCells$Text", "readDigit", "(II)I"⟩, 3) := ⟨⟨by decide +kernel, by decide +kernel⟩, List.mem_of_getElem? (i := 24) (by decide +kernel), List.mem_of_getElem? (i := 203) (by decide +kernel), List.mem_of_getElem? (i := 204) (by decide +kernel)⟩
theorem lw_p5 : lw_okq (⟨"LendingCells$Text", "digitHere", "()I"⟩, 3) := ⟨⟨by decide +kernel, by decide +kernel⟩, List.mem_of_getElem? (i := 24) (by decide +kernel), List.mem_of_getElem? (i := 207) (by decide +kernel), List.mem_of_getElem? (i := 208) (by decide +kernel)⟩
theorem lw_p6 : lw_okq (⟨"LendingCells$Text", "readLoan", "(LLendingCells$Battery;)Z"⟩, 3) := ⟨⟨by decide +kernel, by decide +kernel⟩, List.mem_of_getElem? (i := 24) (by decide +kernel), List.mem_of_getElem? (i := 218) (by decide +kernel), List.mem_of_getElem? (i := 219) (by decide +kernel)⟩
theorem lw_p7 : lw_okq (⟨"java/lang/Throwable", "fillInStackTrace", "(I)Ljava/lang/Throwable;"⟩, 6) := ⟨⟨by decide +kernel, by decide +kernel⟩, List.mem_of_getElem? (i := 332) (by decide +kernel), List.mem_of_getElem? (i := 330) (by decide +kernel), List.mem_of_getElem? (i := 331) (by decide +kernel)⟩
theorem lw_p8 : lw_okq (⟨"LendingCells", "giveIfPossible", "(I)V"⟩, 7) := ⟨⟨by decide +kernel, by decide +kernel⟩, List.mem_of_getElem? (i := 16) (by decide +kernel), List.mem_of_getElem? (i := 692) (by decide +kernel), List.mem_of_getElem? (i := 693) (by decide +kernel)⟩
theorem lw_p9 : lw_okq (⟨"LendingCellsModel", "layPut", "()V"⟩, 15) := ⟨⟨by decide +kernel, by decide +kernel⟩, List.mem_of_getElem? (i := 713) (by decide +kernel), List.mem_of_getElem? (i := 784) (by decide +kernel), List.mem_of_getElem? (i := 785) (by decide +kernel)⟩
theorem lw_p10 : lw_okq (⟨"LendingCellsModel", "isBattery", "()Z"⟩, 15) := ⟨⟨by decide +kernel, by decide +kernel⟩, List.mem_of_getElem? (i := 713) (by decide +kernel), List.mem_of_getElem? (i := 788) (by decide +kernel), List.mem_of_getElem? (i := 789) (by decide +kernel)⟩
theorem lw_p11 : lw_okq (⟨"LendingCellsModel", "look", "()I"⟩, 15) := ⟨⟨by decide +kernel, by decide +kernel⟩, List.mem_of_getElem? (i := 713) (by decide +kernel), List.mem_of_getElem? (i := 792) (by decide +kernel), List.mem_of_getElem? (i := 793) (by decide +kernel)⟩
theorem lw_p12 : lw_okq (⟨"LendingCellsModel", "must", "(Z)V"⟩, 15) := ⟨⟨by decide +kernel, by decide +kernel⟩, List.mem_of_getElem? (i := 713) (by decide +kernel), List.mem_of_getElem? (i := 796) (by decide +kernel), List.mem_of_getElem? (i := 797) (by decide +kernel)⟩
theorem lw_p13 : lw_okq (⟨"LendingCellsModel", "readCell", "()V"⟩, 15) := ⟨⟨by decide +kernel, by decide +kernel⟩, List.mem_of_getElem? (i := 713) (by decide +kernel), List.mem_of_getElem? (i := 800) (by decide +kernel), List.mem_of_getElem? (i := 801) (by decide +kernel)⟩
theorem lw_p14 : lw_okq (⟨"LendingCellsModel", "number", "(III)I"⟩, 15) := ⟨⟨by decide +kernel, by decide +kernel⟩, List.mem_of_getElem? (i := 713) (by decide +kernel), List.mem_of_getElem? (i := 804) (by decide +kernel), List.mem_of_getElem? (i := 805) (by decide +kernel)⟩
theorem lw_p15 : lw_okq (⟨"LendingCellsModel", "newCell", "(III)I"⟩, 15) := ⟨⟨by decide +kernel, by decide +kernel⟩, List.mem_of_getElem? (i := 713) (by decide +kernel), List.mem_of_getElem? (i := 808) (by decide +kernel), List.mem_of_getElem? (i := 809) (by decide +kernel)⟩
def lw_privs_1 : List (MethodName × Nat) := [(⟨"LendingCells$Text", "isAt", "(C)Z"⟩, 3), (⟨"LendingCells$Text", "readPart", "(LLendingCells$Battery;)Z"⟩, 3), (⟨"LendingCells$Text", "readCell", "(LLendingCells$Battery;)Z"⟩, 3), (⟨"LendingCells$Text", "readNumber", "(II)I"⟩, 3), (⟨"LendingCells$Text", "readDigit", "(II)I"⟩, 3), (⟨"LendingCells$Text", "digitHere", "()I"⟩, 3), (⟨"LendingCells$Text", "readLoan", "(LLendingCells$Battery;)Z"⟩, 3), (⟨"java/lang/Throwable", "fillInStackTrace", "(I)Ljava/lang/Throwable;"⟩, 6), (⟨"LendingCells", "giveIfPossible", "(I)V"⟩, 7), (⟨"LendingCellsModel", "layPut", "()V"⟩, 15), (⟨"LendingCellsModel", "isBattery", "()Z"⟩, 15), (⟨"LendingCellsModel", "look", "()I"⟩, 15), (⟨"LendingCellsModel", "must", "(Z)V"⟩, 15), (⟨"LendingCellsModel", "readCell", "()V"⟩, 15), (⟨"LendingCellsModel", "number", "(III)I"⟩, 15), (⟨"LendingCellsModel", "newCell", "(III)I"⟩, 15)]
theorem lw_r1 : ∀ q ∈ lw_privs_1, lw_okq q := List.forall_mem_cons.mpr ⟨lw_p0, List.forall_mem_cons.mpr ⟨lw_p1, List.forall_mem_cons.mpr ⟨lw_p2, List.forall_mem_cons.mpr ⟨lw_p3, List.forall_mem_cons.mpr ⟨lw_p4, List.forall_mem_cons.mpr ⟨lw_p5, List.forall_mem_cons.mpr ⟨lw_p6, List.forall_mem_cons.mpr ⟨lw_p7, List.forall_mem_cons.mpr ⟨lw_p8, List.forall_mem_cons.mpr ⟨lw_p9, List.forall_mem_cons.mpr ⟨lw_p10, List.forall_mem_cons.mpr ⟨lw_p11, List.forall_mem_cons.mpr ⟨lw_p12, List.forall_mem_cons.mpr ⟨lw_p13, List.forall_mem_cons.mpr ⟨lw_p14, List.forall_mem_cons.mpr ⟨lw_p15, fun _ h => absurd h List.not_mem_nil⟩⟩⟩⟩⟩⟩⟩⟩⟩⟩⟩⟩⟩⟩⟩⟩
theorem lw_p16 : lw_okq (⟨"LendingCellsModel", "readLoan", "()V"⟩, 15) := ⟨⟨by decide +kernel, by decide +kernel⟩, List.mem_of_getElem? (i := 713) (by decide +kernel), List.mem_of_getElem? (i := 812) (by decide +kernel), List.mem_of_getElem? (i := 813) (by decide +kernel)⟩
theorem lw_p17 : lw_okq (⟨"LendingCellsModel", "cellHere", "(I)I"⟩, 15) := ⟨⟨by decide +kernel, by decide +kernel⟩, List.mem_of_getElem? (i := 713) (by decide +kernel), List.mem_of_getElem? (i := 816) (by decide +kernel), List.mem_of_getElem? (i := 817) (by decide +kernel)⟩
theorem lw_p18 : lw_okq (⟨"LendingCellsModel", "isCell", "(I)Z"⟩, 15) := ⟨⟨by decide +kernel, by decide +kernel⟩, List.mem_of_getElem? (i := 713) (by decide +kernel), List.mem_of_getElem? (i := 820) (by decide +kernel), List.mem_of_getElem? (i := 821) (by decide +kernel)⟩
theorem lw_p19 : lw_okq (⟨"LendingCellsModel", "of", "(II)I"⟩, 15) := ⟨⟨by decide +kernel, by decide +kernel⟩, List.mem_of_getElem? (i := 713) (by decide +kernel), List.mem_of_getElem? (i := 824) (by decide +kernel), List.mem_of_getElem? (i := 825) (by decide +kernel)⟩
theorem lw_p20 : lw_okq (⟨"LendingCellsModel", "isTooMuch", "(III)Z"⟩, 15) := ⟨⟨by decide +kernel, by decide +kernel⟩, List.mem_of_getElem? (i := 713) (by decide +kernel), List.mem_of_getElem? (i := 828) (by decide +kernel), List.mem_of_getElem? (i := 829) (by decide +kernel)⟩
theorem lw_p21 : lw_okq (⟨"LendingCellsModel", "makeLoan", "(IIII)I"⟩, 15) := ⟨⟨by decide +kernel, by decide +kernel⟩, List.mem_of_getElem? (i := 713) (by decide +kernel), List.mem_of_getElem? (i := 835) (by decide +kernel), List.mem_of_getElem? (i := 836) (by decide +kernel)⟩
theorem lw_p22 : lw_okq (⟨"LendingCellsModel", "shuttle", "(III)I"⟩, 15) := ⟨⟨by decide +kernel, by decide +kernel⟩, List.mem_of_getElem? (i := 713) (by decide +kernel), List.mem_of_getElem? (i := 839) (by decide +kernel), List.mem_of_getElem? (i := 840) (by decide +kernel)⟩
theorem lw_p23 : lw_okq (⟨"LendingCellsModel", "more", "(III)V"⟩, 15) := ⟨⟨by decide +kernel, by decide +kernel⟩, List.mem_of_getElem? (i := 713) (by decide +kernel), List.mem_of_getElem? (i := 843) (by decide +kernel), List.mem_of_getElem? (i := 844) (by decide +kernel)⟩
theorem lw_p24 : lw_okq (⟨"LendingCellsModel", "putBack", "()V"⟩, 15) := ⟨⟨by decide +kernel, by decide +kernel⟩, List.mem_of_getElem? (i := 713) (by decide +kernel), List.mem_of_getElem? (i := 847) (by decide +kernel), List.mem_of_getElem? (i := 848) (by decide +kernel)⟩
theorem lw_p25 : lw_okq (⟨"LendingCellsModel", "allCharge", "()I"⟩, 15) := ⟨⟨by decide +kernel, by decide +kernel⟩, List.mem_of_getElem? (i := 713) (by decide +kernel), List.mem_of_getElem? (i := 859) (by decide +kernel), List.mem_of_getElem? (i := 860) (by decide +kernel)⟩
theorem lw_p26 : lw_okq (⟨"LendingCellsModel", "allOwed", "()I"⟩, 15) := ⟨⟨by decide +kernel, by decide +kernel⟩, List.mem_of_getElem? (i := 713) (by decide +kernel), List.mem_of_getElem? (i := 863) (by decide +kernel), List.mem_of_getElem? (i := 864) (by decide +kernel)⟩
theorem lw_p27 : lw_okq (⟨"LendingCellsModel", "ofLoan", "(II)I"⟩, 15) := ⟨⟨by decide +kernel, by decide +kernel⟩, List.mem_of_getElem? (i := 713) (by decide +kernel), List.mem_of_getElem? (i := 867) (by decide +kernel), List.mem_of_getElem? (i := 868) (by decide +kernel)⟩
theorem lw_p28 : lw_okq (⟨"LendingCellsModel", "bankrupts", "()I"⟩, 15) := ⟨⟨by decide +kernel, by decide +kernel⟩, List.mem_of_getElem? (i := 713) (by decide +kernel), List.mem_of_getElem? (i := 871) (by decide +kernel), List.mem_of_getElem? (i := 872) (by decide +kernel)⟩
theorem lw_p29 : lw_okq (⟨"LendingCellsModel", "isSound", "(I)Z"⟩, 15) := ⟨⟨by decide +kernel, by decide +kernel⟩, List.mem_of_getElem? (i := 713) (by decide +kernel), List.mem_of_getElem? (i := 875) (by decide +kernel), List.mem_of_getElem? (i := 876) (by decide +kernel)⟩
theorem lw_p30 : lw_okq (⟨"LendingCellsModel", "owedBy", "(II)I"⟩, 15) := ⟨⟨by decide +kernel, by decide +kernel⟩, List.mem_of_getElem? (i := 713) (by decide +kernel), List.mem_of_getElem? (i := 883) (by decide +kernel), List.mem_of_getElem? (i := 884) (by decide +kernel)⟩
theorem lw_p31 : lw_okq (⟨"LendingCellsModel", "interestOf", "(I)I"⟩, 15) := ⟨⟨by decide +kernel, by decide +kernel⟩, List.mem_of_getElem? (i := 713) (by decide +kernel), List.mem_of_getElem? (i := 887) (by decide +kernel), List.mem_of_getElem? (i := 888) (by decide +kernel)⟩
def lw_privs_2 : List (MethodName × Nat) := [(⟨"LendingCellsModel", "readLoan", "()V"⟩, 15), (⟨"LendingCellsModel", "cellHere", "(I)I"⟩, 15), (⟨"LendingCellsModel", "isCell", "(I)Z"⟩, 15), (⟨"LendingCellsModel", "of", "(II)I"⟩, 15), (⟨"LendingCellsModel", "isTooMuch", "(III)Z"⟩, 15), (⟨"LendingCellsModel", "makeLoan", "(IIII)I"⟩, 15), (⟨"LendingCellsModel", "shuttle", "(III)I"⟩, 15), (⟨"LendingCellsModel", "more", "(III)V"⟩, 15), (⟨"LendingCellsModel", "putBack", "()V"⟩, 15), (⟨"LendingCellsModel", "allCharge", "()I"⟩, 15), (⟨"LendingCellsModel", "allOwed", "()I"⟩, 15), (⟨"LendingCellsModel", "ofLoan", "(II)I"⟩, 15), (⟨"LendingCellsModel", "bankrupts", "()I"⟩, 15), (⟨"LendingCellsModel", "isSound", "(I)Z"⟩, 15), (⟨"LendingCellsModel", "owedBy", "(II)I"⟩, 15), (⟨"LendingCellsModel", "interestOf", "(I)I"⟩, 15)]
theorem lw_r2 : ∀ q ∈ lw_privs_2, lw_okq q := List.forall_mem_cons.mpr ⟨lw_p16, List.forall_mem_cons.mpr ⟨lw_p17, List.forall_mem_cons.mpr ⟨lw_p18, List.forall_mem_cons.mpr ⟨lw_p19, List.forall_mem_cons.mpr ⟨lw_p20, List.forall_mem_cons.mpr ⟨lw_p21, List.forall_mem_cons.mpr ⟨lw_p22, List.forall_mem_cons.mpr ⟨lw_p23, List.forall_mem_cons.mpr ⟨lw_p24, List.forall_mem_cons.mpr ⟨lw_p25, List.forall_mem_cons.mpr ⟨lw_p26, List.forall_mem_cons.mpr ⟨lw_p27, List.forall_mem_cons.mpr ⟨lw_p28, List.forall_mem_cons.mpr ⟨lw_p29, List.forall_mem_cons.mpr ⟨lw_p30, List.forall_mem_cons.mpr ⟨lw_p31, fun _ h => absurd h List.not_mem_nil⟩⟩⟩⟩⟩⟩⟩⟩⟩⟩⟩⟩⟩⟩⟩⟩
theorem lw_p32 : lw_okq (⟨"LendingCellsModel", "interest", "(I)I"⟩, 15) := ⟨⟨by decide +kernel, by decide +kernel⟩, List.mem_of_getElem? (i := 713) (by decide +kernel), List.mem_of_getElem? (i := 891) (by decide +kernel), List.mem_of_getElem? (i := 892) (by decide +kernel)⟩
theorem lw_p33 : lw_okq (⟨"LendingCellsModel", "kindOf", "(I)I"⟩, 15) := ⟨⟨by decide +kernel, by decide +kernel⟩, List.mem_of_getElem? (i := 713) (by decide +kernel), List.mem_of_getElem? (i := 895) (by decide +kernel), List.mem_of_getElem? (i := 896) (by decide +kernel)⟩
theorem lw_p34 : lw_okq (⟨"LendingCellsModel", "isLoan", "(I)Z"⟩, 15) := ⟨⟨by decide +kernel, by decide +kernel⟩, List.mem_of_getElem? (i := 713) (by decide +kernel), List.mem_of_getElem? (i := 903) (by decide +kernel), List.mem_of_getElem? (i := 904) (by decide +kernel)⟩
theorem lw_p35 : lw_okq (⟨"LendingCellsModel", "remember", "()V"⟩, 15) := ⟨⟨by decide +kernel, by decide +kernel⟩, List.mem_of_getElem? (i := 713) (by decide +kernel), List.mem_of_getElem? (i := 915) (by decide +kernel), List.mem_of_getElem? (i := 916) (by decide +kernel)⟩
theorem lw_p36 : lw_okq (⟨"LendingCellsModel", "whyNoLend", "(IIII)I"⟩, 15) := ⟨⟨by decide +kernel, by decide +kernel⟩, List.mem_of_getElem? (i := 713) (by decide +kernel), List.mem_of_getElem? (i := 923) (by decide +kernel), List.mem_of_getElem? (i := 924) (by decide +kernel)⟩
theorem lw_p37 : lw_okq (⟨"LendingCellsModel", "whyNoRepay", "(II)I"⟩, 15) := ⟨⟨by decide +kernel, by decide +kernel⟩, List.mem_of_getElem? (i := 713) (by decide +kernel), List.mem_of_getElem? (i := 931) (by decide +kernel), List.mem_of_getElem? (i := 932) (by decide +kernel)⟩
theorem lw_p38 : lw_okq (⟨"LendingCellsModel", "repays", "(II)I"⟩, 15) := ⟨⟨by decide +kernel, by decide +kernel⟩, List.mem_of_getElem? (i := 713) (by decide +kernel), List.mem_of_getElem? (i := 935) (by decide +kernel), List.mem_of_getElem? (i := 936) (by decide +kernel)⟩
theorem lw_p39 : lw_okq (⟨"LendingCellsModel", "removeLoan", "(I)V"⟩, 15) := ⟨⟨by decide +kernel, by decide +kernel⟩, List.mem_of_getElem? (i := 713) (by decide +kernel), List.mem_of_getElem? (i := 939) (by decide +kernel), List.mem_of_getElem? (i := 940) (by decide +kernel)⟩
theorem lw_p40 : lw_okq (⟨"LendingCellsModel", "charges", "(I)I"⟩, 15) := ⟨⟨by decide +kernel, by decide +kernel⟩, List.mem_of_getElem? (i := 713) (by decide +kernel), List.mem_of_getElem? (i := 951) (by decide +kernel), List.mem_of_getElem? (i := 952) (by decide +kernel)⟩
theorem lw_p41 : lw_okq (⟨"LendingCellsModel", "drawn", "(I)I"⟩, 15) := ⟨⟨by decide +kernel, by decide +kernel⟩, List.mem_of_getElem? (i := 713) (by decide +kernel), List.mem_of_getElem? (i := 959) (by decide +kernel), List.mem_of_getElem? (i := 960) (by decide +kernel)⟩
theorem lw_p42 : lw_okq (⟨"LendingCellsModel", "draws0", "(I)I"⟩, 15) := ⟨⟨by decide +kernel, by decide +kernel⟩, List.mem_of_getElem? (i := 713) (by decide +kernel), List.mem_of_getElem? (i := 963) (by decide +kernel), List.mem_of_getElem? (i := 964) (by decide +kernel)⟩
theorem lw_p43 : lw_okq (⟨"LendingCellsModel", "borrows", "(II)Z"⟩, 15) := ⟨⟨by decide +kernel, by decide +kernel⟩, List.mem_of_getElem? (i := 713) (by decide +kernel), List.mem_of_getElem? (i := 967) (by decide +kernel), List.mem_of_getElem? (i := 968) (by decide +kernel)⟩
theorem lw_p44 : lw_okq (⟨"LendingCellsModel", "richest", "(I)I"⟩, 15) := ⟨⟨by decide +kernel, by decide +kernel⟩, List.mem_of_getElem? (i := 713) (by decide +kernel), List.mem_of_getElem? (i := 971) (by decide +kernel), List.mem_of_getElem? (i := 972) (by decide +kernel)⟩
theorem lw_p45 : lw_okq (⟨"LendingCellsModel", "rounds", "(I)I"⟩, 15) := ⟨⟨by decide +kernel, by decide +kernel⟩, List.mem_of_getElem? (i := 713) (by decide +kernel), List.mem_of_getElem? (i := 982) (by decide +kernel), List.mem_of_getElem? (i := 983) (by decide +kernel)⟩
theorem lw_p46 : lw_okq (⟨"LendingCellsModel", "round", "()I"⟩, 15) := ⟨⟨by decide +kernel, by decide +kernel⟩, List.mem_of_getElem? (i := 713) (by decide +kernel), List.mem_of_getElem? (i := 986) (by decide +kernel), List.mem_of_getElem? (i := 987) (by decide +kernel)⟩
theorem lw_p47 : lw_okq (⟨"LendingCellsModel", "burnInterest", "()V"⟩, 15) := ⟨⟨by decide +kernel, by decide +kernel⟩, List.mem_of_getElem? (i := 713) (by decide +kernel), List.mem_of_getElem? (i := 990) (by decide +kernel), List.mem_of_getElem? (i := 991) (by decide +kernel)⟩
def lw_privs_3 : List (MethodName × Nat) := [(⟨"LendingCellsModel", "interest", "(I)I"⟩, 15), (⟨"LendingCellsModel", "kindOf", "(I)I"⟩, 15), (⟨"LendingCellsModel", "isLoan", "(I)Z"⟩, 15), (⟨"LendingCellsModel", "remember", "()V"⟩, 15), (⟨"LendingCellsModel", "whyNoLend", "(IIII)I"⟩, 15), (⟨"LendingCellsModel", "whyNoRepay", "(II)I"⟩, 15), (⟨"LendingCellsModel", "repays", "(II)I"⟩, 15), (⟨"LendingCellsModel", "removeLoan", "(I)V"⟩, 15), (⟨"LendingCellsModel", "charges", "(I)I"⟩, 15), (⟨"LendingCellsModel", "drawn", "(I)I"⟩, 15), (⟨"LendingCellsModel", "draws0", "(I)I"⟩, 15), (⟨"LendingCellsModel", "borrows", "(II)Z"⟩, 15), (⟨"LendingCellsModel", "richest", "(I)I"⟩, 15), (⟨"LendingCellsModel", "rounds", "(I)I"⟩, 15), (⟨"LendingCellsModel", "round", "()I"⟩, 15), (⟨"LendingCellsModel", "burnInterest", "()V"⟩, 15)]
theorem lw_r3 : ∀ q ∈ lw_privs_3, lw_okq q := List.forall_mem_cons.mpr ⟨lw_p32, List.forall_mem_cons.mpr ⟨lw_p33, List.forall_mem_cons.mpr ⟨lw_p34, List.forall_mem_cons.mpr ⟨lw_p35, List.forall_mem_cons.mpr ⟨lw_p36, List.forall_mem_cons.mpr ⟨lw_p37, List.forall_mem_cons.mpr ⟨lw_p38, List.forall_mem_cons.mpr ⟨lw_p39, List.forall_mem_cons.mpr ⟨lw_p40, List.forall_mem_cons.mpr ⟨lw_p41, List.forall_mem_cons.mpr ⟨lw_p42, List.forall_mem_cons.mpr ⟨lw_p43, List.forall_mem_cons.mpr ⟨lw_p44, List.forall_mem_cons.mpr ⟨lw_p45, List.forall_mem_cons.mpr ⟨lw_p46, List.forall_mem_cons.mpr ⟨lw_p47, fun _ h => absurd h List.not_mem_nil⟩⟩⟩⟩⟩⟩⟩⟩⟩⟩⟩⟩⟩⟩⟩⟩
theorem lw_p48 : lw_okq (⟨"LendingCellsModel", "breaks", "(I)V"⟩, 15) := ⟨⟨by decide +kernel, by decide +kernel⟩, List.mem_of_getElem? (i := 713) (by decide +kernel), List.mem_of_getElem? (i := 994) (by decide +kernel), List.mem_of_getElem? (i := 995) (by decide +kernel)⟩
theorem lw_p49 : lw_okq (⟨"LendingCellsModel", "succeeds", "(I)Z"⟩, 15) := ⟨⟨by decide +kernel, by decide +kernel⟩, List.mem_of_getElem? (i := 713) (by decide +kernel), List.mem_of_getElem? (i := 1029) (by decide +kernel), List.mem_of_getElem? (i := 1030) (by decide +kernel)⟩
theorem lw_p50 : lw_okq (⟨"LendingCellsModel", "isLent", "(III)Z"⟩, 15) := ⟨⟨by decide +kernel, by decide +kernel⟩, List.mem_of_getElem? (i := 713) (by decide +kernel), List.mem_of_getElem? (i := 1033) (by decide +kernel), List.mem_of_getElem? (i := 1034) (by decide +kernel)⟩
theorem lw_p51 : lw_okq (⟨"LendingCellsModel", "isRepaid", "(II)Z"⟩, 15) := ⟨⟨by decide +kernel, by decide +kernel⟩, List.mem_of_getElem? (i := 713) (by decide +kernel), List.mem_of_getElem? (i := 1037) (by decide +kernel), List.mem_of_getElem? (i := 1038) (by decide +kernel)⟩
theorem lw_p52 : lw_okq (⟨"LendingCellsModel", "isCharged", "(I)Z"⟩, 15) := ⟨⟨by decide +kernel, by decide +kernel⟩, List.mem_of_getElem? (i := 713) (by decide +kernel), List.mem_of_getElem? (i := 1041) (by decide +kernel), List.mem_of_getElem? (i := 1042) (by decide +kernel)⟩
theorem lw_p53 : lw_okq (⟨"LendingCellsModel", "isPassed", "(I)Z"⟩, 15) := ⟨⟨by decide +kernel, by decide +kernel⟩, List.mem_of_getElem? (i := 713) (by decide +kernel), List.mem_of_getElem? (i := 1045) (by decide +kernel), List.mem_of_getElem? (i := 1046) (by decide +kernel)⟩
def lw_privs_4 : List (MethodName × Nat) := [(⟨"LendingCellsModel", "breaks", "(I)V"⟩, 15), (⟨"LendingCellsModel", "succeeds", "(I)Z"⟩, 15), (⟨"LendingCellsModel", "isLent", "(III)Z"⟩, 15), (⟨"LendingCellsModel", "isRepaid", "(II)Z"⟩, 15), (⟨"LendingCellsModel", "isCharged", "(I)Z"⟩, 15), (⟨"LendingCellsModel", "isPassed", "(I)Z"⟩, 15)]
theorem lw_r4 : ∀ q ∈ lw_privs_4, lw_okq q := List.forall_mem_cons.mpr ⟨lw_p48, List.forall_mem_cons.mpr ⟨lw_p49, List.forall_mem_cons.mpr ⟨lw_p50, List.forall_mem_cons.mpr ⟨lw_p51, List.forall_mem_cons.mpr ⟨lw_p52, List.forall_mem_cons.mpr ⟨lw_p53, fun _ h => absurd h List.not_mem_nil⟩⟩⟩⟩⟩⟩
def lw_privs : List (MethodName × Nat) := lw_privs_1 ++ (lw_privs_2 ++ (lw_privs_3 ++ (lw_privs_4)))
def lw_tbl : List Cond := k2_sels lw_privs ++ tables_1
theorem lw_privs_ok : ∀ q ∈ lw_privs, lw_okq q := by
  show ∀ q ∈ lw_privs_1 ++ (lw_privs_2 ++ (lw_privs_3 ++ (lw_privs_4))), lw_okq q
  exact List.forall_mem_append.mpr ⟨lw_r1, List.forall_mem_append.mpr ⟨lw_r2, List.forall_mem_append.mpr ⟨lw_r3, lw_r4⟩⟩⟩
/-! ===== BEGIN words of one list among another's, by their places ===== -/
theorem goodIn_r {big : List Cond} (ws : List Cond) (ps : List Nat) (hp : ws = ps.filterMap (fun i => big[i]?)) (h : ws.all goodWord = true) : GoodIn big ws := by
  intro w hw
  have h1 := List.all_eq_true.mp h w hw
  rw [hp] at hw
  obtain ⟨i, -, hi⟩ := List.mem_filterMap.mp hw
  have hm : w ∈ big := by first | exact List.mem_of_getElem? hi | exact List.getElem?_mem hi
  exact ⟨hm, good_of_word h1⟩
theorem goodIn_app {big a b : List Cond} (ha : GoodIn big a) (hb : GoodIn big b) : GoodIn big (a ++ b) := fun w h => (List.mem_append.mp h).elim (ha w) (hb w)
theorem goodIn_ca {big a b : List Cond} {c : Cond} (ha : GoodIn big (c :: a)) (hb : GoodIn big b) : GoodIn big (c :: (a ++ b)) := fun w h => (List.mem_cons.mp h).elim (fun e => ha w (List.mem_cons.mpr (Or.inl e))) (fun h => (List.mem_append.mp h).elim (fun h => ha w (List.mem_cons.mpr (Or.inr h))) (hb w))
theorem goodIn_sub {big ws : List Cond} (hm : ∀ w ∈ ws, w ∈ big) (h : ws.all goodWord = true) : GoodIn big ws := fun w hw => ⟨hm w hw, good_of_word (List.all_eq_true.mp h w hw)⟩
/-! ===== END ===== -/

/-! ===== BEGIN exceptions that leave a method, and their catching by the caller (launches without stack traces) ===== -/
section VXA
/-! The laws vx_back, vx_callV, vx_callS, vx_callSW, vx_throw0, vx_throwS follow proofs of the library, with one case more: JvmDerived/Free/Laws.lean (Back.of_free), Shelf42/LK1.lean (callV, callS), Shelf/KitTraced.lean (throwNew0V, throwNewS). -/
/-- where a method has thrown q: the class by its name, the cell, what was written, the world -/
def vx_T (XC : String → State → State → Prop) (st : State) (q : Addr) (t : State) (mc ms : Nat) (free : Addr → Prop) : Prop :=
  ∃ (E : String) (ce : Cell) (L : List Loc), XC E st t ∧ t.heap[q]? = some ce ∧ ce.vm = .none ∧ st.vm.findClass E = some ce.cls ∧ st.WarmedH t.vm ∧ st.sameButNew ({ t with vm := st.vm } : State) L mc ms ∧ ∀ z ∈ L, free z.base
def vx_Q (Qc : Array Value → State → Outcome → State → Prop) (XC : String → State → State → Prop) (mc ms : Nat) (free : Addr → Prop) : Array Value → State → Outcome → State → Prop := fun a st o t =>
  (Qc a st o t ∧ ∃ L, FrameEnd st o t L mc ms ∧ ∀ q ∈ L, free q.base) ∨ ∃ q, o = .threw q ∧ vx_T XC st q t mc ms free
/-- a callee that returns or throws -/
def vx_Met (l : Launch) (y : MethodName) (ws : List Cond) (rm : Room) (Pc : Array Value → State → Prop) (Qc : Array Value → State → Outcome → State → Prop) (XC : String → State → State → Prop) (mc ms : Nat) (free : Addr → Prop) : Prop :=
  MetFree l y (headSpec ws rm) Pc (fun _ _ _ _ _ => True) (vx_Q Qc XC mc ms free)
def vx_Post (XC : String → State → State → Prop) (mc ms : Nat) (free : Addr → Prop) : Pt → Array Value → Addr → Pt → Prop := fun A a q B =>
  ∃ (g : JFrame) (mk : MethodId) (t : State) (L : List Loc) (E : String) (ce : Cell), B.U.heap = t.heap ∧ B.U.vm = t.vm ∧ XC E (A.U.calling g mk a) t ∧ t.heap[q]? = some ce ∧ ce.vm = .none ∧ A.U.vm.findClass E = some ce.cls ∧ B.locs = A.locs ++ L ∧ (∀ z ∈ L, free z.base) ∧ B.cells = A.cells + mc ∧ B.slots = A.slots + ms
def vx_Back (l : Launch) (R : Room) (p : Program) (e : Env) (below : List Frame) (s : State) (sargs : Array Value) (y : MethodName) (len W9 : Nat)
    (Pre : Pt → Array Value → Prop) (Post : Pt → Array Value → Option Value → Pt → Prop) (PostX : Pt → Array Value → Addr → Pt → Prop) : Prop :=
  ∀ (m : MethodId) (meth : Method) (c : Code) (A : Pt) (g : JFrame) (ig : Instr) (mk : MethodId) (a : Array Value),
    Stand p l e R s m sargs below meth c A.U A.locs A.cells A.slots → g.method = m → g.locals.size = c.maxLocals → decode c.code g.pc = .ok (ig, len) →
    2 * g.monitorRoom + (g.stack.map fun v => v.category).sum ≤ W9 → A.U.methodNamed? y = some mk → Pre A a →
    (∃ (v : Option Value) (B : Pt), Stand p l e R s m sargs below meth c B.U B.locs B.cells B.slots ∧ Post A a v B ∧
      Steps p.tables e below (doInvoke e (A.U.setTop g) [] mk a).1 (B.U.setTop { g with pc := g.pc + len, stack := v.toList ++ g.stack })) ∨
    (∃ (q : Addr) (B : Pt), Stand p l e R s m sargs below meth c B.U B.locs B.cells B.slots ∧ PostX A a q B ∧
      Steps p.tables e below (doInvoke e (A.U.setTop g) [] mk a).1 ((B.U.setTop g).pushFrame (.throwing q)))
section Payer
variable {l : Launch} {R : Room} {p : Program} {e : Env} {below : List Frame} {s : State} {sargs : Array Value} {y : MethodName} {len W9 : Nat}
theorem vx_back {ws : List Cond} {rm : Room} {Pc : Array Value → State → Prop} {Qc : Array Value → State → Outcome → State → Prop} {XC : String → State → State → Prop} {mc ms : Nat} {free : Addr → Prop} {bytes : ByteArray} {maxL : Nat} {ret : Option FieldType}
    (hM : vx_Met l y ws rm Pc Qc XC mc ms free) (hblind : FrameBlind Pc) (hrc : rm.cells = mc) (hrs : rm.slots = ms)
    (hframes : rm.frames + 1 ≤ R.frames) (hlocals : W9 + (maxL + 11) + rm.locals ≤ R.locals)
    (hws : ∀ w ∈ ws, ∀ a' U, s.WarmedH U.vm → w.before a' U = true) (hcode : Cond.code y bytes maxL ret ∈ ws) (hinit : ∀ a' U, s.WarmedH U.vm → (Cond.initialized y.cls).before a' U = true) :
    vx_Back l R p e below s sargs y len W9 (PreOf R mc ms Pc) (PostOf Qc mc ms free) (vx_Post XC mc ms free) := by
  intro m meth c A g ig mk a X hg hsize hdg hW hn hp
  have h1 : (headSpec ws rm).pre.before a A.U = true := atoms_intro fun w hw => hws w hw _ _ X.warmed
  have h2 : (Cond.code y bytes maxL ret).before a A.U = true := hws _ hcode _ _ X.warmed
  have h3 : (Cond.initialized y.cls).before a A.U = true := hinit _ _ X.warmed
  have h4 : A.cells + (headSpec ws rm).room.cells ≤ R.cells := by rw [show (headSpec ws rm).room.cells = mc from hrc]; exact hp.1
  have h5 : A.slots + (headSpec ws rm).room.slots ≤ R.slots := by rw [show (headSpec ws rm).room.slots = ms from hrs]; exact hp.2.1
  have hPc : Pc a (A.U.calling g mk a) := hblind _ _ _ _ hp.2.2
  obtain ⟨U, Ls, c0, s0⟩ := A
  dsimp only [Pt.U, Pt.locs, Pt.cells, Pt.slots] at h1 h2 h3 h4 h5 X hn hPc ⊢
  obtain ⟨methY, cY, hmY, hcY, -, hlY, -, -, -, -⟩ := Cond.code_spec hn h2
  obtain ⟨kY, hkY, -⟩ := className_of_methodNamed hn
  have hinitY : kY.init = .initialized := Cond.initialized_spec (findClass_of_methodNamed hn) hkY h3
  have h : At U g.method c below := by rw [hg]; exact X.here
  have hlocals9 : W9 + (maxL + 11) + (headSpec ws rm).room.locals ≤ R.locals := hlocals
  have happ : (headSpec ws rm).appliesLoose y e.platform (U.calling g mk a) = true :=
    Spec.appliesLoose_calling (g := g) h hdg hn hkY hinitY
      (X.room_calling (g := g) (R' := (headSpec ws rm).room) hsize hmY hcY hframes (by rw [hlY]; omega) h4 h5) h1
  obtain ⟨mid, hmid⟩ := h.above
  have hfr : (U.setTop g).frames = (.java g :: mid) ++ below := by rw [State.frames_setTop' g h.top, hmid]; rfl
  obtain ⟨o, s₂, hsteps, -, hend, hq⟩ := Steps.callFree hM p X.admits X.cas X.clock (acts := []) hfr happ hPc trivial
  have hq' : vx_Q Qc XC mc ms free a (U.calling g mk a) o s₂ := hq
  rw [State.frames_setTop' g h.top] at hend
  obtain ⟨g₀, hg0⟩ := Option.isSome_iff_exists.mp h.top
  obtain ⟨r, hr⟩ := State.topJava?_eq_some.mp hg0
  have hr' : (({ U with heap := s₂.heap, slotsUsed := s₂.slotsUsed } : State).setVm s₂.vm).frames = .java g₀ :: r := hr
  rcases hq' with ⟨hqc, L, hfe, hL⟩ | ⟨q, rfl, E, ce, L, hx, hce, hcv, hcl, hW₂, hsm, hL⟩
  · obtain ⟨⟨v, rfl⟩, hW₂, e2, q2, q3, q4, q5, q6⟩ := id hfe
    have e3 : s₂ = ({ (U.calling g mk a).setFrames s₂.frames with heap := s₂.heap, slotsUsed := s₂.slotsUsed } : State).setVm s₂.vm := by
      have : s₂ = ({ s₂ with vm := (U.calling g mk a).vm } : State).setVm s₂.vm := rfl
      rw [e2] at this
      exact this
    obtain ⟨c₂, i₂, len₂, hc₂, hd₂, hf₂⟩ := hend
    have hW' : U.WarmedH s₂.vm := hW₂
    have hcc : c₂ = c := by
      have h1 : s₂.code? g.method = U.code? g.method := by
        rw [State.code?_eq, State.code?_eq, hW'.alike.method?]
      exact Option.some.inj (hc₂.symm.trans (h1.trans h.code))
    subst hcc
    have hlen : len₂ = len := by rw [hdg] at hd₂; cases hd₂; rfl
    subst hlen
    have hs₂ : s₂ = (({ U with heap := s₂.heap, slotsUsed := s₂.slotsUsed } : State).setVm s₂.vm).setTop { g with pc := g.pc + len₂, stack := v.toList ++ g.stack } := by
      refine e3.trans ?_
      rw [hf₂, State.calling_eq h.top, State.setFrames_setFrames, State.setTop_of_frames _ hr', hr]
      rfl
    have hsame : U.sameButNew ({ U with heap := s₂.heap, slotsUsed := s₂.slotsUsed } : State) L mc ms := by
      refine ⟨?_, q2, q3, q4, q5, q6⟩
      obtain ⟨t, ht, -⟩ := State.frames_cons hr
      show ({ U with heap := s₂.heap, slotsUsed := s₂.slotsUsed } : State) = { U.setFrames U.frames with heap := s₂.heap, slotsUsed := s₂.slotsUsed }
      rw [State.setFrames_self ht]
    subst hg
    refine Or.inl ⟨v, ⟨(({ U with heap := s₂.heap, slotsUsed := s₂.slotsUsed } : State).setVm s₂.vm), Ls ++ L, c0 + mc, s0 + ms⟩,
      ⟨X.admits, X.cas, X.clock, X.frames, X.room, X.hears, X.method, X.code, (X.here.setHeapUsed s₂.heap s₂.slotsUsed).setVm hW'.alike, X.tail, State.WarmedH.trans X.warmed hW', X.limits, X.bytes, X.same.trans (hsame.setVm s.vm)⟩,
      ⟨g, mk, s₂, L, rfl, rfl, hqc, rfl, hL, rfl, rfl⟩, ?_⟩
    show Steps p.tables e below _ ((({ U with heap := s₂.heap, slotsUsed := s₂.slotsUsed } : State).setVm s₂.vm).setTop { g with pc := g.pc + len₂, stack := v.toList ++ g.stack })
    rw [← hs₂]
    exact hsteps
  · obtain ⟨e2, q2, q3, q4, q5, q6⟩ := id hsm
    have e3 : s₂ = ({ (U.calling g mk a).setFrames s₂.frames with heap := s₂.heap, slotsUsed := s₂.slotsUsed } : State).setVm s₂.vm := by
      have : s₂ = ({ s₂ with vm := (U.calling g mk a).vm } : State).setVm s₂.vm := rfl
      rw [e2] at this
      exact this
    have hf₂ : s₂.frames = .throwing q :: .java g :: U.frames.tail := hend
    have hW' : U.WarmedH s₂.vm := hW₂
    have hs₂ : s₂ = ((({ U with heap := s₂.heap, slotsUsed := s₂.slotsUsed } : State).setVm s₂.vm).setTop g).pushFrame (.throwing q) := by
      refine e3.trans ?_
      rw [hf₂, State.calling_eq h.top, State.setFrames_setFrames, State.pushFrame, State.frames_setTop _ hr', State.setTop_of_frames _ hr', State.setFrames_setFrames, hr]
      rfl
    have hsame : U.sameButNew ({ U with heap := s₂.heap, slotsUsed := s₂.slotsUsed } : State) L mc ms := by
      refine ⟨?_, q2, q3, q4, q5, q6⟩
      obtain ⟨t, ht, -⟩ := State.frames_cons hr
      show ({ U with heap := s₂.heap, slotsUsed := s₂.slotsUsed } : State) = { U.setFrames U.frames with heap := s₂.heap, slotsUsed := s₂.slotsUsed }
      rw [State.setFrames_self ht]
    subst hg
    refine Or.inr ⟨q, ⟨(({ U with heap := s₂.heap, slotsUsed := s₂.slotsUsed } : State).setVm s₂.vm), Ls ++ L, c0 + mc, s0 + ms⟩,
      ⟨X.admits, X.cas, X.clock, X.frames, X.room, X.hears, X.method, X.code, (X.here.setHeapUsed s₂.heap s₂.slotsUsed).setVm hW'.alike, X.tail, State.WarmedH.trans X.warmed hW', X.limits, X.bytes, X.same.trans (hsame.setVm s.vm)⟩,
      ⟨g, mk, s₂, L, E, ce, rfl, rfl, hx, hce, hcv, hcl, rfl, hL, rfl, rfl⟩, ?_⟩
    show Steps p.tables e below _ (((({ U with heap := s₂.heap, slotsUsed := s₂.slotsUsed } : State).setVm s₂.vm).setTop g).pushFrame (.throwing q))
    rw [← hs₂]
    exact hsteps
end Payer
section Calls
variable {p : Program} {l : Launch} {e : Env} {R : Room} {s : State} {m : MethodId} {args : Array Value} {below : List Frame} {meth : Method} {c : Code} {T : State} {locs : List Loc} {cells slots : Nat}
theorem vx_callV (X : Stand p l e R s m args below meth c T locs cells slots) (hexec : p.tables.exec = Jvm.exec) {own C : String} {index : Nat} {y : MethodName} {bytes : ByteArray} {maxL : Nat} {ret : Option FieldType}
    (hown : s.vm.findClass own = some m.cls) (hlink : (Cond.methodLink own index y).before args s = true) (hinst : (Cond.instanceMethod y).before args s = true) (hsel : (Cond.selects C y y).before args s = true)
    (hcode : (Cond.code y bytes maxL ret).before args s = true) (hy : y.cls ≠ "java/lang/invoke/MethodHandle" ∧ y.cls ≠ "java/lang/invoke/VarHandle")
    {W9 : Nat} {Pre : Pt → Array Value → Prop} {Post : Pt → Array Value → Option Value → Pt → Prop} {PostX : Pt → Array Value → Addr → Pt → Prop} (hK : vx_Back l R p e below s args y 3 W9 Pre Post PostX)
    {b : Addr} {cellB : Cell} (hcell : T.heap[b]? = some cellB) (hobj : cellB.vm.isStatics = false) (hcls : s.vm.findClass C = some cellB.cls)
    {g : JFrame} (hg : g.method = m) (hsize : g.locals.size = c.maxLocals) {argsL rest : List Value} (hlen : ∀ sig, parseMethodDescriptor y.desc = some sig → argsL.length = sig.parameters.length)
    (hstack : g.stack = argsL.reverse ++ .ref b :: rest) (hW : 2 * g.monitorRoom + (rest.map fun v => v.category).sum ≤ W9) (hdg : decode c.code g.pc = .ok (.invokevirtual index, 3))
    (hpre : ∀ vm₁, s.WarmedH vm₁ → Pre ⟨T.setVm vm₁, locs, cells, slots⟩ (Value.ref b :: argsL).toArray) :
    (∃ (v : Option Value) (vm₁ : Vm) (B : Pt), s.WarmedH vm₁ ∧ Stand p l e R s m args below meth c B.U B.locs B.cells B.slots ∧ Post ⟨T.setVm vm₁, locs, cells, slots⟩ (Value.ref b :: argsL).toArray v B ∧
      ∀ target, Steps p.tables e below (B.U.setTop { g with pc := g.pc + 3, stack := v.toList ++ rest }) target → Steps p.tables e below (T.setTop g) target) ∨
    (∃ (q : Addr) (vm₁ : Vm) (B : Pt), s.WarmedH vm₁ ∧ Stand p l e R s m args below meth c B.U B.locs B.cells B.slots ∧ PostX ⟨T.setVm vm₁, locs, cells, slots⟩ (Value.ref b :: argsL).toArray q B ∧
      Steps p.tables e below (T.setTop g) ((B.U.setTop { g with stack := rest }).pushFrame (.throwing q))) := by
  obtain ⟨mk, methM, hnamed, hmethM, hstM, habM⟩ := Cond.instanceMethod_spec hinst
  obtain ⟨methM', cM, hmethM', -, -, -, -, -, -, hsigM⟩ := Cond.code_spec hnamed hcode
  cases hmethM.symm.trans hmethM'
  obtain ⟨c2, r2, m2, q1, q2, q3, q4, kP, hkP, hkPi⟩ := Cond.selects_spec hsel
  cases hcls.symm.trans q1
  cases (State.methodFound?_of_named hnamed hy).symm.trans q2
  cases hnamed.symm.trans q3
  have hselP : selectMethod e.platform s.vm cellB.cls mk = .method mk := by rw [Launch.admits_selectMethod X.admits]; exact q4
  obtain ⟨vm₁, X₁, hstep₁⟩ := X.invokevirtual hexec hown hlink hnamed hmethM hstM hkP hkPi hy (a := b) (cell := cellB) hcell
    (fun z h => by rw [h] at hobj; cases hobj) hselP hmethM habM hkP hkPi (g := g) hg (argsL := argsL) (rest := rest) (hlen _ hsigM) hstack hdg
  rcases hK m meth c ⟨T.setVm vm₁, locs, cells, slots⟩ { g with stack := rest } (.invokevirtual index) mk (Value.ref b :: argsL).toArray X₁ hg hsize hdg hW (X₁.named hnamed) (hpre vm₁ X₁.warmed) with ⟨v, B, X', hpost, hsteps⟩ | ⟨q, B, X', hpost, hsteps⟩
  · exact Or.inl ⟨v, vm₁, B, X₁.warmed, X', hpost, fun target h => hstep₁ _ fun acts => by rw [doInvoke_state]; exact hsteps.trans h⟩
  · exact Or.inr ⟨q, vm₁, B, X₁.warmed, X', hpost, hstep₁ _ fun acts => by rw [doInvoke_state]; exact hsteps⟩
theorem vx_callS (X : Stand p l e R s m args below meth c T locs cells slots) (hexec : p.tables.exec = Jvm.exec) {own : String} {index : Nat} {y : MethodName} {bytes : ByteArray} {maxL : Nat} {ret : Option FieldType}
    (hown : s.vm.findClass own = some m.cls) (hlink : (Cond.methodLink own index y).before args s = true) (hstat : (Cond.static y).before args s = true) (hinit : (Cond.initialized y.cls).before args s = true)
    (hcode : (Cond.code y bytes maxL ret).before args s = true) (hy : y.cls ≠ "java/lang/invoke/MethodHandle" ∧ y.cls ≠ "java/lang/invoke/VarHandle")
    {W9 : Nat} {Pre : Pt → Array Value → Prop} {Post : Pt → Array Value → Option Value → Pt → Prop} {PostX : Pt → Array Value → Addr → Pt → Prop} (hK : vx_Back l R p e below s args y 3 W9 Pre Post PostX)
    {g : JFrame} (hg : g.method = m) (hsize : g.locals.size = c.maxLocals) {argsL rest : List Value} (hlen : ∀ sig, parseMethodDescriptor y.desc = some sig → argsL.length = sig.parameters.length)
    (hstack : g.stack = argsL.reverse ++ rest) (hW : 2 * g.monitorRoom + (rest.map fun v => v.category).sum ≤ W9) (hdg : decode c.code g.pc = .ok (.invokestatic index, 3))
    (hpre : ∀ vm₁, s.WarmedH vm₁ → Pre ⟨T.setVm vm₁, locs, cells, slots⟩ argsL.toArray) :
    (∃ (v : Option Value) (vm₁ : Vm) (B : Pt), s.WarmedH vm₁ ∧ Stand p l e R s m args below meth c B.U B.locs B.cells B.slots ∧ Post ⟨T.setVm vm₁, locs, cells, slots⟩ argsL.toArray v B ∧
      ∀ target, Steps p.tables e below (B.U.setTop { g with pc := g.pc + 3, stack := v.toList ++ rest }) target → Steps p.tables e below (T.setTop g) target) ∨
    (∃ (q : Addr) (vm₁ : Vm) (B : Pt), s.WarmedH vm₁ ∧ Stand p l e R s m args below meth c B.U B.locs B.cells B.slots ∧ PostX ⟨T.setVm vm₁, locs, cells, slots⟩ argsL.toArray q B ∧
      Steps p.tables e below (T.setTop g) ((B.U.setTop { g with stack := rest }).pushFrame (.throwing q))) := by
  obtain ⟨mk, hnamed⟩ := Cond.code_named hcode
  obtain ⟨methM, cM, hmethM, -, -, -, -, -, -, hsigM⟩ := Cond.code_spec hnamed hcode
  have hstatic : methM.isStatic = true := Cond.static_spec hnamed hmethM hstat
  obtain ⟨kP, hkP, -⟩ := className_of_methodNamed hnamed
  have hinitP : kP.init = .initialized := Cond.initialized_spec (findClass_of_methodNamed hnamed) hkP hinit
  obtain ⟨vm₁, X₁, hstep₁⟩ := X.invokestatic hexec hown hlink hnamed hmethM hstatic hkP hinitP hy (g := g) hg (argsL := argsL) (rest := rest) (hlen _ hsigM) hstack hdg
  rcases hK m meth c ⟨T.setVm vm₁, locs, cells, slots⟩ { g with stack := rest } (.invokestatic index) mk argsL.toArray X₁ hg hsize hdg hW (X₁.named hnamed) (hpre vm₁ X₁.warmed) with ⟨v, B, X', hpost, hsteps⟩ | ⟨q, B, X', hpost, hsteps⟩
  · exact Or.inl ⟨v, vm₁, B, X₁.warmed, X', hpost, fun target h => hstep₁ _ fun acts => by rw [doInvoke_state]; exact hsteps.trans h⟩
  · exact Or.inr ⟨q, vm₁, B, X₁.warmed, X', hpost, hstep₁ _ fun acts => by rw [doInvoke_state]; exact hsteps⟩
end Calls
theorem vx_cls {s : State} {T : State} {vm₁ : Vm} {E : String} {k : ClassId} (hW : s.WarmedH vm₁) (h : (T.setVm vm₁).vm.findClass E = some k) : s.vm.findClass E = some k := by
  have h1 : vm₁.findClass E = some k := h
  rw [hW.alike.findClass] at h1
  exact h1
/-- the method's frame g, with q thrown over it -/
def vx_W (p : Program) (l : Launch) (e : Env) (R : Room) (s : State) (m : MethodId) (args : Array Value) (below : List Frame) (meth : Method) (c : Code) (H : Heap) (locs : List Loc) (cells slots : Nat) (Q : State → Prop) (g : JFrame) (q : Addr) : Prop :=
  ∀ T : State, T.heap = H → Stand p l e R s m args below meth c T locs cells slots → ∃ t, Steps p.tables e below ((T.setTop g).pushFrame (.throwing q)) t ∧ Q t
def vx_Run (p : Program) (l : Launch) (e : Env) (R : Room) (s : State) (m : MethodId) (args : Array Value) (below : List Frame) (meth : Method) (c : Code) (H : Heap) (locs : List Loc) (cells slots mc ms : Nat) (g : JFrame) (rest : List Value) (Qa : State → Outcome → State → Prop) (XC : String → State → State → Prop) (free : Addr → Prop) : Prop :=
  ∀ T : State, T.heap = H → Stand p l e R s m args below meth c T locs cells slots →
    (∃ (v : Option Value) (st₀ t T' : State) (L : List Loc), st₀.heap = H ∧ Stand p l e R s m args below meth c T' (locs ++ L) (cells + mc) (slots + ms) ∧ (∀ q ∈ L, free q.base) ∧ T'.heap = t.heap ∧ T'.vm = t.vm ∧ Qa st₀ (.returned v) t ∧
      Goes p e below T g T' { g with pc := g.pc + 3, stack := v.toList ++ rest }) ∨
    (∃ (q : Addr) (st₀ t T' : State) (L : List Loc) (E : String) (ce : Cell), st₀.heap = H ∧ Stand p l e R s m args below meth c T' (locs ++ L) (cells + mc) (slots + ms) ∧ (∀ z ∈ L, free z.base) ∧ T'.heap = t.heap ∧ T'.vm = t.vm ∧ XC E st₀ t ∧ t.heap[q]? = some ce ∧ ce.vm = .none ∧ s.vm.findClass E = some ce.cls ∧
      Steps p.tables e below (T.setTop g) ((T'.setTop { g with stack := rest }).pushFrame (.throwing q)))
def vx_X {S : Type} (px : S → Prop) (B : String → S → State → Prop) (A : Nat → Prop) : String → State → State → Prop := fun E st t => ∃ u : S, px u ∧ B E u t ∧ va_F A st t
section Runs
variable {p : Program} {l : Launch} {e : Env} {R : Room} {s : State} {m : MethodId} {args : Array Value} {below : List Frame} {meth : Method} {c : Code} {H : Heap} {locs : List Loc} {cells slots : Nat}
variable {y : MethodName} {bytes cc : ByteArray} {maxL nL mc ms n index : Nat} {ret : Option FieldType} {ws : List Cond} {rm : Room} {Pc : Array Value → State → Prop} {Qc : Array Value → State → Outcome → State → Prop} {XC : String → State → State → Prop} {free : Addr → Prop} {Ts : List Cond} {own C : String} {b : Addr} {As rest : List Value} {g : JFrame}
theorem vx_callBack (cb : CallB R s args own index y bytes maxL ret ws rm mc ms n) (hM : vx_Met l y ws rm Pc Qc XC mc ms free) (hbl : FrameBlind Pc) : vx_Back l R p e below s args y 3 8 (PreOf R mc ms Pc) (PostOf Qc mc ms free) (vx_Post XC mc ms free) := by
  obtain ⟨hrc, hrs, hfr, hlo, hws, hcw, -, hini, -⟩ := cb
  exact vx_back (bytes := bytes) (maxL := maxL) (ret := ret) hM hbl hrc hrs hfr hlo hws hcw (fun a' U hW => word_at hW (Or.inl (by first | rfl | simp [Cond.onTables, Cond.keeps, Cond.steady])) hini)
theorem vx_runV (S : CallFix p m c cc nL s args Ts own) (hM : vx_Met l y ws rm Pc Qc XC mc ms free) (cw : CallW R s args own C index y bytes maxL ret ws rm mc ms n) (hp : PreV s H C b Pc As)
    (hg : g.method = m) (hn : As.length = n) (hsize : g.locals.size = nL) (hstack : g.stack = As.reverse ++ .ref b :: rest) (hW : 2 * g.monitorRoom + (rest.map fun v => v.category).sum ≤ 8) (hdg : decode cc g.pc = .ok (.invokevirtual index, 3)) (hf : cells + mc ≤ R.cells ∧ slots + ms ≤ R.slots) :
    vx_Run p l e R s m args below meth c H locs cells slots mc ms g rest (Qc (Value.ref b :: As).toArray) XC free := by
  have hK : vx_Back l R p e below s args y 3 8 (PreOf R mc ms Pc) (PostOf Qc mc ms free) (vx_Post XC mc ms free) := vx_callBack cw.1 hM hp.1
  obtain ⟨⟨-, -, -, -, -, -, hcode, -, hy, hlen, hl⟩, hin, hse⟩ := cw
  obtain ⟨hx, hb, hml, ho, -⟩ := S
  obtain ⟨-, ⟨cellB, hcB, hoB, hclB⟩, hPc⟩ := hp
  intro T hT X
  rcases vx_callV X hx (C := C) (bytes := bytes) (maxL := maxL) (ret := ret) ho hl hin hse hcode hy hK (by rw [hT]; exact hcB) hoB hclB hg (hsize.trans hml.symm) (argsL := As) (rest := rest) (fun sig h => hn.trans (hlen sig h)) hstack hW (by rw [hb]; exact hdg)
    (fun vm₁ hW₁ => ⟨hf.1, hf.2, hPc (T.setVm vm₁) hT hW₁⟩) with ⟨v, vm₁, ⟨U', l2, c2, s2⟩, hW₁, X', ⟨g', mk, t, L, e1, e2, hq, h1, hL, h2, h3⟩, st⟩ | ⟨q, vm₁, ⟨U', l2, c2, s2⟩, hW₁, X', ⟨g', mk, t, L, E, ce, e1, e2, hq, hce, hcv, hcl, h1, hL, h2, h3⟩, st⟩
  · dsimp only [Pt.U, Pt.locs, Pt.cells, Pt.slots] at X' e1 e2 h1 h2 h3 st
    subst h1; subst h2; subst h3
    exact Or.inl ⟨v, (T.setVm vm₁).calling g' mk (Value.ref b :: As).toArray, t, U', L, hT, X', hL, e1, e2, hq, st⟩
  · dsimp only [Pt.U, Pt.locs, Pt.cells, Pt.slots] at X' e1 e2 h1 h2 h3 st hcl
    subst h1; subst h2; subst h3
    exact Or.inr ⟨q, (T.setVm vm₁).calling g' mk (Value.ref b :: As).toArray, t, U', L, E, ce, hT, X', hL, e1, e2, hq, hce, hcv, vx_cls hW₁ hcl, st⟩
theorem vx_runS (S : CallFix p m c cc nL s args Ts own) (hM : vx_Met l y ws rm Pc Qc XC mc ms free) (cw : CallB R s args own index y bytes maxL ret ws rm mc ms n ∧ (Cond.static y).before args s = true) (hp : PreS s H Pc As)
    (hg : g.method = m) (hn : As.length = n) (hsize : g.locals.size = nL) (hstack : g.stack = As.reverse ++ rest) (hW : 2 * g.monitorRoom + (rest.map fun v => v.category).sum ≤ 8) (hdg : decode cc g.pc = .ok (.invokestatic index, 3)) (hf : cells + mc ≤ R.cells ∧ slots + ms ≤ R.slots) :
    vx_Run p l e R s m args below meth c H locs cells slots mc ms g rest (Qc As.toArray) XC free := by
  have hK : vx_Back l R p e below s args y 3 8 (PreOf R mc ms Pc) (PostOf Qc mc ms free) (vx_Post XC mc ms free) := vx_callBack cw.1 hM hp.1
  obtain ⟨⟨-, -, -, -, -, -, hcode, hini, hy, hlen, hl⟩, hstt⟩ := cw
  obtain ⟨hx, hb, hml, ho, -⟩ := S
  intro T hT X
  rcases vx_callS X hx (bytes := bytes) (maxL := maxL) (ret := ret) ho hl hstt hini hcode hy hK hg (hsize.trans hml.symm) (argsL := As) (rest := rest) (fun sig h => hn.trans (hlen sig h)) hstack hW (by rw [hb]; exact hdg)
    (fun vm₁ hW₁ => ⟨hf.1, hf.2, hp.2 (T.setVm vm₁) hT hW₁⟩) with ⟨v, vm₁, ⟨U', l2, c2, s2⟩, hW₁, X', ⟨g', mk, t, L, e1, e2, hq, h1, hL, h2, h3⟩, st⟩ | ⟨q, vm₁, ⟨U', l2, c2, s2⟩, hW₁, X', ⟨g', mk, t, L, E, ce, e1, e2, hq, hce, hcv, hcl, h1, hL, h2, h3⟩, st⟩
  · dsimp only [Pt.U, Pt.locs, Pt.cells, Pt.slots] at X' e1 e2 h1 h2 h3 st
    subst h1; subst h2; subst h3
    exact Or.inl ⟨v, (T.setVm vm₁).calling g' mk As.toArray, t, U', L, hT, X', hL, e1, e2, hq, st⟩
  · dsimp only [Pt.U, Pt.locs, Pt.cells, Pt.slots] at X' e1 e2 h1 h2 h3 st hcl
    subst h1; subst h2; subst h3
    exact Or.inr ⟨q, (T.setVm vm₁).calling g' mk As.toArray, t, U', L, E, ce, hT, X', hL, e1, e2, hq, hce, hcv, vx_cls hW₁ hcl, st⟩
end Runs
section Rows
variable {p : Program} {l : Launch} {e : Env} {R : Room} {s : State} {m : MethodId} {args : Array Value} {below : List Frame} {meth : Method} {c : Code} {H : Heap} {locs : List Loc} {cells slots : Nat} {Q : State → Prop}
variable {mc ms : Nat} {free : Addr → Prop} {A0 A1 : Nat → Prop} {H0 : Heap} {a : Array Value} {pc : Nat} {ls : Array Slot} {st0 rest : List Value}
theorem vx_keep {st₀ t T' : State} {L : List Loc} (h0 : st₀.heap = H) (e1 : T'.heap = t.heap) (hS : va_S A0 H0 H locs) (hA : ∀ q, q < H.size → A1 q → A0 q) (hf : ∀ q, free q → A0 q) (hL : ∀ q ∈ L, free q.base) (hF : va_F A1 st₀ t) :
    H.size ≤ T'.heap.size ∧ (∀ q : Nat, q < H.size → ¬ A1 q → T'.heap[q]? = H[q]?) ∧ va_S A0 H0 T'.heap (locs ++ L) := by
  obtain ⟨hz, hk⟩ := hF
  rw [h0] at hz hk
  exact ⟨by rw [e1]; exact hz, fun q h1 h2 => by rw [e1]; exact hk q h1 h2,
    ⟨Nat.le_trans hS.1 (by rw [e1]; exact hz), fun q h1 h2 => by rw [e1, hk q (Nat.lt_of_lt_of_le h1 hS.1) (fun z => h2 (hA q (Nat.lt_of_lt_of_le h1 hS.1) z))]; exact hS.2.1 q h1 h2, fun q hq => by
      rcases List.mem_append.mp hq with h | h
      · exact hS.2.2 q h
      · exact hf _ (hL q h)⟩⟩
theorem vx_calli {S SX : Type} {post : Int32 → S → Prop} {px : SX → Prop} {B : S → State → Prop} {BX : String → SX → State → Prop} {AX : Nat → Prop} (hr : vx_Run p l e R s m args below meth c H locs cells slots mc ms (F0 m pc ls st0) rest (va_Qi post B A1 a) (vx_X px BX AX) free) (hS : va_S A0 H0 H locs) (hA : ∀ q, q < H.size → A1 q → A0 q) (hf : ∀ q, free q → A0 q) (hAX : ∀ q, q < H.size → AX q → A0 q)
    (kx : ∀ (E : String) (ce : Cell) (q9 : Addr) (u : SX) (t : State) (H1 : Heap) (locs1 : List Loc), t.heap = H1 → s.vm.Alike t.vm → px u → BX E u t → H.size ≤ H1.size → (∀ q : Nat, q < H.size → ¬ AX q → H1[q]? = H[q]?) → va_S A0 H0 H1 locs1 → H1[q9]? = some ce → ce.vm = .none → s.vm.findClass E = some ce.cls → vx_W p l e R s m args below meth c H1 locs1 (cells + mc) (slots + ms) Q (F0 m pc ls rest) q9)
    (kk : ∀ (r : Int32) (u : S) (t : State) (H1 : Heap) (locs1 : List Loc), t.heap = H1 → s.vm.Alike t.vm → post r u → B u t → H.size ≤ H1.size → (∀ q : Nat, q < H.size → ¬ A1 q → H1[q]? = H[q]?) → va_S A0 H0 H1 locs1 → W p l e R s m args below meth c H1 locs1 (cells + mc) (slots + ms) Q (F0 m (pc + 3) ls (.int r :: rest))) : W p l e R s m args below meth c H locs cells slots Q (F0 m pc ls st0) := by
  intro T hT X
  rcases hr T hT X with ⟨v, st₀, t, T', L, h0, X', hL, e1, e2, ⟨⟨r, u, hv, hp, hb⟩, hF⟩, st⟩ | ⟨q, st₀, t, T', L, E, ce, h0, X', hL, e1, e2, ⟨u, hp, hb, hF⟩, hce, hcv, hcl, st⟩
  · cases hv
    obtain ⟨k1, k2, k3⟩ := vx_keep h0 e1 hS hA hf hL hF
    obtain ⟨t2, a1, b1⟩ := kk r u t T'.heap (locs ++ L) e1.symm (by rw [← e2]; exact X'.warmed.alike) hp hb k1 k2 k3 T' rfl X'
    exact ⟨t2, st t2 a1, b1⟩
  · obtain ⟨k1, k2, k3⟩ := vx_keep h0 e1 hS hAX hf hL hF
    obtain ⟨t2, a1, b1⟩ := kx E ce q u t T'.heap (locs ++ L) e1.symm (by rw [← e2]; exact X'.warmed.alike) hp hb k1 k2 k3 (by rw [e1]; exact hce) hcv hcl T' rfl X'
    exact ⟨t2, st.trans a1, b1⟩
theorem vx_calll {S SX : Type} {post : Int64 → S → Prop} {px : SX → Prop} {B : S → State → Prop} {BX : String → SX → State → Prop} {AX : Nat → Prop} (hr : vx_Run p l e R s m args below meth c H locs cells slots mc ms (F0 m pc ls st0) rest (va_Ql post B A1 a) (vx_X px BX AX) free) (hS : va_S A0 H0 H locs) (hA : ∀ q, q < H.size → A1 q → A0 q) (hf : ∀ q, free q → A0 q) (hAX : ∀ q, q < H.size → AX q → A0 q)
    (kx : ∀ (E : String) (ce : Cell) (q9 : Addr) (u : SX) (t : State) (H1 : Heap) (locs1 : List Loc), t.heap = H1 → s.vm.Alike t.vm → px u → BX E u t → H.size ≤ H1.size → (∀ q : Nat, q < H.size → ¬ AX q → H1[q]? = H[q]?) → va_S A0 H0 H1 locs1 → H1[q9]? = some ce → ce.vm = .none → s.vm.findClass E = some ce.cls → vx_W p l e R s m args below meth c H1 locs1 (cells + mc) (slots + ms) Q (F0 m pc ls rest) q9)
    (kk : ∀ (r : Int64) (u : S) (t : State) (H1 : Heap) (locs1 : List Loc), t.heap = H1 → s.vm.Alike t.vm → post r u → B u t → H.size ≤ H1.size → (∀ q : Nat, q < H.size → ¬ A1 q → H1[q]? = H[q]?) → va_S A0 H0 H1 locs1 → W p l e R s m args below meth c H1 locs1 (cells + mc) (slots + ms) Q (F0 m (pc + 3) ls (.long r :: rest))) : W p l e R s m args below meth c H locs cells slots Q (F0 m pc ls st0) := by
  intro T hT X
  rcases hr T hT X with ⟨v, st₀, t, T', L, h0, X', hL, e1, e2, ⟨⟨r, u, hv, hp, hb⟩, hF⟩, st⟩ | ⟨q, st₀, t, T', L, E, ce, h0, X', hL, e1, e2, ⟨u, hp, hb, hF⟩, hce, hcv, hcl, st⟩
  · cases hv
    obtain ⟨k1, k2, k3⟩ := vx_keep h0 e1 hS hA hf hL hF
    obtain ⟨t2, a1, b1⟩ := kk r u t T'.heap (locs ++ L) e1.symm (by rw [← e2]; exact X'.warmed.alike) hp hb k1 k2 k3 T' rfl X'
    exact ⟨t2, st t2 a1, b1⟩
  · obtain ⟨k1, k2, k3⟩ := vx_keep h0 e1 hS hAX hf hL hF
    obtain ⟨t2, a1, b1⟩ := kx E ce q u t T'.heap (locs ++ L) e1.symm (by rw [← e2]; exact X'.warmed.alike) hp hb k1 k2 k3 (by rw [e1]; exact hce) hcv hcl T' rfl X'
    exact ⟨t2, st.trans a1, b1⟩
theorem vx_callf {S SX : Type} {post : UInt32 → S → Prop} {px : SX → Prop} {B : S → State → Prop} {BX : String → SX → State → Prop} {AX : Nat → Prop} (hr : vx_Run p l e R s m args below meth c H locs cells slots mc ms (F0 m pc ls st0) rest (va_Qf post B A1 a) (vx_X px BX AX) free) (hS : va_S A0 H0 H locs) (hA : ∀ q, q < H.size → A1 q → A0 q) (hf : ∀ q, free q → A0 q) (hAX : ∀ q, q < H.size → AX q → A0 q)
    (kx : ∀ (E : String) (ce : Cell) (q9 : Addr) (u : SX) (t : State) (H1 : Heap) (locs1 : List Loc), t.heap = H1 → s.vm.Alike t.vm → px u → BX E u t → H.size ≤ H1.size → (∀ q : Nat, q < H.size → ¬ AX q → H1[q]? = H[q]?) → va_S A0 H0 H1 locs1 → H1[q9]? = some ce → ce.vm = .none → s.vm.findClass E = some ce.cls → vx_W p l e R s m args below meth c H1 locs1 (cells + mc) (slots + ms) Q (F0 m pc ls rest) q9)
    (kk : ∀ (r : UInt32) (u : S) (t : State) (H1 : Heap) (locs1 : List Loc), t.heap = H1 → s.vm.Alike t.vm → post r u → B u t → H.size ≤ H1.size → (∀ q : Nat, q < H.size → ¬ A1 q → H1[q]? = H[q]?) → va_S A0 H0 H1 locs1 → W p l e R s m args below meth c H1 locs1 (cells + mc) (slots + ms) Q (F0 m (pc + 3) ls (.float r :: rest))) : W p l e R s m args below meth c H locs cells slots Q (F0 m pc ls st0) := by
  intro T hT X
  rcases hr T hT X with ⟨v, st₀, t, T', L, h0, X', hL, e1, e2, ⟨⟨r, u, hv, hp, hb⟩, hF⟩, st⟩ | ⟨q, st₀, t, T', L, E, ce, h0, X', hL, e1, e2, ⟨u, hp, hb, hF⟩, hce, hcv, hcl, st⟩
  · cases hv
    obtain ⟨k1, k2, k3⟩ := vx_keep h0 e1 hS hA hf hL hF
    obtain ⟨t2, a1, b1⟩ := kk r u t T'.heap (locs ++ L) e1.symm (by rw [← e2]; exact X'.warmed.alike) hp hb k1 k2 k3 T' rfl X'
    exact ⟨t2, st t2 a1, b1⟩
  · obtain ⟨k1, k2, k3⟩ := vx_keep h0 e1 hS hAX hf hL hF
    obtain ⟨t2, a1, b1⟩ := kx E ce q u t T'.heap (locs ++ L) e1.symm (by rw [← e2]; exact X'.warmed.alike) hp hb k1 k2 k3 (by rw [e1]; exact hce) hcv hcl T' rfl X'
    exact ⟨t2, st.trans a1, b1⟩
theorem vx_calld {S SX : Type} {post : UInt64 → S → Prop} {px : SX → Prop} {B : S → State → Prop} {BX : String → SX → State → Prop} {AX : Nat → Prop} (hr : vx_Run p l e R s m args below meth c H locs cells slots mc ms (F0 m pc ls st0) rest (va_Qd post B A1 a) (vx_X px BX AX) free) (hS : va_S A0 H0 H locs) (hA : ∀ q, q < H.size → A1 q → A0 q) (hf : ∀ q, free q → A0 q) (hAX : ∀ q, q < H.size → AX q → A0 q)
    (kx : ∀ (E : String) (ce : Cell) (q9 : Addr) (u : SX) (t : State) (H1 : Heap) (locs1 : List Loc), t.heap = H1 → s.vm.Alike t.vm → px u → BX E u t → H.size ≤ H1.size → (∀ q : Nat, q < H.size → ¬ AX q → H1[q]? = H[q]?) → va_S A0 H0 H1 locs1 → H1[q9]? = some ce → ce.vm = .none → s.vm.findClass E = some ce.cls → vx_W p l e R s m args below meth c H1 locs1 (cells + mc) (slots + ms) Q (F0 m pc ls rest) q9)
    (kk : ∀ (r : UInt64) (u : S) (t : State) (H1 : Heap) (locs1 : List Loc), t.heap = H1 → s.vm.Alike t.vm → post r u → B u t → H.size ≤ H1.size → (∀ q : Nat, q < H.size → ¬ A1 q → H1[q]? = H[q]?) → va_S A0 H0 H1 locs1 → W p l e R s m args below meth c H1 locs1 (cells + mc) (slots + ms) Q (F0 m (pc + 3) ls (.double r :: rest))) : W p l e R s m args below meth c H locs cells slots Q (F0 m pc ls st0) := by
  intro T hT X
  rcases hr T hT X with ⟨v, st₀, t, T', L, h0, X', hL, e1, e2, ⟨⟨r, u, hv, hp, hb⟩, hF⟩, st⟩ | ⟨q, st₀, t, T', L, E, ce, h0, X', hL, e1, e2, ⟨u, hp, hb, hF⟩, hce, hcv, hcl, st⟩
  · cases hv
    obtain ⟨k1, k2, k3⟩ := vx_keep h0 e1 hS hA hf hL hF
    obtain ⟨t2, a1, b1⟩ := kk r u t T'.heap (locs ++ L) e1.symm (by rw [← e2]; exact X'.warmed.alike) hp hb k1 k2 k3 T' rfl X'
    exact ⟨t2, st t2 a1, b1⟩
  · obtain ⟨k1, k2, k3⟩ := vx_keep h0 e1 hS hAX hf hL hF
    obtain ⟨t2, a1, b1⟩ := kx E ce q u t T'.heap (locs ++ L) e1.symm (by rw [← e2]; exact X'.warmed.alike) hp hb k1 k2 k3 (by rw [e1]; exact hce) hcv hcl T' rfl X'
    exact ⟨t2, st.trans a1, b1⟩
theorem vx_callv {S SX : Type} {post : S → Prop} {px : SX → Prop} {B : S → State → Prop} {BX : String → SX → State → Prop} {AX : Nat → Prop} (hr : vx_Run p l e R s m args below meth c H locs cells slots mc ms (F0 m pc ls st0) rest (va_Qv post B A1 a) (vx_X px BX AX) free) (hS : va_S A0 H0 H locs) (hA : ∀ q, q < H.size → A1 q → A0 q) (hf : ∀ q, free q → A0 q) (hAX : ∀ q, q < H.size → AX q → A0 q)
    (kx : ∀ (E : String) (ce : Cell) (q9 : Addr) (u : SX) (t : State) (H1 : Heap) (locs1 : List Loc), t.heap = H1 → s.vm.Alike t.vm → px u → BX E u t → H.size ≤ H1.size → (∀ q : Nat, q < H.size → ¬ AX q → H1[q]? = H[q]?) → va_S A0 H0 H1 locs1 → H1[q9]? = some ce → ce.vm = .none → s.vm.findClass E = some ce.cls → vx_W p l e R s m args below meth c H1 locs1 (cells + mc) (slots + ms) Q (F0 m pc ls rest) q9)
    (kk : ∀ (u : S) (t : State) (H1 : Heap) (locs1 : List Loc), t.heap = H1 → s.vm.Alike t.vm → post u → B u t → H.size ≤ H1.size → (∀ q : Nat, q < H.size → ¬ A1 q → H1[q]? = H[q]?) → va_S A0 H0 H1 locs1 → W p l e R s m args below meth c H1 locs1 (cells + mc) (slots + ms) Q (F0 m (pc + 3) ls (rest))) : W p l e R s m args below meth c H locs cells slots Q (F0 m pc ls st0) := by
  intro T hT X
  rcases hr T hT X with ⟨v, st₀, t, T', L, h0, X', hL, e1, e2, ⟨⟨u, hv, hp, hb⟩, hF⟩, st⟩ | ⟨q, st₀, t, T', L, E, ce, h0, X', hL, e1, e2, ⟨u, hp, hb, hF⟩, hce, hcv, hcl, st⟩
  · cases hv
    obtain ⟨k1, k2, k3⟩ := vx_keep h0 e1 hS hA hf hL hF
    obtain ⟨t2, a1, b1⟩ := kk u t T'.heap (locs ++ L) e1.symm (by rw [← e2]; exact X'.warmed.alike) hp hb k1 k2 k3 T' rfl X'
    exact ⟨t2, st t2 a1, b1⟩
  · obtain ⟨k1, k2, k3⟩ := vx_keep h0 e1 hS hAX hf hL hF
    obtain ⟨t2, a1, b1⟩ := kx E ce q u t T'.heap (locs ++ L) e1.symm (by rw [← e2]; exact X'.warmed.alike) hp hb k1 k2 k3 (by rw [e1]; exact hce) hcv hcl T' rfl X'
    exact ⟨t2, st.trans a1, b1⟩
/-- caught by the row x of this method's table; the rows ahead don't take it -/
theorem vx_catch {own name : String} {E : String} {ce : Cell} {q : Addr} (hown : s.vm.findClass own = some m.cls) (pre : List ExceptionTableEntry) (x : ExceptionTableEntry) (suf : List ExceptionTableEntry) (hsplit : c.exceptionTable.toList = pre ++ x :: suf)
    (hpass : ∀ z ∈ pre, covers z pc = false ∨ (z.catchType ≠ 0 ∧ ∃ nm : String, (Cond.classLink own z.catchType nm).before args s = true ∧ va_Nc E nm s)) (hx : covers x pc = true) (h0 : x.catchType ≠ 0)
    (hlink : (Cond.classLink own x.catchType name).before args s = true) (hcast : (Cond.castable E name).before args s = true) (hcell : H[q]? = some ce) (hv : ce.vm = .none) (hcl : s.vm.findClass E = some ce.cls)
    (kk : W p l e R s m args below meth c H locs cells slots Q (F0 m x.handlerPc ls [.ref q])) : vx_W p l e R s m args below meth c H locs cells slots Q (F0 m pc ls rest) q := by
  intro T hT X
  have hpl : e.platform.magicAccessors = ({} : Platform).magicAccessors := by rw [X.admits.platform]
  obtain ⟨c3, c4, hc3, hc4, hasg⟩ := Cond.castable_spec hcast
  cases Option.some.inj (hc3.symm.trans hcl)
  obtain ⟨c5, hc5, hcl5⟩ := Cond.classLink_spec hown hlink e.platform hpl
  cases Option.some.inj (hc4.symm.trans hc5)
  obtain ⟨vm', X', st⟩ := X.thenCaughtThrough q (g := F0 m pc ls rest) rfl (Steps.refl _) (by rw [hT]; exact hcell) (by rw [hv]; rfl) (by obtain ⟨k9, h9, -⟩ := Vm.findClass_spec hcl; exact ⟨k9, h9⟩) pre x suf hsplit
    (fun z hz => by
      rcases hpass z hz with h | ⟨hz0, nm, hl1, hn1⟩
      · exact Or.inl h
      · obtain ⟨c6, hc6, hcl6⟩ := Cond.classLink_spec hown hl1 e.platform hpl
        obtain ⟨a8, b8, h1, h2, h3⟩ := hn1
        cases Option.some.inj (h1.symm.trans hcl)
        cases Option.some.inj (h2.symm.trans hc6)
        exact Or.inr ⟨hz0, _, hcl6, h3⟩) hx (Or.inr ⟨h0, c4, hcl5, hasg⟩)
  obtain ⟨t, a1, b1⟩ := kk (T.setVm vm') hT X'
  exact ⟨t, st.trans a1, b1⟩
end Rows
section Ends
variable {p : Program} {l : Launch} {e : Env} {R : Room} {s : State} {m : MethodId} {args : Array Value} {below : List Frame} {meth : Method} {c : Code} {H : Heap} {locs : List Loc} {cells slots : Nat} {Q : State → Prop}
variable {mc ms : Nat} {free : Addr → Prop} {A0 A1 : Nat → Prop} {H0 : Heap} {a : Array Value} {ls : Array Slot} {st0 rest : List Value}
variable {Qc : Array Value → State → Outcome → State → Prop} {XC : String → State → State → Prop}
/-- what a body that may throw owes at its end -/
def vx_MQ (below : List Frame) (Qc : Array Value → State → Outcome → State → Prop) (XC : String → State → State → Prop) (a : Array Value) (s : State) (mc ms : Nat) (free : Addr → Prop) : State → Prop := fun t =>
  ∃ o, t.status = .running ∧ Ended t below o ∧ vx_Q Qc XC mc ms free a s o t
theorem vx_ret {g : JFrame} {mc ms : Nat} (k : W p l e R s m args below meth c H locs cells slots (MQ below Qc args s mc ms free) g) : W p l e R s m args below meth c H locs cells slots (vx_MQ below Qc XC args s mc ms free) g := by
  intro T hT X
  obtain ⟨t, a1, o, b1, b2, b3, b4⟩ := k T hT X
  exact ⟨t, a1, o, b1, b2, Or.inl ⟨b3, b4⟩⟩
/-- not caught here: it goes on to the caller -/
theorem vx_widen {g : JFrame} {q : Addr} {k n : Nat} (h1 : cells ≤ k) (h2 : slots ≤ n) (kk : vx_W p l e R s m args below meth c H locs k n Q g q) : vx_W p l e R s m args below meth c H locs cells slots Q g q := fun T hT X => kk T hT (stand_widen X h1 h2)
theorem vx_out {pc : Nat} {E : String} {ce : Cell} {q : Addr} {mc ms : Nat} (hout : ∀ x ∈ c.exceptionTable.toList, covers x pc = false) (hlocks : meth.locks = false) (hcell : H[q]? = some ce) (hv : ce.vm = .none) (hcl : s.vm.findClass E = some ce.cls)
    (hx : ∀ t : State, t.heap = H → s.vm.Alike t.vm → XC E s t) (hf : ∀ z ∈ locs, free z.base) (hc : cells ≤ mc) (hs : slots ≤ ms) :
    vx_W p l e R s m args below meth c H locs cells slots (vx_MQ below Qc XC args s mc ms free) (F0 m pc ls rest) q := by
  intro T hT X
  obtain ⟨st1, hrun, hend, hW, hsm⟩ := X.leaveThrown q (g := F0 m pc ls rest) rfl rfl rfl hout hlocks
  have hcell9 : (T.setFrames (.throwing q :: below)).heap[q]? = some ce := by
    show T.heap[q]? = some ce
    rw [hT]; exact hcell
  exact ⟨_, st1, .threw q, hrun, hend, Or.inr ⟨q, rfl, E, ce, locs, hx _ hT hW.alike, hcell9, hv, hcl, hW, hsm.mono hc hs, hf⟩⟩
theorem vx_frame {U : State} {k n : Nat} (h : s.sameButNew ({ U with vm := s.vm } : State) locs k n) : s.heap.size ≤ U.heap.size ∧ ∀ q : Nat, q < s.heap.size → (∀ z ∈ locs, z.base ≠ q) → U.heap[q]? = s.heap[q]? := by
  obtain ⟨-, h2, -, -, -, h6⟩ := h
  refine ⟨h2, fun q hq hz => ?_⟩
  obtain ⟨c9, e1, e2, e3, e4⟩ := h6 q _ (Array.getElem?_eq_getElem hq)
  have hs : c9.slots = (s.heap[q]).slots := Array.ext_getElem? fun i => e4 i fun hm => hz _ hm rfl
  have h9 : c9 = s.heap[q] := by
    rw [hs] at e2
    exact e2
  have e5 : U.heap[q]? = some c9 := e1
  rw [e5, h9, Array.getElem?_eq_getElem hq]
/-- the words of a throw but the four that speak of the heap -/
def vx_no (w : Cond) : Bool := decide (w ≠ .isRef (.static Bundle.tN "UNASSIGNED_STACK" Bundle.steD)) && decide (w ≠ .isRef (.static Bundle.tN "SUPPRESSED_SENTINEL" Bundle.listD)) && decide (w ≠ .laysStatic Bundle.tN "UNASSIGNED_STACK" Bundle.steD) && decide (w ≠ .laysStatic Bundle.tN "SUPPRESSED_SENTINEL" Bundle.listD)
def vx_at0 (own : String) (ic : Nat) (X : String) (names : List String) : List Cond := (Bundle.ownAtoms0 own ic X names).filter vx_no
def vx_atS (own : String) (ic : Nat) (X : String) (names : List String) : List Cond := (Bundle.ownAtoms own ic X names).filter vx_no
/-- a word that the tables alone decide, or a good one -/
def vx_ot (w : Cond) : Bool := w.onTables || goodWord w
theorem vx_ot_at {args a' : Array Value} {s U : State} {w : Cond} (hW : s.WarmedH U.vm) (hvm : s.vm = U.vm) (hg : vx_ot w = true) (h : w.before args s = true) : w.before a' U = true := by
  simp only [vx_ot, Bool.or_eq_true] at hg
  rcases hg with hg | hg
  · exact va_tabs hg hvm h
  · exact word_at hW (good_of_word hg) h
/-- a list's words: the good ones out of the method's own list, the others by premises of their own -/
theorem vx_hat {args : Array Value} {s : State} {L B : List Cond} (h1 : ∀ w ∈ L.filter goodWord, w.before args s = true) (h2 : ∀ w ∈ L.filter (fun w => !goodWord w), w ∈ B) (h3 : ∀ w ∈ B, w.before args s = true) : ∀ w ∈ L, w.before args s = true := by
  intro w hw
  by_cases g : goodWord w = true
  · exact h1 w (List.mem_filter.mpr ⟨hw, g⟩)
  · refine h3 w (h2 w (List.mem_filter.mpr ⟨hw, ?_⟩))
    show (!goodWord w) = true
    cases hgw : goodWord w
    · rfl
    · exact absurd hgw g
theorem vx_c {args : Array Value} {s : State} {w : Cond} {B : List Cond} (h : w.before args s = true) (t : ∀ w ∈ B, w.before args s = true) : ∀ w' ∈ w :: B, w'.before args s = true := fun w' h' => (List.mem_cons.mp h').elim (fun e => by rw [e]; exact h) (t w')
theorem vx_n {args : Array Value} {s : State} : ∀ w ∈ ([] : List Cond), w.before args s = true := fun _ h => nomatch h
theorem vx_own {args : Array Value} {s : State} {L : List Cond} (h1 : ∀ w ∈ L.filter vx_no, w.before args s = true)
    (hU : (Cond.isRef (.static Bundle.tN "UNASSIGNED_STACK" Bundle.steD)).before args s = true) (hN : (Cond.isRef (.static Bundle.tN "SUPPRESSED_SENTINEL" Bundle.listD)).before args s = true)
    (lU : (Cond.laysStatic Bundle.tN "UNASSIGNED_STACK" Bundle.steD).before args s = true) (lN : (Cond.laysStatic Bundle.tN "SUPPRESSED_SENTINEL" Bundle.listD).before args s = true) : ∀ w ∈ L, w.before args s = true := by
  intro w hw
  by_cases e1 : w = .isRef (.static Bundle.tN "UNASSIGNED_STACK" Bundle.steD)
  · rw [e1]; exact hU
  · by_cases e2 : w = .isRef (.static Bundle.tN "SUPPRESSED_SENTINEL" Bundle.listD)
    · rw [e2]; exact hN
    · by_cases e3 : w = .laysStatic Bundle.tN "UNASSIGNED_STACK" Bundle.steD
      · rw [e3]; exact lU
      · by_cases e4 : w = .laysStatic Bundle.tN "SUPPRESSED_SENTINEL" Bundle.listD
        · rw [e4]; exact lN
        · exact h1 w (List.mem_filter.mpr ⟨hw, by unfold vx_no; rw [decide_eq_true e1, decide_eq_true e2, decide_eq_true e3, decide_eq_true e4]; rfl⟩)
/-- where a static field lies, its class's statics cell in H -/
def vx_L (C n d : String) (A : Nat → Prop) (U : State) (H : Heap) : Prop := ∃ (c : ClassId) (k : Class) (i : Nat) (f : Field) (a : Nat) (cell : Cell), U.vm.findClass C = some c ∧ U.fieldFound? C n d = some (c, k, i, f) ∧ f.isStatic = true ∧ k.statics = some a ∧ H[a]? = some cell ∧ cell.vm.isStatics = true ∧ cell.cls = c ∧ f.slot < cell.slots.size ∧ k.staticTypes[f.slot]? = some f.type ∧ ¬ A a
theorem vx_L.moved {C n d : String} {A : Nat → Prop} {u U : State} {H : Heap} (hvm : u.vm.Alike U.vm) (h : vx_L C n d A u H) : vx_L C n d A U H := by
  obtain ⟨c, k, i, f, a, cell, h1, h2, h3, h4, h5, h6, h7, h8, h9, h10⟩ := h
  obtain ⟨k', hi', he⟩ := State.fieldFound?_setVm hvm h2
  exact ⟨c, k', i, f, a, cell, by rw [hvm.findClass]; exact h1, hi', h3, by rw [he]; exact h4, h5, h6, h7, h8, by rw [he]; exact h9, h10⟩
theorem vx_L.kept {C n d : String} {A : Nat → Prop} {U : State} {H H1 : Heap} (h : vx_L C n d A U H) (hq : ∀ a : Nat, a < H.size → ¬ A a → H1[a]? = H[a]?) : vx_L C n d A U H1 := by
  obtain ⟨c, k, i, f, a, cell, h1, h2, h3, h4, h5, h6, h7, h8, h9, h10⟩ := h
  exact ⟨c, k, i, f, a, cell, h1, h2, h3, h4, by rw [hq a (Array.getElem?_eq_some_iff.mp h5).1 h10]; exact h5, h6, h7, h8, h9, h10⟩
theorem vx_L.narrow {C n d : String} {A B : Nat → Prop} {U : State} {H : Heap} (h : vx_L C n d A U H) (hAB : ∀ q, B q → A q) : vx_L C n d B U H := by
  obtain ⟨c, k, i, f, a, cell, h1, h2, h3, h4, h5, h6, h7, h8, h9, h10⟩ := h
  exact ⟨c, k, i, f, a, cell, h1, h2, h3, h4, h5, h6, h7, h8, h9, fun z => h10 (hAB _ z)⟩
theorem vx_L.word {C n d : String} {A : Nat → Prop} {s : State} {args : Array Value} (h : vx_L C n d A s s.heap) : (Cond.laysStatic C n d).before args s = true := by
  obtain ⟨c, k, i, f, a, cell, h1, h2, h3, h4, h5, h6, h7, h8, h9, -⟩ := h
  show (Cond.laysStatic C n d).holds args s none s [] = true
  exact Cond.laysStatic_of h1 h2 h3 h4 h5 h6 h7 h8 h9
/-- .. and what it holds: null or some reference -/
def vx_Zq (C n d : String) (A : Nat → Prop) (U : State) (H : Heap) : Prop := va_Zq C n d A U H ∧ vx_L C n d A U H
theorem vx_Zq.moved {C n d : String} {A : Nat → Prop} {u U : State} {H : Heap} (hvm : u.vm.Alike U.vm) (h : vx_Zq C n d A u H) : vx_Zq C n d A U H := ⟨va_Zq.moved hvm h.1, vx_L.moved hvm h.2⟩
theorem vx_Zq.kept {C n d : String} {A : Nat → Prop} {U : State} {H H1 : Heap} (h : vx_Zq C n d A U H) (hq : ∀ a : Nat, a < H.size → ¬ A a → H1[a]? = H[a]?) : vx_Zq C n d A U H1 := ⟨va_Zq.kept h.1 hq, vx_L.kept h.2 hq⟩
theorem vx_Zq.narrow {C n d : String} {A B : Nat → Prop} {U : State} {H : Heap} (h : vx_Zq C n d A U H) (hAB : ∀ q, B q → A q) : vx_Zq C n d B U H := ⟨va_Zq.narrow h.1 hAB, vx_L.narrow h.2 hAB⟩
theorem vx_Zqof {args : Array Value} {s : State} {C n d : String} {A : Nat → Prop} (hl : (Cond.laysStatic C n d).before args s = true) (hini : (Cond.initialized C).before args s = true) (h : (Cond.isRef (.static C n d)).before args s = true) (hA : ∀ a : Nat, a < s.heap.size → ¬ A a) : vx_Zq C n d A s s.heap := by
  refine ⟨va_Zqof hl hini h hA, ?_⟩
  obtain ⟨c, k, i, f, a, cell, h1, h2, h3, h4, h5, h6, h7, h8, h9⟩ := Cond.laysStatic_spec hl
  exact ⟨c, k, i, f, a, cell, h1, h2, h3, h4, h5, h6, h7, h8, h9, hA a (Array.getElem?_eq_some_iff.mp h5).1⟩
theorem vx_isRef {C n d : String} {v : Value} {A : Nat → Prop} {s : State} {args : Array Value} (h : va_Z C n d v A s s.heap) (hv : v.isRef = true) : (Cond.isRef (.static C n d)).before args s = true := by
  obtain ⟨cf, kf, fi, f, a, cell, h1, h2, h3, h4, h5, h6, h7, -⟩ := h
  have he : (Term.static C n d).eval args s none [] s = some v := by
    simp [Term.eval, State.fieldNamed?, h1, h2, h4, h5, h6, h7]
  simp only [Cond.before, Cond.holds, Cond.value, he]
  cases v <;> simp_all [Value.isRef]
theorem vx_isRefq {C n d : String} {A : Nat → Prop} {s : State} {args : Array Value} (h : va_Zq C n d A s s.heap) : (Cond.isRef (.static C n d)).before args s = true := by
  rcases h with h | ⟨t, h⟩
  · exact vx_isRef h rfl
  · exact vx_isRef h rfl
/-- the same frame, seen from here: as if the method were called anew in this heap -/
theorem vx_rebase {T : State} (X : Stand p l e R s m args below meth c T locs cells slots) {R' : Room} (hf : R'.frames ≤ R.frames) (hl : R'.locals ≤ R.locals) (hc : cells + R'.cells ≤ R.cells) (hs : slots + R'.slots ≤ R.slots) :
    Stand p l e R' ((T.setVm s.vm).setFrames (.invoking m args :: below)) m args below meth c T [] 0 0 := by
  have htop : (T.setVm s.vm).topJava?.isSome := X.here.top
  have hF : ((T.setVm s.vm).setFrames (.invoking m args :: below)).frames = .invoking m args :: below := State.frames_setFrames _ (State.cur_lt_of_top htop)
  obtain ⟨g₀, hg0⟩ := Option.isSome_iff_exists.mp htop
  obtain ⟨r, hr⟩ := State.topJava?_eq_some.mp hg0
  have hl9 : e.platform.stackLimits (T.setVm s.vm).me = e.platform.stackLimits s.me := X.limits
  have hb9 : (T.setVm s.vm).me.stackBytes = s.me.stackBytes := X.bytes
  refine ⟨X.admits, X.cas, X.clock, hF, ?_, X.hears, X.method, X.code, X.here, X.tail, X.warmed, ?_, ?_, ?_⟩
  · have h := X.room
    have hU : ((T.setVm s.vm).setFrames (.invoking m args :: below)).localsInUse = s.localsInUse := by
      rw [State.localsInUse_invoking hF (meth := meth) (c := c) X.method X.code, State.localsInUse_invoking X.frames X.method X.code]
    simp only [State.hasRoom, Bool.and_eq_true, decide_eq_true_eq] at h ⊢
    obtain ⟨⟨⟨⟨h1, h2, h3, h4, h5, h6⟩, h7⟩, h8⟩, h9⟩ := h
    rw [X.frames, List.length_cons] at h2 h3
    have q1 := X.heapSize
    have q2 := X.used
    simp only [hF, hU, List.length_cons, State.stackLimits_setFrames, State.stackBytes_setFrames, hl9, hb9]
    refine ⟨⟨⟨⟨by omega, by omega, by omega, by omega, by omega, h6⟩, ?_⟩, ?_⟩, X.book⟩
    · show T.heap.size + R'.cells ≤ e.platform.maxCells
      omega
    · show T.slotsUsed + R'.slots ≤ e.platform.maxSlots
      omega
  · rw [State.stackLimits_setFrames]; rfl
  · rw [State.stackBytes_setFrames]; rfl
  · refine ⟨?_, Nat.le_refl _, Nat.le_refl _, ?_, ?_, fun a c9 h9 => ⟨c9, h9, rfl, rfl, fun _ _ => rfl⟩⟩
    · obtain ⟨t, ht, -⟩ := State.frames_cons hr
      show T.setVm s.vm = { ((T.setVm s.vm).setFrames (.invoking m args :: below)).setFrames (T.setVm s.vm).frames with heap := T.heap, slotsUsed := T.slotsUsed }
      rw [State.setFrames_setFrames, State.setFrames_self ht]
      rfl
    · show T.slotsUsed = T.slotsUsed + ((T.heap.toList.drop T.heap.size).map (·.slots.size)).sum
      rw [List.drop_eq_nil_of_le (Nat.le_of_eq Array.length_toList)]
      rfl
    · show ((T.heap.toList.drop T.heap.size).map (·.slots.size)).sum ≤ 0
      rw [List.drop_eq_nil_of_le (Nat.le_of_eq Array.length_toList)]
      exact Nat.le_refl _
/-- 'throw new E()': new; dup; invokespecial; athrow -/
theorem vx_throw0 {cc : ByteArray} {pc : Nat} (hexec : p.tables.exec = Jvm.exec) (hb : c.code = cc) (hl : l.stackTraces = false) {own cls : String} {names : List String} {ik ic mc ms : Nat} {A : Nat → Prop}
    (hown : s.vm.findClass own = some m.cls) (hcls : Bundle.fit cls = true) (hnames : ∀ n ∈ names, Bundle.fit n = true)
    (hk : (Cond.classLink own ik cls).before args s = true) (hini : (Cond.initialized cls).before args s = true) (hat : ∀ w ∈ vx_at0 own ic cls names, w.before args s = true)
    (hgood : ∀ w ∈ Cond.classLink own ik cls :: Cond.initialized cls :: vx_at0 own ic cls names, vx_ot w = true)
    (hU : vx_Zq Bundle.tN "UNASSIGNED_STACK" Bundle.steD A s s.heap) (hN : vx_Zq Bundle.tN "SUPPRESSED_SENTINEL" Bundle.listD A s s.heap) (hS : va_S A s.heap H locs) (hsize : ls.size = c.maxLocals)
    (d0 : decode cc pc = .ok (.new ik, 3)) (d3 : decode cc (pc + 3) = .ok (.dup, 1)) (d4 : decode cc (pc + 4) = .ok (.invokespecial ic, 3)) (d7 : decode cc (pc + 7) = .ok (.athrow, 1))
    (hout : ∀ x ∈ c.exceptionTable.toList, covers x (pc + 7) = false)
    (hRframes : names.length + 3 < R.frames) (hRlocals : (rest.map fun v => v.category).sum + (13 * (names.length + 1) + 42) ≤ R.locals) (hRcells : cells + 1 ≤ R.cells) (hRslots : slots + 6 ≤ R.slots) (hlocks : meth.locks = false)
    (hx : ∀ t : State, s.vm.Alike t.vm → H.size ≤ t.heap.size → (∀ q : Nat, q < H.size → t.heap[q]? = H[q]?) → XC cls s t)
    (hf : ∀ z ∈ locs, free z.base) (hc : cells + 1 ≤ mc) (hs : slots + 6 ≤ ms) :
    W p l e R s m args below meth c H locs cells slots (vx_MQ below Qc XC args s mc ms free) (F0 m pc ls rest) := by
  intro T hT X
  have htr : e.platform.stackTraces = false := (show e.platform.stackTraces = l.stackTraces by rw [X.admits.platform]).trans hl
  have Y := vx_rebase X (R' := { frames := R.frames, locals := R.locals, cells := 1, slots := 6 }) (Nat.le_refl _) (Nat.le_refl _) hRcells hRslots
  obtain ⟨s', hA⟩ : ∃ z, z = (T.setVm s.vm).setFrames (.invoking m args :: below) := ⟨_, rfl⟩
  rw [← hA] at Y
  have hvm : s'.vm = s.vm := by rw [hA]; rfl
  have hhp : s'.heap = H := by rw [hA]; exact hT
  have hW0 : s.WarmedH s'.vm := by rw [hvm]; exact State.WarmedH.refl s
  have hat' : ∀ w ∈ vx_at0 own ic cls names, w.before args s' = true := fun w hw => vx_ot_at hW0 hvm.symm (hgood w (List.mem_cons_of_mem _ (List.mem_cons_of_mem _ hw))) (hat w hw)
  have hk' : (Cond.classLink own ik cls).before args s' = true := vx_ot_at hW0 hvm.symm (hgood _ List.mem_cons_self) hk
  have hini' : (Cond.initialized cls).before args s' = true := vx_ot_at hW0 hvm.symm (hgood _ (List.mem_cons_of_mem _ List.mem_cons_self)) hini
  have hU' : vx_Zq Bundle.tN "UNASSIGNED_STACK" Bundle.steD A s' s'.heap := by rw [hhp]; exact vx_Zq.moved hW0.alike (hU.kept hS.2.1)
  have hN' : vx_Zq Bundle.tN "SUPPRESSED_SENTINEL" Bundle.listD A s' s'.heap := by rw [hhp]; exact vx_Zq.moved hW0.alike (hN.kept hS.2.1)
  have h : ∀ w ∈ Bundle.ownAtoms0 own ic cls names, w.before args s' = true := vx_own hat' (vx_isRefq hU'.1) (vx_isRefq hN'.1) hU'.2.word hN'.2.word
  have hown' : s'.vm.findClass own = some m.cls := by rw [hvm]; exact hown
  have hins : (Cond.instantiable cls 6).before args s' = true := h _ (by simp [Bundle.ownAtoms0])
  obtain ⟨vm₁, cX, kX, hfX, hkX, -, -, X₁, st1⟩ := Y.newCold hexec (own := own) (C := cls) (index := ik) (n := 6) hown' hk' hins hini'
    (g := F0 m pc ls rest) rfl (by rw [hb]; exact d0) (Nat.le_refl _) (Nat.le_refl _)
  generalize hT1 : (T.setVm vm₁).pushCell { cls := cX, slots := kX.instanceTypes.map defaultValue, vm := .none } = T1 at X₁ st1
  have hcat : (Value.ref T.heap.size).category = 1 := rfl
  have hcellA : T1.heap[T.heap.size]? = some (freshCell cX kX) := by rw [← hT1]; exact State.heap_pushCell_size _ _
  have d3' : decode c.code (pc + 3) = .ok (.dup, 1) := by rw [hb]; exact d3
  obtain ⟨U, hsteps, hrun, hend, hW, hsame, ce, hce, hO⟩ := X₁.ctorThrow0 hexec htr (own := own) (cls := cls) (names := names) (ic := ic) hown' hcls hnames h (fun x hx => nomatch hx) hfX hkX hcellA (by rw [hhp, hT]; exact Nat.le_refl _)
    (g := { method := m, pc := pc + 4, locals := ls, stack := .ref T.heap.size :: .ref T.heap.size :: rest, locked := none }) rfl hsize rfl rfl (rest := rest) rfl
    (by rw [hb]; exact d4) (by rw [hb]; exact d7) hout hRframes (by simp only [List.map_cons, List.sum_cons, hcat]; omega) hlocks
  obtain ⟨f1, f2⟩ := vx_frame hsame
  rw [hhp] at f1 f2
  have hWs : s.WarmedH U.vm := State.WarmedH.trans hW0 hW
  have hcl : s.vm.findClass cls = some ce.cls := by
    have h9 := hO.cls
    rw [hvm] at h9
    exact h9
  have hall : s.sameButNew ({ U with vm := s.vm } : State) locs mc ms := by
    subst hA
    obtain ⟨e1, e2⟩ := hsame
    rw [State.setFrames_setFrames] at e1
    have h2 : (T.setVm s.vm).sameButNew ({ U with vm := s.vm } : State) [] (0 + 1) (0 + 6) := ⟨e1, e2⟩
    have h3 := X.same.trans h2
    rw [List.append_nil] at h3
    exact h3.mono hc hs
  refine ⟨U, ?_, .threw T.heap.size, hrun, hend, Or.inr ⟨T.heap.size, rfl, cls, ce, locs, hx U hWs.alike f1 (fun q hq => f2 q hq (fun z hz => nomatch hz)), hce, hO.vm, hcl, hWs, hall, hf⟩⟩
  refine st1 _ ?_
  show Steps p.tables e below (T1.setTop { method := m, pc := pc + 3, locals := ls, stack := .ref T.heap.size :: rest, locked := none }) _
  jvm_step X₁.here [X₁.here.top, hexec, d3', Value.category]
  exact hsteps
/-- 'throw new E("text")': new; dup; ldc; invokespecial; athrow -/
theorem vx_throwS {cc : ByteArray} {pc : Nat} (hexec : p.tables.exec = Jvm.exec) (hb : c.code = cc) (hl : l.stackTraces = false) {own cls text : String} {names : List String} {ik is ic mc ms sa : Nat} {A : Nat → Prop}
    (hown : s.vm.findClass own = some m.cls) (hcls : Bundle.fit cls = true) (hnames : ∀ n ∈ names, Bundle.fit n = true)
    (hk : (Cond.classLink own ik cls).before args s = true) (hini : (Cond.initialized cls).before args s = true) (hstr : vk_R own is text sa s) (hat : ∀ w ∈ vx_atS own ic cls names, w.before args s = true)
    (hgood : ∀ w ∈ Cond.classLink own ik cls :: Cond.initialized cls :: vx_atS own ic cls names, vx_ot w = true)
    (hU : vx_Zq Bundle.tN "UNASSIGNED_STACK" Bundle.steD A s s.heap) (hN : vx_Zq Bundle.tN "SUPPRESSED_SENTINEL" Bundle.listD A s s.heap) (hS : va_S A s.heap H locs) (hsize : ls.size = c.maxLocals)
    (d0 : decode cc pc = .ok (.new ik, 3)) (d3 : decode cc (pc + 3) = .ok (.dup, 1)) (d4 : decode cc (pc + 4) = .ok (.ldc is, 2)) (d6 : decode cc (pc + 6) = .ok (.invokespecial ic, 3)) (d9 : decode cc (pc + 9) = .ok (.athrow, 1))
    (hout : ∀ x ∈ c.exceptionTable.toList, covers x (pc + 9) = false)
    (hRframes : names.length + 3 < R.frames) (hRlocals : (rest.map fun v => v.category).sum + (13 * (names.length + 1) + 43) ≤ R.locals) (hRcells : cells + 1 ≤ R.cells) (hRslots : slots + 6 ≤ R.slots) (hlocks : meth.locks = false)
    (hx : ∀ t : State, s.vm.Alike t.vm → H.size ≤ t.heap.size → (∀ q : Nat, q < H.size → t.heap[q]? = H[q]?) → XC cls s t)
    (hf : ∀ z ∈ locs, free z.base) (hc : cells + 1 ≤ mc) (hs : slots + 6 ≤ ms) :
    W p l e R s m args below meth c H locs cells slots (vx_MQ below Qc XC args s mc ms free) (F0 m pc ls rest) := by
  intro T hT X
  have htr : e.platform.stackTraces = false := (show e.platform.stackTraces = l.stackTraces by rw [X.admits.platform]).trans hl
  have Y := vx_rebase X (R' := { frames := R.frames, locals := R.locals, cells := 1, slots := 6 }) (Nat.le_refl _) (Nat.le_refl _) hRcells hRslots
  obtain ⟨s', hA⟩ : ∃ z, z = (T.setVm s.vm).setFrames (.invoking m args :: below) := ⟨_, rfl⟩
  rw [← hA] at Y
  have hvm : s'.vm = s.vm := by rw [hA]; rfl
  have hhp : s'.heap = H := by rw [hA]; exact hT
  have hW0 : s.WarmedH s'.vm := by rw [hvm]; exact State.WarmedH.refl s
  have hat' : ∀ w ∈ vx_atS own ic cls names, w.before args s' = true := fun w hw => vx_ot_at hW0 hvm.symm (hgood w (List.mem_cons_of_mem _ (List.mem_cons_of_mem _ hw))) (hat w hw)
  have hk' : (Cond.classLink own ik cls).before args s' = true := vx_ot_at hW0 hvm.symm (hgood _ List.mem_cons_self) hk
  have hini' : (Cond.initialized cls).before args s' = true := vx_ot_at hW0 hvm.symm (hgood _ (List.mem_cons_of_mem _ List.mem_cons_self)) hini
  have hU' : vx_Zq Bundle.tN "UNASSIGNED_STACK" Bundle.steD A s' s'.heap := by rw [hhp]; exact vx_Zq.moved hW0.alike (hU.kept hS.2.1)
  have hN' : vx_Zq Bundle.tN "SUPPRESSED_SENTINEL" Bundle.listD A s' s'.heap := by rw [hhp]; exact vx_Zq.moved hW0.alike (hN.kept hS.2.1)
  have h : ∀ w ∈ Bundle.ownAtoms own ic cls names, w.before args s' = true := vx_own hat' (vx_isRefq hU'.1) (vx_isRefq hN'.1) hU'.2.word hN'.2.word
  have hown' : s'.vm.findClass own = some m.cls := by rw [hvm]; exact hown
  have hins : (Cond.instantiable cls 6).before args s' = true := h _ (by simp [Bundle.ownAtoms])
  obtain ⟨vm₁, cX, kX, hfX, hkX, -, -, X₁, st1⟩ := Y.newCold hexec (own := own) (C := cls) (index := ik) (n := 6) hown' hk' hins hini'
    (g := F0 m pc ls rest) rfl (by rw [hb]; exact d0) (Nat.le_refl _) (Nat.le_refl _)
  generalize hT1 : (T.setVm vm₁).pushCell { cls := cX, slots := kX.instanceTypes.map defaultValue, vm := .none } = T1 at X₁ st1
  have hcat : (Value.ref T.heap.size).category = 1 := rfl
  have hcellA : T1.heap[T.heap.size]? = some (freshCell cX kX) := by rw [← hT1]; exact State.heap_pushCell_size _ _
  have d3' : decode c.code (pc + 3) = .ok (.dup, 1) := by rw [hb]; exact d3
  have d4' : decode c.code (pc + 4) = .ok (.ldc is, 2) := by rw [hb]; exact d4
  have hstr' : vk_R own is text sa s' := vk_R.warm hW0 hstr
  obtain ⟨U, hsteps, hrun, hend, hW, hsame, ce, hce, hO⟩ := X₁.ctorThrowS hexec htr (own := own) (cls := cls) (names := names) (ic := ic) hown' hcls hnames h (fun x hx => nomatch hx) hfX hkX hcellA (by rw [hhp, hT]; exact Nat.le_refl _) (msg := .ref sa) rfl
    (g := { method := m, pc := pc + 6, locals := ls, stack := .ref sa :: .ref T.heap.size :: .ref T.heap.size :: rest, locked := none }) rfl hsize rfl rfl (rest := rest) rfl
    (by rw [hb]; exact d6) (by rw [hb]; exact d9) hout hRframes (by simp only [List.map_cons, List.sum_cons, hcat]; omega) hlocks
  obtain ⟨f1, f2⟩ := vx_frame hsame
  rw [hhp] at f1 f2
  have hWs : s.WarmedH U.vm := State.WarmedH.trans hW0 hW
  have hcl : s.vm.findClass cls = some ce.cls := by
    have h9 := hO.cls
    rw [hvm] at h9
    exact h9
  have hall : s.sameButNew ({ U with vm := s.vm } : State) locs mc ms := by
    subst hA
    obtain ⟨e1, e2⟩ := hsame
    rw [State.setFrames_setFrames] at e1
    have h2 : (T.setVm s.vm).sameButNew ({ U with vm := s.vm } : State) [] (0 + 1) (0 + 6) := ⟨e1, e2⟩
    have h3 := X.same.trans h2
    rw [List.append_nil] at h3
    exact h3.mono hc hs
  refine ⟨U, ?_, .threw T.heap.size, hrun, hend, Or.inr ⟨T.heap.size, rfl, cls, ce, locs, hx U hWs.alike f1 (fun q hq => f2 q hq (fun z hz => nomatch hz)), hce, hO.vm, hcl, hWs, hall, hf⟩⟩
  refine st1 _ ?_
  show Steps p.tables e below (T1.setTop { method := m, pc := pc + 3, locals := ls, stack := .ref T.heap.size :: rest, locked := none }) _
  jvm_step X₁.here [X₁.here.top, hexec, d3', Value.category]
  exact X₁.ldcString hexec (own := own) (text := text) (index := is) (a := sa) hown' hstr'.1 hstr'.2
    (g := { method := m, pc := pc + 4, locals := ls, stack := .ref T.heap.size :: .ref T.heap.size :: rest, locked := none }) rfl d4' _ hsteps
/-- 'throw new E("text")', the text by a wide index -/
theorem vx_throwSW {cc : ByteArray} {pc : Nat} (hexec : p.tables.exec = Jvm.exec) (hb : c.code = cc) (hl : l.stackTraces = false) {own cls text : String} {names : List String} {ik is ic mc ms sa : Nat} {A : Nat → Prop}
    (hown : s.vm.findClass own = some m.cls) (hcls : Bundle.fit cls = true) (hnames : ∀ n ∈ names, Bundle.fit n = true)
    (hk : (Cond.classLink own ik cls).before args s = true) (hini : (Cond.initialized cls).before args s = true) (hstr : vk_R own is text sa s) (hat : ∀ w ∈ vx_atS own ic cls names, w.before args s = true)
    (hgood : ∀ w ∈ Cond.classLink own ik cls :: Cond.initialized cls :: vx_atS own ic cls names, vx_ot w = true)
    (hU : vx_Zq Bundle.tN "UNASSIGNED_STACK" Bundle.steD A s s.heap) (hN : vx_Zq Bundle.tN "SUPPRESSED_SENTINEL" Bundle.listD A s s.heap) (hS : va_S A s.heap H locs) (hsize : ls.size = c.maxLocals)
    (d0 : decode cc pc = .ok (.new ik, 3)) (d3 : decode cc (pc + 3) = .ok (.dup, 1)) (d4 : decode cc (pc + 4) = .ok (.ldc_w is, 3)) (d7 : decode cc (pc + 7) = .ok (.invokespecial ic, 3)) (d10 : decode cc (pc + 10) = .ok (.athrow, 1))
    (hout : ∀ x ∈ c.exceptionTable.toList, covers x (pc + 10) = false)
    (hRframes : names.length + 3 < R.frames) (hRlocals : (rest.map fun v => v.category).sum + (13 * (names.length + 1) + 43) ≤ R.locals) (hRcells : cells + 1 ≤ R.cells) (hRslots : slots + 6 ≤ R.slots) (hlocks : meth.locks = false)
    (hx : ∀ t : State, s.vm.Alike t.vm → H.size ≤ t.heap.size → (∀ q : Nat, q < H.size → t.heap[q]? = H[q]?) → XC cls s t)
    (hf : ∀ z ∈ locs, free z.base) (hc : cells + 1 ≤ mc) (hs : slots + 6 ≤ ms) :
    W p l e R s m args below meth c H locs cells slots (vx_MQ below Qc XC args s mc ms free) (F0 m pc ls rest) := by
  intro T hT X
  have htr : e.platform.stackTraces = false := (show e.platform.stackTraces = l.stackTraces by rw [X.admits.platform]).trans hl
  have Y := vx_rebase X (R' := { frames := R.frames, locals := R.locals, cells := 1, slots := 6 }) (Nat.le_refl _) (Nat.le_refl _) hRcells hRslots
  obtain ⟨s', hA⟩ : ∃ z, z = (T.setVm s.vm).setFrames (.invoking m args :: below) := ⟨_, rfl⟩
  rw [← hA] at Y
  have hvm : s'.vm = s.vm := by rw [hA]; rfl
  have hhp : s'.heap = H := by rw [hA]; exact hT
  have hW0 : s.WarmedH s'.vm := by rw [hvm]; exact State.WarmedH.refl s
  have hat' : ∀ w ∈ vx_atS own ic cls names, w.before args s' = true := fun w hw => vx_ot_at hW0 hvm.symm (hgood w (List.mem_cons_of_mem _ (List.mem_cons_of_mem _ hw))) (hat w hw)
  have hk' : (Cond.classLink own ik cls).before args s' = true := vx_ot_at hW0 hvm.symm (hgood _ List.mem_cons_self) hk
  have hini' : (Cond.initialized cls).before args s' = true := vx_ot_at hW0 hvm.symm (hgood _ (List.mem_cons_of_mem _ List.mem_cons_self)) hini
  have hU' : vx_Zq Bundle.tN "UNASSIGNED_STACK" Bundle.steD A s' s'.heap := by rw [hhp]; exact vx_Zq.moved hW0.alike (hU.kept hS.2.1)
  have hN' : vx_Zq Bundle.tN "SUPPRESSED_SENTINEL" Bundle.listD A s' s'.heap := by rw [hhp]; exact vx_Zq.moved hW0.alike (hN.kept hS.2.1)
  have h : ∀ w ∈ Bundle.ownAtoms own ic cls names, w.before args s' = true := vx_own hat' (vx_isRefq hU'.1) (vx_isRefq hN'.1) hU'.2.word hN'.2.word
  have hown' : s'.vm.findClass own = some m.cls := by rw [hvm]; exact hown
  have hins : (Cond.instantiable cls 6).before args s' = true := h _ (by simp [Bundle.ownAtoms])
  obtain ⟨vm₁, cX, kX, hfX, hkX, -, -, X₁, st1⟩ := Y.newCold hexec (own := own) (C := cls) (index := ik) (n := 6) hown' hk' hins hini'
    (g := F0 m pc ls rest) rfl (by rw [hb]; exact d0) (Nat.le_refl _) (Nat.le_refl _)
  generalize hT1 : (T.setVm vm₁).pushCell { cls := cX, slots := kX.instanceTypes.map defaultValue, vm := .none } = T1 at X₁ st1
  have hcat : (Value.ref T.heap.size).category = 1 := rfl
  have hcellA : T1.heap[T.heap.size]? = some (freshCell cX kX) := by rw [← hT1]; exact State.heap_pushCell_size _ _
  have d3' : decode c.code (pc + 3) = .ok (.dup, 1) := by rw [hb]; exact d3
  have d4' : decode c.code (pc + 4) = .ok (.ldc_w is, 3) := by rw [hb]; exact d4
  have hstr' : vk_R own is text sa s' := vk_R.warm hW0 hstr
  obtain ⟨U, hsteps, hrun, hend, hW, hsame, ce, hce, hO⟩ := X₁.ctorThrowS hexec htr (own := own) (cls := cls) (names := names) (ic := ic) hown' hcls hnames h (fun x hx => nomatch hx) hfX hkX hcellA (by rw [hhp, hT]; exact Nat.le_refl _) (msg := .ref sa) rfl
    (g := { method := m, pc := pc + 7, locals := ls, stack := .ref sa :: .ref T.heap.size :: .ref T.heap.size :: rest, locked := none }) rfl hsize rfl rfl (rest := rest) rfl
    (by rw [hb]; exact d7) (by rw [hb]; exact d10) hout hRframes (by simp only [List.map_cons, List.sum_cons, hcat]; omega) hlocks
  obtain ⟨f1, f2⟩ := vx_frame hsame
  rw [hhp] at f1 f2
  have hWs : s.WarmedH U.vm := State.WarmedH.trans hW0 hW
  have hcl : s.vm.findClass cls = some ce.cls := by
    have h9 := hO.cls
    rw [hvm] at h9
    exact h9
  have hall : s.sameButNew ({ U with vm := s.vm } : State) locs mc ms := by
    subst hA
    obtain ⟨e1, e2⟩ := hsame
    rw [State.setFrames_setFrames] at e1
    have h2 : (T.setVm s.vm).sameButNew ({ U with vm := s.vm } : State) [] (0 + 1) (0 + 6) := ⟨e1, e2⟩
    have h3 := X.same.trans h2
    rw [List.append_nil] at h3
    exact h3.mono hc hs
  refine ⟨U, ?_, .threw T.heap.size, hrun, hend, Or.inr ⟨T.heap.size, rfl, cls, ce, locs, hx U hWs.alike f1 (fun q hq => f2 q hq (fun z hz => nomatch hz)), hce, hO.vm, hcl, hWs, hall, hf⟩⟩
  refine st1 _ ?_
  show Steps p.tables e below (T1.setTop { method := m, pc := pc + 3, locals := ls, stack := .ref T.heap.size :: rest, locked := none }) _
  jvm_step X₁.here [X₁.here.top, hexec, d3', Value.category]
  exact X₁.ldcStringW hexec (own := own) (text := text) (index := is) (a := sa) hown' hstr'.1 hstr'.2
    (g := { method := m, pc := pc + 4, locals := ls, stack := .ref T.heap.size :: .ref T.heap.size :: rest, locked := none }) rfl d4' _ hsteps
end Ends
section Bodies
variable {l : Launch}
theorem vx_ofW {y : MethodName} {ws ws' : List Cond} {rm : Room} {Pc : Array Value → State → Prop} {Qc : Array Value → State → Outcome → State → Prop} {XC : String → State → State → Prop} {mc ms : Nat} {free : Addr → Prop} {cc : ByteArray} {maxL : Nat} {ret : Option FieldType}
    (hy : plainName y.cls = true) (hw : ws = Cond.code y cc maxL ret :: ws')
    (body : ∀ p e s m args below meth c s₁, BodyLoose p l y (headSpec ws rm) cc maxL ret e s m args below meth c s₁ → c.maxLocals = maxL → (∀ x ∈ c.exceptionTable.toList, False) → Pc args s →
      W p l e (headSpec ws rm).room s m args below meth c s.heap [] 0 0 (vx_MQ below Qc XC args s mc ms free) (entryFrame m args maxL)) : vx_Met l y ws rm Pc Qc XC mc ms free := by
  refine MetFree.of_bodyS (code := cc) (maxLocals := maxL) (ret := ret) hy ?_ ?_
  · intro args s m h hn
    obtain ⟨meth, c, h1, h2, h3, h4, h5, h6, -, -⟩ := Cond.code_spec hn (atoms_spec (ws := ws) h _ (by rw [hw]; exact List.mem_cons_self))
    exact ⟨meth, c, h1, h2, h3, h4, h5, h6⟩
  · intro p e s m args below meth c s₁ B hml hP _
    have hh0 : s₁.heap = s.heap := by rw [B.state]; rfl
    have ht : ∀ x ∈ c.exceptionTable.toList, False := by
      obtain ⟨meth9, c9, h1, h2, -, -, -, -, h7, -⟩ := Cond.code_spec B.named (atoms_spec (ws := ws) B.pre _ (by rw [hw]; exact List.mem_cons_self))
      cases Option.some.inj (h1.symm.trans B.method)
      cases Option.some.inj (h2.symm.trans (Stand.of_body B).code)
      intro x hx
      rw [Array.isEmpty_iff.mp h7] at hx
      cases hx
    obtain ⟨t, a1, o, b1, b2, b3⟩ := body p e s m args below meth c s₁ B hml ht hP s₁ hh0 (Stand.of_body B)
    exact ⟨t, o, a1, b1, b2, b3⟩
/-- the table of a body with handlers -/
theorem vx_table {p : Program} {x y : MethodName} {S : Spec} {cc bytes : ByteArray} {maxL maxL' : Nat} {ret ret' : Option FieldType} {e : Env} {s s₁ : State} {m : MethodId} {args : Array Value} {below : List Frame} {meth : Method} {c : Code} {hh : List (Nat × Nat × Nat × Nat)}
    (B : BodyLoose p l y S cc maxL ret e s m args below meth c s₁) (h : (Cond.codeWith y bytes maxL' ret' hh).before args s = true) : c.exceptionTable.toList = tableOf hh := by
  obtain ⟨m9, meth9, c9, hn9, h1, h2, -, -, h6, -⟩ := Cond.codeWith_spec h
  cases Option.some.inj (hn9.symm.trans B.named)
  cases Option.some.inj (h1.symm.trans B.method)
  cases Option.some.inj (h2.symm.trans (Stand.of_body B).code)
  rw [← h6, table_eq]
end Bodies
end VXA
/-! ===== END ===== -/
/-! ===== BEGIN a static call of a method with an exception table ===== -/
section VXS
variable {p : Program} {l : Launch} {e : Env} {R : Room} {s : State} {m : MethodId} {args : Array Value} {below : List Frame} {meth : Method} {c : Code} {T : State} {H : Heap} {locs : List Loc} {cells slots : Nat}
abbrev vx_CSW (R : Room) (s : State) (args : Array Value) (own : String) (index : Nat) (y : MethodName) (bytes : ByteArray) (maxL : Nat) (ret : Option FieldType) (hh : List (Nat × Nat × Nat × Nat)) (ws : List Cond) (rm : Room) (mc ms n : Nat) : Prop :=
  (rm.cells = mc ∧ rm.slots = ms ∧ rm.frames + 1 ≤ R.frames ∧ 8 + (maxL + 11) + rm.locals ≤ R.locals ∧ (∀ w ∈ ws, ∀ (a' : Array Value) (U : State), s.WarmedH U.vm → w.before a' U = true) ∧ Cond.codeWith y bytes maxL ret hh ∈ ws) ∧
  (Cond.codeWith y bytes maxL ret hh).before args s = true ∧ (Cond.initialized y.cls).before args s = true ∧ (y.cls ≠ "java/lang/invoke/MethodHandle" ∧ y.cls ≠ "java/lang/invoke/VarHandle") ∧
  (∀ sig, parseMethodDescriptor y.desc = some sig → n = sig.parameters.length) ∧ (Cond.methodLink own index y).before args s = true ∧ (Cond.static y).before args s = true
theorem vx_cwSW {own : String} {index maxL mc ms : Nat} {y : MethodName} {bytes : ByteArray} {ret : Option FieldType} {hh : List (Nat × Nat × Nat × Nat)} {Ts ws ws' : List Cond} {rm : Room} (n : Nat) (ht : ∀ w ∈ Ts, w.before args s = true) (hT : GoodIn Ts (va_wsS own index y ws)) (hw : ws = Cond.codeWith y bytes maxL ret hh :: ws') (hrc : rm.cells = mc) (hrs : rm.slots = ms)
    (hd : y.cls ≠ "java/lang/invoke/MethodHandle" ∧ y.cls ≠ "java/lang/invoke/VarHandle" ∧ (parseMethodDescriptor y.desc).map (fun d => d.parameters.length) = some n) (hR : rm.frames + 1 ≤ R.frames ∧ 8 + (maxL + 11) + rm.locals ≤ R.locals) :
    vx_CSW R s args own index y bytes maxL ret hh ws rm mc ms n := by
  have ok : ∀ w ∈ va_wsS own index y ws, w.before args s = true := fun w h => ht w (hT w h).1
  have hG : GoodIn Ts ws := fun w h => hT w (by unfold va_wsS; exact List.mem_append_right _ h)
  have hc : Cond.codeWith y bytes maxL ret hh ∈ ws := by rw [hw]; exact List.mem_cons_self
  refine ⟨⟨hrc, hrs, hR.1, hR.2, pay_in ht hG, hc⟩, ht _ (hG _ hc).1, ok _ (by simp [va_wsS]), ⟨hd.1, hd.2.1⟩, fun sig h => ?_, ok _ (by simp [va_wsS]), ok _ (by simp [va_wsS])⟩
  have h2 := hd.2.2
  rw [h] at h2
  exact (Option.some.inj h2).symm
theorem vx_callSW (X : Stand p l e R s m args below meth c T locs cells slots) (hexec : p.tables.exec = Jvm.exec) {own : String} {index : Nat} {y : MethodName} {bytes : ByteArray} {maxL : Nat} {ret : Option FieldType} {hh : List (Nat × Nat × Nat × Nat)}
    (hown : s.vm.findClass own = some m.cls) (hlink : (Cond.methodLink own index y).before args s = true) (hstat : (Cond.static y).before args s = true) (hinit : (Cond.initialized y.cls).before args s = true)
    (hcode : (Cond.codeWith y bytes maxL ret hh).before args s = true) (hy : y.cls ≠ "java/lang/invoke/MethodHandle" ∧ y.cls ≠ "java/lang/invoke/VarHandle")
    {W9 : Nat} {Pre : Pt → Array Value → Prop} {Post : Pt → Array Value → Option Value → Pt → Prop} (hK : Back l R p e below s args y 3 W9 Pre Post)
    {g : JFrame} (hg : g.method = m) (hsize : g.locals.size = c.maxLocals) {argsL rest : List Value} (hlen : ∀ sig, parseMethodDescriptor y.desc = some sig → argsL.length = sig.parameters.length)
    (hstack : g.stack = argsL.reverse ++ rest) (hW : 2 * g.monitorRoom + (rest.map fun v => v.category).sum ≤ W9) (hdg : decode c.code g.pc = .ok (.invokestatic index, 3))
    (hpre : ∀ vm₁, s.WarmedH vm₁ → Pre ⟨T.setVm vm₁, locs, cells, slots⟩ argsL.toArray) :
    ∃ (v : Option Value) (vm₁ : Vm) (B : Pt), s.WarmedH vm₁ ∧ Stand p l e R s m args below meth c B.U B.locs B.cells B.slots ∧ Post ⟨T.setVm vm₁, locs, cells, slots⟩ argsL.toArray v B ∧
      ∀ target, Steps p.tables e below (B.U.setTop { g with pc := g.pc + 3, stack := v.toList ++ rest }) target → Steps p.tables e below (T.setTop g) target := by
  obtain ⟨mk, methM, cM, hnamed, hmethM, -, -, -, -, -, -, hsigM⟩ := Cond.codeWith_spec hcode
  have hstatic : methM.isStatic = true := Cond.static_spec hnamed hmethM hstat
  obtain ⟨kP, hkP, -⟩ := className_of_methodNamed hnamed
  have hinitP : kP.init = .initialized := Cond.initialized_spec (findClass_of_methodNamed hnamed) hkP hinit
  obtain ⟨vm₁, X₁, hstep₁⟩ := X.invokestatic hexec hown hlink hnamed hmethM hstatic hkP hinitP hy (g := g) hg (argsL := argsL) (rest := rest) (hlen _ hsigM) hstack hdg
  obtain ⟨v, B, X', hpost, hsteps⟩ := hK m meth c ⟨T.setVm vm₁, locs, cells, slots⟩ { g with stack := rest } (.invokestatic index) mk argsL.toArray X₁ hg hsize hdg hW (X₁.named hnamed) (hpre vm₁ X₁.warmed)
  exact ⟨v, vm₁, B, X₁.warmed, X', hpost, fun target h => hstep₁ _ fun acts => by rw [doInvoke_state]; exact hsteps.trans h⟩
theorem vx_runSW {y : MethodName} {bytes cc : ByteArray} {maxL nL mc ms n index : Nat} {ret : Option FieldType} {hh : List (Nat × Nat × Nat × Nat)} {ws : List Cond} {rm : Room} {Pc : Array Value → State → Prop} {Qc : Array Value → State → Outcome → State → Prop} {free : Addr → Prop} {Ts : List Cond} {own : String} {As rest : List Value} {g : JFrame}
    (S : CallFix p m c cc nL s args Ts own) (hM : Met l y ws rm Pc Qc mc ms free) (cw : vx_CSW R s args own index y bytes maxL ret hh ws rm mc ms n) (hp : PreS s H Pc As)
    (hg : g.method = m) (hn : As.length = n) (hsize : g.locals.size = nL) (hstack : g.stack = As.reverse ++ rest) (hW : 2 * g.monitorRoom + (rest.map fun v => v.category).sum ≤ 8) (hdg : decode cc g.pc = .ok (.invokestatic index, 3)) (hf : cells + mc ≤ R.cells ∧ slots + ms ≤ R.slots) :
    va_Run p l e R s m args below meth c H locs cells slots mc ms g rest (Qc As.toArray) (free) := by
  obtain ⟨⟨hrc, hrs, hfr, hlo, hws, hcw⟩, hcode, hini, hy, hlen, hl, hstt⟩ := cw
  have hK : Back l R p e below s args y 3 8 (PreOf R mc ms Pc) (PostOf Qc mc ms free) := va_backW (hh := hh) (bytes := bytes) (maxL := maxL) (ret := ret) hM hp.1 hrc hrs hfr hlo hws hcw (fun a' U hW => word_at hW (Or.inl (by first | rfl | simp [Cond.onTables, Cond.keeps, Cond.steady])) hini)
  obtain ⟨hx, hb, hml, ho, -⟩ := S
  intro T hT X
  obtain ⟨v, vm₁, ⟨U', l2, c2, s2⟩, hW₁, X', ⟨g', mk, t, L, e1, e2, hq, h1, hL, h2, h3⟩, st⟩ := vx_callSW X hx (hh := hh) (bytes := bytes) (maxL := maxL) (ret := ret) ho hl hstt hini hcode hy hK hg (hsize.trans hml.symm) (argsL := As) (rest := rest) (fun sig h => hn.trans (hlen sig h)) hstack hW (by rw [hb]; exact hdg)
    (fun vm₁ hW₁ => ⟨hf.1, hf.2, hp.2 (T.setVm vm₁) hT hW₁⟩)
  dsimp only [Pt.U, Pt.locs, Pt.cells, Pt.slots] at X' e1 e2 h1 h2 h3 st
  subst h1; subst h2; subst h3
  exact ⟨v, (T.setVm vm₁).calling g' mk As.toArray, t, U', L, hT, X', hL, e1, e2, hq, st⟩
/-- not caught here, past rows that name other classes: it goes on to the caller -/
theorem vx_outP {p : Program} {l : Launch} {e : Env} {R : Room} {s : State} {m : MethodId} {args : Array Value} {below : List Frame} {meth : Method} {c : Code} {H : Heap} {locs : List Loc} {cells slots : Nat} {free : Addr → Prop} {ls : Array Slot} {rest : List Value} {Qc : Array Value → State → Outcome → State → Prop} {XC : String → State → State → Prop}
    {pc : Nat} {own E : String} {ce : Cell} {q : Addr} {mc ms : Nat} (hown : s.vm.findClass own = some m.cls) (hlocks : meth.locks = false)
    (hpass : ∀ z ∈ c.exceptionTable.toList, covers z pc = false ∨ (z.catchType ≠ 0 ∧ ∃ nm : String, (Cond.classLink own z.catchType nm).before args s = true ∧ va_Nc E nm s)) (hcell : H[q]? = some ce) (hv : ce.vm = .none) (hcl : s.vm.findClass E = some ce.cls)
    (hx : ∀ t : State, t.heap = H → s.vm.Alike t.vm → XC E s t) (hf : ∀ z ∈ locs, free z.base) (hc : cells ≤ mc) (hs : slots ≤ ms) :
    vx_W p l e R s m args below meth c H locs cells slots (vx_MQ below Qc XC args s mc ms free) (F0 m pc ls rest) q := by
  intro T hT X
  have hpl : e.platform.magicAccessors = ({} : Platform).magicAccessors := by rw [X.admits.platform]
  obtain ⟨vm', hW', X', st⟩ := X.outThrough hlocks q (g := F0 m pc ls rest) rfl rfl rfl (cell := ce) (by rw [hT]; exact hcell) (by rw [hv]; rfl)
    (by obtain ⟨k9, h9, -⟩ := Vm.findClass_spec hcl; exact ⟨k9, h9⟩) (fun z hz => by
      rcases hpass z hz with h | ⟨hz0, nm, hl1, hn1⟩
      · exact Or.inl h
      · obtain ⟨c6, hc6, hcl6⟩ := Cond.classLink_spec hown hl1 e.platform hpl
        obtain ⟨a8, b8, h1, h2, h3⟩ := hn1
        cases Option.some.inj (h1.symm.trans hcl)
        cases Option.some.inj (h2.symm.trans hc6)
        exact Or.inr ⟨hz0, _, hcl6, h3⟩)
  obtain ⟨g₀, hfr⟩ := X'.frames_eq
  have hcell9 : ((T.setVm vm').setFrames (.throwing q :: below)).heap[q]? = some ce := by
    show T.heap[q]? = some ce
    rw [hT]; exact hcell
  have hend : Ended ((T.setVm vm').setFrames (.throwing q :: below)) below (.threw q) := State.frames_setFrames _ (State.cur_lt_of_frames hfr)
  refine ⟨(T.setVm vm').setFrames (.throwing q :: below), ?_, .threw q, X'.here.running, hend, Or.inr ⟨q, rfl, E, ce, locs, hx _ hT (X'.ends _).1.alike, hcell9, hv, hcl, (X'.ends _).1, (X'.ends _).2.mono hc hs, hf⟩⟩
  rw [X.pushThrowing_eq]
  exact st
/-- a thing of a world lies in the heap -/
theorem vx_lt {D : va_G} {cl : List vw_C} {ws : va_W} {H1 : Heap} (h : va_P D cl ws H1) {k : Nat} {q : Nat × va_E} (hk : ws[k]? = some q) : q.1 < H1.size := (h k q hk).lt
end VXS
/-! ===== END ===== -/
/-! ===== BEGIN methods with a table of their own: called by a name, returning or throwing ===== -/
section VXH
/-! vx_backW, vx_callVX, vx_callSX, vx_callVW, vx_runVW, vx_runVX, vx_runSX, vx_ofWH follow the same proofs as their sisters above (Free/Laws.lean, Shelf42/LK1.lean); vx_outP calls Shelf42/NT130.lean (outThrough). -/
section
variable {l : Launch} {R : Room} {p : Program} {e : Env} {below : List Frame} {s : State} {sargs : Array Value} {y : MethodName} {len W9 : Nat}
theorem vx_backW {ws : List Cond} {rm : Room} {Pc : Array Value → State → Prop} {Qc : Array Value → State → Outcome → State → Prop} {XC : String → State → State → Prop} {mc ms : Nat} {free : Addr → Prop} {bytes : ByteArray} {maxL : Nat} {ret : Option FieldType} {hh : List (Nat × Nat × Nat × Nat)}
    (hM : vx_Met l y ws rm Pc Qc XC mc ms free) (hblind : FrameBlind Pc) (hrc : rm.cells = mc) (hrs : rm.slots = ms)
    (hframes : rm.frames + 1 ≤ R.frames) (hlocals : W9 + (maxL + 11) + rm.locals ≤ R.locals)
    (hws : ∀ w ∈ ws, ∀ a' U, s.WarmedH U.vm → w.before a' U = true) (hcode : Cond.codeWith y bytes maxL ret hh ∈ ws) (hinit : ∀ a' U, s.WarmedH U.vm → (Cond.initialized y.cls).before a' U = true) :
    vx_Back l R p e below s sargs y len W9 (PreOf R mc ms Pc) (PostOf Qc mc ms free) (vx_Post XC mc ms free) := by
  intro m meth c A g ig mk a X hg hsize hdg hW hn hp
  have h1 : (headSpec ws rm).pre.before a A.U = true := atoms_intro fun w hw => hws w hw _ _ X.warmed
  have h2 : (Cond.codeWith y bytes maxL ret hh).before a A.U = true := hws _ hcode _ _ X.warmed
  have h3 : (Cond.initialized y.cls).before a A.U = true := hinit _ _ X.warmed
  have h4 : A.cells + (headSpec ws rm).room.cells ≤ R.cells := by rw [show (headSpec ws rm).room.cells = mc from hrc]; exact hp.1
  have h5 : A.slots + (headSpec ws rm).room.slots ≤ R.slots := by rw [show (headSpec ws rm).room.slots = ms from hrs]; exact hp.2.1
  have hPc : Pc a (A.U.calling g mk a) := hblind _ _ _ _ hp.2.2
  obtain ⟨U, Ls, c0, s0⟩ := A
  dsimp only [Pt.U, Pt.locs, Pt.cells, Pt.slots] at h1 h2 h3 h4 h5 X hn hPc ⊢
  obtain ⟨m9, methY, cY, hn9, hmY, hcY, -, hlY, -⟩ := Cond.codeWith_spec h2
  cases Option.some.inj (hn9.symm.trans hn)
  obtain ⟨kY, hkY, -⟩ := className_of_methodNamed hn
  have hinitY : kY.init = .initialized := Cond.initialized_spec (findClass_of_methodNamed hn) hkY h3
  have h : At U g.method c below := by rw [hg]; exact X.here
  have hlocals9 : W9 + (maxL + 11) + (headSpec ws rm).room.locals ≤ R.locals := hlocals
  have happ : (headSpec ws rm).appliesLoose y e.platform (U.calling g mk a) = true :=
    Spec.appliesLoose_calling (g := g) h hdg hn hkY hinitY
      (X.room_calling (g := g) (R' := (headSpec ws rm).room) hsize hmY hcY hframes (by rw [hlY]; omega) h4 h5) h1
  obtain ⟨mid, hmid⟩ := h.above
  have hfr : (U.setTop g).frames = (.java g :: mid) ++ below := by rw [State.frames_setTop' g h.top, hmid]; rfl
  obtain ⟨o, s₂, hsteps, -, hend, hq⟩ := Steps.callFree hM p X.admits X.cas X.clock (acts := []) hfr happ hPc trivial
  have hq' : vx_Q Qc XC mc ms free a (U.calling g mk a) o s₂ := hq
  rw [State.frames_setTop' g h.top] at hend
  obtain ⟨g₀, hg0⟩ := Option.isSome_iff_exists.mp h.top
  obtain ⟨r, hr⟩ := State.topJava?_eq_some.mp hg0
  have hr' : (({ U with heap := s₂.heap, slotsUsed := s₂.slotsUsed } : State).setVm s₂.vm).frames = .java g₀ :: r := hr
  rcases hq' with ⟨hqc, L, hfe, hL⟩ | ⟨q, rfl, E, ce, L, hx, hce, hcv, hcl, hW₂, hsm, hL⟩
  · obtain ⟨⟨v, rfl⟩, hW₂, e2, q2, q3, q4, q5, q6⟩ := id hfe
    have e3 : s₂ = ({ (U.calling g mk a).setFrames s₂.frames with heap := s₂.heap, slotsUsed := s₂.slotsUsed } : State).setVm s₂.vm := by
      have : s₂ = ({ s₂ with vm := (U.calling g mk a).vm } : State).setVm s₂.vm := rfl
      rw [e2] at this
      exact this
    obtain ⟨c₂, i₂, len₂, hc₂, hd₂, hf₂⟩ := hend
    have hW' : U.WarmedH s₂.vm := hW₂
    have hcc : c₂ = c := by
      have h1 : s₂.code? g.method = U.code? g.method := by
        rw [State.code?_eq, State.code?_eq, hW'.alike.method?]
      exact Option.some.inj (hc₂.symm.trans (h1.trans h.code))
    subst hcc
    have hlen : len₂ = len := by rw [hdg] at hd₂; cases hd₂; rfl
    subst hlen
    have hs₂ : s₂ = (({ U with heap := s₂.heap, slotsUsed := s₂.slotsUsed } : State).setVm s₂.vm).setTop { g with pc := g.pc + len₂, stack := v.toList ++ g.stack } := by
      refine e3.trans ?_
      rw [hf₂, State.calling_eq h.top, State.setFrames_setFrames, State.setTop_of_frames _ hr', hr]
      rfl
    have hsame : U.sameButNew ({ U with heap := s₂.heap, slotsUsed := s₂.slotsUsed } : State) L mc ms := by
      refine ⟨?_, q2, q3, q4, q5, q6⟩
      obtain ⟨t, ht, -⟩ := State.frames_cons hr
      show ({ U with heap := s₂.heap, slotsUsed := s₂.slotsUsed } : State) = { U.setFrames U.frames with heap := s₂.heap, slotsUsed := s₂.slotsUsed }
      rw [State.setFrames_self ht]
    subst hg
    refine Or.inl ⟨v, ⟨(({ U with heap := s₂.heap, slotsUsed := s₂.slotsUsed } : State).setVm s₂.vm), Ls ++ L, c0 + mc, s0 + ms⟩,
      ⟨X.admits, X.cas, X.clock, X.frames, X.room, X.hears, X.method, X.code, (X.here.setHeapUsed s₂.heap s₂.slotsUsed).setVm hW'.alike, X.tail, State.WarmedH.trans X.warmed hW', X.limits, X.bytes, X.same.trans (hsame.setVm s.vm)⟩,
      ⟨g, mk, s₂, L, rfl, rfl, hqc, rfl, hL, rfl, rfl⟩, ?_⟩
    show Steps p.tables e below _ ((({ U with heap := s₂.heap, slotsUsed := s₂.slotsUsed } : State).setVm s₂.vm).setTop { g with pc := g.pc + len₂, stack := v.toList ++ g.stack })
    rw [← hs₂]
    exact hsteps
  · obtain ⟨e2, q2, q3, q4, q5, q6⟩ := id hsm
    have e3 : s₂ = ({ (U.calling g mk a).setFrames s₂.frames with heap := s₂.heap, slotsUsed := s₂.slotsUsed } : State).setVm s₂.vm := by
      have : s₂ = ({ s₂ with vm := (U.calling g mk a).vm } : State).setVm s₂.vm := rfl
      rw [e2] at this
      exact this
    have hf₂ : s₂.frames = .throwing q :: .java g :: U.frames.tail := hend
    have hW' : U.WarmedH s₂.vm := hW₂
    have hs₂ : s₂ = ((({ U with heap := s₂.heap, slotsUsed := s₂.slotsUsed } : State).setVm s₂.vm).setTop g).pushFrame (.throwing q) := by
      refine e3.trans ?_
      rw [hf₂, State.calling_eq h.top, State.setFrames_setFrames, State.pushFrame, State.frames_setTop _ hr', State.setTop_of_frames _ hr', State.setFrames_setFrames, hr]
      rfl
    have hsame : U.sameButNew ({ U with heap := s₂.heap, slotsUsed := s₂.slotsUsed } : State) L mc ms := by
      refine ⟨?_, q2, q3, q4, q5, q6⟩
      obtain ⟨t, ht, -⟩ := State.frames_cons hr
      show ({ U with heap := s₂.heap, slotsUsed := s₂.slotsUsed } : State) = { U.setFrames U.frames with heap := s₂.heap, slotsUsed := s₂.slotsUsed }
      rw [State.setFrames_self ht]
    subst hg
    refine Or.inr ⟨q, ⟨(({ U with heap := s₂.heap, slotsUsed := s₂.slotsUsed } : State).setVm s₂.vm), Ls ++ L, c0 + mc, s0 + ms⟩,
      ⟨X.admits, X.cas, X.clock, X.frames, X.room, X.hears, X.method, X.code, (X.here.setHeapUsed s₂.heap s₂.slotsUsed).setVm hW'.alike, X.tail, State.WarmedH.trans X.warmed hW', X.limits, X.bytes, X.same.trans (hsame.setVm s.vm)⟩,
      ⟨g, mk, s₂, L, E, ce, rfl, rfl, hx, hce, hcv, hcl, rfl, hL, rfl, rfl⟩, ?_⟩
    show Steps p.tables e below _ (((({ U with heap := s₂.heap, slotsUsed := s₂.slotsUsed } : State).setVm s₂.vm).setTop g).pushFrame (.throwing q))
    rw [← hs₂]
    exact hsteps
end
variable {p : Program} {l : Launch} {e : Env} {R : Room} {s : State} {m : MethodId} {args : Array Value} {below : List Frame} {meth : Method} {c : Code} {T : State} {H : Heap} {locs : List Loc} {cells slots : Nat}
theorem vx_callVX (X : Stand p l e R s m args below meth c T locs cells slots) (hexec : p.tables.exec = Jvm.exec) {own C : String} {index : Nat} {y : MethodName} {bytes : ByteArray} {maxL : Nat} {ret : Option FieldType} {hh : List (Nat × Nat × Nat × Nat)}
    (hown : s.vm.findClass own = some m.cls) (hlink : (Cond.methodLink own index y).before args s = true) (hinst : (Cond.instanceMethod y).before args s = true) (hsel : (Cond.selects C y y).before args s = true)
    (hcode : (Cond.codeWith y bytes maxL ret hh).before args s = true) (hy : y.cls ≠ "java/lang/invoke/MethodHandle" ∧ y.cls ≠ "java/lang/invoke/VarHandle")
    {W9 : Nat} {Pre : Pt → Array Value → Prop} {Post : Pt → Array Value → Option Value → Pt → Prop} {PostX : Pt → Array Value → Addr → Pt → Prop} (hK : vx_Back l R p e below s args y 3 W9 Pre Post PostX)
    {b : Addr} {cellB : Cell} (hcell : T.heap[b]? = some cellB) (hobj : cellB.vm.isStatics = false) (hcls : s.vm.findClass C = some cellB.cls)
    {g : JFrame} (hg : g.method = m) (hsize : g.locals.size = c.maxLocals) {argsL rest : List Value} (hlen : ∀ sig, parseMethodDescriptor y.desc = some sig → argsL.length = sig.parameters.length)
    (hstack : g.stack = argsL.reverse ++ .ref b :: rest) (hW : 2 * g.monitorRoom + (rest.map fun v => v.category).sum ≤ W9) (hdg : decode c.code g.pc = .ok (.invokevirtual index, 3))
    (hpre : ∀ vm₁, s.WarmedH vm₁ → Pre ⟨T.setVm vm₁, locs, cells, slots⟩ (Value.ref b :: argsL).toArray) :
    (∃ (v : Option Value) (vm₁ : Vm) (B : Pt), s.WarmedH vm₁ ∧ Stand p l e R s m args below meth c B.U B.locs B.cells B.slots ∧ Post ⟨T.setVm vm₁, locs, cells, slots⟩ (Value.ref b :: argsL).toArray v B ∧
      ∀ target, Steps p.tables e below (B.U.setTop { g with pc := g.pc + 3, stack := v.toList ++ rest }) target → Steps p.tables e below (T.setTop g) target) ∨
    (∃ (q : Addr) (vm₁ : Vm) (B : Pt), s.WarmedH vm₁ ∧ Stand p l e R s m args below meth c B.U B.locs B.cells B.slots ∧ PostX ⟨T.setVm vm₁, locs, cells, slots⟩ (Value.ref b :: argsL).toArray q B ∧
      Steps p.tables e below (T.setTop g) ((B.U.setTop { g with stack := rest }).pushFrame (.throwing q))) := by
  obtain ⟨mk, methM, hnamed, hmethM, hstM, habM⟩ := Cond.instanceMethod_spec hinst
  obtain ⟨m8, methM', cM, hn8, hmethM', -, -, -, -, -, -, hsigM⟩ := Cond.codeWith_spec hcode
  cases Option.some.inj (hn8.symm.trans hnamed)
  cases hmethM.symm.trans hmethM'
  obtain ⟨c2, r2, m2, q1, q2, q3, q4, kP, hkP, hkPi⟩ := Cond.selects_spec hsel
  cases hcls.symm.trans q1
  cases (State.methodFound?_of_named hnamed hy).symm.trans q2
  cases hnamed.symm.trans q3
  have hselP : selectMethod e.platform s.vm cellB.cls mk = .method mk := by rw [Launch.admits_selectMethod X.admits]; exact q4
  obtain ⟨vm₁, X₁, hstep₁⟩ := X.invokevirtual hexec hown hlink hnamed hmethM hstM hkP hkPi hy (a := b) (cell := cellB) hcell
    (fun z h => by rw [h] at hobj; cases hobj) hselP hmethM habM hkP hkPi (g := g) hg (argsL := argsL) (rest := rest) (hlen _ hsigM) hstack hdg
  rcases hK m meth c ⟨T.setVm vm₁, locs, cells, slots⟩ { g with stack := rest } (.invokevirtual index) mk (Value.ref b :: argsL).toArray X₁ hg hsize hdg hW (X₁.named hnamed) (hpre vm₁ X₁.warmed) with ⟨v, B, X', hpost, hsteps⟩ | ⟨q, B, X', hpost, hsteps⟩
  · exact Or.inl ⟨v, vm₁, B, X₁.warmed, X', hpost, fun target h => hstep₁ _ fun acts => by rw [doInvoke_state]; exact hsteps.trans h⟩
  · exact Or.inr ⟨q, vm₁, B, X₁.warmed, X', hpost, hstep₁ _ fun acts => by rw [doInvoke_state]; exact hsteps⟩
theorem vx_callSX (X : Stand p l e R s m args below meth c T locs cells slots) (hexec : p.tables.exec = Jvm.exec) {own : String} {index : Nat} {y : MethodName} {bytes : ByteArray} {maxL : Nat} {ret : Option FieldType} {hh : List (Nat × Nat × Nat × Nat)}
    (hown : s.vm.findClass own = some m.cls) (hlink : (Cond.methodLink own index y).before args s = true) (hstat : (Cond.static y).before args s = true) (hinit : (Cond.initialized y.cls).before args s = true)
    (hcode : (Cond.codeWith y bytes maxL ret hh).before args s = true) (hy : y.cls ≠ "java/lang/invoke/MethodHandle" ∧ y.cls ≠ "java/lang/invoke/VarHandle")
    {W9 : Nat} {Pre : Pt → Array Value → Prop} {Post : Pt → Array Value → Option Value → Pt → Prop} {PostX : Pt → Array Value → Addr → Pt → Prop} (hK : vx_Back l R p e below s args y 3 W9 Pre Post PostX)
    {g : JFrame} (hg : g.method = m) (hsize : g.locals.size = c.maxLocals) {argsL rest : List Value} (hlen : ∀ sig, parseMethodDescriptor y.desc = some sig → argsL.length = sig.parameters.length)
    (hstack : g.stack = argsL.reverse ++ rest) (hW : 2 * g.monitorRoom + (rest.map fun v => v.category).sum ≤ W9) (hdg : decode c.code g.pc = .ok (.invokestatic index, 3))
    (hpre : ∀ vm₁, s.WarmedH vm₁ → Pre ⟨T.setVm vm₁, locs, cells, slots⟩ argsL.toArray) :
    (∃ (v : Option Value) (vm₁ : Vm) (B : Pt), s.WarmedH vm₁ ∧ Stand p l e R s m args below meth c B.U B.locs B.cells B.slots ∧ Post ⟨T.setVm vm₁, locs, cells, slots⟩ argsL.toArray v B ∧
      ∀ target, Steps p.tables e below (B.U.setTop { g with pc := g.pc + 3, stack := v.toList ++ rest }) target → Steps p.tables e below (T.setTop g) target) ∨
    (∃ (q : Addr) (vm₁ : Vm) (B : Pt), s.WarmedH vm₁ ∧ Stand p l e R s m args below meth c B.U B.locs B.cells B.slots ∧ PostX ⟨T.setVm vm₁, locs, cells, slots⟩ argsL.toArray q B ∧
      Steps p.tables e below (T.setTop g) ((B.U.setTop { g with stack := rest }).pushFrame (.throwing q))) := by
  obtain ⟨mk, methM, cM, hnamed, hmethM, -, -, -, -, -, -, hsigM⟩ := Cond.codeWith_spec hcode
  have hstatic : methM.isStatic = true := Cond.static_spec hnamed hmethM hstat
  obtain ⟨kP, hkP, -⟩ := className_of_methodNamed hnamed
  have hinitP : kP.init = .initialized := Cond.initialized_spec (findClass_of_methodNamed hnamed) hkP hinit
  obtain ⟨vm₁, X₁, hstep₁⟩ := X.invokestatic hexec hown hlink hnamed hmethM hstatic hkP hinitP hy (g := g) hg (argsL := argsL) (rest := rest) (hlen _ hsigM) hstack hdg
  rcases hK m meth c ⟨T.setVm vm₁, locs, cells, slots⟩ { g with stack := rest } (.invokestatic index) mk argsL.toArray X₁ hg hsize hdg hW (X₁.named hnamed) (hpre vm₁ X₁.warmed) with ⟨v, B, X', hpost, hsteps⟩ | ⟨q, B, X', hpost, hsteps⟩
  · exact Or.inl ⟨v, vm₁, B, X₁.warmed, X', hpost, fun target h => hstep₁ _ fun acts => by rw [doInvoke_state]; exact hsteps.trans h⟩
  · exact Or.inr ⟨q, vm₁, B, X₁.warmed, X', hpost, hstep₁ _ fun acts => by rw [doInvoke_state]; exact hsteps⟩
theorem vx_callVW (X : Stand p l e R s m args below meth c T locs cells slots) (hexec : p.tables.exec = Jvm.exec) {own C : String} {index : Nat} {y : MethodName} {bytes : ByteArray} {maxL : Nat} {ret : Option FieldType} {hh : List (Nat × Nat × Nat × Nat)}
    (hown : s.vm.findClass own = some m.cls) (hlink : (Cond.methodLink own index y).before args s = true) (hinst : (Cond.instanceMethod y).before args s = true) (hsel : (Cond.selects C y y).before args s = true)
    (hcode : (Cond.codeWith y bytes maxL ret hh).before args s = true) (hy : y.cls ≠ "java/lang/invoke/MethodHandle" ∧ y.cls ≠ "java/lang/invoke/VarHandle")
    {W9 : Nat} {Pre : Pt → Array Value → Prop} {Post : Pt → Array Value → Option Value → Pt → Prop} (hK : Back l R p e below s args y 3 W9 Pre Post)
    {b : Addr} {cellB : Cell} (hcell : T.heap[b]? = some cellB) (hobj : cellB.vm.isStatics = false) (hcls : s.vm.findClass C = some cellB.cls)
    {g : JFrame} (hg : g.method = m) (hsize : g.locals.size = c.maxLocals) {argsL rest : List Value} (hlen : ∀ sig, parseMethodDescriptor y.desc = some sig → argsL.length = sig.parameters.length)
    (hstack : g.stack = argsL.reverse ++ .ref b :: rest) (hW : 2 * g.monitorRoom + (rest.map fun v => v.category).sum ≤ W9) (hdg : decode c.code g.pc = .ok (.invokevirtual index, 3))
    (hpre : ∀ vm₁, s.WarmedH vm₁ → Pre ⟨T.setVm vm₁, locs, cells, slots⟩ (Value.ref b :: argsL).toArray) :
    ∃ (v : Option Value) (vm₁ : Vm) (B : Pt), s.WarmedH vm₁ ∧ Stand p l e R s m args below meth c B.U B.locs B.cells B.slots ∧ Post ⟨T.setVm vm₁, locs, cells, slots⟩ (Value.ref b :: argsL).toArray v B ∧
      ∀ target, Steps p.tables e below (B.U.setTop { g with pc := g.pc + 3, stack := v.toList ++ rest }) target → Steps p.tables e below (T.setTop g) target := by
  obtain ⟨mk, methM, hnamed, hmethM, hstM, habM⟩ := Cond.instanceMethod_spec hinst
  obtain ⟨m8, methM', cM, hn8, hmethM', -, -, -, -, -, -, hsigM⟩ := Cond.codeWith_spec hcode
  cases Option.some.inj (hn8.symm.trans hnamed)
  cases hmethM.symm.trans hmethM'
  obtain ⟨c2, r2, m2, q1, q2, q3, q4, kP, hkP, hkPi⟩ := Cond.selects_spec hsel
  cases hcls.symm.trans q1
  cases (State.methodFound?_of_named hnamed hy).symm.trans q2
  cases hnamed.symm.trans q3
  have hselP : selectMethod e.platform s.vm cellB.cls mk = .method mk := by rw [Launch.admits_selectMethod X.admits]; exact q4
  obtain ⟨vm₁, X₁, hstep₁⟩ := X.invokevirtual hexec hown hlink hnamed hmethM hstM hkP hkPi hy (a := b) (cell := cellB) hcell
    (fun z h => by rw [h] at hobj; cases hobj) hselP hmethM habM hkP hkPi (g := g) hg (argsL := argsL) (rest := rest) (hlen _ hsigM) hstack hdg
  obtain ⟨v, B, X', hpost, hsteps⟩ := hK m meth c ⟨T.setVm vm₁, locs, cells, slots⟩ { g with stack := rest } (.invokevirtual index) mk (Value.ref b :: argsL).toArray X₁ hg hsize hdg hW (X₁.named hnamed) (hpre vm₁ X₁.warmed)
  exact ⟨v, vm₁, B, X₁.warmed, X', hpost, fun target h => hstep₁ _ fun acts => by rw [doInvoke_state]; exact hsteps.trans h⟩
abbrev vx_CVW (R : Room) (s : State) (args : Array Value) (own C : String) (index : Nat) (y : MethodName) (bytes : ByteArray) (maxL : Nat) (ret : Option FieldType) (hh : List (Nat × Nat × Nat × Nat)) (ws : List Cond) (rm : Room) (mc ms n : Nat) : Prop :=
  (rm.cells = mc ∧ rm.slots = ms ∧ rm.frames + 1 ≤ R.frames ∧ 8 + (maxL + 11) + rm.locals ≤ R.locals ∧ (∀ w ∈ ws, ∀ (a' : Array Value) (U : State), s.WarmedH U.vm → w.before a' U = true) ∧ Cond.codeWith y bytes maxL ret hh ∈ ws) ∧
  (Cond.codeWith y bytes maxL ret hh).before args s = true ∧ (Cond.initialized y.cls).before args s = true ∧ (y.cls ≠ "java/lang/invoke/MethodHandle" ∧ y.cls ≠ "java/lang/invoke/VarHandle") ∧
  (∀ sig, parseMethodDescriptor y.desc = some sig → n = sig.parameters.length) ∧ (Cond.methodLink own index y).before args s = true ∧ (Cond.instanceMethod y).before args s = true ∧ (Cond.selects C y y).before args s = true
theorem vx_cwVW {own C : String} {index maxL mc ms : Nat} {y : MethodName} {bytes : ByteArray} {ret : Option FieldType} {hh : List (Nat × Nat × Nat × Nat)} {Ts ws ws' : List Cond} {rm : Room} (n : Nat) (ht : ∀ w ∈ Ts, w.before args s = true) (hT : GoodIn Ts (wsV own index C y ws)) (hw : ws = Cond.codeWith y bytes maxL ret hh :: ws') (hrc : rm.cells = mc) (hrs : rm.slots = ms)
    (hd : y.cls = C ∧ y.cls ≠ "java/lang/invoke/MethodHandle" ∧ y.cls ≠ "java/lang/invoke/VarHandle" ∧ (parseMethodDescriptor y.desc).map (fun d => d.parameters.length) = some n) (hR : rm.frames + 1 ≤ R.frames ∧ 8 + (maxL + 11) + rm.locals ≤ R.locals) :
    vx_CVW R s args own C index y bytes maxL ret hh ws rm mc ms n := by
  obtain ⟨hC, hd⟩ := hd
  subst hC
  have ok : ∀ w ∈ wsV own index y.cls y ws, w.before args s = true := fun w h => ht w (hT w h).1
  have hG : GoodIn Ts ws := fun w h => hT w (by unfold wsV; exact List.mem_append_right _ h)
  have hc : Cond.codeWith y bytes maxL ret hh ∈ ws := by rw [hw]; exact List.mem_cons_self
  refine ⟨⟨hrc, hrs, hR.1, hR.2, pay_in ht hG, hc⟩, ht _ (hG _ hc).1, ok _ (by simp [wsV]), ⟨hd.1, hd.2.1⟩, fun sig h => ?_, ok _ (by simp [wsV]), ok _ (by simp [wsV]), ok _ (by simp [wsV])⟩
  have h2 := hd.2.2
  rw [h] at h2
  exact (Option.some.inj h2).symm
theorem vx_runVW {y : MethodName} {bytes cc : ByteArray} {maxL nL mc ms n index : Nat} {ret : Option FieldType} {hh : List (Nat × Nat × Nat × Nat)} {ws : List Cond} {rm : Room} {Pc : Array Value → State → Prop} {Qc : Array Value → State → Outcome → State → Prop} {free : Addr → Prop} {Ts : List Cond} {own C : String} {b : Addr} {As rest : List Value} {g : JFrame}
    (S : CallFix p m c cc nL s args Ts own) (hM : Met l y ws rm Pc Qc mc ms free) (cw : vx_CVW R s args own C index y bytes maxL ret hh ws rm mc ms n) (hp : PreV s H C b Pc As)
    (hg : g.method = m) (hn : As.length = n) (hsize : g.locals.size = nL) (hstack : g.stack = As.reverse ++ .ref b :: rest) (hW : 2 * g.monitorRoom + (rest.map fun v => v.category).sum ≤ 8) (hdg : decode cc g.pc = .ok (.invokevirtual index, 3)) (hf : cells + mc ≤ R.cells ∧ slots + ms ≤ R.slots) :
    va_Run p l e R s m args below meth c H locs cells slots mc ms g rest (Qc (Value.ref b :: As).toArray) free := by
  obtain ⟨⟨hrc, hrs, hfr, hlo, hws, hcw⟩, hcode, hini, hy, hlen, hl, hin, hse⟩ := cw
  have hK : Back l R p e below s args y 3 8 (PreOf R mc ms Pc) (PostOf Qc mc ms free) := va_backW (hh := hh) (bytes := bytes) (maxL := maxL) (ret := ret) hM hp.1 hrc hrs hfr hlo hws hcw (fun a' U hW => word_at hW (Or.inl (by first | rfl | simp [Cond.onTables, Cond.keeps, Cond.steady])) hini)
  obtain ⟨hx, hb, hml, ho, -⟩ := S
  obtain ⟨-, ⟨cellB, hcB, hoB, hclB⟩, hPc⟩ := hp
  intro T hT X
  obtain ⟨v, vm₁, ⟨U', l2, c2, s2⟩, hW₁, X', ⟨g', mk, t, L, e1, e2, hq, h1, hL, h2, h3⟩, st⟩ := vx_callVW X hx (C := C) (hh := hh) (bytes := bytes) (maxL := maxL) (ret := ret) ho hl hin hse hcode hy hK (by rw [hT]; exact hcB) hoB hclB hg (hsize.trans hml.symm) (argsL := As) (rest := rest) (fun sig h => hn.trans (hlen sig h)) hstack hW (by rw [hb]; exact hdg)
    (fun vm₁ hW₁ => ⟨hf.1, hf.2, hPc (T.setVm vm₁) hT hW₁⟩)
  dsimp only [Pt.U, Pt.locs, Pt.cells, Pt.slots] at X' e1 e2 h1 h2 h3 st
  subst h1; subst h2; subst h3
  exact ⟨v, (T.setVm vm₁).calling g' mk (Value.ref b :: As).toArray, t, U', L, hT, X', hL, e1, e2, hq, st⟩
section
variable {y : MethodName} {bytes cc : ByteArray} {maxL nL mc ms n index : Nat} {ret : Option FieldType} {ws : List Cond} {rm : Room} {Pc : Array Value → State → Prop} {Qc : Array Value → State → Outcome → State → Prop} {XC : String → State → State → Prop} {free : Addr → Prop} {Ts : List Cond} {own C : String} {b : Addr} {As rest : List Value} {g : JFrame}
theorem vx_runVX {hh : List (Nat × Nat × Nat × Nat)} (S : CallFix p m c cc nL s args Ts own) (hM : vx_Met l y ws rm Pc Qc XC mc ms free) (cw : vx_CVW R s args own C index y bytes maxL ret hh ws rm mc ms n) (hp : PreV s H C b Pc As)
    (hg : g.method = m) (hn : As.length = n) (hsize : g.locals.size = nL) (hstack : g.stack = As.reverse ++ .ref b :: rest) (hW : 2 * g.monitorRoom + (rest.map fun v => v.category).sum ≤ 8) (hdg : decode cc g.pc = .ok (.invokevirtual index, 3)) (hf : cells + mc ≤ R.cells ∧ slots + ms ≤ R.slots) :
    vx_Run p l e R s m args below meth c H locs cells slots mc ms g rest (Qc (Value.ref b :: As).toArray) XC free := by
  obtain ⟨⟨hrc, hrs, hfr, hlo, hws, hcw⟩, hcode, hini, hy, hlen, hl, hin, hse⟩ := cw
  have hK : vx_Back l R p e below s args y 3 8 (PreOf R mc ms Pc) (PostOf Qc mc ms free) (vx_Post XC mc ms free) := vx_backW (hh := hh) (bytes := bytes) (maxL := maxL) (ret := ret) hM hp.1 hrc hrs hfr hlo hws hcw (fun a' U hW => word_at hW (Or.inl (by first | rfl | simp [Cond.onTables, Cond.keeps, Cond.steady])) hini)
  obtain ⟨hx, hb, hml, ho, -⟩ := S
  obtain ⟨-, ⟨cellB, hcB, hoB, hclB⟩, hPc⟩ := hp
  intro T hT X
  rcases vx_callVX X hx (C := C) (hh := hh) (bytes := bytes) (maxL := maxL) (ret := ret) ho hl hin hse hcode hy hK (by rw [hT]; exact hcB) hoB hclB hg (hsize.trans hml.symm) (argsL := As) (rest := rest) (fun sig h => hn.trans (hlen sig h)) hstack hW (by rw [hb]; exact hdg)
    (fun vm₁ hW₁ => ⟨hf.1, hf.2, hPc (T.setVm vm₁) hT hW₁⟩) with ⟨v, vm₁, ⟨U', l2, c2, s2⟩, hW₁, X', ⟨g', mk, t, L, e1, e2, hq, h1, hL, h2, h3⟩, st⟩ | ⟨q, vm₁, ⟨U', l2, c2, s2⟩, hW₁, X', ⟨g', mk, t, L, E, ce, e1, e2, hq, hce, hcv, hcl, h1, hL, h2, h3⟩, st⟩
  · dsimp only [Pt.U, Pt.locs, Pt.cells, Pt.slots] at X' e1 e2 h1 h2 h3 st
    subst h1; subst h2; subst h3
    exact Or.inl ⟨v, (T.setVm vm₁).calling g' mk (Value.ref b :: As).toArray, t, U', L, hT, X', hL, e1, e2, hq, st⟩
  · dsimp only [Pt.U, Pt.locs, Pt.cells, Pt.slots] at X' e1 e2 h1 h2 h3 st hcl
    subst h1; subst h2; subst h3
    exact Or.inr ⟨q, (T.setVm vm₁).calling g' mk (Value.ref b :: As).toArray, t, U', L, E, ce, hT, X', hL, e1, e2, hq, hce, hcv, vx_cls hW₁ hcl, st⟩
theorem vx_runSX {hh : List (Nat × Nat × Nat × Nat)} (S : CallFix p m c cc nL s args Ts own) (hM : vx_Met l y ws rm Pc Qc XC mc ms free) (cw : vx_CSW R s args own index y bytes maxL ret hh ws rm mc ms n) (hp : PreS s H Pc As)
    (hg : g.method = m) (hn : As.length = n) (hsize : g.locals.size = nL) (hstack : g.stack = As.reverse ++ rest) (hW : 2 * g.monitorRoom + (rest.map fun v => v.category).sum ≤ 8) (hdg : decode cc g.pc = .ok (.invokestatic index, 3)) (hf : cells + mc ≤ R.cells ∧ slots + ms ≤ R.slots) :
    vx_Run p l e R s m args below meth c H locs cells slots mc ms g rest (Qc As.toArray) XC free := by
  obtain ⟨⟨hrc, hrs, hfr, hlo, hws, hcw⟩, hcode, hini, hy, hlen, hl, hstt⟩ := cw
  have hK : vx_Back l R p e below s args y 3 8 (PreOf R mc ms Pc) (PostOf Qc mc ms free) (vx_Post XC mc ms free) := vx_backW (hh := hh) (bytes := bytes) (maxL := maxL) (ret := ret) hM hp.1 hrc hrs hfr hlo hws hcw (fun a' U hW => word_at hW (Or.inl (by first | rfl | simp [Cond.onTables, Cond.keeps, Cond.steady])) hini)
  obtain ⟨hx, hb, hml, ho, -⟩ := S
  intro T hT X
  rcases vx_callSX X hx (hh := hh) (bytes := bytes) (maxL := maxL) (ret := ret) ho hl hstt hini hcode hy hK hg (hsize.trans hml.symm) (argsL := As) (rest := rest) (fun sig h => hn.trans (hlen sig h)) hstack hW (by rw [hb]; exact hdg)
    (fun vm₁ hW₁ => ⟨hf.1, hf.2, hp.2 (T.setVm vm₁) hT hW₁⟩) with ⟨v, vm₁, ⟨U', l2, c2, s2⟩, hW₁, X', ⟨g', mk, t, L, e1, e2, hq, h1, hL, h2, h3⟩, st⟩ | ⟨q, vm₁, ⟨U', l2, c2, s2⟩, hW₁, X', ⟨g', mk, t, L, E, ce, e1, e2, hq, hce, hcv, hcl, h1, hL, h2, h3⟩, st⟩
  · dsimp only [Pt.U, Pt.locs, Pt.cells, Pt.slots] at X' e1 e2 h1 h2 h3 st
    subst h1; subst h2; subst h3
    exact Or.inl ⟨v, (T.setVm vm₁).calling g' mk As.toArray, t, U', L, hT, X', hL, e1, e2, hq, st⟩
  · dsimp only [Pt.U, Pt.locs, Pt.cells, Pt.slots] at X' e1 e2 h1 h2 h3 st hcl
    subst h1; subst h2; subst h3
    exact Or.inr ⟨q, (T.setVm vm₁).calling g' mk As.toArray, t, U', L, E, ce, hT, X', hL, e1, e2, hq, hce, hcv, vx_cls hW₁ hcl, st⟩
end
end VXH
theorem vx_ofWH {l : Launch} {y : MethodName} {ws ws' : List Cond} {rm : Room} {Pc : Array Value → State → Prop} {Qc : Array Value → State → Outcome → State → Prop} {XC : String → State → State → Prop} {mc ms : Nat} {free : Addr → Prop} {cc : ByteArray} {maxL : Nat} {ret : Option FieldType} {hh : List (Nat × Nat × Nat × Nat)}
    (hy : plainName y.cls = true) (hw : ws = Cond.codeWith y cc maxL ret hh :: ws')
    (body : ∀ p e s m args below meth c s₁, BodyLoose p l y (headSpec ws rm) cc maxL ret e s m args below meth c s₁ → c.maxLocals = maxL → Pc args s →
      W p l e (headSpec ws rm).room s m args below meth c s.heap [] 0 0 (vx_MQ below Qc XC args s mc ms free) (entryFrame m args maxL)) : vx_Met l y ws rm Pc Qc XC mc ms free := by
  refine MetFree.of_bodyS (code := cc) (maxLocals := maxL) (ret := ret) hy ?_ ?_
  · intro args s m h hn
    obtain ⟨m9, meth, c, hn9, h1, h2, h3, h4, -, h5, h6, -⟩ := Cond.codeWith_spec (atoms_spec (ws := ws) h _ (by rw [hw]; exact List.mem_cons_self))
    cases hn.symm.trans hn9
    exact ⟨meth, c, h1, h2, h3, h4, h5, h6⟩
  · intro p e s m args below meth c s₁ B hml hP _
    have hh0 : s₁.heap = s.heap := by rw [B.state]; rfl
    obtain ⟨t, a1, o, b1, b2, b3⟩ := body p e s m args below meth c s₁ B hml hP s₁ hh0 (Stand.of_body B)
    exact ⟨t, o, a1, b1, b2, b3⟩
/-! ===== END ===== -/

def RX0 : String := "LendingCells$Battery"
def TX0 : u_T := fun k => match k with
  | 0 => ("LendingCells$Battery", "capacities", "[I", true)
  | 1 => ("LendingCells$Battery", "charges", "[I", true)
  | 2 => ("LendingCells$Battery", "leaks", "[I", true)
  | 3 => ("LendingCells$Battery", "lateRounds", "[I", true)
  | 4 => ("LendingCells$Battery", "lenders", "[I", true)
  | 5 => ("LendingCells$Battery", "borrowers", "[I", true)
  | 6 => ("LendingCells$Battery", "owed", "[I", true)
  | 7 => ("LendingCells$Battery", "rates", "[I", true)
  | 8 => ("LendingCells$Battery", "arrived", "[I", true)
  | 9 => ("LendingCells$Battery", "cellCount", "I", false)
  | 10 => ("LendingCells$Battery", "loanCount", "I", false)
  | 11 => ("LendingCells$Battery", "rounds", "I", false)
  | 12 => ("LendingCells$Battery", "putIn", "I", false)
  | 13 => ("LendingCells$Battery", "used", "I", false)
  | 14 => ("LendingCells$Battery", "heat", "I", false)
  | 15 => ("LendingCells$Battery", "writtenOff", "I", false)
  | 16 => ("LendingCells$Battery", "watchedLoan", "I", false)
  | _ => ("LendingCells$Battery", "watchedBurn", "I", false)
def tyX0 : Nat → FieldType := fun k => match k with
  | 0 => .array .int
  | 1 => .array .int
  | 2 => .array .int
  | 3 => .array .int
  | 4 => .array .int
  | 5 => .array .int
  | 6 => .array .int
  | 7 => .array .int
  | 8 => .array .int
  | 9 => .int
  | 10 => .int
  | 11 => .int
  | 12 => .int
  | 13 => .int
  | 14 => .int
  | 15 => .int
  | 16 => .int
  | _ => .int
abbrev wsX00 : List Cond := u_ws RX0 TX0 18
theorem nmX0 : ∀ a, a < 18 → ∀ b, b < 18 → a ≠ b → (TX0 a).2.1 ≠ (TX0 b).2.1 := by decide +kernel
theorem tyX0_ok : ∀ k, k < 18 → parseFieldDescriptor (TX0 k).2.2.1 = some (tyX0 k) := by decide +kernel
abbrev cX0_init : ByteArray := prog_2_method_1_code
def yX0_init : MethodName := ⟨RX0, "<init>", "()V"⟩
abbrev cX0_becomeEmpty : ByteArray := prog_2_method_2_code
def yX0_becomeEmpty : MethodName := ⟨RX0, "becomeEmpty", "()V"⟩
abbrev cX0_copyFrom : ByteArray := prog_2_method_3_code
def yX0_copyFrom : MethodName := ⟨RX0, "copyFrom", "(LLendingCells$Battery;)V"⟩
abbrev cX0_hasCell : ByteArray := prog_2_method_4_code
def yX0_hasCell : MethodName := ⟨RX0, "hasCell", "(I)Z"⟩
abbrev cX0_hasLoan : ByteArray := prog_2_method_5_code
def yX0_hasLoan : MethodName := ⟨RX0, "hasLoan", "(I)Z"⟩
abbrev cX0_isBankrupt : ByteArray := prog_2_method_6_code
def yX0_isBankrupt : MethodName := ⟨RX0, "isBankrupt", "(I)Z"⟩
abbrev cX0_chargeOf : ByteArray := prog_2_method_7_code
def yX0_chargeOf : MethodName := ⟨RX0, "chargeOf", "(I)I"⟩
abbrev cX0_roomOf : ByteArray := prog_2_method_8_code
def yX0_roomOf : MethodName := ⟨RX0, "roomOf", "(I)I"⟩
abbrev cX0_allCharge : ByteArray := prog_2_method_9_code
def yX0_allCharge : MethodName := ⟨RX0, "allCharge", "()I"⟩
abbrev cX0_allOwed : ByteArray := prog_2_method_10_code
def yX0_allOwed : MethodName := ⟨RX0, "allOwed", "()I"⟩
abbrev cX0_bankruptCells : ByteArray := prog_2_method_11_code
def yX0_bankruptCells : MethodName := ⟨RX0, "bankruptCells", "()I"⟩
abbrev cX0_owedBy : ByteArray := prog_2_method_12_code
def yX0_owedBy : MethodName := ⟨RX0, "owedBy", "(I)I"⟩
abbrev cX0_owedTo : ByteArray := prog_2_method_13_code
def yX0_owedTo : MethodName := ⟨RX0, "owedTo", "(I)I"⟩
abbrev cX0_interestOf : ByteArray := prog_2_method_14_code
def yX0_interestOf : MethodName := ⟨RX0, "interestOf", "(I)I"⟩
abbrev cX0_interestBy : ByteArray := prog_2_method_15_code
def yX0_interestBy : MethodName := ⟨RX0, "interestBy", "(I)I"⟩
abbrev cX0_kindOf : ByteArray := prog_2_method_16_code
def yX0_kindOf : MethodName := ⟨RX0, "kindOf", "(I)I"⟩
abbrev cX0_cellAtPlace : ByteArray := prog_2_method_17_code
def yX0_cellAtPlace : MethodName := ⟨RX0, "cellAtPlace", "(I)I"⟩
abbrev cX0_placeOf : ByteArray := prog_2_method_18_code
def yX0_placeOf : MethodName := ⟨RX0, "placeOf", "(I)I"⟩
abbrev cX0_putCell : ByteArray := prog_2_method_19_code
def yX0_putCell : MethodName := ⟨RX0, "putCell", "(III)I"⟩
abbrev cX0_arriving : ByteArray := prog_2_method_20_code
def yX0_arriving : MethodName := ⟨RX0, "arriving", "(III)I"⟩
abbrev cX0_sizeToBring : ByteArray := prog_2_method_21_code
def yX0_sizeToBring : MethodName := ⟨RX0, "sizeToBring", "(III)I"⟩
abbrev cX0_shuttle : ByteArray := prog_2_method_22_code
def yX0_shuttle : MethodName := ⟨RX0, "shuttle", "(III)I"⟩
abbrev cX0_canLend : ByteArray := prog_2_method_23_code
def yX0_canLend : MethodName := ⟨RX0, "canLend", "(III)Z"⟩
abbrev cX0_makeLoan : ByteArray := prog_2_method_24_code
def yX0_makeLoan : MethodName := ⟨RX0, "makeLoan", "(IIII)I"⟩
abbrev cX0_canPayBack : ByteArray := prog_2_method_25_code
def yX0_canPayBack : MethodName := ⟨RX0, "canPayBack", "(II)Z"⟩
abbrev cX0_payBack : ByteArray := prog_2_method_26_code
def yX0_payBack : MethodName := ⟨RX0, "payBack", "(II)I"⟩
abbrev cX0_removeLoan : ByteArray := prog_2_method_27_code
def yX0_removeLoan : MethodName := ⟨RX0, "removeLoan", "(I)V"⟩
abbrev cX0_cheapestLender : ByteArray := prog_2_method_28_code
def yX0_cheapestLender : MethodName := ⟨RX0, "cheapestLender", "(II)I"⟩
abbrev cX0_fillEach : ByteArray := prog_2_method_29_code
def yX0_fillEach : MethodName := ⟨RX0, "fillEach", "(I)I"⟩
abbrev cX0_giveEach : ByteArray := prog_2_method_30_code
def yX0_giveEach : MethodName := ⟨RX0, "giveEach", "(I)I"⟩
abbrev cX0_borrowUpTo : ByteArray := prog_2_method_31_code
def yX0_borrowUpTo : MethodName := ⟨RX0, "borrowUpTo", "(II)Z"⟩
abbrev cX0_fullestOther : ByteArray := prog_2_method_32_code
def yX0_fullestOther : MethodName := ⟨RX0, "fullestOther", "(I)I"⟩
abbrev cX0_letRoundsGoBy : ByteArray := prog_2_method_33_code
def yX0_letRoundsGoBy : MethodName := ⟨RX0, "letRoundsGoBy", "(I)I"⟩
abbrev cX0_letRoundGoBy : ByteArray := prog_2_method_34_code
def yX0_letRoundGoBy : MethodName := ⟨RX0, "letRoundGoBy", "()I"⟩
abbrev cX0_leakAll : ByteArray := prog_2_method_35_code
def yX0_leakAll : MethodName := ⟨RX0, "leakAll", "()V"⟩
abbrev cX0_loseAsHeat : ByteArray := prog_2_method_36_code
def yX0_loseAsHeat : MethodName := ⟨RX0, "loseAsHeat", "(II)V"⟩
abbrev cX0_burnInterest : ByteArray := prog_2_method_37_code
def yX0_burnInterest : MethodName := ⟨RX0, "burnInterest", "()I"⟩
abbrev cX0_countLateRounds : ByteArray := prog_2_method_38_code
def yX0_countLateRounds : MethodName := ⟨RX0, "countLateRounds", "(I)I"⟩
abbrev cX0_shareOut : ByteArray := prog_2_method_39_code
def yX0_shareOut : MethodName := ⟨RX0, "shareOut", "(I)V"⟩
abbrev cX0_dropLoansOf : ByteArray := prog_2_method_40_code
def yX0_dropLoansOf : MethodName := ⟨RX0, "dropLoansOf", "(I)V"⟩
def RX1 : String := "LendingCells$History"
def TX1 : u_T := fun k => match k with
  | 0 => ("LendingCells$History", "states", "[LLendingCells$Battery;", true)
  | 1 => ("LendingCells$History", "first", "I", false)
  | _ => ("LendingCells$History", "count", "I", false)
def tyX1 : Nat → FieldType := fun k => match k with
  | 0 => .array (.object "LendingCells$Battery")
  | 1 => .int
  | _ => .int
abbrev wsX10 : List Cond := u_ws RX1 TX1 3
theorem nmX1 : ∀ a, a < 3 → ∀ b, b < 3 → a ≠ b → (TX1 a).2.1 ≠ (TX1 b).2.1 := by decide +kernel
theorem tyX1_ok : ∀ k, k < 3 → parseFieldDescriptor (TX1 k).2.2.1 = some (tyX1 k) := by decide +kernel
abbrev cX1_init : ByteArray := prog_3_method_1_code
def yX1_init : MethodName := ⟨RX1, "<init>", "()V"⟩
abbrev cX1_remember : ByteArray := prog_3_method_2_code
def yX1_remember : MethodName := ⟨RX1, "remember", "(LLendingCells$Battery;)V"⟩
abbrev cX1_takeBack : ByteArray := prog_3_method_3_code
def yX1_takeBack : MethodName := ⟨RX1, "takeBack", "(LLendingCells$Battery;)V"⟩
abbrev cX1_forgetAll : ByteArray := prog_3_method_4_code
def yX1_forgetAll : MethodName := ⟨RX1, "forgetAll", "()V"⟩
def RX2 : String := "LendingCells$Text"
def TX2 : u_T := fun k => match k with
  | 0 => ("LendingCells$Text", "signs", "[C", true)
  | 1 => ("LendingCells$Text", "length", "I", false)
  | _ => ("LendingCells$Text", "at", "I", false)
def tyX2 : Nat → FieldType := fun k => match k with
  | 0 => .array .char
  | 1 => .int
  | _ => .int
abbrev wsX20 : List Cond := u_ws RX2 TX2 3
theorem nmX2 : ∀ a, a < 3 → ∀ b, b < 3 → a ≠ b → (TX2 a).2.1 ≠ (TX2 b).2.1 := by decide +kernel
theorem tyX2_ok : ∀ k, k < 3 → parseFieldDescriptor (TX2 k).2.2.1 = some (tyX2 k) := by decide +kernel
abbrev cX2_init : ByteArray := prog_4_method_1_code
def yX2_init : MethodName := ⟨RX2, "<init>", "()V"⟩
abbrev cX2_put : ByteArray := prog_4_method_2_code
def yX2_put : MethodName := ⟨RX2, "put", "(C)I"⟩
abbrev cX2_becomeEmpty : ByteArray := prog_4_method_3_code
def yX2_becomeEmpty : MethodName := ⟨RX2, "becomeEmpty", "()V"⟩
abbrev cX2_readInto : ByteArray := prog_4_method_4_code
def yX2_readInto : MethodName := ⟨RX2, "readInto", "(LLendingCells$Battery;)I"⟩
abbrev cX2_readPart : ByteArray := prog_4_method_5_code
def yX2_readPart : MethodName := ⟨RX2, "readPart", "(LLendingCells$Battery;)Z"⟩
abbrev cX2_readCell : ByteArray := prog_4_method_6_code
def yX2_readCell : MethodName := ⟨RX2, "readCell", "(LLendingCells$Battery;)Z"⟩
abbrev cX2_readLoan : ByteArray := prog_4_method_7_code
def yX2_readLoan : MethodName := ⟨RX2, "readLoan", "(LLendingCells$Battery;)Z"⟩
abbrev cX2_readNumber : ByteArray := prog_4_method_8_code
def yX2_readNumber : MethodName := ⟨RX2, "readNumber", "(II)I"⟩
abbrev cX2_readDigit : ByteArray := prog_4_method_9_code
def yX2_readDigit : MethodName := ⟨RX2, "readDigit", "(II)I"⟩
abbrev cX2_digitHere : ByteArray := prog_4_method_10_code
def yX2_digitHere : MethodName := ⟨RX2, "digitHere", "()I"⟩
abbrev cX2_isAt : ByteArray := prog_4_method_11_code
def yX2_isAt : MethodName := ⟨RX2, "isAt", "(C)Z"⟩
def RX3 : String := "LendingCells"
def TX3 : u_T := fun k => match k with
  | 0 => ("LendingCells", "text", "LLendingCells$Text;", true)
  | 1 => ("LendingCells", "now", "LLendingCells$Battery;", true)
  | 2 => ("LendingCells", "history", "LLendingCells$History;", true)
  | 3 => ("LendingCells", "slots", "[LLendingCells$Battery;", true)
  | 4 => ("LendingCells", "filled", "[Z", true)
  | 5 => ("LendingCells", "trial", "LLendingCells$Battery;", true)
  | _ => ("LendingCells", "before", "LLendingCells$Battery;", true)
def tyX3 : Nat → FieldType := fun k => match k with
  | 0 => .object "LendingCells$Text"
  | 1 => .object "LendingCells$Battery"
  | 2 => .object "LendingCells$History"
  | 3 => .array (.object "LendingCells$Battery")
  | 4 => .array .boolean
  | 5 => .object "LendingCells$Battery"
  | _ => .object "LendingCells$Battery"
abbrev wsX30 : List Cond := u_ws RX3 TX3 7
theorem nmX3 : ∀ a, a < 7 → ∀ b, b < 7 → a ≠ b → (TX3 a).2.1 ≠ (TX3 b).2.1 := by decide +kernel
theorem tyX3_ok : ∀ k, k < 7 → parseFieldDescriptor (TX3 k).2.2.1 = some (tyX3 k) := by decide +kernel
abbrev cX3_init : ByteArray := prog_1_method_1_code
def yX3_init : MethodName := ⟨RX3, "<init>", "()V"⟩
abbrev cX3_append : ByteArray := prog_1_method_2_code
def yX3_append : MethodName := ⟨RX3, "append", "(I)I"⟩
abbrev cX3_clearText : ByteArray := prog_1_method_3_code
def yX3_clearText : MethodName := ⟨RX3, "clearText", "()I"⟩
abbrev cX3_errorPosition : ByteArray := prog_1_method_4_code
def yX3_errorPosition : MethodName := ⟨RX3, "errorPosition", "()I"⟩
abbrev cX3_load : ByteArray := prog_1_method_5_code
def yX3_load : MethodName := ⟨RX3, "load", "()I"⟩
abbrev cX3_about : ByteArray := prog_1_method_6_code
def yX3_about : MethodName := ⟨RX3, "about", "(I)I"⟩
abbrev cX3_cell : ByteArray := prog_1_method_7_code
def yX3_cell : MethodName := ⟨RX3, "cell", "(II)I"⟩
abbrev cX3_loan : ByteArray := prog_1_method_8_code
def yX3_loan : MethodName := ⟨RX3, "loan", "(II)I"⟩
abbrev cX3_order : ByteArray := prog_1_method_9_code
def yX3_order : MethodName := ⟨RX3, "order", "(I)I"⟩
abbrev cX3_addCell : ByteArray := prog_1_method_10_code
def yX3_addCell : MethodName := ⟨RX3, "addCell", "(III)I"⟩
abbrev cX3_lend : ByteArray := prog_1_method_11_code
def yX3_lend : MethodName := ⟨RX3, "lend", "(IIII)I"⟩
abbrev cX3_repay : ByteArray := prog_1_method_12_code
def yX3_repay : MethodName := ⟨RX3, "repay", "(II)I"⟩
abbrev cX3_setLeak : ByteArray := prog_1_method_13_code
def yX3_setLeak : MethodName := ⟨RX3, "setLeak", "(II)I"⟩
abbrev cX3_charge : ByteArray := prog_1_method_14_code
def yX3_charge : MethodName := ⟨RX3, "charge", "(I)I"⟩
abbrev cX3_draw : ByteArray := prog_1_method_15_code
def yX3_draw : MethodName := ⟨RX3, "draw", "(I)I"⟩
abbrev cX3_pass : ByteArray := prog_1_method_16_code
def yX3_pass : MethodName := ⟨RX3, "pass", "(I)I"⟩
abbrev cX3_undo : ByteArray := prog_1_method_17_code
def yX3_undo : MethodName := ⟨RX3, "undo", "()I"⟩
abbrev cX3_holds : ByteArray := prog_1_method_18_code
def yX3_holds : MethodName := ⟨RX3, "holds", "(I)I"⟩
abbrev cX3_draws : ByteArray := prog_1_method_19_code
def yX3_draws : MethodName := ⟨RX3, "draws", "(I)I"⟩
abbrev cX3_most : ByteArray := prog_1_method_20_code
def yX3_most : MethodName := ⟨RX3, "most", "()I"⟩
abbrev cX3_bestLender : ByteArray := prog_1_method_21_code
def yX3_bestLender : MethodName := ⟨RX3, "bestLender", "(II)I"⟩
abbrev cX3_costs : ByteArray := prog_1_method_22_code
def yX3_costs : MethodName := ⟨RX3, "costs", "(II)I"⟩
abbrev cX3_runScript : ByteArray := prog_1_method_23_code
def yX3_runScript : MethodName := ⟨RX3, "runScript", "(IJ)I"⟩
abbrev cX3_simulate : ByteArray := prog_1_method_24_code
def yX3_simulate : MethodName := ⟨RX3, "simulate", "(JI)I"⟩
abbrev cX3_save : ByteArray := prog_1_method_25_code
def yX3_save : MethodName := ⟨RX3, "save", "(I)I"⟩
abbrev cX3_restore : ByteArray := prog_1_method_26_code
def yX3_restore : MethodName := ⟨RX3, "restore", "(I)I"⟩
abbrev cX3_isWithin : ByteArray := prog_1_method_27_code
def yX3_isWithin : MethodName := ⟨RX3, "isWithin", "(III)Z"⟩
abbrev cX3_isUnits : ByteArray := prog_1_method_28_code
def yX3_isUnits : MethodName := ⟨RX3, "isUnits", "(I)Z"⟩
abbrev cX3_withoutLastGroups : ByteArray := prog_1_method_29_code
def yX3_withoutLastGroups : MethodName := ⟨RX3, "withoutLastGroups", "(JI)J"⟩
abbrev cX3_giveIfPossible : ByteArray := prog_1_method_30_code
def yX3_giveIfPossible : MethodName := ⟨RX3, "giveIfPossible", "(I)V"⟩
abbrev cX3_succeeds : ByteArray := prog_1_method_31_code
def yX3_succeeds : MethodName := ⟨RX3, "succeeds", "(LLendingCells$Battery;I)Z"⟩
def RX4 : String := "LendingCellsModel"
def TX4 : u_T := fun k => match k with
  | 0 => ("LendingCellsModel", "thrown", "I", false)
  | 1 => ("LendingCellsModel", "now", "[I", true)
  | 2 => ("LendingCellsModel", "put", "[I", true)
  | 3 => ("LendingCellsModel", "slots", "[I", true)
  | 4 => ("LendingCellsModel", "isSaved", "[Z", true)
  | 5 => ("LendingCellsModel", "was", "[I", true)
  | 6 => ("LendingCellsModel", "acts", "I", false)
  | 7 => ("LendingCellsModel", "text", "[I", true)
  | 8 => ("LendingCellsModel", "typed", "I", false)
  | 9 => ("LendingCellsModel", "watched", "I", false)
  | 10 => ("LendingCellsModel", "burned", "I", false)
  | 11 => ("LendingCellsModel", "hasMissed", "[Z", true)
  | 12 => ("LendingCellsModel", "ahead", "[I", true)
  | 13 => ("LendingCellsModel", "at", "I", false)
  | _ => ("LendingCellsModel", "isStuck", "Z", false)
def tyX4 : Nat → FieldType := fun k => match k with
  | 0 => .int
  | 1 => .array .int
  | 2 => .array .int
  | 3 => .array .int
  | 4 => .array .boolean
  | 5 => .array .int
  | 6 => .int
  | 7 => .array .int
  | 8 => .int
  | 9 => .int
  | 10 => .int
  | 11 => .array .boolean
  | 12 => .array .int
  | 13 => .int
  | _ => .boolean
abbrev wsX40 : List Cond := u_ws RX4 TX4 15
theorem nmX4 : ∀ a, a < 15 → ∀ b, b < 15 → a ≠ b → (TX4 a).2.1 ≠ (TX4 b).2.1 := by decide +kernel
theorem tyX4_ok : ∀ k, k < 15 → parseFieldDescriptor (TX4 k).2.2.1 = some (tyX4 k) := by decide +kernel
abbrev cX4_init : ByteArray := prog_6_method_1_code
def yX4_init : MethodName := ⟨RX4, "<init>", "()V"⟩
abbrev cX4_thrown : ByteArray := prog_6_method_2_code
def yX4_thrown : MethodName := ⟨RX4, "thrown", "()I"⟩
abbrev cX4_in : ByteArray := prog_6_method_3_code
def yX4_in : MethodName := ⟨RX4, "in", "(III)Z"⟩
abbrev cX4_of : ByteArray := prog_6_method_4_code
def yX4_of : MethodName := ⟨RX4, "of", "(II)I"⟩
abbrev cX4_more : ByteArray := prog_6_method_5_code
def yX4_more : MethodName := ⟨RX4, "more", "(III)V"⟩
abbrev cX4_ofLoan : ByteArray := prog_6_method_6_code
def yX4_ofLoan : MethodName := ⟨RX4, "ofLoan", "(II)I"⟩
abbrev cX4_isCell : ByteArray := prog_6_method_7_code
def yX4_isCell : MethodName := ⟨RX4, "isCell", "(I)Z"⟩
abbrev cX4_isLoan : ByteArray := prog_6_method_8_code
def yX4_isLoan : MethodName := ⟨RX4, "isLoan", "(I)Z"⟩
abbrev cX4_isSound : ByteArray := prog_6_method_9_code
def yX4_isSound : MethodName := ⟨RX4, "isSound", "(I)Z"⟩
abbrev cX4_layPut : ByteArray := prog_6_method_10_code
def yX4_layPut : MethodName := ⟨RX4, "layPut", "()V"⟩
abbrev cX4_putBack : ByteArray := prog_6_method_11_code
def yX4_putBack : MethodName := ⟨RX4, "putBack", "()V"⟩
abbrev cX4_remember : ByteArray := prog_6_method_12_code
def yX4_remember : MethodName := ⟨RX4, "remember", "()V"⟩
abbrev cX4_arrives : ByteArray := prog_6_method_13_code
def yX4_arrives : MethodName := ⟨RX4, "arrives", "(III)I"⟩
abbrev cX4_isTooMuch : ByteArray := prog_6_method_14_code
def yX4_isTooMuch : MethodName := ⟨RX4, "isTooMuch", "(III)Z"⟩
abbrev cX4_shuttle : ByteArray := prog_6_method_15_code
def yX4_shuttle : MethodName := ⟨RX4, "shuttle", "(III)I"⟩
abbrev cX4_makeLoan : ByteArray := prog_6_method_16_code
def yX4_makeLoan : MethodName := ⟨RX4, "makeLoan", "(IIII)I"⟩
abbrev cX4_removeLoan : ByteArray := prog_6_method_17_code
def yX4_removeLoan : MethodName := ⟨RX4, "removeLoan", "(I)V"⟩
abbrev cX4_interest : ByteArray := prog_6_method_18_code
def yX4_interest : MethodName := ⟨RX4, "interest", "(I)I"⟩
abbrev cX4_owedBy : ByteArray := prog_6_method_19_code
def yX4_owedBy : MethodName := ⟨RX4, "owedBy", "(II)I"⟩
abbrev cX4_burnInterest : ByteArray := prog_6_method_20_code
def yX4_burnInterest : MethodName := ⟨RX4, "burnInterest", "()V"⟩
abbrev cX4_breaks : ByteArray := prog_6_method_21_code
def yX4_breaks : MethodName := ⟨RX4, "breaks", "(I)V"⟩
abbrev cX4_round : ByteArray := prog_6_method_22_code
def yX4_round : MethodName := ⟨RX4, "round", "()I"⟩
abbrev cX4_rounds : ByteArray := prog_6_method_23_code
def yX4_rounds : MethodName := ⟨RX4, "rounds", "(I)I"⟩
abbrev cX4_charges : ByteArray := prog_6_method_24_code
def yX4_charges : MethodName := ⟨RX4, "charges", "(I)I"⟩
abbrev cX4_size : ByteArray := prog_6_method_25_code
def yX4_size : MethodName := ⟨RX4, "size", "(III)I"⟩
abbrev cX4_richest : ByteArray := prog_6_method_26_code
def yX4_richest : MethodName := ⟨RX4, "richest", "(I)I"⟩
abbrev cX4_borrows : ByteArray := prog_6_method_27_code
def yX4_borrows : MethodName := ⟨RX4, "borrows", "(II)Z"⟩
abbrev cX4_draws0 : ByteArray := prog_6_method_28_code
def yX4_draws0 : MethodName := ⟨RX4, "draws0", "(I)I"⟩
abbrev cX4_drawn : ByteArray := prog_6_method_29_code
def yX4_drawn : MethodName := ⟨RX4, "drawn", "(I)I"⟩
abbrev cX4_allCharge : ByteArray := prog_6_method_30_code
def yX4_allCharge : MethodName := ⟨RX4, "allCharge", "()I"⟩
abbrev cX4_append : ByteArray := prog_6_method_31_code
def yX4_append : MethodName := ⟨RX4, "append", "(I)I"⟩
abbrev cX4_clearText : ByteArray := prog_6_method_32_code
def yX4_clearText : MethodName := ⟨RX4, "clearText", "()I"⟩
abbrev cX4_look : ByteArray := prog_6_method_33_code
def yX4_look : MethodName := ⟨RX4, "look", "()I"⟩
abbrev cX4_must : ByteArray := prog_6_method_34_code
def yX4_must : MethodName := ⟨RX4, "must", "(Z)V"⟩
abbrev cX4_number : ByteArray := prog_6_method_35_code
def yX4_number : MethodName := ⟨RX4, "number", "(III)I"⟩
abbrev cX4_newCell : ByteArray := prog_6_method_36_code
def yX4_newCell : MethodName := ⟨RX4, "newCell", "(III)I"⟩
abbrev cX4_readCell : ByteArray := prog_6_method_37_code
def yX4_readCell : MethodName := ⟨RX4, "readCell", "()V"⟩
abbrev cX4_cellHere : ByteArray := prog_6_method_38_code
def yX4_cellHere : MethodName := ⟨RX4, "cellHere", "(I)I"⟩
abbrev cX4_readLoan : ByteArray := prog_6_method_39_code
def yX4_readLoan : MethodName := ⟨RX4, "readLoan", "()V"⟩
abbrev cX4_isBattery : ByteArray := prog_6_method_40_code
def yX4_isBattery : MethodName := ⟨RX4, "isBattery", "()Z"⟩
abbrev cX4_errorPosition : ByteArray := prog_6_method_41_code
def yX4_errorPosition : MethodName := ⟨RX4, "errorPosition", "()I"⟩
abbrev cX4_load : ByteArray := prog_6_method_42_code
def yX4_load : MethodName := ⟨RX4, "load", "()I"⟩
abbrev cX4_bankrupts : ByteArray := prog_6_method_43_code
def yX4_bankrupts : MethodName := ⟨RX4, "bankrupts", "()I"⟩
abbrev cX4_allOwed : ByteArray := prog_6_method_44_code
def yX4_allOwed : MethodName := ⟨RX4, "allOwed", "()I"⟩
abbrev cX4_about : ByteArray := prog_6_method_45_code
def yX4_about : MethodName := ⟨RX4, "about", "(I)I"⟩
abbrev cX4_interestOf : ByteArray := prog_6_method_46_code
def yX4_interestOf : MethodName := ⟨RX4, "interestOf", "(I)I"⟩
abbrev cX4_kindOf : ByteArray := prog_6_method_47_code
def yX4_kindOf : MethodName := ⟨RX4, "kindOf", "(I)I"⟩
abbrev cX4_cell : ByteArray := prog_6_method_48_code
def yX4_cell : MethodName := ⟨RX4, "cell", "(II)I"⟩
abbrev cX4_loan : ByteArray := prog_6_method_49_code
def yX4_loan : MethodName := ⟨RX4, "loan", "(II)I"⟩
abbrev cX4_order : ByteArray := prog_6_method_50_code
def yX4_order : MethodName := ⟨RX4, "order", "(I)I"⟩
abbrev cX4_addCell : ByteArray := prog_6_method_51_code
def yX4_addCell : MethodName := ⟨RX4, "addCell", "(III)I"⟩
abbrev cX4_whyNoLend : ByteArray := prog_6_method_52_code
def yX4_whyNoLend : MethodName := ⟨RX4, "whyNoLend", "(IIII)I"⟩
abbrev cX4_lend : ByteArray := prog_6_method_53_code
def yX4_lend : MethodName := ⟨RX4, "lend", "(IIII)I"⟩
abbrev cX4_whyNoRepay : ByteArray := prog_6_method_54_code
def yX4_whyNoRepay : MethodName := ⟨RX4, "whyNoRepay", "(II)I"⟩
abbrev cX4_repays : ByteArray := prog_6_method_55_code
def yX4_repays : MethodName := ⟨RX4, "repays", "(II)I"⟩
abbrev cX4_repay : ByteArray := prog_6_method_56_code
def yX4_repay : MethodName := ⟨RX4, "repay", "(II)I"⟩
abbrev cX4_setLeak : ByteArray := prog_6_method_57_code
def yX4_setLeak : MethodName := ⟨RX4, "setLeak", "(II)I"⟩
abbrev cX4_charge : ByteArray := prog_6_method_58_code
def yX4_charge : MethodName := ⟨RX4, "charge", "(I)I"⟩
abbrev cX4_draw : ByteArray := prog_6_method_59_code
def yX4_draw : MethodName := ⟨RX4, "draw", "(I)I"⟩
abbrev cX4_pass : ByteArray := prog_6_method_60_code
def yX4_pass : MethodName := ⟨RX4, "pass", "(I)I"⟩
abbrev cX4_undo : ByteArray := prog_6_method_61_code
def yX4_undo : MethodName := ⟨RX4, "undo", "()I"⟩
abbrev cX4_holds : ByteArray := prog_6_method_62_code
def yX4_holds : MethodName := ⟨RX4, "holds", "(I)I"⟩
abbrev cX4_draws : ByteArray := prog_6_method_63_code
def yX4_draws : MethodName := ⟨RX4, "draws", "(I)I"⟩
abbrev cX4_most : ByteArray := prog_6_method_64_code
def yX4_most : MethodName := ⟨RX4, "most", "()I"⟩
abbrev cX4_bestLender : ByteArray := prog_6_method_65_code
def yX4_bestLender : MethodName := ⟨RX4, "bestLender", "(II)I"⟩
abbrev cX4_costs : ByteArray := prog_6_method_66_code
def yX4_costs : MethodName := ⟨RX4, "costs", "(II)I"⟩
abbrev cX4_isLent : ByteArray := prog_6_method_67_code
def yX4_isLent : MethodName := ⟨RX4, "isLent", "(III)Z"⟩
abbrev cX4_isRepaid : ByteArray := prog_6_method_68_code
def yX4_isRepaid : MethodName := ⟨RX4, "isRepaid", "(II)Z"⟩
abbrev cX4_isCharged : ByteArray := prog_6_method_69_code
def yX4_isCharged : MethodName := ⟨RX4, "isCharged", "(I)Z"⟩
abbrev cX4_isPassed : ByteArray := prog_6_method_70_code
def yX4_isPassed : MethodName := ⟨RX4, "isPassed", "(I)Z"⟩
abbrev cX4_bits : ByteArray := prog_6_method_71_code
def yX4_bits : MethodName := ⟨RX4, "bits", "(I)I"⟩
abbrev cX4_succeeds : ByteArray := prog_6_method_72_code
def yX4_succeeds : MethodName := ⟨RX4, "succeeds", "(I)Z"⟩
abbrev cX4_runScript : ByteArray := prog_6_method_73_code
def yX4_runScript : MethodName := ⟨RX4, "runScript", "(IJ)I"⟩
abbrev cX4_simulate : ByteArray := prog_6_method_74_code
def yX4_simulate : MethodName := ⟨RX4, "simulate", "(JI)I"⟩
abbrev cX4_save : ByteArray := prog_6_method_75_code
def yX4_save : MethodName := ⟨RX4, "save", "(I)I"⟩
abbrev cX4_restore : ByteArray := prog_6_method_76_code
def yX4_restore : MethodName := ⟨RX4, "restore", "(I)I"⟩
def RJ6 : String := "java/lang/Integer"
def TJ6 : u_T := fun k => match k with
  | _ => ("", "", "", false)
def tyJ6 : Nat → FieldType := fun k => match k with
  | _ => .int
abbrev wsJ60 : List Cond := u_ws RJ6 TJ6 0
theorem nmJ6 : ∀ a, a < 0 → ∀ b, b < 0 → a ≠ b → (TJ6 a).2.1 ≠ (TJ6 b).2.1 := by decide +kernel
theorem tyJ6_ok : ∀ k, k < 0 → parseFieldDescriptor (TJ6 k).2.2.1 = some (tyJ6 k) := by decide +kernel
abbrev cJ6_bitCount_0f7a4 : ByteArray := prog_11_method_49_code
def yJ6_bitCount_0f7a4 : MethodName := ⟨RJ6, "bitCount", "(I)I"⟩
def RJ9 : String := "java/lang/Math"
def TJ9 : u_T := fun k => match k with
  | _ => ("", "", "", false)
def tyJ9 : Nat → FieldType := fun k => match k with
  | _ => .int
abbrev wsJ90 : List Cond := u_ws RJ9 TJ9 0
theorem nmJ9 : ∀ a, a < 0 → ∀ b, b < 0 → a ≠ b → (TJ9 a).2.1 ≠ (TJ9 b).2.1 := by decide +kernel
theorem tyJ9_ok : ∀ k, k < 0 → parseFieldDescriptor (TJ9 k).2.2.1 = some (tyJ9 k) := by decide +kernel
abbrev cJ9_min_7cf53 : ByteArray := prog_12_method_69_code
def yJ9_min_7cf53 : MethodName := ⟨RJ9, "min", "(II)I"⟩
def RJ0 : String := "java/lang/String"
def TJ0 : u_T := fun k => match k with
  | _ => ("", "", "", false)
def tyJ0 : Nat → FieldType := fun k => match k with
  | _ => .int
abbrev wsJ00 : List Cond := u_ws RJ0 TJ0 0
theorem nmJ0 : ∀ a, a < 0 → ∀ b, b < 0 → a ≠ b → (TJ0 a).2.1 ≠ (TJ0 b).2.1 := by decide +kernel
theorem tyJ0_ok : ∀ k, k < 0 → parseFieldDescriptor (TJ0 k).2.2.1 = some (tyJ0 k) := by decide +kernel
def RJ10 : String := "java/lang/System"
def TJ10 : u_T := fun k => match k with
  | _ => ("", "", "", false)
def tyJ10 : Nat → FieldType := fun k => match k with
  | _ => .int
abbrev wsJ100 : List Cond := u_ws RJ10 TJ10 0
theorem nmJ10 : ∀ a, a < 0 → ∀ b, b < 0 → a ≠ b → (TJ10 a).2.1 ≠ (TJ10 b).2.1 := by decide +kernel
theorem tyJ10_ok : ∀ k, k < 0 → parseFieldDescriptor (TJ10 k).2.2.1 = some (tyJ10 k) := by decide +kernel
def RL : String := "LendingCellsLaw"
abbrev cL_append : ByteArray := method_3_code
def yL_append : MethodName := ⟨RL, "append", "(LLendingCells;I[J)I"⟩
abbrev cL_load : ByteArray := method_4_code
def yL_load : MethodName := ⟨RL, "load", "(LLendingCells;[J)I"⟩
abbrev cL_about : ByteArray := method_5_code
def yL_about : MethodName := ⟨RL, "about", "(LLendingCells;I[J)I"⟩
abbrev cL_cell : ByteArray := method_6_code
def yL_cell : MethodName := ⟨RL, "cell", "(LLendingCells;II[J)I"⟩
abbrev cL_loan : ByteArray := method_7_code
def yL_loan : MethodName := ⟨RL, "loan", "(LLendingCells;II[J)I"⟩
abbrev cL_order : ByteArray := method_8_code
def yL_order : MethodName := ⟨RL, "order", "(LLendingCells;I[J)I"⟩
abbrev cL_addCell : ByteArray := method_9_code
def yL_addCell : MethodName := ⟨RL, "addCell", "(LLendingCells;III[J)I"⟩
abbrev cL_lend : ByteArray := method_10_code
def yL_lend : MethodName := ⟨RL, "lend", "(LLendingCells;IIII[J)I"⟩
abbrev cL_repay : ByteArray := method_11_code
def yL_repay : MethodName := ⟨RL, "repay", "(LLendingCells;II[J)I"⟩
abbrev cL_setLeak : ByteArray := method_12_code
def yL_setLeak : MethodName := ⟨RL, "setLeak", "(LLendingCells;II[J)I"⟩
abbrev cL_charge : ByteArray := method_13_code
def yL_charge : MethodName := ⟨RL, "charge", "(LLendingCells;I[J)I"⟩
abbrev cL_draw : ByteArray := method_14_code
def yL_draw : MethodName := ⟨RL, "draw", "(LLendingCells;I[J)I"⟩
abbrev cL_pass : ByteArray := method_15_code
def yL_pass : MethodName := ⟨RL, "pass", "(LLendingCells;I[J)I"⟩
abbrev cL_undo : ByteArray := method_16_code
def yL_undo : MethodName := ⟨RL, "undo", "(LLendingCells;[J)I"⟩
abbrev cL_holds : ByteArray := method_17_code
def yL_holds : MethodName := ⟨RL, "holds", "(LLendingCells;I[J)I"⟩
abbrev cL_draws : ByteArray := method_18_code
def yL_draws : MethodName := ⟨RL, "draws", "(LLendingCells;I[J)I"⟩
abbrev cL_bestLender : ByteArray := method_19_code
def yL_bestLender : MethodName := ⟨RL, "bestLender", "(LLendingCells;II[J)I"⟩
abbrev cL_costs : ByteArray := method_20_code
def yL_costs : MethodName := ⟨RL, "costs", "(LLendingCells;II[J)I"⟩
abbrev cL_runScript : ByteArray := method_21_code
def yL_runScript : MethodName := ⟨RL, "runScript", "(LLendingCells;IJ[J)I"⟩
abbrev cL_simulate : ByteArray := method_22_code
def yL_simulate : MethodName := ⟨RL, "simulate", "(LLendingCells;JI[J)I"⟩
abbrev cL_save : ByteArray := method_23_code
def yL_save : MethodName := ⟨RL, "save", "(LLendingCells;I[J)I"⟩
abbrev cL_restore : ByteArray := method_24_code
def yL_restore : MethodName := ⟨RL, "restore", "(LLendingCells;I[J)I"⟩
abbrev cL_law : ByteArray := code
def yL_law : MethodName := ⟨RL, "law", "([I)Z"⟩
abbrev vwCl : List vw_C := [(RX0, TX0, 18), (RX1, TX1, 3), (RX2, TX2, 3), (RX3, TX3, 7), (RX4, TX4, 15)]
end
section
theorem dX0_init_0 : decode cX0_init 0 = .ok (.aload_n 0, 1) := by decide +kernel
theorem dX0_init_1 : decode cX0_init 1 = .ok (.invokespecial 3, 3) := by decide +kernel
theorem dX0_init_4 : decode cX0_init 4 = .ok (.aload_n 0, 1) := by decide +kernel
theorem dX0_init_5 : decode cX0_init 5 = .ok (.bipush 8, 2) := by decide +kernel
theorem dX0_init_7 : decode cX0_init 7 = .ok (.newarray .int, 2) := by decide +kernel
theorem dX0_init_9 : decode cX0_init 9 = .ok (.putfield 9, 3) := by decide +kernel
theorem dX0_init_12 : decode cX0_init 12 = .ok (.aload_n 0, 1) := by decide +kernel
theorem dX0_init_13 : decode cX0_init 13 = .ok (.bipush 8, 2) := by decide +kernel
theorem dX0_init_15 : decode cX0_init 15 = .ok (.newarray .int, 2) := by decide +kernel
theorem dX0_init_17 : decode cX0_init 17 = .ok (.putfield 15, 3) := by decide +kernel
theorem dX0_init_20 : decode cX0_init 20 = .ok (.aload_n 0, 1) := by decide +kernel
theorem dX0_init_21 : decode cX0_init 21 = .ok (.bipush 8, 2) := by decide +kernel
theorem dX0_init_23 : decode cX0_init 23 = .ok (.newarray .int, 2) := by decide +kernel
theorem dX0_init_25 : decode cX0_init 25 = .ok (.putfield 18, 3) := by decide +kernel
theorem dX0_init_28 : decode cX0_init 28 = .ok (.aload_n 0, 1) := by decide +kernel
theorem dX0_init_29 : decode cX0_init 29 = .ok (.bipush 8, 2) := by decide +kernel
theorem dX0_init_31 : decode cX0_init 31 = .ok (.newarray .int, 2) := by decide +kernel
theorem dX0_init_33 : decode cX0_init 33 = .ok (.putfield 21, 3) := by decide +kernel
theorem dX0_init_36 : decode cX0_init 36 = .ok (.aload_n 0, 1) := by decide +kernel
theorem dX0_init_37 : decode cX0_init 37 = .ok (.bipush 12, 2) := by decide +kernel
theorem dX0_init_39 : decode cX0_init 39 = .ok (.newarray .int, 2) := by decide +kernel
theorem dX0_init_41 : decode cX0_init 41 = .ok (.putfield 24, 3) := by decide +kernel
theorem dX0_init_44 : decode cX0_init 44 = .ok (.aload_n 0, 1) := by decide +kernel
theorem dX0_init_45 : decode cX0_init 45 = .ok (.bipush 12, 2) := by decide +kernel
theorem dX0_init_47 : decode cX0_init 47 = .ok (.newarray .int, 2) := by decide +kernel
theorem dX0_init_49 : decode cX0_init 49 = .ok (.putfield 27, 3) := by decide +kernel
theorem dX0_init_52 : decode cX0_init 52 = .ok (.aload_n 0, 1) := by decide +kernel
theorem dX0_init_53 : decode cX0_init 53 = .ok (.bipush 12, 2) := by decide +kernel
theorem dX0_init_55 : decode cX0_init 55 = .ok (.newarray .int, 2) := by decide +kernel
theorem dX0_init_57 : decode cX0_init 57 = .ok (.putfield 30, 3) := by decide +kernel
theorem dX0_init_60 : decode cX0_init 60 = .ok (.aload_n 0, 1) := by decide +kernel
theorem dX0_init_61 : decode cX0_init 61 = .ok (.bipush 12, 2) := by decide +kernel
theorem dX0_init_63 : decode cX0_init 63 = .ok (.newarray .int, 2) := by decide +kernel
theorem dX0_init_65 : decode cX0_init 65 = .ok (.putfield 33, 3) := by decide +kernel
theorem dX0_init_68 : decode cX0_init 68 = .ok (.aload_n 0, 1) := by decide +kernel
theorem dX0_init_69 : decode cX0_init 69 = .ok (.bipush 12, 2) := by decide +kernel
theorem dX0_init_71 : decode cX0_init 71 = .ok (.newarray .int, 2) := by decide +kernel
theorem dX0_init_73 : decode cX0_init 73 = .ok (.putfield 36, 3) := by decide +kernel
theorem dX0_init_76 : decode cX0_init 76 = .ok (.aload_n 0, 1) := by decide +kernel
theorem dX0_init_77 : decode cX0_init 77 = .ok (.bipush (-9), 2) := by decide +kernel
theorem dX0_init_79 : decode cX0_init 79 = .ok (.putfield 39, 3) := by decide +kernel
theorem dX0_init_82 : decode cX0_init 82 = .ok (.return_, 1) := by decide +kernel
theorem dX0_becomeEmpty_0 : decode cX0_becomeEmpty 0 = .ok (.aload_n 0, 1) := by decide +kernel
theorem dX0_becomeEmpty_1 : decode cX0_becomeEmpty 1 = .ok (.iconst 0, 1) := by decide +kernel
theorem dX0_becomeEmpty_2 : decode cX0_becomeEmpty 2 = .ok (.putfield 43, 3) := by decide +kernel
theorem dX0_becomeEmpty_5 : decode cX0_becomeEmpty 5 = .ok (.aload_n 0, 1) := by decide +kernel
theorem dX0_becomeEmpty_6 : decode cX0_becomeEmpty 6 = .ok (.iconst 0, 1) := by decide +kernel
theorem dX0_becomeEmpty_7 : decode cX0_becomeEmpty 7 = .ok (.putfield 46, 3) := by decide +kernel
theorem dX0_becomeEmpty_10 : decode cX0_becomeEmpty 10 = .ok (.aload_n 0, 1) := by decide +kernel
theorem dX0_becomeEmpty_11 : decode cX0_becomeEmpty 11 = .ok (.iconst 0, 1) := by decide +kernel
theorem dX0_becomeEmpty_12 : decode cX0_becomeEmpty 12 = .ok (.putfield 49, 3) := by decide +kernel
theorem dX0_becomeEmpty_15 : decode cX0_becomeEmpty 15 = .ok (.aload_n 0, 1) := by decide +kernel
theorem dX0_becomeEmpty_16 : decode cX0_becomeEmpty 16 = .ok (.iconst 0, 1) := by decide +kernel
theorem dX0_becomeEmpty_17 : decode cX0_becomeEmpty 17 = .ok (.putfield 52, 3) := by decide +kernel
theorem dX0_becomeEmpty_20 : decode cX0_becomeEmpty 20 = .ok (.aload_n 0, 1) := by decide +kernel
theorem dX0_becomeEmpty_21 : decode cX0_becomeEmpty 21 = .ok (.iconst 0, 1) := by decide +kernel
theorem dX0_becomeEmpty_22 : decode cX0_becomeEmpty 22 = .ok (.putfield 55, 3) := by decide +kernel
theorem dX0_becomeEmpty_25 : decode cX0_becomeEmpty 25 = .ok (.aload_n 0, 1) := by decide +kernel
theorem dX0_becomeEmpty_26 : decode cX0_becomeEmpty 26 = .ok (.iconst 0, 1) := by decide +kernel
theorem dX0_becomeEmpty_27 : decode cX0_becomeEmpty 27 = .ok (.putfield 58, 3) := by decide +kernel
theorem dX0_becomeEmpty_30 : decode cX0_becomeEmpty 30 = .ok (.aload_n 0, 1) := by decide +kernel
theorem dX0_becomeEmpty_31 : decode cX0_becomeEmpty 31 = .ok (.iconst 0, 1) := by decide +kernel
theorem dX0_becomeEmpty_32 : decode cX0_becomeEmpty 32 = .ok (.putfield 61, 3) := by decide +kernel
theorem dX0_becomeEmpty_35 : decode cX0_becomeEmpty 35 = .ok (.aload_n 0, 1) := by decide +kernel
theorem dX0_becomeEmpty_36 : decode cX0_becomeEmpty 36 = .ok (.bipush (-9), 2) := by decide +kernel
theorem dX0_becomeEmpty_38 : decode cX0_becomeEmpty 38 = .ok (.putfield 39, 3) := by decide +kernel
theorem dX0_becomeEmpty_41 : decode cX0_becomeEmpty 41 = .ok (.aload_n 0, 1) := by decide +kernel
theorem dX0_becomeEmpty_42 : decode cX0_becomeEmpty 42 = .ok (.iconst 0, 1) := by decide +kernel
theorem dX0_becomeEmpty_43 : decode cX0_becomeEmpty 43 = .ok (.putfield 64, 3) := by decide +kernel
theorem dX0_becomeEmpty_46 : decode cX0_becomeEmpty 46 = .ok (.return_, 1) := by decide +kernel
theorem dX0_copyFrom_0 : decode cX0_copyFrom 0 = .ok (.aload_n 1, 1) := by decide +kernel
theorem dX0_copyFrom_1 : decode cX0_copyFrom 1 = .ok (.getfield 9, 3) := by decide +kernel
theorem dX0_copyFrom_4 : decode cX0_copyFrom 4 = .ok (.iconst 0, 1) := by decide +kernel
theorem dX0_copyFrom_5 : decode cX0_copyFrom 5 = .ok (.aload_n 0, 1) := by decide +kernel
theorem dX0_copyFrom_6 : decode cX0_copyFrom 6 = .ok (.getfield 9, 3) := by decide +kernel
theorem dX0_copyFrom_9 : decode cX0_copyFrom 9 = .ok (.iconst 0, 1) := by decide +kernel
theorem dX0_copyFrom_10 : decode cX0_copyFrom 10 = .ok (.bipush 8, 2) := by decide +kernel
theorem dX0_copyFrom_12 : decode cX0_copyFrom 12 = .ok (.invokestatic 67, 3) := by decide +kernel
theorem dX0_copyFrom_15 : decode cX0_copyFrom 15 = .ok (.aload_n 1, 1) := by decide +kernel
theorem dX0_copyFrom_16 : decode cX0_copyFrom 16 = .ok (.getfield 15, 3) := by decide +kernel
theorem dX0_copyFrom_19 : decode cX0_copyFrom 19 = .ok (.iconst 0, 1) := by decide +kernel
theorem dX0_copyFrom_20 : decode cX0_copyFrom 20 = .ok (.aload_n 0, 1) := by decide +kernel
theorem dX0_copyFrom_21 : decode cX0_copyFrom 21 = .ok (.getfield 15, 3) := by decide +kernel
theorem dX0_copyFrom_24 : decode cX0_copyFrom 24 = .ok (.iconst 0, 1) := by decide +kernel
theorem dX0_copyFrom_25 : decode cX0_copyFrom 25 = .ok (.bipush 8, 2) := by decide +kernel
theorem dX0_copyFrom_27 : decode cX0_copyFrom 27 = .ok (.invokestatic 67, 3) := by decide +kernel
theorem dX0_copyFrom_30 : decode cX0_copyFrom 30 = .ok (.aload_n 1, 1) := by decide +kernel
theorem dX0_copyFrom_31 : decode cX0_copyFrom 31 = .ok (.getfield 18, 3) := by decide +kernel
theorem dX0_copyFrom_34 : decode cX0_copyFrom 34 = .ok (.iconst 0, 1) := by decide +kernel
theorem dX0_copyFrom_35 : decode cX0_copyFrom 35 = .ok (.aload_n 0, 1) := by decide +kernel
theorem dX0_copyFrom_36 : decode cX0_copyFrom 36 = .ok (.getfield 18, 3) := by decide +kernel
theorem dX0_copyFrom_39 : decode cX0_copyFrom 39 = .ok (.iconst 0, 1) := by decide +kernel
theorem dX0_copyFrom_40 : decode cX0_copyFrom 40 = .ok (.bipush 8, 2) := by decide +kernel
theorem dX0_copyFrom_42 : decode cX0_copyFrom 42 = .ok (.invokestatic 67, 3) := by decide +kernel
theorem dX0_copyFrom_45 : decode cX0_copyFrom 45 = .ok (.aload_n 1, 1) := by decide +kernel
theorem dX0_copyFrom_46 : decode cX0_copyFrom 46 = .ok (.getfield 21, 3) := by decide +kernel
theorem dX0_copyFrom_49 : decode cX0_copyFrom 49 = .ok (.iconst 0, 1) := by decide +kernel
theorem dX0_copyFrom_50 : decode cX0_copyFrom 50 = .ok (.aload_n 0, 1) := by decide +kernel
theorem dX0_copyFrom_51 : decode cX0_copyFrom 51 = .ok (.getfield 21, 3) := by decide +kernel
theorem dX0_copyFrom_54 : decode cX0_copyFrom 54 = .ok (.iconst 0, 1) := by decide +kernel
theorem dX0_copyFrom_55 : decode cX0_copyFrom 55 = .ok (.bipush 8, 2) := by decide +kernel
theorem dX0_copyFrom_57 : decode cX0_copyFrom 57 = .ok (.invokestatic 67, 3) := by decide +kernel
theorem dX0_copyFrom_60 : decode cX0_copyFrom 60 = .ok (.aload_n 1, 1) := by decide +kernel
theorem dX0_copyFrom_61 : decode cX0_copyFrom 61 = .ok (.getfield 24, 3) := by decide +kernel
theorem dX0_copyFrom_64 : decode cX0_copyFrom 64 = .ok (.iconst 0, 1) := by decide +kernel
theorem dX0_copyFrom_65 : decode cX0_copyFrom 65 = .ok (.aload_n 0, 1) := by decide +kernel
theorem dX0_copyFrom_66 : decode cX0_copyFrom 66 = .ok (.getfield 24, 3) := by decide +kernel
theorem dX0_copyFrom_69 : decode cX0_copyFrom 69 = .ok (.iconst 0, 1) := by decide +kernel
theorem dX0_copyFrom_70 : decode cX0_copyFrom 70 = .ok (.bipush 12, 2) := by decide +kernel
theorem dX0_copyFrom_72 : decode cX0_copyFrom 72 = .ok (.invokestatic 67, 3) := by decide +kernel
theorem dX0_copyFrom_75 : decode cX0_copyFrom 75 = .ok (.aload_n 1, 1) := by decide +kernel
theorem dX0_copyFrom_76 : decode cX0_copyFrom 76 = .ok (.getfield 27, 3) := by decide +kernel
theorem dX0_copyFrom_79 : decode cX0_copyFrom 79 = .ok (.iconst 0, 1) := by decide +kernel
theorem dX0_copyFrom_80 : decode cX0_copyFrom 80 = .ok (.aload_n 0, 1) := by decide +kernel
theorem dX0_copyFrom_81 : decode cX0_copyFrom 81 = .ok (.getfield 27, 3) := by decide +kernel
theorem dX0_copyFrom_84 : decode cX0_copyFrom 84 = .ok (.iconst 0, 1) := by decide +kernel
theorem dX0_copyFrom_85 : decode cX0_copyFrom 85 = .ok (.bipush 12, 2) := by decide +kernel
theorem dX0_copyFrom_87 : decode cX0_copyFrom 87 = .ok (.invokestatic 67, 3) := by decide +kernel
theorem dX0_copyFrom_90 : decode cX0_copyFrom 90 = .ok (.aload_n 1, 1) := by decide +kernel
theorem dX0_copyFrom_91 : decode cX0_copyFrom 91 = .ok (.getfield 30, 3) := by decide +kernel
theorem dX0_copyFrom_94 : decode cX0_copyFrom 94 = .ok (.iconst 0, 1) := by decide +kernel
theorem dX0_copyFrom_95 : decode cX0_copyFrom 95 = .ok (.aload_n 0, 1) := by decide +kernel
theorem dX0_copyFrom_96 : decode cX0_copyFrom 96 = .ok (.getfield 30, 3) := by decide +kernel
theorem dX0_copyFrom_99 : decode cX0_copyFrom 99 = .ok (.iconst 0, 1) := by decide +kernel
theorem dX0_copyFrom_100 : decode cX0_copyFrom 100 = .ok (.bipush 12, 2) := by decide +kernel
theorem dX0_copyFrom_102 : decode cX0_copyFrom 102 = .ok (.invokestatic 67, 3) := by decide +kernel
theorem dX0_copyFrom_105 : decode cX0_copyFrom 105 = .ok (.aload_n 1, 1) := by decide +kernel
theorem dX0_copyFrom_106 : decode cX0_copyFrom 106 = .ok (.getfield 33, 3) := by decide +kernel
theorem dX0_copyFrom_109 : decode cX0_copyFrom 109 = .ok (.iconst 0, 1) := by decide +kernel
theorem dX0_copyFrom_110 : decode cX0_copyFrom 110 = .ok (.aload_n 0, 1) := by decide +kernel
theorem dX0_copyFrom_111 : decode cX0_copyFrom 111 = .ok (.getfield 33, 3) := by decide +kernel
theorem dX0_copyFrom_114 : decode cX0_copyFrom 114 = .ok (.iconst 0, 1) := by decide +kernel
theorem dX0_copyFrom_115 : decode cX0_copyFrom 115 = .ok (.bipush 12, 2) := by decide +kernel
theorem dX0_copyFrom_117 : decode cX0_copyFrom 117 = .ok (.invokestatic 67, 3) := by decide +kernel
theorem dX0_copyFrom_120 : decode cX0_copyFrom 120 = .ok (.aload_n 1, 1) := by decide +kernel
theorem dX0_copyFrom_121 : decode cX0_copyFrom 121 = .ok (.getfield 36, 3) := by decide +kernel
theorem dX0_copyFrom_124 : decode cX0_copyFrom 124 = .ok (.iconst 0, 1) := by decide +kernel
theorem dX0_copyFrom_125 : decode cX0_copyFrom 125 = .ok (.aload_n 0, 1) := by decide +kernel
theorem dX0_copyFrom_126 : decode cX0_copyFrom 126 = .ok (.getfield 36, 3) := by decide +kernel
theorem dX0_copyFrom_129 : decode cX0_copyFrom 129 = .ok (.iconst 0, 1) := by decide +kernel
theorem dX0_copyFrom_130 : decode cX0_copyFrom 130 = .ok (.bipush 12, 2) := by decide +kernel
theorem dX0_copyFrom_132 : decode cX0_copyFrom 132 = .ok (.invokestatic 67, 3) := by decide +kernel
theorem dX0_copyFrom_135 : decode cX0_copyFrom 135 = .ok (.aload_n 0, 1) := by decide +kernel
theorem dX0_copyFrom_136 : decode cX0_copyFrom 136 = .ok (.aload_n 1, 1) := by decide +kernel
theorem dX0_copyFrom_137 : decode cX0_copyFrom 137 = .ok (.getfield 43, 3) := by decide +kernel
theorem dX0_copyFrom_140 : decode cX0_copyFrom 140 = .ok (.putfield 43, 3) := by decide +kernel
theorem dX0_copyFrom_143 : decode cX0_copyFrom 143 = .ok (.aload_n 0, 1) := by decide +kernel
theorem dX0_copyFrom_144 : decode cX0_copyFrom 144 = .ok (.aload_n 1, 1) := by decide +kernel
theorem dX0_copyFrom_145 : decode cX0_copyFrom 145 = .ok (.getfield 46, 3) := by decide +kernel
theorem dX0_copyFrom_148 : decode cX0_copyFrom 148 = .ok (.putfield 46, 3) := by decide +kernel
theorem dX0_copyFrom_151 : decode cX0_copyFrom 151 = .ok (.aload_n 0, 1) := by decide +kernel
theorem dX0_copyFrom_152 : decode cX0_copyFrom 152 = .ok (.aload_n 1, 1) := by decide +kernel
theorem dX0_copyFrom_153 : decode cX0_copyFrom 153 = .ok (.getfield 49, 3) := by decide +kernel
theorem dX0_copyFrom_156 : decode cX0_copyFrom 156 = .ok (.putfield 49, 3) := by decide +kernel
theorem dX0_copyFrom_159 : decode cX0_copyFrom 159 = .ok (.aload_n 0, 1) := by decide +kernel
theorem dX0_copyFrom_160 : decode cX0_copyFrom 160 = .ok (.aload_n 1, 1) := by decide +kernel
theorem dX0_copyFrom_161 : decode cX0_copyFrom 161 = .ok (.getfield 52, 3) := by decide +kernel
theorem dX0_copyFrom_164 : decode cX0_copyFrom 164 = .ok (.putfield 52, 3) := by decide +kernel
theorem dX0_copyFrom_167 : decode cX0_copyFrom 167 = .ok (.aload_n 0, 1) := by decide +kernel
theorem dX0_copyFrom_168 : decode cX0_copyFrom 168 = .ok (.aload_n 1, 1) := by decide +kernel
theorem dX0_copyFrom_169 : decode cX0_copyFrom 169 = .ok (.getfield 55, 3) := by decide +kernel
theorem dX0_copyFrom_172 : decode cX0_copyFrom 172 = .ok (.putfield 55, 3) := by decide +kernel
theorem dX0_copyFrom_175 : decode cX0_copyFrom 175 = .ok (.aload_n 0, 1) := by decide +kernel
theorem dX0_copyFrom_176 : decode cX0_copyFrom 176 = .ok (.aload_n 1, 1) := by decide +kernel
theorem dX0_copyFrom_177 : decode cX0_copyFrom 177 = .ok (.getfield 58, 3) := by decide +kernel
theorem dX0_copyFrom_180 : decode cX0_copyFrom 180 = .ok (.putfield 58, 3) := by decide +kernel
theorem dX0_copyFrom_183 : decode cX0_copyFrom 183 = .ok (.aload_n 0, 1) := by decide +kernel
theorem dX0_copyFrom_184 : decode cX0_copyFrom 184 = .ok (.aload_n 1, 1) := by decide +kernel
theorem dX0_copyFrom_185 : decode cX0_copyFrom 185 = .ok (.getfield 61, 3) := by decide +kernel
theorem dX0_copyFrom_188 : decode cX0_copyFrom 188 = .ok (.putfield 61, 3) := by decide +kernel
theorem dX0_copyFrom_191 : decode cX0_copyFrom 191 = .ok (.aload_n 0, 1) := by decide +kernel
theorem dX0_copyFrom_192 : decode cX0_copyFrom 192 = .ok (.bipush (-9), 2) := by decide +kernel
theorem dX0_copyFrom_194 : decode cX0_copyFrom 194 = .ok (.putfield 39, 3) := by decide +kernel
theorem dX0_copyFrom_197 : decode cX0_copyFrom 197 = .ok (.aload_n 0, 1) := by decide +kernel
theorem dX0_copyFrom_198 : decode cX0_copyFrom 198 = .ok (.iconst 0, 1) := by decide +kernel
theorem dX0_copyFrom_199 : decode cX0_copyFrom 199 = .ok (.putfield 64, 3) := by decide +kernel
theorem dX0_copyFrom_202 : decode cX0_copyFrom 202 = .ok (.return_, 1) := by decide +kernel
theorem dX0_hasCell_0 : decode cX0_hasCell 0 = .ok (.iload_n 1, 1) := by decide +kernel
theorem dX0_hasCell_1 : decode cX0_hasCell 1 = .ok (.ifCond .lt 15, 3) := by decide +kernel
theorem dX0_hasCell_4 : decode cX0_hasCell 4 = .ok (.iload_n 1, 1) := by decide +kernel
theorem dX0_hasCell_5 : decode cX0_hasCell 5 = .ok (.aload_n 0, 1) := by decide +kernel
theorem dX0_hasCell_6 : decode cX0_hasCell 6 = .ok (.getfield 43, 3) := by decide +kernel
theorem dX0_hasCell_9 : decode cX0_hasCell 9 = .ok (.if_icmp .ge 7, 3) := by decide +kernel
theorem dX0_hasCell_12 : decode cX0_hasCell 12 = .ok (.iconst 1, 1) := by decide +kernel
theorem dX0_hasCell_13 : decode cX0_hasCell 13 = .ok (.goto 4, 3) := by decide +kernel
theorem dX0_hasCell_16 : decode cX0_hasCell 16 = .ok (.iconst 0, 1) := by decide +kernel
theorem dX0_hasCell_17 : decode cX0_hasCell 17 = .ok (.ireturn, 1) := by decide +kernel
theorem dX0_hasLoan_0 : decode cX0_hasLoan 0 = .ok (.iload_n 1, 1) := by decide +kernel
theorem dX0_hasLoan_1 : decode cX0_hasLoan 1 = .ok (.ifCond .lt 15, 3) := by decide +kernel
theorem dX0_hasLoan_4 : decode cX0_hasLoan 4 = .ok (.iload_n 1, 1) := by decide +kernel
theorem dX0_hasLoan_5 : decode cX0_hasLoan 5 = .ok (.aload_n 0, 1) := by decide +kernel
theorem dX0_hasLoan_6 : decode cX0_hasLoan 6 = .ok (.getfield 46, 3) := by decide +kernel
theorem dX0_hasLoan_9 : decode cX0_hasLoan 9 = .ok (.if_icmp .ge 7, 3) := by decide +kernel
theorem dX0_hasLoan_12 : decode cX0_hasLoan 12 = .ok (.iconst 1, 1) := by decide +kernel
theorem dX0_hasLoan_13 : decode cX0_hasLoan 13 = .ok (.goto 4, 3) := by decide +kernel
theorem dX0_hasLoan_16 : decode cX0_hasLoan 16 = .ok (.iconst 0, 1) := by decide +kernel
theorem dX0_hasLoan_17 : decode cX0_hasLoan 17 = .ok (.ireturn, 1) := by decide +kernel
theorem dX0_isBankrupt_0 : decode cX0_isBankrupt 0 = .ok (.iload_n 1, 1) := by decide +kernel
theorem dX0_isBankrupt_1 : decode cX0_isBankrupt 1 = .ok (.ifCond .lt 25, 3) := by decide +kernel
theorem dX0_isBankrupt_4 : decode cX0_isBankrupt 4 = .ok (.iload_n 1, 1) := by decide +kernel
theorem dX0_isBankrupt_5 : decode cX0_isBankrupt 5 = .ok (.aload_n 0, 1) := by decide +kernel
theorem dX0_isBankrupt_6 : decode cX0_isBankrupt 6 = .ok (.getfield 43, 3) := by decide +kernel
theorem dX0_isBankrupt_9 : decode cX0_isBankrupt 9 = .ok (.if_icmp .ge 17, 3) := by decide +kernel
theorem dX0_isBankrupt_12 : decode cX0_isBankrupt 12 = .ok (.aload_n 0, 1) := by decide +kernel
theorem dX0_isBankrupt_13 : decode cX0_isBankrupt 13 = .ok (.getfield 21, 3) := by decide +kernel
theorem dX0_isBankrupt_16 : decode cX0_isBankrupt 16 = .ok (.iload_n 1, 1) := by decide +kernel
theorem dX0_isBankrupt_17 : decode cX0_isBankrupt 17 = .ok (.iaload, 1) := by decide +kernel
theorem dX0_isBankrupt_18 : decode cX0_isBankrupt 18 = .ok (.iconst 3, 1) := by decide +kernel
theorem dX0_isBankrupt_19 : decode cX0_isBankrupt 19 = .ok (.if_icmp .lt 7, 3) := by decide +kernel
theorem dX0_isBankrupt_22 : decode cX0_isBankrupt 22 = .ok (.iconst 1, 1) := by decide +kernel
theorem dX0_isBankrupt_23 : decode cX0_isBankrupt 23 = .ok (.goto 4, 3) := by decide +kernel
theorem dX0_isBankrupt_26 : decode cX0_isBankrupt 26 = .ok (.iconst 0, 1) := by decide +kernel
theorem dX0_isBankrupt_27 : decode cX0_isBankrupt 27 = .ok (.ireturn, 1) := by decide +kernel
theorem dX0_chargeOf_0 : decode cX0_chargeOf 0 = .ok (.aload_n 0, 1) := by decide +kernel
theorem dX0_chargeOf_1 : decode cX0_chargeOf 1 = .ok (.iload_n 1, 1) := by decide +kernel
theorem dX0_chargeOf_2 : decode cX0_chargeOf 2 = .ok (.invokevirtual 73, 3) := by decide +kernel
theorem dX0_chargeOf_5 : decode cX0_chargeOf 5 = .ok (.ifCond .eq 12, 3) := by decide +kernel
theorem dX0_chargeOf_8 : decode cX0_chargeOf 8 = .ok (.aload_n 0, 1) := by decide +kernel
theorem dX0_chargeOf_9 : decode cX0_chargeOf 9 = .ok (.getfield 15, 3) := by decide +kernel
theorem dX0_chargeOf_12 : decode cX0_chargeOf 12 = .ok (.iload_n 1, 1) := by decide +kernel
theorem dX0_chargeOf_13 : decode cX0_chargeOf 13 = .ok (.iaload, 1) := by decide +kernel
theorem dX0_chargeOf_14 : decode cX0_chargeOf 14 = .ok (.goto 4, 3) := by decide +kernel
theorem dX0_chargeOf_17 : decode cX0_chargeOf 17 = .ok (.iconst 0, 1) := by decide +kernel
theorem dX0_chargeOf_18 : decode cX0_chargeOf 18 = .ok (.ireturn, 1) := by decide +kernel
theorem dX0_roomOf_0 : decode cX0_roomOf 0 = .ok (.aload_n 0, 1) := by decide +kernel
theorem dX0_roomOf_1 : decode cX0_roomOf 1 = .ok (.iload_n 1, 1) := by decide +kernel
theorem dX0_roomOf_2 : decode cX0_roomOf 2 = .ok (.invokevirtual 73, 3) := by decide +kernel
theorem dX0_roomOf_5 : decode cX0_roomOf 5 = .ok (.ifCond .eq 19, 3) := by decide +kernel
theorem dX0_roomOf_8 : decode cX0_roomOf 8 = .ok (.aload_n 0, 1) := by decide +kernel
theorem dX0_roomOf_9 : decode cX0_roomOf 9 = .ok (.getfield 9, 3) := by decide +kernel
theorem dX0_roomOf_12 : decode cX0_roomOf 12 = .ok (.iload_n 1, 1) := by decide +kernel
theorem dX0_roomOf_13 : decode cX0_roomOf 13 = .ok (.iaload, 1) := by decide +kernel
theorem dX0_roomOf_14 : decode cX0_roomOf 14 = .ok (.aload_n 0, 1) := by decide +kernel
theorem dX0_roomOf_15 : decode cX0_roomOf 15 = .ok (.getfield 15, 3) := by decide +kernel
theorem dX0_roomOf_18 : decode cX0_roomOf 18 = .ok (.iload_n 1, 1) := by decide +kernel
theorem dX0_roomOf_19 : decode cX0_roomOf 19 = .ok (.iaload, 1) := by decide +kernel
theorem dX0_roomOf_20 : decode cX0_roomOf 20 = .ok (.isub, 1) := by decide +kernel
theorem dX0_roomOf_21 : decode cX0_roomOf 21 = .ok (.goto 4, 3) := by decide +kernel
theorem dX0_roomOf_24 : decode cX0_roomOf 24 = .ok (.iconst 0, 1) := by decide +kernel
theorem dX0_roomOf_25 : decode cX0_roomOf 25 = .ok (.ireturn, 1) := by decide +kernel
theorem dX0_allCharge_0 : decode cX0_allCharge 0 = .ok (.iconst 0, 1) := by decide +kernel
theorem dX0_allCharge_1 : decode cX0_allCharge 1 = .ok (.istore_n 1, 1) := by decide +kernel
theorem dX0_allCharge_2 : decode cX0_allCharge 2 = .ok (.iconst 0, 1) := by decide +kernel
theorem dX0_allCharge_3 : decode cX0_allCharge 3 = .ok (.istore_n 2, 1) := by decide +kernel
theorem dX0_allCharge_4 : decode cX0_allCharge 4 = .ok (.iload_n 2, 1) := by decide +kernel
theorem dX0_allCharge_5 : decode cX0_allCharge 5 = .ok (.aload_n 0, 1) := by decide +kernel
theorem dX0_allCharge_6 : decode cX0_allCharge 6 = .ok (.getfield 43, 3) := by decide +kernel
theorem dX0_allCharge_9 : decode cX0_allCharge 9 = .ok (.if_icmp .ge 18, 3) := by decide +kernel
theorem dX0_allCharge_12 : decode cX0_allCharge 12 = .ok (.iload_n 1, 1) := by decide +kernel
theorem dX0_allCharge_13 : decode cX0_allCharge 13 = .ok (.aload_n 0, 1) := by decide +kernel
theorem dX0_allCharge_14 : decode cX0_allCharge 14 = .ok (.getfield 15, 3) := by decide +kernel
theorem dX0_allCharge_17 : decode cX0_allCharge 17 = .ok (.iload_n 2, 1) := by decide +kernel
theorem dX0_allCharge_18 : decode cX0_allCharge 18 = .ok (.iaload, 1) := by decide +kernel
theorem dX0_allCharge_19 : decode cX0_allCharge 19 = .ok (.iadd, 1) := by decide +kernel
theorem dX0_allCharge_20 : decode cX0_allCharge 20 = .ok (.istore_n 1, 1) := by decide +kernel
theorem dX0_allCharge_21 : decode cX0_allCharge 21 = .ok (.iinc 2 1, 3) := by decide +kernel
theorem dX0_allCharge_24 : decode cX0_allCharge 24 = .ok (.goto (-20), 3) := by decide +kernel
theorem dX0_allCharge_27 : decode cX0_allCharge 27 = .ok (.iload_n 1, 1) := by decide +kernel
theorem dX0_allCharge_28 : decode cX0_allCharge 28 = .ok (.ireturn, 1) := by decide +kernel
theorem dX0_allOwed_0 : decode cX0_allOwed 0 = .ok (.iconst 0, 1) := by decide +kernel
theorem dX0_allOwed_1 : decode cX0_allOwed 1 = .ok (.istore_n 1, 1) := by decide +kernel
theorem dX0_allOwed_2 : decode cX0_allOwed 2 = .ok (.iconst 0, 1) := by decide +kernel
theorem dX0_allOwed_3 : decode cX0_allOwed 3 = .ok (.istore_n 2, 1) := by decide +kernel
theorem dX0_allOwed_4 : decode cX0_allOwed 4 = .ok (.iload_n 2, 1) := by decide +kernel
theorem dX0_allOwed_5 : decode cX0_allOwed 5 = .ok (.aload_n 0, 1) := by decide +kernel
theorem dX0_allOwed_6 : decode cX0_allOwed 6 = .ok (.getfield 46, 3) := by decide +kernel
theorem dX0_allOwed_9 : decode cX0_allOwed 9 = .ok (.if_icmp .ge 18, 3) := by decide +kernel
theorem dX0_allOwed_12 : decode cX0_allOwed 12 = .ok (.iload_n 1, 1) := by decide +kernel
theorem dX0_allOwed_13 : decode cX0_allOwed 13 = .ok (.aload_n 0, 1) := by decide +kernel
theorem dX0_allOwed_14 : decode cX0_allOwed 14 = .ok (.getfield 30, 3) := by decide +kernel
theorem dX0_allOwed_17 : decode cX0_allOwed 17 = .ok (.iload_n 2, 1) := by decide +kernel
theorem dX0_allOwed_18 : decode cX0_allOwed 18 = .ok (.iaload, 1) := by decide +kernel
theorem dX0_allOwed_19 : decode cX0_allOwed 19 = .ok (.iadd, 1) := by decide +kernel
theorem dX0_allOwed_20 : decode cX0_allOwed 20 = .ok (.istore_n 1, 1) := by decide +kernel
theorem dX0_allOwed_21 : decode cX0_allOwed 21 = .ok (.iinc 2 1, 3) := by decide +kernel
theorem dX0_allOwed_24 : decode cX0_allOwed 24 = .ok (.goto (-20), 3) := by decide +kernel
theorem dX0_allOwed_27 : decode cX0_allOwed 27 = .ok (.iload_n 1, 1) := by decide +kernel
theorem dX0_allOwed_28 : decode cX0_allOwed 28 = .ok (.ireturn, 1) := by decide +kernel
theorem dX0_bankruptCells_0 : decode cX0_bankruptCells 0 = .ok (.iconst 0, 1) := by decide +kernel
theorem dX0_bankruptCells_1 : decode cX0_bankruptCells 1 = .ok (.istore_n 1, 1) := by decide +kernel
theorem dX0_bankruptCells_2 : decode cX0_bankruptCells 2 = .ok (.iconst 0, 1) := by decide +kernel
theorem dX0_bankruptCells_3 : decode cX0_bankruptCells 3 = .ok (.istore_n 2, 1) := by decide +kernel
theorem dX0_bankruptCells_4 : decode cX0_bankruptCells 4 = .ok (.iload_n 2, 1) := by decide +kernel
theorem dX0_bankruptCells_5 : decode cX0_bankruptCells 5 = .ok (.aload_n 0, 1) := by decide +kernel
theorem dX0_bankruptCells_6 : decode cX0_bankruptCells 6 = .ok (.getfield 43, 3) := by decide +kernel
theorem dX0_bankruptCells_9 : decode cX0_bankruptCells 9 = .ok (.if_icmp .ge 23, 3) := by decide +kernel
theorem dX0_bankruptCells_12 : decode cX0_bankruptCells 12 = .ok (.aload_n 0, 1) := by decide +kernel
theorem dX0_bankruptCells_13 : decode cX0_bankruptCells 13 = .ok (.iload_n 2, 1) := by decide +kernel
theorem dX0_bankruptCells_14 : decode cX0_bankruptCells 14 = .ok (.invokevirtual 77, 3) := by decide +kernel
theorem dX0_bankruptCells_17 : decode cX0_bankruptCells 17 = .ok (.ifCond .eq 9, 3) := by decide +kernel
theorem dX0_bankruptCells_20 : decode cX0_bankruptCells 20 = .ok (.iload_n 1, 1) := by decide +kernel
theorem dX0_bankruptCells_21 : decode cX0_bankruptCells 21 = .ok (.iconst 1, 1) := by decide +kernel
theorem dX0_bankruptCells_22 : decode cX0_bankruptCells 22 = .ok (.iload_n 2, 1) := by decide +kernel
theorem dX0_bankruptCells_23 : decode cX0_bankruptCells 23 = .ok (.ishl, 1) := by decide +kernel
theorem dX0_bankruptCells_24 : decode cX0_bankruptCells 24 = .ok (.ior, 1) := by decide +kernel
theorem dX0_bankruptCells_25 : decode cX0_bankruptCells 25 = .ok (.istore_n 1, 1) := by decide +kernel
theorem dX0_bankruptCells_26 : decode cX0_bankruptCells 26 = .ok (.iinc 2 1, 3) := by decide +kernel
theorem dX0_bankruptCells_29 : decode cX0_bankruptCells 29 = .ok (.goto (-25), 3) := by decide +kernel
theorem dX0_bankruptCells_32 : decode cX0_bankruptCells 32 = .ok (.iload_n 1, 1) := by decide +kernel
theorem dX0_bankruptCells_33 : decode cX0_bankruptCells 33 = .ok (.ireturn, 1) := by decide +kernel
theorem dX0_owedBy_0 : decode cX0_owedBy 0 = .ok (.iconst 0, 1) := by decide +kernel
theorem dX0_owedBy_1 : decode cX0_owedBy 1 = .ok (.istore_n 2, 1) := by decide +kernel
theorem dX0_owedBy_2 : decode cX0_owedBy 2 = .ok (.iconst 0, 1) := by decide +kernel
theorem dX0_owedBy_3 : decode cX0_owedBy 3 = .ok (.istore_n 3, 1) := by decide +kernel
theorem dX0_owedBy_4 : decode cX0_owedBy 4 = .ok (.iload_n 3, 1) := by decide +kernel
theorem dX0_owedBy_5 : decode cX0_owedBy 5 = .ok (.aload_n 0, 1) := by decide +kernel
theorem dX0_owedBy_6 : decode cX0_owedBy 6 = .ok (.getfield 46, 3) := by decide +kernel
theorem dX0_owedBy_9 : decode cX0_owedBy 9 = .ok (.if_icmp .ge 28, 3) := by decide +kernel
theorem dX0_owedBy_12 : decode cX0_owedBy 12 = .ok (.aload_n 0, 1) := by decide +kernel
theorem dX0_owedBy_13 : decode cX0_owedBy 13 = .ok (.getfield 27, 3) := by decide +kernel
theorem dX0_owedBy_16 : decode cX0_owedBy 16 = .ok (.iload_n 3, 1) := by decide +kernel
theorem dX0_owedBy_17 : decode cX0_owedBy 17 = .ok (.iaload, 1) := by decide +kernel
theorem dX0_owedBy_18 : decode cX0_owedBy 18 = .ok (.iload_n 1, 1) := by decide +kernel
theorem dX0_owedBy_19 : decode cX0_owedBy 19 = .ok (.if_icmp .ne 12, 3) := by decide +kernel
theorem dX0_owedBy_22 : decode cX0_owedBy 22 = .ok (.iload_n 2, 1) := by decide +kernel
theorem dX0_owedBy_23 : decode cX0_owedBy 23 = .ok (.aload_n 0, 1) := by decide +kernel
theorem dX0_owedBy_24 : decode cX0_owedBy 24 = .ok (.getfield 30, 3) := by decide +kernel
theorem dX0_owedBy_27 : decode cX0_owedBy 27 = .ok (.iload_n 3, 1) := by decide +kernel
theorem dX0_owedBy_28 : decode cX0_owedBy 28 = .ok (.iaload, 1) := by decide +kernel
theorem dX0_owedBy_29 : decode cX0_owedBy 29 = .ok (.iadd, 1) := by decide +kernel
theorem dX0_owedBy_30 : decode cX0_owedBy 30 = .ok (.istore_n 2, 1) := by decide +kernel
theorem dX0_owedBy_31 : decode cX0_owedBy 31 = .ok (.iinc 3 1, 3) := by decide +kernel
theorem dX0_owedBy_34 : decode cX0_owedBy 34 = .ok (.goto (-30), 3) := by decide +kernel
theorem dX0_owedBy_37 : decode cX0_owedBy 37 = .ok (.iload_n 2, 1) := by decide +kernel
theorem dX0_owedBy_38 : decode cX0_owedBy 38 = .ok (.ireturn, 1) := by decide +kernel
theorem dX0_owedTo_0 : decode cX0_owedTo 0 = .ok (.iconst 0, 1) := by decide +kernel
theorem dX0_owedTo_1 : decode cX0_owedTo 1 = .ok (.istore_n 2, 1) := by decide +kernel
theorem dX0_owedTo_2 : decode cX0_owedTo 2 = .ok (.iconst 0, 1) := by decide +kernel
theorem dX0_owedTo_3 : decode cX0_owedTo 3 = .ok (.istore_n 3, 1) := by decide +kernel
theorem dX0_owedTo_4 : decode cX0_owedTo 4 = .ok (.iload_n 3, 1) := by decide +kernel
theorem dX0_owedTo_5 : decode cX0_owedTo 5 = .ok (.aload_n 0, 1) := by decide +kernel
theorem dX0_owedTo_6 : decode cX0_owedTo 6 = .ok (.getfield 46, 3) := by decide +kernel
theorem dX0_owedTo_9 : decode cX0_owedTo 9 = .ok (.if_icmp .ge 28, 3) := by decide +kernel
theorem dX0_owedTo_12 : decode cX0_owedTo 12 = .ok (.aload_n 0, 1) := by decide +kernel
theorem dX0_owedTo_13 : decode cX0_owedTo 13 = .ok (.getfield 24, 3) := by decide +kernel
theorem dX0_owedTo_16 : decode cX0_owedTo 16 = .ok (.iload_n 3, 1) := by decide +kernel
theorem dX0_owedTo_17 : decode cX0_owedTo 17 = .ok (.iaload, 1) := by decide +kernel
theorem dX0_owedTo_18 : decode cX0_owedTo 18 = .ok (.iload_n 1, 1) := by decide +kernel
theorem dX0_owedTo_19 : decode cX0_owedTo 19 = .ok (.if_icmp .ne 12, 3) := by decide +kernel
theorem dX0_owedTo_22 : decode cX0_owedTo 22 = .ok (.iload_n 2, 1) := by decide +kernel
theorem dX0_owedTo_23 : decode cX0_owedTo 23 = .ok (.aload_n 0, 1) := by decide +kernel
theorem dX0_owedTo_24 : decode cX0_owedTo 24 = .ok (.getfield 30, 3) := by decide +kernel
theorem dX0_owedTo_27 : decode cX0_owedTo 27 = .ok (.iload_n 3, 1) := by decide +kernel
theorem dX0_owedTo_28 : decode cX0_owedTo 28 = .ok (.iaload, 1) := by decide +kernel
theorem dX0_owedTo_29 : decode cX0_owedTo 29 = .ok (.iadd, 1) := by decide +kernel
theorem dX0_owedTo_30 : decode cX0_owedTo 30 = .ok (.istore_n 2, 1) := by decide +kernel
theorem dX0_owedTo_31 : decode cX0_owedTo 31 = .ok (.iinc 3 1, 3) := by decide +kernel
theorem dX0_owedTo_34 : decode cX0_owedTo 34 = .ok (.goto (-30), 3) := by decide +kernel
theorem dX0_owedTo_37 : decode cX0_owedTo 37 = .ok (.iload_n 2, 1) := by decide +kernel
theorem dX0_owedTo_38 : decode cX0_owedTo 38 = .ok (.ireturn, 1) := by decide +kernel
theorem dX0_interestOf_0 : decode cX0_interestOf 0 = .ok (.aload_n 0, 1) := by decide +kernel
theorem dX0_interestOf_1 : decode cX0_interestOf 1 = .ok (.iload_n 1, 1) := by decide +kernel
theorem dX0_interestOf_2 : decode cX0_interestOf 2 = .ok (.invokevirtual 80, 3) := by decide +kernel
theorem dX0_interestOf_5 : decode cX0_interestOf 5 = .ok (.ifCond .eq 25, 3) := by decide +kernel
theorem dX0_interestOf_8 : decode cX0_interestOf 8 = .ok (.aload_n 0, 1) := by decide +kernel
theorem dX0_interestOf_9 : decode cX0_interestOf 9 = .ok (.getfield 30, 3) := by decide +kernel
theorem dX0_interestOf_12 : decode cX0_interestOf 12 = .ok (.iload_n 1, 1) := by decide +kernel
theorem dX0_interestOf_13 : decode cX0_interestOf 13 = .ok (.iaload, 1) := by decide +kernel
theorem dX0_interestOf_14 : decode cX0_interestOf 14 = .ok (.aload_n 0, 1) := by decide +kernel
theorem dX0_interestOf_15 : decode cX0_interestOf 15 = .ok (.getfield 33, 3) := by decide +kernel
theorem dX0_interestOf_18 : decode cX0_interestOf 18 = .ok (.iload_n 1, 1) := by decide +kernel
theorem dX0_interestOf_19 : decode cX0_interestOf 19 = .ok (.iaload, 1) := by decide +kernel
theorem dX0_interestOf_20 : decode cX0_interestOf 20 = .ok (.imul, 1) := by decide +kernel
theorem dX0_interestOf_21 : decode cX0_interestOf 21 = .ok (.bipush 99, 2) := by decide +kernel
theorem dX0_interestOf_23 : decode cX0_interestOf 23 = .ok (.iadd, 1) := by decide +kernel
theorem dX0_interestOf_24 : decode cX0_interestOf 24 = .ok (.bipush 100, 2) := by decide +kernel
theorem dX0_interestOf_26 : decode cX0_interestOf 26 = .ok (.idiv, 1) := by decide +kernel
theorem dX0_interestOf_27 : decode cX0_interestOf 27 = .ok (.goto 4, 3) := by decide +kernel
theorem dX0_interestOf_30 : decode cX0_interestOf 30 = .ok (.iconst 0, 1) := by decide +kernel
theorem dX0_interestOf_31 : decode cX0_interestOf 31 = .ok (.ireturn, 1) := by decide +kernel
theorem dX0_interestBy_0 : decode cX0_interestBy 0 = .ok (.iconst 0, 1) := by decide +kernel
theorem dX0_interestBy_1 : decode cX0_interestBy 1 = .ok (.istore_n 2, 1) := by decide +kernel
theorem dX0_interestBy_2 : decode cX0_interestBy 2 = .ok (.iconst 0, 1) := by decide +kernel
theorem dX0_interestBy_3 : decode cX0_interestBy 3 = .ok (.istore_n 3, 1) := by decide +kernel
theorem dX0_interestBy_4 : decode cX0_interestBy 4 = .ok (.iload_n 3, 1) := by decide +kernel
theorem dX0_interestBy_5 : decode cX0_interestBy 5 = .ok (.aload_n 0, 1) := by decide +kernel
theorem dX0_interestBy_6 : decode cX0_interestBy 6 = .ok (.getfield 46, 3) := by decide +kernel
theorem dX0_interestBy_9 : decode cX0_interestBy 9 = .ok (.if_icmp .ge 27, 3) := by decide +kernel
theorem dX0_interestBy_12 : decode cX0_interestBy 12 = .ok (.aload_n 0, 1) := by decide +kernel
theorem dX0_interestBy_13 : decode cX0_interestBy 13 = .ok (.getfield 27, 3) := by decide +kernel
theorem dX0_interestBy_16 : decode cX0_interestBy 16 = .ok (.iload_n 3, 1) := by decide +kernel
theorem dX0_interestBy_17 : decode cX0_interestBy 17 = .ok (.iaload, 1) := by decide +kernel
theorem dX0_interestBy_18 : decode cX0_interestBy 18 = .ok (.iload_n 1, 1) := by decide +kernel
theorem dX0_interestBy_19 : decode cX0_interestBy 19 = .ok (.if_icmp .ne 11, 3) := by decide +kernel
theorem dX0_interestBy_22 : decode cX0_interestBy 22 = .ok (.iload_n 2, 1) := by decide +kernel
theorem dX0_interestBy_23 : decode cX0_interestBy 23 = .ok (.aload_n 0, 1) := by decide +kernel
theorem dX0_interestBy_24 : decode cX0_interestBy 24 = .ok (.iload_n 3, 1) := by decide +kernel
theorem dX0_interestBy_25 : decode cX0_interestBy 25 = .ok (.invokevirtual 83, 3) := by decide +kernel
theorem dX0_interestBy_28 : decode cX0_interestBy 28 = .ok (.iadd, 1) := by decide +kernel
theorem dX0_interestBy_29 : decode cX0_interestBy 29 = .ok (.istore_n 2, 1) := by decide +kernel
theorem dX0_interestBy_30 : decode cX0_interestBy 30 = .ok (.iinc 3 1, 3) := by decide +kernel
theorem dX0_interestBy_33 : decode cX0_interestBy 33 = .ok (.goto (-29), 3) := by decide +kernel
theorem dX0_interestBy_36 : decode cX0_interestBy 36 = .ok (.iload_n 2, 1) := by decide +kernel
theorem dX0_interestBy_37 : decode cX0_interestBy 37 = .ok (.ireturn, 1) := by decide +kernel
theorem dX0_kindOf_0 : decode cX0_kindOf 0 = .ok (.aload_n 0, 1) := by decide +kernel
theorem dX0_kindOf_1 : decode cX0_kindOf 1 = .ok (.iload_n 1, 1) := by decide +kernel
theorem dX0_kindOf_2 : decode cX0_kindOf 2 = .ok (.invokevirtual 77, 3) := by decide +kernel
theorem dX0_kindOf_5 : decode cX0_kindOf 5 = .ok (.ifCond .eq 5, 3) := by decide +kernel
theorem dX0_kindOf_8 : decode cX0_kindOf 8 = .ok (.iconst 3, 1) := by decide +kernel
theorem dX0_kindOf_9 : decode cX0_kindOf 9 = .ok (.ireturn, 1) := by decide +kernel
theorem dX0_kindOf_10 : decode cX0_kindOf 10 = .ok (.aload_n 0, 1) := by decide +kernel
theorem dX0_kindOf_11 : decode cX0_kindOf 11 = .ok (.iload_n 1, 1) := by decide +kernel
theorem dX0_kindOf_12 : decode cX0_kindOf 12 = .ok (.invokevirtual 73, 3) := by decide +kernel
theorem dX0_kindOf_15 : decode cX0_kindOf 15 = .ok (.ifCond .eq 14, 3) := by decide +kernel
theorem dX0_kindOf_18 : decode cX0_kindOf 18 = .ok (.aload_n 0, 1) := by decide +kernel
theorem dX0_kindOf_19 : decode cX0_kindOf 19 = .ok (.getfield 21, 3) := by decide +kernel
theorem dX0_kindOf_22 : decode cX0_kindOf 22 = .ok (.iload_n 1, 1) := by decide +kernel
theorem dX0_kindOf_23 : decode cX0_kindOf 23 = .ok (.iaload, 1) := by decide +kernel
theorem dX0_kindOf_24 : decode cX0_kindOf 24 = .ok (.ifCond .le 5, 3) := by decide +kernel
theorem dX0_kindOf_27 : decode cX0_kindOf 27 = .ok (.iconst 2, 1) := by decide +kernel
theorem dX0_kindOf_28 : decode cX0_kindOf 28 = .ok (.ireturn, 1) := by decide +kernel
theorem dX0_kindOf_29 : decode cX0_kindOf 29 = .ok (.aload_n 0, 1) := by decide +kernel
theorem dX0_kindOf_30 : decode cX0_kindOf 30 = .ok (.iload_n 1, 1) := by decide +kernel
theorem dX0_kindOf_31 : decode cX0_kindOf 31 = .ok (.invokevirtual 87, 3) := by decide +kernel
theorem dX0_kindOf_34 : decode cX0_kindOf 34 = .ok (.ifCond .le 7, 3) := by decide +kernel
theorem dX0_kindOf_37 : decode cX0_kindOf 37 = .ok (.iconst 1, 1) := by decide +kernel
theorem dX0_kindOf_38 : decode cX0_kindOf 38 = .ok (.goto 4, 3) := by decide +kernel
theorem dX0_kindOf_41 : decode cX0_kindOf 41 = .ok (.iconst 0, 1) := by decide +kernel
theorem dX0_kindOf_42 : decode cX0_kindOf 42 = .ok (.ireturn, 1) := by decide +kernel
theorem dX0_cellAtPlace_0 : decode cX0_cellAtPlace 0 = .ok (.iconst 0, 1) := by decide +kernel
theorem dX0_cellAtPlace_1 : decode cX0_cellAtPlace 1 = .ok (.istore_n 2, 1) := by decide +kernel
theorem dX0_cellAtPlace_2 : decode cX0_cellAtPlace 2 = .ok (.iload_n 2, 1) := by decide +kernel
theorem dX0_cellAtPlace_3 : decode cX0_cellAtPlace 3 = .ok (.aload_n 0, 1) := by decide +kernel
theorem dX0_cellAtPlace_4 : decode cX0_cellAtPlace 4 = .ok (.getfield 43, 3) := by decide +kernel
theorem dX0_cellAtPlace_7 : decode cX0_cellAtPlace 7 = .ok (.if_icmp .ge 28, 3) := by decide +kernel
theorem dX0_cellAtPlace_10 : decode cX0_cellAtPlace 10 = .ok (.aload_n 0, 1) := by decide +kernel
theorem dX0_cellAtPlace_11 : decode cX0_cellAtPlace 11 = .ok (.iload_n 2, 1) := by decide +kernel
theorem dX0_cellAtPlace_12 : decode cX0_cellAtPlace 12 = .ok (.invokevirtual 77, 3) := by decide +kernel
theorem dX0_cellAtPlace_15 : decode cX0_cellAtPlace 15 = .ok (.ifCond .ne 14, 3) := by decide +kernel
theorem dX0_cellAtPlace_18 : decode cX0_cellAtPlace 18 = .ok (.aload_n 0, 1) := by decide +kernel
theorem dX0_cellAtPlace_19 : decode cX0_cellAtPlace 19 = .ok (.iload_n 2, 1) := by decide +kernel
theorem dX0_cellAtPlace_20 : decode cX0_cellAtPlace 20 = .ok (.invokevirtual 90, 3) := by decide +kernel
theorem dX0_cellAtPlace_23 : decode cX0_cellAtPlace 23 = .ok (.iload_n 1, 1) := by decide +kernel
theorem dX0_cellAtPlace_24 : decode cX0_cellAtPlace 24 = .ok (.if_icmp .ne 5, 3) := by decide +kernel
theorem dX0_cellAtPlace_27 : decode cX0_cellAtPlace 27 = .ok (.iload_n 2, 1) := by decide +kernel
theorem dX0_cellAtPlace_28 : decode cX0_cellAtPlace 28 = .ok (.ireturn, 1) := by decide +kernel
theorem dX0_cellAtPlace_29 : decode cX0_cellAtPlace 29 = .ok (.iinc 2 1, 3) := by decide +kernel
theorem dX0_cellAtPlace_32 : decode cX0_cellAtPlace 32 = .ok (.goto (-30), 3) := by decide +kernel
theorem dX0_cellAtPlace_35 : decode cX0_cellAtPlace 35 = .ok (.bipush (-9), 2) := by decide +kernel
theorem dX0_cellAtPlace_37 : decode cX0_cellAtPlace 37 = .ok (.ireturn, 1) := by decide +kernel
theorem dX0_placeOf_0 : decode cX0_placeOf 0 = .ok (.iconst 0, 1) := by decide +kernel
theorem dX0_placeOf_1 : decode cX0_placeOf 1 = .ok (.istore_n 2, 1) := by decide +kernel
theorem dX0_placeOf_2 : decode cX0_placeOf 2 = .ok (.iconst 0, 1) := by decide +kernel
theorem dX0_placeOf_3 : decode cX0_placeOf 3 = .ok (.istore_n 3, 1) := by decide +kernel
theorem dX0_placeOf_4 : decode cX0_placeOf 4 = .ok (.iload_n 3, 1) := by decide +kernel
theorem dX0_placeOf_5 : decode cX0_placeOf 5 = .ok (.aload_n 0, 1) := by decide +kernel
theorem dX0_placeOf_6 : decode cX0_placeOf 6 = .ok (.getfield 43, 3) := by decide +kernel
theorem dX0_placeOf_9 : decode cX0_placeOf 9 = .ok (.if_icmp .ge 65, 3) := by decide +kernel
theorem dX0_placeOf_12 : decode cX0_placeOf 12 = .ok (.aload_n 0, 1) := by decide +kernel
theorem dX0_placeOf_13 : decode cX0_placeOf 13 = .ok (.getfield 15, 3) := by decide +kernel
theorem dX0_placeOf_16 : decode cX0_placeOf 16 = .ok (.iload_n 3, 1) := by decide +kernel
theorem dX0_placeOf_17 : decode cX0_placeOf 17 = .ok (.iaload, 1) := by decide +kernel
theorem dX0_placeOf_18 : decode cX0_placeOf 18 = .ok (.aload_n 0, 1) := by decide +kernel
theorem dX0_placeOf_19 : decode cX0_placeOf 19 = .ok (.iload_n 1, 1) := by decide +kernel
theorem dX0_placeOf_20 : decode cX0_placeOf 20 = .ok (.invokevirtual 93, 3) := by decide +kernel
theorem dX0_placeOf_23 : decode cX0_placeOf 23 = .ok (.if_icmp .gt 22, 3) := by decide +kernel
theorem dX0_placeOf_26 : decode cX0_placeOf 26 = .ok (.aload_n 0, 1) := by decide +kernel
theorem dX0_placeOf_27 : decode cX0_placeOf 27 = .ok (.getfield 15, 3) := by decide +kernel
theorem dX0_placeOf_30 : decode cX0_placeOf 30 = .ok (.iload_n 3, 1) := by decide +kernel
theorem dX0_placeOf_31 : decode cX0_placeOf 31 = .ok (.iaload, 1) := by decide +kernel
theorem dX0_placeOf_32 : decode cX0_placeOf 32 = .ok (.aload_n 0, 1) := by decide +kernel
theorem dX0_placeOf_33 : decode cX0_placeOf 33 = .ok (.iload_n 1, 1) := by decide +kernel
theorem dX0_placeOf_34 : decode cX0_placeOf 34 = .ok (.invokevirtual 93, 3) := by decide +kernel
theorem dX0_placeOf_37 : decode cX0_placeOf 37 = .ok (.if_icmp .ne 12, 3) := by decide +kernel
theorem dX0_placeOf_40 : decode cX0_placeOf 40 = .ok (.iload_n 3, 1) := by decide +kernel
theorem dX0_placeOf_41 : decode cX0_placeOf 41 = .ok (.iload_n 1, 1) := by decide +kernel
theorem dX0_placeOf_42 : decode cX0_placeOf 42 = .ok (.if_icmp .ge 7, 3) := by decide +kernel
theorem dX0_placeOf_45 : decode cX0_placeOf 45 = .ok (.iconst 1, 1) := by decide +kernel
theorem dX0_placeOf_46 : decode cX0_placeOf 46 = .ok (.goto 4, 3) := by decide +kernel
theorem dX0_placeOf_49 : decode cX0_placeOf 49 = .ok (.iconst 0, 1) := by decide +kernel
theorem dX0_placeOf_50 : decode cX0_placeOf 50 = .ok (.istore 4, 2) := by decide +kernel
theorem dX0_placeOf_52 : decode cX0_placeOf 52 = .ok (.iload 4, 2) := by decide +kernel
theorem dX0_placeOf_54 : decode cX0_placeOf 54 = .ok (.ifCond .eq 14, 3) := by decide +kernel
theorem dX0_placeOf_57 : decode cX0_placeOf 57 = .ok (.aload_n 0, 1) := by decide +kernel
theorem dX0_placeOf_58 : decode cX0_placeOf 58 = .ok (.iload_n 3, 1) := by decide +kernel
theorem dX0_placeOf_59 : decode cX0_placeOf 59 = .ok (.invokevirtual 77, 3) := by decide +kernel
theorem dX0_placeOf_62 : decode cX0_placeOf 62 = .ok (.ifCond .ne 6, 3) := by decide +kernel
theorem dX0_placeOf_65 : decode cX0_placeOf 65 = .ok (.iinc 2 1, 3) := by decide +kernel
theorem dX0_placeOf_68 : decode cX0_placeOf 68 = .ok (.iinc 3 1, 3) := by decide +kernel
theorem dX0_placeOf_71 : decode cX0_placeOf 71 = .ok (.goto (-67), 3) := by decide +kernel
theorem dX0_placeOf_74 : decode cX0_placeOf 74 = .ok (.iload_n 2, 1) := by decide +kernel
theorem dX0_placeOf_75 : decode cX0_placeOf 75 = .ok (.ireturn, 1) := by decide +kernel
theorem dX0_putCell_0 : decode cX0_putCell 0 = .ok (.aload_n 0, 1) := by decide +kernel
theorem dX0_putCell_1 : decode cX0_putCell 1 = .ok (.getfield 43, 3) := by decide +kernel
theorem dX0_putCell_4 : decode cX0_putCell 4 = .ok (.bipush 8, 2) := by decide +kernel
theorem dX0_putCell_6 : decode cX0_putCell 6 = .ok (.if_icmp .lt 6, 3) := by decide +kernel
theorem dX0_putCell_9 : decode cX0_putCell 9 = .ok (.bipush (-9), 2) := by decide +kernel
theorem dX0_putCell_11 : decode cX0_putCell 11 = .ok (.ireturn, 1) := by decide +kernel
theorem dX0_putCell_12 : decode cX0_putCell 12 = .ok (.aload_n 0, 1) := by decide +kernel
theorem dX0_putCell_13 : decode cX0_putCell 13 = .ok (.getfield 43, 3) := by decide +kernel
theorem dX0_putCell_16 : decode cX0_putCell 16 = .ok (.istore 4, 2) := by decide +kernel
theorem dX0_putCell_18 : decode cX0_putCell 18 = .ok (.aload_n 0, 1) := by decide +kernel
theorem dX0_putCell_19 : decode cX0_putCell 19 = .ok (.getfield 9, 3) := by decide +kernel
theorem dX0_putCell_22 : decode cX0_putCell 22 = .ok (.iload 4, 2) := by decide +kernel
theorem dX0_putCell_24 : decode cX0_putCell 24 = .ok (.iload_n 1, 1) := by decide +kernel
theorem dX0_putCell_25 : decode cX0_putCell 25 = .ok (.iastore, 1) := by decide +kernel
theorem dX0_putCell_26 : decode cX0_putCell 26 = .ok (.aload_n 0, 1) := by decide +kernel
theorem dX0_putCell_27 : decode cX0_putCell 27 = .ok (.getfield 15, 3) := by decide +kernel
theorem dX0_putCell_30 : decode cX0_putCell 30 = .ok (.iload 4, 2) := by decide +kernel
theorem dX0_putCell_32 : decode cX0_putCell 32 = .ok (.iload_n 2, 1) := by decide +kernel
theorem dX0_putCell_33 : decode cX0_putCell 33 = .ok (.iastore, 1) := by decide +kernel
theorem dX0_putCell_34 : decode cX0_putCell 34 = .ok (.aload_n 0, 1) := by decide +kernel
theorem dX0_putCell_35 : decode cX0_putCell 35 = .ok (.getfield 18, 3) := by decide +kernel
theorem dX0_putCell_38 : decode cX0_putCell 38 = .ok (.iload 4, 2) := by decide +kernel
theorem dX0_putCell_40 : decode cX0_putCell 40 = .ok (.iload_n 3, 1) := by decide +kernel
theorem dX0_putCell_41 : decode cX0_putCell 41 = .ok (.iastore, 1) := by decide +kernel
theorem dX0_putCell_42 : decode cX0_putCell 42 = .ok (.aload_n 0, 1) := by decide +kernel
theorem dX0_putCell_43 : decode cX0_putCell 43 = .ok (.getfield 21, 3) := by decide +kernel
theorem dX0_putCell_46 : decode cX0_putCell 46 = .ok (.iload 4, 2) := by decide +kernel
theorem dX0_putCell_48 : decode cX0_putCell 48 = .ok (.iconst 0, 1) := by decide +kernel
theorem dX0_putCell_49 : decode cX0_putCell 49 = .ok (.iastore, 1) := by decide +kernel
theorem dX0_putCell_50 : decode cX0_putCell 50 = .ok (.aload_n 0, 1) := by decide +kernel
theorem dX0_putCell_51 : decode cX0_putCell 51 = .ok (.dup, 1) := by decide +kernel
theorem dX0_putCell_52 : decode cX0_putCell 52 = .ok (.getfield 52, 3) := by decide +kernel
theorem dX0_putCell_55 : decode cX0_putCell 55 = .ok (.iload_n 2, 1) := by decide +kernel
theorem dX0_putCell_56 : decode cX0_putCell 56 = .ok (.iadd, 1) := by decide +kernel
theorem dX0_putCell_57 : decode cX0_putCell 57 = .ok (.putfield 52, 3) := by decide +kernel
theorem dX0_putCell_60 : decode cX0_putCell 60 = .ok (.aload_n 0, 1) := by decide +kernel
theorem dX0_putCell_61 : decode cX0_putCell 61 = .ok (.dup, 1) := by decide +kernel
theorem dX0_putCell_62 : decode cX0_putCell 62 = .ok (.getfield 43, 3) := by decide +kernel
theorem dX0_putCell_65 : decode cX0_putCell 65 = .ok (.iconst 1, 1) := by decide +kernel
theorem dX0_putCell_66 : decode cX0_putCell 66 = .ok (.iadd, 1) := by decide +kernel
theorem dX0_putCell_67 : decode cX0_putCell 67 = .ok (.putfield 43, 3) := by decide +kernel
theorem dX0_putCell_70 : decode cX0_putCell 70 = .ok (.iload 4, 2) := by decide +kernel
theorem dX0_putCell_72 : decode cX0_putCell 72 = .ok (.ireturn, 1) := by decide +kernel
theorem dX0_arriving_0 : decode cX0_arriving 0 = .ok (.iload_n 2, 1) := by decide +kernel
theorem dX0_arriving_1 : decode cX0_arriving 1 = .ok (.iload_n 3, 1) := by decide +kernel
theorem dX0_arriving_2 : decode cX0_arriving 2 = .ok (.if_icmp .ge 9, 3) := by decide +kernel
theorem dX0_arriving_5 : decode cX0_arriving 5 = .ok (.iload_n 3, 1) := by decide +kernel
theorem dX0_arriving_6 : decode cX0_arriving 6 = .ok (.iload_n 2, 1) := by decide +kernel
theorem dX0_arriving_7 : decode cX0_arriving 7 = .ok (.isub, 1) := by decide +kernel
theorem dX0_arriving_8 : decode cX0_arriving 8 = .ok (.goto 6, 3) := by decide +kernel
theorem dX0_arriving_11 : decode cX0_arriving 11 = .ok (.iload_n 2, 1) := by decide +kernel
theorem dX0_arriving_12 : decode cX0_arriving 12 = .ok (.iload_n 3, 1) := by decide +kernel
theorem dX0_arriving_13 : decode cX0_arriving 13 = .ok (.isub, 1) := by decide +kernel
theorem dX0_arriving_14 : decode cX0_arriving 14 = .ok (.istore 4, 2) := by decide +kernel
theorem dX0_arriving_16 : decode cX0_arriving 16 = .ok (.iload_n 1, 1) := by decide +kernel
theorem dX0_arriving_17 : decode cX0_arriving 17 = .ok (.iload_n 1, 1) := by decide +kernel
theorem dX0_arriving_18 : decode cX0_arriving 18 = .ok (.iload 4, 2) := by decide +kernel
theorem dX0_arriving_20 : decode cX0_arriving 20 = .ok (.imul, 1) := by decide +kernel
theorem dX0_arriving_21 : decode cX0_arriving 21 = .ok (.bipush 20, 2) := by decide +kernel
theorem dX0_arriving_23 : decode cX0_arriving 23 = .ok (.idiv, 1) := by decide +kernel
theorem dX0_arriving_24 : decode cX0_arriving 24 = .ok (.isub, 1) := by decide +kernel
theorem dX0_arriving_25 : decode cX0_arriving 25 = .ok (.ireturn, 1) := by decide +kernel
theorem dX0_sizeToBring_0 : decode cX0_sizeToBring 0 = .ok (.iload_n 1, 1) := by decide +kernel
theorem dX0_sizeToBring_1 : decode cX0_sizeToBring 1 = .ok (.istore 4, 2) := by decide +kernel
theorem dX0_sizeToBring_3 : decode cX0_sizeToBring 3 = .ok (.iload 4, 2) := by decide +kernel
theorem dX0_sizeToBring_5 : decode cX0_sizeToBring 5 = .ok (.iconst 2, 1) := by decide +kernel
theorem dX0_sizeToBring_6 : decode cX0_sizeToBring 6 = .ok (.iload_n 1, 1) := by decide +kernel
theorem dX0_sizeToBring_7 : decode cX0_sizeToBring 7 = .ok (.imul, 1) := by decide +kernel
theorem dX0_sizeToBring_8 : decode cX0_sizeToBring 8 = .ok (.if_icmp .ge 24, 3) := by decide +kernel
theorem dX0_sizeToBring_11 : decode cX0_sizeToBring 11 = .ok (.aload_n 0, 1) := by decide +kernel
theorem dX0_sizeToBring_12 : decode cX0_sizeToBring 12 = .ok (.iload 4, 2) := by decide +kernel
theorem dX0_sizeToBring_14 : decode cX0_sizeToBring 14 = .ok (.iload_n 2, 1) := by decide +kernel
theorem dX0_sizeToBring_15 : decode cX0_sizeToBring 15 = .ok (.iload_n 3, 1) := by decide +kernel
theorem dX0_sizeToBring_16 : decode cX0_sizeToBring 16 = .ok (.invokevirtual 96, 3) := by decide +kernel
theorem dX0_sizeToBring_19 : decode cX0_sizeToBring 19 = .ok (.iload_n 1, 1) := by decide +kernel
theorem dX0_sizeToBring_20 : decode cX0_sizeToBring 20 = .ok (.if_icmp .lt 6, 3) := by decide +kernel
theorem dX0_sizeToBring_23 : decode cX0_sizeToBring 23 = .ok (.iload 4, 2) := by decide +kernel
theorem dX0_sizeToBring_25 : decode cX0_sizeToBring 25 = .ok (.ireturn, 1) := by decide +kernel
theorem dX0_sizeToBring_26 : decode cX0_sizeToBring 26 = .ok (.iinc 4 1, 3) := by decide +kernel
theorem dX0_sizeToBring_29 : decode cX0_sizeToBring 29 = .ok (.goto (-26), 3) := by decide +kernel
theorem dX0_sizeToBring_32 : decode cX0_sizeToBring 32 = .ok (.iconst 2, 1) := by decide +kernel
theorem dX0_sizeToBring_33 : decode cX0_sizeToBring 33 = .ok (.iload_n 1, 1) := by decide +kernel
theorem dX0_sizeToBring_34 : decode cX0_sizeToBring 34 = .ok (.imul, 1) := by decide +kernel
theorem dX0_sizeToBring_35 : decode cX0_sizeToBring 35 = .ok (.ireturn, 1) := by decide +kernel
theorem dX0_shuttle_0 : decode cX0_shuttle 0 = .ok (.aload_n 0, 1) := by decide +kernel
theorem dX0_shuttle_1 : decode cX0_shuttle 1 = .ok (.iload_n 2, 1) := by decide +kernel
theorem dX0_shuttle_2 : decode cX0_shuttle 2 = .ok (.invokevirtual 73, 3) := by decide +kernel
theorem dX0_shuttle_5 : decode cX0_shuttle 5 = .ok (.ifCond .eq 11, 3) := by decide +kernel
theorem dX0_shuttle_8 : decode cX0_shuttle 8 = .ok (.aload_n 0, 1) := by decide +kernel
theorem dX0_shuttle_9 : decode cX0_shuttle 9 = .ok (.iload_n 3, 1) := by decide +kernel
theorem dX0_shuttle_10 : decode cX0_shuttle 10 = .ok (.invokevirtual 73, 3) := by decide +kernel
theorem dX0_shuttle_13 : decode cX0_shuttle 13 = .ok (.ifCond .ne 5, 3) := by decide +kernel
theorem dX0_shuttle_16 : decode cX0_shuttle 16 = .ok (.iconst 0, 1) := by decide +kernel
theorem dX0_shuttle_17 : decode cX0_shuttle 17 = .ok (.ireturn, 1) := by decide +kernel
theorem dX0_shuttle_18 : decode cX0_shuttle 18 = .ok (.aload_n 0, 1) := by decide +kernel
theorem dX0_shuttle_19 : decode cX0_shuttle 19 = .ok (.iload_n 1, 1) := by decide +kernel
theorem dX0_shuttle_20 : decode cX0_shuttle 20 = .ok (.iload_n 2, 1) := by decide +kernel
theorem dX0_shuttle_21 : decode cX0_shuttle 21 = .ok (.iload_n 3, 1) := by decide +kernel
theorem dX0_shuttle_22 : decode cX0_shuttle 22 = .ok (.invokevirtual 96, 3) := by decide +kernel
theorem dX0_shuttle_25 : decode cX0_shuttle 25 = .ok (.istore 4, 2) := by decide +kernel
theorem dX0_shuttle_27 : decode cX0_shuttle 27 = .ok (.aload_n 0, 1) := by decide +kernel
theorem dX0_shuttle_28 : decode cX0_shuttle 28 = .ok (.getfield 15, 3) := by decide +kernel
theorem dX0_shuttle_31 : decode cX0_shuttle 31 = .ok (.iload_n 2, 1) := by decide +kernel
theorem dX0_shuttle_32 : decode cX0_shuttle 32 = .ok (.dup2, 1) := by decide +kernel
theorem dX0_shuttle_33 : decode cX0_shuttle 33 = .ok (.iaload, 1) := by decide +kernel
theorem dX0_shuttle_34 : decode cX0_shuttle 34 = .ok (.iload_n 1, 1) := by decide +kernel
theorem dX0_shuttle_35 : decode cX0_shuttle 35 = .ok (.isub, 1) := by decide +kernel
theorem dX0_shuttle_36 : decode cX0_shuttle 36 = .ok (.iastore, 1) := by decide +kernel
theorem dX0_shuttle_37 : decode cX0_shuttle 37 = .ok (.aload_n 0, 1) := by decide +kernel
theorem dX0_shuttle_38 : decode cX0_shuttle 38 = .ok (.getfield 15, 3) := by decide +kernel
theorem dX0_shuttle_41 : decode cX0_shuttle 41 = .ok (.iload_n 3, 1) := by decide +kernel
theorem dX0_shuttle_42 : decode cX0_shuttle 42 = .ok (.dup2, 1) := by decide +kernel
theorem dX0_shuttle_43 : decode cX0_shuttle 43 = .ok (.iaload, 1) := by decide +kernel
theorem dX0_shuttle_44 : decode cX0_shuttle 44 = .ok (.iload 4, 2) := by decide +kernel
theorem dX0_shuttle_46 : decode cX0_shuttle 46 = .ok (.iadd, 1) := by decide +kernel
theorem dX0_shuttle_47 : decode cX0_shuttle 47 = .ok (.iastore, 1) := by decide +kernel
theorem dX0_shuttle_48 : decode cX0_shuttle 48 = .ok (.aload_n 0, 1) := by decide +kernel
theorem dX0_shuttle_49 : decode cX0_shuttle 49 = .ok (.dup, 1) := by decide +kernel
theorem dX0_shuttle_50 : decode cX0_shuttle 50 = .ok (.getfield 58, 3) := by decide +kernel
theorem dX0_shuttle_53 : decode cX0_shuttle 53 = .ok (.iload_n 1, 1) := by decide +kernel
theorem dX0_shuttle_54 : decode cX0_shuttle 54 = .ok (.iload 4, 2) := by decide +kernel
theorem dX0_shuttle_56 : decode cX0_shuttle 56 = .ok (.isub, 1) := by decide +kernel
theorem dX0_shuttle_57 : decode cX0_shuttle 57 = .ok (.iadd, 1) := by decide +kernel
theorem dX0_shuttle_58 : decode cX0_shuttle 58 = .ok (.putfield 58, 3) := by decide +kernel
theorem dX0_shuttle_61 : decode cX0_shuttle 61 = .ok (.iload 4, 2) := by decide +kernel
theorem dX0_shuttle_63 : decode cX0_shuttle 63 = .ok (.ireturn, 1) := by decide +kernel
theorem dX0_canLend_0 : decode cX0_canLend 0 = .ok (.aload_n 0, 1) := by decide +kernel
theorem dX0_canLend_1 : decode cX0_canLend 1 = .ok (.iload_n 1, 1) := by decide +kernel
theorem dX0_canLend_2 : decode cX0_canLend 2 = .ok (.invokevirtual 73, 3) := by decide +kernel
theorem dX0_canLend_5 : decode cX0_canLend 5 = .ok (.ifCond .eq 16, 3) := by decide +kernel
theorem dX0_canLend_8 : decode cX0_canLend 8 = .ok (.aload_n 0, 1) := by decide +kernel
theorem dX0_canLend_9 : decode cX0_canLend 9 = .ok (.iload_n 2, 1) := by decide +kernel
theorem dX0_canLend_10 : decode cX0_canLend 10 = .ok (.invokevirtual 73, 3) := by decide +kernel
theorem dX0_canLend_13 : decode cX0_canLend 13 = .ok (.ifCond .eq 8, 3) := by decide +kernel
theorem dX0_canLend_16 : decode cX0_canLend 16 = .ok (.iload_n 1, 1) := by decide +kernel
theorem dX0_canLend_17 : decode cX0_canLend 17 = .ok (.iload_n 2, 1) := by decide +kernel
theorem dX0_canLend_18 : decode cX0_canLend 18 = .ok (.if_icmp .ne 5, 3) := by decide +kernel
theorem dX0_canLend_21 : decode cX0_canLend 21 = .ok (.iconst 0, 1) := by decide +kernel
theorem dX0_canLend_22 : decode cX0_canLend 22 = .ok (.ireturn, 1) := by decide +kernel
theorem dX0_canLend_23 : decode cX0_canLend 23 = .ok (.aload_n 0, 1) := by decide +kernel
theorem dX0_canLend_24 : decode cX0_canLend 24 = .ok (.iload_n 1, 1) := by decide +kernel
theorem dX0_canLend_25 : decode cX0_canLend 25 = .ok (.invokevirtual 77, 3) := by decide +kernel
theorem dX0_canLend_28 : decode cX0_canLend 28 = .ok (.ifCond .ne 20, 3) := by decide +kernel
theorem dX0_canLend_31 : decode cX0_canLend 31 = .ok (.aload_n 0, 1) := by decide +kernel
theorem dX0_canLend_32 : decode cX0_canLend 32 = .ok (.iload_n 2, 1) := by decide +kernel
theorem dX0_canLend_33 : decode cX0_canLend 33 = .ok (.invokevirtual 77, 3) := by decide +kernel
theorem dX0_canLend_36 : decode cX0_canLend 36 = .ok (.ifCond .ne 12, 3) := by decide +kernel
theorem dX0_canLend_39 : decode cX0_canLend 39 = .ok (.aload_n 0, 1) := by decide +kernel
theorem dX0_canLend_40 : decode cX0_canLend 40 = .ok (.getfield 46, 3) := by decide +kernel
theorem dX0_canLend_43 : decode cX0_canLend 43 = .ok (.bipush 12, 2) := by decide +kernel
theorem dX0_canLend_45 : decode cX0_canLend 45 = .ok (.if_icmp .lt 5, 3) := by decide +kernel
theorem dX0_canLend_48 : decode cX0_canLend 48 = .ok (.iconst 0, 1) := by decide +kernel
theorem dX0_canLend_49 : decode cX0_canLend 49 = .ok (.ireturn, 1) := by decide +kernel
theorem dX0_canLend_50 : decode cX0_canLend 50 = .ok (.aload_n 0, 1) := by decide +kernel
theorem dX0_canLend_51 : decode cX0_canLend 51 = .ok (.iload_n 1, 1) := by decide +kernel
theorem dX0_canLend_52 : decode cX0_canLend 52 = .ok (.invokevirtual 93, 3) := by decide +kernel
theorem dX0_canLend_55 : decode cX0_canLend 55 = .ok (.iload_n 3, 1) := by decide +kernel
theorem dX0_canLend_56 : decode cX0_canLend 56 = .ok (.if_icmp .lt 22, 3) := by decide +kernel
theorem dX0_canLend_59 : decode cX0_canLend 59 = .ok (.aload_n 0, 1) := by decide +kernel
theorem dX0_canLend_60 : decode cX0_canLend 60 = .ok (.iload_n 3, 1) := by decide +kernel
theorem dX0_canLend_61 : decode cX0_canLend 61 = .ok (.iload_n 1, 1) := by decide +kernel
theorem dX0_canLend_62 : decode cX0_canLend 62 = .ok (.iload_n 2, 1) := by decide +kernel
theorem dX0_canLend_63 : decode cX0_canLend 63 = .ok (.invokevirtual 96, 3) := by decide +kernel
theorem dX0_canLend_66 : decode cX0_canLend 66 = .ok (.aload_n 0, 1) := by decide +kernel
theorem dX0_canLend_67 : decode cX0_canLend 67 = .ok (.iload_n 2, 1) := by decide +kernel
theorem dX0_canLend_68 : decode cX0_canLend 68 = .ok (.invokevirtual 100, 3) := by decide +kernel
theorem dX0_canLend_71 : decode cX0_canLend 71 = .ok (.if_icmp .gt 7, 3) := by decide +kernel
theorem dX0_canLend_74 : decode cX0_canLend 74 = .ok (.iconst 1, 1) := by decide +kernel
theorem dX0_canLend_75 : decode cX0_canLend 75 = .ok (.goto 4, 3) := by decide +kernel
theorem dX0_canLend_78 : decode cX0_canLend 78 = .ok (.iconst 0, 1) := by decide +kernel
theorem dX0_canLend_79 : decode cX0_canLend 79 = .ok (.ireturn, 1) := by decide +kernel
theorem dX0_makeLoan_0 : decode cX0_makeLoan 0 = .ok (.aload_n 0, 1) := by decide +kernel
theorem dX0_makeLoan_1 : decode cX0_makeLoan 1 = .ok (.getfield 46, 3) := by decide +kernel
theorem dX0_makeLoan_4 : decode cX0_makeLoan 4 = .ok (.bipush 12, 2) := by decide +kernel
theorem dX0_makeLoan_6 : decode cX0_makeLoan 6 = .ok (.if_icmp .ge 13, 3) := by decide +kernel
theorem dX0_makeLoan_9 : decode cX0_makeLoan 9 = .ok (.aload_n 0, 1) := by decide +kernel
theorem dX0_makeLoan_10 : decode cX0_makeLoan 10 = .ok (.iload_n 1, 1) := by decide +kernel
theorem dX0_makeLoan_11 : decode cX0_makeLoan 11 = .ok (.iload_n 2, 1) := by decide +kernel
theorem dX0_makeLoan_12 : decode cX0_makeLoan 12 = .ok (.iload_n 3, 1) := by decide +kernel
theorem dX0_makeLoan_13 : decode cX0_makeLoan 13 = .ok (.invokevirtual 103, 3) := by decide +kernel
theorem dX0_makeLoan_16 : decode cX0_makeLoan 16 = .ok (.ifCond .ne 6, 3) := by decide +kernel
theorem dX0_makeLoan_19 : decode cX0_makeLoan 19 = .ok (.bipush (-9), 2) := by decide +kernel
theorem dX0_makeLoan_21 : decode cX0_makeLoan 21 = .ok (.ireturn, 1) := by decide +kernel
theorem dX0_makeLoan_22 : decode cX0_makeLoan 22 = .ok (.aload_n 0, 1) := by decide +kernel
theorem dX0_makeLoan_23 : decode cX0_makeLoan 23 = .ok (.getfield 46, 3) := by decide +kernel
theorem dX0_makeLoan_26 : decode cX0_makeLoan 26 = .ok (.istore 5, 2) := by decide +kernel
theorem dX0_makeLoan_28 : decode cX0_makeLoan 28 = .ok (.aload_n 0, 1) := by decide +kernel
theorem dX0_makeLoan_29 : decode cX0_makeLoan 29 = .ok (.getfield 24, 3) := by decide +kernel
theorem dX0_makeLoan_32 : decode cX0_makeLoan 32 = .ok (.iload 5, 2) := by decide +kernel
theorem dX0_makeLoan_34 : decode cX0_makeLoan 34 = .ok (.iload_n 1, 1) := by decide +kernel
theorem dX0_makeLoan_35 : decode cX0_makeLoan 35 = .ok (.iastore, 1) := by decide +kernel
theorem dX0_makeLoan_36 : decode cX0_makeLoan 36 = .ok (.aload_n 0, 1) := by decide +kernel
theorem dX0_makeLoan_37 : decode cX0_makeLoan 37 = .ok (.getfield 27, 3) := by decide +kernel
theorem dX0_makeLoan_40 : decode cX0_makeLoan 40 = .ok (.iload 5, 2) := by decide +kernel
theorem dX0_makeLoan_42 : decode cX0_makeLoan 42 = .ok (.iload_n 2, 1) := by decide +kernel
theorem dX0_makeLoan_43 : decode cX0_makeLoan 43 = .ok (.iastore, 1) := by decide +kernel
theorem dX0_makeLoan_44 : decode cX0_makeLoan 44 = .ok (.aload_n 0, 1) := by decide +kernel
theorem dX0_makeLoan_45 : decode cX0_makeLoan 45 = .ok (.getfield 30, 3) := by decide +kernel
theorem dX0_makeLoan_48 : decode cX0_makeLoan 48 = .ok (.iload 5, 2) := by decide +kernel
theorem dX0_makeLoan_50 : decode cX0_makeLoan 50 = .ok (.iload_n 3, 1) := by decide +kernel
theorem dX0_makeLoan_51 : decode cX0_makeLoan 51 = .ok (.iastore, 1) := by decide +kernel
theorem dX0_makeLoan_52 : decode cX0_makeLoan 52 = .ok (.aload_n 0, 1) := by decide +kernel
theorem dX0_makeLoan_53 : decode cX0_makeLoan 53 = .ok (.getfield 33, 3) := by decide +kernel
theorem dX0_makeLoan_56 : decode cX0_makeLoan 56 = .ok (.iload 5, 2) := by decide +kernel
theorem dX0_makeLoan_58 : decode cX0_makeLoan 58 = .ok (.iload 4, 2) := by decide +kernel
theorem dX0_makeLoan_60 : decode cX0_makeLoan 60 = .ok (.iastore, 1) := by decide +kernel
theorem dX0_makeLoan_61 : decode cX0_makeLoan 61 = .ok (.aload_n 0, 1) := by decide +kernel
theorem dX0_makeLoan_62 : decode cX0_makeLoan 62 = .ok (.getfield 36, 3) := by decide +kernel
theorem dX0_makeLoan_65 : decode cX0_makeLoan 65 = .ok (.iload 5, 2) := by decide +kernel
theorem dX0_makeLoan_67 : decode cX0_makeLoan 67 = .ok (.aload_n 0, 1) := by decide +kernel
theorem dX0_makeLoan_68 : decode cX0_makeLoan 68 = .ok (.iload_n 3, 1) := by decide +kernel
theorem dX0_makeLoan_69 : decode cX0_makeLoan 69 = .ok (.iload_n 1, 1) := by decide +kernel
theorem dX0_makeLoan_70 : decode cX0_makeLoan 70 = .ok (.iload_n 2, 1) := by decide +kernel
theorem dX0_makeLoan_71 : decode cX0_makeLoan 71 = .ok (.invokevirtual 107, 3) := by decide +kernel
theorem dX0_makeLoan_74 : decode cX0_makeLoan 74 = .ok (.iastore, 1) := by decide +kernel
theorem dX0_makeLoan_75 : decode cX0_makeLoan 75 = .ok (.aload_n 0, 1) := by decide +kernel
theorem dX0_makeLoan_76 : decode cX0_makeLoan 76 = .ok (.dup, 1) := by decide +kernel
theorem dX0_makeLoan_77 : decode cX0_makeLoan 77 = .ok (.getfield 46, 3) := by decide +kernel
theorem dX0_makeLoan_80 : decode cX0_makeLoan 80 = .ok (.iconst 1, 1) := by decide +kernel
theorem dX0_makeLoan_81 : decode cX0_makeLoan 81 = .ok (.iadd, 1) := by decide +kernel
theorem dX0_makeLoan_82 : decode cX0_makeLoan 82 = .ok (.putfield 46, 3) := by decide +kernel
theorem dX0_makeLoan_85 : decode cX0_makeLoan 85 = .ok (.aload_n 0, 1) := by decide +kernel
theorem dX0_makeLoan_86 : decode cX0_makeLoan 86 = .ok (.getfield 36, 3) := by decide +kernel
theorem dX0_makeLoan_89 : decode cX0_makeLoan 89 = .ok (.iload 5, 2) := by decide +kernel
theorem dX0_makeLoan_91 : decode cX0_makeLoan 91 = .ok (.iaload, 1) := by decide +kernel
theorem dX0_makeLoan_92 : decode cX0_makeLoan 92 = .ok (.ireturn, 1) := by decide +kernel
theorem dX0_canPayBack_0 : decode cX0_canPayBack 0 = .ok (.aload_n 0, 1) := by decide +kernel
theorem dX0_canPayBack_1 : decode cX0_canPayBack 1 = .ok (.iload_n 1, 1) := by decide +kernel
theorem dX0_canPayBack_2 : decode cX0_canPayBack 2 = .ok (.invokevirtual 80, 3) := by decide +kernel
theorem dX0_canPayBack_5 : decode cX0_canPayBack 5 = .ok (.ifCond .eq 27, 3) := by decide +kernel
theorem dX0_canPayBack_8 : decode cX0_canPayBack 8 = .ok (.aload_n 0, 1) := by decide +kernel
theorem dX0_canPayBack_9 : decode cX0_canPayBack 9 = .ok (.getfield 30, 3) := by decide +kernel
theorem dX0_canPayBack_12 : decode cX0_canPayBack 12 = .ok (.iload_n 1, 1) := by decide +kernel
theorem dX0_canPayBack_13 : decode cX0_canPayBack 13 = .ok (.iaload, 1) := by decide +kernel
theorem dX0_canPayBack_14 : decode cX0_canPayBack 14 = .ok (.iload_n 2, 1) := by decide +kernel
theorem dX0_canPayBack_15 : decode cX0_canPayBack 15 = .ok (.if_icmp .lt 17, 3) := by decide +kernel
theorem dX0_canPayBack_18 : decode cX0_canPayBack 18 = .ok (.aload_n 0, 1) := by decide +kernel
theorem dX0_canPayBack_19 : decode cX0_canPayBack 19 = .ok (.aload_n 0, 1) := by decide +kernel
theorem dX0_canPayBack_20 : decode cX0_canPayBack 20 = .ok (.getfield 27, 3) := by decide +kernel
theorem dX0_canPayBack_23 : decode cX0_canPayBack 23 = .ok (.iload_n 1, 1) := by decide +kernel
theorem dX0_canPayBack_24 : decode cX0_canPayBack 24 = .ok (.iaload, 1) := by decide +kernel
theorem dX0_canPayBack_25 : decode cX0_canPayBack 25 = .ok (.invokevirtual 93, 3) := by decide +kernel
theorem dX0_canPayBack_28 : decode cX0_canPayBack 28 = .ok (.iload_n 2, 1) := by decide +kernel
theorem dX0_canPayBack_29 : decode cX0_canPayBack 29 = .ok (.if_icmp .ge 5, 3) := by decide +kernel
theorem dX0_canPayBack_32 : decode cX0_canPayBack 32 = .ok (.iconst 0, 1) := by decide +kernel
theorem dX0_canPayBack_33 : decode cX0_canPayBack 33 = .ok (.ireturn, 1) := by decide +kernel
theorem dX0_canPayBack_34 : decode cX0_canPayBack 34 = .ok (.aload_n 0, 1) := by decide +kernel
theorem dX0_canPayBack_35 : decode cX0_canPayBack 35 = .ok (.iload_n 2, 1) := by decide +kernel
theorem dX0_canPayBack_36 : decode cX0_canPayBack 36 = .ok (.aload_n 0, 1) := by decide +kernel
theorem dX0_canPayBack_37 : decode cX0_canPayBack 37 = .ok (.getfield 27, 3) := by decide +kernel
theorem dX0_canPayBack_40 : decode cX0_canPayBack 40 = .ok (.iload_n 1, 1) := by decide +kernel
theorem dX0_canPayBack_41 : decode cX0_canPayBack 41 = .ok (.iaload, 1) := by decide +kernel
theorem dX0_canPayBack_42 : decode cX0_canPayBack 42 = .ok (.aload_n 0, 1) := by decide +kernel
theorem dX0_canPayBack_43 : decode cX0_canPayBack 43 = .ok (.getfield 24, 3) := by decide +kernel
theorem dX0_canPayBack_46 : decode cX0_canPayBack 46 = .ok (.iload_n 1, 1) := by decide +kernel
theorem dX0_canPayBack_47 : decode cX0_canPayBack 47 = .ok (.iaload, 1) := by decide +kernel
theorem dX0_canPayBack_48 : decode cX0_canPayBack 48 = .ok (.invokevirtual 96, 3) := by decide +kernel
theorem dX0_canPayBack_51 : decode cX0_canPayBack 51 = .ok (.aload_n 0, 1) := by decide +kernel
theorem dX0_canPayBack_52 : decode cX0_canPayBack 52 = .ok (.aload_n 0, 1) := by decide +kernel
theorem dX0_canPayBack_53 : decode cX0_canPayBack 53 = .ok (.getfield 24, 3) := by decide +kernel
theorem dX0_canPayBack_56 : decode cX0_canPayBack 56 = .ok (.iload_n 1, 1) := by decide +kernel
theorem dX0_canPayBack_57 : decode cX0_canPayBack 57 = .ok (.iaload, 1) := by decide +kernel
theorem dX0_canPayBack_58 : decode cX0_canPayBack 58 = .ok (.invokevirtual 100, 3) := by decide +kernel
theorem dX0_canPayBack_61 : decode cX0_canPayBack 61 = .ok (.if_icmp .gt 7, 3) := by decide +kernel
theorem dX0_canPayBack_64 : decode cX0_canPayBack 64 = .ok (.iconst 1, 1) := by decide +kernel
theorem dX0_canPayBack_65 : decode cX0_canPayBack 65 = .ok (.goto 4, 3) := by decide +kernel
theorem dX0_canPayBack_68 : decode cX0_canPayBack 68 = .ok (.iconst 0, 1) := by decide +kernel
theorem dX0_canPayBack_69 : decode cX0_canPayBack 69 = .ok (.ireturn, 1) := by decide +kernel
theorem dX0_payBack_0 : decode cX0_payBack 0 = .ok (.aload_n 0, 1) := by decide +kernel
theorem dX0_payBack_1 : decode cX0_payBack 1 = .ok (.iload_n 1, 1) := by decide +kernel
theorem dX0_payBack_2 : decode cX0_payBack 2 = .ok (.invokevirtual 80, 3) := by decide +kernel
theorem dX0_payBack_5 : decode cX0_payBack 5 = .ok (.ifCond .eq 12, 3) := by decide +kernel
theorem dX0_payBack_8 : decode cX0_payBack 8 = .ok (.aload_n 0, 1) := by decide +kernel
theorem dX0_payBack_9 : decode cX0_payBack 9 = .ok (.iload_n 1, 1) := by decide +kernel
theorem dX0_payBack_10 : decode cX0_payBack 10 = .ok (.iload_n 2, 1) := by decide +kernel
theorem dX0_payBack_11 : decode cX0_payBack 11 = .ok (.invokevirtual 110, 3) := by decide +kernel
theorem dX0_payBack_14 : decode cX0_payBack 14 = .ok (.ifCond .ne 6, 3) := by decide +kernel
theorem dX0_payBack_17 : decode cX0_payBack 17 = .ok (.bipush (-9), 2) := by decide +kernel
theorem dX0_payBack_19 : decode cX0_payBack 19 = .ok (.ireturn, 1) := by decide +kernel
theorem dX0_payBack_20 : decode cX0_payBack 20 = .ok (.aload_n 0, 1) := by decide +kernel
theorem dX0_payBack_21 : decode cX0_payBack 21 = .ok (.iload_n 2, 1) := by decide +kernel
theorem dX0_payBack_22 : decode cX0_payBack 22 = .ok (.aload_n 0, 1) := by decide +kernel
theorem dX0_payBack_23 : decode cX0_payBack 23 = .ok (.getfield 27, 3) := by decide +kernel
theorem dX0_payBack_26 : decode cX0_payBack 26 = .ok (.iload_n 1, 1) := by decide +kernel
theorem dX0_payBack_27 : decode cX0_payBack 27 = .ok (.iaload, 1) := by decide +kernel
theorem dX0_payBack_28 : decode cX0_payBack 28 = .ok (.aload_n 0, 1) := by decide +kernel
theorem dX0_payBack_29 : decode cX0_payBack 29 = .ok (.getfield 24, 3) := by decide +kernel
theorem dX0_payBack_32 : decode cX0_payBack 32 = .ok (.iload_n 1, 1) := by decide +kernel
theorem dX0_payBack_33 : decode cX0_payBack 33 = .ok (.iaload, 1) := by decide +kernel
theorem dX0_payBack_34 : decode cX0_payBack 34 = .ok (.invokevirtual 107, 3) := by decide +kernel
theorem dX0_payBack_37 : decode cX0_payBack 37 = .ok (.pop, 1) := by decide +kernel
theorem dX0_payBack_38 : decode cX0_payBack 38 = .ok (.aload_n 0, 1) := by decide +kernel
theorem dX0_payBack_39 : decode cX0_payBack 39 = .ok (.getfield 30, 3) := by decide +kernel
theorem dX0_payBack_42 : decode cX0_payBack 42 = .ok (.iload_n 1, 1) := by decide +kernel
theorem dX0_payBack_43 : decode cX0_payBack 43 = .ok (.dup2, 1) := by decide +kernel
theorem dX0_payBack_44 : decode cX0_payBack 44 = .ok (.iaload, 1) := by decide +kernel
theorem dX0_payBack_45 : decode cX0_payBack 45 = .ok (.iload_n 2, 1) := by decide +kernel
theorem dX0_payBack_46 : decode cX0_payBack 46 = .ok (.isub, 1) := by decide +kernel
theorem dX0_payBack_47 : decode cX0_payBack 47 = .ok (.iastore, 1) := by decide +kernel
theorem dX0_payBack_48 : decode cX0_payBack 48 = .ok (.aload_n 0, 1) := by decide +kernel
theorem dX0_payBack_49 : decode cX0_payBack 49 = .ok (.getfield 30, 3) := by decide +kernel
theorem dX0_payBack_52 : decode cX0_payBack 52 = .ok (.iload_n 1, 1) := by decide +kernel
theorem dX0_payBack_53 : decode cX0_payBack 53 = .ok (.iaload, 1) := by decide +kernel
theorem dX0_payBack_54 : decode cX0_payBack 54 = .ok (.istore_n 3, 1) := by decide +kernel
theorem dX0_payBack_55 : decode cX0_payBack 55 = .ok (.iload_n 3, 1) := by decide +kernel
theorem dX0_payBack_56 : decode cX0_payBack 56 = .ok (.ifCond .ne 8, 3) := by decide +kernel
theorem dX0_payBack_59 : decode cX0_payBack 59 = .ok (.aload_n 0, 1) := by decide +kernel
theorem dX0_payBack_60 : decode cX0_payBack 60 = .ok (.iload_n 1, 1) := by decide +kernel
theorem dX0_payBack_61 : decode cX0_payBack 61 = .ok (.invokevirtual 114, 3) := by decide +kernel
theorem dX0_payBack_64 : decode cX0_payBack 64 = .ok (.iload_n 3, 1) := by decide +kernel
theorem dX0_payBack_65 : decode cX0_payBack 65 = .ok (.ireturn, 1) := by decide +kernel
theorem dX0_removeLoan_0 : decode cX0_removeLoan 0 = .ok (.iload_n 1, 1) := by decide +kernel
theorem dX0_removeLoan_1 : decode cX0_removeLoan 1 = .ok (.ifCond .lt 11, 3) := by decide +kernel
theorem dX0_removeLoan_4 : decode cX0_removeLoan 4 = .ok (.iload_n 1, 1) := by decide +kernel
theorem dX0_removeLoan_5 : decode cX0_removeLoan 5 = .ok (.aload_n 0, 1) := by decide +kernel
theorem dX0_removeLoan_6 : decode cX0_removeLoan 6 = .ok (.getfield 46, 3) := by decide +kernel
theorem dX0_removeLoan_9 : decode cX0_removeLoan 9 = .ok (.if_icmp .lt 4, 3) := by decide +kernel
theorem dX0_removeLoan_12 : decode cX0_removeLoan 12 = .ok (.return_, 1) := by decide +kernel
theorem dX0_removeLoan_13 : decode cX0_removeLoan 13 = .ok (.iload_n 1, 1) := by decide +kernel
theorem dX0_removeLoan_14 : decode cX0_removeLoan 14 = .ok (.iconst 1, 1) := by decide +kernel
theorem dX0_removeLoan_15 : decode cX0_removeLoan 15 = .ok (.iadd, 1) := by decide +kernel
theorem dX0_removeLoan_16 : decode cX0_removeLoan 16 = .ok (.istore_n 2, 1) := by decide +kernel
theorem dX0_removeLoan_17 : decode cX0_removeLoan 17 = .ok (.iload_n 2, 1) := by decide +kernel
theorem dX0_removeLoan_18 : decode cX0_removeLoan 18 = .ok (.aload_n 0, 1) := by decide +kernel
theorem dX0_removeLoan_19 : decode cX0_removeLoan 19 = .ok (.getfield 46, 3) := by decide +kernel
theorem dX0_removeLoan_22 : decode cX0_removeLoan 22 = .ok (.if_icmp .ge 79, 3) := by decide +kernel
theorem dX0_removeLoan_25 : decode cX0_removeLoan 25 = .ok (.aload_n 0, 1) := by decide +kernel
theorem dX0_removeLoan_26 : decode cX0_removeLoan 26 = .ok (.getfield 24, 3) := by decide +kernel
theorem dX0_removeLoan_29 : decode cX0_removeLoan 29 = .ok (.iload_n 2, 1) := by decide +kernel
theorem dX0_removeLoan_30 : decode cX0_removeLoan 30 = .ok (.iconst 1, 1) := by decide +kernel
theorem dX0_removeLoan_31 : decode cX0_removeLoan 31 = .ok (.isub, 1) := by decide +kernel
theorem dX0_removeLoan_32 : decode cX0_removeLoan 32 = .ok (.aload_n 0, 1) := by decide +kernel
theorem dX0_removeLoan_33 : decode cX0_removeLoan 33 = .ok (.getfield 24, 3) := by decide +kernel
theorem dX0_removeLoan_36 : decode cX0_removeLoan 36 = .ok (.iload_n 2, 1) := by decide +kernel
theorem dX0_removeLoan_37 : decode cX0_removeLoan 37 = .ok (.iaload, 1) := by decide +kernel
theorem dX0_removeLoan_38 : decode cX0_removeLoan 38 = .ok (.iastore, 1) := by decide +kernel
theorem dX0_removeLoan_39 : decode cX0_removeLoan 39 = .ok (.aload_n 0, 1) := by decide +kernel
theorem dX0_removeLoan_40 : decode cX0_removeLoan 40 = .ok (.getfield 27, 3) := by decide +kernel
theorem dX0_removeLoan_43 : decode cX0_removeLoan 43 = .ok (.iload_n 2, 1) := by decide +kernel
theorem dX0_removeLoan_44 : decode cX0_removeLoan 44 = .ok (.iconst 1, 1) := by decide +kernel
theorem dX0_removeLoan_45 : decode cX0_removeLoan 45 = .ok (.isub, 1) := by decide +kernel
theorem dX0_removeLoan_46 : decode cX0_removeLoan 46 = .ok (.aload_n 0, 1) := by decide +kernel
theorem dX0_removeLoan_47 : decode cX0_removeLoan 47 = .ok (.getfield 27, 3) := by decide +kernel
theorem dX0_removeLoan_50 : decode cX0_removeLoan 50 = .ok (.iload_n 2, 1) := by decide +kernel
theorem dX0_removeLoan_51 : decode cX0_removeLoan 51 = .ok (.iaload, 1) := by decide +kernel
theorem dX0_removeLoan_52 : decode cX0_removeLoan 52 = .ok (.iastore, 1) := by decide +kernel
theorem dX0_removeLoan_53 : decode cX0_removeLoan 53 = .ok (.aload_n 0, 1) := by decide +kernel
theorem dX0_removeLoan_54 : decode cX0_removeLoan 54 = .ok (.getfield 30, 3) := by decide +kernel
theorem dX0_removeLoan_57 : decode cX0_removeLoan 57 = .ok (.iload_n 2, 1) := by decide +kernel
theorem dX0_removeLoan_58 : decode cX0_removeLoan 58 = .ok (.iconst 1, 1) := by decide +kernel
theorem dX0_removeLoan_59 : decode cX0_removeLoan 59 = .ok (.isub, 1) := by decide +kernel
theorem dX0_removeLoan_60 : decode cX0_removeLoan 60 = .ok (.aload_n 0, 1) := by decide +kernel
theorem dX0_removeLoan_61 : decode cX0_removeLoan 61 = .ok (.getfield 30, 3) := by decide +kernel
theorem dX0_removeLoan_64 : decode cX0_removeLoan 64 = .ok (.iload_n 2, 1) := by decide +kernel
theorem dX0_removeLoan_65 : decode cX0_removeLoan 65 = .ok (.iaload, 1) := by decide +kernel
theorem dX0_removeLoan_66 : decode cX0_removeLoan 66 = .ok (.iastore, 1) := by decide +kernel
theorem dX0_removeLoan_67 : decode cX0_removeLoan 67 = .ok (.aload_n 0, 1) := by decide +kernel
theorem dX0_removeLoan_68 : decode cX0_removeLoan 68 = .ok (.getfield 33, 3) := by decide +kernel
theorem dX0_removeLoan_71 : decode cX0_removeLoan 71 = .ok (.iload_n 2, 1) := by decide +kernel
theorem dX0_removeLoan_72 : decode cX0_removeLoan 72 = .ok (.iconst 1, 1) := by decide +kernel
theorem dX0_removeLoan_73 : decode cX0_removeLoan 73 = .ok (.isub, 1) := by decide +kernel
theorem dX0_removeLoan_74 : decode cX0_removeLoan 74 = .ok (.aload_n 0, 1) := by decide +kernel
theorem dX0_removeLoan_75 : decode cX0_removeLoan 75 = .ok (.getfield 33, 3) := by decide +kernel
theorem dX0_removeLoan_78 : decode cX0_removeLoan 78 = .ok (.iload_n 2, 1) := by decide +kernel
theorem dX0_removeLoan_79 : decode cX0_removeLoan 79 = .ok (.iaload, 1) := by decide +kernel
theorem dX0_removeLoan_80 : decode cX0_removeLoan 80 = .ok (.iastore, 1) := by decide +kernel
theorem dX0_removeLoan_81 : decode cX0_removeLoan 81 = .ok (.aload_n 0, 1) := by decide +kernel
theorem dX0_removeLoan_82 : decode cX0_removeLoan 82 = .ok (.getfield 36, 3) := by decide +kernel
theorem dX0_removeLoan_85 : decode cX0_removeLoan 85 = .ok (.iload_n 2, 1) := by decide +kernel
theorem dX0_removeLoan_86 : decode cX0_removeLoan 86 = .ok (.iconst 1, 1) := by decide +kernel
theorem dX0_removeLoan_87 : decode cX0_removeLoan 87 = .ok (.isub, 1) := by decide +kernel
theorem dX0_removeLoan_88 : decode cX0_removeLoan 88 = .ok (.aload_n 0, 1) := by decide +kernel
theorem dX0_removeLoan_89 : decode cX0_removeLoan 89 = .ok (.getfield 36, 3) := by decide +kernel
theorem dX0_removeLoan_92 : decode cX0_removeLoan 92 = .ok (.iload_n 2, 1) := by decide +kernel
theorem dX0_removeLoan_93 : decode cX0_removeLoan 93 = .ok (.iaload, 1) := by decide +kernel
theorem dX0_removeLoan_94 : decode cX0_removeLoan 94 = .ok (.iastore, 1) := by decide +kernel
theorem dX0_removeLoan_95 : decode cX0_removeLoan 95 = .ok (.iinc 2 1, 3) := by decide +kernel
theorem dX0_removeLoan_98 : decode cX0_removeLoan 98 = .ok (.goto (-81), 3) := by decide +kernel
theorem dX0_removeLoan_101 : decode cX0_removeLoan 101 = .ok (.aload_n 0, 1) := by decide +kernel
theorem dX0_removeLoan_102 : decode cX0_removeLoan 102 = .ok (.dup, 1) := by decide +kernel
theorem dX0_removeLoan_103 : decode cX0_removeLoan 103 = .ok (.getfield 46, 3) := by decide +kernel
theorem dX0_removeLoan_106 : decode cX0_removeLoan 106 = .ok (.iconst 1, 1) := by decide +kernel
theorem dX0_removeLoan_107 : decode cX0_removeLoan 107 = .ok (.isub, 1) := by decide +kernel
theorem dX0_removeLoan_108 : decode cX0_removeLoan 108 = .ok (.putfield 46, 3) := by decide +kernel
theorem dX0_removeLoan_111 : decode cX0_removeLoan 111 = .ok (.aload_n 0, 1) := by decide +kernel
theorem dX0_removeLoan_112 : decode cX0_removeLoan 112 = .ok (.getfield 39, 3) := by decide +kernel
theorem dX0_removeLoan_115 : decode cX0_removeLoan 115 = .ok (.iload_n 1, 1) := by decide +kernel
theorem dX0_removeLoan_116 : decode cX0_removeLoan 116 = .ok (.if_icmp .ne 12, 3) := by decide +kernel
theorem dX0_removeLoan_119 : decode cX0_removeLoan 119 = .ok (.aload_n 0, 1) := by decide +kernel
theorem dX0_removeLoan_120 : decode cX0_removeLoan 120 = .ok (.bipush (-9), 2) := by decide +kernel
theorem dX0_removeLoan_122 : decode cX0_removeLoan 122 = .ok (.putfield 39, 3) := by decide +kernel
theorem dX0_removeLoan_125 : decode cX0_removeLoan 125 = .ok (.goto 21, 3) := by decide +kernel
theorem dX0_removeLoan_128 : decode cX0_removeLoan 128 = .ok (.aload_n 0, 1) := by decide +kernel
theorem dX0_removeLoan_129 : decode cX0_removeLoan 129 = .ok (.getfield 39, 3) := by decide +kernel
theorem dX0_removeLoan_132 : decode cX0_removeLoan 132 = .ok (.iload_n 1, 1) := by decide +kernel
theorem dX0_removeLoan_133 : decode cX0_removeLoan 133 = .ok (.if_icmp .le 13, 3) := by decide +kernel
theorem dX0_removeLoan_136 : decode cX0_removeLoan 136 = .ok (.aload_n 0, 1) := by decide +kernel
theorem dX0_removeLoan_137 : decode cX0_removeLoan 137 = .ok (.dup, 1) := by decide +kernel
theorem dX0_removeLoan_138 : decode cX0_removeLoan 138 = .ok (.getfield 39, 3) := by decide +kernel
theorem dX0_removeLoan_141 : decode cX0_removeLoan 141 = .ok (.iconst 1, 1) := by decide +kernel
theorem dX0_removeLoan_142 : decode cX0_removeLoan 142 = .ok (.isub, 1) := by decide +kernel
theorem dX0_removeLoan_143 : decode cX0_removeLoan 143 = .ok (.putfield 39, 3) := by decide +kernel
theorem dX0_removeLoan_146 : decode cX0_removeLoan 146 = .ok (.return_, 1) := by decide +kernel
theorem dX0_cheapestLender_0 : decode cX0_cheapestLender 0 = .ok (.aload_n 0, 1) := by decide +kernel
theorem dX0_cheapestLender_1 : decode cX0_cheapestLender 1 = .ok (.iload_n 1, 1) := by decide +kernel
theorem dX0_cheapestLender_2 : decode cX0_cheapestLender 2 = .ok (.invokevirtual 77, 3) := by decide +kernel
theorem dX0_cheapestLender_5 : decode cX0_cheapestLender 5 = .ok (.ifCond .ne 12, 3) := by decide +kernel
theorem dX0_cheapestLender_8 : decode cX0_cheapestLender 8 = .ok (.aload_n 0, 1) := by decide +kernel
theorem dX0_cheapestLender_9 : decode cX0_cheapestLender 9 = .ok (.iload_n 1, 1) := by decide +kernel
theorem dX0_cheapestLender_10 : decode cX0_cheapestLender 10 = .ok (.invokevirtual 100, 3) := by decide +kernel
theorem dX0_cheapestLender_13 : decode cX0_cheapestLender 13 = .ok (.iload_n 2, 1) := by decide +kernel
theorem dX0_cheapestLender_14 : decode cX0_cheapestLender 14 = .ok (.if_icmp .ge 6, 3) := by decide +kernel
theorem dX0_cheapestLender_17 : decode cX0_cheapestLender 17 = .ok (.bipush (-9), 2) := by decide +kernel
theorem dX0_cheapestLender_19 : decode cX0_cheapestLender 19 = .ok (.ireturn, 1) := by decide +kernel
theorem dX0_cheapestLender_20 : decode cX0_cheapestLender 20 = .ok (.bipush (-9), 2) := by decide +kernel
theorem dX0_cheapestLender_22 : decode cX0_cheapestLender 22 = .ok (.istore_n 3, 1) := by decide +kernel
theorem dX0_cheapestLender_23 : decode cX0_cheapestLender 23 = .ok (.iconst 0, 1) := by decide +kernel
theorem dX0_cheapestLender_24 : decode cX0_cheapestLender 24 = .ok (.istore 4, 2) := by decide +kernel
theorem dX0_cheapestLender_26 : decode cX0_cheapestLender 26 = .ok (.iconst 0, 1) := by decide +kernel
theorem dX0_cheapestLender_27 : decode cX0_cheapestLender 27 = .ok (.istore 5, 2) := by decide +kernel
theorem dX0_cheapestLender_29 : decode cX0_cheapestLender 29 = .ok (.iload 5, 2) := by decide +kernel
theorem dX0_cheapestLender_31 : decode cX0_cheapestLender 31 = .ok (.aload_n 0, 1) := by decide +kernel
theorem dX0_cheapestLender_32 : decode cX0_cheapestLender 32 = .ok (.getfield 43, 3) := by decide +kernel
theorem dX0_cheapestLender_35 : decode cX0_cheapestLender 35 = .ok (.if_icmp .ge 103, 3) := by decide +kernel
theorem dX0_cheapestLender_38 : decode cX0_cheapestLender 38 = .ok (.aload_n 0, 1) := by decide +kernel
theorem dX0_cheapestLender_39 : decode cX0_cheapestLender 39 = .ok (.iload_n 2, 1) := by decide +kernel
theorem dX0_cheapestLender_40 : decode cX0_cheapestLender 40 = .ok (.iload 5, 2) := by decide +kernel
theorem dX0_cheapestLender_42 : decode cX0_cheapestLender 42 = .ok (.iload_n 1, 1) := by decide +kernel
theorem dX0_cheapestLender_43 : decode cX0_cheapestLender 43 = .ok (.invokevirtual 118, 3) := by decide +kernel
theorem dX0_cheapestLender_46 : decode cX0_cheapestLender 46 = .ok (.istore 6, 2) := by decide +kernel
theorem dX0_cheapestLender_48 : decode cX0_cheapestLender 48 = .ok (.iload 5, 2) := by decide +kernel
theorem dX0_cheapestLender_50 : decode cX0_cheapestLender 50 = .ok (.iload_n 1, 1) := by decide +kernel
theorem dX0_cheapestLender_51 : decode cX0_cheapestLender 51 = .ok (.if_icmp .eq 81, 3) := by decide +kernel
theorem dX0_cheapestLender_54 : decode cX0_cheapestLender 54 = .ok (.aload_n 0, 1) := by decide +kernel
theorem dX0_cheapestLender_55 : decode cX0_cheapestLender 55 = .ok (.iload 5, 2) := by decide +kernel
theorem dX0_cheapestLender_57 : decode cX0_cheapestLender 57 = .ok (.invokevirtual 77, 3) := by decide +kernel
theorem dX0_cheapestLender_60 : decode cX0_cheapestLender 60 = .ok (.ifCond .ne 72, 3) := by decide +kernel
theorem dX0_cheapestLender_63 : decode cX0_cheapestLender 63 = .ok (.aload_n 0, 1) := by decide +kernel
theorem dX0_cheapestLender_64 : decode cX0_cheapestLender 64 = .ok (.getfield 15, 3) := by decide +kernel
theorem dX0_cheapestLender_67 : decode cX0_cheapestLender 67 = .ok (.iload 5, 2) := by decide +kernel
theorem dX0_cheapestLender_69 : decode cX0_cheapestLender 69 = .ok (.iaload, 1) := by decide +kernel
theorem dX0_cheapestLender_70 : decode cX0_cheapestLender 70 = .ok (.iload 6, 2) := by decide +kernel
theorem dX0_cheapestLender_72 : decode cX0_cheapestLender 72 = .ok (.if_icmp .ge 6, 3) := by decide +kernel
theorem dX0_cheapestLender_75 : decode cX0_cheapestLender 75 = .ok (.goto 57, 3) := by decide +kernel
theorem dX0_cheapestLender_78 : decode cX0_cheapestLender 78 = .ok (.iload 6, 2) := by decide +kernel
theorem dX0_cheapestLender_80 : decode cX0_cheapestLender 80 = .ok (.iload 4, 2) := by decide +kernel
theorem dX0_cheapestLender_82 : decode cX0_cheapestLender 82 = .ok (.if_icmp .lt 25, 3) := by decide +kernel
theorem dX0_cheapestLender_85 : decode cX0_cheapestLender 85 = .ok (.iload 6, 2) := by decide +kernel
theorem dX0_cheapestLender_87 : decode cX0_cheapestLender 87 = .ok (.iload 4, 2) := by decide +kernel
theorem dX0_cheapestLender_89 : decode cX0_cheapestLender 89 = .ok (.if_icmp .ne 22, 3) := by decide +kernel
theorem dX0_cheapestLender_92 : decode cX0_cheapestLender 92 = .ok (.aload_n 0, 1) := by decide +kernel
theorem dX0_cheapestLender_93 : decode cX0_cheapestLender 93 = .ok (.getfield 15, 3) := by decide +kernel
theorem dX0_cheapestLender_96 : decode cX0_cheapestLender 96 = .ok (.iload 5, 2) := by decide +kernel
theorem dX0_cheapestLender_98 : decode cX0_cheapestLender 98 = .ok (.iaload, 1) := by decide +kernel
theorem dX0_cheapestLender_99 : decode cX0_cheapestLender 99 = .ok (.aload_n 0, 1) := by decide +kernel
theorem dX0_cheapestLender_100 : decode cX0_cheapestLender 100 = .ok (.iload_n 3, 1) := by decide +kernel
theorem dX0_cheapestLender_101 : decode cX0_cheapestLender 101 = .ok (.invokevirtual 93, 3) := by decide +kernel
theorem dX0_cheapestLender_104 : decode cX0_cheapestLender 104 = .ok (.if_icmp .le 7, 3) := by decide +kernel
theorem dX0_cheapestLender_107 : decode cX0_cheapestLender 107 = .ok (.iconst 1, 1) := by decide +kernel
theorem dX0_cheapestLender_108 : decode cX0_cheapestLender 108 = .ok (.goto 4, 3) := by decide +kernel
theorem dX0_cheapestLender_111 : decode cX0_cheapestLender 111 = .ok (.iconst 0, 1) := by decide +kernel
theorem dX0_cheapestLender_112 : decode cX0_cheapestLender 112 = .ok (.istore 7, 2) := by decide +kernel
theorem dX0_cheapestLender_114 : decode cX0_cheapestLender 114 = .ok (.iload_n 3, 1) := by decide +kernel
theorem dX0_cheapestLender_115 : decode cX0_cheapestLender 115 = .ok (.bipush (-9), 2) := by decide +kernel
theorem dX0_cheapestLender_117 : decode cX0_cheapestLender 117 = .ok (.if_icmp .eq 8, 3) := by decide +kernel
theorem dX0_cheapestLender_120 : decode cX0_cheapestLender 120 = .ok (.iload 7, 2) := by decide +kernel
theorem dX0_cheapestLender_122 : decode cX0_cheapestLender 122 = .ok (.ifCond .eq 10, 3) := by decide +kernel
theorem dX0_cheapestLender_125 : decode cX0_cheapestLender 125 = .ok (.iload 5, 2) := by decide +kernel
theorem dX0_cheapestLender_127 : decode cX0_cheapestLender 127 = .ok (.istore_n 3, 1) := by decide +kernel
theorem dX0_cheapestLender_128 : decode cX0_cheapestLender 128 = .ok (.iload 6, 2) := by decide +kernel
theorem dX0_cheapestLender_130 : decode cX0_cheapestLender 130 = .ok (.istore 4, 2) := by decide +kernel
theorem dX0_cheapestLender_132 : decode cX0_cheapestLender 132 = .ok (.iinc 5 1, 3) := by decide +kernel
theorem dX0_cheapestLender_135 : decode cX0_cheapestLender 135 = .ok (.goto (-106), 3) := by decide +kernel
theorem dX0_cheapestLender_138 : decode cX0_cheapestLender 138 = .ok (.iload_n 3, 1) := by decide +kernel
theorem dX0_cheapestLender_139 : decode cX0_cheapestLender 139 = .ok (.ireturn, 1) := by decide +kernel
theorem dX0_fillEach_0 : decode cX0_fillEach 0 = .ok (.iconst 0, 1) := by decide +kernel
theorem dX0_fillEach_1 : decode cX0_fillEach 1 = .ok (.istore_n 2, 1) := by decide +kernel
theorem dX0_fillEach_2 : decode cX0_fillEach 2 = .ok (.iconst 0, 1) := by decide +kernel
theorem dX0_fillEach_3 : decode cX0_fillEach 3 = .ok (.istore_n 3, 1) := by decide +kernel
theorem dX0_fillEach_4 : decode cX0_fillEach 4 = .ok (.iload_n 3, 1) := by decide +kernel
theorem dX0_fillEach_5 : decode cX0_fillEach 5 = .ok (.aload_n 0, 1) := by decide +kernel
theorem dX0_fillEach_6 : decode cX0_fillEach 6 = .ok (.getfield 43, 3) := by decide +kernel
theorem dX0_fillEach_9 : decode cX0_fillEach 9 = .ok (.if_icmp .ge 56, 3) := by decide +kernel
theorem dX0_fillEach_12 : decode cX0_fillEach 12 = .ok (.aload_n 0, 1) := by decide +kernel
theorem dX0_fillEach_13 : decode cX0_fillEach 13 = .ok (.iload_n 3, 1) := by decide +kernel
theorem dX0_fillEach_14 : decode cX0_fillEach 14 = .ok (.invokevirtual 77, 3) := by decide +kernel
theorem dX0_fillEach_17 : decode cX0_fillEach 17 = .ok (.ifCond .ne 42, 3) := by decide +kernel
theorem dX0_fillEach_20 : decode cX0_fillEach 20 = .ok (.iload_n 1, 1) := by decide +kernel
theorem dX0_fillEach_21 : decode cX0_fillEach 21 = .ok (.aload_n 0, 1) := by decide +kernel
theorem dX0_fillEach_22 : decode cX0_fillEach 22 = .ok (.iload_n 3, 1) := by decide +kernel
theorem dX0_fillEach_23 : decode cX0_fillEach 23 = .ok (.invokevirtual 100, 3) := by decide +kernel
theorem dX0_fillEach_26 : decode cX0_fillEach 26 = .ok (.invokestatic 121, 3) := by decide +kernel
theorem dX0_fillEach_29 : decode cX0_fillEach 29 = .ok (.istore 4, 2) := by decide +kernel
theorem dX0_fillEach_31 : decode cX0_fillEach 31 = .ok (.aload_n 0, 1) := by decide +kernel
theorem dX0_fillEach_32 : decode cX0_fillEach 32 = .ok (.getfield 15, 3) := by decide +kernel
theorem dX0_fillEach_35 : decode cX0_fillEach 35 = .ok (.iload_n 3, 1) := by decide +kernel
theorem dX0_fillEach_36 : decode cX0_fillEach 36 = .ok (.dup2, 1) := by decide +kernel
theorem dX0_fillEach_37 : decode cX0_fillEach 37 = .ok (.iaload, 1) := by decide +kernel
theorem dX0_fillEach_38 : decode cX0_fillEach 38 = .ok (.iload 4, 2) := by decide +kernel
theorem dX0_fillEach_40 : decode cX0_fillEach 40 = .ok (.iadd, 1) := by decide +kernel
theorem dX0_fillEach_41 : decode cX0_fillEach 41 = .ok (.iastore, 1) := by decide +kernel
theorem dX0_fillEach_42 : decode cX0_fillEach 42 = .ok (.aload_n 0, 1) := by decide +kernel
theorem dX0_fillEach_43 : decode cX0_fillEach 43 = .ok (.dup, 1) := by decide +kernel
theorem dX0_fillEach_44 : decode cX0_fillEach 44 = .ok (.getfield 52, 3) := by decide +kernel
theorem dX0_fillEach_47 : decode cX0_fillEach 47 = .ok (.iload_n 1, 1) := by decide +kernel
theorem dX0_fillEach_48 : decode cX0_fillEach 48 = .ok (.iadd, 1) := by decide +kernel
theorem dX0_fillEach_49 : decode cX0_fillEach 49 = .ok (.putfield 52, 3) := by decide +kernel
theorem dX0_fillEach_52 : decode cX0_fillEach 52 = .ok (.iload_n 2, 1) := by decide +kernel
theorem dX0_fillEach_53 : decode cX0_fillEach 53 = .ok (.iload_n 1, 1) := by decide +kernel
theorem dX0_fillEach_54 : decode cX0_fillEach 54 = .ok (.iload 4, 2) := by decide +kernel
theorem dX0_fillEach_56 : decode cX0_fillEach 56 = .ok (.isub, 1) := by decide +kernel
theorem dX0_fillEach_57 : decode cX0_fillEach 57 = .ok (.iadd, 1) := by decide +kernel
theorem dX0_fillEach_58 : decode cX0_fillEach 58 = .ok (.istore_n 2, 1) := by decide +kernel
theorem dX0_fillEach_59 : decode cX0_fillEach 59 = .ok (.iinc 3 1, 3) := by decide +kernel
theorem dX0_fillEach_62 : decode cX0_fillEach 62 = .ok (.goto (-58), 3) := by decide +kernel
theorem dX0_fillEach_65 : decode cX0_fillEach 65 = .ok (.aload_n 0, 1) := by decide +kernel
theorem dX0_fillEach_66 : decode cX0_fillEach 66 = .ok (.dup, 1) := by decide +kernel
theorem dX0_fillEach_67 : decode cX0_fillEach 67 = .ok (.getfield 58, 3) := by decide +kernel
theorem dX0_fillEach_70 : decode cX0_fillEach 70 = .ok (.iload_n 2, 1) := by decide +kernel
theorem dX0_fillEach_71 : decode cX0_fillEach 71 = .ok (.iadd, 1) := by decide +kernel
theorem dX0_fillEach_72 : decode cX0_fillEach 72 = .ok (.putfield 58, 3) := by decide +kernel
theorem dX0_fillEach_75 : decode cX0_fillEach 75 = .ok (.iload_n 2, 1) := by decide +kernel
theorem dX0_fillEach_76 : decode cX0_fillEach 76 = .ok (.ireturn, 1) := by decide +kernel
theorem dX0_giveEach_0 : decode cX0_giveEach 0 = .ok (.iconst 0, 1) := by decide +kernel
theorem dX0_giveEach_1 : decode cX0_giveEach 1 = .ok (.istore_n 2, 1) := by decide +kernel
theorem dX0_giveEach_2 : decode cX0_giveEach 2 = .ok (.iload_n 2, 1) := by decide +kernel
theorem dX0_giveEach_3 : decode cX0_giveEach 3 = .ok (.aload_n 0, 1) := by decide +kernel
theorem dX0_giveEach_4 : decode cX0_giveEach 4 = .ok (.getfield 43, 3) := by decide +kernel
theorem dX0_giveEach_7 : decode cX0_giveEach 7 = .ok (.if_icmp .ge 38, 3) := by decide +kernel
theorem dX0_giveEach_10 : decode cX0_giveEach 10 = .ok (.aload_n 0, 1) := by decide +kernel
theorem dX0_giveEach_11 : decode cX0_giveEach 11 = .ok (.iload_n 2, 1) := by decide +kernel
theorem dX0_giveEach_12 : decode cX0_giveEach 12 = .ok (.invokevirtual 77, 3) := by decide +kernel
theorem dX0_giveEach_15 : decode cX0_giveEach 15 = .ok (.ifCond .ne 24, 3) := by decide +kernel
theorem dX0_giveEach_18 : decode cX0_giveEach 18 = .ok (.aload_n 0, 1) := by decide +kernel
theorem dX0_giveEach_19 : decode cX0_giveEach 19 = .ok (.getfield 15, 3) := by decide +kernel
theorem dX0_giveEach_22 : decode cX0_giveEach 22 = .ok (.iload_n 2, 1) := by decide +kernel
theorem dX0_giveEach_23 : decode cX0_giveEach 23 = .ok (.iaload, 1) := by decide +kernel
theorem dX0_giveEach_24 : decode cX0_giveEach 24 = .ok (.iload_n 1, 1) := by decide +kernel
theorem dX0_giveEach_25 : decode cX0_giveEach 25 = .ok (.if_icmp .ge 14, 3) := by decide +kernel
theorem dX0_giveEach_28 : decode cX0_giveEach 28 = .ok (.aload_n 0, 1) := by decide +kernel
theorem dX0_giveEach_29 : decode cX0_giveEach 29 = .ok (.iload_n 2, 1) := by decide +kernel
theorem dX0_giveEach_30 : decode cX0_giveEach 30 = .ok (.iload_n 1, 1) := by decide +kernel
theorem dX0_giveEach_31 : decode cX0_giveEach 31 = .ok (.invokevirtual 127, 3) := by decide +kernel
theorem dX0_giveEach_34 : decode cX0_giveEach 34 = .ok (.ifCond .ne 5, 3) := by decide +kernel
theorem dX0_giveEach_37 : decode cX0_giveEach 37 = .ok (.iconst 0, 1) := by decide +kernel
theorem dX0_giveEach_38 : decode cX0_giveEach 38 = .ok (.ireturn, 1) := by decide +kernel
theorem dX0_giveEach_39 : decode cX0_giveEach 39 = .ok (.iinc 2 1, 3) := by decide +kernel
theorem dX0_giveEach_42 : decode cX0_giveEach 42 = .ok (.goto (-40), 3) := by decide +kernel
theorem dX0_giveEach_45 : decode cX0_giveEach 45 = .ok (.iconst 0, 1) := by decide +kernel
theorem dX0_giveEach_46 : decode cX0_giveEach 46 = .ok (.istore_n 2, 1) := by decide +kernel
theorem dX0_giveEach_47 : decode cX0_giveEach 47 = .ok (.iconst 0, 1) := by decide +kernel
theorem dX0_giveEach_48 : decode cX0_giveEach 48 = .ok (.istore_n 3, 1) := by decide +kernel
theorem dX0_giveEach_49 : decode cX0_giveEach 49 = .ok (.iload_n 3, 1) := by decide +kernel
theorem dX0_giveEach_50 : decode cX0_giveEach 50 = .ok (.aload_n 0, 1) := by decide +kernel
theorem dX0_giveEach_51 : decode cX0_giveEach 51 = .ok (.getfield 43, 3) := by decide +kernel
theorem dX0_giveEach_54 : decode cX0_giveEach 54 = .ok (.if_icmp .ge 31, 3) := by decide +kernel
theorem dX0_giveEach_57 : decode cX0_giveEach 57 = .ok (.aload_n 0, 1) := by decide +kernel
theorem dX0_giveEach_58 : decode cX0_giveEach 58 = .ok (.iload_n 3, 1) := by decide +kernel
theorem dX0_giveEach_59 : decode cX0_giveEach 59 = .ok (.invokevirtual 77, 3) := by decide +kernel
theorem dX0_giveEach_62 : decode cX0_giveEach 62 = .ok (.ifCond .ne 17, 3) := by decide +kernel
theorem dX0_giveEach_65 : decode cX0_giveEach 65 = .ok (.aload_n 0, 1) := by decide +kernel
theorem dX0_giveEach_66 : decode cX0_giveEach 66 = .ok (.getfield 15, 3) := by decide +kernel
theorem dX0_giveEach_69 : decode cX0_giveEach 69 = .ok (.iload_n 3, 1) := by decide +kernel
theorem dX0_giveEach_70 : decode cX0_giveEach 70 = .ok (.dup2, 1) := by decide +kernel
theorem dX0_giveEach_71 : decode cX0_giveEach 71 = .ok (.iaload, 1) := by decide +kernel
theorem dX0_giveEach_72 : decode cX0_giveEach 72 = .ok (.iload_n 1, 1) := by decide +kernel
theorem dX0_giveEach_73 : decode cX0_giveEach 73 = .ok (.isub, 1) := by decide +kernel
theorem dX0_giveEach_74 : decode cX0_giveEach 74 = .ok (.iastore, 1) := by decide +kernel
theorem dX0_giveEach_75 : decode cX0_giveEach 75 = .ok (.iload_n 2, 1) := by decide +kernel
theorem dX0_giveEach_76 : decode cX0_giveEach 76 = .ok (.iload_n 1, 1) := by decide +kernel
theorem dX0_giveEach_77 : decode cX0_giveEach 77 = .ok (.iadd, 1) := by decide +kernel
theorem dX0_giveEach_78 : decode cX0_giveEach 78 = .ok (.istore_n 2, 1) := by decide +kernel
theorem dX0_giveEach_79 : decode cX0_giveEach 79 = .ok (.iinc 3 1, 3) := by decide +kernel
theorem dX0_giveEach_82 : decode cX0_giveEach 82 = .ok (.goto (-33), 3) := by decide +kernel
theorem dX0_giveEach_85 : decode cX0_giveEach 85 = .ok (.aload_n 0, 1) := by decide +kernel
theorem dX0_giveEach_86 : decode cX0_giveEach 86 = .ok (.dup, 1) := by decide +kernel
theorem dX0_giveEach_87 : decode cX0_giveEach 87 = .ok (.getfield 55, 3) := by decide +kernel
theorem dX0_giveEach_90 : decode cX0_giveEach 90 = .ok (.iload_n 2, 1) := by decide +kernel
theorem dX0_giveEach_91 : decode cX0_giveEach 91 = .ok (.iadd, 1) := by decide +kernel
theorem dX0_giveEach_92 : decode cX0_giveEach 92 = .ok (.putfield 55, 3) := by decide +kernel
theorem dX0_giveEach_95 : decode cX0_giveEach 95 = .ok (.iload_n 2, 1) := by decide +kernel
theorem dX0_giveEach_96 : decode cX0_giveEach 96 = .ok (.ireturn, 1) := by decide +kernel
theorem dX0_borrowUpTo_0 : decode cX0_borrowUpTo 0 = .ok (.aload_n 0, 1) := by decide +kernel
theorem dX0_borrowUpTo_1 : decode cX0_borrowUpTo 1 = .ok (.iload_n 1, 1) := by decide +kernel
theorem dX0_borrowUpTo_2 : decode cX0_borrowUpTo 2 = .ok (.invokevirtual 130, 3) := by decide +kernel
theorem dX0_borrowUpTo_5 : decode cX0_borrowUpTo 5 = .ok (.istore_n 3, 1) := by decide +kernel
theorem dX0_borrowUpTo_6 : decode cX0_borrowUpTo 6 = .ok (.iload_n 3, 1) := by decide +kernel
theorem dX0_borrowUpTo_7 : decode cX0_borrowUpTo 7 = .ok (.bipush (-9), 2) := by decide +kernel
theorem dX0_borrowUpTo_9 : decode cX0_borrowUpTo 9 = .ok (.if_icmp .ne 5, 3) := by decide +kernel
theorem dX0_borrowUpTo_12 : decode cX0_borrowUpTo 12 = .ok (.iconst 0, 1) := by decide +kernel
theorem dX0_borrowUpTo_13 : decode cX0_borrowUpTo 13 = .ok (.ireturn, 1) := by decide +kernel
theorem dX0_borrowUpTo_14 : decode cX0_borrowUpTo 14 = .ok (.aload_n 0, 1) := by decide +kernel
theorem dX0_borrowUpTo_15 : decode cX0_borrowUpTo 15 = .ok (.iload_n 2, 1) := by decide +kernel
theorem dX0_borrowUpTo_16 : decode cX0_borrowUpTo 16 = .ok (.aload_n 0, 1) := by decide +kernel
theorem dX0_borrowUpTo_17 : decode cX0_borrowUpTo 17 = .ok (.iload_n 1, 1) := by decide +kernel
theorem dX0_borrowUpTo_18 : decode cX0_borrowUpTo 18 = .ok (.invokevirtual 93, 3) := by decide +kernel
theorem dX0_borrowUpTo_21 : decode cX0_borrowUpTo 21 = .ok (.isub, 1) := by decide +kernel
theorem dX0_borrowUpTo_22 : decode cX0_borrowUpTo 22 = .ok (.iload_n 3, 1) := by decide +kernel
theorem dX0_borrowUpTo_23 : decode cX0_borrowUpTo 23 = .ok (.iload_n 1, 1) := by decide +kernel
theorem dX0_borrowUpTo_24 : decode cX0_borrowUpTo 24 = .ok (.invokevirtual 118, 3) := by decide +kernel
theorem dX0_borrowUpTo_27 : decode cX0_borrowUpTo 27 = .ok (.istore 4, 2) := by decide +kernel
theorem dX0_borrowUpTo_29 : decode cX0_borrowUpTo 29 = .ok (.aload_n 0, 1) := by decide +kernel
theorem dX0_borrowUpTo_30 : decode cX0_borrowUpTo 30 = .ok (.iload_n 3, 1) := by decide +kernel
theorem dX0_borrowUpTo_31 : decode cX0_borrowUpTo 31 = .ok (.invokevirtual 93, 3) := by decide +kernel
theorem dX0_borrowUpTo_34 : decode cX0_borrowUpTo 34 = .ok (.iload 4, 2) := by decide +kernel
theorem dX0_borrowUpTo_36 : decode cX0_borrowUpTo 36 = .ok (.isub, 1) := by decide +kernel
theorem dX0_borrowUpTo_37 : decode cX0_borrowUpTo 37 = .ok (.iload_n 2, 1) := by decide +kernel
theorem dX0_borrowUpTo_38 : decode cX0_borrowUpTo 38 = .ok (.if_icmp .lt 22, 3) := by decide +kernel
theorem dX0_borrowUpTo_41 : decode cX0_borrowUpTo 41 = .ok (.aload_n 0, 1) := by decide +kernel
theorem dX0_borrowUpTo_42 : decode cX0_borrowUpTo 42 = .ok (.iload_n 3, 1) := by decide +kernel
theorem dX0_borrowUpTo_43 : decode cX0_borrowUpTo 43 = .ok (.iload_n 1, 1) := by decide +kernel
theorem dX0_borrowUpTo_44 : decode cX0_borrowUpTo 44 = .ok (.iload 4, 2) := by decide +kernel
theorem dX0_borrowUpTo_46 : decode cX0_borrowUpTo 46 = .ok (.bipush 10, 2) := by decide +kernel
theorem dX0_borrowUpTo_48 : decode cX0_borrowUpTo 48 = .ok (.invokevirtual 133, 3) := by decide +kernel
theorem dX0_borrowUpTo_51 : decode cX0_borrowUpTo 51 = .ok (.bipush (-9), 2) := by decide +kernel
theorem dX0_borrowUpTo_53 : decode cX0_borrowUpTo 53 = .ok (.if_icmp .eq 7, 3) := by decide +kernel
theorem dX0_borrowUpTo_56 : decode cX0_borrowUpTo 56 = .ok (.iconst 1, 1) := by decide +kernel
theorem dX0_borrowUpTo_57 : decode cX0_borrowUpTo 57 = .ok (.goto 4, 3) := by decide +kernel
theorem dX0_borrowUpTo_60 : decode cX0_borrowUpTo 60 = .ok (.iconst 0, 1) := by decide +kernel
theorem dX0_borrowUpTo_61 : decode cX0_borrowUpTo 61 = .ok (.ireturn, 1) := by decide +kernel
theorem dX0_fullestOther_0 : decode cX0_fullestOther 0 = .ok (.bipush (-9), 2) := by decide +kernel
theorem dX0_fullestOther_2 : decode cX0_fullestOther 2 = .ok (.istore_n 2, 1) := by decide +kernel
theorem dX0_fullestOther_3 : decode cX0_fullestOther 3 = .ok (.iconst 0, 1) := by decide +kernel
theorem dX0_fullestOther_4 : decode cX0_fullestOther 4 = .ok (.istore_n 3, 1) := by decide +kernel
theorem dX0_fullestOther_5 : decode cX0_fullestOther 5 = .ok (.iload_n 3, 1) := by decide +kernel
theorem dX0_fullestOther_6 : decode cX0_fullestOther 6 = .ok (.aload_n 0, 1) := by decide +kernel
theorem dX0_fullestOther_7 : decode cX0_fullestOther 7 = .ok (.getfield 43, 3) := by decide +kernel
theorem dX0_fullestOther_10 : decode cX0_fullestOther 10 = .ok (.if_icmp .ge 47, 3) := by decide +kernel
theorem dX0_fullestOther_13 : decode cX0_fullestOther 13 = .ok (.iload_n 3, 1) := by decide +kernel
theorem dX0_fullestOther_14 : decode cX0_fullestOther 14 = .ok (.iload_n 1, 1) := by decide +kernel
theorem dX0_fullestOther_15 : decode cX0_fullestOther 15 = .ok (.if_icmp .eq 36, 3) := by decide +kernel
theorem dX0_fullestOther_18 : decode cX0_fullestOther 18 = .ok (.aload_n 0, 1) := by decide +kernel
theorem dX0_fullestOther_19 : decode cX0_fullestOther 19 = .ok (.iload_n 3, 1) := by decide +kernel
theorem dX0_fullestOther_20 : decode cX0_fullestOther 20 = .ok (.invokevirtual 77, 3) := by decide +kernel
theorem dX0_fullestOther_23 : decode cX0_fullestOther 23 = .ok (.ifCond .eq 6, 3) := by decide +kernel
theorem dX0_fullestOther_26 : decode cX0_fullestOther 26 = .ok (.goto 25, 3) := by decide +kernel
theorem dX0_fullestOther_29 : decode cX0_fullestOther 29 = .ok (.iload_n 2, 1) := by decide +kernel
theorem dX0_fullestOther_30 : decode cX0_fullestOther 30 = .ok (.bipush (-9), 2) := by decide +kernel
theorem dX0_fullestOther_32 : decode cX0_fullestOther 32 = .ok (.if_icmp .eq 17, 3) := by decide +kernel
theorem dX0_fullestOther_35 : decode cX0_fullestOther 35 = .ok (.aload_n 0, 1) := by decide +kernel
theorem dX0_fullestOther_36 : decode cX0_fullestOther 36 = .ok (.getfield 15, 3) := by decide +kernel
theorem dX0_fullestOther_39 : decode cX0_fullestOther 39 = .ok (.iload_n 3, 1) := by decide +kernel
theorem dX0_fullestOther_40 : decode cX0_fullestOther 40 = .ok (.iaload, 1) := by decide +kernel
theorem dX0_fullestOther_41 : decode cX0_fullestOther 41 = .ok (.aload_n 0, 1) := by decide +kernel
theorem dX0_fullestOther_42 : decode cX0_fullestOther 42 = .ok (.iload_n 2, 1) := by decide +kernel
theorem dX0_fullestOther_43 : decode cX0_fullestOther 43 = .ok (.invokevirtual 93, 3) := by decide +kernel
theorem dX0_fullestOther_46 : decode cX0_fullestOther 46 = .ok (.if_icmp .le 5, 3) := by decide +kernel
theorem dX0_fullestOther_49 : decode cX0_fullestOther 49 = .ok (.iload_n 3, 1) := by decide +kernel
theorem dX0_fullestOther_50 : decode cX0_fullestOther 50 = .ok (.istore_n 2, 1) := by decide +kernel
theorem dX0_fullestOther_51 : decode cX0_fullestOther 51 = .ok (.iinc 3 1, 3) := by decide +kernel
theorem dX0_fullestOther_54 : decode cX0_fullestOther 54 = .ok (.goto (-49), 3) := by decide +kernel
theorem dX0_fullestOther_57 : decode cX0_fullestOther 57 = .ok (.iload_n 2, 1) := by decide +kernel
theorem dX0_fullestOther_58 : decode cX0_fullestOther 58 = .ok (.ireturn, 1) := by decide +kernel
theorem dX0_letRoundsGoBy_0 : decode cX0_letRoundsGoBy 0 = .ok (.iconst 0, 1) := by decide +kernel
theorem dX0_letRoundsGoBy_1 : decode cX0_letRoundsGoBy 1 = .ok (.istore_n 2, 1) := by decide +kernel
theorem dX0_letRoundsGoBy_2 : decode cX0_letRoundsGoBy 2 = .ok (.iconst 0, 1) := by decide +kernel
theorem dX0_letRoundsGoBy_3 : decode cX0_letRoundsGoBy 3 = .ok (.istore_n 3, 1) := by decide +kernel
theorem dX0_letRoundsGoBy_4 : decode cX0_letRoundsGoBy 4 = .ok (.iload_n 3, 1) := by decide +kernel
theorem dX0_letRoundsGoBy_5 : decode cX0_letRoundsGoBy 5 = .ok (.iload_n 1, 1) := by decide +kernel
theorem dX0_letRoundsGoBy_6 : decode cX0_letRoundsGoBy 6 = .ok (.if_icmp .ge 16, 3) := by decide +kernel
theorem dX0_letRoundsGoBy_9 : decode cX0_letRoundsGoBy 9 = .ok (.iload_n 2, 1) := by decide +kernel
theorem dX0_letRoundsGoBy_10 : decode cX0_letRoundsGoBy 10 = .ok (.aload_n 0, 1) := by decide +kernel
theorem dX0_letRoundsGoBy_11 : decode cX0_letRoundsGoBy 11 = .ok (.invokevirtual 137, 3) := by decide +kernel
theorem dX0_letRoundsGoBy_14 : decode cX0_letRoundsGoBy 14 = .ok (.ior, 1) := by decide +kernel
theorem dX0_letRoundsGoBy_15 : decode cX0_letRoundsGoBy 15 = .ok (.istore_n 2, 1) := by decide +kernel
theorem dX0_letRoundsGoBy_16 : decode cX0_letRoundsGoBy 16 = .ok (.iinc 3 1, 3) := by decide +kernel
theorem dX0_letRoundsGoBy_19 : decode cX0_letRoundsGoBy 19 = .ok (.goto (-15), 3) := by decide +kernel
theorem dX0_letRoundsGoBy_22 : decode cX0_letRoundsGoBy 22 = .ok (.iload_n 2, 1) := by decide +kernel
theorem dX0_letRoundsGoBy_23 : decode cX0_letRoundsGoBy 23 = .ok (.ireturn, 1) := by decide +kernel
theorem dX0_letRoundGoBy_0 : decode cX0_letRoundGoBy 0 = .ok (.aload_n 0, 1) := by decide +kernel
theorem dX0_letRoundGoBy_1 : decode cX0_letRoundGoBy 1 = .ok (.invokevirtual 141, 3) := by decide +kernel
theorem dX0_letRoundGoBy_4 : decode cX0_letRoundGoBy 4 = .ok (.aload_n 0, 1) := by decide +kernel
theorem dX0_letRoundGoBy_5 : decode cX0_letRoundGoBy 5 = .ok (.invokevirtual 144, 3) := by decide +kernel
theorem dX0_letRoundGoBy_8 : decode cX0_letRoundGoBy 8 = .ok (.istore_n 1, 1) := by decide +kernel
theorem dX0_letRoundGoBy_9 : decode cX0_letRoundGoBy 9 = .ok (.aload_n 0, 1) := by decide +kernel
theorem dX0_letRoundGoBy_10 : decode cX0_letRoundGoBy 10 = .ok (.iload_n 1, 1) := by decide +kernel
theorem dX0_letRoundGoBy_11 : decode cX0_letRoundGoBy 11 = .ok (.invokevirtual 147, 3) := by decide +kernel
theorem dX0_letRoundGoBy_14 : decode cX0_letRoundGoBy 14 = .ok (.istore_n 2, 1) := by decide +kernel
theorem dX0_letRoundGoBy_15 : decode cX0_letRoundGoBy 15 = .ok (.aload_n 0, 1) := by decide +kernel
theorem dX0_letRoundGoBy_16 : decode cX0_letRoundGoBy 16 = .ok (.dup, 1) := by decide +kernel
theorem dX0_letRoundGoBy_17 : decode cX0_letRoundGoBy 17 = .ok (.getfield 49, 3) := by decide +kernel
theorem dX0_letRoundGoBy_20 : decode cX0_letRoundGoBy 20 = .ok (.iconst 1, 1) := by decide +kernel
theorem dX0_letRoundGoBy_21 : decode cX0_letRoundGoBy 21 = .ok (.iadd, 1) := by decide +kernel
theorem dX0_letRoundGoBy_22 : decode cX0_letRoundGoBy 22 = .ok (.putfield 49, 3) := by decide +kernel
theorem dX0_letRoundGoBy_25 : decode cX0_letRoundGoBy 25 = .ok (.iload_n 2, 1) := by decide +kernel
theorem dX0_letRoundGoBy_26 : decode cX0_letRoundGoBy 26 = .ok (.ireturn, 1) := by decide +kernel
theorem dX0_leakAll_0 : decode cX0_leakAll 0 = .ok (.iconst 0, 1) := by decide +kernel
theorem dX0_leakAll_1 : decode cX0_leakAll 1 = .ok (.istore_n 1, 1) := by decide +kernel
theorem dX0_leakAll_2 : decode cX0_leakAll 2 = .ok (.iload_n 1, 1) := by decide +kernel
theorem dX0_leakAll_3 : decode cX0_leakAll 3 = .ok (.aload_n 0, 1) := by decide +kernel
theorem dX0_leakAll_4 : decode cX0_leakAll 4 = .ok (.getfield 43, 3) := by decide +kernel
theorem dX0_leakAll_7 : decode cX0_leakAll 7 = .ok (.if_icmp .ge 29, 3) := by decide +kernel
theorem dX0_leakAll_10 : decode cX0_leakAll 10 = .ok (.aload_n 0, 1) := by decide +kernel
theorem dX0_leakAll_11 : decode cX0_leakAll 11 = .ok (.iload_n 1, 1) := by decide +kernel
theorem dX0_leakAll_12 : decode cX0_leakAll 12 = .ok (.aload_n 0, 1) := by decide +kernel
theorem dX0_leakAll_13 : decode cX0_leakAll 13 = .ok (.getfield 18, 3) := by decide +kernel
theorem dX0_leakAll_16 : decode cX0_leakAll 16 = .ok (.iload_n 1, 1) := by decide +kernel
theorem dX0_leakAll_17 : decode cX0_leakAll 17 = .ok (.iaload, 1) := by decide +kernel
theorem dX0_leakAll_18 : decode cX0_leakAll 18 = .ok (.aload_n 0, 1) := by decide +kernel
theorem dX0_leakAll_19 : decode cX0_leakAll 19 = .ok (.getfield 15, 3) := by decide +kernel
theorem dX0_leakAll_22 : decode cX0_leakAll 22 = .ok (.iload_n 1, 1) := by decide +kernel
theorem dX0_leakAll_23 : decode cX0_leakAll 23 = .ok (.iaload, 1) := by decide +kernel
theorem dX0_leakAll_24 : decode cX0_leakAll 24 = .ok (.invokestatic 121, 3) := by decide +kernel
theorem dX0_leakAll_27 : decode cX0_leakAll 27 = .ok (.invokevirtual 150, 3) := by decide +kernel
theorem dX0_leakAll_30 : decode cX0_leakAll 30 = .ok (.iinc 1 1, 3) := by decide +kernel
theorem dX0_leakAll_33 : decode cX0_leakAll 33 = .ok (.goto (-31), 3) := by decide +kernel
theorem dX0_leakAll_36 : decode cX0_leakAll 36 = .ok (.return_, 1) := by decide +kernel
theorem dX0_loseAsHeat_0 : decode cX0_loseAsHeat 0 = .ok (.aload_n 0, 1) := by decide +kernel
theorem dX0_loseAsHeat_1 : decode cX0_loseAsHeat 1 = .ok (.iload_n 1, 1) := by decide +kernel
theorem dX0_loseAsHeat_2 : decode cX0_loseAsHeat 2 = .ok (.invokevirtual 73, 3) := by decide +kernel
theorem dX0_loseAsHeat_5 : decode cX0_loseAsHeat 5 = .ok (.ifCond .eq 23, 3) := by decide +kernel
theorem dX0_loseAsHeat_8 : decode cX0_loseAsHeat 8 = .ok (.aload_n 0, 1) := by decide +kernel
theorem dX0_loseAsHeat_9 : decode cX0_loseAsHeat 9 = .ok (.getfield 15, 3) := by decide +kernel
theorem dX0_loseAsHeat_12 : decode cX0_loseAsHeat 12 = .ok (.iload_n 1, 1) := by decide +kernel
theorem dX0_loseAsHeat_13 : decode cX0_loseAsHeat 13 = .ok (.dup2, 1) := by decide +kernel
theorem dX0_loseAsHeat_14 : decode cX0_loseAsHeat 14 = .ok (.iaload, 1) := by decide +kernel
theorem dX0_loseAsHeat_15 : decode cX0_loseAsHeat 15 = .ok (.iload_n 2, 1) := by decide +kernel
theorem dX0_loseAsHeat_16 : decode cX0_loseAsHeat 16 = .ok (.isub, 1) := by decide +kernel
theorem dX0_loseAsHeat_17 : decode cX0_loseAsHeat 17 = .ok (.iastore, 1) := by decide +kernel
theorem dX0_loseAsHeat_18 : decode cX0_loseAsHeat 18 = .ok (.aload_n 0, 1) := by decide +kernel
theorem dX0_loseAsHeat_19 : decode cX0_loseAsHeat 19 = .ok (.dup, 1) := by decide +kernel
theorem dX0_loseAsHeat_20 : decode cX0_loseAsHeat 20 = .ok (.getfield 58, 3) := by decide +kernel
theorem dX0_loseAsHeat_23 : decode cX0_loseAsHeat 23 = .ok (.iload_n 2, 1) := by decide +kernel
theorem dX0_loseAsHeat_24 : decode cX0_loseAsHeat 24 = .ok (.iadd, 1) := by decide +kernel
theorem dX0_loseAsHeat_25 : decode cX0_loseAsHeat 25 = .ok (.putfield 58, 3) := by decide +kernel
theorem dX0_loseAsHeat_28 : decode cX0_loseAsHeat 28 = .ok (.return_, 1) := by decide +kernel
theorem dX0_burnInterest_0 : decode cX0_burnInterest 0 = .ok (.iconst 0, 1) := by decide +kernel
theorem dX0_burnInterest_1 : decode cX0_burnInterest 1 = .ok (.istore_n 1, 1) := by decide +kernel
theorem dX0_burnInterest_2 : decode cX0_burnInterest 2 = .ok (.iconst 0, 1) := by decide +kernel
theorem dX0_burnInterest_3 : decode cX0_burnInterest 3 = .ok (.istore_n 2, 1) := by decide +kernel
theorem dX0_burnInterest_4 : decode cX0_burnInterest 4 = .ok (.iload_n 2, 1) := by decide +kernel
theorem dX0_burnInterest_5 : decode cX0_burnInterest 5 = .ok (.aload_n 0, 1) := by decide +kernel
theorem dX0_burnInterest_6 : decode cX0_burnInterest 6 = .ok (.getfield 46, 3) := by decide +kernel
theorem dX0_burnInterest_9 : decode cX0_burnInterest 9 = .ok (.if_icmp .ge 79, 3) := by decide +kernel
theorem dX0_burnInterest_12 : decode cX0_burnInterest 12 = .ok (.aload_n 0, 1) := by decide +kernel
theorem dX0_burnInterest_13 : decode cX0_burnInterest 13 = .ok (.iload_n 2, 1) := by decide +kernel
theorem dX0_burnInterest_14 : decode cX0_burnInterest 14 = .ok (.invokevirtual 83, 3) := by decide +kernel
theorem dX0_burnInterest_17 : decode cX0_burnInterest 17 = .ok (.istore_n 3, 1) := by decide +kernel
theorem dX0_burnInterest_18 : decode cX0_burnInterest 18 = .ok (.iload_n 3, 1) := by decide +kernel
theorem dX0_burnInterest_19 : decode cX0_burnInterest 19 = .ok (.aload_n 0, 1) := by decide +kernel
theorem dX0_burnInterest_20 : decode cX0_burnInterest 20 = .ok (.aload_n 0, 1) := by decide +kernel
theorem dX0_burnInterest_21 : decode cX0_burnInterest 21 = .ok (.getfield 27, 3) := by decide +kernel
theorem dX0_burnInterest_24 : decode cX0_burnInterest 24 = .ok (.iload_n 2, 1) := by decide +kernel
theorem dX0_burnInterest_25 : decode cX0_burnInterest 25 = .ok (.iaload, 1) := by decide +kernel
theorem dX0_burnInterest_26 : decode cX0_burnInterest 26 = .ok (.invokevirtual 93, 3) := by decide +kernel
theorem dX0_burnInterest_29 : decode cX0_burnInterest 29 = .ok (.invokestatic 121, 3) := by decide +kernel
theorem dX0_burnInterest_32 : decode cX0_burnInterest 32 = .ok (.istore 4, 2) := by decide +kernel
theorem dX0_burnInterest_34 : decode cX0_burnInterest 34 = .ok (.aload_n 0, 1) := by decide +kernel
theorem dX0_burnInterest_35 : decode cX0_burnInterest 35 = .ok (.aload_n 0, 1) := by decide +kernel
theorem dX0_burnInterest_36 : decode cX0_burnInterest 36 = .ok (.getfield 27, 3) := by decide +kernel
theorem dX0_burnInterest_39 : decode cX0_burnInterest 39 = .ok (.iload_n 2, 1) := by decide +kernel
theorem dX0_burnInterest_40 : decode cX0_burnInterest 40 = .ok (.iaload, 1) := by decide +kernel
theorem dX0_burnInterest_41 : decode cX0_burnInterest 41 = .ok (.iload 4, 2) := by decide +kernel
theorem dX0_burnInterest_43 : decode cX0_burnInterest 43 = .ok (.invokevirtual 150, 3) := by decide +kernel
theorem dX0_burnInterest_46 : decode cX0_burnInterest 46 = .ok (.iload 4, 2) := by decide +kernel
theorem dX0_burnInterest_48 : decode cX0_burnInterest 48 = .ok (.iload_n 3, 1) := by decide +kernel
theorem dX0_burnInterest_49 : decode cX0_burnInterest 49 = .ok (.if_icmp .ge 14, 3) := by decide +kernel
theorem dX0_burnInterest_52 : decode cX0_burnInterest 52 = .ok (.iload_n 1, 1) := by decide +kernel
theorem dX0_burnInterest_53 : decode cX0_burnInterest 53 = .ok (.iconst 1, 1) := by decide +kernel
theorem dX0_burnInterest_54 : decode cX0_burnInterest 54 = .ok (.aload_n 0, 1) := by decide +kernel
theorem dX0_burnInterest_55 : decode cX0_burnInterest 55 = .ok (.getfield 27, 3) := by decide +kernel
theorem dX0_burnInterest_58 : decode cX0_burnInterest 58 = .ok (.iload_n 2, 1) := by decide +kernel
theorem dX0_burnInterest_59 : decode cX0_burnInterest 59 = .ok (.iaload, 1) := by decide +kernel
theorem dX0_burnInterest_60 : decode cX0_burnInterest 60 = .ok (.ishl, 1) := by decide +kernel
theorem dX0_burnInterest_61 : decode cX0_burnInterest 61 = .ok (.ior, 1) := by decide +kernel
theorem dX0_burnInterest_62 : decode cX0_burnInterest 62 = .ok (.istore_n 1, 1) := by decide +kernel
theorem dX0_burnInterest_63 : decode cX0_burnInterest 63 = .ok (.iload_n 2, 1) := by decide +kernel
theorem dX0_burnInterest_64 : decode cX0_burnInterest 64 = .ok (.aload_n 0, 1) := by decide +kernel
end
section
theorem dX0_burnInterest_65 : decode cX0_burnInterest 65 = .ok (.getfield 39, 3) := by decide +kernel
theorem dX0_burnInterest_68 : decode cX0_burnInterest 68 = .ok (.if_icmp .ne 14, 3) := by decide +kernel
theorem dX0_burnInterest_71 : decode cX0_burnInterest 71 = .ok (.aload_n 0, 1) := by decide +kernel
theorem dX0_burnInterest_72 : decode cX0_burnInterest 72 = .ok (.dup, 1) := by decide +kernel
theorem dX0_burnInterest_73 : decode cX0_burnInterest 73 = .ok (.getfield 64, 3) := by decide +kernel
theorem dX0_burnInterest_76 : decode cX0_burnInterest 76 = .ok (.iload 4, 2) := by decide +kernel
theorem dX0_burnInterest_78 : decode cX0_burnInterest 78 = .ok (.iadd, 1) := by decide +kernel
theorem dX0_burnInterest_79 : decode cX0_burnInterest 79 = .ok (.putfield 64, 3) := by decide +kernel
theorem dX0_burnInterest_82 : decode cX0_burnInterest 82 = .ok (.iinc 2 1, 3) := by decide +kernel
theorem dX0_burnInterest_85 : decode cX0_burnInterest 85 = .ok (.goto (-81), 3) := by decide +kernel
theorem dX0_burnInterest_88 : decode cX0_burnInterest 88 = .ok (.iload_n 1, 1) := by decide +kernel
theorem dX0_burnInterest_89 : decode cX0_burnInterest 89 = .ok (.ireturn, 1) := by decide +kernel
theorem dX0_countLateRounds_0 : decode cX0_countLateRounds 0 = .ok (.iconst 0, 1) := by decide +kernel
theorem dX0_countLateRounds_1 : decode cX0_countLateRounds 1 = .ok (.istore_n 2, 1) := by decide +kernel
theorem dX0_countLateRounds_2 : decode cX0_countLateRounds 2 = .ok (.iconst 0, 1) := by decide +kernel
theorem dX0_countLateRounds_3 : decode cX0_countLateRounds 3 = .ok (.istore_n 3, 1) := by decide +kernel
theorem dX0_countLateRounds_4 : decode cX0_countLateRounds 4 = .ok (.iload_n 3, 1) := by decide +kernel
theorem dX0_countLateRounds_5 : decode cX0_countLateRounds 5 = .ok (.aload_n 0, 1) := by decide +kernel
theorem dX0_countLateRounds_6 : decode cX0_countLateRounds 6 = .ok (.getfield 43, 3) := by decide +kernel
theorem dX0_countLateRounds_9 : decode cX0_countLateRounds 9 = .ok (.if_icmp .ge 82, 3) := by decide +kernel
theorem dX0_countLateRounds_12 : decode cX0_countLateRounds 12 = .ok (.aload_n 0, 1) := by decide +kernel
theorem dX0_countLateRounds_13 : decode cX0_countLateRounds 13 = .ok (.iload_n 3, 1) := by decide +kernel
theorem dX0_countLateRounds_14 : decode cX0_countLateRounds 14 = .ok (.invokevirtual 77, 3) := by decide +kernel
theorem dX0_countLateRounds_17 : decode cX0_countLateRounds 17 = .ok (.ifCond .eq 6, 3) := by decide +kernel
theorem dX0_countLateRounds_20 : decode cX0_countLateRounds 20 = .ok (.goto 65, 3) := by decide +kernel
theorem dX0_countLateRounds_23 : decode cX0_countLateRounds 23 = .ok (.iload_n 1, 1) := by decide +kernel
theorem dX0_countLateRounds_24 : decode cX0_countLateRounds 24 = .ok (.iconst 1, 1) := by decide +kernel
theorem dX0_countLateRounds_25 : decode cX0_countLateRounds 25 = .ok (.iload_n 3, 1) := by decide +kernel
theorem dX0_countLateRounds_26 : decode cX0_countLateRounds 26 = .ok (.ishl, 1) := by decide +kernel
theorem dX0_countLateRounds_27 : decode cX0_countLateRounds 27 = .ok (.iand, 1) := by decide +kernel
theorem dX0_countLateRounds_28 : decode cX0_countLateRounds 28 = .ok (.ifCond .eq 7, 3) := by decide +kernel
theorem dX0_countLateRounds_31 : decode cX0_countLateRounds 31 = .ok (.iconst 1, 1) := by decide +kernel
theorem dX0_countLateRounds_32 : decode cX0_countLateRounds 32 = .ok (.goto 4, 3) := by decide +kernel
theorem dX0_countLateRounds_35 : decode cX0_countLateRounds 35 = .ok (.iconst 0, 1) := by decide +kernel
theorem dX0_countLateRounds_36 : decode cX0_countLateRounds 36 = .ok (.istore 4, 2) := by decide +kernel
theorem dX0_countLateRounds_38 : decode cX0_countLateRounds 38 = .ok (.aload_n 0, 1) := by decide +kernel
theorem dX0_countLateRounds_39 : decode cX0_countLateRounds 39 = .ok (.getfield 21, 3) := by decide +kernel
theorem dX0_countLateRounds_42 : decode cX0_countLateRounds 42 = .ok (.iload_n 3, 1) := by decide +kernel
theorem dX0_countLateRounds_43 : decode cX0_countLateRounds 43 = .ok (.iload 4, 2) := by decide +kernel
theorem dX0_countLateRounds_45 : decode cX0_countLateRounds 45 = .ok (.ifCond .eq 14, 3) := by decide +kernel
theorem dX0_countLateRounds_48 : decode cX0_countLateRounds 48 = .ok (.aload_n 0, 1) := by decide +kernel
theorem dX0_countLateRounds_49 : decode cX0_countLateRounds 49 = .ok (.getfield 21, 3) := by decide +kernel
theorem dX0_countLateRounds_52 : decode cX0_countLateRounds 52 = .ok (.iload_n 3, 1) := by decide +kernel
theorem dX0_countLateRounds_53 : decode cX0_countLateRounds 53 = .ok (.iaload, 1) := by decide +kernel
theorem dX0_countLateRounds_54 : decode cX0_countLateRounds 54 = .ok (.iconst 1, 1) := by decide +kernel
theorem dX0_countLateRounds_55 : decode cX0_countLateRounds 55 = .ok (.iadd, 1) := by decide +kernel
theorem dX0_countLateRounds_56 : decode cX0_countLateRounds 56 = .ok (.goto 4, 3) := by decide +kernel
theorem dX0_countLateRounds_59 : decode cX0_countLateRounds 59 = .ok (.iconst 0, 1) := by decide +kernel
theorem dX0_countLateRounds_60 : decode cX0_countLateRounds 60 = .ok (.iastore, 1) := by decide +kernel
theorem dX0_countLateRounds_61 : decode cX0_countLateRounds 61 = .ok (.aload_n 0, 1) := by decide +kernel
theorem dX0_countLateRounds_62 : decode cX0_countLateRounds 62 = .ok (.iload_n 3, 1) := by decide +kernel
theorem dX0_countLateRounds_63 : decode cX0_countLateRounds 63 = .ok (.invokevirtual 77, 3) := by decide +kernel
theorem dX0_countLateRounds_66 : decode cX0_countLateRounds 66 = .ok (.ifCond .eq 19, 3) := by decide +kernel
theorem dX0_countLateRounds_69 : decode cX0_countLateRounds 69 = .ok (.aload_n 0, 1) := by decide +kernel
theorem dX0_countLateRounds_70 : decode cX0_countLateRounds 70 = .ok (.iload_n 3, 1) := by decide +kernel
theorem dX0_countLateRounds_71 : decode cX0_countLateRounds 71 = .ok (.invokevirtual 154, 3) := by decide +kernel
theorem dX0_countLateRounds_74 : decode cX0_countLateRounds 74 = .ok (.aload_n 0, 1) := by decide +kernel
theorem dX0_countLateRounds_75 : decode cX0_countLateRounds 75 = .ok (.iload_n 3, 1) := by decide +kernel
theorem dX0_countLateRounds_76 : decode cX0_countLateRounds 76 = .ok (.invokevirtual 157, 3) := by decide +kernel
theorem dX0_countLateRounds_79 : decode cX0_countLateRounds 79 = .ok (.iload_n 2, 1) := by decide +kernel
theorem dX0_countLateRounds_80 : decode cX0_countLateRounds 80 = .ok (.iconst 1, 1) := by decide +kernel
theorem dX0_countLateRounds_81 : decode cX0_countLateRounds 81 = .ok (.iload_n 3, 1) := by decide +kernel
theorem dX0_countLateRounds_82 : decode cX0_countLateRounds 82 = .ok (.ishl, 1) := by decide +kernel
theorem dX0_countLateRounds_83 : decode cX0_countLateRounds 83 = .ok (.ior, 1) := by decide +kernel
theorem dX0_countLateRounds_84 : decode cX0_countLateRounds 84 = .ok (.istore_n 2, 1) := by decide +kernel
theorem dX0_countLateRounds_85 : decode cX0_countLateRounds 85 = .ok (.iinc 3 1, 3) := by decide +kernel
theorem dX0_countLateRounds_88 : decode cX0_countLateRounds 88 = .ok (.goto (-84), 3) := by decide +kernel
theorem dX0_countLateRounds_91 : decode cX0_countLateRounds 91 = .ok (.iload_n 2, 1) := by decide +kernel
theorem dX0_countLateRounds_92 : decode cX0_countLateRounds 92 = .ok (.ireturn, 1) := by decide +kernel
theorem dX0_shareOut_0 : decode cX0_shareOut 0 = .ok (.aload_n 0, 1) := by decide +kernel
theorem dX0_shareOut_1 : decode cX0_shareOut 1 = .ok (.iload_n 1, 1) := by decide +kernel
theorem dX0_shareOut_2 : decode cX0_shareOut 2 = .ok (.invokevirtual 73, 3) := by decide +kernel
theorem dX0_shareOut_5 : decode cX0_shareOut 5 = .ok (.ifCond .ne 4, 3) := by decide +kernel
theorem dX0_shareOut_8 : decode cX0_shareOut 8 = .ok (.return_, 1) := by decide +kernel
theorem dX0_shareOut_9 : decode cX0_shareOut 9 = .ok (.aload_n 0, 1) := by decide +kernel
theorem dX0_shareOut_10 : decode cX0_shareOut 10 = .ok (.iload_n 1, 1) := by decide +kernel
theorem dX0_shareOut_11 : decode cX0_shareOut 11 = .ok (.invokevirtual 93, 3) := by decide +kernel
theorem dX0_shareOut_14 : decode cX0_shareOut 14 = .ok (.istore_n 2, 1) := by decide +kernel
theorem dX0_shareOut_15 : decode cX0_shareOut 15 = .ok (.aload_n 0, 1) := by decide +kernel
theorem dX0_shareOut_16 : decode cX0_shareOut 16 = .ok (.iload_n 1, 1) := by decide +kernel
theorem dX0_shareOut_17 : decode cX0_shareOut 17 = .ok (.invokevirtual 87, 3) := by decide +kernel
theorem dX0_shareOut_20 : decode cX0_shareOut 20 = .ok (.istore_n 3, 1) := by decide +kernel
theorem dX0_shareOut_21 : decode cX0_shareOut 21 = .ok (.iconst 0, 1) := by decide +kernel
theorem dX0_shareOut_22 : decode cX0_shareOut 22 = .ok (.istore 4, 2) := by decide +kernel
theorem dX0_shareOut_24 : decode cX0_shareOut 24 = .ok (.iload 4, 2) := by decide +kernel
theorem dX0_shareOut_26 : decode cX0_shareOut 26 = .ok (.aload_n 0, 1) := by decide +kernel
theorem dX0_shareOut_27 : decode cX0_shareOut 27 = .ok (.getfield 46, 3) := by decide +kernel
theorem dX0_shareOut_30 : decode cX0_shareOut 30 = .ok (.if_icmp .ge 105, 3) := by decide +kernel
theorem dX0_shareOut_33 : decode cX0_shareOut 33 = .ok (.aload_n 0, 1) := by decide +kernel
theorem dX0_shareOut_34 : decode cX0_shareOut 34 = .ok (.getfield 24, 3) := by decide +kernel
theorem dX0_shareOut_37 : decode cX0_shareOut 37 = .ok (.iload 4, 2) := by decide +kernel
theorem dX0_shareOut_39 : decode cX0_shareOut 39 = .ok (.iaload, 1) := by decide +kernel
theorem dX0_shareOut_40 : decode cX0_shareOut 40 = .ok (.istore 5, 2) := by decide +kernel
theorem dX0_shareOut_42 : decode cX0_shareOut 42 = .ok (.aload_n 0, 1) := by decide +kernel
theorem dX0_shareOut_43 : decode cX0_shareOut 43 = .ok (.getfield 27, 3) := by decide +kernel
theorem dX0_shareOut_46 : decode cX0_shareOut 46 = .ok (.iload 4, 2) := by decide +kernel
theorem dX0_shareOut_48 : decode cX0_shareOut 48 = .ok (.iaload, 1) := by decide +kernel
theorem dX0_shareOut_49 : decode cX0_shareOut 49 = .ok (.iload_n 1, 1) := by decide +kernel
theorem dX0_shareOut_50 : decode cX0_shareOut 50 = .ok (.if_icmp .ne 79, 3) := by decide +kernel
theorem dX0_shareOut_53 : decode cX0_shareOut 53 = .ok (.aload_n 0, 1) := by decide +kernel
theorem dX0_shareOut_54 : decode cX0_shareOut 54 = .ok (.iload 5, 2) := by decide +kernel
theorem dX0_shareOut_56 : decode cX0_shareOut 56 = .ok (.invokevirtual 73, 3) := by decide +kernel
theorem dX0_shareOut_59 : decode cX0_shareOut 59 = .ok (.ifCond .eq 70, 3) := by decide +kernel
theorem dX0_shareOut_62 : decode cX0_shareOut 62 = .ok (.iload_n 3, 1) := by decide +kernel
theorem dX0_shareOut_63 : decode cX0_shareOut 63 = .ok (.ifCond .le 66, 3) := by decide +kernel
theorem dX0_shareOut_66 : decode cX0_shareOut 66 = .ok (.iload_n 2, 1) := by decide +kernel
theorem dX0_shareOut_67 : decode cX0_shareOut 67 = .ok (.aload_n 0, 1) := by decide +kernel
theorem dX0_shareOut_68 : decode cX0_shareOut 68 = .ok (.getfield 30, 3) := by decide +kernel
theorem dX0_shareOut_71 : decode cX0_shareOut 71 = .ok (.iload 4, 2) := by decide +kernel
theorem dX0_shareOut_73 : decode cX0_shareOut 73 = .ok (.iaload, 1) := by decide +kernel
theorem dX0_shareOut_74 : decode cX0_shareOut 74 = .ok (.imul, 1) := by decide +kernel
theorem dX0_shareOut_75 : decode cX0_shareOut 75 = .ok (.iload_n 3, 1) := by decide +kernel
theorem dX0_shareOut_76 : decode cX0_shareOut 76 = .ok (.idiv, 1) := by decide +kernel
theorem dX0_shareOut_77 : decode cX0_shareOut 77 = .ok (.istore 6, 2) := by decide +kernel
theorem dX0_shareOut_79 : decode cX0_shareOut 79 = .ok (.iload 6, 2) := by decide +kernel
theorem dX0_shareOut_81 : decode cX0_shareOut 81 = .ok (.aload_n 0, 1) := by decide +kernel
theorem dX0_shareOut_82 : decode cX0_shareOut 82 = .ok (.iload 5, 2) := by decide +kernel
theorem dX0_shareOut_84 : decode cX0_shareOut 84 = .ok (.invokevirtual 100, 3) := by decide +kernel
theorem dX0_shareOut_87 : decode cX0_shareOut 87 = .ok (.invokestatic 121, 3) := by decide +kernel
theorem dX0_shareOut_90 : decode cX0_shareOut 90 = .ok (.istore 7, 2) := by decide +kernel
theorem dX0_shareOut_92 : decode cX0_shareOut 92 = .ok (.aload_n 0, 1) := by decide +kernel
theorem dX0_shareOut_93 : decode cX0_shareOut 93 = .ok (.getfield 15, 3) := by decide +kernel
theorem dX0_shareOut_96 : decode cX0_shareOut 96 = .ok (.iload 5, 2) := by decide +kernel
theorem dX0_shareOut_98 : decode cX0_shareOut 98 = .ok (.dup2, 1) := by decide +kernel
theorem dX0_shareOut_99 : decode cX0_shareOut 99 = .ok (.iaload, 1) := by decide +kernel
theorem dX0_shareOut_100 : decode cX0_shareOut 100 = .ok (.iload 7, 2) := by decide +kernel
theorem dX0_shareOut_102 : decode cX0_shareOut 102 = .ok (.iadd, 1) := by decide +kernel
theorem dX0_shareOut_103 : decode cX0_shareOut 103 = .ok (.iastore, 1) := by decide +kernel
theorem dX0_shareOut_104 : decode cX0_shareOut 104 = .ok (.aload_n 0, 1) := by decide +kernel
theorem dX0_shareOut_105 : decode cX0_shareOut 105 = .ok (.dup, 1) := by decide +kernel
theorem dX0_shareOut_106 : decode cX0_shareOut 106 = .ok (.getfield 58, 3) := by decide +kernel
theorem dX0_shareOut_109 : decode cX0_shareOut 109 = .ok (.iload 6, 2) := by decide +kernel
theorem dX0_shareOut_111 : decode cX0_shareOut 111 = .ok (.iload 7, 2) := by decide +kernel
theorem dX0_shareOut_113 : decode cX0_shareOut 113 = .ok (.isub, 1) := by decide +kernel
theorem dX0_shareOut_114 : decode cX0_shareOut 114 = .ok (.iadd, 1) := by decide +kernel
theorem dX0_shareOut_115 : decode cX0_shareOut 115 = .ok (.putfield 58, 3) := by decide +kernel
theorem dX0_shareOut_118 : decode cX0_shareOut 118 = .ok (.aload_n 0, 1) := by decide +kernel
theorem dX0_shareOut_119 : decode cX0_shareOut 119 = .ok (.getfield 15, 3) := by decide +kernel
theorem dX0_shareOut_122 : decode cX0_shareOut 122 = .ok (.iload_n 1, 1) := by decide +kernel
theorem dX0_shareOut_123 : decode cX0_shareOut 123 = .ok (.dup2, 1) := by decide +kernel
theorem dX0_shareOut_124 : decode cX0_shareOut 124 = .ok (.iaload, 1) := by decide +kernel
theorem dX0_shareOut_125 : decode cX0_shareOut 125 = .ok (.iload 6, 2) := by decide +kernel
theorem dX0_shareOut_127 : decode cX0_shareOut 127 = .ok (.isub, 1) := by decide +kernel
theorem dX0_shareOut_128 : decode cX0_shareOut 128 = .ok (.iastore, 1) := by decide +kernel
theorem dX0_shareOut_129 : decode cX0_shareOut 129 = .ok (.iinc 4 1, 3) := by decide +kernel
theorem dX0_shareOut_132 : decode cX0_shareOut 132 = .ok (.goto (-108), 3) := by decide +kernel
theorem dX0_shareOut_135 : decode cX0_shareOut 135 = .ok (.aload_n 0, 1) := by decide +kernel
theorem dX0_shareOut_136 : decode cX0_shareOut 136 = .ok (.iload_n 1, 1) := by decide +kernel
theorem dX0_shareOut_137 : decode cX0_shareOut 137 = .ok (.aload_n 0, 1) := by decide +kernel
theorem dX0_shareOut_138 : decode cX0_shareOut 138 = .ok (.iload_n 1, 1) := by decide +kernel
theorem dX0_shareOut_139 : decode cX0_shareOut 139 = .ok (.invokevirtual 93, 3) := by decide +kernel
theorem dX0_shareOut_142 : decode cX0_shareOut 142 = .ok (.invokevirtual 150, 3) := by decide +kernel
theorem dX0_shareOut_145 : decode cX0_shareOut 145 = .ok (.return_, 1) := by decide +kernel
theorem dX0_dropLoansOf_0 : decode cX0_dropLoansOf 0 = .ok (.aload_n 0, 1) := by decide +kernel
theorem dX0_dropLoansOf_1 : decode cX0_dropLoansOf 1 = .ok (.getfield 46, 3) := by decide +kernel
theorem dX0_dropLoansOf_4 : decode cX0_dropLoansOf 4 = .ok (.iconst 1, 1) := by decide +kernel
theorem dX0_dropLoansOf_5 : decode cX0_dropLoansOf 5 = .ok (.isub, 1) := by decide +kernel
theorem dX0_dropLoansOf_6 : decode cX0_dropLoansOf 6 = .ok (.istore_n 2, 1) := by decide +kernel
theorem dX0_dropLoansOf_7 : decode cX0_dropLoansOf 7 = .ok (.iload_n 2, 1) := by decide +kernel
theorem dX0_dropLoansOf_8 : decode cX0_dropLoansOf 8 = .ok (.ifCond .lt 49, 3) := by decide +kernel
theorem dX0_dropLoansOf_11 : decode cX0_dropLoansOf 11 = .ok (.aload_n 0, 1) := by decide +kernel
theorem dX0_dropLoansOf_12 : decode cX0_dropLoansOf 12 = .ok (.getfield 24, 3) := by decide +kernel
theorem dX0_dropLoansOf_15 : decode cX0_dropLoansOf 15 = .ok (.iload_n 2, 1) := by decide +kernel
theorem dX0_dropLoansOf_16 : decode cX0_dropLoansOf 16 = .ok (.iaload, 1) := by decide +kernel
theorem dX0_dropLoansOf_17 : decode cX0_dropLoansOf 17 = .ok (.iload_n 1, 1) := by decide +kernel
theorem dX0_dropLoansOf_18 : decode cX0_dropLoansOf 18 = .ok (.if_icmp .eq 13, 3) := by decide +kernel
theorem dX0_dropLoansOf_21 : decode cX0_dropLoansOf 21 = .ok (.aload_n 0, 1) := by decide +kernel
theorem dX0_dropLoansOf_22 : decode cX0_dropLoansOf 22 = .ok (.getfield 27, 3) := by decide +kernel
theorem dX0_dropLoansOf_25 : decode cX0_dropLoansOf 25 = .ok (.iload_n 2, 1) := by decide +kernel
theorem dX0_dropLoansOf_26 : decode cX0_dropLoansOf 26 = .ok (.iaload, 1) := by decide +kernel
theorem dX0_dropLoansOf_27 : decode cX0_dropLoansOf 27 = .ok (.iload_n 1, 1) := by decide +kernel
theorem dX0_dropLoansOf_28 : decode cX0_dropLoansOf 28 = .ok (.if_icmp .ne 23, 3) := by decide +kernel
theorem dX0_dropLoansOf_31 : decode cX0_dropLoansOf 31 = .ok (.aload_n 0, 1) := by decide +kernel
theorem dX0_dropLoansOf_32 : decode cX0_dropLoansOf 32 = .ok (.dup, 1) := by decide +kernel
theorem dX0_dropLoansOf_33 : decode cX0_dropLoansOf 33 = .ok (.getfield 61, 3) := by decide +kernel
theorem dX0_dropLoansOf_36 : decode cX0_dropLoansOf 36 = .ok (.aload_n 0, 1) := by decide +kernel
theorem dX0_dropLoansOf_37 : decode cX0_dropLoansOf 37 = .ok (.getfield 30, 3) := by decide +kernel
theorem dX0_dropLoansOf_40 : decode cX0_dropLoansOf 40 = .ok (.iload_n 2, 1) := by decide +kernel
theorem dX0_dropLoansOf_41 : decode cX0_dropLoansOf 41 = .ok (.iaload, 1) := by decide +kernel
theorem dX0_dropLoansOf_42 : decode cX0_dropLoansOf 42 = .ok (.iadd, 1) := by decide +kernel
theorem dX0_dropLoansOf_43 : decode cX0_dropLoansOf 43 = .ok (.putfield 61, 3) := by decide +kernel
theorem dX0_dropLoansOf_46 : decode cX0_dropLoansOf 46 = .ok (.aload_n 0, 1) := by decide +kernel
theorem dX0_dropLoansOf_47 : decode cX0_dropLoansOf 47 = .ok (.iload_n 2, 1) := by decide +kernel
theorem dX0_dropLoansOf_48 : decode cX0_dropLoansOf 48 = .ok (.invokevirtual 114, 3) := by decide +kernel
theorem dX0_dropLoansOf_51 : decode cX0_dropLoansOf 51 = .ok (.iinc 2 (-1), 3) := by decide +kernel
theorem dX0_dropLoansOf_54 : decode cX0_dropLoansOf 54 = .ok (.goto (-47), 3) := by decide +kernel
theorem dX0_dropLoansOf_57 : decode cX0_dropLoansOf 57 = .ok (.return_, 1) := by decide +kernel
theorem dX1_init_0 : decode cX1_init 0 = .ok (.aload_n 0, 1) := by decide +kernel
theorem dX1_init_1 : decode cX1_init 1 = .ok (.invokespecial 3, 3) := by decide +kernel
theorem dX1_init_4 : decode cX1_init 4 = .ok (.aload_n 0, 1) := by decide +kernel
theorem dX1_init_5 : decode cX1_init 5 = .ok (.bipush 14, 2) := by decide +kernel
theorem dX1_init_7 : decode cX1_init 7 = .ok (.anewarray 9, 3) := by decide +kernel
theorem dX1_init_10 : decode cX1_init 10 = .ok (.putfield 11, 3) := by decide +kernel
theorem dX1_init_13 : decode cX1_init 13 = .ok (.iconst 0, 1) := by decide +kernel
theorem dX1_init_14 : decode cX1_init 14 = .ok (.istore_n 1, 1) := by decide +kernel
theorem dX1_init_15 : decode cX1_init 15 = .ok (.iload_n 1, 1) := by decide +kernel
theorem dX1_init_16 : decode cX1_init 16 = .ok (.bipush 14, 2) := by decide +kernel
theorem dX1_init_18 : decode cX1_init 18 = .ok (.if_icmp .ge 22, 3) := by decide +kernel
theorem dX1_init_21 : decode cX1_init 21 = .ok (.aload_n 0, 1) := by decide +kernel
theorem dX1_init_22 : decode cX1_init 22 = .ok (.getfield 11, 3) := by decide +kernel
theorem dX1_init_25 : decode cX1_init 25 = .ok (.iload_n 1, 1) := by decide +kernel
theorem dX1_init_26 : decode cX1_init 26 = .ok (.new 9, 3) := by decide +kernel
theorem dX1_init_29 : decode cX1_init 29 = .ok (.dup, 1) := by decide +kernel
theorem dX1_init_30 : decode cX1_init 30 = .ok (.invokespecial 17, 3) := by decide +kernel
theorem dX1_init_33 : decode cX1_init 33 = .ok (.aastore, 1) := by decide +kernel
theorem dX1_init_34 : decode cX1_init 34 = .ok (.iinc 1 1, 3) := by decide +kernel
theorem dX1_init_37 : decode cX1_init 37 = .ok (.goto (-22), 3) := by decide +kernel
theorem dX1_init_40 : decode cX1_init 40 = .ok (.return_, 1) := by decide +kernel
theorem dX1_remember_0 : decode cX1_remember 0 = .ok (.aload_n 0, 1) := by decide +kernel
theorem dX1_remember_1 : decode cX1_remember 1 = .ok (.getfield 11, 3) := by decide +kernel
theorem dX1_remember_4 : decode cX1_remember 4 = .ok (.aload_n 0, 1) := by decide +kernel
theorem dX1_remember_5 : decode cX1_remember 5 = .ok (.getfield 18, 3) := by decide +kernel
theorem dX1_remember_8 : decode cX1_remember 8 = .ok (.aload_n 0, 1) := by decide +kernel
theorem dX1_remember_9 : decode cX1_remember 9 = .ok (.getfield 22, 3) := by decide +kernel
theorem dX1_remember_12 : decode cX1_remember 12 = .ok (.iadd, 1) := by decide +kernel
theorem dX1_remember_13 : decode cX1_remember 13 = .ok (.bipush 14, 2) := by decide +kernel
theorem dX1_remember_15 : decode cX1_remember 15 = .ok (.irem, 1) := by decide +kernel
theorem dX1_remember_16 : decode cX1_remember 16 = .ok (.aaload, 1) := by decide +kernel
theorem dX1_remember_17 : decode cX1_remember 17 = .ok (.aload_n 1, 1) := by decide +kernel
theorem dX1_remember_18 : decode cX1_remember 18 = .ok (.invokevirtual 25, 3) := by decide +kernel
theorem dX1_remember_21 : decode cX1_remember 21 = .ok (.aload_n 0, 1) := by decide +kernel
theorem dX1_remember_22 : decode cX1_remember 22 = .ok (.getfield 22, 3) := by decide +kernel
theorem dX1_remember_25 : decode cX1_remember 25 = .ok (.bipush 14, 2) := by decide +kernel
theorem dX1_remember_27 : decode cX1_remember 27 = .ok (.if_icmp .ge 16, 3) := by decide +kernel
theorem dX1_remember_30 : decode cX1_remember 30 = .ok (.aload_n 0, 1) := by decide +kernel
theorem dX1_remember_31 : decode cX1_remember 31 = .ok (.dup, 1) := by decide +kernel
theorem dX1_remember_32 : decode cX1_remember 32 = .ok (.getfield 22, 3) := by decide +kernel
theorem dX1_remember_35 : decode cX1_remember 35 = .ok (.iconst 1, 1) := by decide +kernel
theorem dX1_remember_36 : decode cX1_remember 36 = .ok (.iadd, 1) := by decide +kernel
theorem dX1_remember_37 : decode cX1_remember 37 = .ok (.putfield 22, 3) := by decide +kernel
theorem dX1_remember_40 : decode cX1_remember 40 = .ok (.goto 16, 3) := by decide +kernel
theorem dX1_remember_43 : decode cX1_remember 43 = .ok (.aload_n 0, 1) := by decide +kernel
theorem dX1_remember_44 : decode cX1_remember 44 = .ok (.aload_n 0, 1) := by decide +kernel
theorem dX1_remember_45 : decode cX1_remember 45 = .ok (.getfield 18, 3) := by decide +kernel
theorem dX1_remember_48 : decode cX1_remember 48 = .ok (.iconst 1, 1) := by decide +kernel
theorem dX1_remember_49 : decode cX1_remember 49 = .ok (.iadd, 1) := by decide +kernel
theorem dX1_remember_50 : decode cX1_remember 50 = .ok (.bipush 14, 2) := by decide +kernel
theorem dX1_remember_52 : decode cX1_remember 52 = .ok (.irem, 1) := by decide +kernel
theorem dX1_remember_53 : decode cX1_remember 53 = .ok (.putfield 18, 3) := by decide +kernel
theorem dX1_remember_56 : decode cX1_remember 56 = .ok (.return_, 1) := by decide +kernel
theorem dX1_takeBack_0 : decode cX1_takeBack 0 = .ok (.aload_n 0, 1) := by decide +kernel
theorem dX1_takeBack_1 : decode cX1_takeBack 1 = .ok (.getfield 22, 3) := by decide +kernel
theorem dX1_takeBack_4 : decode cX1_takeBack 4 = .ok (.ifCond .le 34, 3) := by decide +kernel
theorem dX1_takeBack_7 : decode cX1_takeBack 7 = .ok (.aload_n 0, 1) := by decide +kernel
theorem dX1_takeBack_8 : decode cX1_takeBack 8 = .ok (.dup, 1) := by decide +kernel
theorem dX1_takeBack_9 : decode cX1_takeBack 9 = .ok (.getfield 22, 3) := by decide +kernel
theorem dX1_takeBack_12 : decode cX1_takeBack 12 = .ok (.iconst 1, 1) := by decide +kernel
theorem dX1_takeBack_13 : decode cX1_takeBack 13 = .ok (.isub, 1) := by decide +kernel
theorem dX1_takeBack_14 : decode cX1_takeBack 14 = .ok (.putfield 22, 3) := by decide +kernel
theorem dX1_takeBack_17 : decode cX1_takeBack 17 = .ok (.aload_n 1, 1) := by decide +kernel
theorem dX1_takeBack_18 : decode cX1_takeBack 18 = .ok (.aload_n 0, 1) := by decide +kernel
theorem dX1_takeBack_19 : decode cX1_takeBack 19 = .ok (.getfield 11, 3) := by decide +kernel
theorem dX1_takeBack_22 : decode cX1_takeBack 22 = .ok (.aload_n 0, 1) := by decide +kernel
theorem dX1_takeBack_23 : decode cX1_takeBack 23 = .ok (.getfield 18, 3) := by decide +kernel
theorem dX1_takeBack_26 : decode cX1_takeBack 26 = .ok (.aload_n 0, 1) := by decide +kernel
theorem dX1_takeBack_27 : decode cX1_takeBack 27 = .ok (.getfield 22, 3) := by decide +kernel
theorem dX1_takeBack_30 : decode cX1_takeBack 30 = .ok (.iadd, 1) := by decide +kernel
theorem dX1_takeBack_31 : decode cX1_takeBack 31 = .ok (.bipush 14, 2) := by decide +kernel
theorem dX1_takeBack_33 : decode cX1_takeBack 33 = .ok (.irem, 1) := by decide +kernel
theorem dX1_takeBack_34 : decode cX1_takeBack 34 = .ok (.aaload, 1) := by decide +kernel
theorem dX1_takeBack_35 : decode cX1_takeBack 35 = .ok (.invokevirtual 25, 3) := by decide +kernel
theorem dX1_takeBack_38 : decode cX1_takeBack 38 = .ok (.return_, 1) := by decide +kernel
theorem dX1_forgetAll_0 : decode cX1_forgetAll 0 = .ok (.aload_n 0, 1) := by decide +kernel
theorem dX1_forgetAll_1 : decode cX1_forgetAll 1 = .ok (.iconst 0, 1) := by decide +kernel
theorem dX1_forgetAll_2 : decode cX1_forgetAll 2 = .ok (.putfield 22, 3) := by decide +kernel
theorem dX1_forgetAll_5 : decode cX1_forgetAll 5 = .ok (.return_, 1) := by decide +kernel
theorem dX2_init_0 : decode cX2_init 0 = .ok (.aload_n 0, 1) := by decide +kernel
theorem dX2_init_1 : decode cX2_init 1 = .ok (.invokespecial 3, 3) := by decide +kernel
theorem dX2_init_4 : decode cX2_init 4 = .ok (.aload_n 0, 1) := by decide +kernel
theorem dX2_init_5 : decode cX2_init 5 = .ok (.bipush 120, 2) := by decide +kernel
theorem dX2_init_7 : decode cX2_init 7 = .ok (.newarray .char, 2) := by decide +kernel
theorem dX2_init_9 : decode cX2_init 9 = .ok (.putfield 9, 3) := by decide +kernel
theorem dX2_init_12 : decode cX2_init 12 = .ok (.return_, 1) := by decide +kernel
theorem dX2_put_0 : decode cX2_put 0 = .ok (.aload_n 0, 1) := by decide +kernel
theorem dX2_put_1 : decode cX2_put 1 = .ok (.getfield 15, 3) := by decide +kernel
theorem dX2_put_4 : decode cX2_put 4 = .ok (.bipush 120, 2) := by decide +kernel
theorem dX2_put_6 : decode cX2_put 6 = .ok (.if_icmp .ge 23, 3) := by decide +kernel
theorem dX2_put_9 : decode cX2_put 9 = .ok (.aload_n 0, 1) := by decide +kernel
theorem dX2_put_10 : decode cX2_put 10 = .ok (.getfield 9, 3) := by decide +kernel
theorem dX2_put_13 : decode cX2_put 13 = .ok (.aload_n 0, 1) := by decide +kernel
theorem dX2_put_14 : decode cX2_put 14 = .ok (.getfield 15, 3) := by decide +kernel
theorem dX2_put_17 : decode cX2_put 17 = .ok (.iload_n 1, 1) := by decide +kernel
theorem dX2_put_18 : decode cX2_put 18 = .ok (.castore, 1) := by decide +kernel
theorem dX2_put_19 : decode cX2_put 19 = .ok (.aload_n 0, 1) := by decide +kernel
theorem dX2_put_20 : decode cX2_put 20 = .ok (.dup, 1) := by decide +kernel
theorem dX2_put_21 : decode cX2_put 21 = .ok (.getfield 15, 3) := by decide +kernel
theorem dX2_put_24 : decode cX2_put 24 = .ok (.iconst 1, 1) := by decide +kernel
theorem dX2_put_25 : decode cX2_put 25 = .ok (.iadd, 1) := by decide +kernel
theorem dX2_put_26 : decode cX2_put 26 = .ok (.putfield 15, 3) := by decide +kernel
theorem dX2_put_29 : decode cX2_put 29 = .ok (.aload_n 0, 1) := by decide +kernel
theorem dX2_put_30 : decode cX2_put 30 = .ok (.getfield 15, 3) := by decide +kernel
theorem dX2_put_33 : decode cX2_put 33 = .ok (.ireturn, 1) := by decide +kernel
theorem dX2_becomeEmpty_0 : decode cX2_becomeEmpty 0 = .ok (.aload_n 0, 1) := by decide +kernel
theorem dX2_becomeEmpty_1 : decode cX2_becomeEmpty 1 = .ok (.iconst 0, 1) := by decide +kernel
theorem dX2_becomeEmpty_2 : decode cX2_becomeEmpty 2 = .ok (.putfield 15, 3) := by decide +kernel
theorem dX2_becomeEmpty_5 : decode cX2_becomeEmpty 5 = .ok (.return_, 1) := by decide +kernel
theorem dX2_readInto_0 : decode cX2_readInto 0 = .ok (.aload_n 1, 1) := by decide +kernel
theorem dX2_readInto_1 : decode cX2_readInto 1 = .ok (.invokevirtual 19, 3) := by decide +kernel
theorem dX2_readInto_4 : decode cX2_readInto 4 = .ok (.aload_n 0, 1) := by decide +kernel
theorem dX2_readInto_5 : decode cX2_readInto 5 = .ok (.iconst 0, 1) := by decide +kernel
theorem dX2_readInto_6 : decode cX2_readInto 6 = .ok (.putfield 24, 3) := by decide +kernel
theorem dX2_readInto_9 : decode cX2_readInto 9 = .ok (.aload_n 0, 1) := by decide +kernel
theorem dX2_readInto_10 : decode cX2_readInto 10 = .ok (.bipush 66, 2) := by decide +kernel
theorem dX2_readInto_12 : decode cX2_readInto 12 = .ok (.invokevirtual 27, 3) := by decide +kernel
theorem dX2_readInto_15 : decode cX2_readInto 15 = .ok (.ifCond .ne 8, 3) := by decide +kernel
theorem dX2_readInto_18 : decode cX2_readInto 18 = .ok (.aload_n 0, 1) := by decide +kernel
theorem dX2_readInto_19 : decode cX2_readInto 19 = .ok (.getfield 24, 3) := by decide +kernel
theorem dX2_readInto_22 : decode cX2_readInto 22 = .ok (.ireturn, 1) := by decide +kernel
theorem dX2_readInto_23 : decode cX2_readInto 23 = .ok (.aload_n 0, 1) := by decide +kernel
theorem dX2_readInto_24 : decode cX2_readInto 24 = .ok (.dup, 1) := by decide +kernel
theorem dX2_readInto_25 : decode cX2_readInto 25 = .ok (.getfield 24, 3) := by decide +kernel
theorem dX2_readInto_28 : decode cX2_readInto 28 = .ok (.iconst 1, 1) := by decide +kernel
theorem dX2_readInto_29 : decode cX2_readInto 29 = .ok (.iadd, 1) := by decide +kernel
theorem dX2_readInto_30 : decode cX2_readInto 30 = .ok (.putfield 24, 3) := by decide +kernel
theorem dX2_readInto_33 : decode cX2_readInto 33 = .ok (.iconst 0, 1) := by decide +kernel
theorem dX2_readInto_34 : decode cX2_readInto 34 = .ok (.istore_n 2, 1) := by decide +kernel
theorem dX2_readInto_35 : decode cX2_readInto 35 = .ok (.iload_n 2, 1) := by decide +kernel
theorem dX2_readInto_36 : decode cX2_readInto 36 = .ok (.bipush 120, 2) := by decide +kernel
theorem dX2_readInto_38 : decode cX2_readInto 38 = .ok (.if_icmp .ge 33, 3) := by decide +kernel
theorem dX2_readInto_41 : decode cX2_readInto 41 = .ok (.aload_n 0, 1) := by decide +kernel
theorem dX2_readInto_42 : decode cX2_readInto 42 = .ok (.getfield 24, 3) := by decide +kernel
theorem dX2_readInto_45 : decode cX2_readInto 45 = .ok (.aload_n 0, 1) := by decide +kernel
theorem dX2_readInto_46 : decode cX2_readInto 46 = .ok (.getfield 15, 3) := by decide +kernel
theorem dX2_readInto_49 : decode cX2_readInto 49 = .ok (.if_icmp .ge 22, 3) := by decide +kernel
theorem dX2_readInto_52 : decode cX2_readInto 52 = .ok (.aload_n 0, 1) := by decide +kernel
theorem dX2_readInto_53 : decode cX2_readInto 53 = .ok (.aload_n 1, 1) := by decide +kernel
theorem dX2_readInto_54 : decode cX2_readInto 54 = .ok (.invokevirtual 31, 3) := by decide +kernel
theorem dX2_readInto_57 : decode cX2_readInto 57 = .ok (.ifCond .ne 8, 3) := by decide +kernel
theorem dX2_readInto_60 : decode cX2_readInto 60 = .ok (.aload_n 0, 1) := by decide +kernel
theorem dX2_readInto_61 : decode cX2_readInto 61 = .ok (.getfield 24, 3) := by decide +kernel
theorem dX2_readInto_64 : decode cX2_readInto 64 = .ok (.ireturn, 1) := by decide +kernel
theorem dX2_readInto_65 : decode cX2_readInto 65 = .ok (.iinc 2 1, 3) := by decide +kernel
theorem dX2_readInto_68 : decode cX2_readInto 68 = .ok (.goto (-33), 3) := by decide +kernel
theorem dX2_readInto_71 : decode cX2_readInto 71 = .ok (.bipush (-9), 2) := by decide +kernel
theorem dX2_readInto_73 : decode cX2_readInto 73 = .ok (.ireturn, 1) := by decide +kernel
theorem dX2_readPart_0 : decode cX2_readPart 0 = .ok (.aload_n 0, 1) := by decide +kernel
theorem dX2_readPart_1 : decode cX2_readPart 1 = .ok (.bipush 99, 2) := by decide +kernel
theorem dX2_readPart_3 : decode cX2_readPart 3 = .ok (.invokevirtual 27, 3) := by decide +kernel
theorem dX2_readPart_6 : decode cX2_readPart 6 = .ok (.ifCond .eq 9, 3) := by decide +kernel
theorem dX2_readPart_9 : decode cX2_readPart 9 = .ok (.aload_n 0, 1) := by decide +kernel
theorem dX2_readPart_10 : decode cX2_readPart 10 = .ok (.aload_n 1, 1) := by decide +kernel
theorem dX2_readPart_11 : decode cX2_readPart 11 = .ok (.invokevirtual 35, 3) := by decide +kernel
theorem dX2_readPart_14 : decode cX2_readPart 14 = .ok (.ireturn, 1) := by decide +kernel
theorem dX2_readPart_15 : decode cX2_readPart 15 = .ok (.aload_n 0, 1) := by decide +kernel
theorem dX2_readPart_16 : decode cX2_readPart 16 = .ok (.bipush 108, 2) := by decide +kernel
theorem dX2_readPart_18 : decode cX2_readPart 18 = .ok (.invokevirtual 27, 3) := by decide +kernel
theorem dX2_readPart_21 : decode cX2_readPart 21 = .ok (.ifCond .eq 15, 3) := by decide +kernel
theorem dX2_readPart_24 : decode cX2_readPart 24 = .ok (.aload_n 0, 1) := by decide +kernel
theorem dX2_readPart_25 : decode cX2_readPart 25 = .ok (.aload_n 1, 1) := by decide +kernel
theorem dX2_readPart_26 : decode cX2_readPart 26 = .ok (.invokevirtual 38, 3) := by decide +kernel
theorem dX2_readPart_29 : decode cX2_readPart 29 = .ok (.ifCond .eq 7, 3) := by decide +kernel
theorem dX2_readPart_32 : decode cX2_readPart 32 = .ok (.iconst 1, 1) := by decide +kernel
theorem dX2_readPart_33 : decode cX2_readPart 33 = .ok (.goto 4, 3) := by decide +kernel
theorem dX2_readPart_36 : decode cX2_readPart 36 = .ok (.iconst 0, 1) := by decide +kernel
theorem dX2_readPart_37 : decode cX2_readPart 37 = .ok (.ireturn, 1) := by decide +kernel
theorem dX2_readCell_0 : decode cX2_readCell 0 = .ok (.aload_n 1, 1) := by decide +kernel
theorem dX2_readCell_1 : decode cX2_readCell 1 = .ok (.getfield 41, 3) := by decide +kernel
theorem dX2_readCell_4 : decode cX2_readCell 4 = .ok (.bipush 8, 2) := by decide +kernel
theorem dX2_readCell_6 : decode cX2_readCell 6 = .ok (.if_icmp .lt 5, 3) := by decide +kernel
theorem dX2_readCell_9 : decode cX2_readCell 9 = .ok (.iconst 0, 1) := by decide +kernel
theorem dX2_readCell_10 : decode cX2_readCell 10 = .ok (.ireturn, 1) := by decide +kernel
theorem dX2_readCell_11 : decode cX2_readCell 11 = .ok (.aload_n 0, 1) := by decide +kernel
theorem dX2_readCell_12 : decode cX2_readCell 12 = .ok (.dup, 1) := by decide +kernel
theorem dX2_readCell_13 : decode cX2_readCell 13 = .ok (.getfield 24, 3) := by decide +kernel
theorem dX2_readCell_16 : decode cX2_readCell 16 = .ok (.iconst 1, 1) := by decide +kernel
theorem dX2_readCell_17 : decode cX2_readCell 17 = .ok (.iadd, 1) := by decide +kernel
theorem dX2_readCell_18 : decode cX2_readCell 18 = .ok (.putfield 24, 3) := by decide +kernel
theorem dX2_readCell_21 : decode cX2_readCell 21 = .ok (.aload_n 0, 1) := by decide +kernel
theorem dX2_readCell_22 : decode cX2_readCell 22 = .ok (.bipush 10, 2) := by decide +kernel
theorem dX2_readCell_24 : decode cX2_readCell 24 = .ok (.bipush 99, 2) := by decide +kernel
theorem dX2_readCell_26 : decode cX2_readCell 26 = .ok (.invokevirtual 44, 3) := by decide +kernel
theorem dX2_readCell_29 : decode cX2_readCell 29 = .ok (.istore_n 2, 1) := by decide +kernel
theorem dX2_readCell_30 : decode cX2_readCell 30 = .ok (.iload_n 2, 1) := by decide +kernel
theorem dX2_readCell_31 : decode cX2_readCell 31 = .ok (.bipush (-9), 2) := by decide +kernel
theorem dX2_readCell_33 : decode cX2_readCell 33 = .ok (.if_icmp .ne 5, 3) := by decide +kernel
theorem dX2_readCell_36 : decode cX2_readCell 36 = .ok (.iconst 0, 1) := by decide +kernel
theorem dX2_readCell_37 : decode cX2_readCell 37 = .ok (.ireturn, 1) := by decide +kernel
theorem dX2_readCell_38 : decode cX2_readCell 38 = .ok (.aload_n 0, 1) := by decide +kernel
theorem dX2_readCell_39 : decode cX2_readCell 39 = .ok (.iconst 0, 1) := by decide +kernel
theorem dX2_readCell_40 : decode cX2_readCell 40 = .ok (.iload_n 2, 1) := by decide +kernel
theorem dX2_readCell_41 : decode cX2_readCell 41 = .ok (.invokevirtual 44, 3) := by decide +kernel
theorem dX2_readCell_44 : decode cX2_readCell 44 = .ok (.istore_n 3, 1) := by decide +kernel
theorem dX2_readCell_45 : decode cX2_readCell 45 = .ok (.iload_n 3, 1) := by decide +kernel
theorem dX2_readCell_46 : decode cX2_readCell 46 = .ok (.bipush (-9), 2) := by decide +kernel
theorem dX2_readCell_48 : decode cX2_readCell 48 = .ok (.if_icmp .ne 5, 3) := by decide +kernel
theorem dX2_readCell_51 : decode cX2_readCell 51 = .ok (.iconst 0, 1) := by decide +kernel
theorem dX2_readCell_52 : decode cX2_readCell 52 = .ok (.ireturn, 1) := by decide +kernel
theorem dX2_readCell_53 : decode cX2_readCell 53 = .ok (.aload_n 0, 1) := by decide +kernel
theorem dX2_readCell_54 : decode cX2_readCell 54 = .ok (.iconst 0, 1) := by decide +kernel
theorem dX2_readCell_55 : decode cX2_readCell 55 = .ok (.iconst 3, 1) := by decide +kernel
theorem dX2_readCell_56 : decode cX2_readCell 56 = .ok (.invokevirtual 48, 3) := by decide +kernel
theorem dX2_readCell_59 : decode cX2_readCell 59 = .ok (.istore 4, 2) := by decide +kernel
theorem dX2_readCell_61 : decode cX2_readCell 61 = .ok (.iload 4, 2) := by decide +kernel
theorem dX2_readCell_63 : decode cX2_readCell 63 = .ok (.bipush (-9), 2) := by decide +kernel
theorem dX2_readCell_65 : decode cX2_readCell 65 = .ok (.if_icmp .eq 20, 3) := by decide +kernel
theorem dX2_readCell_68 : decode cX2_readCell 68 = .ok (.aload_n 1, 1) := by decide +kernel
theorem dX2_readCell_69 : decode cX2_readCell 69 = .ok (.iload_n 2, 1) := by decide +kernel
theorem dX2_readCell_70 : decode cX2_readCell 70 = .ok (.iload_n 3, 1) := by decide +kernel
theorem dX2_readCell_71 : decode cX2_readCell 71 = .ok (.iload 4, 2) := by decide +kernel
theorem dX2_readCell_73 : decode cX2_readCell 73 = .ok (.invokevirtual 51, 3) := by decide +kernel
theorem dX2_readCell_76 : decode cX2_readCell 76 = .ok (.bipush (-9), 2) := by decide +kernel
theorem dX2_readCell_78 : decode cX2_readCell 78 = .ok (.if_icmp .eq 7, 3) := by decide +kernel
theorem dX2_readCell_81 : decode cX2_readCell 81 = .ok (.iconst 1, 1) := by decide +kernel
theorem dX2_readCell_82 : decode cX2_readCell 82 = .ok (.goto 4, 3) := by decide +kernel
theorem dX2_readCell_85 : decode cX2_readCell 85 = .ok (.iconst 0, 1) := by decide +kernel
theorem dX2_readCell_86 : decode cX2_readCell 86 = .ok (.ireturn, 1) := by decide +kernel
theorem dX2_readLoan_0 : decode cX2_readLoan 0 = .ok (.aload_n 1, 1) := by decide +kernel
theorem dX2_readLoan_1 : decode cX2_readLoan 1 = .ok (.getfield 41, 3) := by decide +kernel
theorem dX2_readLoan_4 : decode cX2_readLoan 4 = .ok (.iconst 2, 1) := by decide +kernel
theorem dX2_readLoan_5 : decode cX2_readLoan 5 = .ok (.if_icmp .lt 12, 3) := by decide +kernel
theorem dX2_readLoan_8 : decode cX2_readLoan 8 = .ok (.aload_n 1, 1) := by decide +kernel
theorem dX2_readLoan_9 : decode cX2_readLoan 9 = .ok (.getfield 55, 3) := by decide +kernel
theorem dX2_readLoan_12 : decode cX2_readLoan 12 = .ok (.bipush 12, 2) := by decide +kernel
theorem dX2_readLoan_14 : decode cX2_readLoan 14 = .ok (.if_icmp .lt 5, 3) := by decide +kernel
theorem dX2_readLoan_17 : decode cX2_readLoan 17 = .ok (.iconst 0, 1) := by decide +kernel
theorem dX2_readLoan_18 : decode cX2_readLoan 18 = .ok (.ireturn, 1) := by decide +kernel
theorem dX2_readLoan_19 : decode cX2_readLoan 19 = .ok (.aload_n 0, 1) := by decide +kernel
theorem dX2_readLoan_20 : decode cX2_readLoan 20 = .ok (.getfield 24, 3) := by decide +kernel
theorem dX2_readLoan_23 : decode cX2_readLoan 23 = .ok (.istore_n 2, 1) := by decide +kernel
theorem dX2_readLoan_24 : decode cX2_readLoan 24 = .ok (.aload_n 0, 1) := by decide +kernel
theorem dX2_readLoan_25 : decode cX2_readLoan 25 = .ok (.dup, 1) := by decide +kernel
theorem dX2_readLoan_26 : decode cX2_readLoan 26 = .ok (.getfield 24, 3) := by decide +kernel
theorem dX2_readLoan_29 : decode cX2_readLoan 29 = .ok (.iconst 1, 1) := by decide +kernel
theorem dX2_readLoan_30 : decode cX2_readLoan 30 = .ok (.iadd, 1) := by decide +kernel
theorem dX2_readLoan_31 : decode cX2_readLoan 31 = .ok (.putfield 24, 3) := by decide +kernel
theorem dX2_readLoan_34 : decode cX2_readLoan 34 = .ok (.aload_n 0, 1) := by decide +kernel
theorem dX2_readLoan_35 : decode cX2_readLoan 35 = .ok (.invokevirtual 58, 3) := by decide +kernel
theorem dX2_readLoan_38 : decode cX2_readLoan 38 = .ok (.istore_n 3, 1) := by decide +kernel
theorem dX2_readLoan_39 : decode cX2_readLoan 39 = .ok (.aload_n 1, 1) := by decide +kernel
theorem dX2_readLoan_40 : decode cX2_readLoan 40 = .ok (.iload_n 3, 1) := by decide +kernel
theorem dX2_readLoan_41 : decode cX2_readLoan 41 = .ok (.invokevirtual 62, 3) := by decide +kernel
theorem dX2_readLoan_44 : decode cX2_readLoan 44 = .ok (.ifCond .ne 5, 3) := by decide +kernel
theorem dX2_readLoan_47 : decode cX2_readLoan 47 = .ok (.iconst 0, 1) := by decide +kernel
theorem dX2_readLoan_48 : decode cX2_readLoan 48 = .ok (.ireturn, 1) := by decide +kernel
theorem dX2_readLoan_49 : decode cX2_readLoan 49 = .ok (.aload_n 0, 1) := by decide +kernel
theorem dX2_readLoan_50 : decode cX2_readLoan 50 = .ok (.dup, 1) := by decide +kernel
theorem dX2_readLoan_51 : decode cX2_readLoan 51 = .ok (.getfield 24, 3) := by decide +kernel
theorem dX2_readLoan_54 : decode cX2_readLoan 54 = .ok (.iconst 1, 1) := by decide +kernel
theorem dX2_readLoan_55 : decode cX2_readLoan 55 = .ok (.iadd, 1) := by decide +kernel
theorem dX2_readLoan_56 : decode cX2_readLoan 56 = .ok (.putfield 24, 3) := by decide +kernel
theorem dX2_readLoan_59 : decode cX2_readLoan 59 = .ok (.aload_n 0, 1) := by decide +kernel
theorem dX2_readLoan_60 : decode cX2_readLoan 60 = .ok (.invokevirtual 58, 3) := by decide +kernel
theorem dX2_readLoan_63 : decode cX2_readLoan 63 = .ok (.istore 4, 2) := by decide +kernel
theorem dX2_readLoan_65 : decode cX2_readLoan 65 = .ok (.aload_n 1, 1) := by decide +kernel
theorem dX2_readLoan_66 : decode cX2_readLoan 66 = .ok (.iload 4, 2) := by decide +kernel
theorem dX2_readLoan_68 : decode cX2_readLoan 68 = .ok (.invokevirtual 66, 3) := by decide +kernel
theorem dX2_readLoan_71 : decode cX2_readLoan 71 = .ok (.ifCond .eq 9, 3) := by decide +kernel
theorem dX2_readLoan_74 : decode cX2_readLoan 74 = .ok (.iload 4, 2) := by decide +kernel
theorem dX2_readLoan_76 : decode cX2_readLoan 76 = .ok (.iload_n 3, 1) := by decide +kernel
theorem dX2_readLoan_77 : decode cX2_readLoan 77 = .ok (.if_icmp .ne 5, 3) := by decide +kernel
theorem dX2_readLoan_80 : decode cX2_readLoan 80 = .ok (.iconst 0, 1) := by decide +kernel
theorem dX2_readLoan_81 : decode cX2_readLoan 81 = .ok (.ireturn, 1) := by decide +kernel
theorem dX2_readLoan_82 : decode cX2_readLoan 82 = .ok (.aload_n 0, 1) := by decide +kernel
theorem dX2_readLoan_83 : decode cX2_readLoan 83 = .ok (.dup, 1) := by decide +kernel
theorem dX2_readLoan_84 : decode cX2_readLoan 84 = .ok (.getfield 24, 3) := by decide +kernel
theorem dX2_readLoan_87 : decode cX2_readLoan 87 = .ok (.iconst 1, 1) := by decide +kernel
theorem dX2_readLoan_88 : decode cX2_readLoan 88 = .ok (.iadd, 1) := by decide +kernel
theorem dX2_readLoan_89 : decode cX2_readLoan 89 = .ok (.putfield 24, 3) := by decide +kernel
theorem dX2_readLoan_92 : decode cX2_readLoan 92 = .ok (.aload_n 0, 1) := by decide +kernel
theorem dX2_readLoan_93 : decode cX2_readLoan 93 = .ok (.iconst 1, 1) := by decide +kernel
theorem dX2_readLoan_94 : decode cX2_readLoan 94 = .ok (.aload_n 1, 1) := by decide +kernel
theorem dX2_readLoan_95 : decode cX2_readLoan 95 = .ok (.iload_n 3, 1) := by decide +kernel
theorem dX2_readLoan_96 : decode cX2_readLoan 96 = .ok (.invokevirtual 62, 3) := by decide +kernel
theorem dX2_readLoan_99 : decode cX2_readLoan 99 = .ok (.invokevirtual 44, 3) := by decide +kernel
theorem dX2_readLoan_102 : decode cX2_readLoan 102 = .ok (.istore 5, 2) := by decide +kernel
theorem dX2_readLoan_104 : decode cX2_readLoan 104 = .ok (.iload 5, 2) := by decide +kernel
theorem dX2_readLoan_106 : decode cX2_readLoan 106 = .ok (.bipush (-9), 2) := by decide +kernel
theorem dX2_readLoan_108 : decode cX2_readLoan 108 = .ok (.if_icmp .ne 5, 3) := by decide +kernel
theorem dX2_readLoan_111 : decode cX2_readLoan 111 = .ok (.iconst 0, 1) := by decide +kernel
theorem dX2_readLoan_112 : decode cX2_readLoan 112 = .ok (.ireturn, 1) := by decide +kernel
theorem dX2_readLoan_113 : decode cX2_readLoan 113 = .ok (.aload_n 0, 1) := by decide +kernel
theorem dX2_readLoan_114 : decode cX2_readLoan 114 = .ok (.iconst 0, 1) := by decide +kernel
theorem dX2_readLoan_115 : decode cX2_readLoan 115 = .ok (.bipush 50, 2) := by decide +kernel
theorem dX2_readLoan_117 : decode cX2_readLoan 117 = .ok (.invokevirtual 44, 3) := by decide +kernel
theorem dX2_readLoan_120 : decode cX2_readLoan 120 = .ok (.istore 6, 2) := by decide +kernel
theorem dX2_readLoan_122 : decode cX2_readLoan 122 = .ok (.iload 6, 2) := by decide +kernel
theorem dX2_readLoan_124 : decode cX2_readLoan 124 = .ok (.bipush (-9), 2) := by decide +kernel
theorem dX2_readLoan_126 : decode cX2_readLoan 126 = .ok (.if_icmp .ne 5, 3) := by decide +kernel
theorem dX2_readLoan_129 : decode cX2_readLoan 129 = .ok (.iconst 0, 1) := by decide +kernel
theorem dX2_readLoan_130 : decode cX2_readLoan 130 = .ok (.ireturn, 1) := by decide +kernel
theorem dX2_readLoan_131 : decode cX2_readLoan 131 = .ok (.aload_n 1, 1) := by decide +kernel
theorem dX2_readLoan_132 : decode cX2_readLoan 132 = .ok (.iload_n 3, 1) := by decide +kernel
theorem dX2_readLoan_133 : decode cX2_readLoan 133 = .ok (.iload 4, 2) := by decide +kernel
theorem dX2_readLoan_135 : decode cX2_readLoan 135 = .ok (.iload 5, 2) := by decide +kernel
theorem dX2_readLoan_137 : decode cX2_readLoan 137 = .ok (.iload 6, 2) := by decide +kernel
theorem dX2_readLoan_139 : decode cX2_readLoan 139 = .ok (.invokevirtual 70, 3) := by decide +kernel
theorem dX2_readLoan_142 : decode cX2_readLoan 142 = .ok (.bipush (-9), 2) := by decide +kernel
theorem dX2_readLoan_144 : decode cX2_readLoan 144 = .ok (.if_icmp .ne 10, 3) := by decide +kernel
theorem dX2_readLoan_147 : decode cX2_readLoan 147 = .ok (.aload_n 0, 1) := by decide +kernel
theorem dX2_readLoan_148 : decode cX2_readLoan 148 = .ok (.iload_n 2, 1) := by decide +kernel
theorem dX2_readLoan_149 : decode cX2_readLoan 149 = .ok (.putfield 24, 3) := by decide +kernel
theorem dX2_readLoan_152 : decode cX2_readLoan 152 = .ok (.iconst 0, 1) := by decide +kernel
theorem dX2_readLoan_153 : decode cX2_readLoan 153 = .ok (.ireturn, 1) := by decide +kernel
theorem dX2_readLoan_154 : decode cX2_readLoan 154 = .ok (.iconst 1, 1) := by decide +kernel
theorem dX2_readLoan_155 : decode cX2_readLoan 155 = .ok (.ireturn, 1) := by decide +kernel
theorem dX2_readNumber_0 : decode cX2_readNumber 0 = .ok (.aload_n 0, 1) := by decide +kernel
theorem dX2_readNumber_1 : decode cX2_readNumber 1 = .ok (.iload_n 1, 1) := by decide +kernel
theorem dX2_readNumber_2 : decode cX2_readNumber 2 = .ok (.bipush 10, 2) := by decide +kernel
theorem dX2_readNumber_4 : decode cX2_readNumber 4 = .ok (.idiv, 1) := by decide +kernel
theorem dX2_readNumber_5 : decode cX2_readNumber 5 = .ok (.iload_n 2, 1) := by decide +kernel
theorem dX2_readNumber_6 : decode cX2_readNumber 6 = .ok (.bipush 10, 2) := by decide +kernel
theorem dX2_readNumber_8 : decode cX2_readNumber 8 = .ok (.idiv, 1) := by decide +kernel
theorem dX2_readNumber_9 : decode cX2_readNumber 9 = .ok (.invokevirtual 48, 3) := by decide +kernel
theorem dX2_readNumber_12 : decode cX2_readNumber 12 = .ok (.istore_n 3, 1) := by decide +kernel
theorem dX2_readNumber_13 : decode cX2_readNumber 13 = .ok (.iload_n 3, 1) := by decide +kernel
theorem dX2_readNumber_14 : decode cX2_readNumber 14 = .ok (.bipush (-9), 2) := by decide +kernel
theorem dX2_readNumber_16 : decode cX2_readNumber 16 = .ok (.if_icmp .ne 6, 3) := by decide +kernel
theorem dX2_readNumber_19 : decode cX2_readNumber 19 = .ok (.bipush (-9), 2) := by decide +kernel
theorem dX2_readNumber_21 : decode cX2_readNumber 21 = .ok (.ireturn, 1) := by decide +kernel
theorem dX2_readNumber_22 : decode cX2_readNumber 22 = .ok (.aload_n 0, 1) := by decide +kernel
theorem dX2_readNumber_23 : decode cX2_readNumber 23 = .ok (.iload_n 3, 1) := by decide +kernel
theorem dX2_readNumber_24 : decode cX2_readNumber 24 = .ok (.iload_n 1, 1) := by decide +kernel
theorem dX2_readNumber_25 : decode cX2_readNumber 25 = .ok (.bipush 10, 2) := by decide +kernel
theorem dX2_readNumber_27 : decode cX2_readNumber 27 = .ok (.idiv, 1) := by decide +kernel
theorem dX2_readNumber_28 : decode cX2_readNumber 28 = .ok (.if_icmp .ne 10, 3) := by decide +kernel
theorem dX2_readNumber_31 : decode cX2_readNumber 31 = .ok (.iload_n 1, 1) := by decide +kernel
theorem dX2_readNumber_32 : decode cX2_readNumber 32 = .ok (.bipush 10, 2) := by decide +kernel
theorem dX2_readNumber_34 : decode cX2_readNumber 34 = .ok (.irem, 1) := by decide +kernel
theorem dX2_readNumber_35 : decode cX2_readNumber 35 = .ok (.goto 4, 3) := by decide +kernel
theorem dX2_readNumber_38 : decode cX2_readNumber 38 = .ok (.iconst 0, 1) := by decide +kernel
theorem dX2_readNumber_39 : decode cX2_readNumber 39 = .ok (.iload_n 3, 1) := by decide +kernel
theorem dX2_readNumber_40 : decode cX2_readNumber 40 = .ok (.iload_n 2, 1) := by decide +kernel
theorem dX2_readNumber_41 : decode cX2_readNumber 41 = .ok (.bipush 10, 2) := by decide +kernel
theorem dX2_readNumber_43 : decode cX2_readNumber 43 = .ok (.idiv, 1) := by decide +kernel
theorem dX2_readNumber_44 : decode cX2_readNumber 44 = .ok (.if_icmp .ne 10, 3) := by decide +kernel
theorem dX2_readNumber_47 : decode cX2_readNumber 47 = .ok (.iload_n 2, 1) := by decide +kernel
theorem dX2_readNumber_48 : decode cX2_readNumber 48 = .ok (.bipush 10, 2) := by decide +kernel
theorem dX2_readNumber_50 : decode cX2_readNumber 50 = .ok (.irem, 1) := by decide +kernel
theorem dX2_readNumber_51 : decode cX2_readNumber 51 = .ok (.goto 5, 3) := by decide +kernel
theorem dX2_readNumber_54 : decode cX2_readNumber 54 = .ok (.bipush 9, 2) := by decide +kernel
theorem dX2_readNumber_56 : decode cX2_readNumber 56 = .ok (.invokevirtual 48, 3) := by decide +kernel
theorem dX2_readNumber_59 : decode cX2_readNumber 59 = .ok (.istore 4, 2) := by decide +kernel
theorem dX2_readNumber_61 : decode cX2_readNumber 61 = .ok (.iload 4, 2) := by decide +kernel
theorem dX2_readNumber_63 : decode cX2_readNumber 63 = .ok (.bipush (-9), 2) := by decide +kernel
theorem dX2_readNumber_65 : decode cX2_readNumber 65 = .ok (.if_icmp .ne 8, 3) := by decide +kernel
theorem dX2_readNumber_68 : decode cX2_readNumber 68 = .ok (.bipush (-9), 2) := by decide +kernel
theorem dX2_readNumber_70 : decode cX2_readNumber 70 = .ok (.goto 10, 3) := by decide +kernel
theorem dX2_readNumber_73 : decode cX2_readNumber 73 = .ok (.bipush 10, 2) := by decide +kernel
theorem dX2_readNumber_75 : decode cX2_readNumber 75 = .ok (.iload_n 3, 1) := by decide +kernel
theorem dX2_readNumber_76 : decode cX2_readNumber 76 = .ok (.imul, 1) := by decide +kernel
theorem dX2_readNumber_77 : decode cX2_readNumber 77 = .ok (.iload 4, 2) := by decide +kernel
theorem dX2_readNumber_79 : decode cX2_readNumber 79 = .ok (.iadd, 1) := by decide +kernel
theorem dX2_readNumber_80 : decode cX2_readNumber 80 = .ok (.ireturn, 1) := by decide +kernel
theorem dX2_readDigit_0 : decode cX2_readDigit 0 = .ok (.aload_n 0, 1) := by decide +kernel
theorem dX2_readDigit_1 : decode cX2_readDigit 1 = .ok (.invokevirtual 58, 3) := by decide +kernel
theorem dX2_readDigit_4 : decode cX2_readDigit 4 = .ok (.istore_n 3, 1) := by decide +kernel
theorem dX2_readDigit_5 : decode cX2_readDigit 5 = .ok (.iload_n 3, 1) := by decide +kernel
theorem dX2_readDigit_6 : decode cX2_readDigit 6 = .ok (.bipush (-9), 2) := by decide +kernel
theorem dX2_readDigit_8 : decode cX2_readDigit 8 = .ok (.if_icmp .eq 12, 3) := by decide +kernel
theorem dX2_readDigit_11 : decode cX2_readDigit 11 = .ok (.iload_n 3, 1) := by decide +kernel
theorem dX2_readDigit_12 : decode cX2_readDigit 12 = .ok (.iload_n 1, 1) := by decide +kernel
theorem dX2_readDigit_13 : decode cX2_readDigit 13 = .ok (.iload_n 2, 1) := by decide +kernel
theorem dX2_readDigit_14 : decode cX2_readDigit 14 = .ok (.invokestatic 74, 3) := by decide +kernel
theorem dX2_readDigit_17 : decode cX2_readDigit 17 = .ok (.ifCond .ne 6, 3) := by decide +kernel
theorem dX2_readDigit_20 : decode cX2_readDigit 20 = .ok (.bipush (-9), 2) := by decide +kernel
theorem dX2_readDigit_22 : decode cX2_readDigit 22 = .ok (.ireturn, 1) := by decide +kernel
theorem dX2_readDigit_23 : decode cX2_readDigit 23 = .ok (.aload_n 0, 1) := by decide +kernel
theorem dX2_readDigit_24 : decode cX2_readDigit 24 = .ok (.dup, 1) := by decide +kernel
theorem dX2_readDigit_25 : decode cX2_readDigit 25 = .ok (.getfield 24, 3) := by decide +kernel
theorem dX2_readDigit_28 : decode cX2_readDigit 28 = .ok (.iconst 1, 1) := by decide +kernel
theorem dX2_readDigit_29 : decode cX2_readDigit 29 = .ok (.iadd, 1) := by decide +kernel
theorem dX2_readDigit_30 : decode cX2_readDigit 30 = .ok (.putfield 24, 3) := by decide +kernel
theorem dX2_readDigit_33 : decode cX2_readDigit 33 = .ok (.iload_n 3, 1) := by decide +kernel
theorem dX2_readDigit_34 : decode cX2_readDigit 34 = .ok (.ireturn, 1) := by decide +kernel
theorem dX2_digitHere_0 : decode cX2_digitHere 0 = .ok (.aload_n 0, 1) := by decide +kernel
theorem dX2_digitHere_1 : decode cX2_digitHere 1 = .ok (.getfield 24, 3) := by decide +kernel
theorem dX2_digitHere_4 : decode cX2_digitHere 4 = .ok (.aload_n 0, 1) := by decide +kernel
theorem dX2_digitHere_5 : decode cX2_digitHere 5 = .ok (.getfield 15, 3) := by decide +kernel
theorem dX2_digitHere_8 : decode cX2_digitHere 8 = .ok (.if_icmp .ge 35, 3) := by decide +kernel
theorem dX2_digitHere_11 : decode cX2_digitHere 11 = .ok (.aload_n 0, 1) := by decide +kernel
theorem dX2_digitHere_12 : decode cX2_digitHere 12 = .ok (.getfield 9, 3) := by decide +kernel
theorem dX2_digitHere_15 : decode cX2_digitHere 15 = .ok (.aload_n 0, 1) := by decide +kernel
theorem dX2_digitHere_16 : decode cX2_digitHere 16 = .ok (.getfield 24, 3) := by decide +kernel
theorem dX2_digitHere_19 : decode cX2_digitHere 19 = .ok (.caload, 1) := by decide +kernel
theorem dX2_digitHere_20 : decode cX2_digitHere 20 = .ok (.bipush 48, 2) := by decide +kernel
theorem dX2_digitHere_22 : decode cX2_digitHere 22 = .ok (.if_icmp .lt 21, 3) := by decide +kernel
theorem dX2_digitHere_25 : decode cX2_digitHere 25 = .ok (.aload_n 0, 1) := by decide +kernel
theorem dX2_digitHere_26 : decode cX2_digitHere 26 = .ok (.getfield 9, 3) := by decide +kernel
theorem dX2_digitHere_29 : decode cX2_digitHere 29 = .ok (.aload_n 0, 1) := by decide +kernel
theorem dX2_digitHere_30 : decode cX2_digitHere 30 = .ok (.getfield 24, 3) := by decide +kernel
theorem dX2_digitHere_33 : decode cX2_digitHere 33 = .ok (.caload, 1) := by decide +kernel
theorem dX2_digitHere_34 : decode cX2_digitHere 34 = .ok (.bipush 57, 2) := by decide +kernel
theorem dX2_digitHere_36 : decode cX2_digitHere 36 = .ok (.if_icmp .gt 7, 3) := by decide +kernel
theorem dX2_digitHere_39 : decode cX2_digitHere 39 = .ok (.iconst 1, 1) := by decide +kernel
theorem dX2_digitHere_40 : decode cX2_digitHere 40 = .ok (.goto 4, 3) := by decide +kernel
theorem dX2_digitHere_43 : decode cX2_digitHere 43 = .ok (.iconst 0, 1) := by decide +kernel
theorem dX2_digitHere_44 : decode cX2_digitHere 44 = .ok (.istore_n 1, 1) := by decide +kernel
theorem dX2_digitHere_45 : decode cX2_digitHere 45 = .ok (.iload_n 1, 1) := by decide +kernel
theorem dX2_digitHere_46 : decode cX2_digitHere 46 = .ok (.ifCond .eq 18, 3) := by decide +kernel
theorem dX2_digitHere_49 : decode cX2_digitHere 49 = .ok (.aload_n 0, 1) := by decide +kernel
theorem dX2_digitHere_50 : decode cX2_digitHere 50 = .ok (.getfield 9, 3) := by decide +kernel
theorem dX2_digitHere_53 : decode cX2_digitHere 53 = .ok (.aload_n 0, 1) := by decide +kernel
theorem dX2_digitHere_54 : decode cX2_digitHere 54 = .ok (.getfield 24, 3) := by decide +kernel
theorem dX2_digitHere_57 : decode cX2_digitHere 57 = .ok (.caload, 1) := by decide +kernel
theorem dX2_digitHere_58 : decode cX2_digitHere 58 = .ok (.bipush 48, 2) := by decide +kernel
theorem dX2_digitHere_60 : decode cX2_digitHere 60 = .ok (.isub, 1) := by decide +kernel
theorem dX2_digitHere_61 : decode cX2_digitHere 61 = .ok (.goto 5, 3) := by decide +kernel
theorem dX2_digitHere_64 : decode cX2_digitHere 64 = .ok (.bipush (-9), 2) := by decide +kernel
theorem dX2_digitHere_66 : decode cX2_digitHere 66 = .ok (.ireturn, 1) := by decide +kernel
theorem dX2_isAt_0 : decode cX2_isAt 0 = .ok (.aload_n 0, 1) := by decide +kernel
theorem dX2_isAt_1 : decode cX2_isAt 1 = .ok (.getfield 24, 3) := by decide +kernel
theorem dX2_isAt_4 : decode cX2_isAt 4 = .ok (.aload_n 0, 1) := by decide +kernel
theorem dX2_isAt_5 : decode cX2_isAt 5 = .ok (.getfield 15, 3) := by decide +kernel
theorem dX2_isAt_8 : decode cX2_isAt 8 = .ok (.if_icmp .ge 20, 3) := by decide +kernel
theorem dX2_isAt_11 : decode cX2_isAt 11 = .ok (.aload_n 0, 1) := by decide +kernel
theorem dX2_isAt_12 : decode cX2_isAt 12 = .ok (.getfield 9, 3) := by decide +kernel
theorem dX2_isAt_15 : decode cX2_isAt 15 = .ok (.aload_n 0, 1) := by decide +kernel
theorem dX2_isAt_16 : decode cX2_isAt 16 = .ok (.getfield 24, 3) := by decide +kernel
theorem dX2_isAt_19 : decode cX2_isAt 19 = .ok (.caload, 1) := by decide +kernel
theorem dX2_isAt_20 : decode cX2_isAt 20 = .ok (.iload_n 1, 1) := by decide +kernel
theorem dX2_isAt_21 : decode cX2_isAt 21 = .ok (.if_icmp .ne 7, 3) := by decide +kernel
theorem dX2_isAt_24 : decode cX2_isAt 24 = .ok (.iconst 1, 1) := by decide +kernel
theorem dX2_isAt_25 : decode cX2_isAt 25 = .ok (.goto 4, 3) := by decide +kernel
theorem dX2_isAt_28 : decode cX2_isAt 28 = .ok (.iconst 0, 1) := by decide +kernel
theorem dX2_isAt_29 : decode cX2_isAt 29 = .ok (.ireturn, 1) := by decide +kernel
theorem dX3_init_0 : decode cX3_init 0 = .ok (.aload_n 0, 1) := by decide +kernel
theorem dX3_init_1 : decode cX3_init 1 = .ok (.invokespecial 1, 3) := by decide +kernel
theorem dX3_init_4 : decode cX3_init 4 = .ok (.aload_n 0, 1) := by decide +kernel
theorem dX3_init_5 : decode cX3_init 5 = .ok (.new 7, 3) := by decide +kernel
theorem dX3_init_8 : decode cX3_init 8 = .ok (.dup, 1) := by decide +kernel
theorem dX3_init_9 : decode cX3_init 9 = .ok (.invokespecial 9, 3) := by decide +kernel
theorem dX3_init_12 : decode cX3_init 12 = .ok (.putfield 10, 3) := by decide +kernel
theorem dX3_init_15 : decode cX3_init 15 = .ok (.aload_n 0, 1) := by decide +kernel
theorem dX3_init_16 : decode cX3_init 16 = .ok (.new 16, 3) := by decide +kernel
theorem dX3_init_19 : decode cX3_init 19 = .ok (.dup, 1) := by decide +kernel
theorem dX3_init_20 : decode cX3_init 20 = .ok (.invokespecial 18, 3) := by decide +kernel
theorem dX3_init_23 : decode cX3_init 23 = .ok (.putfield 19, 3) := by decide +kernel
theorem dX3_init_26 : decode cX3_init 26 = .ok (.aload_n 0, 1) := by decide +kernel
theorem dX3_init_27 : decode cX3_init 27 = .ok (.new 23, 3) := by decide +kernel
theorem dX3_init_30 : decode cX3_init 30 = .ok (.dup, 1) := by decide +kernel
theorem dX3_init_31 : decode cX3_init 31 = .ok (.invokespecial 25, 3) := by decide +kernel
theorem dX3_init_34 : decode cX3_init 34 = .ok (.putfield 26, 3) := by decide +kernel
theorem dX3_init_37 : decode cX3_init 37 = .ok (.aload_n 0, 1) := by decide +kernel
theorem dX3_init_38 : decode cX3_init 38 = .ok (.iconst 2, 1) := by decide +kernel
theorem dX3_init_39 : decode cX3_init 39 = .ok (.anewarray 16, 3) := by decide +kernel
theorem dX3_init_42 : decode cX3_init 42 = .ok (.putfield 30, 3) := by decide +kernel
theorem dX3_init_45 : decode cX3_init 45 = .ok (.aload_n 0, 1) := by decide +kernel
theorem dX3_init_46 : decode cX3_init 46 = .ok (.iconst 2, 1) := by decide +kernel
theorem dX3_init_47 : decode cX3_init 47 = .ok (.newarray .boolean, 2) := by decide +kernel
theorem dX3_init_49 : decode cX3_init 49 = .ok (.putfield 34, 3) := by decide +kernel
theorem dX3_init_52 : decode cX3_init 52 = .ok (.aload_n 0, 1) := by decide +kernel
theorem dX3_init_53 : decode cX3_init 53 = .ok (.new 16, 3) := by decide +kernel
theorem dX3_init_56 : decode cX3_init 56 = .ok (.dup, 1) := by decide +kernel
theorem dX3_init_57 : decode cX3_init 57 = .ok (.invokespecial 18, 3) := by decide +kernel
theorem dX3_init_60 : decode cX3_init 60 = .ok (.putfield 38, 3) := by decide +kernel
theorem dX3_init_63 : decode cX3_init 63 = .ok (.aload_n 0, 1) := by decide +kernel
theorem dX3_init_64 : decode cX3_init 64 = .ok (.new 16, 3) := by decide +kernel
theorem dX3_init_67 : decode cX3_init 67 = .ok (.dup, 1) := by decide +kernel
theorem dX3_init_68 : decode cX3_init 68 = .ok (.invokespecial 18, 3) := by decide +kernel
theorem dX3_init_71 : decode cX3_init 71 = .ok (.putfield 41, 3) := by decide +kernel
theorem dX3_init_74 : decode cX3_init 74 = .ok (.iconst 0, 1) := by decide +kernel
theorem dX3_init_75 : decode cX3_init 75 = .ok (.istore_n 1, 1) := by decide +kernel
theorem dX3_init_76 : decode cX3_init 76 = .ok (.iload_n 1, 1) := by decide +kernel
theorem dX3_init_77 : decode cX3_init 77 = .ok (.iconst 2, 1) := by decide +kernel
theorem dX3_init_78 : decode cX3_init 78 = .ok (.if_icmp .ge 22, 3) := by decide +kernel
theorem dX3_init_81 : decode cX3_init 81 = .ok (.aload_n 0, 1) := by decide +kernel
theorem dX3_init_82 : decode cX3_init 82 = .ok (.getfield 30, 3) := by decide +kernel
theorem dX3_init_85 : decode cX3_init 85 = .ok (.iload_n 1, 1) := by decide +kernel
theorem dX3_init_86 : decode cX3_init 86 = .ok (.new 16, 3) := by decide +kernel
theorem dX3_init_89 : decode cX3_init 89 = .ok (.dup, 1) := by decide +kernel
theorem dX3_init_90 : decode cX3_init 90 = .ok (.invokespecial 18, 3) := by decide +kernel
theorem dX3_init_93 : decode cX3_init 93 = .ok (.aastore, 1) := by decide +kernel
theorem dX3_init_94 : decode cX3_init 94 = .ok (.iinc 1 1, 3) := by decide +kernel
theorem dX3_init_97 : decode cX3_init 97 = .ok (.goto (-21), 3) := by decide +kernel
theorem dX3_init_100 : decode cX3_init 100 = .ok (.return_, 1) := by decide +kernel
theorem dX3_append_0 : decode cX3_append 0 = .ok (.iload_n 1, 1) := by decide +kernel
theorem dX3_append_1 : decode cX3_append 1 = .ok (.iconst 0, 1) := by decide +kernel
theorem dX3_append_2 : decode cX3_append 2 = .ok (.sipush 255, 3) := by decide +kernel
theorem dX3_append_5 : decode cX3_append 5 = .ok (.invokestatic 44, 3) := by decide +kernel
theorem dX3_append_8 : decode cX3_append 8 = .ok (.ifCond .ne 13, 3) := by decide +kernel
theorem dX3_append_11 : decode cX3_append 11 = .ok (.new 48, 3) := by decide +kernel
theorem dX3_append_14 : decode cX3_append 14 = .ok (.dup, 1) := by decide +kernel
theorem dX3_append_15 : decode cX3_append 15 = .ok (.ldc 50, 2) := by decide +kernel
theorem dX3_append_17 : decode cX3_append 17 = .ok (.invokespecial 52, 3) := by decide +kernel
theorem dX3_append_20 : decode cX3_append 20 = .ok (.athrow, 1) := by decide +kernel
theorem dX3_append_21 : decode cX3_append 21 = .ok (.aload_n 0, 1) := by decide +kernel
theorem dX3_append_22 : decode cX3_append 22 = .ok (.getfield 10, 3) := by decide +kernel
theorem dX3_append_25 : decode cX3_append 25 = .ok (.getfield 55, 3) := by decide +kernel
theorem dX3_append_28 : decode cX3_append 28 = .ok (.bipush 120, 2) := by decide +kernel
theorem dX3_append_30 : decode cX3_append 30 = .ok (.if_icmp .lt 13, 3) := by decide +kernel
theorem dX3_append_33 : decode cX3_append 33 = .ok (.new 59, 3) := by decide +kernel
theorem dX3_append_36 : decode cX3_append 36 = .ok (.dup, 1) := by decide +kernel
theorem dX3_append_37 : decode cX3_append 37 = .ok (.ldc 61, 2) := by decide +kernel
theorem dX3_append_39 : decode cX3_append 39 = .ok (.invokespecial 63, 3) := by decide +kernel
theorem dX3_append_42 : decode cX3_append 42 = .ok (.athrow, 1) := by decide +kernel
theorem dX3_append_43 : decode cX3_append 43 = .ok (.aload_n 0, 1) := by decide +kernel
theorem dX3_append_44 : decode cX3_append 44 = .ok (.getfield 10, 3) := by decide +kernel
theorem dX3_append_47 : decode cX3_append 47 = .ok (.iload_n 1, 1) := by decide +kernel
theorem dX3_append_48 : decode cX3_append 48 = .ok (.i2c, 1) := by decide +kernel
theorem dX3_append_49 : decode cX3_append 49 = .ok (.invokevirtual 64, 3) := by decide +kernel
theorem dX3_append_52 : decode cX3_append 52 = .ok (.ireturn, 1) := by decide +kernel
theorem dX3_clearText_0 : decode cX3_clearText 0 = .ok (.aload_n 0, 1) := by decide +kernel
theorem dX3_clearText_1 : decode cX3_clearText 1 = .ok (.getfield 10, 3) := by decide +kernel
theorem dX3_clearText_4 : decode cX3_clearText 4 = .ok (.getfield 55, 3) := by decide +kernel
theorem dX3_clearText_7 : decode cX3_clearText 7 = .ok (.istore_n 1, 1) := by decide +kernel
theorem dX3_clearText_8 : decode cX3_clearText 8 = .ok (.aload_n 0, 1) := by decide +kernel
theorem dX3_clearText_9 : decode cX3_clearText 9 = .ok (.getfield 10, 3) := by decide +kernel
theorem dX3_clearText_12 : decode cX3_clearText 12 = .ok (.invokevirtual 68, 3) := by decide +kernel
theorem dX3_clearText_15 : decode cX3_clearText 15 = .ok (.iload_n 1, 1) := by decide +kernel
theorem dX3_clearText_16 : decode cX3_clearText 16 = .ok (.ireturn, 1) := by decide +kernel
theorem dX3_errorPosition_0 : decode cX3_errorPosition 0 = .ok (.aload_n 0, 1) := by decide +kernel
theorem dX3_errorPosition_1 : decode cX3_errorPosition 1 = .ok (.getfield 10, 3) := by decide +kernel
theorem dX3_errorPosition_4 : decode cX3_errorPosition 4 = .ok (.aload_n 0, 1) := by decide +kernel
theorem dX3_errorPosition_5 : decode cX3_errorPosition 5 = .ok (.getfield 38, 3) := by decide +kernel
theorem dX3_errorPosition_8 : decode cX3_errorPosition 8 = .ok (.invokevirtual 71, 3) := by decide +kernel
theorem dX3_errorPosition_11 : decode cX3_errorPosition 11 = .ok (.ireturn, 1) := by decide +kernel
theorem dX3_load_0 : decode cX3_load 0 = .ok (.aload_n 0, 1) := by decide +kernel
theorem dX3_load_1 : decode cX3_load 1 = .ok (.getfield 10, 3) := by decide +kernel
theorem dX3_load_4 : decode cX3_load 4 = .ok (.aload_n 0, 1) := by decide +kernel
theorem dX3_load_5 : decode cX3_load 5 = .ok (.getfield 38, 3) := by decide +kernel
theorem dX3_load_8 : decode cX3_load 8 = .ok (.invokevirtual 71, 3) := by decide +kernel
theorem dX3_load_11 : decode cX3_load 11 = .ok (.bipush (-9), 2) := by decide +kernel
theorem dX3_load_13 : decode cX3_load 13 = .ok (.if_icmp .eq 13, 3) := by decide +kernel
theorem dX3_load_16 : decode cX3_load 16 = .ok (.new 59, 3) := by decide +kernel
theorem dX3_load_19 : decode cX3_load 19 = .ok (.dup, 1) := by decide +kernel
theorem dX3_load_20 : decode cX3_load 20 = .ok (.ldc 75, 2) := by decide +kernel
theorem dX3_load_22 : decode cX3_load 22 = .ok (.invokespecial 63, 3) := by decide +kernel
theorem dX3_load_25 : decode cX3_load 25 = .ok (.athrow, 1) := by decide +kernel
theorem dX3_load_26 : decode cX3_load 26 = .ok (.aload_n 0, 1) := by decide +kernel
theorem dX3_load_27 : decode cX3_load 27 = .ok (.getfield 19, 3) := by decide +kernel
theorem dX3_load_30 : decode cX3_load 30 = .ok (.aload_n 0, 1) := by decide +kernel
theorem dX3_load_31 : decode cX3_load 31 = .ok (.getfield 38, 3) := by decide +kernel
theorem dX3_load_34 : decode cX3_load 34 = .ok (.invokevirtual 77, 3) := by decide +kernel
theorem dX3_load_37 : decode cX3_load 37 = .ok (.aload_n 0, 1) := by decide +kernel
theorem dX3_load_38 : decode cX3_load 38 = .ok (.getfield 26, 3) := by decide +kernel
theorem dX3_load_41 : decode cX3_load 41 = .ok (.invokevirtual 81, 3) := by decide +kernel
theorem dX3_load_44 : decode cX3_load 44 = .ok (.iconst 0, 1) := by decide +kernel
theorem dX3_load_45 : decode cX3_load 45 = .ok (.istore_n 1, 1) := by decide +kernel
theorem dX3_load_46 : decode cX3_load 46 = .ok (.iload_n 1, 1) := by decide +kernel
theorem dX3_load_47 : decode cX3_load 47 = .ok (.iconst 2, 1) := by decide +kernel
theorem dX3_load_48 : decode cX3_load 48 = .ok (.if_icmp .ge 16, 3) := by decide +kernel
theorem dX3_load_51 : decode cX3_load 51 = .ok (.aload_n 0, 1) := by decide +kernel
theorem dX3_load_52 : decode cX3_load 52 = .ok (.getfield 34, 3) := by decide +kernel
theorem dX3_load_55 : decode cX3_load 55 = .ok (.iload_n 1, 1) := by decide +kernel
theorem dX3_load_56 : decode cX3_load 56 = .ok (.iconst 0, 1) := by decide +kernel
theorem dX3_load_57 : decode cX3_load 57 = .ok (.bastore, 1) := by decide +kernel
theorem dX3_load_58 : decode cX3_load 58 = .ok (.iinc 1 1, 3) := by decide +kernel
theorem dX3_load_61 : decode cX3_load 61 = .ok (.goto (-15), 3) := by decide +kernel
theorem dX3_load_64 : decode cX3_load 64 = .ok (.aload_n 0, 1) := by decide +kernel
theorem dX3_load_65 : decode cX3_load 65 = .ok (.getfield 19, 3) := by decide +kernel
theorem dX3_load_68 : decode cX3_load 68 = .ok (.getfield 84, 3) := by decide +kernel
theorem dX3_load_71 : decode cX3_load 71 = .ok (.ireturn, 1) := by decide +kernel
theorem dX3_about_0 : decode cX3_about 0 = .ok (.iload_n 1, 1) := by decide +kernel
theorem dX3_about_1 : decode cX3_about 1 = .ok (.tableswitch 135 0 9 #[55, 63, 71, 79, 87, 95, 103, 111, 119, 127], 55) := by decide +kernel
theorem dX3_about_56 : decode cX3_about 56 = .ok (.aload_n 0, 1) := by decide +kernel
theorem dX3_about_57 : decode cX3_about 57 = .ok (.getfield 19, 3) := by decide +kernel
theorem dX3_about_60 : decode cX3_about 60 = .ok (.getfield 84, 3) := by decide +kernel
theorem dX3_about_63 : decode cX3_about 63 = .ok (.ireturn, 1) := by decide +kernel
theorem dX3_about_64 : decode cX3_about 64 = .ok (.aload_n 0, 1) := by decide +kernel
theorem dX3_about_65 : decode cX3_about 65 = .ok (.getfield 19, 3) := by decide +kernel
theorem dX3_about_68 : decode cX3_about 68 = .ok (.getfield 87, 3) := by decide +kernel
theorem dX3_about_71 : decode cX3_about 71 = .ok (.ireturn, 1) := by decide +kernel
theorem dX3_about_72 : decode cX3_about 72 = .ok (.aload_n 0, 1) := by decide +kernel
theorem dX3_about_73 : decode cX3_about 73 = .ok (.getfield 19, 3) := by decide +kernel
theorem dX3_about_76 : decode cX3_about 76 = .ok (.getfield 90, 3) := by decide +kernel
theorem dX3_about_79 : decode cX3_about 79 = .ok (.ireturn, 1) := by decide +kernel
theorem dX3_about_80 : decode cX3_about 80 = .ok (.aload_n 0, 1) := by decide +kernel
theorem dX3_about_81 : decode cX3_about 81 = .ok (.getfield 19, 3) := by decide +kernel
theorem dX3_about_84 : decode cX3_about 84 = .ok (.invokevirtual 93, 3) := by decide +kernel
theorem dX3_about_87 : decode cX3_about 87 = .ok (.ireturn, 1) := by decide +kernel
theorem dX3_about_88 : decode cX3_about 88 = .ok (.aload_n 0, 1) := by decide +kernel
theorem dX3_about_89 : decode cX3_about 89 = .ok (.getfield 19, 3) := by decide +kernel
theorem dX3_about_92 : decode cX3_about 92 = .ok (.getfield 97, 3) := by decide +kernel
theorem dX3_about_95 : decode cX3_about 95 = .ok (.ireturn, 1) := by decide +kernel
theorem dX3_about_96 : decode cX3_about 96 = .ok (.aload_n 0, 1) := by decide +kernel
theorem dX3_about_97 : decode cX3_about 97 = .ok (.getfield 19, 3) := by decide +kernel
theorem dX3_about_100 : decode cX3_about 100 = .ok (.getfield 100, 3) := by decide +kernel
theorem dX3_about_103 : decode cX3_about 103 = .ok (.ireturn, 1) := by decide +kernel
theorem dX3_about_104 : decode cX3_about 104 = .ok (.aload_n 0, 1) := by decide +kernel
theorem dX3_about_105 : decode cX3_about 105 = .ok (.getfield 19, 3) := by decide +kernel
theorem dX3_about_108 : decode cX3_about 108 = .ok (.getfield 103, 3) := by decide +kernel
theorem dX3_about_111 : decode cX3_about 111 = .ok (.ireturn, 1) := by decide +kernel
theorem dX3_about_112 : decode cX3_about 112 = .ok (.aload_n 0, 1) := by decide +kernel
theorem dX3_about_113 : decode cX3_about 113 = .ok (.getfield 19, 3) := by decide +kernel
theorem dX3_about_116 : decode cX3_about 116 = .ok (.invokevirtual 106, 3) := by decide +kernel
theorem dX3_about_119 : decode cX3_about 119 = .ok (.ireturn, 1) := by decide +kernel
theorem dX3_about_120 : decode cX3_about 120 = .ok (.aload_n 0, 1) := by decide +kernel
theorem dX3_about_121 : decode cX3_about 121 = .ok (.getfield 19, 3) := by decide +kernel
theorem dX3_about_124 : decode cX3_about 124 = .ok (.getfield 109, 3) := by decide +kernel
theorem dX3_about_127 : decode cX3_about 127 = .ok (.ireturn, 1) := by decide +kernel
theorem dX3_about_128 : decode cX3_about 128 = .ok (.aload_n 0, 1) := by decide +kernel
theorem dX3_about_129 : decode cX3_about 129 = .ok (.getfield 19, 3) := by decide +kernel
theorem dX3_about_132 : decode cX3_about 132 = .ok (.invokevirtual 112, 3) := by decide +kernel
theorem dX3_about_135 : decode cX3_about 135 = .ok (.ireturn, 1) := by decide +kernel
theorem dX3_about_136 : decode cX3_about 136 = .ok (.new 48, 3) := by decide +kernel
theorem dX3_about_139 : decode cX3_about 139 = .ok (.dup, 1) := by decide +kernel
theorem dX3_about_140 : decode cX3_about 140 = .ok (.ldc 115, 2) := by decide +kernel
theorem dX3_about_142 : decode cX3_about 142 = .ok (.invokespecial 52, 3) := by decide +kernel
theorem dX3_about_145 : decode cX3_about 145 = .ok (.athrow, 1) := by decide +kernel
theorem dX3_cell_0 : decode cX3_cell 0 = .ok (.aload_n 0, 1) := by decide +kernel
theorem dX3_cell_1 : decode cX3_cell 1 = .ok (.getfield 19, 3) := by decide +kernel
theorem dX3_cell_4 : decode cX3_cell 4 = .ok (.iload_n 1, 1) := by decide +kernel
theorem dX3_cell_5 : decode cX3_cell 5 = .ok (.invokevirtual 117, 3) := by decide +kernel
theorem dX3_cell_8 : decode cX3_cell 8 = .ok (.ifCond .ne 13, 3) := by decide +kernel
theorem dX3_cell_11 : decode cX3_cell 11 = .ok (.new 121, 3) := by decide +kernel
theorem dX3_cell_14 : decode cX3_cell 14 = .ok (.dup, 1) := by decide +kernel
theorem dX3_cell_15 : decode cX3_cell 15 = .ok (.ldc 123, 2) := by decide +kernel
theorem dX3_cell_17 : decode cX3_cell 17 = .ok (.invokespecial 125, 3) := by decide +kernel
theorem dX3_cell_20 : decode cX3_cell 20 = .ok (.athrow, 1) := by decide +kernel
theorem dX3_cell_21 : decode cX3_cell 21 = .ok (.iload_n 2, 1) := by decide +kernel
theorem dX3_cell_22 : decode cX3_cell 22 = .ok (.tableswitch 122 0 7 #[46, 56, 66, 76, 86, 95, 104, 113], 46) := by decide +kernel
theorem dX3_cell_68 : decode cX3_cell 68 = .ok (.aload_n 0, 1) := by decide +kernel
theorem dX3_cell_69 : decode cX3_cell 69 = .ok (.getfield 19, 3) := by decide +kernel
theorem dX3_cell_72 : decode cX3_cell 72 = .ok (.getfield 126, 3) := by decide +kernel
theorem dX3_cell_75 : decode cX3_cell 75 = .ok (.iload_n 1, 1) := by decide +kernel
theorem dX3_cell_76 : decode cX3_cell 76 = .ok (.iaload, 1) := by decide +kernel
theorem dX3_cell_77 : decode cX3_cell 77 = .ok (.ireturn, 1) := by decide +kernel
theorem dX3_cell_78 : decode cX3_cell 78 = .ok (.aload_n 0, 1) := by decide +kernel
theorem dX3_cell_79 : decode cX3_cell 79 = .ok (.getfield 19, 3) := by decide +kernel
theorem dX3_cell_82 : decode cX3_cell 82 = .ok (.getfield 130, 3) := by decide +kernel
theorem dX3_cell_85 : decode cX3_cell 85 = .ok (.iload_n 1, 1) := by decide +kernel
theorem dX3_cell_86 : decode cX3_cell 86 = .ok (.iaload, 1) := by decide +kernel
theorem dX3_cell_87 : decode cX3_cell 87 = .ok (.ireturn, 1) := by decide +kernel
theorem dX3_cell_88 : decode cX3_cell 88 = .ok (.aload_n 0, 1) := by decide +kernel
theorem dX3_cell_89 : decode cX3_cell 89 = .ok (.getfield 19, 3) := by decide +kernel
theorem dX3_cell_92 : decode cX3_cell 92 = .ok (.getfield 133, 3) := by decide +kernel
theorem dX3_cell_95 : decode cX3_cell 95 = .ok (.iload_n 1, 1) := by decide +kernel
theorem dX3_cell_96 : decode cX3_cell 96 = .ok (.iaload, 1) := by decide +kernel
theorem dX3_cell_97 : decode cX3_cell 97 = .ok (.ireturn, 1) := by decide +kernel
theorem dX3_cell_98 : decode cX3_cell 98 = .ok (.aload_n 0, 1) := by decide +kernel
theorem dX3_cell_99 : decode cX3_cell 99 = .ok (.getfield 19, 3) := by decide +kernel
theorem dX3_cell_102 : decode cX3_cell 102 = .ok (.getfield 136, 3) := by decide +kernel
theorem dX3_cell_105 : decode cX3_cell 105 = .ok (.iload_n 1, 1) := by decide +kernel
theorem dX3_cell_106 : decode cX3_cell 106 = .ok (.iaload, 1) := by decide +kernel
theorem dX3_cell_107 : decode cX3_cell 107 = .ok (.ireturn, 1) := by decide +kernel
theorem dX3_cell_108 : decode cX3_cell 108 = .ok (.aload_n 0, 1) := by decide +kernel
theorem dX3_cell_109 : decode cX3_cell 109 = .ok (.getfield 19, 3) := by decide +kernel
theorem dX3_cell_112 : decode cX3_cell 112 = .ok (.iload_n 1, 1) := by decide +kernel
theorem dX3_cell_113 : decode cX3_cell 113 = .ok (.invokevirtual 139, 3) := by decide +kernel
theorem dX3_cell_116 : decode cX3_cell 116 = .ok (.ireturn, 1) := by decide +kernel
theorem dX3_cell_117 : decode cX3_cell 117 = .ok (.aload_n 0, 1) := by decide +kernel
theorem dX3_cell_118 : decode cX3_cell 118 = .ok (.getfield 19, 3) := by decide +kernel
theorem dX3_cell_121 : decode cX3_cell 121 = .ok (.iload_n 1, 1) := by decide +kernel
theorem dX3_cell_122 : decode cX3_cell 122 = .ok (.invokevirtual 143, 3) := by decide +kernel
theorem dX3_cell_125 : decode cX3_cell 125 = .ok (.ireturn, 1) := by decide +kernel
theorem dX3_cell_126 : decode cX3_cell 126 = .ok (.aload_n 0, 1) := by decide +kernel
theorem dX3_cell_127 : decode cX3_cell 127 = .ok (.getfield 19, 3) := by decide +kernel
theorem dX3_cell_130 : decode cX3_cell 130 = .ok (.iload_n 1, 1) := by decide +kernel
theorem dX3_cell_131 : decode cX3_cell 131 = .ok (.invokevirtual 146, 3) := by decide +kernel
theorem dX3_cell_134 : decode cX3_cell 134 = .ok (.ireturn, 1) := by decide +kernel
theorem dX3_cell_135 : decode cX3_cell 135 = .ok (.aload_n 0, 1) := by decide +kernel
theorem dX3_cell_136 : decode cX3_cell 136 = .ok (.getfield 19, 3) := by decide +kernel
theorem dX3_cell_139 : decode cX3_cell 139 = .ok (.iload_n 1, 1) := by decide +kernel
theorem dX3_cell_140 : decode cX3_cell 140 = .ok (.invokevirtual 149, 3) := by decide +kernel
theorem dX3_cell_143 : decode cX3_cell 143 = .ok (.ireturn, 1) := by decide +kernel
theorem dX3_cell_144 : decode cX3_cell 144 = .ok (.new 48, 3) := by decide +kernel
theorem dX3_cell_147 : decode cX3_cell 147 = .ok (.dup, 1) := by decide +kernel
theorem dX3_cell_148 : decode cX3_cell 148 = .ok (.ldc 152, 2) := by decide +kernel
theorem dX3_cell_150 : decode cX3_cell 150 = .ok (.invokespecial 52, 3) := by decide +kernel
theorem dX3_cell_153 : decode cX3_cell 153 = .ok (.athrow, 1) := by decide +kernel
theorem dX3_loan_0 : decode cX3_loan 0 = .ok (.aload_n 0, 1) := by decide +kernel
theorem dX3_loan_1 : decode cX3_loan 1 = .ok (.getfield 19, 3) := by decide +kernel
theorem dX3_loan_4 : decode cX3_loan 4 = .ok (.iload_n 1, 1) := by decide +kernel
theorem dX3_loan_5 : decode cX3_loan 5 = .ok (.invokevirtual 154, 3) := by decide +kernel
theorem dX3_loan_8 : decode cX3_loan 8 = .ok (.ifCond .ne 13, 3) := by decide +kernel
theorem dX3_loan_11 : decode cX3_loan 11 = .ok (.new 121, 3) := by decide +kernel
theorem dX3_loan_14 : decode cX3_loan 14 = .ok (.dup, 1) := by decide +kernel
theorem dX3_loan_15 : decode cX3_loan 15 = .ok (.ldc 157, 2) := by decide +kernel
theorem dX3_loan_17 : decode cX3_loan 17 = .ok (.invokespecial 125, 3) := by decide +kernel
theorem dX3_loan_20 : decode cX3_loan 20 = .ok (.athrow, 1) := by decide +kernel
theorem dX3_loan_21 : decode cX3_loan 21 = .ok (.iload_n 2, 1) := by decide +kernel
theorem dX3_loan_22 : decode cX3_loan 22 = .ok (.tableswitch 97 0 5 #[38, 48, 58, 68, 78, 87], 38) := by decide +kernel
theorem dX3_loan_60 : decode cX3_loan 60 = .ok (.aload_n 0, 1) := by decide +kernel
theorem dX3_loan_61 : decode cX3_loan 61 = .ok (.getfield 19, 3) := by decide +kernel
theorem dX3_loan_64 : decode cX3_loan 64 = .ok (.getfield 159, 3) := by decide +kernel
theorem dX3_loan_67 : decode cX3_loan 67 = .ok (.iload_n 1, 1) := by decide +kernel
theorem dX3_loan_68 : decode cX3_loan 68 = .ok (.iaload, 1) := by decide +kernel
theorem dX3_loan_69 : decode cX3_loan 69 = .ok (.ireturn, 1) := by decide +kernel
theorem dX3_loan_70 : decode cX3_loan 70 = .ok (.aload_n 0, 1) := by decide +kernel
theorem dX3_loan_71 : decode cX3_loan 71 = .ok (.getfield 19, 3) := by decide +kernel
theorem dX3_loan_74 : decode cX3_loan 74 = .ok (.getfield 162, 3) := by decide +kernel
theorem dX3_loan_77 : decode cX3_loan 77 = .ok (.iload_n 1, 1) := by decide +kernel
theorem dX3_loan_78 : decode cX3_loan 78 = .ok (.iaload, 1) := by decide +kernel
theorem dX3_loan_79 : decode cX3_loan 79 = .ok (.ireturn, 1) := by decide +kernel
theorem dX3_loan_80 : decode cX3_loan 80 = .ok (.aload_n 0, 1) := by decide +kernel
theorem dX3_loan_81 : decode cX3_loan 81 = .ok (.getfield 19, 3) := by decide +kernel
theorem dX3_loan_84 : decode cX3_loan 84 = .ok (.getfield 165, 3) := by decide +kernel
theorem dX3_loan_87 : decode cX3_loan 87 = .ok (.iload_n 1, 1) := by decide +kernel
theorem dX3_loan_88 : decode cX3_loan 88 = .ok (.iaload, 1) := by decide +kernel
theorem dX3_loan_89 : decode cX3_loan 89 = .ok (.ireturn, 1) := by decide +kernel
theorem dX3_loan_90 : decode cX3_loan 90 = .ok (.aload_n 0, 1) := by decide +kernel
theorem dX3_loan_91 : decode cX3_loan 91 = .ok (.getfield 19, 3) := by decide +kernel
theorem dX3_loan_94 : decode cX3_loan 94 = .ok (.getfield 168, 3) := by decide +kernel
theorem dX3_loan_97 : decode cX3_loan 97 = .ok (.iload_n 1, 1) := by decide +kernel
theorem dX3_loan_98 : decode cX3_loan 98 = .ok (.iaload, 1) := by decide +kernel
theorem dX3_loan_99 : decode cX3_loan 99 = .ok (.ireturn, 1) := by decide +kernel
theorem dX3_loan_100 : decode cX3_loan 100 = .ok (.aload_n 0, 1) := by decide +kernel
theorem dX3_loan_101 : decode cX3_loan 101 = .ok (.getfield 19, 3) := by decide +kernel
theorem dX3_loan_104 : decode cX3_loan 104 = .ok (.iload_n 1, 1) := by decide +kernel
theorem dX3_loan_105 : decode cX3_loan 105 = .ok (.invokevirtual 171, 3) := by decide +kernel
theorem dX3_loan_108 : decode cX3_loan 108 = .ok (.ireturn, 1) := by decide +kernel
theorem dX3_loan_109 : decode cX3_loan 109 = .ok (.aload_n 0, 1) := by decide +kernel
theorem dX3_loan_110 : decode cX3_loan 110 = .ok (.getfield 19, 3) := by decide +kernel
theorem dX3_loan_113 : decode cX3_loan 113 = .ok (.getfield 174, 3) := by decide +kernel
theorem dX3_loan_116 : decode cX3_loan 116 = .ok (.iload_n 1, 1) := by decide +kernel
theorem dX3_loan_117 : decode cX3_loan 117 = .ok (.iaload, 1) := by decide +kernel
theorem dX3_loan_118 : decode cX3_loan 118 = .ok (.ireturn, 1) := by decide +kernel
theorem dX3_loan_119 : decode cX3_loan 119 = .ok (.new 48, 3) := by decide +kernel
theorem dX3_loan_122 : decode cX3_loan 122 = .ok (.dup, 1) := by decide +kernel
theorem dX3_loan_123 : decode cX3_loan 123 = .ok (.ldc 177, 2) := by decide +kernel
theorem dX3_loan_125 : decode cX3_loan 125 = .ok (.invokespecial 52, 3) := by decide +kernel
theorem dX3_loan_128 : decode cX3_loan 128 = .ok (.athrow, 1) := by decide +kernel
theorem dX3_order_0 : decode cX3_order 0 = .ok (.iload_n 1, 1) := by decide +kernel
theorem dX3_order_1 : decode cX3_order 1 = .ok (.ifCond .ge 13, 3) := by decide +kernel
theorem dX3_order_4 : decode cX3_order 4 = .ok (.new 48, 3) := by decide +kernel
theorem dX3_order_7 : decode cX3_order 7 = .ok (.dup, 1) := by decide +kernel
theorem dX3_order_8 : decode cX3_order 8 = .ok (.ldc 179, 2) := by decide +kernel
theorem dX3_order_10 : decode cX3_order 10 = .ok (.invokespecial 52, 3) := by decide +kernel
theorem dX3_order_13 : decode cX3_order 13 = .ok (.athrow, 1) := by decide +kernel
theorem dX3_order_14 : decode cX3_order 14 = .ok (.aload_n 0, 1) := by decide +kernel
theorem dX3_order_15 : decode cX3_order 15 = .ok (.getfield 19, 3) := by decide +kernel
theorem dX3_order_18 : decode cX3_order 18 = .ok (.iload_n 1, 1) := by decide +kernel
theorem dX3_order_19 : decode cX3_order 19 = .ok (.invokevirtual 181, 3) := by decide +kernel
theorem dX3_order_22 : decode cX3_order 22 = .ok (.ireturn, 1) := by decide +kernel
theorem dX3_addCell_0 : decode cX3_addCell 0 = .ok (.iload_n 1, 1) := by decide +kernel
theorem dX3_addCell_1 : decode cX3_addCell 1 = .ok (.bipush 10, 2) := by decide +kernel
theorem dX3_addCell_3 : decode cX3_addCell 3 = .ok (.bipush 99, 2) := by decide +kernel
theorem dX3_addCell_5 : decode cX3_addCell 5 = .ok (.invokestatic 44, 3) := by decide +kernel
theorem dX3_addCell_8 : decode cX3_addCell 8 = .ok (.ifCond .eq 21, 3) := by decide +kernel
theorem dX3_addCell_11 : decode cX3_addCell 11 = .ok (.iload_n 2, 1) := by decide +kernel
theorem dX3_addCell_12 : decode cX3_addCell 12 = .ok (.iconst 0, 1) := by decide +kernel
theorem dX3_addCell_13 : decode cX3_addCell 13 = .ok (.iload_n 1, 1) := by decide +kernel
theorem dX3_addCell_14 : decode cX3_addCell 14 = .ok (.invokestatic 44, 3) := by decide +kernel
theorem dX3_addCell_17 : decode cX3_addCell 17 = .ok (.ifCond .eq 12, 3) := by decide +kernel
theorem dX3_addCell_20 : decode cX3_addCell 20 = .ok (.iload_n 3, 1) := by decide +kernel
theorem dX3_addCell_21 : decode cX3_addCell 21 = .ok (.iconst 0, 1) := by decide +kernel
theorem dX3_addCell_22 : decode cX3_addCell 22 = .ok (.iconst 3, 1) := by decide +kernel
theorem dX3_addCell_23 : decode cX3_addCell 23 = .ok (.invokestatic 44, 3) := by decide +kernel
theorem dX3_addCell_26 : decode cX3_addCell 26 = .ok (.ifCond .ne 13, 3) := by decide +kernel
theorem dX3_addCell_29 : decode cX3_addCell 29 = .ok (.new 48, 3) := by decide +kernel
theorem dX3_addCell_32 : decode cX3_addCell 32 = .ok (.dup, 1) := by decide +kernel
theorem dX3_addCell_33 : decode cX3_addCell 33 = .ok (.ldc 184, 2) := by decide +kernel
theorem dX3_addCell_35 : decode cX3_addCell 35 = .ok (.invokespecial 52, 3) := by decide +kernel
theorem dX3_addCell_38 : decode cX3_addCell 38 = .ok (.athrow, 1) := by decide +kernel
theorem dX3_addCell_39 : decode cX3_addCell 39 = .ok (.aload_n 0, 1) := by decide +kernel
theorem dX3_addCell_40 : decode cX3_addCell 40 = .ok (.getfield 19, 3) := by decide +kernel
theorem dX3_addCell_43 : decode cX3_addCell 43 = .ok (.getfield 84, 3) := by decide +kernel
theorem dX3_addCell_46 : decode cX3_addCell 46 = .ok (.bipush 8, 2) := by decide +kernel
theorem dX3_addCell_48 : decode cX3_addCell 48 = .ok (.if_icmp .lt 13, 3) := by decide +kernel
theorem dX3_addCell_51 : decode cX3_addCell 51 = .ok (.new 59, 3) := by decide +kernel
theorem dX3_addCell_54 : decode cX3_addCell 54 = .ok (.dup, 1) := by decide +kernel
theorem dX3_addCell_55 : decode cX3_addCell 55 = .ok (.ldc 186, 2) := by decide +kernel
theorem dX3_addCell_57 : decode cX3_addCell 57 = .ok (.invokespecial 63, 3) := by decide +kernel
theorem dX3_addCell_60 : decode cX3_addCell 60 = .ok (.athrow, 1) := by decide +kernel
theorem dX3_addCell_61 : decode cX3_addCell 61 = .ok (.aload_n 0, 1) := by decide +kernel
theorem dX3_addCell_62 : decode cX3_addCell 62 = .ok (.getfield 26, 3) := by decide +kernel
theorem dX3_addCell_65 : decode cX3_addCell 65 = .ok (.aload_n 0, 1) := by decide +kernel
theorem dX3_addCell_66 : decode cX3_addCell 66 = .ok (.getfield 19, 3) := by decide +kernel
theorem dX3_addCell_69 : decode cX3_addCell 69 = .ok (.invokevirtual 188, 3) := by decide +kernel
theorem dX3_addCell_72 : decode cX3_addCell 72 = .ok (.aload_n 0, 1) := by decide +kernel
theorem dX3_addCell_73 : decode cX3_addCell 73 = .ok (.getfield 19, 3) := by decide +kernel
theorem dX3_addCell_76 : decode cX3_addCell 76 = .ok (.iload_n 1, 1) := by decide +kernel
theorem dX3_addCell_77 : decode cX3_addCell 77 = .ok (.iload_n 2, 1) := by decide +kernel
theorem dX3_addCell_78 : decode cX3_addCell 78 = .ok (.iload_n 3, 1) := by decide +kernel
theorem dX3_addCell_79 : decode cX3_addCell 79 = .ok (.invokevirtual 191, 3) := by decide +kernel
theorem dX3_addCell_82 : decode cX3_addCell 82 = .ok (.ireturn, 1) := by decide +kernel
theorem dX3_lend_0 : decode cX3_lend 0 = .ok (.aload_n 0, 1) := by decide +kernel
theorem dX3_lend_1 : decode cX3_lend 1 = .ok (.getfield 19, 3) := by decide +kernel
theorem dX3_lend_4 : decode cX3_lend 4 = .ok (.iload_n 1, 1) := by decide +kernel
theorem dX3_lend_5 : decode cX3_lend 5 = .ok (.invokevirtual 117, 3) := by decide +kernel
theorem dX3_lend_8 : decode cX3_lend 8 = .ok (.ifCond .eq 14, 3) := by decide +kernel
theorem dX3_lend_11 : decode cX3_lend 11 = .ok (.aload_n 0, 1) := by decide +kernel
theorem dX3_lend_12 : decode cX3_lend 12 = .ok (.getfield 19, 3) := by decide +kernel
theorem dX3_lend_15 : decode cX3_lend 15 = .ok (.iload_n 2, 1) := by decide +kernel
theorem dX3_lend_16 : decode cX3_lend 16 = .ok (.invokevirtual 117, 3) := by decide +kernel
theorem dX3_lend_19 : decode cX3_lend 19 = .ok (.ifCond .ne 13, 3) := by decide +kernel
theorem dX3_lend_22 : decode cX3_lend 22 = .ok (.new 121, 3) := by decide +kernel
theorem dX3_lend_25 : decode cX3_lend 25 = .ok (.dup, 1) := by decide +kernel
theorem dX3_lend_26 : decode cX3_lend 26 = .ok (.ldc 123, 2) := by decide +kernel
theorem dX3_lend_28 : decode cX3_lend 28 = .ok (.invokespecial 125, 3) := by decide +kernel
theorem dX3_lend_31 : decode cX3_lend 31 = .ok (.athrow, 1) := by decide +kernel
theorem dX3_lend_32 : decode cX3_lend 32 = .ok (.iload_n 1, 1) := by decide +kernel
theorem dX3_lend_33 : decode cX3_lend 33 = .ok (.iload_n 2, 1) := by decide +kernel
theorem dX3_lend_34 : decode cX3_lend 34 = .ok (.if_icmp .eq 21, 3) := by decide +kernel
theorem dX3_lend_37 : decode cX3_lend 37 = .ok (.iload_n 3, 1) := by decide +kernel
theorem dX3_lend_38 : decode cX3_lend 38 = .ok (.invokestatic 195, 3) := by decide +kernel
theorem dX3_lend_41 : decode cX3_lend 41 = .ok (.ifCond .eq 14, 3) := by decide +kernel
theorem dX3_lend_44 : decode cX3_lend 44 = .ok (.iload 4, 2) := by decide +kernel
theorem dX3_lend_46 : decode cX3_lend 46 = .ok (.iconst 0, 1) := by decide +kernel
theorem dX3_lend_47 : decode cX3_lend 47 = .ok (.bipush 50, 2) := by decide +kernel
theorem dX3_lend_49 : decode cX3_lend 49 = .ok (.invokestatic 44, 3) := by decide +kernel
theorem dX3_lend_52 : decode cX3_lend 52 = .ok (.ifCond .ne 13, 3) := by decide +kernel
theorem dX3_lend_55 : decode cX3_lend 55 = .ok (.new 48, 3) := by decide +kernel
theorem dX3_lend_58 : decode cX3_lend 58 = .ok (.dup, 1) := by decide +kernel
theorem dX3_lend_59 : decode cX3_lend 59 = .ok (.ldc 198, 2) := by decide +kernel
theorem dX3_lend_61 : decode cX3_lend 61 = .ok (.invokespecial 52, 3) := by decide +kernel
theorem dX3_lend_64 : decode cX3_lend 64 = .ok (.athrow, 1) := by decide +kernel
theorem dX3_lend_65 : decode cX3_lend 65 = .ok (.aload_n 0, 1) := by decide +kernel
theorem dX3_lend_66 : decode cX3_lend 66 = .ok (.getfield 19, 3) := by decide +kernel
theorem dX3_lend_69 : decode cX3_lend 69 = .ok (.iload_n 1, 1) := by decide +kernel
theorem dX3_lend_70 : decode cX3_lend 70 = .ok (.iload_n 2, 1) := by decide +kernel
theorem dX3_lend_71 : decode cX3_lend 71 = .ok (.iload_n 3, 1) := by decide +kernel
theorem dX3_lend_72 : decode cX3_lend 72 = .ok (.invokevirtual 200, 3) := by decide +kernel
theorem dX3_lend_75 : decode cX3_lend 75 = .ok (.ifCond .ne 13, 3) := by decide +kernel
theorem dX3_lend_78 : decode cX3_lend 78 = .ok (.new 59, 3) := by decide +kernel
theorem dX3_lend_81 : decode cX3_lend 81 = .ok (.dup, 1) := by decide +kernel
theorem dX3_lend_82 : decode cX3_lend 82 = .ok (.ldc 203, 2) := by decide +kernel
theorem dX3_lend_84 : decode cX3_lend 84 = .ok (.invokespecial 63, 3) := by decide +kernel
theorem dX3_lend_87 : decode cX3_lend 87 = .ok (.athrow, 1) := by decide +kernel
theorem dX3_lend_88 : decode cX3_lend 88 = .ok (.aload_n 0, 1) := by decide +kernel
theorem dX3_lend_89 : decode cX3_lend 89 = .ok (.getfield 26, 3) := by decide +kernel
theorem dX3_lend_92 : decode cX3_lend 92 = .ok (.aload_n 0, 1) := by decide +kernel
theorem dX3_lend_93 : decode cX3_lend 93 = .ok (.getfield 19, 3) := by decide +kernel
theorem dX3_lend_96 : decode cX3_lend 96 = .ok (.invokevirtual 188, 3) := by decide +kernel
theorem dX3_lend_99 : decode cX3_lend 99 = .ok (.aload_n 0, 1) := by decide +kernel
theorem dX3_lend_100 : decode cX3_lend 100 = .ok (.getfield 19, 3) := by decide +kernel
theorem dX3_lend_103 : decode cX3_lend 103 = .ok (.iload_n 1, 1) := by decide +kernel
theorem dX3_lend_104 : decode cX3_lend 104 = .ok (.iload_n 2, 1) := by decide +kernel
theorem dX3_lend_105 : decode cX3_lend 105 = .ok (.iload_n 3, 1) := by decide +kernel
theorem dX3_lend_106 : decode cX3_lend 106 = .ok (.iload 4, 2) := by decide +kernel
theorem dX3_lend_108 : decode cX3_lend 108 = .ok (.invokevirtual 205, 3) := by decide +kernel
theorem dX3_lend_111 : decode cX3_lend 111 = .ok (.ireturn, 1) := by decide +kernel
theorem dX3_repay_0 : decode cX3_repay 0 = .ok (.aload_n 0, 1) := by decide +kernel
theorem dX3_repay_1 : decode cX3_repay 1 = .ok (.getfield 19, 3) := by decide +kernel
theorem dX3_repay_4 : decode cX3_repay 4 = .ok (.iload_n 1, 1) := by decide +kernel
theorem dX3_repay_5 : decode cX3_repay 5 = .ok (.invokevirtual 154, 3) := by decide +kernel
theorem dX3_repay_8 : decode cX3_repay 8 = .ok (.ifCond .ne 13, 3) := by decide +kernel
theorem dX3_repay_11 : decode cX3_repay 11 = .ok (.new 121, 3) := by decide +kernel
theorem dX3_repay_14 : decode cX3_repay 14 = .ok (.dup, 1) := by decide +kernel
theorem dX3_repay_15 : decode cX3_repay 15 = .ok (.ldc 157, 2) := by decide +kernel
theorem dX3_repay_17 : decode cX3_repay 17 = .ok (.invokespecial 125, 3) := by decide +kernel
theorem dX3_repay_20 : decode cX3_repay 20 = .ok (.athrow, 1) := by decide +kernel
theorem dX3_repay_21 : decode cX3_repay 21 = .ok (.iload_n 2, 1) := by decide +kernel
theorem dX3_repay_22 : decode cX3_repay 22 = .ok (.invokestatic 195, 3) := by decide +kernel
theorem dX3_repay_25 : decode cX3_repay 25 = .ok (.ifCond .ne 13, 3) := by decide +kernel
theorem dX3_repay_28 : decode cX3_repay 28 = .ok (.new 48, 3) := by decide +kernel
theorem dX3_repay_31 : decode cX3_repay 31 = .ok (.dup, 1) := by decide +kernel
theorem dX3_repay_32 : decode cX3_repay 32 = .ok (.ldc 209, 2) := by decide +kernel
theorem dX3_repay_34 : decode cX3_repay 34 = .ok (.invokespecial 52, 3) := by decide +kernel
theorem dX3_repay_37 : decode cX3_repay 37 = .ok (.athrow, 1) := by decide +kernel
theorem dX3_repay_38 : decode cX3_repay 38 = .ok (.aload_n 0, 1) := by decide +kernel
theorem dX3_repay_39 : decode cX3_repay 39 = .ok (.getfield 19, 3) := by decide +kernel
theorem dX3_repay_42 : decode cX3_repay 42 = .ok (.iload_n 1, 1) := by decide +kernel
theorem dX3_repay_43 : decode cX3_repay 43 = .ok (.iload_n 2, 1) := by decide +kernel
theorem dX3_repay_44 : decode cX3_repay 44 = .ok (.invokevirtual 211, 3) := by decide +kernel
theorem dX3_repay_47 : decode cX3_repay 47 = .ok (.ifCond .ne 13, 3) := by decide +kernel
theorem dX3_repay_50 : decode cX3_repay 50 = .ok (.new 59, 3) := by decide +kernel
theorem dX3_repay_53 : decode cX3_repay 53 = .ok (.dup, 1) := by decide +kernel
theorem dX3_repay_54 : decode cX3_repay 54 = .ok (.ldc 215, 2) := by decide +kernel
theorem dX3_repay_56 : decode cX3_repay 56 = .ok (.invokespecial 63, 3) := by decide +kernel
theorem dX3_repay_59 : decode cX3_repay 59 = .ok (.athrow, 1) := by decide +kernel
theorem dX3_repay_60 : decode cX3_repay 60 = .ok (.aload_n 0, 1) := by decide +kernel
theorem dX3_repay_61 : decode cX3_repay 61 = .ok (.getfield 26, 3) := by decide +kernel
theorem dX3_repay_64 : decode cX3_repay 64 = .ok (.aload_n 0, 1) := by decide +kernel
theorem dX3_repay_65 : decode cX3_repay 65 = .ok (.getfield 19, 3) := by decide +kernel
theorem dX3_repay_68 : decode cX3_repay 68 = .ok (.invokevirtual 188, 3) := by decide +kernel
theorem dX3_repay_71 : decode cX3_repay 71 = .ok (.aload_n 0, 1) := by decide +kernel
theorem dX3_repay_72 : decode cX3_repay 72 = .ok (.getfield 19, 3) := by decide +kernel
theorem dX3_repay_75 : decode cX3_repay 75 = .ok (.iload_n 1, 1) := by decide +kernel
theorem dX3_repay_76 : decode cX3_repay 76 = .ok (.iload_n 2, 1) := by decide +kernel
theorem dX3_repay_77 : decode cX3_repay 77 = .ok (.invokevirtual 217, 3) := by decide +kernel
theorem dX3_repay_80 : decode cX3_repay 80 = .ok (.ireturn, 1) := by decide +kernel
theorem dX3_setLeak_0 : decode cX3_setLeak 0 = .ok (.aload_n 0, 1) := by decide +kernel
theorem dX3_setLeak_1 : decode cX3_setLeak 1 = .ok (.getfield 19, 3) := by decide +kernel
theorem dX3_setLeak_4 : decode cX3_setLeak 4 = .ok (.iload_n 1, 1) := by decide +kernel
theorem dX3_setLeak_5 : decode cX3_setLeak 5 = .ok (.invokevirtual 117, 3) := by decide +kernel
theorem dX3_setLeak_8 : decode cX3_setLeak 8 = .ok (.ifCond .ne 13, 3) := by decide +kernel
theorem dX3_setLeak_11 : decode cX3_setLeak 11 = .ok (.new 121, 3) := by decide +kernel
theorem dX3_setLeak_14 : decode cX3_setLeak 14 = .ok (.dup, 1) := by decide +kernel
theorem dX3_setLeak_15 : decode cX3_setLeak 15 = .ok (.ldc 123, 2) := by decide +kernel
theorem dX3_setLeak_17 : decode cX3_setLeak 17 = .ok (.invokespecial 125, 3) := by decide +kernel
theorem dX3_setLeak_20 : decode cX3_setLeak 20 = .ok (.athrow, 1) := by decide +kernel
theorem dX3_setLeak_21 : decode cX3_setLeak 21 = .ok (.iload_n 2, 1) := by decide +kernel
theorem dX3_setLeak_22 : decode cX3_setLeak 22 = .ok (.iconst 0, 1) := by decide +kernel
theorem dX3_setLeak_23 : decode cX3_setLeak 23 = .ok (.iconst 3, 1) := by decide +kernel
theorem dX3_setLeak_24 : decode cX3_setLeak 24 = .ok (.invokestatic 44, 3) := by decide +kernel
theorem dX3_setLeak_27 : decode cX3_setLeak 27 = .ok (.ifCond .ne 13, 3) := by decide +kernel
theorem dX3_setLeak_30 : decode cX3_setLeak 30 = .ok (.new 48, 3) := by decide +kernel
theorem dX3_setLeak_33 : decode cX3_setLeak 33 = .ok (.dup, 1) := by decide +kernel
theorem dX3_setLeak_34 : decode cX3_setLeak 34 = .ok (.ldc 221, 2) := by decide +kernel
theorem dX3_setLeak_36 : decode cX3_setLeak 36 = .ok (.invokespecial 52, 3) := by decide +kernel
theorem dX3_setLeak_39 : decode cX3_setLeak 39 = .ok (.athrow, 1) := by decide +kernel
theorem dX3_setLeak_40 : decode cX3_setLeak 40 = .ok (.aload_n 0, 1) := by decide +kernel
theorem dX3_setLeak_41 : decode cX3_setLeak 41 = .ok (.getfield 26, 3) := by decide +kernel
theorem dX3_setLeak_44 : decode cX3_setLeak 44 = .ok (.aload_n 0, 1) := by decide +kernel
theorem dX3_setLeak_45 : decode cX3_setLeak 45 = .ok (.getfield 19, 3) := by decide +kernel
theorem dX3_setLeak_48 : decode cX3_setLeak 48 = .ok (.invokevirtual 188, 3) := by decide +kernel
theorem dX3_setLeak_51 : decode cX3_setLeak 51 = .ok (.aload_n 0, 1) := by decide +kernel
theorem dX3_setLeak_52 : decode cX3_setLeak 52 = .ok (.getfield 19, 3) := by decide +kernel
theorem dX3_setLeak_55 : decode cX3_setLeak 55 = .ok (.getfield 133, 3) := by decide +kernel
theorem dX3_setLeak_58 : decode cX3_setLeak 58 = .ok (.iload_n 1, 1) := by decide +kernel
theorem dX3_setLeak_59 : decode cX3_setLeak 59 = .ok (.iaload, 1) := by decide +kernel
theorem dX3_setLeak_60 : decode cX3_setLeak 60 = .ok (.istore_n 3, 1) := by decide +kernel
theorem dX3_setLeak_61 : decode cX3_setLeak 61 = .ok (.aload_n 0, 1) := by decide +kernel
theorem dX3_setLeak_62 : decode cX3_setLeak 62 = .ok (.getfield 19, 3) := by decide +kernel
theorem dX3_setLeak_65 : decode cX3_setLeak 65 = .ok (.getfield 133, 3) := by decide +kernel
theorem dX3_setLeak_68 : decode cX3_setLeak 68 = .ok (.iload_n 1, 1) := by decide +kernel
theorem dX3_setLeak_69 : decode cX3_setLeak 69 = .ok (.iload_n 2, 1) := by decide +kernel
theorem dX3_setLeak_70 : decode cX3_setLeak 70 = .ok (.iastore, 1) := by decide +kernel
theorem dX3_setLeak_71 : decode cX3_setLeak 71 = .ok (.iload_n 3, 1) := by decide +kernel
theorem dX3_setLeak_72 : decode cX3_setLeak 72 = .ok (.ireturn, 1) := by decide +kernel
theorem dX3_charge_0 : decode cX3_charge 0 = .ok (.iload_n 1, 1) := by decide +kernel
theorem dX3_charge_1 : decode cX3_charge 1 = .ok (.invokestatic 195, 3) := by decide +kernel
theorem dX3_charge_4 : decode cX3_charge 4 = .ok (.ifCond .ne 13, 3) := by decide +kernel
theorem dX3_charge_7 : decode cX3_charge 7 = .ok (.new 48, 3) := by decide +kernel
theorem dX3_charge_10 : decode cX3_charge 10 = .ok (.dup, 1) := by decide +kernel
theorem dX3_charge_11 : decode cX3_charge 11 = .ok (.ldc 209, 2) := by decide +kernel
theorem dX3_charge_13 : decode cX3_charge 13 = .ok (.invokespecial 52, 3) := by decide +kernel
theorem dX3_charge_16 : decode cX3_charge 16 = .ok (.athrow, 1) := by decide +kernel
theorem dX3_charge_17 : decode cX3_charge 17 = .ok (.aload_n 0, 1) := by decide +kernel
theorem dX3_charge_18 : decode cX3_charge 18 = .ok (.getfield 26, 3) := by decide +kernel
theorem dX3_charge_21 : decode cX3_charge 21 = .ok (.aload_n 0, 1) := by decide +kernel
theorem dX3_charge_22 : decode cX3_charge 22 = .ok (.getfield 19, 3) := by decide +kernel
theorem dX3_charge_25 : decode cX3_charge 25 = .ok (.invokevirtual 188, 3) := by decide +kernel
theorem dX3_charge_28 : decode cX3_charge 28 = .ok (.aload_n 0, 1) := by decide +kernel
theorem dX3_charge_29 : decode cX3_charge 29 = .ok (.getfield 19, 3) := by decide +kernel
theorem dX3_charge_32 : decode cX3_charge 32 = .ok (.iload_n 1, 1) := by decide +kernel
theorem dX3_charge_33 : decode cX3_charge 33 = .ok (.invokevirtual 223, 3) := by decide +kernel
theorem dX3_charge_36 : decode cX3_charge 36 = .ok (.ireturn, 1) := by decide +kernel
theorem dX3_draw_0 : decode cX3_draw 0 = .ok (.iload_n 1, 1) := by decide +kernel
theorem dX3_draw_1 : decode cX3_draw 1 = .ok (.invokestatic 195, 3) := by decide +kernel
theorem dX3_draw_4 : decode cX3_draw 4 = .ok (.ifCond .ne 13, 3) := by decide +kernel
theorem dX3_draw_7 : decode cX3_draw 7 = .ok (.new 48, 3) := by decide +kernel
theorem dX3_draw_10 : decode cX3_draw 10 = .ok (.dup, 1) := by decide +kernel
theorem dX3_draw_11 : decode cX3_draw 11 = .ok (.ldc 209, 2) := by decide +kernel
theorem dX3_draw_13 : decode cX3_draw 13 = .ok (.invokespecial 52, 3) := by decide +kernel
theorem dX3_draw_16 : decode cX3_draw 16 = .ok (.athrow, 1) := by decide +kernel
theorem dX3_draw_17 : decode cX3_draw 17 = .ok (.aload_n 0, 1) := by decide +kernel
theorem dX3_draw_18 : decode cX3_draw 18 = .ok (.getfield 38, 3) := by decide +kernel
theorem dX3_draw_21 : decode cX3_draw 21 = .ok (.aload_n 0, 1) := by decide +kernel
theorem dX3_draw_22 : decode cX3_draw 22 = .ok (.getfield 19, 3) := by decide +kernel
theorem dX3_draw_25 : decode cX3_draw 25 = .ok (.invokevirtual 77, 3) := by decide +kernel
theorem dX3_draw_28 : decode cX3_draw 28 = .ok (.aload_n 0, 1) := by decide +kernel
theorem dX3_draw_29 : decode cX3_draw 29 = .ok (.getfield 38, 3) := by decide +kernel
theorem dX3_draw_32 : decode cX3_draw 32 = .ok (.iload_n 1, 1) := by decide +kernel
theorem dX3_draw_33 : decode cX3_draw 33 = .ok (.invokevirtual 226, 3) := by decide +kernel
theorem dX3_draw_36 : decode cX3_draw 36 = .ok (.istore_n 2, 1) := by decide +kernel
theorem dX3_draw_37 : decode cX3_draw 37 = .ok (.iload_n 2, 1) := by decide +kernel
theorem dX3_draw_38 : decode cX3_draw 38 = .ok (.ifCond .ne 13, 3) := by decide +kernel
theorem dX3_draw_41 : decode cX3_draw 41 = .ok (.new 59, 3) := by decide +kernel
theorem dX3_draw_44 : decode cX3_draw 44 = .ok (.dup, 1) := by decide +kernel
theorem dX3_draw_45 : decode cX3_draw 45 = .ok (.ldc 229, 2) := by decide +kernel
theorem dX3_draw_47 : decode cX3_draw 47 = .ok (.invokespecial 63, 3) := by decide +kernel
theorem dX3_draw_50 : decode cX3_draw 50 = .ok (.athrow, 1) := by decide +kernel
theorem dX3_draw_51 : decode cX3_draw 51 = .ok (.aload_n 0, 1) := by decide +kernel
theorem dX3_draw_52 : decode cX3_draw 52 = .ok (.getfield 26, 3) := by decide +kernel
theorem dX3_draw_55 : decode cX3_draw 55 = .ok (.aload_n 0, 1) := by decide +kernel
theorem dX3_draw_56 : decode cX3_draw 56 = .ok (.getfield 19, 3) := by decide +kernel
theorem dX3_draw_59 : decode cX3_draw 59 = .ok (.invokevirtual 188, 3) := by decide +kernel
theorem dX3_draw_62 : decode cX3_draw 62 = .ok (.aload_n 0, 1) := by decide +kernel
theorem dX3_draw_63 : decode cX3_draw 63 = .ok (.getfield 19, 3) := by decide +kernel
theorem dX3_draw_66 : decode cX3_draw 66 = .ok (.aload_n 0, 1) := by decide +kernel
theorem dX3_draw_67 : decode cX3_draw 67 = .ok (.getfield 38, 3) := by decide +kernel
theorem dX3_draw_70 : decode cX3_draw 70 = .ok (.invokevirtual 77, 3) := by decide +kernel
theorem dX3_draw_73 : decode cX3_draw 73 = .ok (.iload_n 2, 1) := by decide +kernel
theorem dX3_draw_74 : decode cX3_draw 74 = .ok (.ireturn, 1) := by decide +kernel
theorem dX3_pass_0 : decode cX3_pass 0 = .ok (.iload_n 1, 1) := by decide +kernel
theorem dX3_pass_1 : decode cX3_pass 1 = .ok (.iconst 1, 1) := by decide +kernel
theorem dX3_pass_2 : decode cX3_pass 2 = .ok (.bipush 50, 2) := by decide +kernel
theorem dX3_pass_4 : decode cX3_pass 4 = .ok (.invokestatic 44, 3) := by decide +kernel
theorem dX3_pass_7 : decode cX3_pass 7 = .ok (.ifCond .ne 13, 3) := by decide +kernel
theorem dX3_pass_10 : decode cX3_pass 10 = .ok (.new 48, 3) := by decide +kernel
theorem dX3_pass_13 : decode cX3_pass 13 = .ok (.dup, 1) := by decide +kernel
theorem dX3_pass_14 : decode cX3_pass 14 = .ok (.ldc 231, 2) := by decide +kernel
theorem dX3_pass_16 : decode cX3_pass 16 = .ok (.invokespecial 52, 3) := by decide +kernel
theorem dX3_pass_19 : decode cX3_pass 19 = .ok (.athrow, 1) := by decide +kernel
theorem dX3_pass_20 : decode cX3_pass 20 = .ok (.aload_n 0, 1) := by decide +kernel
theorem dX3_pass_21 : decode cX3_pass 21 = .ok (.getfield 26, 3) := by decide +kernel
theorem dX3_pass_24 : decode cX3_pass 24 = .ok (.aload_n 0, 1) := by decide +kernel
theorem dX3_pass_25 : decode cX3_pass 25 = .ok (.getfield 19, 3) := by decide +kernel
theorem dX3_pass_28 : decode cX3_pass 28 = .ok (.invokevirtual 188, 3) := by decide +kernel
theorem dX3_pass_31 : decode cX3_pass 31 = .ok (.aload_n 0, 1) := by decide +kernel
theorem dX3_pass_32 : decode cX3_pass 32 = .ok (.getfield 19, 3) := by decide +kernel
theorem dX3_pass_35 : decode cX3_pass 35 = .ok (.iload_n 1, 1) := by decide +kernel
theorem dX3_pass_36 : decode cX3_pass 36 = .ok (.invokevirtual 233, 3) := by decide +kernel
theorem dX3_pass_39 : decode cX3_pass 39 = .ok (.ireturn, 1) := by decide +kernel
theorem dX3_undo_0 : decode cX3_undo 0 = .ok (.aload_n 0, 1) := by decide +kernel
theorem dX3_undo_1 : decode cX3_undo 1 = .ok (.getfield 26, 3) := by decide +kernel
theorem dX3_undo_4 : decode cX3_undo 4 = .ok (.getfield 236, 3) := by decide +kernel
theorem dX3_undo_7 : decode cX3_undo 7 = .ok (.ifCond .ne 13, 3) := by decide +kernel
theorem dX3_undo_10 : decode cX3_undo 10 = .ok (.new 59, 3) := by decide +kernel
theorem dX3_undo_13 : decode cX3_undo 13 = .ok (.dup, 1) := by decide +kernel
theorem dX3_undo_14 : decode cX3_undo 14 = .ok (.ldc 239, 2) := by decide +kernel
theorem dX3_undo_16 : decode cX3_undo 16 = .ok (.invokespecial 63, 3) := by decide +kernel
theorem dX3_undo_19 : decode cX3_undo 19 = .ok (.athrow, 1) := by decide +kernel
theorem dX3_undo_20 : decode cX3_undo 20 = .ok (.aload_n 0, 1) := by decide +kernel
theorem dX3_undo_21 : decode cX3_undo 21 = .ok (.getfield 26, 3) := by decide +kernel
theorem dX3_undo_24 : decode cX3_undo 24 = .ok (.aload_n 0, 1) := by decide +kernel
theorem dX3_undo_25 : decode cX3_undo 25 = .ok (.getfield 19, 3) := by decide +kernel
theorem dX3_undo_28 : decode cX3_undo 28 = .ok (.invokevirtual 241, 3) := by decide +kernel
theorem dX3_undo_31 : decode cX3_undo 31 = .ok (.aload_n 0, 1) := by decide +kernel
theorem dX3_undo_32 : decode cX3_undo 32 = .ok (.getfield 26, 3) := by decide +kernel
theorem dX3_undo_35 : decode cX3_undo 35 = .ok (.getfield 236, 3) := by decide +kernel
theorem dX3_undo_38 : decode cX3_undo 38 = .ok (.ireturn, 1) := by decide +kernel
theorem dX3_holds_0 : decode cX3_holds 0 = .ok (.aload_n 0, 1) := by decide +kernel
theorem dX3_holds_1 : decode cX3_holds 1 = .ok (.getfield 19, 3) := by decide +kernel
theorem dX3_holds_4 : decode cX3_holds 4 = .ok (.iload_n 1, 1) := by decide +kernel
theorem dX3_holds_5 : decode cX3_holds 5 = .ok (.invokevirtual 117, 3) := by decide +kernel
theorem dX3_holds_8 : decode cX3_holds 8 = .ok (.ifCond .ne 13, 3) := by decide +kernel
theorem dX3_holds_11 : decode cX3_holds 11 = .ok (.new 121, 3) := by decide +kernel
theorem dX3_holds_14 : decode cX3_holds 14 = .ok (.dup, 1) := by decide +kernel
theorem dX3_holds_15 : decode cX3_holds 15 = .ok (.ldc 123, 2) := by decide +kernel
theorem dX3_holds_17 : decode cX3_holds 17 = .ok (.invokespecial 125, 3) := by decide +kernel
theorem dX3_holds_20 : decode cX3_holds 20 = .ok (.athrow, 1) := by decide +kernel
theorem dX3_holds_21 : decode cX3_holds 21 = .ok (.aload_n 0, 1) := by decide +kernel
theorem dX3_holds_22 : decode cX3_holds 22 = .ok (.getfield 38, 3) := by decide +kernel
theorem dX3_holds_25 : decode cX3_holds 25 = .ok (.aload_n 0, 1) := by decide +kernel
theorem dX3_holds_26 : decode cX3_holds 26 = .ok (.getfield 19, 3) := by decide +kernel
theorem dX3_holds_29 : decode cX3_holds 29 = .ok (.invokevirtual 77, 3) := by decide +kernel
theorem dX3_holds_32 : decode cX3_holds 32 = .ok (.iconst 0, 1) := by decide +kernel
theorem dX3_holds_33 : decode cX3_holds 33 = .ok (.istore_n 2, 1) := by decide +kernel
theorem dX3_holds_34 : decode cX3_holds 34 = .ok (.iload_n 2, 1) := by decide +kernel
theorem dX3_holds_35 : decode cX3_holds 35 = .ok (.bipush 100, 2) := by decide +kernel
theorem dX3_holds_37 : decode cX3_holds 37 = .ok (.if_icmp .gt 30, 3) := by decide +kernel
theorem dX3_holds_40 : decode cX3_holds 40 = .ok (.aload_n 0, 1) := by decide +kernel
theorem dX3_holds_41 : decode cX3_holds 41 = .ok (.getfield 38, 3) := by decide +kernel
theorem dX3_holds_44 : decode cX3_holds 44 = .ok (.iload_n 1, 1) := by decide +kernel
theorem dX3_holds_45 : decode cX3_holds 45 = .ok (.invokevirtual 244, 3) := by decide +kernel
theorem dX3_holds_48 : decode cX3_holds 48 = .ok (.ifCond .eq 5, 3) := by decide +kernel
theorem dX3_holds_51 : decode cX3_holds 51 = .ok (.iload_n 2, 1) := by decide +kernel
theorem dX3_holds_52 : decode cX3_holds 52 = .ok (.ireturn, 1) := by decide +kernel
theorem dX3_holds_53 : decode cX3_holds 53 = .ok (.aload_n 0, 1) := by decide +kernel
theorem dX3_holds_54 : decode cX3_holds 54 = .ok (.getfield 38, 3) := by decide +kernel
theorem dX3_holds_57 : decode cX3_holds 57 = .ok (.invokevirtual 247, 3) := by decide +kernel
theorem dX3_holds_60 : decode cX3_holds 60 = .ok (.pop, 1) := by decide +kernel
theorem dX3_holds_61 : decode cX3_holds 61 = .ok (.iinc 2 1, 3) := by decide +kernel
theorem dX3_holds_64 : decode cX3_holds 64 = .ok (.goto (-30), 3) := by decide +kernel
theorem dX3_holds_67 : decode cX3_holds 67 = .ok (.bipush (-9), 2) := by decide +kernel
theorem dX3_holds_69 : decode cX3_holds 69 = .ok (.ireturn, 1) := by decide +kernel
theorem dX3_draws_0 : decode cX3_draws 0 = .ok (.iload_n 1, 1) := by decide +kernel
theorem dX3_draws_1 : decode cX3_draws 1 = .ok (.invokestatic 195, 3) := by decide +kernel
theorem dX3_draws_4 : decode cX3_draws 4 = .ok (.ifCond .ne 13, 3) := by decide +kernel
theorem dX3_draws_7 : decode cX3_draws 7 = .ok (.new 48, 3) := by decide +kernel
theorem dX3_draws_10 : decode cX3_draws 10 = .ok (.dup, 1) := by decide +kernel
theorem dX3_draws_11 : decode cX3_draws 11 = .ok (.ldc 209, 2) := by decide +kernel
theorem dX3_draws_13 : decode cX3_draws 13 = .ok (.invokespecial 52, 3) := by decide +kernel
theorem dX3_draws_16 : decode cX3_draws 16 = .ok (.athrow, 1) := by decide +kernel
theorem dX3_draws_17 : decode cX3_draws 17 = .ok (.aload_n 0, 1) := by decide +kernel
theorem dX3_draws_18 : decode cX3_draws 18 = .ok (.getfield 38, 3) := by decide +kernel
theorem dX3_draws_21 : decode cX3_draws 21 = .ok (.aload_n 0, 1) := by decide +kernel
theorem dX3_draws_22 : decode cX3_draws 22 = .ok (.getfield 19, 3) := by decide +kernel
theorem dX3_draws_25 : decode cX3_draws 25 = .ok (.invokevirtual 77, 3) := by decide +kernel
theorem dX3_draws_28 : decode cX3_draws 28 = .ok (.iconst 0, 1) := by decide +kernel
theorem dX3_draws_29 : decode cX3_draws 29 = .ok (.istore_n 2, 1) := by decide +kernel
theorem dX3_draws_30 : decode cX3_draws 30 = .ok (.iload_n 2, 1) := by decide +kernel
theorem dX3_draws_31 : decode cX3_draws 31 = .ok (.sipush 792, 3) := by decide +kernel
theorem dX3_draws_34 : decode cX3_draws 34 = .ok (.if_icmp .ge 22, 3) := by decide +kernel
theorem dX3_draws_37 : decode cX3_draws 37 = .ok (.aload_n 0, 1) := by decide +kernel
theorem dX3_draws_38 : decode cX3_draws 38 = .ok (.getfield 38, 3) := by decide +kernel
theorem dX3_draws_41 : decode cX3_draws 41 = .ok (.iload_n 1, 1) := by decide +kernel
theorem dX3_draws_42 : decode cX3_draws 42 = .ok (.invokevirtual 226, 3) := by decide +kernel
theorem dX3_draws_45 : decode cX3_draws 45 = .ok (.ifCond .ne 5, 3) := by decide +kernel
theorem dX3_draws_48 : decode cX3_draws 48 = .ok (.iload_n 2, 1) := by decide +kernel
theorem dX3_draws_49 : decode cX3_draws 49 = .ok (.ireturn, 1) := by decide +kernel
theorem dX3_draws_50 : decode cX3_draws 50 = .ok (.iinc 2 1, 3) := by decide +kernel
theorem dX3_draws_53 : decode cX3_draws 53 = .ok (.goto (-23), 3) := by decide +kernel
theorem dX3_draws_56 : decode cX3_draws 56 = .ok (.sipush 792, 3) := by decide +kernel
theorem dX3_draws_59 : decode cX3_draws 59 = .ok (.ireturn, 1) := by decide +kernel
theorem dX3_most_0 : decode cX3_most 0 = .ok (.bipush 99, 2) := by decide +kernel
theorem dX3_most_2 : decode cX3_most 2 = .ok (.istore_n 1, 1) := by decide +kernel
end
section
theorem dX3_most_3 : decode cX3_most 3 = .ok (.iload_n 1, 1) := by decide +kernel
theorem dX3_most_4 : decode cX3_most 4 = .ok (.iconst 1, 1) := by decide +kernel
theorem dX3_most_5 : decode cX3_most 5 = .ok (.if_icmp .lt 33, 3) := by decide +kernel
theorem dX3_most_8 : decode cX3_most 8 = .ok (.aload_n 0, 1) := by decide +kernel
theorem dX3_most_9 : decode cX3_most 9 = .ok (.getfield 38, 3) := by decide +kernel
theorem dX3_most_12 : decode cX3_most 12 = .ok (.aload_n 0, 1) := by decide +kernel
theorem dX3_most_13 : decode cX3_most 13 = .ok (.getfield 19, 3) := by decide +kernel
theorem dX3_most_16 : decode cX3_most 16 = .ok (.invokevirtual 77, 3) := by decide +kernel
theorem dX3_most_19 : decode cX3_most 19 = .ok (.aload_n 0, 1) := by decide +kernel
theorem dX3_most_20 : decode cX3_most 20 = .ok (.getfield 38, 3) := by decide +kernel
theorem dX3_most_23 : decode cX3_most 23 = .ok (.iload_n 1, 1) := by decide +kernel
theorem dX3_most_24 : decode cX3_most 24 = .ok (.invokevirtual 226, 3) := by decide +kernel
theorem dX3_most_27 : decode cX3_most 27 = .ok (.ifCond .le 5, 3) := by decide +kernel
theorem dX3_most_30 : decode cX3_most 30 = .ok (.iload_n 1, 1) := by decide +kernel
theorem dX3_most_31 : decode cX3_most 31 = .ok (.ireturn, 1) := by decide +kernel
theorem dX3_most_32 : decode cX3_most 32 = .ok (.iinc 1 (-1), 3) := by decide +kernel
theorem dX3_most_35 : decode cX3_most 35 = .ok (.goto (-32), 3) := by decide +kernel
theorem dX3_most_38 : decode cX3_most 38 = .ok (.iconst 0, 1) := by decide +kernel
theorem dX3_most_39 : decode cX3_most 39 = .ok (.ireturn, 1) := by decide +kernel
theorem dX3_bestLender_0 : decode cX3_bestLender 0 = .ok (.aload_n 0, 1) := by decide +kernel
theorem dX3_bestLender_1 : decode cX3_bestLender 1 = .ok (.getfield 19, 3) := by decide +kernel
theorem dX3_bestLender_4 : decode cX3_bestLender 4 = .ok (.iload_n 1, 1) := by decide +kernel
theorem dX3_bestLender_5 : decode cX3_bestLender 5 = .ok (.invokevirtual 117, 3) := by decide +kernel
theorem dX3_bestLender_8 : decode cX3_bestLender 8 = .ok (.ifCond .ne 13, 3) := by decide +kernel
theorem dX3_bestLender_11 : decode cX3_bestLender 11 = .ok (.new 121, 3) := by decide +kernel
theorem dX3_bestLender_14 : decode cX3_bestLender 14 = .ok (.dup, 1) := by decide +kernel
theorem dX3_bestLender_15 : decode cX3_bestLender 15 = .ok (.ldc 123, 2) := by decide +kernel
theorem dX3_bestLender_17 : decode cX3_bestLender 17 = .ok (.invokespecial 125, 3) := by decide +kernel
theorem dX3_bestLender_20 : decode cX3_bestLender 20 = .ok (.athrow, 1) := by decide +kernel
theorem dX3_bestLender_21 : decode cX3_bestLender 21 = .ok (.iload_n 2, 1) := by decide +kernel
theorem dX3_bestLender_22 : decode cX3_bestLender 22 = .ok (.invokestatic 195, 3) := by decide +kernel
theorem dX3_bestLender_25 : decode cX3_bestLender 25 = .ok (.ifCond .ne 13, 3) := by decide +kernel
theorem dX3_bestLender_28 : decode cX3_bestLender 28 = .ok (.new 48, 3) := by decide +kernel
theorem dX3_bestLender_31 : decode cX3_bestLender 31 = .ok (.dup, 1) := by decide +kernel
theorem dX3_bestLender_32 : decode cX3_bestLender 32 = .ok (.ldc 209, 2) := by decide +kernel
theorem dX3_bestLender_34 : decode cX3_bestLender 34 = .ok (.invokespecial 52, 3) := by decide +kernel
theorem dX3_bestLender_37 : decode cX3_bestLender 37 = .ok (.athrow, 1) := by decide +kernel
theorem dX3_bestLender_38 : decode cX3_bestLender 38 = .ok (.aload_n 0, 1) := by decide +kernel
theorem dX3_bestLender_39 : decode cX3_bestLender 39 = .ok (.getfield 19, 3) := by decide +kernel
theorem dX3_bestLender_42 : decode cX3_bestLender 42 = .ok (.iload_n 1, 1) := by decide +kernel
theorem dX3_bestLender_43 : decode cX3_bestLender 43 = .ok (.iload_n 2, 1) := by decide +kernel
theorem dX3_bestLender_44 : decode cX3_bestLender 44 = .ok (.invokevirtual 250, 3) := by decide +kernel
theorem dX3_bestLender_47 : decode cX3_bestLender 47 = .ok (.ireturn, 1) := by decide +kernel
theorem dX3_costs_0 : decode cX3_costs 0 = .ok (.aload_n 0, 1) := by decide +kernel
theorem dX3_costs_1 : decode cX3_costs 1 = .ok (.getfield 19, 3) := by decide +kernel
theorem dX3_costs_4 : decode cX3_costs 4 = .ok (.iload_n 1, 1) := by decide +kernel
theorem dX3_costs_5 : decode cX3_costs 5 = .ok (.invokevirtual 154, 3) := by decide +kernel
theorem dX3_costs_8 : decode cX3_costs 8 = .ok (.ifCond .ne 13, 3) := by decide +kernel
theorem dX3_costs_11 : decode cX3_costs 11 = .ok (.new 121, 3) := by decide +kernel
theorem dX3_costs_14 : decode cX3_costs 14 = .ok (.dup, 1) := by decide +kernel
theorem dX3_costs_15 : decode cX3_costs 15 = .ok (.ldc 157, 2) := by decide +kernel
theorem dX3_costs_17 : decode cX3_costs 17 = .ok (.invokespecial 125, 3) := by decide +kernel
theorem dX3_costs_20 : decode cX3_costs 20 = .ok (.athrow, 1) := by decide +kernel
theorem dX3_costs_21 : decode cX3_costs 21 = .ok (.iload_n 2, 1) := by decide +kernel
theorem dX3_costs_22 : decode cX3_costs 22 = .ok (.iconst 1, 1) := by decide +kernel
theorem dX3_costs_23 : decode cX3_costs 23 = .ok (.bipush 50, 2) := by decide +kernel
theorem dX3_costs_25 : decode cX3_costs 25 = .ok (.invokestatic 44, 3) := by decide +kernel
theorem dX3_costs_28 : decode cX3_costs 28 = .ok (.ifCond .ne 13, 3) := by decide +kernel
theorem dX3_costs_31 : decode cX3_costs 31 = .ok (.new 48, 3) := by decide +kernel
theorem dX3_costs_34 : decode cX3_costs 34 = .ok (.dup, 1) := by decide +kernel
theorem dX3_costs_35 : decode cX3_costs 35 = .ok (.ldc 231, 2) := by decide +kernel
theorem dX3_costs_37 : decode cX3_costs 37 = .ok (.invokespecial 52, 3) := by decide +kernel
theorem dX3_costs_40 : decode cX3_costs 40 = .ok (.athrow, 1) := by decide +kernel
theorem dX3_costs_41 : decode cX3_costs 41 = .ok (.aload_n 0, 1) := by decide +kernel
theorem dX3_costs_42 : decode cX3_costs 42 = .ok (.getfield 38, 3) := by decide +kernel
theorem dX3_costs_45 : decode cX3_costs 45 = .ok (.aload_n 0, 1) := by decide +kernel
theorem dX3_costs_46 : decode cX3_costs 46 = .ok (.getfield 19, 3) := by decide +kernel
theorem dX3_costs_49 : decode cX3_costs 49 = .ok (.invokevirtual 77, 3) := by decide +kernel
theorem dX3_costs_52 : decode cX3_costs 52 = .ok (.aload_n 0, 1) := by decide +kernel
theorem dX3_costs_53 : decode cX3_costs 53 = .ok (.getfield 38, 3) := by decide +kernel
theorem dX3_costs_56 : decode cX3_costs 56 = .ok (.iload_n 1, 1) := by decide +kernel
theorem dX3_costs_57 : decode cX3_costs 57 = .ok (.putfield 253, 3) := by decide +kernel
theorem dX3_costs_60 : decode cX3_costs 60 = .ok (.aload_n 0, 1) := by decide +kernel
theorem dX3_costs_61 : decode cX3_costs 61 = .ok (.getfield 38, 3) := by decide +kernel
theorem dX3_costs_64 : decode cX3_costs 64 = .ok (.iload_n 2, 1) := by decide +kernel
theorem dX3_costs_65 : decode cX3_costs 65 = .ok (.invokevirtual 233, 3) := by decide +kernel
theorem dX3_costs_68 : decode cX3_costs 68 = .ok (.pop, 1) := by decide +kernel
theorem dX3_costs_69 : decode cX3_costs 69 = .ok (.aload_n 0, 1) := by decide +kernel
theorem dX3_costs_70 : decode cX3_costs 70 = .ok (.getfield 38, 3) := by decide +kernel
theorem dX3_costs_73 : decode cX3_costs 73 = .ok (.getfield 256, 3) := by decide +kernel
theorem dX3_costs_76 : decode cX3_costs 76 = .ok (.ireturn, 1) := by decide +kernel
theorem dX3_runScript_0 : decode cX3_runScript 0 = .ok (.iload_n 1, 1) := by decide +kernel
theorem dX3_runScript_1 : decode cX3_runScript 1 = .ok (.iconst 1, 1) := by decide +kernel
theorem dX3_runScript_2 : decode cX3_runScript 2 = .ok (.iconst 3, 1) := by decide +kernel
theorem dX3_runScript_3 : decode cX3_runScript 3 = .ok (.invokestatic 44, 3) := by decide +kernel
theorem dX3_runScript_6 : decode cX3_runScript 6 = .ok (.ifCond .ne 14, 3) := by decide +kernel
theorem dX3_runScript_9 : decode cX3_runScript 9 = .ok (.new 48, 3) := by decide +kernel
theorem dX3_runScript_12 : decode cX3_runScript 12 = .ok (.dup, 1) := by decide +kernel
theorem dX3_runScript_13 : decode cX3_runScript 13 = .ok (.ldc_w 259, 3) := by decide +kernel
theorem dX3_runScript_16 : decode cX3_runScript 16 = .ok (.invokespecial 52, 3) := by decide +kernel
theorem dX3_runScript_19 : decode cX3_runScript 19 = .ok (.athrow, 1) := by decide +kernel
theorem dX3_runScript_20 : decode cX3_runScript 20 = .ok (.lload_n 2, 1) := by decide +kernel
theorem dX3_runScript_21 : decode cX3_runScript 21 = .ok (.lconst 0, 1) := by decide +kernel
theorem dX3_runScript_22 : decode cX3_runScript 22 = .ok (.lcmp, 1) := by decide +kernel
theorem dX3_runScript_23 : decode cX3_runScript 23 = .ok (.ifCond .lt 13, 3) := by decide +kernel
theorem dX3_runScript_26 : decode cX3_runScript 26 = .ok (.lload_n 2, 1) := by decide +kernel
theorem dX3_runScript_27 : decode cX3_runScript 27 = .ok (.iload_n 1, 1) := by decide +kernel
theorem dX3_runScript_28 : decode cX3_runScript 28 = .ok (.invokestatic 261, 3) := by decide +kernel
theorem dX3_runScript_31 : decode cX3_runScript 31 = .ok (.lconst 0, 1) := by decide +kernel
theorem dX3_runScript_32 : decode cX3_runScript 32 = .ok (.lcmp, 1) := by decide +kernel
theorem dX3_runScript_33 : decode cX3_runScript 33 = .ok (.ifCond .le 14, 3) := by decide +kernel
theorem dX3_runScript_36 : decode cX3_runScript 36 = .ok (.new 48, 3) := by decide +kernel
theorem dX3_runScript_39 : decode cX3_runScript 39 = .ok (.dup, 1) := by decide +kernel
theorem dX3_runScript_40 : decode cX3_runScript 40 = .ok (.ldc_w 265, 3) := by decide +kernel
theorem dX3_runScript_43 : decode cX3_runScript 43 = .ok (.invokespecial 52, 3) := by decide +kernel
theorem dX3_runScript_46 : decode cX3_runScript 46 = .ok (.athrow, 1) := by decide +kernel
theorem dX3_runScript_47 : decode cX3_runScript 47 = .ok (.aload_n 0, 1) := by decide +kernel
theorem dX3_runScript_48 : decode cX3_runScript 48 = .ok (.getfield 38, 3) := by decide +kernel
theorem dX3_runScript_51 : decode cX3_runScript 51 = .ok (.aload_n 0, 1) := by decide +kernel
theorem dX3_runScript_52 : decode cX3_runScript 52 = .ok (.getfield 19, 3) := by decide +kernel
theorem dX3_runScript_55 : decode cX3_runScript 55 = .ok (.invokevirtual 77, 3) := by decide +kernel
theorem dX3_runScript_58 : decode cX3_runScript 58 = .ok (.iconst 0, 1) := by decide +kernel
theorem dX3_runScript_59 : decode cX3_runScript 59 = .ok (.istore 4, 2) := by decide +kernel
theorem dX3_runScript_61 : decode cX3_runScript 61 = .ok (.iload 4, 2) := by decide +kernel
theorem dX3_runScript_63 : decode cX3_runScript 63 = .ok (.iload_n 1, 1) := by decide +kernel
theorem dX3_runScript_64 : decode cX3_runScript 64 = .ok (.if_icmp .ge 41, 3) := by decide +kernel
theorem dX3_runScript_67 : decode cX3_runScript 67 = .ok (.lload_n 2, 1) := by decide +kernel
theorem dX3_runScript_68 : decode cX3_runScript 68 = .ok (.iload_n 1, 1) := by decide +kernel
theorem dX3_runScript_69 : decode cX3_runScript 69 = .ok (.iconst 1, 1) := by decide +kernel
theorem dX3_runScript_70 : decode cX3_runScript 70 = .ok (.isub, 1) := by decide +kernel
theorem dX3_runScript_71 : decode cX3_runScript 71 = .ok (.iload 4, 2) := by decide +kernel
theorem dX3_runScript_73 : decode cX3_runScript 73 = .ok (.isub, 1) := by decide +kernel
theorem dX3_runScript_74 : decode cX3_runScript 74 = .ok (.invokestatic 261, 3) := by decide +kernel
theorem dX3_runScript_77 : decode cX3_runScript 77 = .ok (.lstore 5, 2) := by decide +kernel
theorem dX3_runScript_79 : decode cX3_runScript 79 = .ok (.aload_n 0, 1) := by decide +kernel
theorem dX3_runScript_80 : decode cX3_runScript 80 = .ok (.getfield 38, 3) := by decide +kernel
theorem dX3_runScript_83 : decode cX3_runScript 83 = .ok (.lload 5, 2) := by decide +kernel
theorem dX3_runScript_85 : decode cX3_runScript 85 = .ok (.ldc2_w 267, 3) := by decide +kernel
theorem dX3_runScript_88 : decode cX3_runScript 88 = .ok (.lrem, 1) := by decide +kernel
theorem dX3_runScript_89 : decode cX3_runScript 89 = .ok (.l2i, 1) := by decide +kernel
theorem dX3_runScript_90 : decode cX3_runScript 90 = .ok (.invokestatic 269, 3) := by decide +kernel
theorem dX3_runScript_93 : decode cX3_runScript 93 = .ok (.ifCond .ne 6, 3) := by decide +kernel
theorem dX3_runScript_96 : decode cX3_runScript 96 = .ok (.iload 4, 2) := by decide +kernel
theorem dX3_runScript_98 : decode cX3_runScript 98 = .ok (.ireturn, 1) := by decide +kernel
theorem dX3_runScript_99 : decode cX3_runScript 99 = .ok (.iinc 4 1, 3) := by decide +kernel
theorem dX3_runScript_102 : decode cX3_runScript 102 = .ok (.goto (-41), 3) := by decide +kernel
theorem dX3_runScript_105 : decode cX3_runScript 105 = .ok (.bipush (-9), 2) := by decide +kernel
theorem dX3_runScript_107 : decode cX3_runScript 107 = .ok (.ireturn, 1) := by decide +kernel
theorem dX3_simulate_0 : decode cX3_simulate 0 = .ok (.iload_n 3, 1) := by decide +kernel
theorem dX3_simulate_1 : decode cX3_simulate 1 = .ok (.iconst 1, 1) := by decide +kernel
theorem dX3_simulate_2 : decode cX3_simulate 2 = .ok (.bipush 99, 2) := by decide +kernel
theorem dX3_simulate_4 : decode cX3_simulate 4 = .ok (.invokestatic 44, 3) := by decide +kernel
theorem dX3_simulate_7 : decode cX3_simulate 7 = .ok (.ifCond .ne 14, 3) := by decide +kernel
theorem dX3_simulate_10 : decode cX3_simulate 10 = .ok (.new 48, 3) := by decide +kernel
theorem dX3_simulate_13 : decode cX3_simulate 13 = .ok (.dup, 1) := by decide +kernel
theorem dX3_simulate_14 : decode cX3_simulate 14 = .ok (.ldc_w 273, 3) := by decide +kernel
theorem dX3_simulate_17 : decode cX3_simulate 17 = .ok (.invokespecial 52, 3) := by decide +kernel
theorem dX3_simulate_20 : decode cX3_simulate 20 = .ok (.athrow, 1) := by decide +kernel
theorem dX3_simulate_21 : decode cX3_simulate 21 = .ok (.aload_n 0, 1) := by decide +kernel
theorem dX3_simulate_22 : decode cX3_simulate 22 = .ok (.getfield 38, 3) := by decide +kernel
theorem dX3_simulate_25 : decode cX3_simulate 25 = .ok (.aload_n 0, 1) := by decide +kernel
theorem dX3_simulate_26 : decode cX3_simulate 26 = .ok (.getfield 19, 3) := by decide +kernel
theorem dX3_simulate_29 : decode cX3_simulate 29 = .ok (.invokevirtual 77, 3) := by decide +kernel
theorem dX3_simulate_32 : decode cX3_simulate 32 = .ok (.lload_n 1, 1) := by decide +kernel
theorem dX3_simulate_33 : decode cX3_simulate 33 = .ok (.lstore 4, 2) := by decide +kernel
theorem dX3_simulate_35 : decode cX3_simulate 35 = .ok (.iconst 0, 1) := by decide +kernel
theorem dX3_simulate_36 : decode cX3_simulate 36 = .ok (.istore 6, 2) := by decide +kernel
theorem dX3_simulate_38 : decode cX3_simulate 38 = .ok (.iconst 0, 1) := by decide +kernel
theorem dX3_simulate_39 : decode cX3_simulate 39 = .ok (.istore 7, 2) := by decide +kernel
theorem dX3_simulate_41 : decode cX3_simulate 41 = .ok (.iload 7, 2) := by decide +kernel
theorem dX3_simulate_43 : decode cX3_simulate 43 = .ok (.iload_n 3, 1) := by decide +kernel
theorem dX3_simulate_44 : decode cX3_simulate 44 = .ok (.if_icmp .ge 89, 3) := by decide +kernel
theorem dX3_simulate_47 : decode cX3_simulate 47 = .ok (.lload 4, 2) := by decide +kernel
theorem dX3_simulate_49 : decode cX3_simulate 49 = .ok (.ldc2_w 275, 3) := by decide +kernel
theorem dX3_simulate_52 : decode cX3_simulate 52 = .ok (.lmul, 1) := by decide +kernel
theorem dX3_simulate_53 : decode cX3_simulate 53 = .ok (.ldc2_w 277, 3) := by decide +kernel
theorem dX3_simulate_56 : decode cX3_simulate 56 = .ok (.ladd, 1) := by decide +kernel
theorem dX3_simulate_57 : decode cX3_simulate 57 = .ok (.lstore 4, 2) := by decide +kernel
theorem dX3_simulate_59 : decode cX3_simulate 59 = .ok (.lload 4, 2) := by decide +kernel
theorem dX3_simulate_61 : decode cX3_simulate 61 = .ok (.bipush 33, 2) := by decide +kernel
theorem dX3_simulate_63 : decode cX3_simulate 63 = .ok (.lushr, 1) := by decide +kernel
theorem dX3_simulate_64 : decode cX3_simulate 64 = .ok (.l2i, 1) := by decide +kernel
theorem dX3_simulate_65 : decode cX3_simulate 65 = .ok (.istore 8, 2) := by decide +kernel
theorem dX3_simulate_67 : decode cX3_simulate 67 = .ok (.iconst 1, 1) := by decide +kernel
theorem dX3_simulate_68 : decode cX3_simulate 68 = .ok (.iload 8, 2) := by decide +kernel
theorem dX3_simulate_70 : decode cX3_simulate 70 = .ok (.iconst 4, 1) := by decide +kernel
theorem dX3_simulate_71 : decode cX3_simulate 71 = .ok (.idiv, 1) := by decide +kernel
theorem dX3_simulate_72 : decode cX3_simulate 72 = .ok (.bipush 9, 2) := by decide +kernel
theorem dX3_simulate_74 : decode cX3_simulate 74 = .ok (.irem, 1) := by decide +kernel
theorem dX3_simulate_75 : decode cX3_simulate 75 = .ok (.iadd, 1) := by decide +kernel
theorem dX3_simulate_76 : decode cX3_simulate 76 = .ok (.istore 9, 2) := by decide +kernel
theorem dX3_simulate_78 : decode cX3_simulate 78 = .ok (.iload 8, 2) := by decide +kernel
theorem dX3_simulate_80 : decode cX3_simulate 80 = .ok (.iconst 4, 1) := by decide +kernel
theorem dX3_simulate_81 : decode cX3_simulate 81 = .ok (.irem, 1) := by decide +kernel
theorem dX3_simulate_82 : decode cX3_simulate 82 = .ok (.ifCond .ne 16, 3) := by decide +kernel
theorem dX3_simulate_85 : decode cX3_simulate 85 = .ok (.aload_n 0, 1) := by decide +kernel
theorem dX3_simulate_86 : decode cX3_simulate 86 = .ok (.getfield 38, 3) := by decide +kernel
theorem dX3_simulate_89 : decode cX3_simulate 89 = .ok (.iload 9, 2) := by decide +kernel
theorem dX3_simulate_91 : decode cX3_simulate 91 = .ok (.invokevirtual 223, 3) := by decide +kernel
theorem dX3_simulate_94 : decode cX3_simulate 94 = .ok (.pop, 1) := by decide +kernel
theorem dX3_simulate_95 : decode cX3_simulate 95 = .ok (.goto 17, 3) := by decide +kernel
theorem dX3_simulate_98 : decode cX3_simulate 98 = .ok (.iload 8, 2) := by decide +kernel
theorem dX3_simulate_100 : decode cX3_simulate 100 = .ok (.iconst 4, 1) := by decide +kernel
theorem dX3_simulate_101 : decode cX3_simulate 101 = .ok (.irem, 1) := by decide +kernel
theorem dX3_simulate_102 : decode cX3_simulate 102 = .ok (.iconst 3, 1) := by decide +kernel
theorem dX3_simulate_103 : decode cX3_simulate 103 = .ok (.if_icmp .eq 9, 3) := by decide +kernel
theorem dX3_simulate_106 : decode cX3_simulate 106 = .ok (.aload_n 0, 1) := by decide +kernel
theorem dX3_simulate_107 : decode cX3_simulate 107 = .ok (.iload 9, 2) := by decide +kernel
theorem dX3_simulate_109 : decode cX3_simulate 109 = .ok (.invokevirtual 279, 3) := by decide +kernel
theorem dX3_simulate_112 : decode cX3_simulate 112 = .ok (.iload 6, 2) := by decide +kernel
theorem dX3_simulate_114 : decode cX3_simulate 114 = .ok (.aload_n 0, 1) := by decide +kernel
theorem dX3_simulate_115 : decode cX3_simulate 115 = .ok (.getfield 38, 3) := by decide +kernel
theorem dX3_simulate_118 : decode cX3_simulate 118 = .ok (.invokevirtual 247, 3) := by decide +kernel
theorem dX3_simulate_121 : decode cX3_simulate 121 = .ok (.invokestatic 283, 3) := by decide +kernel
theorem dX3_simulate_124 : decode cX3_simulate 124 = .ok (.iadd, 1) := by decide +kernel
theorem dX3_simulate_125 : decode cX3_simulate 125 = .ok (.istore 6, 2) := by decide +kernel
theorem dX3_simulate_127 : decode cX3_simulate 127 = .ok (.iinc 7 1, 3) := by decide +kernel
theorem dX3_simulate_130 : decode cX3_simulate 130 = .ok (.goto (-89), 3) := by decide +kernel
theorem dX3_simulate_133 : decode cX3_simulate 133 = .ok (.ldc_w 288, 3) := by decide +kernel
theorem dX3_simulate_136 : decode cX3_simulate 136 = .ok (.iload 6, 2) := by decide +kernel
theorem dX3_simulate_138 : decode cX3_simulate 138 = .ok (.imul, 1) := by decide +kernel
theorem dX3_simulate_139 : decode cX3_simulate 139 = .ok (.aload_n 0, 1) := by decide +kernel
theorem dX3_simulate_140 : decode cX3_simulate 140 = .ok (.getfield 38, 3) := by decide +kernel
theorem dX3_simulate_143 : decode cX3_simulate 143 = .ok (.getfield 100, 3) := by decide +kernel
theorem dX3_simulate_146 : decode cX3_simulate 146 = .ok (.aload_n 0, 1) := by decide +kernel
theorem dX3_simulate_147 : decode cX3_simulate 147 = .ok (.getfield 19, 3) := by decide +kernel
theorem dX3_simulate_150 : decode cX3_simulate 150 = .ok (.getfield 100, 3) := by decide +kernel
theorem dX3_simulate_153 : decode cX3_simulate 153 = .ok (.isub, 1) := by decide +kernel
theorem dX3_simulate_154 : decode cX3_simulate 154 = .ok (.iadd, 1) := by decide +kernel
theorem dX3_simulate_155 : decode cX3_simulate 155 = .ok (.ireturn, 1) := by decide +kernel
theorem dX3_save_0 : decode cX3_save 0 = .ok (.iload_n 1, 1) := by decide +kernel
theorem dX3_save_1 : decode cX3_save 1 = .ok (.iconst 0, 1) := by decide +kernel
theorem dX3_save_2 : decode cX3_save 2 = .ok (.iconst 1, 1) := by decide +kernel
theorem dX3_save_3 : decode cX3_save 3 = .ok (.invokestatic 44, 3) := by decide +kernel
theorem dX3_save_6 : decode cX3_save 6 = .ok (.ifCond .ne 14, 3) := by decide +kernel
theorem dX3_save_9 : decode cX3_save 9 = .ok (.new 121, 3) := by decide +kernel
theorem dX3_save_12 : decode cX3_save 12 = .ok (.dup, 1) := by decide +kernel
theorem dX3_save_13 : decode cX3_save 13 = .ok (.ldc_w 289, 3) := by decide +kernel
theorem dX3_save_16 : decode cX3_save 16 = .ok (.invokespecial 125, 3) := by decide +kernel
theorem dX3_save_19 : decode cX3_save 19 = .ok (.athrow, 1) := by decide +kernel
theorem dX3_save_20 : decode cX3_save 20 = .ok (.aload_n 0, 1) := by decide +kernel
theorem dX3_save_21 : decode cX3_save 21 = .ok (.getfield 30, 3) := by decide +kernel
theorem dX3_save_24 : decode cX3_save 24 = .ok (.iload_n 1, 1) := by decide +kernel
theorem dX3_save_25 : decode cX3_save 25 = .ok (.aaload, 1) := by decide +kernel
theorem dX3_save_26 : decode cX3_save 26 = .ok (.aload_n 0, 1) := by decide +kernel
theorem dX3_save_27 : decode cX3_save 27 = .ok (.getfield 19, 3) := by decide +kernel
theorem dX3_save_30 : decode cX3_save 30 = .ok (.invokevirtual 77, 3) := by decide +kernel
theorem dX3_save_33 : decode cX3_save 33 = .ok (.aload_n 0, 1) := by decide +kernel
theorem dX3_save_34 : decode cX3_save 34 = .ok (.getfield 34, 3) := by decide +kernel
theorem dX3_save_37 : decode cX3_save 37 = .ok (.iload_n 1, 1) := by decide +kernel
theorem dX3_save_38 : decode cX3_save 38 = .ok (.iconst 1, 1) := by decide +kernel
theorem dX3_save_39 : decode cX3_save 39 = .ok (.bastore, 1) := by decide +kernel
theorem dX3_save_40 : decode cX3_save 40 = .ok (.aload_n 0, 1) := by decide +kernel
theorem dX3_save_41 : decode cX3_save 41 = .ok (.getfield 19, 3) := by decide +kernel
theorem dX3_save_44 : decode cX3_save 44 = .ok (.invokevirtual 93, 3) := by decide +kernel
theorem dX3_save_47 : decode cX3_save 47 = .ok (.ireturn, 1) := by decide +kernel
theorem dX3_restore_0 : decode cX3_restore 0 = .ok (.iload_n 1, 1) := by decide +kernel
theorem dX3_restore_1 : decode cX3_restore 1 = .ok (.iconst 0, 1) := by decide +kernel
theorem dX3_restore_2 : decode cX3_restore 2 = .ok (.iconst 1, 1) := by decide +kernel
theorem dX3_restore_3 : decode cX3_restore 3 = .ok (.invokestatic 44, 3) := by decide +kernel
theorem dX3_restore_6 : decode cX3_restore 6 = .ok (.ifCond .ne 14, 3) := by decide +kernel
theorem dX3_restore_9 : decode cX3_restore 9 = .ok (.new 121, 3) := by decide +kernel
theorem dX3_restore_12 : decode cX3_restore 12 = .ok (.dup, 1) := by decide +kernel
theorem dX3_restore_13 : decode cX3_restore 13 = .ok (.ldc_w 289, 3) := by decide +kernel
theorem dX3_restore_16 : decode cX3_restore 16 = .ok (.invokespecial 125, 3) := by decide +kernel
theorem dX3_restore_19 : decode cX3_restore 19 = .ok (.athrow, 1) := by decide +kernel
theorem dX3_restore_20 : decode cX3_restore 20 = .ok (.aload_n 0, 1) := by decide +kernel
theorem dX3_restore_21 : decode cX3_restore 21 = .ok (.getfield 34, 3) := by decide +kernel
theorem dX3_restore_24 : decode cX3_restore 24 = .ok (.iload_n 1, 1) := by decide +kernel
theorem dX3_restore_25 : decode cX3_restore 25 = .ok (.baload, 1) := by decide +kernel
theorem dX3_restore_26 : decode cX3_restore 26 = .ok (.ifCond .ne 14, 3) := by decide +kernel
theorem dX3_restore_29 : decode cX3_restore 29 = .ok (.new 59, 3) := by decide +kernel
theorem dX3_restore_32 : decode cX3_restore 32 = .ok (.dup, 1) := by decide +kernel
theorem dX3_restore_33 : decode cX3_restore 33 = .ok (.ldc_w 291, 3) := by decide +kernel
theorem dX3_restore_36 : decode cX3_restore 36 = .ok (.invokespecial 63, 3) := by decide +kernel
theorem dX3_restore_39 : decode cX3_restore 39 = .ok (.athrow, 1) := by decide +kernel
theorem dX3_restore_40 : decode cX3_restore 40 = .ok (.aload_n 0, 1) := by decide +kernel
theorem dX3_restore_41 : decode cX3_restore 41 = .ok (.getfield 19, 3) := by decide +kernel
theorem dX3_restore_44 : decode cX3_restore 44 = .ok (.aload_n 0, 1) := by decide +kernel
theorem dX3_restore_45 : decode cX3_restore 45 = .ok (.getfield 30, 3) := by decide +kernel
theorem dX3_restore_48 : decode cX3_restore 48 = .ok (.iload_n 1, 1) := by decide +kernel
theorem dX3_restore_49 : decode cX3_restore 49 = .ok (.aaload, 1) := by decide +kernel
theorem dX3_restore_50 : decode cX3_restore 50 = .ok (.invokevirtual 77, 3) := by decide +kernel
theorem dX3_restore_53 : decode cX3_restore 53 = .ok (.aload_n 0, 1) := by decide +kernel
theorem dX3_restore_54 : decode cX3_restore 54 = .ok (.getfield 26, 3) := by decide +kernel
theorem dX3_restore_57 : decode cX3_restore 57 = .ok (.invokevirtual 81, 3) := by decide +kernel
theorem dX3_restore_60 : decode cX3_restore 60 = .ok (.aload_n 0, 1) := by decide +kernel
theorem dX3_restore_61 : decode cX3_restore 61 = .ok (.getfield 19, 3) := by decide +kernel
theorem dX3_restore_64 : decode cX3_restore 64 = .ok (.invokevirtual 93, 3) := by decide +kernel
theorem dX3_restore_67 : decode cX3_restore 67 = .ok (.ireturn, 1) := by decide +kernel
theorem dX3_isWithin_0 : decode cX3_isWithin 0 = .ok (.iload_n 0, 1) := by decide +kernel
theorem dX3_isWithin_1 : decode cX3_isWithin 1 = .ok (.iload_n 1, 1) := by decide +kernel
theorem dX3_isWithin_2 : decode cX3_isWithin 2 = .ok (.if_icmp .lt 12, 3) := by decide +kernel
theorem dX3_isWithin_5 : decode cX3_isWithin 5 = .ok (.iload_n 0, 1) := by decide +kernel
theorem dX3_isWithin_6 : decode cX3_isWithin 6 = .ok (.iload_n 2, 1) := by decide +kernel
theorem dX3_isWithin_7 : decode cX3_isWithin 7 = .ok (.if_icmp .gt 7, 3) := by decide +kernel
theorem dX3_isWithin_10 : decode cX3_isWithin 10 = .ok (.iconst 1, 1) := by decide +kernel
theorem dX3_isWithin_11 : decode cX3_isWithin 11 = .ok (.goto 4, 3) := by decide +kernel
theorem dX3_isWithin_14 : decode cX3_isWithin 14 = .ok (.iconst 0, 1) := by decide +kernel
theorem dX3_isWithin_15 : decode cX3_isWithin 15 = .ok (.ireturn, 1) := by decide +kernel
theorem dX3_isUnits_0 : decode cX3_isUnits 0 = .ok (.iload_n 0, 1) := by decide +kernel
theorem dX3_isUnits_1 : decode cX3_isUnits 1 = .ok (.iconst 1, 1) := by decide +kernel
theorem dX3_isUnits_2 : decode cX3_isUnits 2 = .ok (.bipush 99, 2) := by decide +kernel
theorem dX3_isUnits_4 : decode cX3_isUnits 4 = .ok (.invokestatic 44, 3) := by decide +kernel
theorem dX3_isUnits_7 : decode cX3_isUnits 7 = .ok (.ireturn, 1) := by decide +kernel
theorem dX3_withoutLastGroups_0 : decode cX3_withoutLastGroups 0 = .ok (.lload_n 0, 1) := by decide +kernel
theorem dX3_withoutLastGroups_1 : decode cX3_withoutLastGroups 1 = .ok (.lstore_n 3, 1) := by decide +kernel
theorem dX3_withoutLastGroups_2 : decode cX3_withoutLastGroups 2 = .ok (.iconst 0, 1) := by decide +kernel
theorem dX3_withoutLastGroups_3 : decode cX3_withoutLastGroups 3 = .ok (.istore 5, 2) := by decide +kernel
theorem dX3_withoutLastGroups_5 : decode cX3_withoutLastGroups 5 = .ok (.iload 5, 2) := by decide +kernel
theorem dX3_withoutLastGroups_7 : decode cX3_withoutLastGroups 7 = .ok (.iload_n 2, 1) := by decide +kernel
theorem dX3_withoutLastGroups_8 : decode cX3_withoutLastGroups 8 = .ok (.if_icmp .ge 15, 3) := by decide +kernel
theorem dX3_withoutLastGroups_11 : decode cX3_withoutLastGroups 11 = .ok (.lload_n 3, 1) := by decide +kernel
theorem dX3_withoutLastGroups_12 : decode cX3_withoutLastGroups 12 = .ok (.ldc2_w 267, 3) := by decide +kernel
theorem dX3_withoutLastGroups_15 : decode cX3_withoutLastGroups 15 = .ok (.ldiv, 1) := by decide +kernel
theorem dX3_withoutLastGroups_16 : decode cX3_withoutLastGroups 16 = .ok (.lstore_n 3, 1) := by decide +kernel
theorem dX3_withoutLastGroups_17 : decode cX3_withoutLastGroups 17 = .ok (.iinc 5 1, 3) := by decide +kernel
theorem dX3_withoutLastGroups_20 : decode cX3_withoutLastGroups 20 = .ok (.goto (-15), 3) := by decide +kernel
theorem dX3_withoutLastGroups_23 : decode cX3_withoutLastGroups 23 = .ok (.lload_n 3, 1) := by decide +kernel
theorem dX3_withoutLastGroups_24 : decode cX3_withoutLastGroups 24 = .ok (.lreturn, 1) := by decide +kernel
theorem dX3_giveIfPossible_0 : decode cX3_giveIfPossible 0 = .ok (.aload_n 0, 1) := by decide +kernel
theorem dX3_giveIfPossible_1 : decode cX3_giveIfPossible 1 = .ok (.getfield 41, 3) := by decide +kernel
theorem dX3_giveIfPossible_4 : decode cX3_giveIfPossible 4 = .ok (.aload_n 0, 1) := by decide +kernel
theorem dX3_giveIfPossible_5 : decode cX3_giveIfPossible 5 = .ok (.getfield 38, 3) := by decide +kernel
theorem dX3_giveIfPossible_8 : decode cX3_giveIfPossible 8 = .ok (.invokevirtual 77, 3) := by decide +kernel
theorem dX3_giveIfPossible_11 : decode cX3_giveIfPossible 11 = .ok (.aload_n 0, 1) := by decide +kernel
theorem dX3_giveIfPossible_12 : decode cX3_giveIfPossible 12 = .ok (.getfield 38, 3) := by decide +kernel
theorem dX3_giveIfPossible_15 : decode cX3_giveIfPossible 15 = .ok (.iload_n 1, 1) := by decide +kernel
theorem dX3_giveIfPossible_16 : decode cX3_giveIfPossible 16 = .ok (.invokevirtual 226, 3) := by decide +kernel
theorem dX3_giveIfPossible_19 : decode cX3_giveIfPossible 19 = .ok (.ifCond .ne 14, 3) := by decide +kernel
theorem dX3_giveIfPossible_22 : decode cX3_giveIfPossible 22 = .ok (.aload_n 0, 1) := by decide +kernel
theorem dX3_giveIfPossible_23 : decode cX3_giveIfPossible 23 = .ok (.getfield 38, 3) := by decide +kernel
theorem dX3_giveIfPossible_26 : decode cX3_giveIfPossible 26 = .ok (.aload_n 0, 1) := by decide +kernel
theorem dX3_giveIfPossible_27 : decode cX3_giveIfPossible 27 = .ok (.getfield 41, 3) := by decide +kernel
theorem dX3_giveIfPossible_30 : decode cX3_giveIfPossible 30 = .ok (.invokevirtual 77, 3) := by decide +kernel
theorem dX3_giveIfPossible_33 : decode cX3_giveIfPossible 33 = .ok (.return_, 1) := by decide +kernel
theorem dX3_succeeds_0 : decode cX3_succeeds 0 = .ok (.iload_n 1, 1) := by decide +kernel
theorem dX3_succeeds_1 : decode cX3_succeeds 1 = .ok (.sipush 1000, 3) := by decide +kernel
theorem dX3_succeeds_4 : decode cX3_succeeds 4 = .ok (.idiv, 1) := by decide +kernel
theorem dX3_succeeds_5 : decode cX3_succeeds 5 = .ok (.bipush 10, 2) := by decide +kernel
theorem dX3_succeeds_7 : decode cX3_succeeds 7 = .ok (.irem, 1) := by decide +kernel
theorem dX3_succeeds_8 : decode cX3_succeeds 8 = .ok (.istore_n 2, 1) := by decide +kernel
theorem dX3_succeeds_9 : decode cX3_succeeds 9 = .ok (.iload_n 1, 1) := by decide +kernel
theorem dX3_succeeds_10 : decode cX3_succeeds 10 = .ok (.bipush 100, 2) := by decide +kernel
theorem dX3_succeeds_12 : decode cX3_succeeds 12 = .ok (.idiv, 1) := by decide +kernel
theorem dX3_succeeds_13 : decode cX3_succeeds 13 = .ok (.bipush 10, 2) := by decide +kernel
theorem dX3_succeeds_15 : decode cX3_succeeds 15 = .ok (.irem, 1) := by decide +kernel
theorem dX3_succeeds_16 : decode cX3_succeeds 16 = .ok (.istore_n 3, 1) := by decide +kernel
theorem dX3_succeeds_17 : decode cX3_succeeds 17 = .ok (.iload_n 1, 1) := by decide +kernel
theorem dX3_succeeds_18 : decode cX3_succeeds 18 = .ok (.bipush 10, 2) := by decide +kernel
theorem dX3_succeeds_20 : decode cX3_succeeds 20 = .ok (.idiv, 1) := by decide +kernel
theorem dX3_succeeds_21 : decode cX3_succeeds 21 = .ok (.bipush 10, 2) := by decide +kernel
theorem dX3_succeeds_23 : decode cX3_succeeds 23 = .ok (.irem, 1) := by decide +kernel
theorem dX3_succeeds_24 : decode cX3_succeeds 24 = .ok (.istore 4, 2) := by decide +kernel
theorem dX3_succeeds_26 : decode cX3_succeeds 26 = .ok (.iload_n 1, 1) := by decide +kernel
theorem dX3_succeeds_27 : decode cX3_succeeds 27 = .ok (.bipush 100, 2) := by decide +kernel
theorem dX3_succeeds_29 : decode cX3_succeeds 29 = .ok (.irem, 1) := by decide +kernel
theorem dX3_succeeds_30 : decode cX3_succeeds 30 = .ok (.istore 5, 2) := by decide +kernel
theorem dX3_succeeds_32 : decode cX3_succeeds 32 = .ok (.iload_n 2, 1) := by decide +kernel
theorem dX3_succeeds_33 : decode cX3_succeeds 33 = .ok (.ifCond .ne 11, 3) := by decide +kernel
theorem dX3_succeeds_36 : decode cX3_succeeds 36 = .ok (.iload_n 3, 1) := by decide +kernel
theorem dX3_succeeds_37 : decode cX3_succeeds 37 = .ok (.ifCond .ne 7, 3) := by decide +kernel
theorem dX3_succeeds_40 : decode cX3_succeeds 40 = .ok (.iconst 1, 1) := by decide +kernel
theorem dX3_succeeds_41 : decode cX3_succeeds 41 = .ok (.goto 4, 3) := by decide +kernel
theorem dX3_succeeds_44 : decode cX3_succeeds 44 = .ok (.iconst 0, 1) := by decide +kernel
theorem dX3_succeeds_45 : decode cX3_succeeds 45 = .ok (.istore 6, 2) := by decide +kernel
theorem dX3_succeeds_47 : decode cX3_succeeds 47 = .ok (.iload_n 1, 1) := by decide +kernel
theorem dX3_succeeds_48 : decode cX3_succeeds 48 = .ok (.sipush 10000, 3) := by decide +kernel
theorem dX3_succeeds_51 : decode cX3_succeeds 51 = .ok (.idiv, 1) := by decide +kernel
theorem dX3_succeeds_52 : decode cX3_succeeds 52 = .ok (.tableswitch 315 1 9 #[52, 81, 113, 143, 171, 204, 232, 265, 287], 52) := by decide +kernel
theorem dX3_succeeds_104 : decode cX3_succeeds 104 = .ok (.iload 5, 2) := by decide +kernel
theorem dX3_succeeds_106 : decode cX3_succeeds 106 = .ok (.invokestatic 195, 3) := by decide +kernel
theorem dX3_succeeds_109 : decode cX3_succeeds 109 = .ok (.ifCond .eq 22, 3) := by decide +kernel
theorem dX3_succeeds_112 : decode cX3_succeeds 112 = .ok (.aload_n 0, 1) := by decide +kernel
theorem dX3_succeeds_113 : decode cX3_succeeds 113 = .ok (.iload_n 2, 1) := by decide +kernel
theorem dX3_succeeds_114 : decode cX3_succeeds 114 = .ok (.iload_n 3, 1) := by decide +kernel
theorem dX3_succeeds_115 : decode cX3_succeeds 115 = .ok (.iload 5, 2) := by decide +kernel
theorem dX3_succeeds_117 : decode cX3_succeeds 117 = .ok (.bipush 10, 2) := by decide +kernel
theorem dX3_succeeds_119 : decode cX3_succeeds 119 = .ok (.invokevirtual 205, 3) := by decide +kernel
theorem dX3_succeeds_122 : decode cX3_succeeds 122 = .ok (.bipush (-9), 2) := by decide +kernel
theorem dX3_succeeds_124 : decode cX3_succeeds 124 = .ok (.if_icmp .eq 7, 3) := by decide +kernel
theorem dX3_succeeds_127 : decode cX3_succeeds 127 = .ok (.iconst 1, 1) := by decide +kernel
theorem dX3_succeeds_128 : decode cX3_succeeds 128 = .ok (.goto 4, 3) := by decide +kernel
theorem dX3_succeeds_131 : decode cX3_succeeds 131 = .ok (.iconst 0, 1) := by decide +kernel
theorem dX3_succeeds_132 : decode cX3_succeeds 132 = .ok (.ireturn, 1) := by decide +kernel
theorem dX3_succeeds_133 : decode cX3_succeeds 133 = .ok (.iload 5, 2) := by decide +kernel
theorem dX3_succeeds_135 : decode cX3_succeeds 135 = .ok (.invokestatic 195, 3) := by decide +kernel
theorem dX3_succeeds_138 : decode cX3_succeeds 138 = .ok (.ifCond .eq 25, 3) := by decide +kernel
theorem dX3_succeeds_141 : decode cX3_succeeds 141 = .ok (.aload_n 0, 1) := by decide +kernel
theorem dX3_succeeds_142 : decode cX3_succeeds 142 = .ok (.iload_n 1, 1) := by decide +kernel
theorem dX3_succeeds_143 : decode cX3_succeeds 143 = .ok (.bipush 100, 2) := by decide +kernel
theorem dX3_succeeds_145 : decode cX3_succeeds 145 = .ok (.idiv, 1) := by decide +kernel
theorem dX3_succeeds_146 : decode cX3_succeeds 146 = .ok (.bipush 100, 2) := by decide +kernel
theorem dX3_succeeds_148 : decode cX3_succeeds 148 = .ok (.irem, 1) := by decide +kernel
theorem dX3_succeeds_149 : decode cX3_succeeds 149 = .ok (.iload 5, 2) := by decide +kernel
theorem dX3_succeeds_151 : decode cX3_succeeds 151 = .ok (.invokevirtual 217, 3) := by decide +kernel
theorem dX3_succeeds_154 : decode cX3_succeeds 154 = .ok (.bipush (-9), 2) := by decide +kernel
theorem dX3_succeeds_156 : decode cX3_succeeds 156 = .ok (.if_icmp .eq 7, 3) := by decide +kernel
theorem dX3_succeeds_159 : decode cX3_succeeds 159 = .ok (.iconst 1, 1) := by decide +kernel
theorem dX3_succeeds_160 : decode cX3_succeeds 160 = .ok (.goto 4, 3) := by decide +kernel
theorem dX3_succeeds_163 : decode cX3_succeeds 163 = .ok (.iconst 0, 1) := by decide +kernel
theorem dX3_succeeds_164 : decode cX3_succeeds 164 = .ok (.ireturn, 1) := by decide +kernel
theorem dX3_succeeds_165 : decode cX3_succeeds 165 = .ok (.iload 6, 2) := by decide +kernel
theorem dX3_succeeds_167 : decode cX3_succeeds 167 = .ok (.ifCond .eq 26, 3) := by decide +kernel
theorem dX3_succeeds_170 : decode cX3_succeeds 170 = .ok (.iload 5, 2) := by decide +kernel
theorem dX3_succeeds_172 : decode cX3_succeeds 172 = .ok (.invokestatic 195, 3) := by decide +kernel
theorem dX3_succeeds_175 : decode cX3_succeeds 175 = .ok (.ifCond .eq 18, 3) := by decide +kernel
theorem dX3_succeeds_178 : decode cX3_succeeds 178 = .ok (.aload_n 0, 1) := by decide +kernel
theorem dX3_succeeds_179 : decode cX3_succeeds 179 = .ok (.iload 5, 2) := by decide +kernel
theorem dX3_succeeds_181 : decode cX3_succeeds 181 = .ok (.invokevirtual 223, 3) := by decide +kernel
theorem dX3_succeeds_184 : decode cX3_succeeds 184 = .ok (.bipush (-9), 2) := by decide +kernel
theorem dX3_succeeds_186 : decode cX3_succeeds 186 = .ok (.if_icmp .eq 7, 3) := by decide +kernel
theorem dX3_succeeds_189 : decode cX3_succeeds 189 = .ok (.iconst 1, 1) := by decide +kernel
theorem dX3_succeeds_190 : decode cX3_succeeds 190 = .ok (.goto 4, 3) := by decide +kernel
theorem dX3_succeeds_193 : decode cX3_succeeds 193 = .ok (.iconst 0, 1) := by decide +kernel
theorem dX3_succeeds_194 : decode cX3_succeeds 194 = .ok (.ireturn, 1) := by decide +kernel
theorem dX3_succeeds_195 : decode cX3_succeeds 195 = .ok (.iload 6, 2) := by decide +kernel
theorem dX3_succeeds_197 : decode cX3_succeeds 197 = .ok (.ifCond .eq 24, 3) := by decide +kernel
theorem dX3_succeeds_200 : decode cX3_succeeds 200 = .ok (.iload 5, 2) := by decide +kernel
theorem dX3_succeeds_202 : decode cX3_succeeds 202 = .ok (.invokestatic 195, 3) := by decide +kernel
theorem dX3_succeeds_205 : decode cX3_succeeds 205 = .ok (.ifCond .eq 16, 3) := by decide +kernel
theorem dX3_succeeds_208 : decode cX3_succeeds 208 = .ok (.aload_n 0, 1) := by decide +kernel
theorem dX3_succeeds_209 : decode cX3_succeeds 209 = .ok (.iload 5, 2) := by decide +kernel
theorem dX3_succeeds_211 : decode cX3_succeeds 211 = .ok (.invokevirtual 226, 3) := by decide +kernel
theorem dX3_succeeds_214 : decode cX3_succeeds 214 = .ok (.ifCond .le 7, 3) := by decide +kernel
theorem dX3_succeeds_217 : decode cX3_succeeds 217 = .ok (.iconst 1, 1) := by decide +kernel
theorem dX3_succeeds_218 : decode cX3_succeeds 218 = .ok (.goto 4, 3) := by decide +kernel
theorem dX3_succeeds_221 : decode cX3_succeeds 221 = .ok (.iconst 0, 1) := by decide +kernel
theorem dX3_succeeds_222 : decode cX3_succeeds 222 = .ok (.ireturn, 1) := by decide +kernel
theorem dX3_succeeds_223 : decode cX3_succeeds 223 = .ok (.iload 6, 2) := by decide +kernel
theorem dX3_succeeds_225 : decode cX3_succeeds 225 = .ok (.ifCond .eq 29, 3) := by decide +kernel
theorem dX3_succeeds_228 : decode cX3_succeeds 228 = .ok (.iload 5, 2) := by decide +kernel
theorem dX3_succeeds_230 : decode cX3_succeeds 230 = .ok (.iconst 1, 1) := by decide +kernel
theorem dX3_succeeds_231 : decode cX3_succeeds 231 = .ok (.bipush 50, 2) := by decide +kernel
theorem dX3_succeeds_233 : decode cX3_succeeds 233 = .ok (.invokestatic 44, 3) := by decide +kernel
theorem dX3_succeeds_236 : decode cX3_succeeds 236 = .ok (.ifCond .eq 18, 3) := by decide +kernel
theorem dX3_succeeds_239 : decode cX3_succeeds 239 = .ok (.aload_n 0, 1) := by decide +kernel
theorem dX3_succeeds_240 : decode cX3_succeeds 240 = .ok (.iload 5, 2) := by decide +kernel
theorem dX3_succeeds_242 : decode cX3_succeeds 242 = .ok (.invokevirtual 233, 3) := by decide +kernel
theorem dX3_succeeds_245 : decode cX3_succeeds 245 = .ok (.bipush (-9), 2) := by decide +kernel
theorem dX3_succeeds_247 : decode cX3_succeeds 247 = .ok (.if_icmp .eq 7, 3) := by decide +kernel
theorem dX3_succeeds_250 : decode cX3_succeeds 250 = .ok (.iconst 1, 1) := by decide +kernel
theorem dX3_succeeds_251 : decode cX3_succeeds 251 = .ok (.goto 4, 3) := by decide +kernel
theorem dX3_succeeds_254 : decode cX3_succeeds 254 = .ok (.iconst 0, 1) := by decide +kernel
theorem dX3_succeeds_255 : decode cX3_succeeds 255 = .ok (.ireturn, 1) := by decide +kernel
theorem dX3_succeeds_256 : decode cX3_succeeds 256 = .ok (.iload_n 3, 1) := by decide +kernel
theorem dX3_succeeds_257 : decode cX3_succeeds 257 = .ok (.ifCond .ne 25, 3) := by decide +kernel
theorem dX3_succeeds_260 : decode cX3_succeeds 260 = .ok (.aload_n 0, 1) := by decide +kernel
theorem dX3_succeeds_261 : decode cX3_succeeds 261 = .ok (.iload_n 2, 1) := by decide +kernel
theorem dX3_succeeds_262 : decode cX3_succeeds 262 = .ok (.invokevirtual 117, 3) := by decide +kernel
theorem dX3_succeeds_265 : decode cX3_succeeds 265 = .ok (.ifCond .eq 17, 3) := by decide +kernel
theorem dX3_succeeds_268 : decode cX3_succeeds 268 = .ok (.aload_n 0, 1) := by decide +kernel
theorem dX3_succeeds_269 : decode cX3_succeeds 269 = .ok (.iload_n 2, 1) := by decide +kernel
theorem dX3_succeeds_270 : decode cX3_succeeds 270 = .ok (.invokevirtual 293, 3) := by decide +kernel
theorem dX3_succeeds_273 : decode cX3_succeeds 273 = .ok (.iload 5, 2) := by decide +kernel
theorem dX3_succeeds_275 : decode cX3_succeeds 275 = .ok (.if_icmp .lt 7, 3) := by decide +kernel
theorem dX3_succeeds_278 : decode cX3_succeeds 278 = .ok (.iconst 1, 1) := by decide +kernel
theorem dX3_succeeds_279 : decode cX3_succeeds 279 = .ok (.goto 4, 3) := by decide +kernel
theorem dX3_succeeds_282 : decode cX3_succeeds 282 = .ok (.iconst 0, 1) := by decide +kernel
theorem dX3_succeeds_283 : decode cX3_succeeds 283 = .ok (.ireturn, 1) := by decide +kernel
theorem dX3_succeeds_284 : decode cX3_succeeds 284 = .ok (.iload_n 3, 1) := by decide +kernel
theorem dX3_succeeds_285 : decode cX3_succeeds 285 = .ok (.ifCond .ne 30, 3) := by decide +kernel
theorem dX3_succeeds_288 : decode cX3_succeeds 288 = .ok (.iload 4, 2) := by decide +kernel
theorem dX3_succeeds_290 : decode cX3_succeeds 290 = .ok (.ifCond .ne 25, 3) := by decide +kernel
theorem dX3_succeeds_293 : decode cX3_succeeds 293 = .ok (.aload_n 0, 1) := by decide +kernel
theorem dX3_succeeds_294 : decode cX3_succeeds 294 = .ok (.iload_n 2, 1) := by decide +kernel
theorem dX3_succeeds_295 : decode cX3_succeeds 295 = .ok (.invokevirtual 117, 3) := by decide +kernel
theorem dX3_succeeds_298 : decode cX3_succeeds 298 = .ok (.ifCond .eq 17, 3) := by decide +kernel
theorem dX3_succeeds_301 : decode cX3_succeeds 301 = .ok (.aload_n 0, 1) := by decide +kernel
theorem dX3_succeeds_302 : decode cX3_succeeds 302 = .ok (.iload_n 2, 1) := by decide +kernel
theorem dX3_succeeds_303 : decode cX3_succeeds 303 = .ok (.invokevirtual 149, 3) := by decide +kernel
theorem dX3_succeeds_306 : decode cX3_succeeds 306 = .ok (.iload 5, 2) := by decide +kernel
theorem dX3_succeeds_308 : decode cX3_succeeds 308 = .ok (.if_icmp .ne 7, 3) := by decide +kernel
theorem dX3_succeeds_311 : decode cX3_succeeds 311 = .ok (.iconst 1, 1) := by decide +kernel
theorem dX3_succeeds_312 : decode cX3_succeeds 312 = .ok (.goto 4, 3) := by decide +kernel
theorem dX3_succeeds_315 : decode cX3_succeeds 315 = .ok (.iconst 0, 1) := by decide +kernel
theorem dX3_succeeds_316 : decode cX3_succeeds 316 = .ok (.ireturn, 1) := by decide +kernel
theorem dX3_succeeds_317 : decode cX3_succeeds 317 = .ok (.iload_n 2, 1) := by decide +kernel
theorem dX3_succeeds_318 : decode cX3_succeeds 318 = .ok (.ifCond .ne 19, 3) := by decide +kernel
theorem dX3_succeeds_321 : decode cX3_succeeds 321 = .ok (.aload_n 0, 1) := by decide +kernel
theorem dX3_succeeds_322 : decode cX3_succeeds 322 = .ok (.invokevirtual 106, 3) := by decide +kernel
theorem dX3_succeeds_325 : decode cX3_succeeds 325 = .ok (.iload_n 1, 1) := by decide +kernel
theorem dX3_succeeds_326 : decode cX3_succeeds 326 = .ok (.sipush 1000, 3) := by decide +kernel
theorem dX3_succeeds_329 : decode cX3_succeeds 329 = .ok (.irem, 1) := by decide +kernel
theorem dX3_succeeds_330 : decode cX3_succeeds 330 = .ok (.if_icmp .gt 7, 3) := by decide +kernel
theorem dX3_succeeds_333 : decode cX3_succeeds 333 = .ok (.iconst 1, 1) := by decide +kernel
theorem dX3_succeeds_334 : decode cX3_succeeds 334 = .ok (.goto 4, 3) := by decide +kernel
theorem dX3_succeeds_337 : decode cX3_succeeds 337 = .ok (.iconst 0, 1) := by decide +kernel
theorem dX3_succeeds_338 : decode cX3_succeeds 338 = .ok (.ireturn, 1) := by decide +kernel
theorem dX3_succeeds_339 : decode cX3_succeeds 339 = .ok (.iload 6, 2) := by decide +kernel
theorem dX3_succeeds_341 : decode cX3_succeeds 341 = .ok (.ifCond .eq 24, 3) := by decide +kernel
theorem dX3_succeeds_344 : decode cX3_succeeds 344 = .ok (.iload 4, 2) := by decide +kernel
theorem dX3_succeeds_346 : decode cX3_succeeds 346 = .ok (.ifCond .ne 19, 3) := by decide +kernel
theorem dX3_succeeds_349 : decode cX3_succeeds 349 = .ok (.aload_n 0, 1) := by decide +kernel
theorem dX3_succeeds_350 : decode cX3_succeeds 350 = .ok (.invokevirtual 112, 3) := by decide +kernel
theorem dX3_succeeds_353 : decode cX3_succeeds 353 = .ok (.invokestatic 283, 3) := by decide +kernel
theorem dX3_succeeds_356 : decode cX3_succeeds 356 = .ok (.iload 5, 2) := by decide +kernel
theorem dX3_succeeds_358 : decode cX3_succeeds 358 = .ok (.if_icmp .gt 7, 3) := by decide +kernel
theorem dX3_succeeds_361 : decode cX3_succeeds 361 = .ok (.iconst 1, 1) := by decide +kernel
theorem dX3_succeeds_362 : decode cX3_succeeds 362 = .ok (.goto 4, 3) := by decide +kernel
theorem dX3_succeeds_365 : decode cX3_succeeds 365 = .ok (.iconst 0, 1) := by decide +kernel
theorem dX3_succeeds_366 : decode cX3_succeeds 366 = .ok (.ireturn, 1) := by decide +kernel
theorem dX3_succeeds_367 : decode cX3_succeeds 367 = .ok (.iconst 0, 1) := by decide +kernel
theorem dX3_succeeds_368 : decode cX3_succeeds 368 = .ok (.ireturn, 1) := by decide +kernel
theorem dX4_init_0 : decode cX4_init 0 = .ok (.aload_n 0, 1) := by decide +kernel
theorem dX4_init_1 : decode cX4_init 1 = .ok (.invokespecial 1, 3) := by decide +kernel
theorem dX4_init_4 : decode cX4_init 4 = .ok (.aload_n 0, 1) := by decide +kernel
theorem dX4_init_5 : decode cX4_init 5 = .ok (.bipush 107, 2) := by decide +kernel
theorem dX4_init_7 : decode cX4_init 7 = .ok (.newarray .int, 2) := by decide +kernel
theorem dX4_init_9 : decode cX4_init 9 = .ok (.putfield 7, 3) := by decide +kernel
theorem dX4_init_12 : decode cX4_init 12 = .ok (.aload_n 0, 1) := by decide +kernel
theorem dX4_init_13 : decode cX4_init 13 = .ok (.bipush 107, 2) := by decide +kernel
theorem dX4_init_15 : decode cX4_init 15 = .ok (.newarray .int, 2) := by decide +kernel
theorem dX4_init_17 : decode cX4_init 17 = .ok (.putfield 13, 3) := by decide +kernel
theorem dX4_init_20 : decode cX4_init 20 = .ok (.aload_n 0, 1) := by decide +kernel
theorem dX4_init_21 : decode cX4_init 21 = .ok (.sipush 214, 3) := by decide +kernel
theorem dX4_init_24 : decode cX4_init 24 = .ok (.newarray .int, 2) := by decide +kernel
theorem dX4_init_26 : decode cX4_init 26 = .ok (.putfield 16, 3) := by decide +kernel
theorem dX4_init_29 : decode cX4_init 29 = .ok (.aload_n 0, 1) := by decide +kernel
theorem dX4_init_30 : decode cX4_init 30 = .ok (.iconst 2, 1) := by decide +kernel
theorem dX4_init_31 : decode cX4_init 31 = .ok (.newarray .boolean, 2) := by decide +kernel
theorem dX4_init_33 : decode cX4_init 33 = .ok (.putfield 19, 3) := by decide +kernel
theorem dX4_init_36 : decode cX4_init 36 = .ok (.aload_n 0, 1) := by decide +kernel
theorem dX4_init_37 : decode cX4_init 37 = .ok (.sipush 1498, 3) := by decide +kernel
theorem dX4_init_40 : decode cX4_init 40 = .ok (.newarray .int, 2) := by decide +kernel
theorem dX4_init_42 : decode cX4_init 42 = .ok (.putfield 23, 3) := by decide +kernel
theorem dX4_init_45 : decode cX4_init 45 = .ok (.aload_n 0, 1) := by decide +kernel
theorem dX4_init_46 : decode cX4_init 46 = .ok (.bipush 120, 2) := by decide +kernel
theorem dX4_init_48 : decode cX4_init 48 = .ok (.newarray .int, 2) := by decide +kernel
theorem dX4_init_50 : decode cX4_init 50 = .ok (.putfield 26, 3) := by decide +kernel
theorem dX4_init_53 : decode cX4_init 53 = .ok (.aload_n 0, 1) := by decide +kernel
theorem dX4_init_54 : decode cX4_init 54 = .ok (.bipush 8, 2) := by decide +kernel
theorem dX4_init_56 : decode cX4_init 56 = .ok (.newarray .boolean, 2) := by decide +kernel
theorem dX4_init_58 : decode cX4_init 58 = .ok (.putfield 29, 3) := by decide +kernel
theorem dX4_init_61 : decode cX4_init 61 = .ok (.aload_n 0, 1) := by decide +kernel
theorem dX4_init_62 : decode cX4_init 62 = .ok (.bipush 107, 2) := by decide +kernel
theorem dX4_init_64 : decode cX4_init 64 = .ok (.newarray .int, 2) := by decide +kernel
theorem dX4_init_66 : decode cX4_init 66 = .ok (.putfield 32, 3) := by decide +kernel
theorem dX4_init_69 : decode cX4_init 69 = .ok (.return_, 1) := by decide +kernel
theorem dX4_thrown_0 : decode cX4_thrown 0 = .ok (.aload_n 0, 1) := by decide +kernel
theorem dX4_thrown_1 : decode cX4_thrown 1 = .ok (.getfield 35, 3) := by decide +kernel
theorem dX4_thrown_4 : decode cX4_thrown 4 = .ok (.ireturn, 1) := by decide +kernel
theorem dX4_in_0 : decode cX4_in 0 = .ok (.iload_n 0, 1) := by decide +kernel
theorem dX4_in_1 : decode cX4_in 1 = .ok (.iload_n 1, 1) := by decide +kernel
theorem dX4_in_2 : decode cX4_in 2 = .ok (.if_icmp .lt 12, 3) := by decide +kernel
theorem dX4_in_5 : decode cX4_in 5 = .ok (.iload_n 0, 1) := by decide +kernel
theorem dX4_in_6 : decode cX4_in 6 = .ok (.iload_n 2, 1) := by decide +kernel
theorem dX4_in_7 : decode cX4_in 7 = .ok (.if_icmp .gt 7, 3) := by decide +kernel
theorem dX4_in_10 : decode cX4_in 10 = .ok (.iconst 1, 1) := by decide +kernel
theorem dX4_in_11 : decode cX4_in 11 = .ok (.goto 4, 3) := by decide +kernel
theorem dX4_in_14 : decode cX4_in 14 = .ok (.iconst 0, 1) := by decide +kernel
theorem dX4_in_15 : decode cX4_in 15 = .ok (.ireturn, 1) := by decide +kernel
theorem dX4_of_0 : decode cX4_of 0 = .ok (.aload_n 0, 1) := by decide +kernel
theorem dX4_of_1 : decode cX4_of 1 = .ok (.getfield 7, 3) := by decide +kernel
theorem dX4_of_4 : decode cX4_of 4 = .ok (.bipush 7, 2) := by decide +kernel
theorem dX4_of_6 : decode cX4_of 6 = .ok (.iconst 5, 1) := by decide +kernel
theorem dX4_of_7 : decode cX4_of 7 = .ok (.iload_n 1, 1) := by decide +kernel
theorem dX4_of_8 : decode cX4_of 8 = .ok (.imul, 1) := by decide +kernel
theorem dX4_of_9 : decode cX4_of 9 = .ok (.iadd, 1) := by decide +kernel
theorem dX4_of_10 : decode cX4_of 10 = .ok (.iload_n 2, 1) := by decide +kernel
theorem dX4_of_11 : decode cX4_of 11 = .ok (.iadd, 1) := by decide +kernel
theorem dX4_of_12 : decode cX4_of 12 = .ok (.iaload, 1) := by decide +kernel
theorem dX4_of_13 : decode cX4_of 13 = .ok (.ireturn, 1) := by decide +kernel
theorem dX4_more_0 : decode cX4_more 0 = .ok (.aload_n 0, 1) := by decide +kernel
theorem dX4_more_1 : decode cX4_more 1 = .ok (.getfield 7, 3) := by decide +kernel
theorem dX4_more_4 : decode cX4_more 4 = .ok (.bipush 7, 2) := by decide +kernel
theorem dX4_more_6 : decode cX4_more 6 = .ok (.iconst 5, 1) := by decide +kernel
theorem dX4_more_7 : decode cX4_more 7 = .ok (.iload_n 1, 1) := by decide +kernel
theorem dX4_more_8 : decode cX4_more 8 = .ok (.imul, 1) := by decide +kernel
theorem dX4_more_9 : decode cX4_more 9 = .ok (.iadd, 1) := by decide +kernel
theorem dX4_more_10 : decode cX4_more 10 = .ok (.iload_n 2, 1) := by decide +kernel
theorem dX4_more_11 : decode cX4_more 11 = .ok (.iadd, 1) := by decide +kernel
theorem dX4_more_12 : decode cX4_more 12 = .ok (.dup2, 1) := by decide +kernel
theorem dX4_more_13 : decode cX4_more 13 = .ok (.iaload, 1) := by decide +kernel
theorem dX4_more_14 : decode cX4_more 14 = .ok (.iload_n 3, 1) := by decide +kernel
theorem dX4_more_15 : decode cX4_more 15 = .ok (.iadd, 1) := by decide +kernel
theorem dX4_more_16 : decode cX4_more 16 = .ok (.iastore, 1) := by decide +kernel
theorem dX4_more_17 : decode cX4_more 17 = .ok (.return_, 1) := by decide +kernel
theorem dX4_ofLoan_0 : decode cX4_ofLoan 0 = .ok (.aload_n 0, 1) := by decide +kernel
theorem dX4_ofLoan_1 : decode cX4_ofLoan 1 = .ok (.getfield 7, 3) := by decide +kernel
theorem dX4_ofLoan_4 : decode cX4_ofLoan 4 = .ok (.bipush 47, 2) := by decide +kernel
theorem dX4_ofLoan_6 : decode cX4_ofLoan 6 = .ok (.iconst 5, 1) := by decide +kernel
theorem dX4_ofLoan_7 : decode cX4_ofLoan 7 = .ok (.iload_n 1, 1) := by decide +kernel
theorem dX4_ofLoan_8 : decode cX4_ofLoan 8 = .ok (.imul, 1) := by decide +kernel
theorem dX4_ofLoan_9 : decode cX4_ofLoan 9 = .ok (.iadd, 1) := by decide +kernel
theorem dX4_ofLoan_10 : decode cX4_ofLoan 10 = .ok (.iload_n 2, 1) := by decide +kernel
theorem dX4_ofLoan_11 : decode cX4_ofLoan 11 = .ok (.iadd, 1) := by decide +kernel
theorem dX4_ofLoan_12 : decode cX4_ofLoan 12 = .ok (.iaload, 1) := by decide +kernel
theorem dX4_ofLoan_13 : decode cX4_ofLoan 13 = .ok (.ireturn, 1) := by decide +kernel
theorem dX4_isCell_0 : decode cX4_isCell 0 = .ok (.iload_n 1, 1) := by decide +kernel
theorem dX4_isCell_1 : decode cX4_isCell 1 = .ok (.iconst 0, 1) := by decide +kernel
theorem dX4_isCell_2 : decode cX4_isCell 2 = .ok (.aload_n 0, 1) := by decide +kernel
theorem dX4_isCell_3 : decode cX4_isCell 3 = .ok (.getfield 7, 3) := by decide +kernel
theorem dX4_isCell_6 : decode cX4_isCell 6 = .ok (.iconst 1, 1) := by decide +kernel
theorem dX4_isCell_7 : decode cX4_isCell 7 = .ok (.iaload, 1) := by decide +kernel
theorem dX4_isCell_8 : decode cX4_isCell 8 = .ok (.iconst 1, 1) := by decide +kernel
theorem dX4_isCell_9 : decode cX4_isCell 9 = .ok (.isub, 1) := by decide +kernel
theorem dX4_isCell_10 : decode cX4_isCell 10 = .ok (.invokestatic 39, 3) := by decide +kernel
theorem dX4_isCell_13 : decode cX4_isCell 13 = .ok (.ireturn, 1) := by decide +kernel
theorem dX4_isLoan_0 : decode cX4_isLoan 0 = .ok (.iload_n 1, 1) := by decide +kernel
theorem dX4_isLoan_1 : decode cX4_isLoan 1 = .ok (.iconst 0, 1) := by decide +kernel
theorem dX4_isLoan_2 : decode cX4_isLoan 2 = .ok (.aload_n 0, 1) := by decide +kernel
theorem dX4_isLoan_3 : decode cX4_isLoan 3 = .ok (.getfield 7, 3) := by decide +kernel
theorem dX4_isLoan_6 : decode cX4_isLoan 6 = .ok (.iconst 2, 1) := by decide +kernel
theorem dX4_isLoan_7 : decode cX4_isLoan 7 = .ok (.iaload, 1) := by decide +kernel
theorem dX4_isLoan_8 : decode cX4_isLoan 8 = .ok (.iconst 1, 1) := by decide +kernel
theorem dX4_isLoan_9 : decode cX4_isLoan 9 = .ok (.isub, 1) := by decide +kernel
theorem dX4_isLoan_10 : decode cX4_isLoan 10 = .ok (.invokestatic 39, 3) := by decide +kernel
theorem dX4_isLoan_13 : decode cX4_isLoan 13 = .ok (.ireturn, 1) := by decide +kernel
theorem dX4_isSound_0 : decode cX4_isSound 0 = .ok (.aload_n 0, 1) := by decide +kernel
theorem dX4_isSound_1 : decode cX4_isSound 1 = .ok (.iload_n 1, 1) := by decide +kernel
theorem dX4_isSound_2 : decode cX4_isSound 2 = .ok (.iconst 4, 1) := by decide +kernel
theorem dX4_isSound_3 : decode cX4_isSound 3 = .ok (.invokevirtual 43, 3) := by decide +kernel
theorem dX4_isSound_6 : decode cX4_isSound 6 = .ok (.ifCond .ne 7, 3) := by decide +kernel
theorem dX4_isSound_9 : decode cX4_isSound 9 = .ok (.iconst 1, 1) := by decide +kernel
theorem dX4_isSound_10 : decode cX4_isSound 10 = .ok (.goto 4, 3) := by decide +kernel
theorem dX4_isSound_13 : decode cX4_isSound 13 = .ok (.iconst 0, 1) := by decide +kernel
theorem dX4_isSound_14 : decode cX4_isSound 14 = .ok (.ireturn, 1) := by decide +kernel
theorem dX4_layPut_0 : decode cX4_layPut 0 = .ok (.iconst 0, 1) := by decide +kernel
theorem dX4_layPut_1 : decode cX4_layPut 1 = .ok (.istore_n 1, 1) := by decide +kernel
theorem dX4_layPut_2 : decode cX4_layPut 2 = .ok (.iload_n 1, 1) := by decide +kernel
theorem dX4_layPut_3 : decode cX4_layPut 3 = .ok (.bipush 107, 2) := by decide +kernel
theorem dX4_layPut_5 : decode cX4_layPut 5 = .ok (.if_icmp .ge 21, 3) := by decide +kernel
theorem dX4_layPut_8 : decode cX4_layPut 8 = .ok (.aload_n 0, 1) := by decide +kernel
theorem dX4_layPut_9 : decode cX4_layPut 9 = .ok (.getfield 13, 3) := by decide +kernel
theorem dX4_layPut_12 : decode cX4_layPut 12 = .ok (.iload_n 1, 1) := by decide +kernel
theorem dX4_layPut_13 : decode cX4_layPut 13 = .ok (.aload_n 0, 1) := by decide +kernel
theorem dX4_layPut_14 : decode cX4_layPut 14 = .ok (.getfield 7, 3) := by decide +kernel
theorem dX4_layPut_17 : decode cX4_layPut 17 = .ok (.iload_n 1, 1) := by decide +kernel
theorem dX4_layPut_18 : decode cX4_layPut 18 = .ok (.iaload, 1) := by decide +kernel
theorem dX4_layPut_19 : decode cX4_layPut 19 = .ok (.iastore, 1) := by decide +kernel
theorem dX4_layPut_20 : decode cX4_layPut 20 = .ok (.iinc 1 1, 3) := by decide +kernel
theorem dX4_layPut_23 : decode cX4_layPut 23 = .ok (.goto (-21), 3) := by decide +kernel
theorem dX4_layPut_26 : decode cX4_layPut 26 = .ok (.return_, 1) := by decide +kernel
theorem dX4_putBack_0 : decode cX4_putBack 0 = .ok (.iconst 0, 1) := by decide +kernel
theorem dX4_putBack_1 : decode cX4_putBack 1 = .ok (.istore_n 1, 1) := by decide +kernel
theorem dX4_putBack_2 : decode cX4_putBack 2 = .ok (.iload_n 1, 1) := by decide +kernel
theorem dX4_putBack_3 : decode cX4_putBack 3 = .ok (.bipush 107, 2) := by decide +kernel
theorem dX4_putBack_5 : decode cX4_putBack 5 = .ok (.if_icmp .ge 21, 3) := by decide +kernel
theorem dX4_putBack_8 : decode cX4_putBack 8 = .ok (.aload_n 0, 1) := by decide +kernel
theorem dX4_putBack_9 : decode cX4_putBack 9 = .ok (.getfield 7, 3) := by decide +kernel
theorem dX4_putBack_12 : decode cX4_putBack 12 = .ok (.iload_n 1, 1) := by decide +kernel
theorem dX4_putBack_13 : decode cX4_putBack 13 = .ok (.aload_n 0, 1) := by decide +kernel
theorem dX4_putBack_14 : decode cX4_putBack 14 = .ok (.getfield 13, 3) := by decide +kernel
theorem dX4_putBack_17 : decode cX4_putBack 17 = .ok (.iload_n 1, 1) := by decide +kernel
theorem dX4_putBack_18 : decode cX4_putBack 18 = .ok (.iaload, 1) := by decide +kernel
theorem dX4_putBack_19 : decode cX4_putBack 19 = .ok (.iastore, 1) := by decide +kernel
theorem dX4_putBack_20 : decode cX4_putBack 20 = .ok (.iinc 1 1, 3) := by decide +kernel
theorem dX4_putBack_23 : decode cX4_putBack 23 = .ok (.goto (-21), 3) := by decide +kernel
theorem dX4_putBack_26 : decode cX4_putBack 26 = .ok (.return_, 1) := by decide +kernel
theorem dX4_remember_0 : decode cX4_remember 0 = .ok (.aload_n 0, 1) := by decide +kernel
theorem dX4_remember_1 : decode cX4_remember 1 = .ok (.getfield 47, 3) := by decide +kernel
theorem dX4_remember_4 : decode cX4_remember 4 = .ok (.bipush 14, 2) := by decide +kernel
theorem dX4_remember_6 : decode cX4_remember 6 = .ok (.if_icmp .ne 43, 3) := by decide +kernel
theorem dX4_remember_9 : decode cX4_remember 9 = .ok (.iconst 0, 1) := by decide +kernel
theorem dX4_remember_10 : decode cX4_remember 10 = .ok (.istore_n 1, 1) := by decide +kernel
theorem dX4_remember_11 : decode cX4_remember 11 = .ok (.iload_n 1, 1) := by decide +kernel
theorem dX4_remember_12 : decode cX4_remember 12 = .ok (.sipush 1391, 3) := by decide +kernel
theorem dX4_remember_15 : decode cX4_remember 15 = .ok (.if_icmp .ge 24, 3) := by decide +kernel
theorem dX4_remember_18 : decode cX4_remember 18 = .ok (.aload_n 0, 1) := by decide +kernel
theorem dX4_remember_19 : decode cX4_remember 19 = .ok (.getfield 23, 3) := by decide +kernel
theorem dX4_remember_22 : decode cX4_remember 22 = .ok (.iload_n 1, 1) := by decide +kernel
theorem dX4_remember_23 : decode cX4_remember 23 = .ok (.aload_n 0, 1) := by decide +kernel
theorem dX4_remember_24 : decode cX4_remember 24 = .ok (.getfield 23, 3) := by decide +kernel
theorem dX4_remember_27 : decode cX4_remember 27 = .ok (.iload_n 1, 1) := by decide +kernel
theorem dX4_remember_28 : decode cX4_remember 28 = .ok (.bipush 107, 2) := by decide +kernel
theorem dX4_remember_30 : decode cX4_remember 30 = .ok (.iadd, 1) := by decide +kernel
theorem dX4_remember_31 : decode cX4_remember 31 = .ok (.iaload, 1) := by decide +kernel
theorem dX4_remember_32 : decode cX4_remember 32 = .ok (.iastore, 1) := by decide +kernel
theorem dX4_remember_33 : decode cX4_remember 33 = .ok (.iinc 1 1, 3) := by decide +kernel
theorem dX4_remember_36 : decode cX4_remember 36 = .ok (.goto (-25), 3) := by decide +kernel
theorem dX4_remember_39 : decode cX4_remember 39 = .ok (.aload_n 0, 1) := by decide +kernel
theorem dX4_remember_40 : decode cX4_remember 40 = .ok (.dup, 1) := by decide +kernel
theorem dX4_remember_41 : decode cX4_remember 41 = .ok (.getfield 47, 3) := by decide +kernel
theorem dX4_remember_44 : decode cX4_remember 44 = .ok (.iconst 1, 1) := by decide +kernel
theorem dX4_remember_45 : decode cX4_remember 45 = .ok (.isub, 1) := by decide +kernel
theorem dX4_remember_46 : decode cX4_remember 46 = .ok (.putfield 47, 3) := by decide +kernel
theorem dX4_remember_49 : decode cX4_remember 49 = .ok (.iconst 0, 1) := by decide +kernel
theorem dX4_remember_50 : decode cX4_remember 50 = .ok (.istore_n 1, 1) := by decide +kernel
theorem dX4_remember_51 : decode cX4_remember 51 = .ok (.iload_n 1, 1) := by decide +kernel
theorem dX4_remember_52 : decode cX4_remember 52 = .ok (.bipush 107, 2) := by decide +kernel
theorem dX4_remember_54 : decode cX4_remember 54 = .ok (.if_icmp .ge 29, 3) := by decide +kernel
theorem dX4_remember_57 : decode cX4_remember 57 = .ok (.aload_n 0, 1) := by decide +kernel
theorem dX4_remember_58 : decode cX4_remember 58 = .ok (.getfield 23, 3) := by decide +kernel
theorem dX4_remember_61 : decode cX4_remember 61 = .ok (.bipush 107, 2) := by decide +kernel
theorem dX4_remember_63 : decode cX4_remember 63 = .ok (.aload_n 0, 1) := by decide +kernel
theorem dX4_remember_64 : decode cX4_remember 64 = .ok (.getfield 47, 3) := by decide +kernel
theorem dX4_remember_67 : decode cX4_remember 67 = .ok (.imul, 1) := by decide +kernel
theorem dX4_remember_68 : decode cX4_remember 68 = .ok (.iload_n 1, 1) := by decide +kernel
theorem dX4_remember_69 : decode cX4_remember 69 = .ok (.iadd, 1) := by decide +kernel
theorem dX4_remember_70 : decode cX4_remember 70 = .ok (.aload_n 0, 1) := by decide +kernel
theorem dX4_remember_71 : decode cX4_remember 71 = .ok (.getfield 7, 3) := by decide +kernel
theorem dX4_remember_74 : decode cX4_remember 74 = .ok (.iload_n 1, 1) := by decide +kernel
theorem dX4_remember_75 : decode cX4_remember 75 = .ok (.iaload, 1) := by decide +kernel
theorem dX4_remember_76 : decode cX4_remember 76 = .ok (.iastore, 1) := by decide +kernel
theorem dX4_remember_77 : decode cX4_remember 77 = .ok (.iinc 1 1, 3) := by decide +kernel
theorem dX4_remember_80 : decode cX4_remember 80 = .ok (.goto (-29), 3) := by decide +kernel
theorem dX4_remember_83 : decode cX4_remember 83 = .ok (.aload_n 0, 1) := by decide +kernel
theorem dX4_remember_84 : decode cX4_remember 84 = .ok (.dup, 1) := by decide +kernel
theorem dX4_remember_85 : decode cX4_remember 85 = .ok (.getfield 47, 3) := by decide +kernel
theorem dX4_remember_88 : decode cX4_remember 88 = .ok (.iconst 1, 1) := by decide +kernel
theorem dX4_remember_89 : decode cX4_remember 89 = .ok (.iadd, 1) := by decide +kernel
theorem dX4_remember_90 : decode cX4_remember 90 = .ok (.putfield 47, 3) := by decide +kernel
theorem dX4_remember_93 : decode cX4_remember 93 = .ok (.return_, 1) := by decide +kernel
theorem dX4_arrives_0 : decode cX4_arrives 0 = .ok (.iload_n 1, 1) := by decide +kernel
theorem dX4_arrives_1 : decode cX4_arrives 1 = .ok (.iload_n 2, 1) := by decide +kernel
theorem dX4_arrives_2 : decode cX4_arrives 2 = .ok (.if_icmp .le 9, 3) := by decide +kernel
theorem dX4_arrives_5 : decode cX4_arrives 5 = .ok (.iload_n 1, 1) := by decide +kernel
theorem dX4_arrives_6 : decode cX4_arrives 6 = .ok (.iload_n 2, 1) := by decide +kernel
theorem dX4_arrives_7 : decode cX4_arrives 7 = .ok (.isub, 1) := by decide +kernel
theorem dX4_arrives_8 : decode cX4_arrives 8 = .ok (.goto 6, 3) := by decide +kernel
theorem dX4_arrives_11 : decode cX4_arrives 11 = .ok (.iload_n 2, 1) := by decide +kernel
theorem dX4_arrives_12 : decode cX4_arrives 12 = .ok (.iload_n 1, 1) := by decide +kernel
theorem dX4_arrives_13 : decode cX4_arrives 13 = .ok (.isub, 1) := by decide +kernel
theorem dX4_arrives_14 : decode cX4_arrives 14 = .ok (.istore_n 3, 1) := by decide +kernel
theorem dX4_arrives_15 : decode cX4_arrives 15 = .ok (.iload_n 0, 1) := by decide +kernel
theorem dX4_arrives_16 : decode cX4_arrives 16 = .ok (.iload_n 0, 1) := by decide +kernel
theorem dX4_arrives_17 : decode cX4_arrives 17 = .ok (.iload_n 3, 1) := by decide +kernel
theorem dX4_arrives_18 : decode cX4_arrives 18 = .ok (.imul, 1) := by decide +kernel
theorem dX4_arrives_19 : decode cX4_arrives 19 = .ok (.bipush 20, 2) := by decide +kernel
theorem dX4_arrives_21 : decode cX4_arrives 21 = .ok (.idiv, 1) := by decide +kernel
theorem dX4_arrives_22 : decode cX4_arrives 22 = .ok (.isub, 1) := by decide +kernel
theorem dX4_arrives_23 : decode cX4_arrives 23 = .ok (.ireturn, 1) := by decide +kernel
theorem dX4_isTooMuch_0 : decode cX4_isTooMuch 0 = .ok (.aload_n 0, 1) := by decide +kernel
theorem dX4_isTooMuch_1 : decode cX4_isTooMuch 1 = .ok (.iload_n 3, 1) := by decide +kernel
theorem dX4_isTooMuch_2 : decode cX4_isTooMuch 2 = .ok (.iconst 1, 1) := by decide +kernel
theorem dX4_isTooMuch_3 : decode cX4_isTooMuch 3 = .ok (.invokevirtual 43, 3) := by decide +kernel
theorem dX4_isTooMuch_6 : decode cX4_isTooMuch 6 = .ok (.iload_n 1, 1) := by decide +kernel
theorem dX4_isTooMuch_7 : decode cX4_isTooMuch 7 = .ok (.iload_n 2, 1) := by decide +kernel
theorem dX4_isTooMuch_8 : decode cX4_isTooMuch 8 = .ok (.iload_n 3, 1) := by decide +kernel
theorem dX4_isTooMuch_9 : decode cX4_isTooMuch 9 = .ok (.invokestatic 50, 3) := by decide +kernel
theorem dX4_isTooMuch_12 : decode cX4_isTooMuch 12 = .ok (.iadd, 1) := by decide +kernel
theorem dX4_isTooMuch_13 : decode cX4_isTooMuch 13 = .ok (.aload_n 0, 1) := by decide +kernel
theorem dX4_isTooMuch_14 : decode cX4_isTooMuch 14 = .ok (.iload_n 3, 1) := by decide +kernel
theorem dX4_isTooMuch_15 : decode cX4_isTooMuch 15 = .ok (.iconst 0, 1) := by decide +kernel
theorem dX4_isTooMuch_16 : decode cX4_isTooMuch 16 = .ok (.invokevirtual 43, 3) := by decide +kernel
theorem dX4_isTooMuch_19 : decode cX4_isTooMuch 19 = .ok (.if_icmp .le 7, 3) := by decide +kernel
theorem dX4_isTooMuch_22 : decode cX4_isTooMuch 22 = .ok (.iconst 1, 1) := by decide +kernel
theorem dX4_isTooMuch_23 : decode cX4_isTooMuch 23 = .ok (.goto 4, 3) := by decide +kernel
theorem dX4_isTooMuch_26 : decode cX4_isTooMuch 26 = .ok (.iconst 0, 1) := by decide +kernel
theorem dX4_isTooMuch_27 : decode cX4_isTooMuch 27 = .ok (.ireturn, 1) := by decide +kernel
theorem dX4_shuttle_0 : decode cX4_shuttle 0 = .ok (.iload_n 1, 1) := by decide +kernel
theorem dX4_shuttle_1 : decode cX4_shuttle 1 = .ok (.iload_n 2, 1) := by decide +kernel
theorem dX4_shuttle_2 : decode cX4_shuttle 2 = .ok (.iload_n 3, 1) := by decide +kernel
theorem dX4_shuttle_3 : decode cX4_shuttle 3 = .ok (.invokestatic 50, 3) := by decide +kernel
theorem dX4_shuttle_6 : decode cX4_shuttle 6 = .ok (.istore 4, 2) := by decide +kernel
theorem dX4_shuttle_8 : decode cX4_shuttle 8 = .ok (.aload_n 0, 1) := by decide +kernel
theorem dX4_shuttle_9 : decode cX4_shuttle 9 = .ok (.iload_n 2, 1) := by decide +kernel
theorem dX4_shuttle_10 : decode cX4_shuttle 10 = .ok (.iconst 1, 1) := by decide +kernel
theorem dX4_shuttle_11 : decode cX4_shuttle 11 = .ok (.iload_n 1, 1) := by decide +kernel
theorem dX4_shuttle_12 : decode cX4_shuttle 12 = .ok (.ineg, 1) := by decide +kernel
theorem dX4_shuttle_13 : decode cX4_shuttle 13 = .ok (.invokevirtual 54, 3) := by decide +kernel
theorem dX4_shuttle_16 : decode cX4_shuttle 16 = .ok (.aload_n 0, 1) := by decide +kernel
theorem dX4_shuttle_17 : decode cX4_shuttle 17 = .ok (.iload_n 3, 1) := by decide +kernel
theorem dX4_shuttle_18 : decode cX4_shuttle 18 = .ok (.iconst 1, 1) := by decide +kernel
theorem dX4_shuttle_19 : decode cX4_shuttle 19 = .ok (.iload 4, 2) := by decide +kernel
theorem dX4_shuttle_21 : decode cX4_shuttle 21 = .ok (.invokevirtual 54, 3) := by decide +kernel
theorem dX4_shuttle_24 : decode cX4_shuttle 24 = .ok (.aload_n 0, 1) := by decide +kernel
theorem dX4_shuttle_25 : decode cX4_shuttle 25 = .ok (.getfield 7, 3) := by decide +kernel
theorem dX4_shuttle_28 : decode cX4_shuttle 28 = .ok (.iconst 5, 1) := by decide +kernel
theorem dX4_shuttle_29 : decode cX4_shuttle 29 = .ok (.dup2, 1) := by decide +kernel
theorem dX4_shuttle_30 : decode cX4_shuttle 30 = .ok (.iaload, 1) := by decide +kernel
theorem dX4_shuttle_31 : decode cX4_shuttle 31 = .ok (.iload_n 1, 1) := by decide +kernel
theorem dX4_shuttle_32 : decode cX4_shuttle 32 = .ok (.iload 4, 2) := by decide +kernel
theorem dX4_shuttle_34 : decode cX4_shuttle 34 = .ok (.isub, 1) := by decide +kernel
theorem dX4_shuttle_35 : decode cX4_shuttle 35 = .ok (.iadd, 1) := by decide +kernel
theorem dX4_shuttle_36 : decode cX4_shuttle 36 = .ok (.iastore, 1) := by decide +kernel
theorem dX4_shuttle_37 : decode cX4_shuttle 37 = .ok (.iload 4, 2) := by decide +kernel
theorem dX4_shuttle_39 : decode cX4_shuttle 39 = .ok (.ireturn, 1) := by decide +kernel
theorem dX4_makeLoan_0 : decode cX4_makeLoan 0 = .ok (.bipush 47, 2) := by decide +kernel
theorem dX4_makeLoan_2 : decode cX4_makeLoan 2 = .ok (.iconst 5, 1) := by decide +kernel
theorem dX4_makeLoan_3 : decode cX4_makeLoan 3 = .ok (.aload_n 0, 1) := by decide +kernel
theorem dX4_makeLoan_4 : decode cX4_makeLoan 4 = .ok (.getfield 7, 3) := by decide +kernel
theorem dX4_makeLoan_7 : decode cX4_makeLoan 7 = .ok (.iconst 2, 1) := by decide +kernel
theorem dX4_makeLoan_8 : decode cX4_makeLoan 8 = .ok (.iaload, 1) := by decide +kernel
theorem dX4_makeLoan_9 : decode cX4_makeLoan 9 = .ok (.imul, 1) := by decide +kernel
theorem dX4_makeLoan_10 : decode cX4_makeLoan 10 = .ok (.iadd, 1) := by decide +kernel
theorem dX4_makeLoan_11 : decode cX4_makeLoan 11 = .ok (.istore 5, 2) := by decide +kernel
theorem dX4_makeLoan_13 : decode cX4_makeLoan 13 = .ok (.aload_n 0, 1) := by decide +kernel
theorem dX4_makeLoan_14 : decode cX4_makeLoan 14 = .ok (.getfield 7, 3) := by decide +kernel
theorem dX4_makeLoan_17 : decode cX4_makeLoan 17 = .ok (.iload 5, 2) := by decide +kernel
theorem dX4_makeLoan_19 : decode cX4_makeLoan 19 = .ok (.iload_n 1, 1) := by decide +kernel
theorem dX4_makeLoan_20 : decode cX4_makeLoan 20 = .ok (.iastore, 1) := by decide +kernel
theorem dX4_makeLoan_21 : decode cX4_makeLoan 21 = .ok (.aload_n 0, 1) := by decide +kernel
theorem dX4_makeLoan_22 : decode cX4_makeLoan 22 = .ok (.getfield 7, 3) := by decide +kernel
theorem dX4_makeLoan_25 : decode cX4_makeLoan 25 = .ok (.iload 5, 2) := by decide +kernel
theorem dX4_makeLoan_27 : decode cX4_makeLoan 27 = .ok (.iconst 1, 1) := by decide +kernel
theorem dX4_makeLoan_28 : decode cX4_makeLoan 28 = .ok (.iadd, 1) := by decide +kernel
theorem dX4_makeLoan_29 : decode cX4_makeLoan 29 = .ok (.iload_n 2, 1) := by decide +kernel
theorem dX4_makeLoan_30 : decode cX4_makeLoan 30 = .ok (.iastore, 1) := by decide +kernel
theorem dX4_makeLoan_31 : decode cX4_makeLoan 31 = .ok (.aload_n 0, 1) := by decide +kernel
theorem dX4_makeLoan_32 : decode cX4_makeLoan 32 = .ok (.getfield 7, 3) := by decide +kernel
theorem dX4_makeLoan_35 : decode cX4_makeLoan 35 = .ok (.iload 5, 2) := by decide +kernel
theorem dX4_makeLoan_37 : decode cX4_makeLoan 37 = .ok (.iconst 2, 1) := by decide +kernel
theorem dX4_makeLoan_38 : decode cX4_makeLoan 38 = .ok (.iadd, 1) := by decide +kernel
theorem dX4_makeLoan_39 : decode cX4_makeLoan 39 = .ok (.iload_n 3, 1) := by decide +kernel
theorem dX4_makeLoan_40 : decode cX4_makeLoan 40 = .ok (.iastore, 1) := by decide +kernel
theorem dX4_makeLoan_41 : decode cX4_makeLoan 41 = .ok (.aload_n 0, 1) := by decide +kernel
theorem dX4_makeLoan_42 : decode cX4_makeLoan 42 = .ok (.getfield 7, 3) := by decide +kernel
theorem dX4_makeLoan_45 : decode cX4_makeLoan 45 = .ok (.iload 5, 2) := by decide +kernel
theorem dX4_makeLoan_47 : decode cX4_makeLoan 47 = .ok (.iconst 3, 1) := by decide +kernel
theorem dX4_makeLoan_48 : decode cX4_makeLoan 48 = .ok (.iadd, 1) := by decide +kernel
theorem dX4_makeLoan_49 : decode cX4_makeLoan 49 = .ok (.iload 4, 2) := by decide +kernel
theorem dX4_makeLoan_51 : decode cX4_makeLoan 51 = .ok (.iastore, 1) := by decide +kernel
theorem dX4_makeLoan_52 : decode cX4_makeLoan 52 = .ok (.aload_n 0, 1) := by decide +kernel
theorem dX4_makeLoan_53 : decode cX4_makeLoan 53 = .ok (.getfield 7, 3) := by decide +kernel
theorem dX4_makeLoan_56 : decode cX4_makeLoan 56 = .ok (.iload 5, 2) := by decide +kernel
theorem dX4_makeLoan_58 : decode cX4_makeLoan 58 = .ok (.iconst 4, 1) := by decide +kernel
theorem dX4_makeLoan_59 : decode cX4_makeLoan 59 = .ok (.iadd, 1) := by decide +kernel
theorem dX4_makeLoan_60 : decode cX4_makeLoan 60 = .ok (.aload_n 0, 1) := by decide +kernel
theorem dX4_makeLoan_61 : decode cX4_makeLoan 61 = .ok (.iload_n 3, 1) := by decide +kernel
theorem dX4_makeLoan_62 : decode cX4_makeLoan 62 = .ok (.iload_n 1, 1) := by decide +kernel
theorem dX4_makeLoan_63 : decode cX4_makeLoan 63 = .ok (.iload_n 2, 1) := by decide +kernel
theorem dX4_makeLoan_64 : decode cX4_makeLoan 64 = .ok (.invokevirtual 58, 3) := by decide +kernel
theorem dX4_makeLoan_67 : decode cX4_makeLoan 67 = .ok (.iastore, 1) := by decide +kernel
theorem dX4_makeLoan_68 : decode cX4_makeLoan 68 = .ok (.aload_n 0, 1) := by decide +kernel
theorem dX4_makeLoan_69 : decode cX4_makeLoan 69 = .ok (.getfield 7, 3) := by decide +kernel
theorem dX4_makeLoan_72 : decode cX4_makeLoan 72 = .ok (.iconst 2, 1) := by decide +kernel
theorem dX4_makeLoan_73 : decode cX4_makeLoan 73 = .ok (.dup2, 1) := by decide +kernel
theorem dX4_makeLoan_74 : decode cX4_makeLoan 74 = .ok (.iaload, 1) := by decide +kernel
theorem dX4_makeLoan_75 : decode cX4_makeLoan 75 = .ok (.iconst 1, 1) := by decide +kernel
theorem dX4_makeLoan_76 : decode cX4_makeLoan 76 = .ok (.iadd, 1) := by decide +kernel
theorem dX4_makeLoan_77 : decode cX4_makeLoan 77 = .ok (.iastore, 1) := by decide +kernel
theorem dX4_makeLoan_78 : decode cX4_makeLoan 78 = .ok (.aload_n 0, 1) := by decide +kernel
theorem dX4_makeLoan_79 : decode cX4_makeLoan 79 = .ok (.getfield 7, 3) := by decide +kernel
theorem dX4_makeLoan_82 : decode cX4_makeLoan 82 = .ok (.iload 5, 2) := by decide +kernel
theorem dX4_makeLoan_84 : decode cX4_makeLoan 84 = .ok (.iconst 4, 1) := by decide +kernel
theorem dX4_makeLoan_85 : decode cX4_makeLoan 85 = .ok (.iadd, 1) := by decide +kernel
theorem dX4_makeLoan_86 : decode cX4_makeLoan 86 = .ok (.iaload, 1) := by decide +kernel
theorem dX4_makeLoan_87 : decode cX4_makeLoan 87 = .ok (.ireturn, 1) := by decide +kernel
theorem dX4_removeLoan_0 : decode cX4_removeLoan 0 = .ok (.bipush 47, 2) := by decide +kernel
theorem dX4_removeLoan_2 : decode cX4_removeLoan 2 = .ok (.iconst 5, 1) := by decide +kernel
theorem dX4_removeLoan_3 : decode cX4_removeLoan 3 = .ok (.iload_n 1, 1) := by decide +kernel
theorem dX4_removeLoan_4 : decode cX4_removeLoan 4 = .ok (.imul, 1) := by decide +kernel
theorem dX4_removeLoan_5 : decode cX4_removeLoan 5 = .ok (.iadd, 1) := by decide +kernel
theorem dX4_removeLoan_6 : decode cX4_removeLoan 6 = .ok (.istore_n 2, 1) := by decide +kernel
theorem dX4_removeLoan_7 : decode cX4_removeLoan 7 = .ok (.iload_n 2, 1) := by decide +kernel
theorem dX4_removeLoan_8 : decode cX4_removeLoan 8 = .ok (.bipush 47, 2) := by decide +kernel
theorem dX4_removeLoan_10 : decode cX4_removeLoan 10 = .ok (.iconst 5, 1) := by decide +kernel
theorem dX4_removeLoan_11 : decode cX4_removeLoan 11 = .ok (.aload_n 0, 1) := by decide +kernel
theorem dX4_removeLoan_12 : decode cX4_removeLoan 12 = .ok (.getfield 7, 3) := by decide +kernel
theorem dX4_removeLoan_15 : decode cX4_removeLoan 15 = .ok (.iconst 2, 1) := by decide +kernel
theorem dX4_removeLoan_16 : decode cX4_removeLoan 16 = .ok (.iaload, 1) := by decide +kernel
theorem dX4_removeLoan_17 : decode cX4_removeLoan 17 = .ok (.imul, 1) := by decide +kernel
theorem dX4_removeLoan_18 : decode cX4_removeLoan 18 = .ok (.iadd, 1) := by decide +kernel
theorem dX4_removeLoan_19 : decode cX4_removeLoan 19 = .ok (.iconst 5, 1) := by decide +kernel
theorem dX4_removeLoan_20 : decode cX4_removeLoan 20 = .ok (.isub, 1) := by decide +kernel
theorem dX4_removeLoan_21 : decode cX4_removeLoan 21 = .ok (.if_icmp .ge 23, 3) := by decide +kernel
theorem dX4_removeLoan_24 : decode cX4_removeLoan 24 = .ok (.aload_n 0, 1) := by decide +kernel
theorem dX4_removeLoan_25 : decode cX4_removeLoan 25 = .ok (.getfield 7, 3) := by decide +kernel
theorem dX4_removeLoan_28 : decode cX4_removeLoan 28 = .ok (.iload_n 2, 1) := by decide +kernel
theorem dX4_removeLoan_29 : decode cX4_removeLoan 29 = .ok (.aload_n 0, 1) := by decide +kernel
theorem dX4_removeLoan_30 : decode cX4_removeLoan 30 = .ok (.getfield 7, 3) := by decide +kernel
theorem dX4_removeLoan_33 : decode cX4_removeLoan 33 = .ok (.iload_n 2, 1) := by decide +kernel
theorem dX4_removeLoan_34 : decode cX4_removeLoan 34 = .ok (.iconst 5, 1) := by decide +kernel
theorem dX4_removeLoan_35 : decode cX4_removeLoan 35 = .ok (.iadd, 1) := by decide +kernel
theorem dX4_removeLoan_36 : decode cX4_removeLoan 36 = .ok (.iaload, 1) := by decide +kernel
theorem dX4_removeLoan_37 : decode cX4_removeLoan 37 = .ok (.iastore, 1) := by decide +kernel
theorem dX4_removeLoan_38 : decode cX4_removeLoan 38 = .ok (.iinc 2 1, 3) := by decide +kernel
theorem dX4_removeLoan_41 : decode cX4_removeLoan 41 = .ok (.goto (-34), 3) := by decide +kernel
theorem dX4_removeLoan_44 : decode cX4_removeLoan 44 = .ok (.aload_n 0, 1) := by decide +kernel
theorem dX4_removeLoan_45 : decode cX4_removeLoan 45 = .ok (.getfield 7, 3) := by decide +kernel
theorem dX4_removeLoan_48 : decode cX4_removeLoan 48 = .ok (.iconst 2, 1) := by decide +kernel
theorem dX4_removeLoan_49 : decode cX4_removeLoan 49 = .ok (.dup2, 1) := by decide +kernel
theorem dX4_removeLoan_50 : decode cX4_removeLoan 50 = .ok (.iaload, 1) := by decide +kernel
theorem dX4_removeLoan_51 : decode cX4_removeLoan 51 = .ok (.iconst 1, 1) := by decide +kernel
theorem dX4_removeLoan_52 : decode cX4_removeLoan 52 = .ok (.isub, 1) := by decide +kernel
theorem dX4_removeLoan_53 : decode cX4_removeLoan 53 = .ok (.iastore, 1) := by decide +kernel
theorem dX4_removeLoan_54 : decode cX4_removeLoan 54 = .ok (.aload_n 0, 1) := by decide +kernel
theorem dX4_removeLoan_55 : decode cX4_removeLoan 55 = .ok (.aload_n 0, 1) := by decide +kernel
theorem dX4_removeLoan_56 : decode cX4_removeLoan 56 = .ok (.getfield 61, 3) := by decide +kernel
theorem dX4_removeLoan_59 : decode cX4_removeLoan 59 = .ok (.iload_n 1, 1) := by decide +kernel
theorem dX4_removeLoan_60 : decode cX4_removeLoan 60 = .ok (.if_icmp .ne 8, 3) := by decide +kernel
theorem dX4_removeLoan_63 : decode cX4_removeLoan 63 = .ok (.bipush (-9), 2) := by decide +kernel
theorem dX4_removeLoan_65 : decode cX4_removeLoan 65 = .ok (.goto 24, 3) := by decide +kernel
theorem dX4_removeLoan_68 : decode cX4_removeLoan 68 = .ok (.aload_n 0, 1) := by decide +kernel
theorem dX4_removeLoan_69 : decode cX4_removeLoan 69 = .ok (.getfield 61, 3) := by decide +kernel
theorem dX4_removeLoan_72 : decode cX4_removeLoan 72 = .ok (.iload_n 1, 1) := by decide +kernel
theorem dX4_removeLoan_73 : decode cX4_removeLoan 73 = .ok (.if_icmp .le 12, 3) := by decide +kernel
theorem dX4_removeLoan_76 : decode cX4_removeLoan 76 = .ok (.aload_n 0, 1) := by decide +kernel
theorem dX4_removeLoan_77 : decode cX4_removeLoan 77 = .ok (.getfield 61, 3) := by decide +kernel
theorem dX4_removeLoan_80 : decode cX4_removeLoan 80 = .ok (.iconst 1, 1) := by decide +kernel
theorem dX4_removeLoan_81 : decode cX4_removeLoan 81 = .ok (.isub, 1) := by decide +kernel
theorem dX4_removeLoan_82 : decode cX4_removeLoan 82 = .ok (.goto 7, 3) := by decide +kernel
theorem dX4_removeLoan_85 : decode cX4_removeLoan 85 = .ok (.aload_n 0, 1) := by decide +kernel
theorem dX4_removeLoan_86 : decode cX4_removeLoan 86 = .ok (.getfield 61, 3) := by decide +kernel
theorem dX4_removeLoan_89 : decode cX4_removeLoan 89 = .ok (.putfield 61, 3) := by decide +kernel
theorem dX4_removeLoan_92 : decode cX4_removeLoan 92 = .ok (.return_, 1) := by decide +kernel
theorem dX4_interest_0 : decode cX4_interest 0 = .ok (.aload_n 0, 1) := by decide +kernel
theorem dX4_interest_1 : decode cX4_interest 1 = .ok (.iload_n 1, 1) := by decide +kernel
theorem dX4_interest_2 : decode cX4_interest 2 = .ok (.iconst 2, 1) := by decide +kernel
theorem dX4_interest_3 : decode cX4_interest 3 = .ok (.invokevirtual 64, 3) := by decide +kernel
theorem dX4_interest_6 : decode cX4_interest 6 = .ok (.aload_n 0, 1) := by decide +kernel
theorem dX4_interest_7 : decode cX4_interest 7 = .ok (.iload_n 1, 1) := by decide +kernel
theorem dX4_interest_8 : decode cX4_interest 8 = .ok (.iconst 3, 1) := by decide +kernel
theorem dX4_interest_9 : decode cX4_interest 9 = .ok (.invokevirtual 64, 3) := by decide +kernel
theorem dX4_interest_12 : decode cX4_interest 12 = .ok (.imul, 1) := by decide +kernel
theorem dX4_interest_13 : decode cX4_interest 13 = .ok (.bipush 99, 2) := by decide +kernel
theorem dX4_interest_15 : decode cX4_interest 15 = .ok (.iadd, 1) := by decide +kernel
theorem dX4_interest_16 : decode cX4_interest 16 = .ok (.bipush 100, 2) := by decide +kernel
theorem dX4_interest_18 : decode cX4_interest 18 = .ok (.idiv, 1) := by decide +kernel
theorem dX4_interest_19 : decode cX4_interest 19 = .ok (.ireturn, 1) := by decide +kernel
theorem dX4_owedBy_0 : decode cX4_owedBy 0 = .ok (.iconst 0, 1) := by decide +kernel
theorem dX4_owedBy_1 : decode cX4_owedBy 1 = .ok (.istore_n 3, 1) := by decide +kernel
theorem dX4_owedBy_2 : decode cX4_owedBy 2 = .ok (.iconst 0, 1) := by decide +kernel
theorem dX4_owedBy_3 : decode cX4_owedBy 3 = .ok (.istore 4, 2) := by decide +kernel
theorem dX4_owedBy_5 : decode cX4_owedBy 5 = .ok (.iload 4, 2) := by decide +kernel
theorem dX4_owedBy_7 : decode cX4_owedBy 7 = .ok (.aload_n 0, 1) := by decide +kernel
theorem dX4_owedBy_8 : decode cX4_owedBy 8 = .ok (.getfield 7, 3) := by decide +kernel
theorem dX4_owedBy_11 : decode cX4_owedBy 11 = .ok (.iconst 2, 1) := by decide +kernel
theorem dX4_owedBy_12 : decode cX4_owedBy 12 = .ok (.iaload, 1) := by decide +kernel
theorem dX4_owedBy_13 : decode cX4_owedBy 13 = .ok (.if_icmp .ge 34, 3) := by decide +kernel
theorem dX4_owedBy_16 : decode cX4_owedBy 16 = .ok (.iload_n 3, 1) := by decide +kernel
theorem dX4_owedBy_17 : decode cX4_owedBy 17 = .ok (.aload_n 0, 1) := by decide +kernel
theorem dX4_owedBy_18 : decode cX4_owedBy 18 = .ok (.iload 4, 2) := by decide +kernel
theorem dX4_owedBy_20 : decode cX4_owedBy 20 = .ok (.iload_n 2, 1) := by decide +kernel
theorem dX4_owedBy_21 : decode cX4_owedBy 21 = .ok (.invokevirtual 64, 3) := by decide +kernel
theorem dX4_owedBy_24 : decode cX4_owedBy 24 = .ok (.iload_n 1, 1) := by decide +kernel
theorem dX4_owedBy_25 : decode cX4_owedBy 25 = .ok (.if_icmp .ne 13, 3) := by decide +kernel
theorem dX4_owedBy_28 : decode cX4_owedBy 28 = .ok (.aload_n 0, 1) := by decide +kernel
theorem dX4_owedBy_29 : decode cX4_owedBy 29 = .ok (.iload 4, 2) := by decide +kernel
theorem dX4_owedBy_31 : decode cX4_owedBy 31 = .ok (.iconst 2, 1) := by decide +kernel
theorem dX4_owedBy_32 : decode cX4_owedBy 32 = .ok (.invokevirtual 64, 3) := by decide +kernel
theorem dX4_owedBy_35 : decode cX4_owedBy 35 = .ok (.goto 4, 3) := by decide +kernel
theorem dX4_owedBy_38 : decode cX4_owedBy 38 = .ok (.iconst 0, 1) := by decide +kernel
theorem dX4_owedBy_39 : decode cX4_owedBy 39 = .ok (.iadd, 1) := by decide +kernel
theorem dX4_owedBy_40 : decode cX4_owedBy 40 = .ok (.istore_n 3, 1) := by decide +kernel
theorem dX4_owedBy_41 : decode cX4_owedBy 41 = .ok (.iinc 4 1, 3) := by decide +kernel
theorem dX4_owedBy_44 : decode cX4_owedBy 44 = .ok (.goto (-39), 3) := by decide +kernel
theorem dX4_owedBy_47 : decode cX4_owedBy 47 = .ok (.iload_n 3, 1) := by decide +kernel
theorem dX4_owedBy_48 : decode cX4_owedBy 48 = .ok (.ireturn, 1) := by decide +kernel
theorem dX4_burnInterest_0 : decode cX4_burnInterest 0 = .ok (.iconst 0, 1) := by decide +kernel
theorem dX4_burnInterest_1 : decode cX4_burnInterest 1 = .ok (.istore_n 1, 1) := by decide +kernel
theorem dX4_burnInterest_2 : decode cX4_burnInterest 2 = .ok (.iload_n 1, 1) := by decide +kernel
theorem dX4_burnInterest_3 : decode cX4_burnInterest 3 = .ok (.bipush 8, 2) := by decide +kernel
theorem dX4_burnInterest_5 : decode cX4_burnInterest 5 = .ok (.if_icmp .ge 16, 3) := by decide +kernel
theorem dX4_burnInterest_8 : decode cX4_burnInterest 8 = .ok (.aload_n 0, 1) := by decide +kernel
theorem dX4_burnInterest_9 : decode cX4_burnInterest 9 = .ok (.getfield 29, 3) := by decide +kernel
theorem dX4_burnInterest_12 : decode cX4_burnInterest 12 = .ok (.iload_n 1, 1) := by decide +kernel
theorem dX4_burnInterest_13 : decode cX4_burnInterest 13 = .ok (.iconst 0, 1) := by decide +kernel
theorem dX4_burnInterest_14 : decode cX4_burnInterest 14 = .ok (.bastore, 1) := by decide +kernel
theorem dX4_burnInterest_15 : decode cX4_burnInterest 15 = .ok (.iinc 1 1, 3) := by decide +kernel
theorem dX4_burnInterest_18 : decode cX4_burnInterest 18 = .ok (.goto (-16), 3) := by decide +kernel
theorem dX4_burnInterest_21 : decode cX4_burnInterest 21 = .ok (.iconst 0, 1) := by decide +kernel
theorem dX4_burnInterest_22 : decode cX4_burnInterest 22 = .ok (.istore_n 1, 1) := by decide +kernel
theorem dX4_burnInterest_23 : decode cX4_burnInterest 23 = .ok (.iload_n 1, 1) := by decide +kernel
theorem dX4_burnInterest_24 : decode cX4_burnInterest 24 = .ok (.aload_n 0, 1) := by decide +kernel
theorem dX4_burnInterest_25 : decode cX4_burnInterest 25 = .ok (.getfield 7, 3) := by decide +kernel
theorem dX4_burnInterest_28 : decode cX4_burnInterest 28 = .ok (.iconst 2, 1) := by decide +kernel
theorem dX4_burnInterest_29 : decode cX4_burnInterest 29 = .ok (.iaload, 1) := by decide +kernel
theorem dX4_burnInterest_30 : decode cX4_burnInterest 30 = .ok (.if_icmp .ge 113, 3) := by decide +kernel
theorem dX4_burnInterest_33 : decode cX4_burnInterest 33 = .ok (.aload_n 0, 1) := by decide +kernel
theorem dX4_burnInterest_34 : decode cX4_burnInterest 34 = .ok (.iload_n 1, 1) := by decide +kernel
theorem dX4_burnInterest_35 : decode cX4_burnInterest 35 = .ok (.iconst 1, 1) := by decide +kernel
theorem dX4_burnInterest_36 : decode cX4_burnInterest 36 = .ok (.invokevirtual 64, 3) := by decide +kernel
theorem dX4_burnInterest_39 : decode cX4_burnInterest 39 = .ok (.istore_n 2, 1) := by decide +kernel
theorem dX4_burnInterest_40 : decode cX4_burnInterest 40 = .ok (.aload_n 0, 1) := by decide +kernel
theorem dX4_burnInterest_41 : decode cX4_burnInterest 41 = .ok (.iload_n 1, 1) := by decide +kernel
theorem dX4_burnInterest_42 : decode cX4_burnInterest 42 = .ok (.invokevirtual 67, 3) := by decide +kernel
theorem dX4_burnInterest_45 : decode cX4_burnInterest 45 = .ok (.istore_n 3, 1) := by decide +kernel
theorem dX4_burnInterest_46 : decode cX4_burnInterest 46 = .ok (.aload_n 0, 1) := by decide +kernel
theorem dX4_burnInterest_47 : decode cX4_burnInterest 47 = .ok (.iload_n 2, 1) := by decide +kernel
theorem dX4_burnInterest_48 : decode cX4_burnInterest 48 = .ok (.iconst 1, 1) := by decide +kernel
theorem dX4_burnInterest_49 : decode cX4_burnInterest 49 = .ok (.invokevirtual 43, 3) := by decide +kernel
theorem dX4_burnInterest_52 : decode cX4_burnInterest 52 = .ok (.iload_n 3, 1) := by decide +kernel
theorem dX4_burnInterest_53 : decode cX4_burnInterest 53 = .ok (.if_icmp .ge 12, 3) := by decide +kernel
theorem dX4_burnInterest_56 : decode cX4_burnInterest 56 = .ok (.aload_n 0, 1) := by decide +kernel
theorem dX4_burnInterest_57 : decode cX4_burnInterest 57 = .ok (.iload_n 2, 1) := by decide +kernel
theorem dX4_burnInterest_58 : decode cX4_burnInterest 58 = .ok (.iconst 1, 1) := by decide +kernel
theorem dX4_burnInterest_59 : decode cX4_burnInterest 59 = .ok (.invokevirtual 43, 3) := by decide +kernel
theorem dX4_burnInterest_62 : decode cX4_burnInterest 62 = .ok (.goto 4, 3) := by decide +kernel
theorem dX4_burnInterest_65 : decode cX4_burnInterest 65 = .ok (.iload_n 3, 1) := by decide +kernel
theorem dX4_burnInterest_66 : decode cX4_burnInterest 66 = .ok (.istore 4, 2) := by decide +kernel
theorem dX4_burnInterest_68 : decode cX4_burnInterest 68 = .ok (.aload_n 0, 1) := by decide +kernel
theorem dX4_burnInterest_69 : decode cX4_burnInterest 69 = .ok (.getfield 29, 3) := by decide +kernel
theorem dX4_burnInterest_72 : decode cX4_burnInterest 72 = .ok (.iload_n 2, 1) := by decide +kernel
theorem dX4_burnInterest_73 : decode cX4_burnInterest 73 = .ok (.aload_n 0, 1) := by decide +kernel
theorem dX4_burnInterest_74 : decode cX4_burnInterest 74 = .ok (.getfield 29, 3) := by decide +kernel
theorem dX4_burnInterest_77 : decode cX4_burnInterest 77 = .ok (.iload_n 2, 1) := by decide +kernel
theorem dX4_burnInterest_78 : decode cX4_burnInterest 78 = .ok (.baload, 1) := by decide +kernel
theorem dX4_burnInterest_79 : decode cX4_burnInterest 79 = .ok (.ifCond .ne 9, 3) := by decide +kernel
theorem dX4_burnInterest_82 : decode cX4_burnInterest 82 = .ok (.iload 4, 2) := by decide +kernel
theorem dX4_burnInterest_84 : decode cX4_burnInterest 84 = .ok (.iload_n 3, 1) := by decide +kernel
theorem dX4_burnInterest_85 : decode cX4_burnInterest 85 = .ok (.if_icmp .ge 7, 3) := by decide +kernel
theorem dX4_burnInterest_88 : decode cX4_burnInterest 88 = .ok (.iconst 1, 1) := by decide +kernel
theorem dX4_burnInterest_89 : decode cX4_burnInterest 89 = .ok (.goto 4, 3) := by decide +kernel
theorem dX4_burnInterest_92 : decode cX4_burnInterest 92 = .ok (.iconst 0, 1) := by decide +kernel
theorem dX4_burnInterest_93 : decode cX4_burnInterest 93 = .ok (.bastore, 1) := by decide +kernel
theorem dX4_burnInterest_94 : decode cX4_burnInterest 94 = .ok (.aload_n 0, 1) := by decide +kernel
theorem dX4_burnInterest_95 : decode cX4_burnInterest 95 = .ok (.iload_n 2, 1) := by decide +kernel
theorem dX4_burnInterest_96 : decode cX4_burnInterest 96 = .ok (.iconst 1, 1) := by decide +kernel
theorem dX4_burnInterest_97 : decode cX4_burnInterest 97 = .ok (.iload 4, 2) := by decide +kernel
theorem dX4_burnInterest_99 : decode cX4_burnInterest 99 = .ok (.ineg, 1) := by decide +kernel
theorem dX4_burnInterest_100 : decode cX4_burnInterest 100 = .ok (.invokevirtual 54, 3) := by decide +kernel
theorem dX4_burnInterest_103 : decode cX4_burnInterest 103 = .ok (.aload_n 0, 1) := by decide +kernel
theorem dX4_burnInterest_104 : decode cX4_burnInterest 104 = .ok (.getfield 7, 3) := by decide +kernel
theorem dX4_burnInterest_107 : decode cX4_burnInterest 107 = .ok (.iconst 5, 1) := by decide +kernel
theorem dX4_burnInterest_108 : decode cX4_burnInterest 108 = .ok (.dup2, 1) := by decide +kernel
theorem dX4_burnInterest_109 : decode cX4_burnInterest 109 = .ok (.iaload, 1) := by decide +kernel
theorem dX4_burnInterest_110 : decode cX4_burnInterest 110 = .ok (.iload 4, 2) := by decide +kernel
theorem dX4_burnInterest_112 : decode cX4_burnInterest 112 = .ok (.iadd, 1) := by decide +kernel
theorem dX4_burnInterest_113 : decode cX4_burnInterest 113 = .ok (.iastore, 1) := by decide +kernel
theorem dX4_burnInterest_114 : decode cX4_burnInterest 114 = .ok (.aload_n 0, 1) := by decide +kernel
theorem dX4_burnInterest_115 : decode cX4_burnInterest 115 = .ok (.dup, 1) := by decide +kernel
theorem dX4_burnInterest_116 : decode cX4_burnInterest 116 = .ok (.getfield 71, 3) := by decide +kernel
theorem dX4_burnInterest_119 : decode cX4_burnInterest 119 = .ok (.iload_n 1, 1) := by decide +kernel
theorem dX4_burnInterest_120 : decode cX4_burnInterest 120 = .ok (.aload_n 0, 1) := by decide +kernel
theorem dX4_burnInterest_121 : decode cX4_burnInterest 121 = .ok (.getfield 61, 3) := by decide +kernel
theorem dX4_burnInterest_124 : decode cX4_burnInterest 124 = .ok (.if_icmp .ne 8, 3) := by decide +kernel
theorem dX4_burnInterest_127 : decode cX4_burnInterest 127 = .ok (.iload 4, 2) := by decide +kernel
theorem dX4_burnInterest_129 : decode cX4_burnInterest 129 = .ok (.goto 4, 3) := by decide +kernel
theorem dX4_burnInterest_132 : decode cX4_burnInterest 132 = .ok (.iconst 0, 1) := by decide +kernel
theorem dX4_burnInterest_133 : decode cX4_burnInterest 133 = .ok (.iadd, 1) := by decide +kernel
theorem dX4_burnInterest_134 : decode cX4_burnInterest 134 = .ok (.putfield 71, 3) := by decide +kernel
theorem dX4_burnInterest_137 : decode cX4_burnInterest 137 = .ok (.iinc 1 1, 3) := by decide +kernel
theorem dX4_burnInterest_140 : decode cX4_burnInterest 140 = .ok (.goto (-117), 3) := by decide +kernel
theorem dX4_burnInterest_143 : decode cX4_burnInterest 143 = .ok (.return_, 1) := by decide +kernel
theorem dX4_breaks_0 : decode cX4_breaks 0 = .ok (.aload_n 0, 1) := by decide +kernel
theorem dX4_breaks_1 : decode cX4_breaks 1 = .ok (.iload_n 1, 1) := by decide +kernel
theorem dX4_breaks_2 : decode cX4_breaks 2 = .ok (.iconst 1, 1) := by decide +kernel
theorem dX4_breaks_3 : decode cX4_breaks 3 = .ok (.invokevirtual 43, 3) := by decide +kernel
theorem dX4_breaks_6 : decode cX4_breaks 6 = .ok (.istore_n 2, 1) := by decide +kernel
theorem dX4_breaks_7 : decode cX4_breaks 7 = .ok (.aload_n 0, 1) := by decide +kernel
theorem dX4_breaks_8 : decode cX4_breaks 8 = .ok (.iload_n 1, 1) := by decide +kernel
theorem dX4_breaks_9 : decode cX4_breaks 9 = .ok (.iconst 1, 1) := by decide +kernel
theorem dX4_breaks_10 : decode cX4_breaks 10 = .ok (.invokevirtual 74, 3) := by decide +kernel
theorem dX4_breaks_13 : decode cX4_breaks 13 = .ok (.istore_n 3, 1) := by decide +kernel
theorem dX4_breaks_14 : decode cX4_breaks 14 = .ok (.iload_n 2, 1) := by decide +kernel
theorem dX4_breaks_15 : decode cX4_breaks 15 = .ok (.istore 4, 2) := by decide +kernel
theorem dX4_breaks_17 : decode cX4_breaks 17 = .ok (.iconst 0, 1) := by decide +kernel
theorem dX4_breaks_18 : decode cX4_breaks 18 = .ok (.istore 5, 2) := by decide +kernel
theorem dX4_breaks_20 : decode cX4_breaks 20 = .ok (.iload 5, 2) := by decide +kernel
theorem dX4_breaks_22 : decode cX4_breaks 22 = .ok (.aload_n 0, 1) := by decide +kernel
theorem dX4_breaks_23 : decode cX4_breaks 23 = .ok (.getfield 7, 3) := by decide +kernel
theorem dX4_breaks_26 : decode cX4_breaks 26 = .ok (.iconst 2, 1) := by decide +kernel
theorem dX4_breaks_27 : decode cX4_breaks 27 = .ok (.iaload, 1) := by decide +kernel
theorem dX4_breaks_28 : decode cX4_breaks 28 = .ok (.if_icmp .ge 112, 3) := by decide +kernel
theorem dX4_breaks_31 : decode cX4_breaks 31 = .ok (.aload_n 0, 1) := by decide +kernel
theorem dX4_breaks_32 : decode cX4_breaks 32 = .ok (.iload 5, 2) := by decide +kernel
theorem dX4_breaks_34 : decode cX4_breaks 34 = .ok (.iconst 1, 1) := by decide +kernel
theorem dX4_breaks_35 : decode cX4_breaks 35 = .ok (.invokevirtual 64, 3) := by decide +kernel
theorem dX4_breaks_38 : decode cX4_breaks 38 = .ok (.iload_n 1, 1) := by decide +kernel
theorem dX4_breaks_39 : decode cX4_breaks 39 = .ok (.if_icmp .ne 95, 3) := by decide +kernel
theorem dX4_breaks_42 : decode cX4_breaks 42 = .ok (.aload_n 0, 1) := by decide +kernel
theorem dX4_breaks_43 : decode cX4_breaks 43 = .ok (.iload 5, 2) := by decide +kernel
theorem dX4_breaks_45 : decode cX4_breaks 45 = .ok (.iconst 0, 1) := by decide +kernel
theorem dX4_breaks_46 : decode cX4_breaks 46 = .ok (.invokevirtual 64, 3) := by decide +kernel
theorem dX4_breaks_49 : decode cX4_breaks 49 = .ok (.istore 6, 2) := by decide +kernel
theorem dX4_breaks_51 : decode cX4_breaks 51 = .ok (.iload_n 2, 1) := by decide +kernel
theorem dX4_breaks_52 : decode cX4_breaks 52 = .ok (.aload_n 0, 1) := by decide +kernel
theorem dX4_breaks_53 : decode cX4_breaks 53 = .ok (.iload 5, 2) := by decide +kernel
theorem dX4_breaks_55 : decode cX4_breaks 55 = .ok (.iconst 2, 1) := by decide +kernel
theorem dX4_breaks_56 : decode cX4_breaks 56 = .ok (.invokevirtual 64, 3) := by decide +kernel
theorem dX4_breaks_59 : decode cX4_breaks 59 = .ok (.imul, 1) := by decide +kernel
theorem dX4_breaks_60 : decode cX4_breaks 60 = .ok (.iload_n 3, 1) := by decide +kernel
theorem dX4_breaks_61 : decode cX4_breaks 61 = .ok (.idiv, 1) := by decide +kernel
theorem dX4_breaks_62 : decode cX4_breaks 62 = .ok (.istore 7, 2) := by decide +kernel
theorem dX4_breaks_64 : decode cX4_breaks 64 = .ok (.aload_n 0, 1) := by decide +kernel
theorem dX4_breaks_65 : decode cX4_breaks 65 = .ok (.iload 6, 2) := by decide +kernel
theorem dX4_breaks_67 : decode cX4_breaks 67 = .ok (.iconst 0, 1) := by decide +kernel
theorem dX4_breaks_68 : decode cX4_breaks 68 = .ok (.invokevirtual 43, 3) := by decide +kernel
theorem dX4_breaks_71 : decode cX4_breaks 71 = .ok (.aload_n 0, 1) := by decide +kernel
theorem dX4_breaks_72 : decode cX4_breaks 72 = .ok (.iload 6, 2) := by decide +kernel
theorem dX4_breaks_74 : decode cX4_breaks 74 = .ok (.iconst 1, 1) := by decide +kernel
theorem dX4_breaks_75 : decode cX4_breaks 75 = .ok (.invokevirtual 43, 3) := by decide +kernel
theorem dX4_breaks_78 : decode cX4_breaks 78 = .ok (.isub, 1) := by decide +kernel
theorem dX4_breaks_79 : decode cX4_breaks 79 = .ok (.istore 8, 2) := by decide +kernel
theorem dX4_breaks_81 : decode cX4_breaks 81 = .ok (.iload 4, 2) := by decide +kernel
theorem dX4_breaks_83 : decode cX4_breaks 83 = .ok (.iload 7, 2) := by decide +kernel
theorem dX4_breaks_85 : decode cX4_breaks 85 = .ok (.isub, 1) := by decide +kernel
theorem dX4_breaks_86 : decode cX4_breaks 86 = .ok (.istore 4, 2) := by decide +kernel
theorem dX4_breaks_88 : decode cX4_breaks 88 = .ok (.aload_n 0, 1) := by decide +kernel
theorem dX4_breaks_89 : decode cX4_breaks 89 = .ok (.iload 6, 2) := by decide +kernel
theorem dX4_breaks_91 : decode cX4_breaks 91 = .ok (.iconst 1, 1) := by decide +kernel
theorem dX4_breaks_92 : decode cX4_breaks 92 = .ok (.iload 7, 2) := by decide +kernel
theorem dX4_breaks_94 : decode cX4_breaks 94 = .ok (.iload 8, 2) := by decide +kernel
theorem dX4_breaks_96 : decode cX4_breaks 96 = .ok (.if_icmp .ge 8, 3) := by decide +kernel
theorem dX4_breaks_99 : decode cX4_breaks 99 = .ok (.iload 7, 2) := by decide +kernel
theorem dX4_breaks_101 : decode cX4_breaks 101 = .ok (.goto 5, 3) := by decide +kernel
theorem dX4_breaks_104 : decode cX4_breaks 104 = .ok (.iload 8, 2) := by decide +kernel
theorem dX4_breaks_106 : decode cX4_breaks 106 = .ok (.invokevirtual 54, 3) := by decide +kernel
theorem dX4_breaks_109 : decode cX4_breaks 109 = .ok (.aload_n 0, 1) := by decide +kernel
theorem dX4_breaks_110 : decode cX4_breaks 110 = .ok (.getfield 7, 3) := by decide +kernel
theorem dX4_breaks_113 : decode cX4_breaks 113 = .ok (.iconst 5, 1) := by decide +kernel
theorem dX4_breaks_114 : decode cX4_breaks 114 = .ok (.dup2, 1) := by decide +kernel
theorem dX4_breaks_115 : decode cX4_breaks 115 = .ok (.iaload, 1) := by decide +kernel
theorem dX4_breaks_116 : decode cX4_breaks 116 = .ok (.iload 7, 2) := by decide +kernel
theorem dX4_breaks_118 : decode cX4_breaks 118 = .ok (.iload 8, 2) := by decide +kernel
theorem dX4_breaks_120 : decode cX4_breaks 120 = .ok (.if_icmp .ge 7, 3) := by decide +kernel
theorem dX4_breaks_123 : decode cX4_breaks 123 = .ok (.iconst 0, 1) := by decide +kernel
theorem dX4_breaks_124 : decode cX4_breaks 124 = .ok (.goto 8, 3) := by decide +kernel
theorem dX4_breaks_127 : decode cX4_breaks 127 = .ok (.iload 7, 2) := by decide +kernel
theorem dX4_breaks_129 : decode cX4_breaks 129 = .ok (.iload 8, 2) := by decide +kernel
theorem dX4_breaks_131 : decode cX4_breaks 131 = .ok (.isub, 1) := by decide +kernel
theorem dX4_breaks_132 : decode cX4_breaks 132 = .ok (.iadd, 1) := by decide +kernel
theorem dX4_breaks_133 : decode cX4_breaks 133 = .ok (.iastore, 1) := by decide +kernel
theorem dX4_breaks_134 : decode cX4_breaks 134 = .ok (.iinc 5 1, 3) := by decide +kernel
theorem dX4_breaks_137 : decode cX4_breaks 137 = .ok (.goto (-117), 3) := by decide +kernel
theorem dX4_breaks_140 : decode cX4_breaks 140 = .ok (.aload_n 0, 1) := by decide +kernel
theorem dX4_breaks_141 : decode cX4_breaks 141 = .ok (.getfield 7, 3) := by decide +kernel
theorem dX4_breaks_144 : decode cX4_breaks 144 = .ok (.iconst 5, 1) := by decide +kernel
theorem dX4_breaks_145 : decode cX4_breaks 145 = .ok (.dup2, 1) := by decide +kernel
theorem dX4_breaks_146 : decode cX4_breaks 146 = .ok (.iaload, 1) := by decide +kernel
theorem dX4_breaks_147 : decode cX4_breaks 147 = .ok (.iload 4, 2) := by decide +kernel
theorem dX4_breaks_149 : decode cX4_breaks 149 = .ok (.iadd, 1) := by decide +kernel
theorem dX4_breaks_150 : decode cX4_breaks 150 = .ok (.iastore, 1) := by decide +kernel
theorem dX4_breaks_151 : decode cX4_breaks 151 = .ok (.aload_n 0, 1) := by decide +kernel
theorem dX4_breaks_152 : decode cX4_breaks 152 = .ok (.iload_n 1, 1) := by decide +kernel
theorem dX4_breaks_153 : decode cX4_breaks 153 = .ok (.iconst 1, 1) := by decide +kernel
theorem dX4_breaks_154 : decode cX4_breaks 154 = .ok (.iload_n 2, 1) := by decide +kernel
theorem dX4_breaks_155 : decode cX4_breaks 155 = .ok (.ineg, 1) := by decide +kernel
theorem dX4_breaks_156 : decode cX4_breaks 156 = .ok (.invokevirtual 54, 3) := by decide +kernel
theorem dX4_breaks_159 : decode cX4_breaks 159 = .ok (.aload_n 0, 1) := by decide +kernel
theorem dX4_breaks_160 : decode cX4_breaks 160 = .ok (.iload_n 1, 1) := by decide +kernel
theorem dX4_breaks_161 : decode cX4_breaks 161 = .ok (.iconst 4, 1) := by decide +kernel
theorem dX4_breaks_162 : decode cX4_breaks 162 = .ok (.iconst 1, 1) := by decide +kernel
theorem dX4_breaks_163 : decode cX4_breaks 163 = .ok (.invokevirtual 54, 3) := by decide +kernel
theorem dX4_breaks_166 : decode cX4_breaks 166 = .ok (.aload_n 0, 1) := by decide +kernel
theorem dX4_breaks_167 : decode cX4_breaks 167 = .ok (.getfield 7, 3) := by decide +kernel
theorem dX4_breaks_170 : decode cX4_breaks 170 = .ok (.iconst 2, 1) := by decide +kernel
theorem dX4_breaks_171 : decode cX4_breaks 171 = .ok (.iaload, 1) := by decide +kernel
theorem dX4_breaks_172 : decode cX4_breaks 172 = .ok (.iconst 1, 1) := by decide +kernel
theorem dX4_breaks_173 : decode cX4_breaks 173 = .ok (.isub, 1) := by decide +kernel
theorem dX4_breaks_174 : decode cX4_breaks 174 = .ok (.istore 5, 2) := by decide +kernel
theorem dX4_breaks_176 : decode cX4_breaks 176 = .ok (.iload 5, 2) := by decide +kernel
theorem dX4_breaks_178 : decode cX4_breaks 178 = .ok (.ifCond .lt 54, 3) := by decide +kernel
theorem dX4_breaks_181 : decode cX4_breaks 181 = .ok (.aload_n 0, 1) := by decide +kernel
theorem dX4_breaks_182 : decode cX4_breaks 182 = .ok (.iload 5, 2) := by decide +kernel
theorem dX4_breaks_184 : decode cX4_breaks 184 = .ok (.iconst 1, 1) := by decide +kernel
theorem dX4_breaks_185 : decode cX4_breaks 185 = .ok (.invokevirtual 64, 3) := by decide +kernel
theorem dX4_breaks_188 : decode cX4_breaks 188 = .ok (.iload_n 1, 1) := by decide +kernel
theorem dX4_breaks_189 : decode cX4_breaks 189 = .ok (.if_icmp .eq 14, 3) := by decide +kernel
theorem dX4_breaks_192 : decode cX4_breaks 192 = .ok (.aload_n 0, 1) := by decide +kernel
theorem dX4_breaks_193 : decode cX4_breaks 193 = .ok (.iload 5, 2) := by decide +kernel
theorem dX4_breaks_195 : decode cX4_breaks 195 = .ok (.iconst 0, 1) := by decide +kernel
theorem dX4_breaks_196 : decode cX4_breaks 196 = .ok (.invokevirtual 64, 3) := by decide +kernel
theorem dX4_breaks_199 : decode cX4_breaks 199 = .ok (.iload_n 1, 1) := by decide +kernel
theorem dX4_breaks_200 : decode cX4_breaks 200 = .ok (.if_icmp .ne 26, 3) := by decide +kernel
theorem dX4_breaks_203 : decode cX4_breaks 203 = .ok (.aload_n 0, 1) := by decide +kernel
theorem dX4_breaks_204 : decode cX4_breaks 204 = .ok (.getfield 7, 3) := by decide +kernel
theorem dX4_breaks_207 : decode cX4_breaks 207 = .ok (.bipush 6, 2) := by decide +kernel
theorem dX4_breaks_209 : decode cX4_breaks 209 = .ok (.dup2, 1) := by decide +kernel
theorem dX4_breaks_210 : decode cX4_breaks 210 = .ok (.iaload, 1) := by decide +kernel
theorem dX4_breaks_211 : decode cX4_breaks 211 = .ok (.aload_n 0, 1) := by decide +kernel
theorem dX4_breaks_212 : decode cX4_breaks 212 = .ok (.iload 5, 2) := by decide +kernel
theorem dX4_breaks_214 : decode cX4_breaks 214 = .ok (.iconst 2, 1) := by decide +kernel
theorem dX4_breaks_215 : decode cX4_breaks 215 = .ok (.invokevirtual 64, 3) := by decide +kernel
theorem dX4_breaks_218 : decode cX4_breaks 218 = .ok (.iadd, 1) := by decide +kernel
theorem dX4_breaks_219 : decode cX4_breaks 219 = .ok (.iastore, 1) := by decide +kernel
theorem dX4_breaks_220 : decode cX4_breaks 220 = .ok (.aload_n 0, 1) := by decide +kernel
theorem dX4_breaks_221 : decode cX4_breaks 221 = .ok (.iload 5, 2) := by decide +kernel
theorem dX4_breaks_223 : decode cX4_breaks 223 = .ok (.invokevirtual 77, 3) := by decide +kernel
theorem dX4_breaks_226 : decode cX4_breaks 226 = .ok (.iinc 5 (-1), 3) := by decide +kernel
theorem dX4_breaks_229 : decode cX4_breaks 229 = .ok (.goto (-53), 3) := by decide +kernel
theorem dX4_breaks_232 : decode cX4_breaks 232 = .ok (.return_, 1) := by decide +kernel
theorem dX4_round_0 : decode cX4_round 0 = .ok (.iconst 0, 1) := by decide +kernel
theorem dX4_round_1 : decode cX4_round 1 = .ok (.istore_n 1, 1) := by decide +kernel
theorem dX4_round_2 : decode cX4_round 2 = .ok (.iload_n 1, 1) := by decide +kernel
theorem dX4_round_3 : decode cX4_round 3 = .ok (.aload_n 0, 1) := by decide +kernel
theorem dX4_round_4 : decode cX4_round 4 = .ok (.getfield 7, 3) := by decide +kernel
theorem dX4_round_7 : decode cX4_round 7 = .ok (.iconst 1, 1) := by decide +kernel
theorem dX4_round_8 : decode cX4_round 8 = .ok (.iaload, 1) := by decide +kernel
theorem dX4_round_9 : decode cX4_round 9 = .ok (.if_icmp .ge 58, 3) := by decide +kernel
theorem dX4_round_12 : decode cX4_round 12 = .ok (.aload_n 0, 1) := by decide +kernel
theorem dX4_round_13 : decode cX4_round 13 = .ok (.iload_n 1, 1) := by decide +kernel
theorem dX4_round_14 : decode cX4_round 14 = .ok (.iconst 1, 1) := by decide +kernel
theorem dX4_round_15 : decode cX4_round 15 = .ok (.invokevirtual 43, 3) := by decide +kernel
theorem dX4_round_18 : decode cX4_round 18 = .ok (.aload_n 0, 1) := by decide +kernel
theorem dX4_round_19 : decode cX4_round 19 = .ok (.iload_n 1, 1) := by decide +kernel
theorem dX4_round_20 : decode cX4_round 20 = .ok (.iconst 2, 1) := by decide +kernel
theorem dX4_round_21 : decode cX4_round 21 = .ok (.invokevirtual 43, 3) := by decide +kernel
theorem dX4_round_24 : decode cX4_round 24 = .ok (.if_icmp .ge 12, 3) := by decide +kernel
theorem dX4_round_27 : decode cX4_round 27 = .ok (.aload_n 0, 1) := by decide +kernel
theorem dX4_round_28 : decode cX4_round 28 = .ok (.iload_n 1, 1) := by decide +kernel
theorem dX4_round_29 : decode cX4_round 29 = .ok (.iconst 1, 1) := by decide +kernel
theorem dX4_round_30 : decode cX4_round 30 = .ok (.invokevirtual 43, 3) := by decide +kernel
theorem dX4_round_33 : decode cX4_round 33 = .ok (.goto 9, 3) := by decide +kernel
theorem dX4_round_36 : decode cX4_round 36 = .ok (.aload_n 0, 1) := by decide +kernel
theorem dX4_round_37 : decode cX4_round 37 = .ok (.iload_n 1, 1) := by decide +kernel
theorem dX4_round_38 : decode cX4_round 38 = .ok (.iconst 2, 1) := by decide +kernel
theorem dX4_round_39 : decode cX4_round 39 = .ok (.invokevirtual 43, 3) := by decide +kernel
theorem dX4_round_42 : decode cX4_round 42 = .ok (.istore_n 2, 1) := by decide +kernel
theorem dX4_round_43 : decode cX4_round 43 = .ok (.aload_n 0, 1) := by decide +kernel
theorem dX4_round_44 : decode cX4_round 44 = .ok (.iload_n 1, 1) := by decide +kernel
theorem dX4_round_45 : decode cX4_round 45 = .ok (.iconst 1, 1) := by decide +kernel
theorem dX4_round_46 : decode cX4_round 46 = .ok (.iload_n 2, 1) := by decide +kernel
theorem dX4_round_47 : decode cX4_round 47 = .ok (.ineg, 1) := by decide +kernel
theorem dX4_round_48 : decode cX4_round 48 = .ok (.invokevirtual 54, 3) := by decide +kernel
theorem dX4_round_51 : decode cX4_round 51 = .ok (.aload_n 0, 1) := by decide +kernel
theorem dX4_round_52 : decode cX4_round 52 = .ok (.getfield 7, 3) := by decide +kernel
theorem dX4_round_55 : decode cX4_round 55 = .ok (.iconst 5, 1) := by decide +kernel
theorem dX4_round_56 : decode cX4_round 56 = .ok (.dup2, 1) := by decide +kernel
theorem dX4_round_57 : decode cX4_round 57 = .ok (.iaload, 1) := by decide +kernel
theorem dX4_round_58 : decode cX4_round 58 = .ok (.iload_n 2, 1) := by decide +kernel
theorem dX4_round_59 : decode cX4_round 59 = .ok (.iadd, 1) := by decide +kernel
theorem dX4_round_60 : decode cX4_round 60 = .ok (.iastore, 1) := by decide +kernel
theorem dX4_round_61 : decode cX4_round 61 = .ok (.iinc 1 1, 3) := by decide +kernel
theorem dX4_round_64 : decode cX4_round 64 = .ok (.goto (-62), 3) := by decide +kernel
theorem dX4_round_67 : decode cX4_round 67 = .ok (.aload_n 0, 1) := by decide +kernel
theorem dX4_round_68 : decode cX4_round 68 = .ok (.invokevirtual 81, 3) := by decide +kernel
theorem dX4_round_71 : decode cX4_round 71 = .ok (.iconst 0, 1) := by decide +kernel
theorem dX4_round_72 : decode cX4_round 72 = .ok (.istore_n 1, 1) := by decide +kernel
theorem dX4_round_73 : decode cX4_round 73 = .ok (.iconst 0, 1) := by decide +kernel
theorem dX4_round_74 : decode cX4_round 74 = .ok (.istore_n 2, 1) := by decide +kernel
theorem dX4_round_75 : decode cX4_round 75 = .ok (.iload_n 2, 1) := by decide +kernel
theorem dX4_round_76 : decode cX4_round 76 = .ok (.aload_n 0, 1) := by decide +kernel
theorem dX4_round_77 : decode cX4_round 77 = .ok (.getfield 7, 3) := by decide +kernel
theorem dX4_round_80 : decode cX4_round 80 = .ok (.iconst 1, 1) := by decide +kernel
theorem dX4_round_81 : decode cX4_round 81 = .ok (.iaload, 1) := by decide +kernel
theorem dX4_round_82 : decode cX4_round 82 = .ok (.if_icmp .ge 64, 3) := by decide +kernel
theorem dX4_round_85 : decode cX4_round 85 = .ok (.aload_n 0, 1) := by decide +kernel
theorem dX4_round_86 : decode cX4_round 86 = .ok (.iload_n 2, 1) := by decide +kernel
theorem dX4_round_87 : decode cX4_round 87 = .ok (.invokevirtual 84, 3) := by decide +kernel
theorem dX4_round_90 : decode cX4_round 90 = .ok (.ifCond .eq 50, 3) := by decide +kernel
theorem dX4_round_93 : decode cX4_round 93 = .ok (.aload_n 0, 1) := by decide +kernel
theorem dX4_round_94 : decode cX4_round 94 = .ok (.iload_n 2, 1) := by decide +kernel
theorem dX4_round_95 : decode cX4_round 95 = .ok (.iconst 3, 1) := by decide +kernel
theorem dX4_round_96 : decode cX4_round 96 = .ok (.aload_n 0, 1) := by decide +kernel
theorem dX4_round_97 : decode cX4_round 97 = .ok (.getfield 29, 3) := by decide +kernel
theorem dX4_round_100 : decode cX4_round 100 = .ok (.iload_n 2, 1) := by decide +kernel
theorem dX4_round_101 : decode cX4_round 101 = .ok (.baload, 1) := by decide +kernel
theorem dX4_round_102 : decode cX4_round 102 = .ok (.ifCond .eq 7, 3) := by decide +kernel
theorem dX4_round_105 : decode cX4_round 105 = .ok (.iconst 1, 1) := by decide +kernel
theorem dX4_round_106 : decode cX4_round 106 = .ok (.goto 10, 3) := by decide +kernel
theorem dX4_round_109 : decode cX4_round 109 = .ok (.aload_n 0, 1) := by decide +kernel
theorem dX4_round_110 : decode cX4_round 110 = .ok (.iload_n 2, 1) := by decide +kernel
theorem dX4_round_111 : decode cX4_round 111 = .ok (.iconst 3, 1) := by decide +kernel
theorem dX4_round_112 : decode cX4_round 112 = .ok (.invokevirtual 43, 3) := by decide +kernel
theorem dX4_round_115 : decode cX4_round 115 = .ok (.ineg, 1) := by decide +kernel
theorem dX4_round_116 : decode cX4_round 116 = .ok (.invokevirtual 54, 3) := by decide +kernel
theorem dX4_round_119 : decode cX4_round 119 = .ok (.aload_n 0, 1) := by decide +kernel
theorem dX4_round_120 : decode cX4_round 120 = .ok (.iload_n 2, 1) := by decide +kernel
theorem dX4_round_121 : decode cX4_round 121 = .ok (.iconst 3, 1) := by decide +kernel
theorem dX4_round_122 : decode cX4_round 122 = .ok (.invokevirtual 43, 3) := by decide +kernel
theorem dX4_round_125 : decode cX4_round 125 = .ok (.iconst 3, 1) := by decide +kernel
theorem dX4_round_126 : decode cX4_round 126 = .ok (.if_icmp .ne 14, 3) := by decide +kernel
theorem dX4_round_129 : decode cX4_round 129 = .ok (.aload_n 0, 1) := by decide +kernel
theorem dX4_round_130 : decode cX4_round 130 = .ok (.iload_n 2, 1) := by decide +kernel
theorem dX4_round_131 : decode cX4_round 131 = .ok (.invokevirtual 88, 3) := by decide +kernel
theorem dX4_round_134 : decode cX4_round 134 = .ok (.iload_n 1, 1) := by decide +kernel
theorem dX4_round_135 : decode cX4_round 135 = .ok (.iconst 1, 1) := by decide +kernel
theorem dX4_round_136 : decode cX4_round 136 = .ok (.iload_n 2, 1) := by decide +kernel
theorem dX4_round_137 : decode cX4_round 137 = .ok (.ishl, 1) := by decide +kernel
theorem dX4_round_138 : decode cX4_round 138 = .ok (.ior, 1) := by decide +kernel
theorem dX4_round_139 : decode cX4_round 139 = .ok (.istore_n 1, 1) := by decide +kernel
theorem dX4_round_140 : decode cX4_round 140 = .ok (.iinc 2 1, 3) := by decide +kernel
theorem dX4_round_143 : decode cX4_round 143 = .ok (.goto (-68), 3) := by decide +kernel
theorem dX4_round_146 : decode cX4_round 146 = .ok (.aload_n 0, 1) := by decide +kernel
theorem dX4_round_147 : decode cX4_round 147 = .ok (.getfield 7, 3) := by decide +kernel
theorem dX4_round_150 : decode cX4_round 150 = .ok (.iconst 0, 1) := by decide +kernel
theorem dX4_round_151 : decode cX4_round 151 = .ok (.dup2, 1) := by decide +kernel
theorem dX4_round_152 : decode cX4_round 152 = .ok (.iaload, 1) := by decide +kernel
theorem dX4_round_153 : decode cX4_round 153 = .ok (.iconst 1, 1) := by decide +kernel
theorem dX4_round_154 : decode cX4_round 154 = .ok (.iadd, 1) := by decide +kernel
theorem dX4_round_155 : decode cX4_round 155 = .ok (.iastore, 1) := by decide +kernel
theorem dX4_round_156 : decode cX4_round 156 = .ok (.iload_n 1, 1) := by decide +kernel
theorem dX4_round_157 : decode cX4_round 157 = .ok (.ireturn, 1) := by decide +kernel
theorem dX4_rounds_0 : decode cX4_rounds 0 = .ok (.iconst 0, 1) := by decide +kernel
theorem dX4_rounds_1 : decode cX4_rounds 1 = .ok (.istore_n 2, 1) := by decide +kernel
theorem dX4_rounds_2 : decode cX4_rounds 2 = .ok (.iconst 0, 1) := by decide +kernel
end
section
theorem dX4_rounds_3 : decode cX4_rounds 3 = .ok (.istore_n 3, 1) := by decide +kernel
theorem dX4_rounds_4 : decode cX4_rounds 4 = .ok (.iload_n 3, 1) := by decide +kernel
theorem dX4_rounds_5 : decode cX4_rounds 5 = .ok (.iload_n 1, 1) := by decide +kernel
theorem dX4_rounds_6 : decode cX4_rounds 6 = .ok (.if_icmp .ge 16, 3) := by decide +kernel
theorem dX4_rounds_9 : decode cX4_rounds 9 = .ok (.iload_n 2, 1) := by decide +kernel
theorem dX4_rounds_10 : decode cX4_rounds 10 = .ok (.aload_n 0, 1) := by decide +kernel
theorem dX4_rounds_11 : decode cX4_rounds 11 = .ok (.invokevirtual 91, 3) := by decide +kernel
theorem dX4_rounds_14 : decode cX4_rounds 14 = .ok (.ior, 1) := by decide +kernel
theorem dX4_rounds_15 : decode cX4_rounds 15 = .ok (.istore_n 2, 1) := by decide +kernel
theorem dX4_rounds_16 : decode cX4_rounds 16 = .ok (.iinc 3 1, 3) := by decide +kernel
theorem dX4_rounds_19 : decode cX4_rounds 19 = .ok (.goto (-15), 3) := by decide +kernel
theorem dX4_rounds_22 : decode cX4_rounds 22 = .ok (.iload_n 2, 1) := by decide +kernel
theorem dX4_rounds_23 : decode cX4_rounds 23 = .ok (.ireturn, 1) := by decide +kernel
theorem dX4_charges_0 : decode cX4_charges 0 = .ok (.iconst 0, 1) := by decide +kernel
theorem dX4_charges_1 : decode cX4_charges 1 = .ok (.istore_n 2, 1) := by decide +kernel
theorem dX4_charges_2 : decode cX4_charges 2 = .ok (.iconst 0, 1) := by decide +kernel
theorem dX4_charges_3 : decode cX4_charges 3 = .ok (.istore_n 3, 1) := by decide +kernel
theorem dX4_charges_4 : decode cX4_charges 4 = .ok (.iload_n 3, 1) := by decide +kernel
theorem dX4_charges_5 : decode cX4_charges 5 = .ok (.aload_n 0, 1) := by decide +kernel
theorem dX4_charges_6 : decode cX4_charges 6 = .ok (.getfield 7, 3) := by decide +kernel
theorem dX4_charges_9 : decode cX4_charges 9 = .ok (.iconst 1, 1) := by decide +kernel
theorem dX4_charges_10 : decode cX4_charges 10 = .ok (.iaload, 1) := by decide +kernel
theorem dX4_charges_11 : decode cX4_charges 11 = .ok (.if_icmp .ge 77, 3) := by decide +kernel
theorem dX4_charges_14 : decode cX4_charges 14 = .ok (.aload_n 0, 1) := by decide +kernel
theorem dX4_charges_15 : decode cX4_charges 15 = .ok (.iload_n 3, 1) := by decide +kernel
theorem dX4_charges_16 : decode cX4_charges 16 = .ok (.invokevirtual 84, 3) := by decide +kernel
theorem dX4_charges_19 : decode cX4_charges 19 = .ok (.ifCond .eq 63, 3) := by decide +kernel
theorem dX4_charges_22 : decode cX4_charges 22 = .ok (.aload_n 0, 1) := by decide +kernel
theorem dX4_charges_23 : decode cX4_charges 23 = .ok (.iload_n 3, 1) := by decide +kernel
theorem dX4_charges_24 : decode cX4_charges 24 = .ok (.iconst 0, 1) := by decide +kernel
theorem dX4_charges_25 : decode cX4_charges 25 = .ok (.invokevirtual 43, 3) := by decide +kernel
theorem dX4_charges_28 : decode cX4_charges 28 = .ok (.aload_n 0, 1) := by decide +kernel
theorem dX4_charges_29 : decode cX4_charges 29 = .ok (.iload_n 3, 1) := by decide +kernel
theorem dX4_charges_30 : decode cX4_charges 30 = .ok (.iconst 1, 1) := by decide +kernel
theorem dX4_charges_31 : decode cX4_charges 31 = .ok (.invokevirtual 43, 3) := by decide +kernel
theorem dX4_charges_34 : decode cX4_charges 34 = .ok (.isub, 1) := by decide +kernel
theorem dX4_charges_35 : decode cX4_charges 35 = .ok (.istore 4, 2) := by decide +kernel
theorem dX4_charges_37 : decode cX4_charges 37 = .ok (.aload_n 0, 1) := by decide +kernel
theorem dX4_charges_38 : decode cX4_charges 38 = .ok (.iload_n 3, 1) := by decide +kernel
theorem dX4_charges_39 : decode cX4_charges 39 = .ok (.iconst 1, 1) := by decide +kernel
theorem dX4_charges_40 : decode cX4_charges 40 = .ok (.iload_n 1, 1) := by decide +kernel
theorem dX4_charges_41 : decode cX4_charges 41 = .ok (.iload 4, 2) := by decide +kernel
theorem dX4_charges_43 : decode cX4_charges 43 = .ok (.if_icmp .ge 7, 3) := by decide +kernel
theorem dX4_charges_46 : decode cX4_charges 46 = .ok (.iload_n 1, 1) := by decide +kernel
theorem dX4_charges_47 : decode cX4_charges 47 = .ok (.goto 5, 3) := by decide +kernel
theorem dX4_charges_50 : decode cX4_charges 50 = .ok (.iload 4, 2) := by decide +kernel
theorem dX4_charges_52 : decode cX4_charges 52 = .ok (.invokevirtual 54, 3) := by decide +kernel
theorem dX4_charges_55 : decode cX4_charges 55 = .ok (.iload_n 2, 1) := by decide +kernel
theorem dX4_charges_56 : decode cX4_charges 56 = .ok (.iload_n 1, 1) := by decide +kernel
theorem dX4_charges_57 : decode cX4_charges 57 = .ok (.iload 4, 2) := by decide +kernel
theorem dX4_charges_59 : decode cX4_charges 59 = .ok (.if_icmp .ge 7, 3) := by decide +kernel
theorem dX4_charges_62 : decode cX4_charges 62 = .ok (.iconst 0, 1) := by decide +kernel
theorem dX4_charges_63 : decode cX4_charges 63 = .ok (.goto 7, 3) := by decide +kernel
theorem dX4_charges_66 : decode cX4_charges 66 = .ok (.iload_n 1, 1) := by decide +kernel
theorem dX4_charges_67 : decode cX4_charges 67 = .ok (.iload 4, 2) := by decide +kernel
theorem dX4_charges_69 : decode cX4_charges 69 = .ok (.isub, 1) := by decide +kernel
theorem dX4_charges_70 : decode cX4_charges 70 = .ok (.iadd, 1) := by decide +kernel
theorem dX4_charges_71 : decode cX4_charges 71 = .ok (.istore_n 2, 1) := by decide +kernel
theorem dX4_charges_72 : decode cX4_charges 72 = .ok (.aload_n 0, 1) := by decide +kernel
theorem dX4_charges_73 : decode cX4_charges 73 = .ok (.getfield 7, 3) := by decide +kernel
theorem dX4_charges_76 : decode cX4_charges 76 = .ok (.iconst 3, 1) := by decide +kernel
theorem dX4_charges_77 : decode cX4_charges 77 = .ok (.dup2, 1) := by decide +kernel
theorem dX4_charges_78 : decode cX4_charges 78 = .ok (.iaload, 1) := by decide +kernel
theorem dX4_charges_79 : decode cX4_charges 79 = .ok (.iload_n 1, 1) := by decide +kernel
theorem dX4_charges_80 : decode cX4_charges 80 = .ok (.iadd, 1) := by decide +kernel
theorem dX4_charges_81 : decode cX4_charges 81 = .ok (.iastore, 1) := by decide +kernel
theorem dX4_charges_82 : decode cX4_charges 82 = .ok (.iinc 3 1, 3) := by decide +kernel
theorem dX4_charges_85 : decode cX4_charges 85 = .ok (.goto (-81), 3) := by decide +kernel
theorem dX4_charges_88 : decode cX4_charges 88 = .ok (.aload_n 0, 1) := by decide +kernel
theorem dX4_charges_89 : decode cX4_charges 89 = .ok (.getfield 7, 3) := by decide +kernel
theorem dX4_charges_92 : decode cX4_charges 92 = .ok (.iconst 5, 1) := by decide +kernel
theorem dX4_charges_93 : decode cX4_charges 93 = .ok (.dup2, 1) := by decide +kernel
theorem dX4_charges_94 : decode cX4_charges 94 = .ok (.iaload, 1) := by decide +kernel
theorem dX4_charges_95 : decode cX4_charges 95 = .ok (.iload_n 2, 1) := by decide +kernel
theorem dX4_charges_96 : decode cX4_charges 96 = .ok (.iadd, 1) := by decide +kernel
theorem dX4_charges_97 : decode cX4_charges 97 = .ok (.iastore, 1) := by decide +kernel
theorem dX4_charges_98 : decode cX4_charges 98 = .ok (.iload_n 2, 1) := by decide +kernel
theorem dX4_charges_99 : decode cX4_charges 99 = .ok (.ireturn, 1) := by decide +kernel
theorem dX4_size_0 : decode cX4_size 0 = .ok (.iload_n 0, 1) := by decide +kernel
theorem dX4_size_1 : decode cX4_size 1 = .ok (.istore_n 3, 1) := by decide +kernel
theorem dX4_size_2 : decode cX4_size 2 = .ok (.iload_n 3, 1) := by decide +kernel
theorem dX4_size_3 : decode cX4_size 3 = .ok (.iload_n 1, 1) := by decide +kernel
theorem dX4_size_4 : decode cX4_size 4 = .ok (.iload_n 2, 1) := by decide +kernel
theorem dX4_size_5 : decode cX4_size 5 = .ok (.invokestatic 50, 3) := by decide +kernel
theorem dX4_size_8 : decode cX4_size 8 = .ok (.iload_n 0, 1) := by decide +kernel
theorem dX4_size_9 : decode cX4_size 9 = .ok (.if_icmp .ge 9, 3) := by decide +kernel
theorem dX4_size_12 : decode cX4_size 12 = .ok (.iinc 3 1, 3) := by decide +kernel
theorem dX4_size_15 : decode cX4_size 15 = .ok (.goto (-13), 3) := by decide +kernel
theorem dX4_size_18 : decode cX4_size 18 = .ok (.iload_n 3, 1) := by decide +kernel
theorem dX4_size_19 : decode cX4_size 19 = .ok (.ireturn, 1) := by decide +kernel
theorem dX4_richest_0 : decode cX4_richest 0 = .ok (.bipush (-9), 2) := by decide +kernel
theorem dX4_richest_2 : decode cX4_richest 2 = .ok (.istore_n 2, 1) := by decide +kernel
theorem dX4_richest_3 : decode cX4_richest 3 = .ok (.iconst 0, 1) := by decide +kernel
theorem dX4_richest_4 : decode cX4_richest 4 = .ok (.istore_n 3, 1) := by decide +kernel
theorem dX4_richest_5 : decode cX4_richest 5 = .ok (.iload_n 3, 1) := by decide +kernel
theorem dX4_richest_6 : decode cX4_richest 6 = .ok (.aload_n 0, 1) := by decide +kernel
theorem dX4_richest_7 : decode cX4_richest 7 = .ok (.getfield 7, 3) := by decide +kernel
theorem dX4_richest_10 : decode cX4_richest 10 = .ok (.iconst 1, 1) := by decide +kernel
theorem dX4_richest_11 : decode cX4_richest 11 = .ok (.iaload, 1) := by decide +kernel
theorem dX4_richest_12 : decode cX4_richest 12 = .ok (.if_icmp .ge 49, 3) := by decide +kernel
theorem dX4_richest_15 : decode cX4_richest 15 = .ok (.iload_n 3, 1) := by decide +kernel
theorem dX4_richest_16 : decode cX4_richest 16 = .ok (.iload_n 1, 1) := by decide +kernel
theorem dX4_richest_17 : decode cX4_richest 17 = .ok (.if_icmp .eq 36, 3) := by decide +kernel
theorem dX4_richest_20 : decode cX4_richest 20 = .ok (.aload_n 0, 1) := by decide +kernel
theorem dX4_richest_21 : decode cX4_richest 21 = .ok (.iload_n 3, 1) := by decide +kernel
theorem dX4_richest_22 : decode cX4_richest 22 = .ok (.invokevirtual 84, 3) := by decide +kernel
theorem dX4_richest_25 : decode cX4_richest 25 = .ok (.ifCond .eq 28, 3) := by decide +kernel
theorem dX4_richest_28 : decode cX4_richest 28 = .ok (.iload_n 2, 1) := by decide +kernel
theorem dX4_richest_29 : decode cX4_richest 29 = .ok (.bipush (-9), 2) := by decide +kernel
theorem dX4_richest_31 : decode cX4_richest 31 = .ok (.if_icmp .eq 18, 3) := by decide +kernel
theorem dX4_richest_34 : decode cX4_richest 34 = .ok (.aload_n 0, 1) := by decide +kernel
theorem dX4_richest_35 : decode cX4_richest 35 = .ok (.iload_n 3, 1) := by decide +kernel
theorem dX4_richest_36 : decode cX4_richest 36 = .ok (.iconst 1, 1) := by decide +kernel
theorem dX4_richest_37 : decode cX4_richest 37 = .ok (.invokevirtual 43, 3) := by decide +kernel
theorem dX4_richest_40 : decode cX4_richest 40 = .ok (.aload_n 0, 1) := by decide +kernel
theorem dX4_richest_41 : decode cX4_richest 41 = .ok (.iload_n 2, 1) := by decide +kernel
theorem dX4_richest_42 : decode cX4_richest 42 = .ok (.iconst 1, 1) := by decide +kernel
theorem dX4_richest_43 : decode cX4_richest 43 = .ok (.invokevirtual 43, 3) := by decide +kernel
theorem dX4_richest_46 : decode cX4_richest 46 = .ok (.if_icmp .le 7, 3) := by decide +kernel
theorem dX4_richest_49 : decode cX4_richest 49 = .ok (.iload_n 3, 1) := by decide +kernel
theorem dX4_richest_50 : decode cX4_richest 50 = .ok (.goto 4, 3) := by decide +kernel
theorem dX4_richest_53 : decode cX4_richest 53 = .ok (.iload_n 2, 1) := by decide +kernel
theorem dX4_richest_54 : decode cX4_richest 54 = .ok (.istore_n 2, 1) := by decide +kernel
theorem dX4_richest_55 : decode cX4_richest 55 = .ok (.iinc 3 1, 3) := by decide +kernel
theorem dX4_richest_58 : decode cX4_richest 58 = .ok (.goto (-53), 3) := by decide +kernel
theorem dX4_richest_61 : decode cX4_richest 61 = .ok (.iload_n 2, 1) := by decide +kernel
theorem dX4_richest_62 : decode cX4_richest 62 = .ok (.ireturn, 1) := by decide +kernel
theorem dX4_borrows_0 : decode cX4_borrows 0 = .ok (.aload_n 0, 1) := by decide +kernel
theorem dX4_borrows_1 : decode cX4_borrows 1 = .ok (.iload_n 1, 1) := by decide +kernel
theorem dX4_borrows_2 : decode cX4_borrows 2 = .ok (.invokevirtual 95, 3) := by decide +kernel
theorem dX4_borrows_5 : decode cX4_borrows 5 = .ok (.istore_n 3, 1) := by decide +kernel
theorem dX4_borrows_6 : decode cX4_borrows 6 = .ok (.iload_n 3, 1) := by decide +kernel
theorem dX4_borrows_7 : decode cX4_borrows 7 = .ok (.bipush (-9), 2) := by decide +kernel
theorem dX4_borrows_9 : decode cX4_borrows 9 = .ok (.if_icmp .eq 24, 3) := by decide +kernel
theorem dX4_borrows_12 : decode cX4_borrows 12 = .ok (.aload_n 0, 1) := by decide +kernel
theorem dX4_borrows_13 : decode cX4_borrows 13 = .ok (.iload_n 1, 1) := by decide +kernel
theorem dX4_borrows_14 : decode cX4_borrows 14 = .ok (.iconst 0, 1) := by decide +kernel
theorem dX4_borrows_15 : decode cX4_borrows 15 = .ok (.invokevirtual 43, 3) := by decide +kernel
theorem dX4_borrows_18 : decode cX4_borrows 18 = .ok (.iload_n 2, 1) := by decide +kernel
theorem dX4_borrows_19 : decode cX4_borrows 19 = .ok (.if_icmp .lt 14, 3) := by decide +kernel
theorem dX4_borrows_22 : decode cX4_borrows 22 = .ok (.aload_n 0, 1) := by decide +kernel
theorem dX4_borrows_23 : decode cX4_borrows 23 = .ok (.getfield 7, 3) := by decide +kernel
theorem dX4_borrows_26 : decode cX4_borrows 26 = .ok (.iconst 2, 1) := by decide +kernel
theorem dX4_borrows_27 : decode cX4_borrows 27 = .ok (.iaload, 1) := by decide +kernel
theorem dX4_borrows_28 : decode cX4_borrows 28 = .ok (.bipush 12, 2) := by decide +kernel
theorem dX4_borrows_30 : decode cX4_borrows 30 = .ok (.if_icmp .ne 5, 3) := by decide +kernel
theorem dX4_borrows_33 : decode cX4_borrows 33 = .ok (.iconst 0, 1) := by decide +kernel
theorem dX4_borrows_34 : decode cX4_borrows 34 = .ok (.ireturn, 1) := by decide +kernel
theorem dX4_borrows_35 : decode cX4_borrows 35 = .ok (.iload_n 2, 1) := by decide +kernel
theorem dX4_borrows_36 : decode cX4_borrows 36 = .ok (.aload_n 0, 1) := by decide +kernel
theorem dX4_borrows_37 : decode cX4_borrows 37 = .ok (.iload_n 1, 1) := by decide +kernel
theorem dX4_borrows_38 : decode cX4_borrows 38 = .ok (.iconst 1, 1) := by decide +kernel
theorem dX4_borrows_39 : decode cX4_borrows 39 = .ok (.invokevirtual 43, 3) := by decide +kernel
theorem dX4_borrows_42 : decode cX4_borrows 42 = .ok (.isub, 1) := by decide +kernel
theorem dX4_borrows_43 : decode cX4_borrows 43 = .ok (.iload_n 3, 1) := by decide +kernel
theorem dX4_borrows_44 : decode cX4_borrows 44 = .ok (.iload_n 1, 1) := by decide +kernel
theorem dX4_borrows_45 : decode cX4_borrows 45 = .ok (.invokestatic 98, 3) := by decide +kernel
theorem dX4_borrows_48 : decode cX4_borrows 48 = .ok (.istore 4, 2) := by decide +kernel
theorem dX4_borrows_50 : decode cX4_borrows 50 = .ok (.aload_n 0, 1) := by decide +kernel
theorem dX4_borrows_51 : decode cX4_borrows 51 = .ok (.iload_n 3, 1) := by decide +kernel
theorem dX4_borrows_52 : decode cX4_borrows 52 = .ok (.iconst 1, 1) := by decide +kernel
theorem dX4_borrows_53 : decode cX4_borrows 53 = .ok (.invokevirtual 43, 3) := by decide +kernel
theorem dX4_borrows_56 : decode cX4_borrows 56 = .ok (.iload 4, 2) := by decide +kernel
theorem dX4_borrows_58 : decode cX4_borrows 58 = .ok (.isub, 1) := by decide +kernel
theorem dX4_borrows_59 : decode cX4_borrows 59 = .ok (.iload_n 2, 1) := by decide +kernel
theorem dX4_borrows_60 : decode cX4_borrows 60 = .ok (.if_icmp .ge 5, 3) := by decide +kernel
theorem dX4_borrows_63 : decode cX4_borrows 63 = .ok (.iconst 0, 1) := by decide +kernel
theorem dX4_borrows_64 : decode cX4_borrows 64 = .ok (.ireturn, 1) := by decide +kernel
theorem dX4_borrows_65 : decode cX4_borrows 65 = .ok (.aload_n 0, 1) := by decide +kernel
theorem dX4_borrows_66 : decode cX4_borrows 66 = .ok (.iload_n 3, 1) := by decide +kernel
theorem dX4_borrows_67 : decode cX4_borrows 67 = .ok (.iload_n 1, 1) := by decide +kernel
theorem dX4_borrows_68 : decode cX4_borrows 68 = .ok (.iload 4, 2) := by decide +kernel
theorem dX4_borrows_70 : decode cX4_borrows 70 = .ok (.bipush 10, 2) := by decide +kernel
theorem dX4_borrows_72 : decode cX4_borrows 72 = .ok (.invokevirtual 101, 3) := by decide +kernel
theorem dX4_borrows_75 : decode cX4_borrows 75 = .ok (.ifCond .lt 7, 3) := by decide +kernel
theorem dX4_borrows_78 : decode cX4_borrows 78 = .ok (.iconst 1, 1) := by decide +kernel
theorem dX4_borrows_79 : decode cX4_borrows 79 = .ok (.goto 4, 3) := by decide +kernel
theorem dX4_borrows_82 : decode cX4_borrows 82 = .ok (.iconst 0, 1) := by decide +kernel
theorem dX4_borrows_83 : decode cX4_borrows 83 = .ok (.ireturn, 1) := by decide +kernel
theorem dX4_draws0_0 : decode cX4_draws0 0 = .ok (.iconst 0, 1) := by decide +kernel
theorem dX4_draws0_1 : decode cX4_draws0 1 = .ok (.istore_n 2, 1) := by decide +kernel
theorem dX4_draws0_2 : decode cX4_draws0 2 = .ok (.iconst 0, 1) := by decide +kernel
theorem dX4_draws0_3 : decode cX4_draws0 3 = .ok (.istore_n 3, 1) := by decide +kernel
theorem dX4_draws0_4 : decode cX4_draws0 4 = .ok (.iload_n 3, 1) := by decide +kernel
theorem dX4_draws0_5 : decode cX4_draws0 5 = .ok (.aload_n 0, 1) := by decide +kernel
theorem dX4_draws0_6 : decode cX4_draws0 6 = .ok (.getfield 7, 3) := by decide +kernel
theorem dX4_draws0_9 : decode cX4_draws0 9 = .ok (.iconst 1, 1) := by decide +kernel
theorem dX4_draws0_10 : decode cX4_draws0 10 = .ok (.iaload, 1) := by decide +kernel
theorem dX4_draws0_11 : decode cX4_draws0 11 = .ok (.if_icmp .ge 41, 3) := by decide +kernel
theorem dX4_draws0_14 : decode cX4_draws0 14 = .ok (.aload_n 0, 1) := by decide +kernel
theorem dX4_draws0_15 : decode cX4_draws0 15 = .ok (.iload_n 3, 1) := by decide +kernel
theorem dX4_draws0_16 : decode cX4_draws0 16 = .ok (.invokevirtual 84, 3) := by decide +kernel
theorem dX4_draws0_19 : decode cX4_draws0 19 = .ok (.ifCond .eq 27, 3) := by decide +kernel
theorem dX4_draws0_22 : decode cX4_draws0 22 = .ok (.iinc 2 1, 3) := by decide +kernel
theorem dX4_draws0_25 : decode cX4_draws0 25 = .ok (.aload_n 0, 1) := by decide +kernel
theorem dX4_draws0_26 : decode cX4_draws0 26 = .ok (.iload_n 3, 1) := by decide +kernel
theorem dX4_draws0_27 : decode cX4_draws0 27 = .ok (.iconst 1, 1) := by decide +kernel
theorem dX4_draws0_28 : decode cX4_draws0 28 = .ok (.invokevirtual 43, 3) := by decide +kernel
theorem dX4_draws0_31 : decode cX4_draws0 31 = .ok (.iload_n 1, 1) := by decide +kernel
theorem dX4_draws0_32 : decode cX4_draws0 32 = .ok (.if_icmp .ge 14, 3) := by decide +kernel
theorem dX4_draws0_35 : decode cX4_draws0 35 = .ok (.aload_n 0, 1) := by decide +kernel
theorem dX4_draws0_36 : decode cX4_draws0 36 = .ok (.iload_n 3, 1) := by decide +kernel
theorem dX4_draws0_37 : decode cX4_draws0 37 = .ok (.iload_n 1, 1) := by decide +kernel
theorem dX4_draws0_38 : decode cX4_draws0 38 = .ok (.invokevirtual 105, 3) := by decide +kernel
theorem dX4_draws0_41 : decode cX4_draws0 41 = .ok (.ifCond .ne 5, 3) := by decide +kernel
theorem dX4_draws0_44 : decode cX4_draws0 44 = .ok (.iconst 0, 1) := by decide +kernel
theorem dX4_draws0_45 : decode cX4_draws0 45 = .ok (.ireturn, 1) := by decide +kernel
theorem dX4_draws0_46 : decode cX4_draws0 46 = .ok (.iinc 3 1, 3) := by decide +kernel
theorem dX4_draws0_49 : decode cX4_draws0 49 = .ok (.goto (-45), 3) := by decide +kernel
theorem dX4_draws0_52 : decode cX4_draws0 52 = .ok (.iconst 0, 1) := by decide +kernel
theorem dX4_draws0_53 : decode cX4_draws0 53 = .ok (.istore_n 3, 1) := by decide +kernel
theorem dX4_draws0_54 : decode cX4_draws0 54 = .ok (.iload_n 3, 1) := by decide +kernel
theorem dX4_draws0_55 : decode cX4_draws0 55 = .ok (.aload_n 0, 1) := by decide +kernel
theorem dX4_draws0_56 : decode cX4_draws0 56 = .ok (.getfield 7, 3) := by decide +kernel
theorem dX4_draws0_59 : decode cX4_draws0 59 = .ok (.iconst 1, 1) := by decide +kernel
theorem dX4_draws0_60 : decode cX4_draws0 60 = .ok (.iaload, 1) := by decide +kernel
theorem dX4_draws0_61 : decode cX4_draws0 61 = .ok (.if_icmp .ge 29, 3) := by decide +kernel
theorem dX4_draws0_64 : decode cX4_draws0 64 = .ok (.aload_n 0, 1) := by decide +kernel
theorem dX4_draws0_65 : decode cX4_draws0 65 = .ok (.iload_n 3, 1) := by decide +kernel
theorem dX4_draws0_66 : decode cX4_draws0 66 = .ok (.iconst 1, 1) := by decide +kernel
theorem dX4_draws0_67 : decode cX4_draws0 67 = .ok (.aload_n 0, 1) := by decide +kernel
theorem dX4_draws0_68 : decode cX4_draws0 68 = .ok (.iload_n 3, 1) := by decide +kernel
theorem dX4_draws0_69 : decode cX4_draws0 69 = .ok (.invokevirtual 84, 3) := by decide +kernel
theorem dX4_draws0_72 : decode cX4_draws0 72 = .ok (.ifCond .eq 8, 3) := by decide +kernel
theorem dX4_draws0_75 : decode cX4_draws0 75 = .ok (.iload_n 1, 1) := by decide +kernel
theorem dX4_draws0_76 : decode cX4_draws0 76 = .ok (.ineg, 1) := by decide +kernel
theorem dX4_draws0_77 : decode cX4_draws0 77 = .ok (.goto 4, 3) := by decide +kernel
theorem dX4_draws0_80 : decode cX4_draws0 80 = .ok (.iconst 0, 1) := by decide +kernel
theorem dX4_draws0_81 : decode cX4_draws0 81 = .ok (.invokevirtual 54, 3) := by decide +kernel
theorem dX4_draws0_84 : decode cX4_draws0 84 = .ok (.iinc 3 1, 3) := by decide +kernel
theorem dX4_draws0_87 : decode cX4_draws0 87 = .ok (.goto (-33), 3) := by decide +kernel
theorem dX4_draws0_90 : decode cX4_draws0 90 = .ok (.aload_n 0, 1) := by decide +kernel
theorem dX4_draws0_91 : decode cX4_draws0 91 = .ok (.getfield 7, 3) := by decide +kernel
theorem dX4_draws0_94 : decode cX4_draws0 94 = .ok (.iconst 4, 1) := by decide +kernel
theorem dX4_draws0_95 : decode cX4_draws0 95 = .ok (.dup2, 1) := by decide +kernel
theorem dX4_draws0_96 : decode cX4_draws0 96 = .ok (.iaload, 1) := by decide +kernel
theorem dX4_draws0_97 : decode cX4_draws0 97 = .ok (.iload_n 1, 1) := by decide +kernel
theorem dX4_draws0_98 : decode cX4_draws0 98 = .ok (.iload_n 2, 1) := by decide +kernel
theorem dX4_draws0_99 : decode cX4_draws0 99 = .ok (.imul, 1) := by decide +kernel
theorem dX4_draws0_100 : decode cX4_draws0 100 = .ok (.iadd, 1) := by decide +kernel
theorem dX4_draws0_101 : decode cX4_draws0 101 = .ok (.iastore, 1) := by decide +kernel
theorem dX4_draws0_102 : decode cX4_draws0 102 = .ok (.iload_n 1, 1) := by decide +kernel
theorem dX4_draws0_103 : decode cX4_draws0 103 = .ok (.iload_n 2, 1) := by decide +kernel
theorem dX4_draws0_104 : decode cX4_draws0 104 = .ok (.imul, 1) := by decide +kernel
theorem dX4_draws0_105 : decode cX4_draws0 105 = .ok (.ireturn, 1) := by decide +kernel
theorem dX4_drawn_0 : decode cX4_drawn 0 = .ok (.iconst 0, 1) := by decide +kernel
theorem dX4_drawn_1 : decode cX4_drawn 1 = .ok (.istore_n 2, 1) := by decide +kernel
theorem dX4_drawn_2 : decode cX4_drawn 2 = .ok (.iload_n 2, 1) := by decide +kernel
theorem dX4_drawn_3 : decode cX4_drawn 3 = .ok (.bipush 107, 2) := by decide +kernel
theorem dX4_drawn_5 : decode cX4_drawn 5 = .ok (.if_icmp .ge 21, 3) := by decide +kernel
theorem dX4_drawn_8 : decode cX4_drawn 8 = .ok (.aload_n 0, 1) := by decide +kernel
theorem dX4_drawn_9 : decode cX4_drawn 9 = .ok (.getfield 32, 3) := by decide +kernel
theorem dX4_drawn_12 : decode cX4_drawn 12 = .ok (.iload_n 2, 1) := by decide +kernel
theorem dX4_drawn_13 : decode cX4_drawn 13 = .ok (.aload_n 0, 1) := by decide +kernel
theorem dX4_drawn_14 : decode cX4_drawn 14 = .ok (.getfield 7, 3) := by decide +kernel
theorem dX4_drawn_17 : decode cX4_drawn 17 = .ok (.iload_n 2, 1) := by decide +kernel
theorem dX4_drawn_18 : decode cX4_drawn 18 = .ok (.iaload, 1) := by decide +kernel
theorem dX4_drawn_19 : decode cX4_drawn 19 = .ok (.iastore, 1) := by decide +kernel
theorem dX4_drawn_20 : decode cX4_drawn 20 = .ok (.iinc 2 1, 3) := by decide +kernel
theorem dX4_drawn_23 : decode cX4_drawn 23 = .ok (.goto (-21), 3) := by decide +kernel
theorem dX4_drawn_26 : decode cX4_drawn 26 = .ok (.aload_n 0, 1) := by decide +kernel
theorem dX4_drawn_27 : decode cX4_drawn 27 = .ok (.iload_n 1, 1) := by decide +kernel
theorem dX4_drawn_28 : decode cX4_drawn 28 = .ok (.invokevirtual 109, 3) := by decide +kernel
theorem dX4_drawn_31 : decode cX4_drawn 31 = .ok (.istore_n 2, 1) := by decide +kernel
theorem dX4_drawn_32 : decode cX4_drawn 32 = .ok (.iconst 0, 1) := by decide +kernel
theorem dX4_drawn_33 : decode cX4_drawn 33 = .ok (.istore_n 3, 1) := by decide +kernel
theorem dX4_drawn_34 : decode cX4_drawn 34 = .ok (.iload_n 3, 1) := by decide +kernel
theorem dX4_drawn_35 : decode cX4_drawn 35 = .ok (.bipush 107, 2) := by decide +kernel
theorem dX4_drawn_37 : decode cX4_drawn 37 = .ok (.if_icmp .ge 25, 3) := by decide +kernel
theorem dX4_drawn_40 : decode cX4_drawn 40 = .ok (.iload_n 2, 1) := by decide +kernel
theorem dX4_drawn_41 : decode cX4_drawn 41 = .ok (.ifCond .ne 21, 3) := by decide +kernel
theorem dX4_drawn_44 : decode cX4_drawn 44 = .ok (.aload_n 0, 1) := by decide +kernel
theorem dX4_drawn_45 : decode cX4_drawn 45 = .ok (.getfield 7, 3) := by decide +kernel
theorem dX4_drawn_48 : decode cX4_drawn 48 = .ok (.iload_n 3, 1) := by decide +kernel
theorem dX4_drawn_49 : decode cX4_drawn 49 = .ok (.aload_n 0, 1) := by decide +kernel
theorem dX4_drawn_50 : decode cX4_drawn 50 = .ok (.getfield 32, 3) := by decide +kernel
theorem dX4_drawn_53 : decode cX4_drawn 53 = .ok (.iload_n 3, 1) := by decide +kernel
theorem dX4_drawn_54 : decode cX4_drawn 54 = .ok (.iaload, 1) := by decide +kernel
theorem dX4_drawn_55 : decode cX4_drawn 55 = .ok (.iastore, 1) := by decide +kernel
theorem dX4_drawn_56 : decode cX4_drawn 56 = .ok (.iinc 3 1, 3) := by decide +kernel
theorem dX4_drawn_59 : decode cX4_drawn 59 = .ok (.goto (-25), 3) := by decide +kernel
theorem dX4_drawn_62 : decode cX4_drawn 62 = .ok (.iload_n 2, 1) := by decide +kernel
theorem dX4_drawn_63 : decode cX4_drawn 63 = .ok (.ireturn, 1) := by decide +kernel
theorem dX4_allCharge_0 : decode cX4_allCharge 0 = .ok (.iconst 0, 1) := by decide +kernel
theorem dX4_allCharge_1 : decode cX4_allCharge 1 = .ok (.istore_n 1, 1) := by decide +kernel
theorem dX4_allCharge_2 : decode cX4_allCharge 2 = .ok (.iconst 0, 1) := by decide +kernel
theorem dX4_allCharge_3 : decode cX4_allCharge 3 = .ok (.istore_n 2, 1) := by decide +kernel
theorem dX4_allCharge_4 : decode cX4_allCharge 4 = .ok (.iload_n 2, 1) := by decide +kernel
theorem dX4_allCharge_5 : decode cX4_allCharge 5 = .ok (.aload_n 0, 1) := by decide +kernel
theorem dX4_allCharge_6 : decode cX4_allCharge 6 = .ok (.getfield 7, 3) := by decide +kernel
theorem dX4_allCharge_9 : decode cX4_allCharge 9 = .ok (.iconst 1, 1) := by decide +kernel
theorem dX4_allCharge_10 : decode cX4_allCharge 10 = .ok (.iaload, 1) := by decide +kernel
theorem dX4_allCharge_11 : decode cX4_allCharge 11 = .ok (.if_icmp .ge 18, 3) := by decide +kernel
theorem dX4_allCharge_14 : decode cX4_allCharge 14 = .ok (.iload_n 1, 1) := by decide +kernel
theorem dX4_allCharge_15 : decode cX4_allCharge 15 = .ok (.aload_n 0, 1) := by decide +kernel
theorem dX4_allCharge_16 : decode cX4_allCharge 16 = .ok (.iload_n 2, 1) := by decide +kernel
theorem dX4_allCharge_17 : decode cX4_allCharge 17 = .ok (.iconst 1, 1) := by decide +kernel
theorem dX4_allCharge_18 : decode cX4_allCharge 18 = .ok (.invokevirtual 43, 3) := by decide +kernel
theorem dX4_allCharge_21 : decode cX4_allCharge 21 = .ok (.iadd, 1) := by decide +kernel
theorem dX4_allCharge_22 : decode cX4_allCharge 22 = .ok (.istore_n 1, 1) := by decide +kernel
theorem dX4_allCharge_23 : decode cX4_allCharge 23 = .ok (.iinc 2 1, 3) := by decide +kernel
theorem dX4_allCharge_26 : decode cX4_allCharge 26 = .ok (.goto (-22), 3) := by decide +kernel
theorem dX4_allCharge_29 : decode cX4_allCharge 29 = .ok (.iload_n 1, 1) := by decide +kernel
theorem dX4_allCharge_30 : decode cX4_allCharge 30 = .ok (.ireturn, 1) := by decide +kernel
theorem dX4_append_0 : decode cX4_append 0 = .ok (.aload_n 0, 1) := by decide +kernel
theorem dX4_append_1 : decode cX4_append 1 = .ok (.iload_n 1, 1) := by decide +kernel
theorem dX4_append_2 : decode cX4_append 2 = .ok (.iconst 0, 1) := by decide +kernel
theorem dX4_append_3 : decode cX4_append 3 = .ok (.sipush 255, 3) := by decide +kernel
theorem dX4_append_6 : decode cX4_append 6 = .ok (.invokestatic 39, 3) := by decide +kernel
theorem dX4_append_9 : decode cX4_append 9 = .ok (.ifCond .ne 7, 3) := by decide +kernel
theorem dX4_append_12 : decode cX4_append 12 = .ok (.iconst 1, 1) := by decide +kernel
theorem dX4_append_13 : decode cX4_append 13 = .ok (.goto 17, 3) := by decide +kernel
theorem dX4_append_16 : decode cX4_append 16 = .ok (.aload_n 0, 1) := by decide +kernel
theorem dX4_append_17 : decode cX4_append 17 = .ok (.getfield 112, 3) := by decide +kernel
theorem dX4_append_20 : decode cX4_append 20 = .ok (.bipush 120, 2) := by decide +kernel
theorem dX4_append_22 : decode cX4_append 22 = .ok (.if_icmp .ne 7, 3) := by decide +kernel
theorem dX4_append_25 : decode cX4_append 25 = .ok (.iconst 2, 1) := by decide +kernel
theorem dX4_append_26 : decode cX4_append 26 = .ok (.goto 4, 3) := by decide +kernel
theorem dX4_append_29 : decode cX4_append 29 = .ok (.iconst 0, 1) := by decide +kernel
theorem dX4_append_30 : decode cX4_append 30 = .ok (.putfield 35, 3) := by decide +kernel
theorem dX4_append_33 : decode cX4_append 33 = .ok (.aload_n 0, 1) := by decide +kernel
theorem dX4_append_34 : decode cX4_append 34 = .ok (.getfield 35, 3) := by decide +kernel
theorem dX4_append_37 : decode cX4_append 37 = .ok (.ifCond .le 5, 3) := by decide +kernel
theorem dX4_append_40 : decode cX4_append 40 = .ok (.iconst 0, 1) := by decide +kernel
theorem dX4_append_41 : decode cX4_append 41 = .ok (.ireturn, 1) := by decide +kernel
theorem dX4_append_42 : decode cX4_append 42 = .ok (.aload_n 0, 1) := by decide +kernel
theorem dX4_append_43 : decode cX4_append 43 = .ok (.getfield 26, 3) := by decide +kernel
theorem dX4_append_46 : decode cX4_append 46 = .ok (.aload_n 0, 1) := by decide +kernel
theorem dX4_append_47 : decode cX4_append 47 = .ok (.getfield 112, 3) := by decide +kernel
theorem dX4_append_50 : decode cX4_append 50 = .ok (.iload_n 1, 1) := by decide +kernel
theorem dX4_append_51 : decode cX4_append 51 = .ok (.iastore, 1) := by decide +kernel
theorem dX4_append_52 : decode cX4_append 52 = .ok (.aload_n 0, 1) := by decide +kernel
theorem dX4_append_53 : decode cX4_append 53 = .ok (.dup, 1) := by decide +kernel
theorem dX4_append_54 : decode cX4_append 54 = .ok (.getfield 112, 3) := by decide +kernel
theorem dX4_append_57 : decode cX4_append 57 = .ok (.iconst 1, 1) := by decide +kernel
theorem dX4_append_58 : decode cX4_append 58 = .ok (.iadd, 1) := by decide +kernel
theorem dX4_append_59 : decode cX4_append 59 = .ok (.putfield 112, 3) := by decide +kernel
theorem dX4_append_62 : decode cX4_append 62 = .ok (.aload_n 0, 1) := by decide +kernel
theorem dX4_append_63 : decode cX4_append 63 = .ok (.getfield 112, 3) := by decide +kernel
theorem dX4_append_66 : decode cX4_append 66 = .ok (.ireturn, 1) := by decide +kernel
theorem dX4_clearText_0 : decode cX4_clearText 0 = .ok (.aload_n 0, 1) := by decide +kernel
theorem dX4_clearText_1 : decode cX4_clearText 1 = .ok (.iconst 0, 1) := by decide +kernel
theorem dX4_clearText_2 : decode cX4_clearText 2 = .ok (.putfield 35, 3) := by decide +kernel
theorem dX4_clearText_5 : decode cX4_clearText 5 = .ok (.aload_n 0, 1) := by decide +kernel
theorem dX4_clearText_6 : decode cX4_clearText 6 = .ok (.getfield 112, 3) := by decide +kernel
theorem dX4_clearText_9 : decode cX4_clearText 9 = .ok (.istore_n 1, 1) := by decide +kernel
theorem dX4_clearText_10 : decode cX4_clearText 10 = .ok (.aload_n 0, 1) := by decide +kernel
theorem dX4_clearText_11 : decode cX4_clearText 11 = .ok (.iconst 0, 1) := by decide +kernel
theorem dX4_clearText_12 : decode cX4_clearText 12 = .ok (.putfield 112, 3) := by decide +kernel
theorem dX4_clearText_15 : decode cX4_clearText 15 = .ok (.iload_n 1, 1) := by decide +kernel
theorem dX4_clearText_16 : decode cX4_clearText 16 = .ok (.ireturn, 1) := by decide +kernel
theorem dX4_look_0 : decode cX4_look 0 = .ok (.aload_n 0, 1) := by decide +kernel
theorem dX4_look_1 : decode cX4_look 1 = .ok (.getfield 115, 3) := by decide +kernel
theorem dX4_look_4 : decode cX4_look 4 = .ok (.aload_n 0, 1) := by decide +kernel
theorem dX4_look_5 : decode cX4_look 5 = .ok (.getfield 112, 3) := by decide +kernel
theorem dX4_look_8 : decode cX4_look 8 = .ok (.if_icmp .ge 15, 3) := by decide +kernel
theorem dX4_look_11 : decode cX4_look 11 = .ok (.aload_n 0, 1) := by decide +kernel
theorem dX4_look_12 : decode cX4_look 12 = .ok (.getfield 26, 3) := by decide +kernel
theorem dX4_look_15 : decode cX4_look 15 = .ok (.aload_n 0, 1) := by decide +kernel
theorem dX4_look_16 : decode cX4_look 16 = .ok (.getfield 115, 3) := by decide +kernel
theorem dX4_look_19 : decode cX4_look 19 = .ok (.iaload, 1) := by decide +kernel
theorem dX4_look_20 : decode cX4_look 20 = .ok (.goto 4, 3) := by decide +kernel
theorem dX4_look_23 : decode cX4_look 23 = .ok (.iconst (-1), 1) := by decide +kernel
theorem dX4_look_24 : decode cX4_look 24 = .ok (.ireturn, 1) := by decide +kernel
theorem dX4_must_0 : decode cX4_must 0 = .ok (.aload_n 0, 1) := by decide +kernel
theorem dX4_must_1 : decode cX4_must 1 = .ok (.aload_n 0, 1) := by decide +kernel
theorem dX4_must_2 : decode cX4_must 2 = .ok (.getfield 118, 3) := by decide +kernel
theorem dX4_must_5 : decode cX4_must 5 = .ok (.ifCond .ne 7, 3) := by decide +kernel
theorem dX4_must_8 : decode cX4_must 8 = .ok (.iload_n 1, 1) := by decide +kernel
theorem dX4_must_9 : decode cX4_must 9 = .ok (.ifCond .ne 7, 3) := by decide +kernel
theorem dX4_must_12 : decode cX4_must 12 = .ok (.iconst 1, 1) := by decide +kernel
theorem dX4_must_13 : decode cX4_must 13 = .ok (.goto 4, 3) := by decide +kernel
theorem dX4_must_16 : decode cX4_must 16 = .ok (.iconst 0, 1) := by decide +kernel
theorem dX4_must_17 : decode cX4_must 17 = .ok (.putfield 118, 3) := by decide +kernel
theorem dX4_must_20 : decode cX4_must 20 = .ok (.aload_n 0, 1) := by decide +kernel
theorem dX4_must_21 : decode cX4_must 21 = .ok (.dup, 1) := by decide +kernel
theorem dX4_must_22 : decode cX4_must 22 = .ok (.getfield 115, 3) := by decide +kernel
theorem dX4_must_25 : decode cX4_must 25 = .ok (.aload_n 0, 1) := by decide +kernel
theorem dX4_must_26 : decode cX4_must 26 = .ok (.getfield 118, 3) := by decide +kernel
theorem dX4_must_29 : decode cX4_must 29 = .ok (.ifCond .eq 7, 3) := by decide +kernel
theorem dX4_must_32 : decode cX4_must 32 = .ok (.iconst 0, 1) := by decide +kernel
theorem dX4_must_33 : decode cX4_must 33 = .ok (.goto 4, 3) := by decide +kernel
theorem dX4_must_36 : decode cX4_must 36 = .ok (.iconst 1, 1) := by decide +kernel
theorem dX4_must_37 : decode cX4_must 37 = .ok (.iadd, 1) := by decide +kernel
theorem dX4_must_38 : decode cX4_must 38 = .ok (.putfield 115, 3) := by decide +kernel
theorem dX4_must_41 : decode cX4_must 41 = .ok (.return_, 1) := by decide +kernel
theorem dX4_number_0 : decode cX4_number 0 = .ok (.iconst 0, 1) := by decide +kernel
theorem dX4_number_1 : decode cX4_number 1 = .ok (.istore 4, 2) := by decide +kernel
theorem dX4_number_3 : decode cX4_number 3 = .ok (.iload_n 1, 1) := by decide +kernel
theorem dX4_number_4 : decode cX4_number 4 = .ok (.iconst 2, 1) := by decide +kernel
theorem dX4_number_5 : decode cX4_number 5 = .ok (.if_icmp .ne 8, 3) := by decide +kernel
theorem dX4_number_8 : decode cX4_number 8 = .ok (.bipush 10, 2) := by decide +kernel
theorem dX4_number_10 : decode cX4_number 10 = .ok (.goto 4, 3) := by decide +kernel
theorem dX4_number_13 : decode cX4_number 13 = .ok (.iconst 1, 1) := by decide +kernel
theorem dX4_number_14 : decode cX4_number 14 = .ok (.istore 5, 2) := by decide +kernel
theorem dX4_number_16 : decode cX4_number 16 = .ok (.iload 5, 2) := by decide +kernel
theorem dX4_number_18 : decode cX4_number 18 = .ok (.ifCond .le 103, 3) := by decide +kernel
theorem dX4_number_21 : decode cX4_number 21 = .ok (.aload_n 0, 1) := by decide +kernel
theorem dX4_number_22 : decode cX4_number 22 = .ok (.getfield 118, 3) := by decide +kernel
theorem dX4_number_25 : decode cX4_number 25 = .ok (.ifCond .ne 96, 3) := by decide +kernel
theorem dX4_number_28 : decode cX4_number 28 = .ok (.aload_n 0, 1) := by decide +kernel
theorem dX4_number_29 : decode cX4_number 29 = .ok (.invokevirtual 122, 3) := by decide +kernel
theorem dX4_number_32 : decode cX4_number 32 = .ok (.bipush 48, 2) := by decide +kernel
theorem dX4_number_34 : decode cX4_number 34 = .ok (.isub, 1) := by decide +kernel
theorem dX4_number_35 : decode cX4_number 35 = .ok (.istore 6, 2) := by decide +kernel
theorem dX4_number_37 : decode cX4_number 37 = .ok (.bipush 10, 2) := by decide +kernel
theorem dX4_number_39 : decode cX4_number 39 = .ok (.iload 4, 2) := by decide +kernel
theorem dX4_number_41 : decode cX4_number 41 = .ok (.imul, 1) := by decide +kernel
theorem dX4_number_42 : decode cX4_number 42 = .ok (.iload 6, 2) := by decide +kernel
theorem dX4_number_44 : decode cX4_number 44 = .ok (.iadd, 1) := by decide +kernel
theorem dX4_number_45 : decode cX4_number 45 = .ok (.iload 5, 2) := by decide +kernel
theorem dX4_number_47 : decode cX4_number 47 = .ok (.imul, 1) := by decide +kernel
theorem dX4_number_48 : decode cX4_number 48 = .ok (.istore 7, 2) := by decide +kernel
theorem dX4_number_50 : decode cX4_number 50 = .ok (.iload 6, 2) := by decide +kernel
theorem dX4_number_52 : decode cX4_number 52 = .ok (.iconst 0, 1) := by decide +kernel
theorem dX4_number_53 : decode cX4_number 53 = .ok (.bipush 9, 2) := by decide +kernel
theorem dX4_number_55 : decode cX4_number 55 = .ok (.invokestatic 39, 3) := by decide +kernel
theorem dX4_number_58 : decode cX4_number 58 = .ok (.ifCond .eq 24, 3) := by decide +kernel
theorem dX4_number_61 : decode cX4_number 61 = .ok (.iload 7, 2) := by decide +kernel
theorem dX4_number_63 : decode cX4_number 63 = .ok (.iload_n 3, 1) := by decide +kernel
theorem dX4_number_64 : decode cX4_number 64 = .ok (.if_icmp .gt 18, 3) := by decide +kernel
theorem dX4_number_67 : decode cX4_number 67 = .ok (.iload 7, 2) := by decide +kernel
theorem dX4_number_69 : decode cX4_number 69 = .ok (.iload 5, 2) := by decide +kernel
theorem dX4_number_71 : decode cX4_number 71 = .ok (.iadd, 1) := by decide +kernel
theorem dX4_number_72 : decode cX4_number 72 = .ok (.iconst 1, 1) := by decide +kernel
theorem dX4_number_73 : decode cX4_number 73 = .ok (.isub, 1) := by decide +kernel
theorem dX4_number_74 : decode cX4_number 74 = .ok (.iload_n 2, 1) := by decide +kernel
theorem dX4_number_75 : decode cX4_number 75 = .ok (.if_icmp .lt 7, 3) := by decide +kernel
theorem dX4_number_78 : decode cX4_number 78 = .ok (.iconst 1, 1) := by decide +kernel
theorem dX4_number_79 : decode cX4_number 79 = .ok (.goto 4, 3) := by decide +kernel
theorem dX4_number_82 : decode cX4_number 82 = .ok (.iconst 0, 1) := by decide +kernel
theorem dX4_number_83 : decode cX4_number 83 = .ok (.istore 8, 2) := by decide +kernel
theorem dX4_number_85 : decode cX4_number 85 = .ok (.aload_n 0, 1) := by decide +kernel
theorem dX4_number_86 : decode cX4_number 86 = .ok (.iload 8, 2) := by decide +kernel
theorem dX4_number_88 : decode cX4_number 88 = .ok (.invokevirtual 125, 3) := by decide +kernel
theorem dX4_number_91 : decode cX4_number 91 = .ok (.iload 8, 2) := by decide +kernel
theorem dX4_number_93 : decode cX4_number 93 = .ok (.ifCond .eq 14, 3) := by decide +kernel
theorem dX4_number_96 : decode cX4_number 96 = .ok (.bipush 10, 2) := by decide +kernel
theorem dX4_number_98 : decode cX4_number 98 = .ok (.iload 4, 2) := by decide +kernel
theorem dX4_number_100 : decode cX4_number 100 = .ok (.imul, 1) := by decide +kernel
theorem dX4_number_101 : decode cX4_number 101 = .ok (.iload 6, 2) := by decide +kernel
theorem dX4_number_103 : decode cX4_number 103 = .ok (.iadd, 1) := by decide +kernel
theorem dX4_number_104 : decode cX4_number 104 = .ok (.goto 5, 3) := by decide +kernel
theorem dX4_number_107 : decode cX4_number 107 = .ok (.iload 4, 2) := by decide +kernel
theorem dX4_number_109 : decode cX4_number 109 = .ok (.istore 4, 2) := by decide +kernel
theorem dX4_number_111 : decode cX4_number 111 = .ok (.iload 5, 2) := by decide +kernel
theorem dX4_number_113 : decode cX4_number 113 = .ok (.bipush 10, 2) := by decide +kernel
theorem dX4_number_115 : decode cX4_number 115 = .ok (.idiv, 1) := by decide +kernel
theorem dX4_number_116 : decode cX4_number 116 = .ok (.istore 5, 2) := by decide +kernel
theorem dX4_number_118 : decode cX4_number 118 = .ok (.goto (-102), 3) := by decide +kernel
theorem dX4_number_121 : decode cX4_number 121 = .ok (.iload 4, 2) := by decide +kernel
theorem dX4_number_123 : decode cX4_number 123 = .ok (.ireturn, 1) := by decide +kernel
theorem dX4_newCell_0 : decode cX4_newCell 0 = .ok (.bipush 7, 2) := by decide +kernel
theorem dX4_newCell_2 : decode cX4_newCell 2 = .ok (.iconst 5, 1) := by decide +kernel
theorem dX4_newCell_3 : decode cX4_newCell 3 = .ok (.aload_n 0, 1) := by decide +kernel
theorem dX4_newCell_4 : decode cX4_newCell 4 = .ok (.getfield 7, 3) := by decide +kernel
theorem dX4_newCell_7 : decode cX4_newCell 7 = .ok (.iconst 1, 1) := by decide +kernel
theorem dX4_newCell_8 : decode cX4_newCell 8 = .ok (.iaload, 1) := by decide +kernel
theorem dX4_newCell_9 : decode cX4_newCell 9 = .ok (.imul, 1) := by decide +kernel
theorem dX4_newCell_10 : decode cX4_newCell 10 = .ok (.iadd, 1) := by decide +kernel
theorem dX4_newCell_11 : decode cX4_newCell 11 = .ok (.istore 4, 2) := by decide +kernel
theorem dX4_newCell_13 : decode cX4_newCell 13 = .ok (.iconst 0, 1) := by decide +kernel
theorem dX4_newCell_14 : decode cX4_newCell 14 = .ok (.istore 5, 2) := by decide +kernel
theorem dX4_newCell_16 : decode cX4_newCell 16 = .ok (.iload 5, 2) := by decide +kernel
theorem dX4_newCell_18 : decode cX4_newCell 18 = .ok (.iconst 5, 1) := by decide +kernel
theorem dX4_newCell_19 : decode cX4_newCell 19 = .ok (.if_icmp .ge 49, 3) := by decide +kernel
theorem dX4_newCell_22 : decode cX4_newCell 22 = .ok (.aload_n 0, 1) := by decide +kernel
theorem dX4_newCell_23 : decode cX4_newCell 23 = .ok (.getfield 7, 3) := by decide +kernel
theorem dX4_newCell_26 : decode cX4_newCell 26 = .ok (.iload 4, 2) := by decide +kernel
theorem dX4_newCell_28 : decode cX4_newCell 28 = .ok (.iload 5, 2) := by decide +kernel
theorem dX4_newCell_30 : decode cX4_newCell 30 = .ok (.iadd, 1) := by decide +kernel
theorem dX4_newCell_31 : decode cX4_newCell 31 = .ok (.iload 5, 2) := by decide +kernel
theorem dX4_newCell_33 : decode cX4_newCell 33 = .ok (.ifCond .ne 7, 3) := by decide +kernel
theorem dX4_newCell_36 : decode cX4_newCell 36 = .ok (.iload_n 1, 1) := by decide +kernel
theorem dX4_newCell_37 : decode cX4_newCell 37 = .ok (.goto 24, 3) := by decide +kernel
theorem dX4_newCell_40 : decode cX4_newCell 40 = .ok (.iload 5, 2) := by decide +kernel
theorem dX4_newCell_42 : decode cX4_newCell 42 = .ok (.iconst 1, 1) := by decide +kernel
theorem dX4_newCell_43 : decode cX4_newCell 43 = .ok (.if_icmp .ne 7, 3) := by decide +kernel
theorem dX4_newCell_46 : decode cX4_newCell 46 = .ok (.iload_n 2, 1) := by decide +kernel
theorem dX4_newCell_47 : decode cX4_newCell 47 = .ok (.goto 14, 3) := by decide +kernel
theorem dX4_newCell_50 : decode cX4_newCell 50 = .ok (.iload 5, 2) := by decide +kernel
theorem dX4_newCell_52 : decode cX4_newCell 52 = .ok (.iconst 2, 1) := by decide +kernel
theorem dX4_newCell_53 : decode cX4_newCell 53 = .ok (.if_icmp .ne 7, 3) := by decide +kernel
theorem dX4_newCell_56 : decode cX4_newCell 56 = .ok (.iload_n 3, 1) := by decide +kernel
theorem dX4_newCell_57 : decode cX4_newCell 57 = .ok (.goto 4, 3) := by decide +kernel
theorem dX4_newCell_60 : decode cX4_newCell 60 = .ok (.iconst 0, 1) := by decide +kernel
theorem dX4_newCell_61 : decode cX4_newCell 61 = .ok (.iastore, 1) := by decide +kernel
theorem dX4_newCell_62 : decode cX4_newCell 62 = .ok (.iinc 5 1, 3) := by decide +kernel
theorem dX4_newCell_65 : decode cX4_newCell 65 = .ok (.goto (-49), 3) := by decide +kernel
theorem dX4_newCell_68 : decode cX4_newCell 68 = .ok (.aload_n 0, 1) := by decide +kernel
theorem dX4_newCell_69 : decode cX4_newCell 69 = .ok (.getfield 7, 3) := by decide +kernel
theorem dX4_newCell_72 : decode cX4_newCell 72 = .ok (.iconst 1, 1) := by decide +kernel
theorem dX4_newCell_73 : decode cX4_newCell 73 = .ok (.dup2, 1) := by decide +kernel
theorem dX4_newCell_74 : decode cX4_newCell 74 = .ok (.iaload, 1) := by decide +kernel
theorem dX4_newCell_75 : decode cX4_newCell 75 = .ok (.iconst 1, 1) := by decide +kernel
theorem dX4_newCell_76 : decode cX4_newCell 76 = .ok (.iadd, 1) := by decide +kernel
theorem dX4_newCell_77 : decode cX4_newCell 77 = .ok (.iastore, 1) := by decide +kernel
theorem dX4_newCell_78 : decode cX4_newCell 78 = .ok (.aload_n 0, 1) := by decide +kernel
theorem dX4_newCell_79 : decode cX4_newCell 79 = .ok (.getfield 7, 3) := by decide +kernel
theorem dX4_newCell_82 : decode cX4_newCell 82 = .ok (.iconst 3, 1) := by decide +kernel
theorem dX4_newCell_83 : decode cX4_newCell 83 = .ok (.dup2, 1) := by decide +kernel
theorem dX4_newCell_84 : decode cX4_newCell 84 = .ok (.iaload, 1) := by decide +kernel
theorem dX4_newCell_85 : decode cX4_newCell 85 = .ok (.iload_n 2, 1) := by decide +kernel
theorem dX4_newCell_86 : decode cX4_newCell 86 = .ok (.iadd, 1) := by decide +kernel
theorem dX4_newCell_87 : decode cX4_newCell 87 = .ok (.iastore, 1) := by decide +kernel
theorem dX4_newCell_88 : decode cX4_newCell 88 = .ok (.aload_n 0, 1) := by decide +kernel
theorem dX4_newCell_89 : decode cX4_newCell 89 = .ok (.getfield 7, 3) := by decide +kernel
theorem dX4_newCell_92 : decode cX4_newCell 92 = .ok (.iconst 1, 1) := by decide +kernel
theorem dX4_newCell_93 : decode cX4_newCell 93 = .ok (.iaload, 1) := by decide +kernel
theorem dX4_newCell_94 : decode cX4_newCell 94 = .ok (.iconst 1, 1) := by decide +kernel
theorem dX4_newCell_95 : decode cX4_newCell 95 = .ok (.isub, 1) := by decide +kernel
theorem dX4_newCell_96 : decode cX4_newCell 96 = .ok (.ireturn, 1) := by decide +kernel
theorem dX4_readCell_0 : decode cX4_readCell 0 = .ok (.aload_n 0, 1) := by decide +kernel
theorem dX4_readCell_1 : decode cX4_readCell 1 = .ok (.aload_n 0, 1) := by decide +kernel
theorem dX4_readCell_2 : decode cX4_readCell 2 = .ok (.getfield 7, 3) := by decide +kernel
theorem dX4_readCell_5 : decode cX4_readCell 5 = .ok (.iconst 1, 1) := by decide +kernel
theorem dX4_readCell_6 : decode cX4_readCell 6 = .ok (.iaload, 1) := by decide +kernel
theorem dX4_readCell_7 : decode cX4_readCell 7 = .ok (.bipush 8, 2) := by decide +kernel
theorem dX4_readCell_9 : decode cX4_readCell 9 = .ok (.if_icmp .ge 7, 3) := by decide +kernel
theorem dX4_readCell_12 : decode cX4_readCell 12 = .ok (.iconst 1, 1) := by decide +kernel
theorem dX4_readCell_13 : decode cX4_readCell 13 = .ok (.goto 4, 3) := by decide +kernel
theorem dX4_readCell_16 : decode cX4_readCell 16 = .ok (.iconst 0, 1) := by decide +kernel
theorem dX4_readCell_17 : decode cX4_readCell 17 = .ok (.invokevirtual 125, 3) := by decide +kernel
theorem dX4_readCell_20 : decode cX4_readCell 20 = .ok (.aload_n 0, 1) := by decide +kernel
theorem dX4_readCell_21 : decode cX4_readCell 21 = .ok (.iconst 2, 1) := by decide +kernel
theorem dX4_readCell_22 : decode cX4_readCell 22 = .ok (.bipush 10, 2) := by decide +kernel
theorem dX4_readCell_24 : decode cX4_readCell 24 = .ok (.bipush 99, 2) := by decide +kernel
theorem dX4_readCell_26 : decode cX4_readCell 26 = .ok (.invokevirtual 129, 3) := by decide +kernel
theorem dX4_readCell_29 : decode cX4_readCell 29 = .ok (.istore_n 1, 1) := by decide +kernel
theorem dX4_readCell_30 : decode cX4_readCell 30 = .ok (.aload_n 0, 1) := by decide +kernel
theorem dX4_readCell_31 : decode cX4_readCell 31 = .ok (.iconst 2, 1) := by decide +kernel
theorem dX4_readCell_32 : decode cX4_readCell 32 = .ok (.iconst 0, 1) := by decide +kernel
theorem dX4_readCell_33 : decode cX4_readCell 33 = .ok (.iload_n 1, 1) := by decide +kernel
theorem dX4_readCell_34 : decode cX4_readCell 34 = .ok (.invokevirtual 129, 3) := by decide +kernel
theorem dX4_readCell_37 : decode cX4_readCell 37 = .ok (.istore_n 2, 1) := by decide +kernel
theorem dX4_readCell_38 : decode cX4_readCell 38 = .ok (.aload_n 0, 1) := by decide +kernel
theorem dX4_readCell_39 : decode cX4_readCell 39 = .ok (.iconst 1, 1) := by decide +kernel
theorem dX4_readCell_40 : decode cX4_readCell 40 = .ok (.iconst 0, 1) := by decide +kernel
theorem dX4_readCell_41 : decode cX4_readCell 41 = .ok (.iconst 3, 1) := by decide +kernel
theorem dX4_readCell_42 : decode cX4_readCell 42 = .ok (.invokevirtual 129, 3) := by decide +kernel
theorem dX4_readCell_45 : decode cX4_readCell 45 = .ok (.istore_n 3, 1) := by decide +kernel
theorem dX4_readCell_46 : decode cX4_readCell 46 = .ok (.aload_n 0, 1) := by decide +kernel
theorem dX4_readCell_47 : decode cX4_readCell 47 = .ok (.getfield 118, 3) := by decide +kernel
theorem dX4_readCell_50 : decode cX4_readCell 50 = .ok (.ifCond .ne 11, 3) := by decide +kernel
theorem dX4_readCell_53 : decode cX4_readCell 53 = .ok (.aload_n 0, 1) := by decide +kernel
theorem dX4_readCell_54 : decode cX4_readCell 54 = .ok (.iload_n 1, 1) := by decide +kernel
theorem dX4_readCell_55 : decode cX4_readCell 55 = .ok (.iload_n 2, 1) := by decide +kernel
theorem dX4_readCell_56 : decode cX4_readCell 56 = .ok (.iload_n 3, 1) := by decide +kernel
theorem dX4_readCell_57 : decode cX4_readCell 57 = .ok (.invokevirtual 132, 3) := by decide +kernel
theorem dX4_readCell_60 : decode cX4_readCell 60 = .ok (.pop, 1) := by decide +kernel
theorem dX4_readCell_61 : decode cX4_readCell 61 = .ok (.return_, 1) := by decide +kernel
theorem dX4_cellHere_0 : decode cX4_cellHere 0 = .ok (.aload_n 0, 1) := by decide +kernel
theorem dX4_cellHere_1 : decode cX4_cellHere 1 = .ok (.invokevirtual 122, 3) := by decide +kernel
theorem dX4_cellHere_4 : decode cX4_cellHere 4 = .ok (.bipush 48, 2) := by decide +kernel
theorem dX4_cellHere_6 : decode cX4_cellHere 6 = .ok (.isub, 1) := by decide +kernel
theorem dX4_cellHere_7 : decode cX4_cellHere 7 = .ok (.istore_n 2, 1) := by decide +kernel
theorem dX4_cellHere_8 : decode cX4_cellHere 8 = .ok (.aload_n 0, 1) := by decide +kernel
theorem dX4_cellHere_9 : decode cX4_cellHere 9 = .ok (.aload_n 0, 1) := by decide +kernel
theorem dX4_cellHere_10 : decode cX4_cellHere 10 = .ok (.iload_n 2, 1) := by decide +kernel
theorem dX4_cellHere_11 : decode cX4_cellHere 11 = .ok (.invokevirtual 135, 3) := by decide +kernel
theorem dX4_cellHere_14 : decode cX4_cellHere 14 = .ok (.ifCond .eq 27, 3) := by decide +kernel
theorem dX4_cellHere_17 : decode cX4_cellHere 17 = .ok (.iload_n 2, 1) := by decide +kernel
theorem dX4_cellHere_18 : decode cX4_cellHere 18 = .ok (.iload_n 1, 1) := by decide +kernel
theorem dX4_cellHere_19 : decode cX4_cellHere 19 = .ok (.if_icmp .eq 22, 3) := by decide +kernel
theorem dX4_cellHere_22 : decode cX4_cellHere 22 = .ok (.iload_n 1, 1) := by decide +kernel
theorem dX4_cellHere_23 : decode cX4_cellHere 23 = .ok (.bipush (-9), 2) := by decide +kernel
theorem dX4_cellHere_25 : decode cX4_cellHere 25 = .ok (.if_icmp .ne 12, 3) := by decide +kernel
theorem dX4_cellHere_28 : decode cX4_cellHere 28 = .ok (.aload_n 0, 1) := by decide +kernel
theorem dX4_cellHere_29 : decode cX4_cellHere 29 = .ok (.iload_n 2, 1) := by decide +kernel
theorem dX4_cellHere_30 : decode cX4_cellHere 30 = .ok (.iconst 1, 1) := by decide +kernel
theorem dX4_cellHere_31 : decode cX4_cellHere 31 = .ok (.invokevirtual 43, 3) := by decide +kernel
theorem dX4_cellHere_34 : decode cX4_cellHere 34 = .ok (.ifCond .le 7, 3) := by decide +kernel
theorem dX4_cellHere_37 : decode cX4_cellHere 37 = .ok (.iconst 1, 1) := by decide +kernel
theorem dX4_cellHere_38 : decode cX4_cellHere 38 = .ok (.goto 4, 3) := by decide +kernel
theorem dX4_cellHere_41 : decode cX4_cellHere 41 = .ok (.iconst 0, 1) := by decide +kernel
theorem dX4_cellHere_42 : decode cX4_cellHere 42 = .ok (.invokevirtual 125, 3) := by decide +kernel
theorem dX4_cellHere_45 : decode cX4_cellHere 45 = .ok (.iload_n 2, 1) := by decide +kernel
theorem dX4_cellHere_46 : decode cX4_cellHere 46 = .ok (.ireturn, 1) := by decide +kernel
theorem dX4_readLoan_0 : decode cX4_readLoan 0 = .ok (.aload_n 0, 1) := by decide +kernel
theorem dX4_readLoan_1 : decode cX4_readLoan 1 = .ok (.getfield 115, 3) := by decide +kernel
theorem dX4_readLoan_4 : decode cX4_readLoan 4 = .ok (.istore_n 1, 1) := by decide +kernel
theorem dX4_readLoan_5 : decode cX4_readLoan 5 = .ok (.aload_n 0, 1) := by decide +kernel
theorem dX4_readLoan_6 : decode cX4_readLoan 6 = .ok (.aload_n 0, 1) := by decide +kernel
theorem dX4_readLoan_7 : decode cX4_readLoan 7 = .ok (.getfield 7, 3) := by decide +kernel
theorem dX4_readLoan_10 : decode cX4_readLoan 10 = .ok (.iconst 1, 1) := by decide +kernel
theorem dX4_readLoan_11 : decode cX4_readLoan 11 = .ok (.iaload, 1) := by decide +kernel
theorem dX4_readLoan_12 : decode cX4_readLoan 12 = .ok (.iconst 1, 1) := by decide +kernel
theorem dX4_readLoan_13 : decode cX4_readLoan 13 = .ok (.if_icmp .le 18, 3) := by decide +kernel
theorem dX4_readLoan_16 : decode cX4_readLoan 16 = .ok (.aload_n 0, 1) := by decide +kernel
theorem dX4_readLoan_17 : decode cX4_readLoan 17 = .ok (.getfield 7, 3) := by decide +kernel
theorem dX4_readLoan_20 : decode cX4_readLoan 20 = .ok (.iconst 2, 1) := by decide +kernel
theorem dX4_readLoan_21 : decode cX4_readLoan 21 = .ok (.iaload, 1) := by decide +kernel
theorem dX4_readLoan_22 : decode cX4_readLoan 22 = .ok (.bipush 12, 2) := by decide +kernel
theorem dX4_readLoan_24 : decode cX4_readLoan 24 = .ok (.if_icmp .ge 7, 3) := by decide +kernel
theorem dX4_readLoan_27 : decode cX4_readLoan 27 = .ok (.iconst 1, 1) := by decide +kernel
theorem dX4_readLoan_28 : decode cX4_readLoan 28 = .ok (.goto 4, 3) := by decide +kernel
theorem dX4_readLoan_31 : decode cX4_readLoan 31 = .ok (.iconst 0, 1) := by decide +kernel
theorem dX4_readLoan_32 : decode cX4_readLoan 32 = .ok (.invokevirtual 125, 3) := by decide +kernel
theorem dX4_readLoan_35 : decode cX4_readLoan 35 = .ok (.aload_n 0, 1) := by decide +kernel
theorem dX4_readLoan_36 : decode cX4_readLoan 36 = .ok (.bipush (-9), 2) := by decide +kernel
theorem dX4_readLoan_38 : decode cX4_readLoan 38 = .ok (.invokevirtual 138, 3) := by decide +kernel
theorem dX4_readLoan_41 : decode cX4_readLoan 41 = .ok (.istore_n 2, 1) := by decide +kernel
theorem dX4_readLoan_42 : decode cX4_readLoan 42 = .ok (.aload_n 0, 1) := by decide +kernel
theorem dX4_readLoan_43 : decode cX4_readLoan 43 = .ok (.iload_n 2, 1) := by decide +kernel
theorem dX4_readLoan_44 : decode cX4_readLoan 44 = .ok (.invokevirtual 138, 3) := by decide +kernel
theorem dX4_readLoan_47 : decode cX4_readLoan 47 = .ok (.istore_n 3, 1) := by decide +kernel
theorem dX4_readLoan_48 : decode cX4_readLoan 48 = .ok (.aload_n 0, 1) := by decide +kernel
theorem dX4_readLoan_49 : decode cX4_readLoan 49 = .ok (.getfield 118, 3) := by decide +kernel
theorem dX4_readLoan_52 : decode cX4_readLoan 52 = .ok (.ifCond .eq 7, 3) := by decide +kernel
theorem dX4_readLoan_55 : decode cX4_readLoan 55 = .ok (.iconst 0, 1) := by decide +kernel
theorem dX4_readLoan_56 : decode cX4_readLoan 56 = .ok (.goto 15, 3) := by decide +kernel
theorem dX4_readLoan_59 : decode cX4_readLoan 59 = .ok (.aload_n 0, 1) := by decide +kernel
theorem dX4_readLoan_60 : decode cX4_readLoan 60 = .ok (.iconst 2, 1) := by decide +kernel
theorem dX4_readLoan_61 : decode cX4_readLoan 61 = .ok (.iconst 1, 1) := by decide +kernel
theorem dX4_readLoan_62 : decode cX4_readLoan 62 = .ok (.aload_n 0, 1) := by decide +kernel
theorem dX4_readLoan_63 : decode cX4_readLoan 63 = .ok (.iload_n 2, 1) := by decide +kernel
theorem dX4_readLoan_64 : decode cX4_readLoan 64 = .ok (.iconst 1, 1) := by decide +kernel
theorem dX4_readLoan_65 : decode cX4_readLoan 65 = .ok (.invokevirtual 43, 3) := by decide +kernel
theorem dX4_readLoan_68 : decode cX4_readLoan 68 = .ok (.invokevirtual 129, 3) := by decide +kernel
theorem dX4_readLoan_71 : decode cX4_readLoan 71 = .ok (.istore 4, 2) := by decide +kernel
theorem dX4_readLoan_73 : decode cX4_readLoan 73 = .ok (.aload_n 0, 1) := by decide +kernel
theorem dX4_readLoan_74 : decode cX4_readLoan 74 = .ok (.iconst 2, 1) := by decide +kernel
theorem dX4_readLoan_75 : decode cX4_readLoan 75 = .ok (.iconst 0, 1) := by decide +kernel
theorem dX4_readLoan_76 : decode cX4_readLoan 76 = .ok (.bipush 50, 2) := by decide +kernel
theorem dX4_readLoan_78 : decode cX4_readLoan 78 = .ok (.invokevirtual 129, 3) := by decide +kernel
theorem dX4_readLoan_81 : decode cX4_readLoan 81 = .ok (.istore 5, 2) := by decide +kernel
theorem dX4_readLoan_83 : decode cX4_readLoan 83 = .ok (.aload_n 0, 1) := by decide +kernel
theorem dX4_readLoan_84 : decode cX4_readLoan 84 = .ok (.getfield 118, 3) := by decide +kernel
theorem dX4_readLoan_87 : decode cX4_readLoan 87 = .ok (.ifCond .eq 4, 3) := by decide +kernel
theorem dX4_readLoan_90 : decode cX4_readLoan 90 = .ok (.return_, 1) := by decide +kernel
theorem dX4_readLoan_91 : decode cX4_readLoan 91 = .ok (.aload_n 0, 1) := by decide +kernel
theorem dX4_readLoan_92 : decode cX4_readLoan 92 = .ok (.iload 4, 2) := by decide +kernel
theorem dX4_readLoan_94 : decode cX4_readLoan 94 = .ok (.iload_n 2, 1) := by decide +kernel
theorem dX4_readLoan_95 : decode cX4_readLoan 95 = .ok (.iload_n 3, 1) := by decide +kernel
theorem dX4_readLoan_96 : decode cX4_readLoan 96 = .ok (.invokevirtual 141, 3) := by decide +kernel
theorem dX4_readLoan_99 : decode cX4_readLoan 99 = .ok (.ifCond .eq 14, 3) := by decide +kernel
theorem dX4_readLoan_102 : decode cX4_readLoan 102 = .ok (.aload_n 0, 1) := by decide +kernel
theorem dX4_readLoan_103 : decode cX4_readLoan 103 = .ok (.iconst 1, 1) := by decide +kernel
theorem dX4_readLoan_104 : decode cX4_readLoan 104 = .ok (.putfield 118, 3) := by decide +kernel
theorem dX4_readLoan_107 : decode cX4_readLoan 107 = .ok (.aload_n 0, 1) := by decide +kernel
theorem dX4_readLoan_108 : decode cX4_readLoan 108 = .ok (.iload_n 1, 1) := by decide +kernel
theorem dX4_readLoan_109 : decode cX4_readLoan 109 = .ok (.putfield 115, 3) := by decide +kernel
theorem dX4_readLoan_112 : decode cX4_readLoan 112 = .ok (.return_, 1) := by decide +kernel
theorem dX4_readLoan_113 : decode cX4_readLoan 113 = .ok (.aload_n 0, 1) := by decide +kernel
theorem dX4_readLoan_114 : decode cX4_readLoan 114 = .ok (.iload_n 2, 1) := by decide +kernel
theorem dX4_readLoan_115 : decode cX4_readLoan 115 = .ok (.iload_n 3, 1) := by decide +kernel
theorem dX4_readLoan_116 : decode cX4_readLoan 116 = .ok (.iload 4, 2) := by decide +kernel
theorem dX4_readLoan_118 : decode cX4_readLoan 118 = .ok (.iload 5, 2) := by decide +kernel
theorem dX4_readLoan_120 : decode cX4_readLoan 120 = .ok (.invokevirtual 101, 3) := by decide +kernel
theorem dX4_readLoan_123 : decode cX4_readLoan 123 = .ok (.pop, 1) := by decide +kernel
theorem dX4_readLoan_124 : decode cX4_readLoan 124 = .ok (.return_, 1) := by decide +kernel
theorem dX4_isBattery_0 : decode cX4_isBattery 0 = .ok (.iconst 0, 1) := by decide +kernel
theorem dX4_isBattery_1 : decode cX4_isBattery 1 = .ok (.istore_n 1, 1) := by decide +kernel
theorem dX4_isBattery_2 : decode cX4_isBattery 2 = .ok (.iload_n 1, 1) := by decide +kernel
theorem dX4_isBattery_3 : decode cX4_isBattery 3 = .ok (.bipush 107, 2) := by decide +kernel
theorem dX4_isBattery_5 : decode cX4_isBattery 5 = .ok (.if_icmp .ge 16, 3) := by decide +kernel
theorem dX4_isBattery_8 : decode cX4_isBattery 8 = .ok (.aload_n 0, 1) := by decide +kernel
theorem dX4_isBattery_9 : decode cX4_isBattery 9 = .ok (.getfield 7, 3) := by decide +kernel
theorem dX4_isBattery_12 : decode cX4_isBattery 12 = .ok (.iload_n 1, 1) := by decide +kernel
theorem dX4_isBattery_13 : decode cX4_isBattery 13 = .ok (.iconst 0, 1) := by decide +kernel
theorem dX4_isBattery_14 : decode cX4_isBattery 14 = .ok (.iastore, 1) := by decide +kernel
theorem dX4_isBattery_15 : decode cX4_isBattery 15 = .ok (.iinc 1 1, 3) := by decide +kernel
theorem dX4_isBattery_18 : decode cX4_isBattery 18 = .ok (.goto (-16), 3) := by decide +kernel
theorem dX4_isBattery_21 : decode cX4_isBattery 21 = .ok (.aload_n 0, 1) := by decide +kernel
theorem dX4_isBattery_22 : decode cX4_isBattery 22 = .ok (.iconst 0, 1) := by decide +kernel
theorem dX4_isBattery_23 : decode cX4_isBattery 23 = .ok (.putfield 115, 3) := by decide +kernel
theorem dX4_isBattery_26 : decode cX4_isBattery 26 = .ok (.aload_n 0, 1) := by decide +kernel
theorem dX4_isBattery_27 : decode cX4_isBattery 27 = .ok (.iconst 0, 1) := by decide +kernel
theorem dX4_isBattery_28 : decode cX4_isBattery 28 = .ok (.putfield 118, 3) := by decide +kernel
theorem dX4_isBattery_31 : decode cX4_isBattery 31 = .ok (.aload_n 0, 1) := by decide +kernel
theorem dX4_isBattery_32 : decode cX4_isBattery 32 = .ok (.aload_n 0, 1) := by decide +kernel
theorem dX4_isBattery_33 : decode cX4_isBattery 33 = .ok (.invokevirtual 122, 3) := by decide +kernel
theorem dX4_isBattery_36 : decode cX4_isBattery 36 = .ok (.bipush 66, 2) := by decide +kernel
theorem dX4_isBattery_38 : decode cX4_isBattery 38 = .ok (.if_icmp .ne 7, 3) := by decide +kernel
theorem dX4_isBattery_41 : decode cX4_isBattery 41 = .ok (.iconst 1, 1) := by decide +kernel
theorem dX4_isBattery_42 : decode cX4_isBattery 42 = .ok (.goto 4, 3) := by decide +kernel
theorem dX4_isBattery_45 : decode cX4_isBattery 45 = .ok (.iconst 0, 1) := by decide +kernel
theorem dX4_isBattery_46 : decode cX4_isBattery 46 = .ok (.invokevirtual 125, 3) := by decide +kernel
theorem dX4_isBattery_49 : decode cX4_isBattery 49 = .ok (.aload_n 0, 1) := by decide +kernel
theorem dX4_isBattery_50 : decode cX4_isBattery 50 = .ok (.getfield 118, 3) := by decide +kernel
theorem dX4_isBattery_53 : decode cX4_isBattery 53 = .ok (.ifCond .ne 54, 3) := by decide +kernel
theorem dX4_isBattery_56 : decode cX4_isBattery 56 = .ok (.aload_n 0, 1) := by decide +kernel
theorem dX4_isBattery_57 : decode cX4_isBattery 57 = .ok (.getfield 115, 3) := by decide +kernel
theorem dX4_isBattery_60 : decode cX4_isBattery 60 = .ok (.aload_n 0, 1) := by decide +kernel
theorem dX4_isBattery_61 : decode cX4_isBattery 61 = .ok (.getfield 112, 3) := by decide +kernel
theorem dX4_isBattery_64 : decode cX4_isBattery 64 = .ok (.if_icmp .ge 43, 3) := by decide +kernel
theorem dX4_isBattery_67 : decode cX4_isBattery 67 = .ok (.aload_n 0, 1) := by decide +kernel
theorem dX4_isBattery_68 : decode cX4_isBattery 68 = .ok (.invokevirtual 122, 3) := by decide +kernel
theorem dX4_isBattery_71 : decode cX4_isBattery 71 = .ok (.bipush 99, 2) := by decide +kernel
theorem dX4_isBattery_73 : decode cX4_isBattery 73 = .ok (.if_icmp .ne 10, 3) := by decide +kernel
theorem dX4_isBattery_76 : decode cX4_isBattery 76 = .ok (.aload_n 0, 1) := by decide +kernel
theorem dX4_isBattery_77 : decode cX4_isBattery 77 = .ok (.invokevirtual 144, 3) := by decide +kernel
theorem dX4_isBattery_80 : decode cX4_isBattery 80 = .ok (.goto (-31), 3) := by decide +kernel
theorem dX4_isBattery_83 : decode cX4_isBattery 83 = .ok (.aload_n 0, 1) := by decide +kernel
theorem dX4_isBattery_84 : decode cX4_isBattery 84 = .ok (.invokevirtual 122, 3) := by decide +kernel
theorem dX4_isBattery_87 : decode cX4_isBattery 87 = .ok (.bipush 108, 2) := by decide +kernel
theorem dX4_isBattery_89 : decode cX4_isBattery 89 = .ok (.if_icmp .ne 10, 3) := by decide +kernel
theorem dX4_isBattery_92 : decode cX4_isBattery 92 = .ok (.aload_n 0, 1) := by decide +kernel
theorem dX4_isBattery_93 : decode cX4_isBattery 93 = .ok (.invokevirtual 147, 3) := by decide +kernel
theorem dX4_isBattery_96 : decode cX4_isBattery 96 = .ok (.goto (-47), 3) := by decide +kernel
theorem dX4_isBattery_99 : decode cX4_isBattery 99 = .ok (.aload_n 0, 1) := by decide +kernel
theorem dX4_isBattery_100 : decode cX4_isBattery 100 = .ok (.iconst 0, 1) := by decide +kernel
theorem dX4_isBattery_101 : decode cX4_isBattery 101 = .ok (.invokevirtual 125, 3) := by decide +kernel
theorem dX4_isBattery_104 : decode cX4_isBattery 104 = .ok (.goto (-55), 3) := by decide +kernel
theorem dX4_isBattery_107 : decode cX4_isBattery 107 = .ok (.aload_n 0, 1) := by decide +kernel
theorem dX4_isBattery_108 : decode cX4_isBattery 108 = .ok (.getfield 118, 3) := by decide +kernel
theorem dX4_isBattery_111 : decode cX4_isBattery 111 = .ok (.ifCond .ne 7, 3) := by decide +kernel
theorem dX4_isBattery_114 : decode cX4_isBattery 114 = .ok (.iconst 1, 1) := by decide +kernel
theorem dX4_isBattery_115 : decode cX4_isBattery 115 = .ok (.goto 4, 3) := by decide +kernel
theorem dX4_isBattery_118 : decode cX4_isBattery 118 = .ok (.iconst 0, 1) := by decide +kernel
theorem dX4_isBattery_119 : decode cX4_isBattery 119 = .ok (.ireturn, 1) := by decide +kernel
theorem dX4_errorPosition_0 : decode cX4_errorPosition 0 = .ok (.aload_n 0, 1) := by decide +kernel
theorem dX4_errorPosition_1 : decode cX4_errorPosition 1 = .ok (.iconst 0, 1) := by decide +kernel
theorem dX4_errorPosition_2 : decode cX4_errorPosition 2 = .ok (.putfield 35, 3) := by decide +kernel
theorem dX4_errorPosition_5 : decode cX4_errorPosition 5 = .ok (.aload_n 0, 1) := by decide +kernel
theorem dX4_errorPosition_6 : decode cX4_errorPosition 6 = .ok (.invokevirtual 150, 3) := by decide +kernel
theorem dX4_errorPosition_9 : decode cX4_errorPosition 9 = .ok (.aload_n 0, 1) := by decide +kernel
theorem dX4_errorPosition_10 : decode cX4_errorPosition 10 = .ok (.invokevirtual 153, 3) := by decide +kernel
theorem dX4_errorPosition_13 : decode cX4_errorPosition 13 = .ok (.istore_n 1, 1) := by decide +kernel
theorem dX4_errorPosition_14 : decode cX4_errorPosition 14 = .ok (.aload_n 0, 1) := by decide +kernel
theorem dX4_errorPosition_15 : decode cX4_errorPosition 15 = .ok (.invokevirtual 157, 3) := by decide +kernel
theorem dX4_errorPosition_18 : decode cX4_errorPosition 18 = .ok (.iload_n 1, 1) := by decide +kernel
theorem dX4_errorPosition_19 : decode cX4_errorPosition 19 = .ok (.ifCond .eq 8, 3) := by decide +kernel
theorem dX4_errorPosition_22 : decode cX4_errorPosition 22 = .ok (.bipush (-9), 2) := by decide +kernel
theorem dX4_errorPosition_24 : decode cX4_errorPosition 24 = .ok (.goto 7, 3) := by decide +kernel
theorem dX4_errorPosition_27 : decode cX4_errorPosition 27 = .ok (.aload_n 0, 1) := by decide +kernel
theorem dX4_errorPosition_28 : decode cX4_errorPosition 28 = .ok (.getfield 115, 3) := by decide +kernel
theorem dX4_errorPosition_31 : decode cX4_errorPosition 31 = .ok (.ireturn, 1) := by decide +kernel
theorem dX4_load_0 : decode cX4_load 0 = .ok (.aload_n 0, 1) := by decide +kernel
theorem dX4_load_1 : decode cX4_load 1 = .ok (.invokevirtual 150, 3) := by decide +kernel
theorem dX4_load_4 : decode cX4_load 4 = .ok (.aload_n 0, 1) := by decide +kernel
theorem dX4_load_5 : decode cX4_load 5 = .ok (.aload_n 0, 1) := by decide +kernel
theorem dX4_load_6 : decode cX4_load 6 = .ok (.invokevirtual 153, 3) := by decide +kernel
theorem dX4_load_9 : decode cX4_load 9 = .ok (.ifCond .eq 7, 3) := by decide +kernel
theorem dX4_load_12 : decode cX4_load 12 = .ok (.iconst 0, 1) := by decide +kernel
theorem dX4_load_13 : decode cX4_load 13 = .ok (.goto 4, 3) := by decide +kernel
theorem dX4_load_16 : decode cX4_load 16 = .ok (.iconst 1, 1) := by decide +kernel
theorem dX4_load_17 : decode cX4_load 17 = .ok (.putfield 35, 3) := by decide +kernel
theorem dX4_load_20 : decode cX4_load 20 = .ok (.aload_n 0, 1) := by decide +kernel
theorem dX4_load_21 : decode cX4_load 21 = .ok (.getfield 35, 3) := by decide +kernel
theorem dX4_load_24 : decode cX4_load 24 = .ok (.ifCond .le 9, 3) := by decide +kernel
theorem dX4_load_27 : decode cX4_load 27 = .ok (.aload_n 0, 1) := by decide +kernel
theorem dX4_load_28 : decode cX4_load 28 = .ok (.invokevirtual 157, 3) := by decide +kernel
theorem dX4_load_31 : decode cX4_load 31 = .ok (.iconst 0, 1) := by decide +kernel
theorem dX4_load_32 : decode cX4_load 32 = .ok (.ireturn, 1) := by decide +kernel
theorem dX4_load_33 : decode cX4_load 33 = .ok (.aload_n 0, 1) := by decide +kernel
theorem dX4_load_34 : decode cX4_load 34 = .ok (.iconst 0, 1) := by decide +kernel
theorem dX4_load_35 : decode cX4_load 35 = .ok (.putfield 47, 3) := by decide +kernel
theorem dX4_load_38 : decode cX4_load 38 = .ok (.aload_n 0, 1) := by decide +kernel
theorem dX4_load_39 : decode cX4_load 39 = .ok (.getfield 19, 3) := by decide +kernel
theorem dX4_load_42 : decode cX4_load 42 = .ok (.iconst 0, 1) := by decide +kernel
theorem dX4_load_43 : decode cX4_load 43 = .ok (.iconst 0, 1) := by decide +kernel
theorem dX4_load_44 : decode cX4_load 44 = .ok (.bastore, 1) := by decide +kernel
theorem dX4_load_45 : decode cX4_load 45 = .ok (.aload_n 0, 1) := by decide +kernel
theorem dX4_load_46 : decode cX4_load 46 = .ok (.getfield 19, 3) := by decide +kernel
theorem dX4_load_49 : decode cX4_load 49 = .ok (.iconst 1, 1) := by decide +kernel
theorem dX4_load_50 : decode cX4_load 50 = .ok (.iconst 0, 1) := by decide +kernel
theorem dX4_load_51 : decode cX4_load 51 = .ok (.bastore, 1) := by decide +kernel
theorem dX4_load_52 : decode cX4_load 52 = .ok (.aload_n 0, 1) := by decide +kernel
theorem dX4_load_53 : decode cX4_load 53 = .ok (.getfield 7, 3) := by decide +kernel
theorem dX4_load_56 : decode cX4_load 56 = .ok (.iconst 1, 1) := by decide +kernel
theorem dX4_load_57 : decode cX4_load 57 = .ok (.iaload, 1) := by decide +kernel
theorem dX4_load_58 : decode cX4_load 58 = .ok (.ireturn, 1) := by decide +kernel
theorem dX4_bankrupts_0 : decode cX4_bankrupts 0 = .ok (.iconst 0, 1) := by decide +kernel
theorem dX4_bankrupts_1 : decode cX4_bankrupts 1 = .ok (.istore_n 1, 1) := by decide +kernel
theorem dX4_bankrupts_2 : decode cX4_bankrupts 2 = .ok (.iconst 0, 1) := by decide +kernel
theorem dX4_bankrupts_3 : decode cX4_bankrupts 3 = .ok (.istore_n 2, 1) := by decide +kernel
theorem dX4_bankrupts_4 : decode cX4_bankrupts 4 = .ok (.iload_n 2, 1) := by decide +kernel
theorem dX4_bankrupts_5 : decode cX4_bankrupts 5 = .ok (.aload_n 0, 1) := by decide +kernel
theorem dX4_bankrupts_6 : decode cX4_bankrupts 6 = .ok (.getfield 7, 3) := by decide +kernel
theorem dX4_bankrupts_9 : decode cX4_bankrupts 9 = .ok (.iconst 1, 1) := by decide +kernel
theorem dX4_bankrupts_10 : decode cX4_bankrupts 10 = .ok (.iaload, 1) := by decide +kernel
theorem dX4_bankrupts_11 : decode cX4_bankrupts 11 = .ok (.if_icmp .ge 27, 3) := by decide +kernel
theorem dX4_bankrupts_14 : decode cX4_bankrupts 14 = .ok (.iload_n 1, 1) := by decide +kernel
theorem dX4_bankrupts_15 : decode cX4_bankrupts 15 = .ok (.aload_n 0, 1) := by decide +kernel
theorem dX4_bankrupts_16 : decode cX4_bankrupts 16 = .ok (.iload_n 2, 1) := by decide +kernel
theorem dX4_bankrupts_17 : decode cX4_bankrupts 17 = .ok (.invokevirtual 84, 3) := by decide +kernel
theorem dX4_bankrupts_20 : decode cX4_bankrupts 20 = .ok (.ifCond .eq 7, 3) := by decide +kernel
theorem dX4_bankrupts_23 : decode cX4_bankrupts 23 = .ok (.iconst 0, 1) := by decide +kernel
theorem dX4_bankrupts_24 : decode cX4_bankrupts 24 = .ok (.goto 6, 3) := by decide +kernel
theorem dX4_bankrupts_27 : decode cX4_bankrupts 27 = .ok (.iconst 1, 1) := by decide +kernel
theorem dX4_bankrupts_28 : decode cX4_bankrupts 28 = .ok (.iload_n 2, 1) := by decide +kernel
theorem dX4_bankrupts_29 : decode cX4_bankrupts 29 = .ok (.ishl, 1) := by decide +kernel
theorem dX4_bankrupts_30 : decode cX4_bankrupts 30 = .ok (.ior, 1) := by decide +kernel
theorem dX4_bankrupts_31 : decode cX4_bankrupts 31 = .ok (.istore_n 1, 1) := by decide +kernel
theorem dX4_bankrupts_32 : decode cX4_bankrupts 32 = .ok (.iinc 2 1, 3) := by decide +kernel
theorem dX4_bankrupts_35 : decode cX4_bankrupts 35 = .ok (.goto (-31), 3) := by decide +kernel
theorem dX4_bankrupts_38 : decode cX4_bankrupts 38 = .ok (.iload_n 1, 1) := by decide +kernel
theorem dX4_bankrupts_39 : decode cX4_bankrupts 39 = .ok (.ireturn, 1) := by decide +kernel
theorem dX4_allOwed_0 : decode cX4_allOwed 0 = .ok (.iconst 0, 1) := by decide +kernel
theorem dX4_allOwed_1 : decode cX4_allOwed 1 = .ok (.istore_n 1, 1) := by decide +kernel
theorem dX4_allOwed_2 : decode cX4_allOwed 2 = .ok (.iconst 0, 1) := by decide +kernel
theorem dX4_allOwed_3 : decode cX4_allOwed 3 = .ok (.istore_n 2, 1) := by decide +kernel
theorem dX4_allOwed_4 : decode cX4_allOwed 4 = .ok (.iload_n 2, 1) := by decide +kernel
theorem dX4_allOwed_5 : decode cX4_allOwed 5 = .ok (.aload_n 0, 1) := by decide +kernel
theorem dX4_allOwed_6 : decode cX4_allOwed 6 = .ok (.getfield 7, 3) := by decide +kernel
theorem dX4_allOwed_9 : decode cX4_allOwed 9 = .ok (.iconst 2, 1) := by decide +kernel
theorem dX4_allOwed_10 : decode cX4_allOwed 10 = .ok (.iaload, 1) := by decide +kernel
theorem dX4_allOwed_11 : decode cX4_allOwed 11 = .ok (.if_icmp .ge 18, 3) := by decide +kernel
theorem dX4_allOwed_14 : decode cX4_allOwed 14 = .ok (.iload_n 1, 1) := by decide +kernel
theorem dX4_allOwed_15 : decode cX4_allOwed 15 = .ok (.aload_n 0, 1) := by decide +kernel
theorem dX4_allOwed_16 : decode cX4_allOwed 16 = .ok (.iload_n 2, 1) := by decide +kernel
theorem dX4_allOwed_17 : decode cX4_allOwed 17 = .ok (.iconst 2, 1) := by decide +kernel
theorem dX4_allOwed_18 : decode cX4_allOwed 18 = .ok (.invokevirtual 64, 3) := by decide +kernel
theorem dX4_allOwed_21 : decode cX4_allOwed 21 = .ok (.iadd, 1) := by decide +kernel
theorem dX4_allOwed_22 : decode cX4_allOwed 22 = .ok (.istore_n 1, 1) := by decide +kernel
theorem dX4_allOwed_23 : decode cX4_allOwed 23 = .ok (.iinc 2 1, 3) := by decide +kernel
theorem dX4_allOwed_26 : decode cX4_allOwed 26 = .ok (.goto (-22), 3) := by decide +kernel
theorem dX4_allOwed_29 : decode cX4_allOwed 29 = .ok (.iload_n 1, 1) := by decide +kernel
theorem dX4_allOwed_30 : decode cX4_allOwed 30 = .ok (.ireturn, 1) := by decide +kernel
theorem dX4_about_0 : decode cX4_about 0 = .ok (.aload_n 0, 1) := by decide +kernel
theorem dX4_about_1 : decode cX4_about 1 = .ok (.iload_n 1, 1) := by decide +kernel
theorem dX4_about_2 : decode cX4_about 2 = .ok (.iconst 0, 1) := by decide +kernel
theorem dX4_about_3 : decode cX4_about 3 = .ok (.bipush 9, 2) := by decide +kernel
theorem dX4_about_5 : decode cX4_about 5 = .ok (.invokestatic 39, 3) := by decide +kernel
theorem dX4_about_8 : decode cX4_about 8 = .ok (.ifCond .eq 7, 3) := by decide +kernel
theorem dX4_about_11 : decode cX4_about 11 = .ok (.iconst 0, 1) := by decide +kernel
theorem dX4_about_12 : decode cX4_about 12 = .ok (.goto 4, 3) := by decide +kernel
theorem dX4_about_15 : decode cX4_about 15 = .ok (.iconst 1, 1) := by decide +kernel
theorem dX4_about_16 : decode cX4_about 16 = .ok (.putfield 35, 3) := by decide +kernel
theorem dX4_about_19 : decode cX4_about 19 = .ok (.iload_n 1, 1) := by decide +kernel
theorem dX4_about_20 : decode cX4_about 20 = .ok (.tableswitch 121 0 9 #[56, 63, 70, 77, 82, 89, 96, 103, 108, 116], 56) := by decide +kernel
theorem dX4_about_76 : decode cX4_about 76 = .ok (.aload_n 0, 1) := by decide +kernel
theorem dX4_about_77 : decode cX4_about 77 = .ok (.getfield 7, 3) := by decide +kernel
theorem dX4_about_80 : decode cX4_about 80 = .ok (.iconst 1, 1) := by decide +kernel
theorem dX4_about_81 : decode cX4_about 81 = .ok (.iaload, 1) := by decide +kernel
theorem dX4_about_82 : decode cX4_about 82 = .ok (.ireturn, 1) := by decide +kernel
theorem dX4_about_83 : decode cX4_about 83 = .ok (.aload_n 0, 1) := by decide +kernel
theorem dX4_about_84 : decode cX4_about 84 = .ok (.getfield 7, 3) := by decide +kernel
theorem dX4_about_87 : decode cX4_about 87 = .ok (.iconst 2, 1) := by decide +kernel
theorem dX4_about_88 : decode cX4_about 88 = .ok (.iaload, 1) := by decide +kernel
theorem dX4_about_89 : decode cX4_about 89 = .ok (.ireturn, 1) := by decide +kernel
theorem dX4_about_90 : decode cX4_about 90 = .ok (.aload_n 0, 1) := by decide +kernel
theorem dX4_about_91 : decode cX4_about 91 = .ok (.getfield 7, 3) := by decide +kernel
theorem dX4_about_94 : decode cX4_about 94 = .ok (.iconst 0, 1) := by decide +kernel
theorem dX4_about_95 : decode cX4_about 95 = .ok (.iaload, 1) := by decide +kernel
theorem dX4_about_96 : decode cX4_about 96 = .ok (.ireturn, 1) := by decide +kernel
theorem dX4_about_97 : decode cX4_about 97 = .ok (.aload_n 0, 1) := by decide +kernel
theorem dX4_about_98 : decode cX4_about 98 = .ok (.invokevirtual 160, 3) := by decide +kernel
theorem dX4_about_101 : decode cX4_about 101 = .ok (.ireturn, 1) := by decide +kernel
theorem dX4_about_102 : decode cX4_about 102 = .ok (.aload_n 0, 1) := by decide +kernel
theorem dX4_about_103 : decode cX4_about 103 = .ok (.getfield 7, 3) := by decide +kernel
theorem dX4_about_106 : decode cX4_about 106 = .ok (.iconst 3, 1) := by decide +kernel
theorem dX4_about_107 : decode cX4_about 107 = .ok (.iaload, 1) := by decide +kernel
theorem dX4_about_108 : decode cX4_about 108 = .ok (.ireturn, 1) := by decide +kernel
theorem dX4_about_109 : decode cX4_about 109 = .ok (.aload_n 0, 1) := by decide +kernel
theorem dX4_about_110 : decode cX4_about 110 = .ok (.getfield 7, 3) := by decide +kernel
theorem dX4_about_113 : decode cX4_about 113 = .ok (.iconst 4, 1) := by decide +kernel
theorem dX4_about_114 : decode cX4_about 114 = .ok (.iaload, 1) := by decide +kernel
theorem dX4_about_115 : decode cX4_about 115 = .ok (.ireturn, 1) := by decide +kernel
theorem dX4_about_116 : decode cX4_about 116 = .ok (.aload_n 0, 1) := by decide +kernel
theorem dX4_about_117 : decode cX4_about 117 = .ok (.getfield 7, 3) := by decide +kernel
theorem dX4_about_120 : decode cX4_about 120 = .ok (.iconst 5, 1) := by decide +kernel
theorem dX4_about_121 : decode cX4_about 121 = .ok (.iaload, 1) := by decide +kernel
theorem dX4_about_122 : decode cX4_about 122 = .ok (.ireturn, 1) := by decide +kernel
theorem dX4_about_123 : decode cX4_about 123 = .ok (.aload_n 0, 1) := by decide +kernel
theorem dX4_about_124 : decode cX4_about 124 = .ok (.invokevirtual 163, 3) := by decide +kernel
theorem dX4_about_127 : decode cX4_about 127 = .ok (.ireturn, 1) := by decide +kernel
theorem dX4_about_128 : decode cX4_about 128 = .ok (.aload_n 0, 1) := by decide +kernel
theorem dX4_about_129 : decode cX4_about 129 = .ok (.getfield 7, 3) := by decide +kernel
theorem dX4_about_132 : decode cX4_about 132 = .ok (.bipush 6, 2) := by decide +kernel
theorem dX4_about_134 : decode cX4_about 134 = .ok (.iaload, 1) := by decide +kernel
theorem dX4_about_135 : decode cX4_about 135 = .ok (.ireturn, 1) := by decide +kernel
theorem dX4_about_136 : decode cX4_about 136 = .ok (.aload_n 0, 1) := by decide +kernel
theorem dX4_about_137 : decode cX4_about 137 = .ok (.invokevirtual 166, 3) := by decide +kernel
theorem dX4_about_140 : decode cX4_about 140 = .ok (.ireturn, 1) := by decide +kernel
theorem dX4_about_141 : decode cX4_about 141 = .ok (.iconst 0, 1) := by decide +kernel
theorem dX4_about_142 : decode cX4_about 142 = .ok (.ireturn, 1) := by decide +kernel
theorem dX4_interestOf_0 : decode cX4_interestOf 0 = .ok (.iconst 0, 1) := by decide +kernel
theorem dX4_interestOf_1 : decode cX4_interestOf 1 = .ok (.istore_n 2, 1) := by decide +kernel
theorem dX4_interestOf_2 : decode cX4_interestOf 2 = .ok (.iconst 0, 1) := by decide +kernel
theorem dX4_interestOf_3 : decode cX4_interestOf 3 = .ok (.istore_n 3, 1) := by decide +kernel
theorem dX4_interestOf_4 : decode cX4_interestOf 4 = .ok (.iload_n 3, 1) := by decide +kernel
theorem dX4_interestOf_5 : decode cX4_interestOf 5 = .ok (.aload_n 0, 1) := by decide +kernel
theorem dX4_interestOf_6 : decode cX4_interestOf 6 = .ok (.getfield 7, 3) := by decide +kernel
theorem dX4_interestOf_9 : decode cX4_interestOf 9 = .ok (.iconst 2, 1) := by decide +kernel
theorem dX4_interestOf_10 : decode cX4_interestOf 10 = .ok (.iaload, 1) := by decide +kernel
theorem dX4_interestOf_11 : decode cX4_interestOf 11 = .ok (.if_icmp .ge 31, 3) := by decide +kernel
theorem dX4_interestOf_14 : decode cX4_interestOf 14 = .ok (.iload_n 2, 1) := by decide +kernel
theorem dX4_interestOf_15 : decode cX4_interestOf 15 = .ok (.aload_n 0, 1) := by decide +kernel
theorem dX4_interestOf_16 : decode cX4_interestOf 16 = .ok (.iload_n 3, 1) := by decide +kernel
theorem dX4_interestOf_17 : decode cX4_interestOf 17 = .ok (.iconst 1, 1) := by decide +kernel
theorem dX4_interestOf_18 : decode cX4_interestOf 18 = .ok (.invokevirtual 64, 3) := by decide +kernel
theorem dX4_interestOf_21 : decode cX4_interestOf 21 = .ok (.iload_n 1, 1) := by decide +kernel
theorem dX4_interestOf_22 : decode cX4_interestOf 22 = .ok (.if_icmp .ne 11, 3) := by decide +kernel
theorem dX4_interestOf_25 : decode cX4_interestOf 25 = .ok (.aload_n 0, 1) := by decide +kernel
theorem dX4_interestOf_26 : decode cX4_interestOf 26 = .ok (.iload_n 3, 1) := by decide +kernel
theorem dX4_interestOf_27 : decode cX4_interestOf 27 = .ok (.invokevirtual 67, 3) := by decide +kernel
theorem dX4_interestOf_30 : decode cX4_interestOf 30 = .ok (.goto 4, 3) := by decide +kernel
theorem dX4_interestOf_33 : decode cX4_interestOf 33 = .ok (.iconst 0, 1) := by decide +kernel
theorem dX4_interestOf_34 : decode cX4_interestOf 34 = .ok (.iadd, 1) := by decide +kernel
theorem dX4_interestOf_35 : decode cX4_interestOf 35 = .ok (.istore_n 2, 1) := by decide +kernel
theorem dX4_interestOf_36 : decode cX4_interestOf 36 = .ok (.iinc 3 1, 3) := by decide +kernel
theorem dX4_interestOf_39 : decode cX4_interestOf 39 = .ok (.goto (-35), 3) := by decide +kernel
theorem dX4_interestOf_42 : decode cX4_interestOf 42 = .ok (.iload_n 2, 1) := by decide +kernel
theorem dX4_interestOf_43 : decode cX4_interestOf 43 = .ok (.ireturn, 1) := by decide +kernel
theorem dX4_kindOf_0 : decode cX4_kindOf 0 = .ok (.aload_n 0, 1) := by decide +kernel
theorem dX4_kindOf_1 : decode cX4_kindOf 1 = .ok (.iload_n 1, 1) := by decide +kernel
theorem dX4_kindOf_2 : decode cX4_kindOf 2 = .ok (.invokevirtual 84, 3) := by decide +kernel
theorem dX4_kindOf_5 : decode cX4_kindOf 5 = .ok (.ifCond .ne 7, 3) := by decide +kernel
theorem dX4_kindOf_8 : decode cX4_kindOf 8 = .ok (.iconst 3, 1) := by decide +kernel
theorem dX4_kindOf_9 : decode cX4_kindOf 9 = .ok (.goto 30, 3) := by decide +kernel
theorem dX4_kindOf_12 : decode cX4_kindOf 12 = .ok (.aload_n 0, 1) := by decide +kernel
theorem dX4_kindOf_13 : decode cX4_kindOf 13 = .ok (.iload_n 1, 1) := by decide +kernel
theorem dX4_kindOf_14 : decode cX4_kindOf 14 = .ok (.iconst 3, 1) := by decide +kernel
theorem dX4_kindOf_15 : decode cX4_kindOf 15 = .ok (.invokevirtual 43, 3) := by decide +kernel
theorem dX4_kindOf_18 : decode cX4_kindOf 18 = .ok (.ifCond .le 7, 3) := by decide +kernel
theorem dX4_kindOf_21 : decode cX4_kindOf 21 = .ok (.iconst 2, 1) := by decide +kernel
theorem dX4_kindOf_22 : decode cX4_kindOf 22 = .ok (.goto 17, 3) := by decide +kernel
theorem dX4_kindOf_25 : decode cX4_kindOf 25 = .ok (.aload_n 0, 1) := by decide +kernel
theorem dX4_kindOf_26 : decode cX4_kindOf 26 = .ok (.iload_n 1, 1) := by decide +kernel
theorem dX4_kindOf_27 : decode cX4_kindOf 27 = .ok (.iconst 1, 1) := by decide +kernel
theorem dX4_kindOf_28 : decode cX4_kindOf 28 = .ok (.invokevirtual 74, 3) := by decide +kernel
theorem dX4_kindOf_31 : decode cX4_kindOf 31 = .ok (.ifCond .le 7, 3) := by decide +kernel
theorem dX4_kindOf_34 : decode cX4_kindOf 34 = .ok (.iconst 1, 1) := by decide +kernel
theorem dX4_kindOf_35 : decode cX4_kindOf 35 = .ok (.goto 4, 3) := by decide +kernel
theorem dX4_kindOf_38 : decode cX4_kindOf 38 = .ok (.iconst 0, 1) := by decide +kernel
theorem dX4_kindOf_39 : decode cX4_kindOf 39 = .ok (.ireturn, 1) := by decide +kernel
theorem dX4_cell_0 : decode cX4_cell 0 = .ok (.aload_n 0, 1) := by decide +kernel
theorem dX4_cell_1 : decode cX4_cell 1 = .ok (.aload_n 0, 1) := by decide +kernel
theorem dX4_cell_2 : decode cX4_cell 2 = .ok (.iload_n 1, 1) := by decide +kernel
theorem dX4_cell_3 : decode cX4_cell 3 = .ok (.invokevirtual 135, 3) := by decide +kernel
theorem dX4_cell_6 : decode cX4_cell 6 = .ok (.ifCond .ne 7, 3) := by decide +kernel
theorem dX4_cell_9 : decode cX4_cell 9 = .ok (.iconst 1, 1) := by decide +kernel
theorem dX4_cell_10 : decode cX4_cell 10 = .ok (.goto 18, 3) := by decide +kernel
theorem dX4_cell_13 : decode cX4_cell 13 = .ok (.iload_n 2, 1) := by decide +kernel
theorem dX4_cell_14 : decode cX4_cell 14 = .ok (.iconst 0, 1) := by decide +kernel
theorem dX4_cell_15 : decode cX4_cell 15 = .ok (.bipush 7, 2) := by decide +kernel
theorem dX4_cell_17 : decode cX4_cell 17 = .ok (.invokestatic 39, 3) := by decide +kernel
theorem dX4_cell_20 : decode cX4_cell 20 = .ok (.ifCond .ne 7, 3) := by decide +kernel
theorem dX4_cell_23 : decode cX4_cell 23 = .ok (.iconst 2, 1) := by decide +kernel
theorem dX4_cell_24 : decode cX4_cell 24 = .ok (.goto 4, 3) := by decide +kernel
theorem dX4_cell_27 : decode cX4_cell 27 = .ok (.iconst 0, 1) := by decide +kernel
theorem dX4_cell_28 : decode cX4_cell 28 = .ok (.putfield 35, 3) := by decide +kernel
theorem dX4_cell_31 : decode cX4_cell 31 = .ok (.aload_n 0, 1) := by decide +kernel
theorem dX4_cell_32 : decode cX4_cell 32 = .ok (.getfield 35, 3) := by decide +kernel
theorem dX4_cell_35 : decode cX4_cell 35 = .ok (.ifCond .le 5, 3) := by decide +kernel
theorem dX4_cell_38 : decode cX4_cell 38 = .ok (.iconst 0, 1) := by decide +kernel
theorem dX4_cell_39 : decode cX4_cell 39 = .ok (.ireturn, 1) := by decide +kernel
theorem dX4_cell_40 : decode cX4_cell 40 = .ok (.iload_n 2, 1) := by decide +kernel
theorem dX4_cell_41 : decode cX4_cell 41 = .ok (.tableswitch 57 4 7 #[31, 38, 45, 51], 31) := by decide +kernel
theorem dX4_cell_72 : decode cX4_cell 72 = .ok (.aload_n 0, 1) := by decide +kernel
theorem dX4_cell_73 : decode cX4_cell 73 = .ok (.iload_n 1, 1) := by decide +kernel
theorem dX4_cell_74 : decode cX4_cell 74 = .ok (.iconst 1, 1) := by decide +kernel
theorem dX4_cell_75 : decode cX4_cell 75 = .ok (.invokevirtual 74, 3) := by decide +kernel
theorem dX4_cell_78 : decode cX4_cell 78 = .ok (.ireturn, 1) := by decide +kernel
theorem dX4_cell_79 : decode cX4_cell 79 = .ok (.aload_n 0, 1) := by decide +kernel
theorem dX4_cell_80 : decode cX4_cell 80 = .ok (.iload_n 1, 1) := by decide +kernel
theorem dX4_cell_81 : decode cX4_cell 81 = .ok (.iconst 0, 1) := by decide +kernel
theorem dX4_cell_82 : decode cX4_cell 82 = .ok (.invokevirtual 74, 3) := by decide +kernel
theorem dX4_cell_85 : decode cX4_cell 85 = .ok (.ireturn, 1) := by decide +kernel
theorem dX4_cell_86 : decode cX4_cell 86 = .ok (.aload_n 0, 1) := by decide +kernel
theorem dX4_cell_87 : decode cX4_cell 87 = .ok (.iload_n 1, 1) := by decide +kernel
theorem dX4_cell_88 : decode cX4_cell 88 = .ok (.invokevirtual 169, 3) := by decide +kernel
theorem dX4_cell_91 : decode cX4_cell 91 = .ok (.ireturn, 1) := by decide +kernel
theorem dX4_cell_92 : decode cX4_cell 92 = .ok (.aload_n 0, 1) := by decide +kernel
theorem dX4_cell_93 : decode cX4_cell 93 = .ok (.iload_n 1, 1) := by decide +kernel
theorem dX4_cell_94 : decode cX4_cell 94 = .ok (.invokevirtual 172, 3) := by decide +kernel
theorem dX4_cell_97 : decode cX4_cell 97 = .ok (.ireturn, 1) := by decide +kernel
theorem dX4_cell_98 : decode cX4_cell 98 = .ok (.aload_n 0, 1) := by decide +kernel
theorem dX4_cell_99 : decode cX4_cell 99 = .ok (.iload_n 1, 1) := by decide +kernel
theorem dX4_cell_100 : decode cX4_cell 100 = .ok (.iload_n 2, 1) := by decide +kernel
theorem dX4_cell_101 : decode cX4_cell 101 = .ok (.invokevirtual 43, 3) := by decide +kernel
theorem dX4_cell_104 : decode cX4_cell 104 = .ok (.ireturn, 1) := by decide +kernel
theorem dX4_loan_0 : decode cX4_loan 0 = .ok (.aload_n 0, 1) := by decide +kernel
theorem dX4_loan_1 : decode cX4_loan 1 = .ok (.aload_n 0, 1) := by decide +kernel
theorem dX4_loan_2 : decode cX4_loan 2 = .ok (.iload_n 1, 1) := by decide +kernel
theorem dX4_loan_3 : decode cX4_loan 3 = .ok (.invokevirtual 175, 3) := by decide +kernel
theorem dX4_loan_6 : decode cX4_loan 6 = .ok (.ifCond .ne 7, 3) := by decide +kernel
theorem dX4_loan_9 : decode cX4_loan 9 = .ok (.iconst 1, 1) := by decide +kernel
theorem dX4_loan_10 : decode cX4_loan 10 = .ok (.goto 17, 3) := by decide +kernel
theorem dX4_loan_13 : decode cX4_loan 13 = .ok (.iload_n 2, 1) := by decide +kernel
theorem dX4_loan_14 : decode cX4_loan 14 = .ok (.iconst 0, 1) := by decide +kernel
theorem dX4_loan_15 : decode cX4_loan 15 = .ok (.iconst 5, 1) := by decide +kernel
theorem dX4_loan_16 : decode cX4_loan 16 = .ok (.invokestatic 39, 3) := by decide +kernel
theorem dX4_loan_19 : decode cX4_loan 19 = .ok (.ifCond .ne 7, 3) := by decide +kernel
theorem dX4_loan_22 : decode cX4_loan 22 = .ok (.iconst 2, 1) := by decide +kernel
theorem dX4_loan_23 : decode cX4_loan 23 = .ok (.goto 4, 3) := by decide +kernel
theorem dX4_loan_26 : decode cX4_loan 26 = .ok (.iconst 0, 1) := by decide +kernel
theorem dX4_loan_27 : decode cX4_loan 27 = .ok (.putfield 35, 3) := by decide +kernel
theorem dX4_loan_30 : decode cX4_loan 30 = .ok (.aload_n 0, 1) := by decide +kernel
theorem dX4_loan_31 : decode cX4_loan 31 = .ok (.getfield 35, 3) := by decide +kernel
theorem dX4_loan_34 : decode cX4_loan 34 = .ok (.ifCond .le 5, 3) := by decide +kernel
theorem dX4_loan_37 : decode cX4_loan 37 = .ok (.iconst 0, 1) := by decide +kernel
theorem dX4_loan_38 : decode cX4_loan 38 = .ok (.ireturn, 1) := by decide +kernel
theorem dX4_loan_39 : decode cX4_loan 39 = .ok (.iload_n 2, 1) := by decide +kernel
theorem dX4_loan_40 : decode cX4_loan 40 = .ok (.iconst 4, 1) := by decide +kernel
theorem dX4_loan_41 : decode cX4_loan 41 = .ok (.if_icmp .ge 12, 3) := by decide +kernel
theorem dX4_loan_44 : decode cX4_loan 44 = .ok (.aload_n 0, 1) := by decide +kernel
theorem dX4_loan_45 : decode cX4_loan 45 = .ok (.iload_n 1, 1) := by decide +kernel
theorem dX4_loan_46 : decode cX4_loan 46 = .ok (.iload_n 2, 1) := by decide +kernel
theorem dX4_loan_47 : decode cX4_loan 47 = .ok (.invokevirtual 64, 3) := by decide +kernel
theorem dX4_loan_50 : decode cX4_loan 50 = .ok (.goto 22, 3) := by decide +kernel
theorem dX4_loan_53 : decode cX4_loan 53 = .ok (.iload_n 2, 1) := by decide +kernel
theorem dX4_loan_54 : decode cX4_loan 54 = .ok (.iconst 4, 1) := by decide +kernel
theorem dX4_loan_55 : decode cX4_loan 55 = .ok (.if_icmp .ne 11, 3) := by decide +kernel
theorem dX4_loan_58 : decode cX4_loan 58 = .ok (.aload_n 0, 1) := by decide +kernel
theorem dX4_loan_59 : decode cX4_loan 59 = .ok (.iload_n 1, 1) := by decide +kernel
theorem dX4_loan_60 : decode cX4_loan 60 = .ok (.invokevirtual 67, 3) := by decide +kernel
theorem dX4_loan_63 : decode cX4_loan 63 = .ok (.goto 9, 3) := by decide +kernel
theorem dX4_loan_66 : decode cX4_loan 66 = .ok (.aload_n 0, 1) := by decide +kernel
theorem dX4_loan_67 : decode cX4_loan 67 = .ok (.iload_n 1, 1) := by decide +kernel
theorem dX4_loan_68 : decode cX4_loan 68 = .ok (.iconst 4, 1) := by decide +kernel
theorem dX4_loan_69 : decode cX4_loan 69 = .ok (.invokevirtual 64, 3) := by decide +kernel
theorem dX4_loan_72 : decode cX4_loan 72 = .ok (.ireturn, 1) := by decide +kernel
theorem dX4_order_0 : decode cX4_order 0 = .ok (.aload_n 0, 1) := by decide +kernel
theorem dX4_order_1 : decode cX4_order 1 = .ok (.iload_n 1, 1) := by decide +kernel
theorem dX4_order_2 : decode cX4_order 2 = .ok (.ifCond .ge 7, 3) := by decide +kernel
theorem dX4_order_5 : decode cX4_order 5 = .ok (.iconst 1, 1) := by decide +kernel
theorem dX4_order_6 : decode cX4_order 6 = .ok (.goto 4, 3) := by decide +kernel
theorem dX4_order_9 : decode cX4_order 9 = .ok (.iconst 0, 1) := by decide +kernel
theorem dX4_order_10 : decode cX4_order 10 = .ok (.putfield 35, 3) := by decide +kernel
theorem dX4_order_13 : decode cX4_order 13 = .ok (.aload_n 0, 1) := by decide +kernel
theorem dX4_order_14 : decode cX4_order 14 = .ok (.getfield 35, 3) := by decide +kernel
theorem dX4_order_17 : decode cX4_order 17 = .ok (.ifCond .le 5, 3) := by decide +kernel
theorem dX4_order_20 : decode cX4_order 20 = .ok (.iconst 0, 1) := by decide +kernel
theorem dX4_order_21 : decode cX4_order 21 = .ok (.ireturn, 1) := by decide +kernel
theorem dX4_order_22 : decode cX4_order 22 = .ok (.iconst 0, 1) := by decide +kernel
theorem dX4_order_23 : decode cX4_order 23 = .ok (.istore_n 2, 1) := by decide +kernel
theorem dX4_order_24 : decode cX4_order 24 = .ok (.iload_n 2, 1) := by decide +kernel
theorem dX4_order_25 : decode cX4_order 25 = .ok (.aload_n 0, 1) := by decide +kernel
theorem dX4_order_26 : decode cX4_order 26 = .ok (.getfield 7, 3) := by decide +kernel
theorem dX4_order_29 : decode cX4_order 29 = .ok (.iconst 1, 1) := by decide +kernel
theorem dX4_order_30 : decode cX4_order 30 = .ok (.iaload, 1) := by decide +kernel
theorem dX4_order_31 : decode cX4_order 31 = .ok (.if_icmp .ge 101, 3) := by decide +kernel
theorem dX4_order_34 : decode cX4_order 34 = .ok (.iconst 0, 1) := by decide +kernel
theorem dX4_order_35 : decode cX4_order 35 = .ok (.istore_n 3, 1) := by decide +kernel
theorem dX4_order_36 : decode cX4_order 36 = .ok (.iconst 0, 1) := by decide +kernel
theorem dX4_order_37 : decode cX4_order 37 = .ok (.istore 4, 2) := by decide +kernel
theorem dX4_order_39 : decode cX4_order 39 = .ok (.iload 4, 2) := by decide +kernel
theorem dX4_order_41 : decode cX4_order 41 = .ok (.aload_n 0, 1) := by decide +kernel
theorem dX4_order_42 : decode cX4_order 42 = .ok (.getfield 7, 3) := by decide +kernel
theorem dX4_order_45 : decode cX4_order 45 = .ok (.iconst 1, 1) := by decide +kernel
theorem dX4_order_46 : decode cX4_order 46 = .ok (.iaload, 1) := by decide +kernel
theorem dX4_order_47 : decode cX4_order 47 = .ok (.if_icmp .ge 64, 3) := by decide +kernel
theorem dX4_order_50 : decode cX4_order 50 = .ok (.iload_n 3, 1) := by decide +kernel
theorem dX4_order_51 : decode cX4_order 51 = .ok (.aload_n 0, 1) := by decide +kernel
theorem dX4_order_52 : decode cX4_order 52 = .ok (.iload 4, 2) := by decide +kernel
theorem dX4_order_54 : decode cX4_order 54 = .ok (.invokevirtual 84, 3) := by decide +kernel
theorem dX4_order_57 : decode cX4_order 57 = .ok (.ifCond .eq 45, 3) := by decide +kernel
theorem dX4_order_60 : decode cX4_order 60 = .ok (.aload_n 0, 1) := by decide +kernel
theorem dX4_order_61 : decode cX4_order 61 = .ok (.iload 4, 2) := by decide +kernel
theorem dX4_order_63 : decode cX4_order 63 = .ok (.iconst 1, 1) := by decide +kernel
theorem dX4_order_64 : decode cX4_order 64 = .ok (.invokevirtual 43, 3) := by decide +kernel
theorem dX4_order_67 : decode cX4_order 67 = .ok (.aload_n 0, 1) := by decide +kernel
theorem dX4_order_68 : decode cX4_order 68 = .ok (.iload_n 2, 1) := by decide +kernel
theorem dX4_order_69 : decode cX4_order 69 = .ok (.iconst 1, 1) := by decide +kernel
theorem dX4_order_70 : decode cX4_order 70 = .ok (.invokevirtual 43, 3) := by decide +kernel
theorem dX4_order_73 : decode cX4_order 73 = .ok (.if_icmp .gt 25, 3) := by decide +kernel
theorem dX4_order_76 : decode cX4_order 76 = .ok (.aload_n 0, 1) := by decide +kernel
theorem dX4_order_77 : decode cX4_order 77 = .ok (.iload 4, 2) := by decide +kernel
theorem dX4_order_79 : decode cX4_order 79 = .ok (.iconst 1, 1) := by decide +kernel
theorem dX4_order_80 : decode cX4_order 80 = .ok (.invokevirtual 43, 3) := by decide +kernel
theorem dX4_order_83 : decode cX4_order 83 = .ok (.aload_n 0, 1) := by decide +kernel
theorem dX4_order_84 : decode cX4_order 84 = .ok (.iload_n 2, 1) := by decide +kernel
theorem dX4_order_85 : decode cX4_order 85 = .ok (.iconst 1, 1) := by decide +kernel
theorem dX4_order_86 : decode cX4_order 86 = .ok (.invokevirtual 43, 3) := by decide +kernel
theorem dX4_order_89 : decode cX4_order 89 = .ok (.if_icmp .ne 13, 3) := by decide +kernel
theorem dX4_order_92 : decode cX4_order 92 = .ok (.iload 4, 2) := by decide +kernel
theorem dX4_order_94 : decode cX4_order 94 = .ok (.iload_n 2, 1) := by decide +kernel
theorem dX4_order_95 : decode cX4_order 95 = .ok (.if_icmp .ge 7, 3) := by decide +kernel
theorem dX4_order_98 : decode cX4_order 98 = .ok (.iconst 1, 1) := by decide +kernel
theorem dX4_order_99 : decode cX4_order 99 = .ok (.goto 4, 3) := by decide +kernel
theorem dX4_order_102 : decode cX4_order 102 = .ok (.iconst 0, 1) := by decide +kernel
theorem dX4_order_103 : decode cX4_order 103 = .ok (.iadd, 1) := by decide +kernel
theorem dX4_order_104 : decode cX4_order 104 = .ok (.istore_n 3, 1) := by decide +kernel
theorem dX4_order_105 : decode cX4_order 105 = .ok (.iinc 4 1, 3) := by decide +kernel
theorem dX4_order_108 : decode cX4_order 108 = .ok (.goto (-69), 3) := by decide +kernel
theorem dX4_order_111 : decode cX4_order 111 = .ok (.aload_n 0, 1) := by decide +kernel
theorem dX4_order_112 : decode cX4_order 112 = .ok (.iload_n 2, 1) := by decide +kernel
theorem dX4_order_113 : decode cX4_order 113 = .ok (.invokevirtual 84, 3) := by decide +kernel
theorem dX4_order_116 : decode cX4_order 116 = .ok (.ifCond .eq 10, 3) := by decide +kernel
theorem dX4_order_119 : decode cX4_order 119 = .ok (.iload_n 3, 1) := by decide +kernel
theorem dX4_order_120 : decode cX4_order 120 = .ok (.iload_n 1, 1) := by decide +kernel
theorem dX4_order_121 : decode cX4_order 121 = .ok (.if_icmp .ne 5, 3) := by decide +kernel
theorem dX4_order_124 : decode cX4_order 124 = .ok (.iload_n 2, 1) := by decide +kernel
theorem dX4_order_125 : decode cX4_order 125 = .ok (.ireturn, 1) := by decide +kernel
theorem dX4_order_126 : decode cX4_order 126 = .ok (.iinc 2 1, 3) := by decide +kernel
theorem dX4_order_129 : decode cX4_order 129 = .ok (.goto (-105), 3) := by decide +kernel
theorem dX4_order_132 : decode cX4_order 132 = .ok (.bipush (-9), 2) := by decide +kernel
theorem dX4_order_134 : decode cX4_order 134 = .ok (.ireturn, 1) := by decide +kernel
theorem dX4_addCell_0 : decode cX4_addCell 0 = .ok (.aload_n 0, 1) := by decide +kernel
theorem dX4_addCell_1 : decode cX4_addCell 1 = .ok (.iload_n 1, 1) := by decide +kernel
theorem dX4_addCell_2 : decode cX4_addCell 2 = .ok (.bipush 10, 2) := by decide +kernel
theorem dX4_addCell_4 : decode cX4_addCell 4 = .ok (.bipush 99, 2) := by decide +kernel
theorem dX4_addCell_6 : decode cX4_addCell 6 = .ok (.invokestatic 39, 3) := by decide +kernel
theorem dX4_addCell_9 : decode cX4_addCell 9 = .ok (.ifCond .eq 21, 3) := by decide +kernel
theorem dX4_addCell_12 : decode cX4_addCell 12 = .ok (.iload_n 2, 1) := by decide +kernel
theorem dX4_addCell_13 : decode cX4_addCell 13 = .ok (.iconst 0, 1) := by decide +kernel
theorem dX4_addCell_14 : decode cX4_addCell 14 = .ok (.iload_n 1, 1) := by decide +kernel
theorem dX4_addCell_15 : decode cX4_addCell 15 = .ok (.invokestatic 39, 3) := by decide +kernel
theorem dX4_addCell_18 : decode cX4_addCell 18 = .ok (.ifCond .eq 12, 3) := by decide +kernel
theorem dX4_addCell_21 : decode cX4_addCell 21 = .ok (.iload_n 3, 1) := by decide +kernel
theorem dX4_addCell_22 : decode cX4_addCell 22 = .ok (.iconst 0, 1) := by decide +kernel
theorem dX4_addCell_23 : decode cX4_addCell 23 = .ok (.iconst 3, 1) := by decide +kernel
theorem dX4_addCell_24 : decode cX4_addCell 24 = .ok (.invokestatic 39, 3) := by decide +kernel
theorem dX4_addCell_27 : decode cX4_addCell 27 = .ok (.ifCond .ne 7, 3) := by decide +kernel
theorem dX4_addCell_30 : decode cX4_addCell 30 = .ok (.iconst 1, 1) := by decide +kernel
theorem dX4_addCell_31 : decode cX4_addCell 31 = .ok (.goto 19, 3) := by decide +kernel
theorem dX4_addCell_34 : decode cX4_addCell 34 = .ok (.aload_n 0, 1) := by decide +kernel
theorem dX4_addCell_35 : decode cX4_addCell 35 = .ok (.getfield 7, 3) := by decide +kernel
theorem dX4_addCell_38 : decode cX4_addCell 38 = .ok (.iconst 1, 1) := by decide +kernel
theorem dX4_addCell_39 : decode cX4_addCell 39 = .ok (.iaload, 1) := by decide +kernel
theorem dX4_addCell_40 : decode cX4_addCell 40 = .ok (.bipush 8, 2) := by decide +kernel
theorem dX4_addCell_42 : decode cX4_addCell 42 = .ok (.if_icmp .ne 7, 3) := by decide +kernel
theorem dX4_addCell_45 : decode cX4_addCell 45 = .ok (.iconst 2, 1) := by decide +kernel
theorem dX4_addCell_46 : decode cX4_addCell 46 = .ok (.goto 4, 3) := by decide +kernel
theorem dX4_addCell_49 : decode cX4_addCell 49 = .ok (.iconst 0, 1) := by decide +kernel
theorem dX4_addCell_50 : decode cX4_addCell 50 = .ok (.putfield 35, 3) := by decide +kernel
theorem dX4_addCell_53 : decode cX4_addCell 53 = .ok (.aload_n 0, 1) := by decide +kernel
theorem dX4_addCell_54 : decode cX4_addCell 54 = .ok (.getfield 35, 3) := by decide +kernel
theorem dX4_addCell_57 : decode cX4_addCell 57 = .ok (.ifCond .le 5, 3) := by decide +kernel
theorem dX4_addCell_60 : decode cX4_addCell 60 = .ok (.iconst 0, 1) := by decide +kernel
theorem dX4_addCell_61 : decode cX4_addCell 61 = .ok (.ireturn, 1) := by decide +kernel
theorem dX4_addCell_62 : decode cX4_addCell 62 = .ok (.aload_n 0, 1) := by decide +kernel
theorem dX4_addCell_63 : decode cX4_addCell 63 = .ok (.invokevirtual 178, 3) := by decide +kernel
theorem dX4_addCell_66 : decode cX4_addCell 66 = .ok (.aload_n 0, 1) := by decide +kernel
theorem dX4_addCell_67 : decode cX4_addCell 67 = .ok (.iload_n 1, 1) := by decide +kernel
theorem dX4_addCell_68 : decode cX4_addCell 68 = .ok (.iload_n 2, 1) := by decide +kernel
theorem dX4_addCell_69 : decode cX4_addCell 69 = .ok (.iload_n 3, 1) := by decide +kernel
theorem dX4_addCell_70 : decode cX4_addCell 70 = .ok (.invokevirtual 132, 3) := by decide +kernel
theorem dX4_addCell_73 : decode cX4_addCell 73 = .ok (.ireturn, 1) := by decide +kernel
theorem dX4_whyNoLend_0 : decode cX4_whyNoLend 0 = .ok (.aload_n 0, 1) := by decide +kernel
theorem dX4_whyNoLend_1 : decode cX4_whyNoLend 1 = .ok (.iload_n 1, 1) := by decide +kernel
theorem dX4_whyNoLend_2 : decode cX4_whyNoLend 2 = .ok (.invokevirtual 135, 3) := by decide +kernel
theorem dX4_whyNoLend_5 : decode cX4_whyNoLend 5 = .ok (.ifCond .eq 11, 3) := by decide +kernel
theorem dX4_whyNoLend_8 : decode cX4_whyNoLend 8 = .ok (.aload_n 0, 1) := by decide +kernel
theorem dX4_whyNoLend_9 : decode cX4_whyNoLend 9 = .ok (.iload_n 2, 1) := by decide +kernel
theorem dX4_whyNoLend_10 : decode cX4_whyNoLend 10 = .ok (.invokevirtual 135, 3) := by decide +kernel
theorem dX4_whyNoLend_13 : decode cX4_whyNoLend 13 = .ok (.ifCond .ne 5, 3) := by decide +kernel
theorem dX4_whyNoLend_16 : decode cX4_whyNoLend 16 = .ok (.iconst 1, 1) := by decide +kernel
theorem dX4_whyNoLend_17 : decode cX4_whyNoLend 17 = .ok (.ireturn, 1) := by decide +kernel
theorem dX4_whyNoLend_18 : decode cX4_whyNoLend 18 = .ok (.iload_n 1, 1) := by decide +kernel
theorem dX4_whyNoLend_19 : decode cX4_whyNoLend 19 = .ok (.iload_n 2, 1) := by decide +kernel
theorem dX4_whyNoLend_20 : decode cX4_whyNoLend 20 = .ok (.if_icmp .eq 24, 3) := by decide +kernel
theorem dX4_whyNoLend_23 : decode cX4_whyNoLend 23 = .ok (.iload_n 3, 1) := by decide +kernel
theorem dX4_whyNoLend_24 : decode cX4_whyNoLend 24 = .ok (.iconst 1, 1) := by decide +kernel
theorem dX4_whyNoLend_25 : decode cX4_whyNoLend 25 = .ok (.bipush 99, 2) := by decide +kernel
theorem dX4_whyNoLend_27 : decode cX4_whyNoLend 27 = .ok (.invokestatic 39, 3) := by decide +kernel
theorem dX4_whyNoLend_30 : decode cX4_whyNoLend 30 = .ok (.ifCond .eq 14, 3) := by decide +kernel
theorem dX4_whyNoLend_33 : decode cX4_whyNoLend 33 = .ok (.iload 4, 2) := by decide +kernel
theorem dX4_whyNoLend_35 : decode cX4_whyNoLend 35 = .ok (.iconst 0, 1) := by decide +kernel
theorem dX4_whyNoLend_36 : decode cX4_whyNoLend 36 = .ok (.bipush 50, 2) := by decide +kernel
theorem dX4_whyNoLend_38 : decode cX4_whyNoLend 38 = .ok (.invokestatic 39, 3) := by decide +kernel
theorem dX4_whyNoLend_41 : decode cX4_whyNoLend 41 = .ok (.ifCond .ne 5, 3) := by decide +kernel
theorem dX4_whyNoLend_44 : decode cX4_whyNoLend 44 = .ok (.iconst 2, 1) := by decide +kernel
theorem dX4_whyNoLend_45 : decode cX4_whyNoLend 45 = .ok (.ireturn, 1) := by decide +kernel
theorem dX4_whyNoLend_46 : decode cX4_whyNoLend 46 = .ok (.aload_n 0, 1) := by decide +kernel
theorem dX4_whyNoLend_47 : decode cX4_whyNoLend 47 = .ok (.iload_n 1, 1) := by decide +kernel
theorem dX4_whyNoLend_48 : decode cX4_whyNoLend 48 = .ok (.invokevirtual 84, 3) := by decide +kernel
theorem dX4_whyNoLend_51 : decode cX4_whyNoLend 51 = .ok (.ifCond .eq 42, 3) := by decide +kernel
theorem dX4_whyNoLend_54 : decode cX4_whyNoLend 54 = .ok (.aload_n 0, 1) := by decide +kernel
theorem dX4_whyNoLend_55 : decode cX4_whyNoLend 55 = .ok (.iload_n 2, 1) := by decide +kernel
theorem dX4_whyNoLend_56 : decode cX4_whyNoLend 56 = .ok (.invokevirtual 84, 3) := by decide +kernel
theorem dX4_whyNoLend_59 : decode cX4_whyNoLend 59 = .ok (.ifCond .eq 34, 3) := by decide +kernel
theorem dX4_whyNoLend_62 : decode cX4_whyNoLend 62 = .ok (.aload_n 0, 1) := by decide +kernel
theorem dX4_whyNoLend_63 : decode cX4_whyNoLend 63 = .ok (.iload_n 1, 1) := by decide +kernel
theorem dX4_whyNoLend_64 : decode cX4_whyNoLend 64 = .ok (.iconst 1, 1) := by decide +kernel
theorem dX4_whyNoLend_65 : decode cX4_whyNoLend 65 = .ok (.invokevirtual 43, 3) := by decide +kernel
theorem dX4_whyNoLend_68 : decode cX4_whyNoLend 68 = .ok (.iload_n 3, 1) := by decide +kernel
theorem dX4_whyNoLend_69 : decode cX4_whyNoLend 69 = .ok (.if_icmp .lt 24, 3) := by decide +kernel
theorem dX4_whyNoLend_72 : decode cX4_whyNoLend 72 = .ok (.aload_n 0, 1) := by decide +kernel
theorem dX4_whyNoLend_73 : decode cX4_whyNoLend 73 = .ok (.iload_n 3, 1) := by decide +kernel
theorem dX4_whyNoLend_74 : decode cX4_whyNoLend 74 = .ok (.iload_n 1, 1) := by decide +kernel
theorem dX4_whyNoLend_75 : decode cX4_whyNoLend 75 = .ok (.iload_n 2, 1) := by decide +kernel
theorem dX4_whyNoLend_76 : decode cX4_whyNoLend 76 = .ok (.invokevirtual 141, 3) := by decide +kernel
theorem dX4_whyNoLend_79 : decode cX4_whyNoLend 79 = .ok (.ifCond .ne 14, 3) := by decide +kernel
theorem dX4_whyNoLend_82 : decode cX4_whyNoLend 82 = .ok (.aload_n 0, 1) := by decide +kernel
theorem dX4_whyNoLend_83 : decode cX4_whyNoLend 83 = .ok (.getfield 7, 3) := by decide +kernel
theorem dX4_whyNoLend_86 : decode cX4_whyNoLend 86 = .ok (.iconst 2, 1) := by decide +kernel
theorem dX4_whyNoLend_87 : decode cX4_whyNoLend 87 = .ok (.iaload, 1) := by decide +kernel
theorem dX4_whyNoLend_88 : decode cX4_whyNoLend 88 = .ok (.bipush 12, 2) := by decide +kernel
theorem dX4_whyNoLend_90 : decode cX4_whyNoLend 90 = .ok (.if_icmp .ne 7, 3) := by decide +kernel
theorem dX4_whyNoLend_93 : decode cX4_whyNoLend 93 = .ok (.iconst 3, 1) := by decide +kernel
theorem dX4_whyNoLend_94 : decode cX4_whyNoLend 94 = .ok (.goto 4, 3) := by decide +kernel
theorem dX4_whyNoLend_97 : decode cX4_whyNoLend 97 = .ok (.iconst 0, 1) := by decide +kernel
theorem dX4_whyNoLend_98 : decode cX4_whyNoLend 98 = .ok (.ireturn, 1) := by decide +kernel
theorem dX4_lend_0 : decode cX4_lend 0 = .ok (.aload_n 0, 1) := by decide +kernel
theorem dX4_lend_1 : decode cX4_lend 1 = .ok (.aload_n 0, 1) := by decide +kernel
theorem dX4_lend_2 : decode cX4_lend 2 = .ok (.iload_n 1, 1) := by decide +kernel
theorem dX4_lend_3 : decode cX4_lend 3 = .ok (.iload_n 2, 1) := by decide +kernel
theorem dX4_lend_4 : decode cX4_lend 4 = .ok (.iload_n 3, 1) := by decide +kernel
theorem dX4_lend_5 : decode cX4_lend 5 = .ok (.iload 4, 2) := by decide +kernel
theorem dX4_lend_7 : decode cX4_lend 7 = .ok (.invokevirtual 181, 3) := by decide +kernel
theorem dX4_lend_10 : decode cX4_lend 10 = .ok (.putfield 35, 3) := by decide +kernel
theorem dX4_lend_13 : decode cX4_lend 13 = .ok (.aload_n 0, 1) := by decide +kernel
theorem dX4_lend_14 : decode cX4_lend 14 = .ok (.getfield 35, 3) := by decide +kernel
theorem dX4_lend_17 : decode cX4_lend 17 = .ok (.ifCond .le 5, 3) := by decide +kernel
theorem dX4_lend_20 : decode cX4_lend 20 = .ok (.iconst 0, 1) := by decide +kernel
theorem dX4_lend_21 : decode cX4_lend 21 = .ok (.ireturn, 1) := by decide +kernel
theorem dX4_lend_22 : decode cX4_lend 22 = .ok (.aload_n 0, 1) := by decide +kernel
theorem dX4_lend_23 : decode cX4_lend 23 = .ok (.invokevirtual 178, 3) := by decide +kernel
theorem dX4_lend_26 : decode cX4_lend 26 = .ok (.aload_n 0, 1) := by decide +kernel
theorem dX4_lend_27 : decode cX4_lend 27 = .ok (.iload_n 1, 1) := by decide +kernel
theorem dX4_lend_28 : decode cX4_lend 28 = .ok (.iload_n 2, 1) := by decide +kernel
theorem dX4_lend_29 : decode cX4_lend 29 = .ok (.iload_n 3, 1) := by decide +kernel
theorem dX4_lend_30 : decode cX4_lend 30 = .ok (.iload 4, 2) := by decide +kernel
theorem dX4_lend_32 : decode cX4_lend 32 = .ok (.invokevirtual 101, 3) := by decide +kernel
theorem dX4_lend_35 : decode cX4_lend 35 = .ok (.ireturn, 1) := by decide +kernel
theorem dX4_whyNoRepay_0 : decode cX4_whyNoRepay 0 = .ok (.aload_n 0, 1) := by decide +kernel
theorem dX4_whyNoRepay_1 : decode cX4_whyNoRepay 1 = .ok (.iload_n 1, 1) := by decide +kernel
theorem dX4_whyNoRepay_2 : decode cX4_whyNoRepay 2 = .ok (.invokevirtual 175, 3) := by decide +kernel
theorem dX4_whyNoRepay_5 : decode cX4_whyNoRepay 5 = .ok (.ifCond .ne 5, 3) := by decide +kernel
theorem dX4_whyNoRepay_8 : decode cX4_whyNoRepay 8 = .ok (.iconst 1, 1) := by decide +kernel
theorem dX4_whyNoRepay_9 : decode cX4_whyNoRepay 9 = .ok (.ireturn, 1) := by decide +kernel
theorem dX4_whyNoRepay_10 : decode cX4_whyNoRepay 10 = .ok (.iload_n 2, 1) := by decide +kernel
theorem dX4_whyNoRepay_11 : decode cX4_whyNoRepay 11 = .ok (.iconst 1, 1) := by decide +kernel
theorem dX4_whyNoRepay_12 : decode cX4_whyNoRepay 12 = .ok (.bipush 99, 2) := by decide +kernel
theorem dX4_whyNoRepay_14 : decode cX4_whyNoRepay 14 = .ok (.invokestatic 39, 3) := by decide +kernel
theorem dX4_whyNoRepay_17 : decode cX4_whyNoRepay 17 = .ok (.ifCond .ne 5, 3) := by decide +kernel
theorem dX4_whyNoRepay_20 : decode cX4_whyNoRepay 20 = .ok (.iconst 2, 1) := by decide +kernel
theorem dX4_whyNoRepay_21 : decode cX4_whyNoRepay 21 = .ok (.ireturn, 1) := by decide +kernel
theorem dX4_whyNoRepay_22 : decode cX4_whyNoRepay 22 = .ok (.aload_n 0, 1) := by decide +kernel
theorem dX4_whyNoRepay_23 : decode cX4_whyNoRepay 23 = .ok (.iload_n 1, 1) := by decide +kernel
theorem dX4_whyNoRepay_24 : decode cX4_whyNoRepay 24 = .ok (.iconst 1, 1) := by decide +kernel
theorem dX4_whyNoRepay_25 : decode cX4_whyNoRepay 25 = .ok (.invokevirtual 64, 3) := by decide +kernel
theorem dX4_whyNoRepay_28 : decode cX4_whyNoRepay 28 = .ok (.istore_n 3, 1) := by decide +kernel
theorem dX4_whyNoRepay_29 : decode cX4_whyNoRepay 29 = .ok (.aload_n 0, 1) := by decide +kernel
theorem dX4_whyNoRepay_30 : decode cX4_whyNoRepay 30 = .ok (.iload_n 1, 1) := by decide +kernel
theorem dX4_whyNoRepay_31 : decode cX4_whyNoRepay 31 = .ok (.iconst 2, 1) := by decide +kernel
theorem dX4_whyNoRepay_32 : decode cX4_whyNoRepay 32 = .ok (.invokevirtual 64, 3) := by decide +kernel
theorem dX4_whyNoRepay_35 : decode cX4_whyNoRepay 35 = .ok (.iload_n 2, 1) := by decide +kernel
theorem dX4_whyNoRepay_36 : decode cX4_whyNoRepay 36 = .ok (.if_icmp .lt 28, 3) := by decide +kernel
theorem dX4_whyNoRepay_39 : decode cX4_whyNoRepay 39 = .ok (.aload_n 0, 1) := by decide +kernel
theorem dX4_whyNoRepay_40 : decode cX4_whyNoRepay 40 = .ok (.iload_n 3, 1) := by decide +kernel
theorem dX4_whyNoRepay_41 : decode cX4_whyNoRepay 41 = .ok (.iconst 1, 1) := by decide +kernel
theorem dX4_whyNoRepay_42 : decode cX4_whyNoRepay 42 = .ok (.invokevirtual 43, 3) := by decide +kernel
theorem dX4_whyNoRepay_45 : decode cX4_whyNoRepay 45 = .ok (.iload_n 2, 1) := by decide +kernel
theorem dX4_whyNoRepay_46 : decode cX4_whyNoRepay 46 = .ok (.if_icmp .lt 18, 3) := by decide +kernel
theorem dX4_whyNoRepay_49 : decode cX4_whyNoRepay 49 = .ok (.aload_n 0, 1) := by decide +kernel
theorem dX4_whyNoRepay_50 : decode cX4_whyNoRepay 50 = .ok (.iload_n 2, 1) := by decide +kernel
theorem dX4_whyNoRepay_51 : decode cX4_whyNoRepay 51 = .ok (.iload_n 3, 1) := by decide +kernel
theorem dX4_whyNoRepay_52 : decode cX4_whyNoRepay 52 = .ok (.aload_n 0, 1) := by decide +kernel
theorem dX4_whyNoRepay_53 : decode cX4_whyNoRepay 53 = .ok (.iload_n 1, 1) := by decide +kernel
theorem dX4_whyNoRepay_54 : decode cX4_whyNoRepay 54 = .ok (.iconst 0, 1) := by decide +kernel
theorem dX4_whyNoRepay_55 : decode cX4_whyNoRepay 55 = .ok (.invokevirtual 64, 3) := by decide +kernel
theorem dX4_whyNoRepay_58 : decode cX4_whyNoRepay 58 = .ok (.invokevirtual 141, 3) := by decide +kernel
theorem dX4_whyNoRepay_61 : decode cX4_whyNoRepay 61 = .ok (.ifCond .eq 7, 3) := by decide +kernel
theorem dX4_whyNoRepay_64 : decode cX4_whyNoRepay 64 = .ok (.iconst 3, 1) := by decide +kernel
theorem dX4_whyNoRepay_65 : decode cX4_whyNoRepay 65 = .ok (.goto 4, 3) := by decide +kernel
theorem dX4_whyNoRepay_68 : decode cX4_whyNoRepay 68 = .ok (.iconst 0, 1) := by decide +kernel
theorem dX4_whyNoRepay_69 : decode cX4_whyNoRepay 69 = .ok (.ireturn, 1) := by decide +kernel
theorem dX4_repays_0 : decode cX4_repays 0 = .ok (.aload_n 0, 1) := by decide +kernel
theorem dX4_repays_1 : decode cX4_repays 1 = .ok (.iload_n 2, 1) := by decide +kernel
theorem dX4_repays_2 : decode cX4_repays 2 = .ok (.aload_n 0, 1) := by decide +kernel
theorem dX4_repays_3 : decode cX4_repays 3 = .ok (.iload_n 1, 1) := by decide +kernel
theorem dX4_repays_4 : decode cX4_repays 4 = .ok (.iconst 1, 1) := by decide +kernel
theorem dX4_repays_5 : decode cX4_repays 5 = .ok (.invokevirtual 64, 3) := by decide +kernel
theorem dX4_repays_8 : decode cX4_repays 8 = .ok (.aload_n 0, 1) := by decide +kernel
theorem dX4_repays_9 : decode cX4_repays 9 = .ok (.iload_n 1, 1) := by decide +kernel
end
section
theorem dX4_repays_10 : decode cX4_repays 10 = .ok (.iconst 0, 1) := by decide +kernel
theorem dX4_repays_11 : decode cX4_repays 11 = .ok (.invokevirtual 64, 3) := by decide +kernel
theorem dX4_repays_14 : decode cX4_repays 14 = .ok (.invokevirtual 58, 3) := by decide +kernel
theorem dX4_repays_17 : decode cX4_repays 17 = .ok (.pop, 1) := by decide +kernel
theorem dX4_repays_18 : decode cX4_repays 18 = .ok (.aload_n 0, 1) := by decide +kernel
theorem dX4_repays_19 : decode cX4_repays 19 = .ok (.getfield 7, 3) := by decide +kernel
theorem dX4_repays_22 : decode cX4_repays 22 = .ok (.bipush 47, 2) := by decide +kernel
theorem dX4_repays_24 : decode cX4_repays 24 = .ok (.iconst 5, 1) := by decide +kernel
theorem dX4_repays_25 : decode cX4_repays 25 = .ok (.iload_n 1, 1) := by decide +kernel
theorem dX4_repays_26 : decode cX4_repays 26 = .ok (.imul, 1) := by decide +kernel
theorem dX4_repays_27 : decode cX4_repays 27 = .ok (.iadd, 1) := by decide +kernel
theorem dX4_repays_28 : decode cX4_repays 28 = .ok (.iconst 2, 1) := by decide +kernel
theorem dX4_repays_29 : decode cX4_repays 29 = .ok (.iadd, 1) := by decide +kernel
theorem dX4_repays_30 : decode cX4_repays 30 = .ok (.dup2, 1) := by decide +kernel
theorem dX4_repays_31 : decode cX4_repays 31 = .ok (.iaload, 1) := by decide +kernel
theorem dX4_repays_32 : decode cX4_repays 32 = .ok (.iload_n 2, 1) := by decide +kernel
theorem dX4_repays_33 : decode cX4_repays 33 = .ok (.isub, 1) := by decide +kernel
theorem dX4_repays_34 : decode cX4_repays 34 = .ok (.iastore, 1) := by decide +kernel
theorem dX4_repays_35 : decode cX4_repays 35 = .ok (.aload_n 0, 1) := by decide +kernel
theorem dX4_repays_36 : decode cX4_repays 36 = .ok (.iload_n 1, 1) := by decide +kernel
theorem dX4_repays_37 : decode cX4_repays 37 = .ok (.iconst 2, 1) := by decide +kernel
theorem dX4_repays_38 : decode cX4_repays 38 = .ok (.invokevirtual 64, 3) := by decide +kernel
theorem dX4_repays_41 : decode cX4_repays 41 = .ok (.istore_n 3, 1) := by decide +kernel
theorem dX4_repays_42 : decode cX4_repays 42 = .ok (.iload_n 3, 1) := by decide +kernel
theorem dX4_repays_43 : decode cX4_repays 43 = .ok (.ifCond .ne 8, 3) := by decide +kernel
theorem dX4_repays_46 : decode cX4_repays 46 = .ok (.aload_n 0, 1) := by decide +kernel
theorem dX4_repays_47 : decode cX4_repays 47 = .ok (.iload_n 1, 1) := by decide +kernel
theorem dX4_repays_48 : decode cX4_repays 48 = .ok (.invokevirtual 77, 3) := by decide +kernel
theorem dX4_repays_51 : decode cX4_repays 51 = .ok (.iload_n 3, 1) := by decide +kernel
theorem dX4_repays_52 : decode cX4_repays 52 = .ok (.ireturn, 1) := by decide +kernel
theorem dX4_repay_0 : decode cX4_repay 0 = .ok (.aload_n 0, 1) := by decide +kernel
theorem dX4_repay_1 : decode cX4_repay 1 = .ok (.aload_n 0, 1) := by decide +kernel
theorem dX4_repay_2 : decode cX4_repay 2 = .ok (.iload_n 1, 1) := by decide +kernel
theorem dX4_repay_3 : decode cX4_repay 3 = .ok (.iload_n 2, 1) := by decide +kernel
theorem dX4_repay_4 : decode cX4_repay 4 = .ok (.invokevirtual 184, 3) := by decide +kernel
theorem dX4_repay_7 : decode cX4_repay 7 = .ok (.putfield 35, 3) := by decide +kernel
theorem dX4_repay_10 : decode cX4_repay 10 = .ok (.aload_n 0, 1) := by decide +kernel
theorem dX4_repay_11 : decode cX4_repay 11 = .ok (.getfield 35, 3) := by decide +kernel
theorem dX4_repay_14 : decode cX4_repay 14 = .ok (.ifCond .le 5, 3) := by decide +kernel
theorem dX4_repay_17 : decode cX4_repay 17 = .ok (.iconst 0, 1) := by decide +kernel
theorem dX4_repay_18 : decode cX4_repay 18 = .ok (.ireturn, 1) := by decide +kernel
theorem dX4_repay_19 : decode cX4_repay 19 = .ok (.aload_n 0, 1) := by decide +kernel
theorem dX4_repay_20 : decode cX4_repay 20 = .ok (.invokevirtual 178, 3) := by decide +kernel
theorem dX4_repay_23 : decode cX4_repay 23 = .ok (.aload_n 0, 1) := by decide +kernel
theorem dX4_repay_24 : decode cX4_repay 24 = .ok (.iload_n 1, 1) := by decide +kernel
theorem dX4_repay_25 : decode cX4_repay 25 = .ok (.iload_n 2, 1) := by decide +kernel
theorem dX4_repay_26 : decode cX4_repay 26 = .ok (.invokevirtual 187, 3) := by decide +kernel
theorem dX4_repay_29 : decode cX4_repay 29 = .ok (.ireturn, 1) := by decide +kernel
theorem dX4_setLeak_0 : decode cX4_setLeak 0 = .ok (.aload_n 0, 1) := by decide +kernel
theorem dX4_setLeak_1 : decode cX4_setLeak 1 = .ok (.aload_n 0, 1) := by decide +kernel
theorem dX4_setLeak_2 : decode cX4_setLeak 2 = .ok (.iload_n 1, 1) := by decide +kernel
theorem dX4_setLeak_3 : decode cX4_setLeak 3 = .ok (.invokevirtual 135, 3) := by decide +kernel
theorem dX4_setLeak_6 : decode cX4_setLeak 6 = .ok (.ifCond .ne 7, 3) := by decide +kernel
theorem dX4_setLeak_9 : decode cX4_setLeak 9 = .ok (.iconst 1, 1) := by decide +kernel
theorem dX4_setLeak_10 : decode cX4_setLeak 10 = .ok (.goto 17, 3) := by decide +kernel
theorem dX4_setLeak_13 : decode cX4_setLeak 13 = .ok (.iload_n 2, 1) := by decide +kernel
theorem dX4_setLeak_14 : decode cX4_setLeak 14 = .ok (.iconst 0, 1) := by decide +kernel
theorem dX4_setLeak_15 : decode cX4_setLeak 15 = .ok (.iconst 3, 1) := by decide +kernel
theorem dX4_setLeak_16 : decode cX4_setLeak 16 = .ok (.invokestatic 39, 3) := by decide +kernel
theorem dX4_setLeak_19 : decode cX4_setLeak 19 = .ok (.ifCond .ne 7, 3) := by decide +kernel
theorem dX4_setLeak_22 : decode cX4_setLeak 22 = .ok (.iconst 2, 1) := by decide +kernel
theorem dX4_setLeak_23 : decode cX4_setLeak 23 = .ok (.goto 4, 3) := by decide +kernel
theorem dX4_setLeak_26 : decode cX4_setLeak 26 = .ok (.iconst 0, 1) := by decide +kernel
theorem dX4_setLeak_27 : decode cX4_setLeak 27 = .ok (.putfield 35, 3) := by decide +kernel
theorem dX4_setLeak_30 : decode cX4_setLeak 30 = .ok (.aload_n 0, 1) := by decide +kernel
theorem dX4_setLeak_31 : decode cX4_setLeak 31 = .ok (.getfield 35, 3) := by decide +kernel
theorem dX4_setLeak_34 : decode cX4_setLeak 34 = .ok (.ifCond .le 5, 3) := by decide +kernel
theorem dX4_setLeak_37 : decode cX4_setLeak 37 = .ok (.iconst 0, 1) := by decide +kernel
theorem dX4_setLeak_38 : decode cX4_setLeak 38 = .ok (.ireturn, 1) := by decide +kernel
theorem dX4_setLeak_39 : decode cX4_setLeak 39 = .ok (.aload_n 0, 1) := by decide +kernel
theorem dX4_setLeak_40 : decode cX4_setLeak 40 = .ok (.invokevirtual 178, 3) := by decide +kernel
theorem dX4_setLeak_43 : decode cX4_setLeak 43 = .ok (.aload_n 0, 1) := by decide +kernel
theorem dX4_setLeak_44 : decode cX4_setLeak 44 = .ok (.iload_n 1, 1) := by decide +kernel
theorem dX4_setLeak_45 : decode cX4_setLeak 45 = .ok (.iconst 2, 1) := by decide +kernel
theorem dX4_setLeak_46 : decode cX4_setLeak 46 = .ok (.invokevirtual 43, 3) := by decide +kernel
theorem dX4_setLeak_49 : decode cX4_setLeak 49 = .ok (.istore_n 3, 1) := by decide +kernel
theorem dX4_setLeak_50 : decode cX4_setLeak 50 = .ok (.aload_n 0, 1) := by decide +kernel
theorem dX4_setLeak_51 : decode cX4_setLeak 51 = .ok (.iload_n 1, 1) := by decide +kernel
theorem dX4_setLeak_52 : decode cX4_setLeak 52 = .ok (.iconst 2, 1) := by decide +kernel
theorem dX4_setLeak_53 : decode cX4_setLeak 53 = .ok (.iload_n 2, 1) := by decide +kernel
theorem dX4_setLeak_54 : decode cX4_setLeak 54 = .ok (.iload_n 3, 1) := by decide +kernel
theorem dX4_setLeak_55 : decode cX4_setLeak 55 = .ok (.isub, 1) := by decide +kernel
theorem dX4_setLeak_56 : decode cX4_setLeak 56 = .ok (.invokevirtual 54, 3) := by decide +kernel
theorem dX4_setLeak_59 : decode cX4_setLeak 59 = .ok (.iload_n 3, 1) := by decide +kernel
theorem dX4_setLeak_60 : decode cX4_setLeak 60 = .ok (.ireturn, 1) := by decide +kernel
theorem dX4_charge_0 : decode cX4_charge 0 = .ok (.aload_n 0, 1) := by decide +kernel
theorem dX4_charge_1 : decode cX4_charge 1 = .ok (.iload_n 1, 1) := by decide +kernel
theorem dX4_charge_2 : decode cX4_charge 2 = .ok (.iconst 1, 1) := by decide +kernel
theorem dX4_charge_3 : decode cX4_charge 3 = .ok (.bipush 99, 2) := by decide +kernel
theorem dX4_charge_5 : decode cX4_charge 5 = .ok (.invokestatic 39, 3) := by decide +kernel
theorem dX4_charge_8 : decode cX4_charge 8 = .ok (.ifCond .eq 7, 3) := by decide +kernel
theorem dX4_charge_11 : decode cX4_charge 11 = .ok (.iconst 0, 1) := by decide +kernel
theorem dX4_charge_12 : decode cX4_charge 12 = .ok (.goto 4, 3) := by decide +kernel
theorem dX4_charge_15 : decode cX4_charge 15 = .ok (.iconst 1, 1) := by decide +kernel
theorem dX4_charge_16 : decode cX4_charge 16 = .ok (.putfield 35, 3) := by decide +kernel
theorem dX4_charge_19 : decode cX4_charge 19 = .ok (.aload_n 0, 1) := by decide +kernel
theorem dX4_charge_20 : decode cX4_charge 20 = .ok (.getfield 35, 3) := by decide +kernel
theorem dX4_charge_23 : decode cX4_charge 23 = .ok (.ifCond .le 5, 3) := by decide +kernel
theorem dX4_charge_26 : decode cX4_charge 26 = .ok (.iconst 0, 1) := by decide +kernel
theorem dX4_charge_27 : decode cX4_charge 27 = .ok (.ireturn, 1) := by decide +kernel
theorem dX4_charge_28 : decode cX4_charge 28 = .ok (.aload_n 0, 1) := by decide +kernel
theorem dX4_charge_29 : decode cX4_charge 29 = .ok (.invokevirtual 178, 3) := by decide +kernel
theorem dX4_charge_32 : decode cX4_charge 32 = .ok (.aload_n 0, 1) := by decide +kernel
theorem dX4_charge_33 : decode cX4_charge 33 = .ok (.iload_n 1, 1) := by decide +kernel
theorem dX4_charge_34 : decode cX4_charge 34 = .ok (.invokevirtual 190, 3) := by decide +kernel
theorem dX4_charge_37 : decode cX4_charge 37 = .ok (.ireturn, 1) := by decide +kernel
theorem dX4_draw_0 : decode cX4_draw 0 = .ok (.aload_n 0, 1) := by decide +kernel
theorem dX4_draw_1 : decode cX4_draw 1 = .ok (.iload_n 1, 1) := by decide +kernel
theorem dX4_draw_2 : decode cX4_draw 2 = .ok (.iconst 1, 1) := by decide +kernel
theorem dX4_draw_3 : decode cX4_draw 3 = .ok (.bipush 99, 2) := by decide +kernel
theorem dX4_draw_5 : decode cX4_draw 5 = .ok (.invokestatic 39, 3) := by decide +kernel
theorem dX4_draw_8 : decode cX4_draw 8 = .ok (.ifCond .eq 7, 3) := by decide +kernel
theorem dX4_draw_11 : decode cX4_draw 11 = .ok (.iconst 0, 1) := by decide +kernel
theorem dX4_draw_12 : decode cX4_draw 12 = .ok (.goto 4, 3) := by decide +kernel
theorem dX4_draw_15 : decode cX4_draw 15 = .ok (.iconst 1, 1) := by decide +kernel
theorem dX4_draw_16 : decode cX4_draw 16 = .ok (.putfield 35, 3) := by decide +kernel
theorem dX4_draw_19 : decode cX4_draw 19 = .ok (.aload_n 0, 1) := by decide +kernel
theorem dX4_draw_20 : decode cX4_draw 20 = .ok (.getfield 35, 3) := by decide +kernel
theorem dX4_draw_23 : decode cX4_draw 23 = .ok (.ifCond .le 5, 3) := by decide +kernel
theorem dX4_draw_26 : decode cX4_draw 26 = .ok (.iconst 0, 1) := by decide +kernel
theorem dX4_draw_27 : decode cX4_draw 27 = .ok (.ireturn, 1) := by decide +kernel
theorem dX4_draw_28 : decode cX4_draw 28 = .ok (.aload_n 0, 1) := by decide +kernel
theorem dX4_draw_29 : decode cX4_draw 29 = .ok (.invokevirtual 150, 3) := by decide +kernel
theorem dX4_draw_32 : decode cX4_draw 32 = .ok (.aload_n 0, 1) := by decide +kernel
theorem dX4_draw_33 : decode cX4_draw 33 = .ok (.iload_n 1, 1) := by decide +kernel
theorem dX4_draw_34 : decode cX4_draw 34 = .ok (.invokevirtual 193, 3) := by decide +kernel
theorem dX4_draw_37 : decode cX4_draw 37 = .ok (.istore_n 2, 1) := by decide +kernel
theorem dX4_draw_38 : decode cX4_draw 38 = .ok (.aload_n 0, 1) := by decide +kernel
theorem dX4_draw_39 : decode cX4_draw 39 = .ok (.iload_n 2, 1) := by decide +kernel
theorem dX4_draw_40 : decode cX4_draw 40 = .ok (.ifCond .ne 7, 3) := by decide +kernel
theorem dX4_draw_43 : decode cX4_draw 43 = .ok (.iconst 2, 1) := by decide +kernel
theorem dX4_draw_44 : decode cX4_draw 44 = .ok (.goto 4, 3) := by decide +kernel
theorem dX4_draw_47 : decode cX4_draw 47 = .ok (.iconst 0, 1) := by decide +kernel
theorem dX4_draw_48 : decode cX4_draw 48 = .ok (.putfield 35, 3) := by decide +kernel
theorem dX4_draw_51 : decode cX4_draw 51 = .ok (.aload_n 0, 1) := by decide +kernel
theorem dX4_draw_52 : decode cX4_draw 52 = .ok (.getfield 35, 3) := by decide +kernel
theorem dX4_draw_55 : decode cX4_draw 55 = .ok (.ifCond .le 5, 3) := by decide +kernel
theorem dX4_draw_58 : decode cX4_draw 58 = .ok (.iconst 0, 1) := by decide +kernel
theorem dX4_draw_59 : decode cX4_draw 59 = .ok (.ireturn, 1) := by decide +kernel
theorem dX4_draw_60 : decode cX4_draw 60 = .ok (.iconst 0, 1) := by decide +kernel
theorem dX4_draw_61 : decode cX4_draw 61 = .ok (.istore_n 3, 1) := by decide +kernel
theorem dX4_draw_62 : decode cX4_draw 62 = .ok (.iload_n 3, 1) := by decide +kernel
theorem dX4_draw_63 : decode cX4_draw 63 = .ok (.bipush 107, 2) := by decide +kernel
theorem dX4_draw_65 : decode cX4_draw 65 = .ok (.if_icmp .ge 21, 3) := by decide +kernel
theorem dX4_draw_68 : decode cX4_draw 68 = .ok (.aload_n 0, 1) := by decide +kernel
theorem dX4_draw_69 : decode cX4_draw 69 = .ok (.getfield 32, 3) := by decide +kernel
theorem dX4_draw_72 : decode cX4_draw 72 = .ok (.iload_n 3, 1) := by decide +kernel
theorem dX4_draw_73 : decode cX4_draw 73 = .ok (.aload_n 0, 1) := by decide +kernel
theorem dX4_draw_74 : decode cX4_draw 74 = .ok (.getfield 7, 3) := by decide +kernel
theorem dX4_draw_77 : decode cX4_draw 77 = .ok (.iload_n 3, 1) := by decide +kernel
theorem dX4_draw_78 : decode cX4_draw 78 = .ok (.iaload, 1) := by decide +kernel
theorem dX4_draw_79 : decode cX4_draw 79 = .ok (.iastore, 1) := by decide +kernel
theorem dX4_draw_80 : decode cX4_draw 80 = .ok (.iinc 3 1, 3) := by decide +kernel
theorem dX4_draw_83 : decode cX4_draw 83 = .ok (.goto (-21), 3) := by decide +kernel
theorem dX4_draw_86 : decode cX4_draw 86 = .ok (.aload_n 0, 1) := by decide +kernel
theorem dX4_draw_87 : decode cX4_draw 87 = .ok (.invokevirtual 157, 3) := by decide +kernel
theorem dX4_draw_90 : decode cX4_draw 90 = .ok (.aload_n 0, 1) := by decide +kernel
theorem dX4_draw_91 : decode cX4_draw 91 = .ok (.invokevirtual 178, 3) := by decide +kernel
theorem dX4_draw_94 : decode cX4_draw 94 = .ok (.iconst 0, 1) := by decide +kernel
theorem dX4_draw_95 : decode cX4_draw 95 = .ok (.istore_n 3, 1) := by decide +kernel
theorem dX4_draw_96 : decode cX4_draw 96 = .ok (.iload_n 3, 1) := by decide +kernel
theorem dX4_draw_97 : decode cX4_draw 97 = .ok (.bipush 107, 2) := by decide +kernel
theorem dX4_draw_99 : decode cX4_draw 99 = .ok (.if_icmp .ge 21, 3) := by decide +kernel
theorem dX4_draw_102 : decode cX4_draw 102 = .ok (.aload_n 0, 1) := by decide +kernel
theorem dX4_draw_103 : decode cX4_draw 103 = .ok (.getfield 7, 3) := by decide +kernel
theorem dX4_draw_106 : decode cX4_draw 106 = .ok (.iload_n 3, 1) := by decide +kernel
theorem dX4_draw_107 : decode cX4_draw 107 = .ok (.aload_n 0, 1) := by decide +kernel
theorem dX4_draw_108 : decode cX4_draw 108 = .ok (.getfield 32, 3) := by decide +kernel
theorem dX4_draw_111 : decode cX4_draw 111 = .ok (.iload_n 3, 1) := by decide +kernel
theorem dX4_draw_112 : decode cX4_draw 112 = .ok (.iaload, 1) := by decide +kernel
theorem dX4_draw_113 : decode cX4_draw 113 = .ok (.iastore, 1) := by decide +kernel
theorem dX4_draw_114 : decode cX4_draw 114 = .ok (.iinc 3 1, 3) := by decide +kernel
theorem dX4_draw_117 : decode cX4_draw 117 = .ok (.goto (-21), 3) := by decide +kernel
theorem dX4_draw_120 : decode cX4_draw 120 = .ok (.iload_n 2, 1) := by decide +kernel
theorem dX4_draw_121 : decode cX4_draw 121 = .ok (.ireturn, 1) := by decide +kernel
theorem dX4_pass_0 : decode cX4_pass 0 = .ok (.aload_n 0, 1) := by decide +kernel
theorem dX4_pass_1 : decode cX4_pass 1 = .ok (.iload_n 1, 1) := by decide +kernel
theorem dX4_pass_2 : decode cX4_pass 2 = .ok (.iconst 1, 1) := by decide +kernel
theorem dX4_pass_3 : decode cX4_pass 3 = .ok (.bipush 50, 2) := by decide +kernel
theorem dX4_pass_5 : decode cX4_pass 5 = .ok (.invokestatic 39, 3) := by decide +kernel
theorem dX4_pass_8 : decode cX4_pass 8 = .ok (.ifCond .eq 7, 3) := by decide +kernel
theorem dX4_pass_11 : decode cX4_pass 11 = .ok (.iconst 0, 1) := by decide +kernel
theorem dX4_pass_12 : decode cX4_pass 12 = .ok (.goto 4, 3) := by decide +kernel
theorem dX4_pass_15 : decode cX4_pass 15 = .ok (.iconst 1, 1) := by decide +kernel
theorem dX4_pass_16 : decode cX4_pass 16 = .ok (.putfield 35, 3) := by decide +kernel
theorem dX4_pass_19 : decode cX4_pass 19 = .ok (.aload_n 0, 1) := by decide +kernel
theorem dX4_pass_20 : decode cX4_pass 20 = .ok (.getfield 35, 3) := by decide +kernel
theorem dX4_pass_23 : decode cX4_pass 23 = .ok (.ifCond .le 5, 3) := by decide +kernel
theorem dX4_pass_26 : decode cX4_pass 26 = .ok (.iconst 0, 1) := by decide +kernel
theorem dX4_pass_27 : decode cX4_pass 27 = .ok (.ireturn, 1) := by decide +kernel
theorem dX4_pass_28 : decode cX4_pass 28 = .ok (.aload_n 0, 1) := by decide +kernel
theorem dX4_pass_29 : decode cX4_pass 29 = .ok (.invokevirtual 178, 3) := by decide +kernel
theorem dX4_pass_32 : decode cX4_pass 32 = .ok (.aload_n 0, 1) := by decide +kernel
theorem dX4_pass_33 : decode cX4_pass 33 = .ok (.iload_n 1, 1) := by decide +kernel
theorem dX4_pass_34 : decode cX4_pass 34 = .ok (.invokevirtual 196, 3) := by decide +kernel
theorem dX4_pass_37 : decode cX4_pass 37 = .ok (.ireturn, 1) := by decide +kernel
theorem dX4_undo_0 : decode cX4_undo 0 = .ok (.aload_n 0, 1) := by decide +kernel
theorem dX4_undo_1 : decode cX4_undo 1 = .ok (.aload_n 0, 1) := by decide +kernel
theorem dX4_undo_2 : decode cX4_undo 2 = .ok (.getfield 47, 3) := by decide +kernel
theorem dX4_undo_5 : decode cX4_undo 5 = .ok (.ifCond .ne 7, 3) := by decide +kernel
theorem dX4_undo_8 : decode cX4_undo 8 = .ok (.iconst 1, 1) := by decide +kernel
theorem dX4_undo_9 : decode cX4_undo 9 = .ok (.goto 4, 3) := by decide +kernel
theorem dX4_undo_12 : decode cX4_undo 12 = .ok (.iconst 0, 1) := by decide +kernel
theorem dX4_undo_13 : decode cX4_undo 13 = .ok (.putfield 35, 3) := by decide +kernel
theorem dX4_undo_16 : decode cX4_undo 16 = .ok (.aload_n 0, 1) := by decide +kernel
theorem dX4_undo_17 : decode cX4_undo 17 = .ok (.getfield 35, 3) := by decide +kernel
theorem dX4_undo_20 : decode cX4_undo 20 = .ok (.ifCond .le 5, 3) := by decide +kernel
theorem dX4_undo_23 : decode cX4_undo 23 = .ok (.iconst 0, 1) := by decide +kernel
theorem dX4_undo_24 : decode cX4_undo 24 = .ok (.ireturn, 1) := by decide +kernel
theorem dX4_undo_25 : decode cX4_undo 25 = .ok (.aload_n 0, 1) := by decide +kernel
theorem dX4_undo_26 : decode cX4_undo 26 = .ok (.dup, 1) := by decide +kernel
theorem dX4_undo_27 : decode cX4_undo 27 = .ok (.getfield 47, 3) := by decide +kernel
theorem dX4_undo_30 : decode cX4_undo 30 = .ok (.iconst 1, 1) := by decide +kernel
theorem dX4_undo_31 : decode cX4_undo 31 = .ok (.isub, 1) := by decide +kernel
theorem dX4_undo_32 : decode cX4_undo 32 = .ok (.putfield 47, 3) := by decide +kernel
theorem dX4_undo_35 : decode cX4_undo 35 = .ok (.iconst 0, 1) := by decide +kernel
theorem dX4_undo_36 : decode cX4_undo 36 = .ok (.istore_n 1, 1) := by decide +kernel
theorem dX4_undo_37 : decode cX4_undo 37 = .ok (.iload_n 1, 1) := by decide +kernel
theorem dX4_undo_38 : decode cX4_undo 38 = .ok (.bipush 107, 2) := by decide +kernel
theorem dX4_undo_40 : decode cX4_undo 40 = .ok (.if_icmp .ge 29, 3) := by decide +kernel
theorem dX4_undo_43 : decode cX4_undo 43 = .ok (.aload_n 0, 1) := by decide +kernel
theorem dX4_undo_44 : decode cX4_undo 44 = .ok (.getfield 7, 3) := by decide +kernel
theorem dX4_undo_47 : decode cX4_undo 47 = .ok (.iload_n 1, 1) := by decide +kernel
theorem dX4_undo_48 : decode cX4_undo 48 = .ok (.aload_n 0, 1) := by decide +kernel
theorem dX4_undo_49 : decode cX4_undo 49 = .ok (.getfield 23, 3) := by decide +kernel
theorem dX4_undo_52 : decode cX4_undo 52 = .ok (.bipush 107, 2) := by decide +kernel
theorem dX4_undo_54 : decode cX4_undo 54 = .ok (.aload_n 0, 1) := by decide +kernel
theorem dX4_undo_55 : decode cX4_undo 55 = .ok (.getfield 47, 3) := by decide +kernel
theorem dX4_undo_58 : decode cX4_undo 58 = .ok (.imul, 1) := by decide +kernel
theorem dX4_undo_59 : decode cX4_undo 59 = .ok (.iload_n 1, 1) := by decide +kernel
theorem dX4_undo_60 : decode cX4_undo 60 = .ok (.iadd, 1) := by decide +kernel
theorem dX4_undo_61 : decode cX4_undo 61 = .ok (.iaload, 1) := by decide +kernel
theorem dX4_undo_62 : decode cX4_undo 62 = .ok (.iastore, 1) := by decide +kernel
theorem dX4_undo_63 : decode cX4_undo 63 = .ok (.iinc 1 1, 3) := by decide +kernel
theorem dX4_undo_66 : decode cX4_undo 66 = .ok (.goto (-29), 3) := by decide +kernel
theorem dX4_undo_69 : decode cX4_undo 69 = .ok (.aload_n 0, 1) := by decide +kernel
theorem dX4_undo_70 : decode cX4_undo 70 = .ok (.getfield 47, 3) := by decide +kernel
theorem dX4_undo_73 : decode cX4_undo 73 = .ok (.ireturn, 1) := by decide +kernel
theorem dX4_holds_0 : decode cX4_holds 0 = .ok (.aload_n 0, 1) := by decide +kernel
theorem dX4_holds_1 : decode cX4_holds 1 = .ok (.aload_n 0, 1) := by decide +kernel
theorem dX4_holds_2 : decode cX4_holds 2 = .ok (.iload_n 1, 1) := by decide +kernel
theorem dX4_holds_3 : decode cX4_holds 3 = .ok (.invokevirtual 135, 3) := by decide +kernel
theorem dX4_holds_6 : decode cX4_holds 6 = .ok (.ifCond .eq 7, 3) := by decide +kernel
theorem dX4_holds_9 : decode cX4_holds 9 = .ok (.iconst 0, 1) := by decide +kernel
theorem dX4_holds_10 : decode cX4_holds 10 = .ok (.goto 4, 3) := by decide +kernel
theorem dX4_holds_13 : decode cX4_holds 13 = .ok (.iconst 1, 1) := by decide +kernel
theorem dX4_holds_14 : decode cX4_holds 14 = .ok (.putfield 35, 3) := by decide +kernel
theorem dX4_holds_17 : decode cX4_holds 17 = .ok (.aload_n 0, 1) := by decide +kernel
theorem dX4_holds_18 : decode cX4_holds 18 = .ok (.getfield 35, 3) := by decide +kernel
theorem dX4_holds_21 : decode cX4_holds 21 = .ok (.ifCond .le 5, 3) := by decide +kernel
theorem dX4_holds_24 : decode cX4_holds 24 = .ok (.iconst 0, 1) := by decide +kernel
theorem dX4_holds_25 : decode cX4_holds 25 = .ok (.ireturn, 1) := by decide +kernel
theorem dX4_holds_26 : decode cX4_holds 26 = .ok (.aload_n 0, 1) := by decide +kernel
theorem dX4_holds_27 : decode cX4_holds 27 = .ok (.invokevirtual 150, 3) := by decide +kernel
theorem dX4_holds_30 : decode cX4_holds 30 = .ok (.iconst 0, 1) := by decide +kernel
theorem dX4_holds_31 : decode cX4_holds 31 = .ok (.istore_n 2, 1) := by decide +kernel
theorem dX4_holds_32 : decode cX4_holds 32 = .ok (.iload_n 2, 1) := by decide +kernel
theorem dX4_holds_33 : decode cX4_holds 33 = .ok (.bipush 100, 2) := by decide +kernel
theorem dX4_holds_35 : decode cX4_holds 35 = .ok (.if_icmp .ge 22, 3) := by decide +kernel
theorem dX4_holds_38 : decode cX4_holds 38 = .ok (.aload_n 0, 1) := by decide +kernel
theorem dX4_holds_39 : decode cX4_holds 39 = .ok (.iload_n 1, 1) := by decide +kernel
theorem dX4_holds_40 : decode cX4_holds 40 = .ok (.invokevirtual 84, 3) := by decide +kernel
theorem dX4_holds_43 : decode cX4_holds 43 = .ok (.ifCond .eq 14, 3) := by decide +kernel
theorem dX4_holds_46 : decode cX4_holds 46 = .ok (.aload_n 0, 1) := by decide +kernel
theorem dX4_holds_47 : decode cX4_holds 47 = .ok (.invokevirtual 91, 3) := by decide +kernel
theorem dX4_holds_50 : decode cX4_holds 50 = .ok (.pop, 1) := by decide +kernel
theorem dX4_holds_51 : decode cX4_holds 51 = .ok (.iinc 2 1, 3) := by decide +kernel
theorem dX4_holds_54 : decode cX4_holds 54 = .ok (.goto (-22), 3) := by decide +kernel
theorem dX4_holds_57 : decode cX4_holds 57 = .ok (.aload_n 0, 1) := by decide +kernel
theorem dX4_holds_58 : decode cX4_holds 58 = .ok (.iload_n 1, 1) := by decide +kernel
theorem dX4_holds_59 : decode cX4_holds 59 = .ok (.invokevirtual 84, 3) := by decide +kernel
theorem dX4_holds_62 : decode cX4_holds 62 = .ok (.istore_n 3, 1) := by decide +kernel
theorem dX4_holds_63 : decode cX4_holds 63 = .ok (.aload_n 0, 1) := by decide +kernel
theorem dX4_holds_64 : decode cX4_holds 64 = .ok (.invokevirtual 157, 3) := by decide +kernel
theorem dX4_holds_67 : decode cX4_holds 67 = .ok (.iload_n 3, 1) := by decide +kernel
theorem dX4_holds_68 : decode cX4_holds 68 = .ok (.ifCond .eq 8, 3) := by decide +kernel
theorem dX4_holds_71 : decode cX4_holds 71 = .ok (.bipush (-9), 2) := by decide +kernel
theorem dX4_holds_73 : decode cX4_holds 73 = .ok (.goto 4, 3) := by decide +kernel
theorem dX4_holds_76 : decode cX4_holds 76 = .ok (.iload_n 2, 1) := by decide +kernel
theorem dX4_holds_77 : decode cX4_holds 77 = .ok (.ireturn, 1) := by decide +kernel
theorem dX4_draws_0 : decode cX4_draws 0 = .ok (.aload_n 0, 1) := by decide +kernel
theorem dX4_draws_1 : decode cX4_draws 1 = .ok (.iload_n 1, 1) := by decide +kernel
theorem dX4_draws_2 : decode cX4_draws 2 = .ok (.iconst 1, 1) := by decide +kernel
theorem dX4_draws_3 : decode cX4_draws 3 = .ok (.bipush 99, 2) := by decide +kernel
theorem dX4_draws_5 : decode cX4_draws 5 = .ok (.invokestatic 39, 3) := by decide +kernel
theorem dX4_draws_8 : decode cX4_draws 8 = .ok (.ifCond .eq 7, 3) := by decide +kernel
theorem dX4_draws_11 : decode cX4_draws 11 = .ok (.iconst 0, 1) := by decide +kernel
theorem dX4_draws_12 : decode cX4_draws 12 = .ok (.goto 4, 3) := by decide +kernel
theorem dX4_draws_15 : decode cX4_draws 15 = .ok (.iconst 1, 1) := by decide +kernel
theorem dX4_draws_16 : decode cX4_draws 16 = .ok (.putfield 35, 3) := by decide +kernel
theorem dX4_draws_19 : decode cX4_draws 19 = .ok (.aload_n 0, 1) := by decide +kernel
theorem dX4_draws_20 : decode cX4_draws 20 = .ok (.getfield 35, 3) := by decide +kernel
theorem dX4_draws_23 : decode cX4_draws 23 = .ok (.ifCond .le 5, 3) := by decide +kernel
theorem dX4_draws_26 : decode cX4_draws 26 = .ok (.iconst 0, 1) := by decide +kernel
theorem dX4_draws_27 : decode cX4_draws 27 = .ok (.ireturn, 1) := by decide +kernel
theorem dX4_draws_28 : decode cX4_draws 28 = .ok (.aload_n 0, 1) := by decide +kernel
theorem dX4_draws_29 : decode cX4_draws 29 = .ok (.invokevirtual 150, 3) := by decide +kernel
theorem dX4_draws_32 : decode cX4_draws 32 = .ok (.iconst 0, 1) := by decide +kernel
theorem dX4_draws_33 : decode cX4_draws 33 = .ok (.istore_n 2, 1) := by decide +kernel
theorem dX4_draws_34 : decode cX4_draws 34 = .ok (.aload_n 0, 1) := by decide +kernel
theorem dX4_draws_35 : decode cX4_draws 35 = .ok (.iload_n 1, 1) := by decide +kernel
theorem dX4_draws_36 : decode cX4_draws 36 = .ok (.invokevirtual 193, 3) := by decide +kernel
theorem dX4_draws_39 : decode cX4_draws 39 = .ok (.ifCond .le 9, 3) := by decide +kernel
theorem dX4_draws_42 : decode cX4_draws 42 = .ok (.iinc 2 1, 3) := by decide +kernel
theorem dX4_draws_45 : decode cX4_draws 45 = .ok (.goto (-11), 3) := by decide +kernel
theorem dX4_draws_48 : decode cX4_draws 48 = .ok (.aload_n 0, 1) := by decide +kernel
theorem dX4_draws_49 : decode cX4_draws 49 = .ok (.invokevirtual 157, 3) := by decide +kernel
theorem dX4_draws_52 : decode cX4_draws 52 = .ok (.iload_n 2, 1) := by decide +kernel
theorem dX4_draws_53 : decode cX4_draws 53 = .ok (.ireturn, 1) := by decide +kernel
theorem dX4_most_0 : decode cX4_most 0 = .ok (.aload_n 0, 1) := by decide +kernel
theorem dX4_most_1 : decode cX4_most 1 = .ok (.iconst 0, 1) := by decide +kernel
theorem dX4_most_2 : decode cX4_most 2 = .ok (.putfield 35, 3) := by decide +kernel
theorem dX4_most_5 : decode cX4_most 5 = .ok (.iconst 0, 1) := by decide +kernel
theorem dX4_most_6 : decode cX4_most 6 = .ok (.istore_n 1, 1) := by decide +kernel
theorem dX4_most_7 : decode cX4_most 7 = .ok (.aload_n 0, 1) := by decide +kernel
theorem dX4_most_8 : decode cX4_most 8 = .ok (.invokevirtual 150, 3) := by decide +kernel
theorem dX4_most_11 : decode cX4_most 11 = .ok (.iconst 1, 1) := by decide +kernel
theorem dX4_most_12 : decode cX4_most 12 = .ok (.istore_n 2, 1) := by decide +kernel
theorem dX4_most_13 : decode cX4_most 13 = .ok (.iload_n 2, 1) := by decide +kernel
theorem dX4_most_14 : decode cX4_most 14 = .ok (.bipush 100, 2) := by decide +kernel
theorem dX4_most_16 : decode cX4_most 16 = .ok (.if_icmp .ge 27, 3) := by decide +kernel
theorem dX4_most_19 : decode cX4_most 19 = .ok (.aload_n 0, 1) := by decide +kernel
theorem dX4_most_20 : decode cX4_most 20 = .ok (.iload_n 2, 1) := by decide +kernel
theorem dX4_most_21 : decode cX4_most 21 = .ok (.invokevirtual 193, 3) := by decide +kernel
theorem dX4_most_24 : decode cX4_most 24 = .ok (.ifCond .le 7, 3) := by decide +kernel
theorem dX4_most_27 : decode cX4_most 27 = .ok (.iload_n 2, 1) := by decide +kernel
theorem dX4_most_28 : decode cX4_most 28 = .ok (.goto 4, 3) := by decide +kernel
theorem dX4_most_31 : decode cX4_most 31 = .ok (.iload_n 1, 1) := by decide +kernel
theorem dX4_most_32 : decode cX4_most 32 = .ok (.istore_n 1, 1) := by decide +kernel
theorem dX4_most_33 : decode cX4_most 33 = .ok (.aload_n 0, 1) := by decide +kernel
theorem dX4_most_34 : decode cX4_most 34 = .ok (.invokevirtual 157, 3) := by decide +kernel
theorem dX4_most_37 : decode cX4_most 37 = .ok (.iinc 2 1, 3) := by decide +kernel
theorem dX4_most_40 : decode cX4_most 40 = .ok (.goto (-27), 3) := by decide +kernel
theorem dX4_most_43 : decode cX4_most 43 = .ok (.iload_n 1, 1) := by decide +kernel
theorem dX4_most_44 : decode cX4_most 44 = .ok (.ireturn, 1) := by decide +kernel
theorem dX4_bestLender_0 : decode cX4_bestLender 0 = .ok (.aload_n 0, 1) := by decide +kernel
theorem dX4_bestLender_1 : decode cX4_bestLender 1 = .ok (.aload_n 0, 1) := by decide +kernel
theorem dX4_bestLender_2 : decode cX4_bestLender 2 = .ok (.iload_n 1, 1) := by decide +kernel
theorem dX4_bestLender_3 : decode cX4_bestLender 3 = .ok (.invokevirtual 135, 3) := by decide +kernel
theorem dX4_bestLender_6 : decode cX4_bestLender 6 = .ok (.ifCond .ne 7, 3) := by decide +kernel
theorem dX4_bestLender_9 : decode cX4_bestLender 9 = .ok (.iconst 1, 1) := by decide +kernel
theorem dX4_bestLender_10 : decode cX4_bestLender 10 = .ok (.goto 18, 3) := by decide +kernel
theorem dX4_bestLender_13 : decode cX4_bestLender 13 = .ok (.iload_n 2, 1) := by decide +kernel
theorem dX4_bestLender_14 : decode cX4_bestLender 14 = .ok (.iconst 1, 1) := by decide +kernel
theorem dX4_bestLender_15 : decode cX4_bestLender 15 = .ok (.bipush 99, 2) := by decide +kernel
theorem dX4_bestLender_17 : decode cX4_bestLender 17 = .ok (.invokestatic 39, 3) := by decide +kernel
theorem dX4_bestLender_20 : decode cX4_bestLender 20 = .ok (.ifCond .ne 7, 3) := by decide +kernel
theorem dX4_bestLender_23 : decode cX4_bestLender 23 = .ok (.iconst 2, 1) := by decide +kernel
theorem dX4_bestLender_24 : decode cX4_bestLender 24 = .ok (.goto 4, 3) := by decide +kernel
theorem dX4_bestLender_27 : decode cX4_bestLender 27 = .ok (.iconst 0, 1) := by decide +kernel
theorem dX4_bestLender_28 : decode cX4_bestLender 28 = .ok (.putfield 35, 3) := by decide +kernel
theorem dX4_bestLender_31 : decode cX4_bestLender 31 = .ok (.aload_n 0, 1) := by decide +kernel
theorem dX4_bestLender_32 : decode cX4_bestLender 32 = .ok (.getfield 35, 3) := by decide +kernel
theorem dX4_bestLender_35 : decode cX4_bestLender 35 = .ok (.ifCond .le 5, 3) := by decide +kernel
theorem dX4_bestLender_38 : decode cX4_bestLender 38 = .ok (.iconst 0, 1) := by decide +kernel
theorem dX4_bestLender_39 : decode cX4_bestLender 39 = .ok (.ireturn, 1) := by decide +kernel
theorem dX4_bestLender_40 : decode cX4_bestLender 40 = .ok (.bipush (-9), 2) := by decide +kernel
theorem dX4_bestLender_42 : decode cX4_bestLender 42 = .ok (.istore_n 3, 1) := by decide +kernel
theorem dX4_bestLender_43 : decode cX4_bestLender 43 = .ok (.iconst 0, 1) := by decide +kernel
theorem dX4_bestLender_44 : decode cX4_bestLender 44 = .ok (.istore 4, 2) := by decide +kernel
theorem dX4_bestLender_46 : decode cX4_bestLender 46 = .ok (.iconst 0, 1) := by decide +kernel
theorem dX4_bestLender_47 : decode cX4_bestLender 47 = .ok (.istore 5, 2) := by decide +kernel
theorem dX4_bestLender_49 : decode cX4_bestLender 49 = .ok (.iload 5, 2) := by decide +kernel
theorem dX4_bestLender_51 : decode cX4_bestLender 51 = .ok (.aload_n 0, 1) := by decide +kernel
theorem dX4_bestLender_52 : decode cX4_bestLender 52 = .ok (.getfield 7, 3) := by decide +kernel
theorem dX4_bestLender_55 : decode cX4_bestLender 55 = .ok (.iconst 1, 1) := by decide +kernel
theorem dX4_bestLender_56 : decode cX4_bestLender 56 = .ok (.iaload, 1) := by decide +kernel
theorem dX4_bestLender_57 : decode cX4_bestLender 57 = .ok (.if_icmp .ge 125, 3) := by decide +kernel
theorem dX4_bestLender_60 : decode cX4_bestLender 60 = .ok (.aload_n 0, 1) := by decide +kernel
theorem dX4_bestLender_61 : decode cX4_bestLender 61 = .ok (.iload_n 1, 1) := by decide +kernel
theorem dX4_bestLender_62 : decode cX4_bestLender 62 = .ok (.invokevirtual 84, 3) := by decide +kernel
theorem dX4_bestLender_65 : decode cX4_bestLender 65 = .ok (.ifCond .eq 117, 3) := by decide +kernel
theorem dX4_bestLender_68 : decode cX4_bestLender 68 = .ok (.aload_n 0, 1) := by decide +kernel
theorem dX4_bestLender_69 : decode cX4_bestLender 69 = .ok (.iload_n 1, 1) := by decide +kernel
theorem dX4_bestLender_70 : decode cX4_bestLender 70 = .ok (.iconst 1, 1) := by decide +kernel
theorem dX4_bestLender_71 : decode cX4_bestLender 71 = .ok (.invokevirtual 43, 3) := by decide +kernel
theorem dX4_bestLender_74 : decode cX4_bestLender 74 = .ok (.iload_n 2, 1) := by decide +kernel
theorem dX4_bestLender_75 : decode cX4_bestLender 75 = .ok (.iadd, 1) := by decide +kernel
theorem dX4_bestLender_76 : decode cX4_bestLender 76 = .ok (.aload_n 0, 1) := by decide +kernel
theorem dX4_bestLender_77 : decode cX4_bestLender 77 = .ok (.iload_n 1, 1) := by decide +kernel
theorem dX4_bestLender_78 : decode cX4_bestLender 78 = .ok (.iconst 0, 1) := by decide +kernel
theorem dX4_bestLender_79 : decode cX4_bestLender 79 = .ok (.invokevirtual 43, 3) := by decide +kernel
theorem dX4_bestLender_82 : decode cX4_bestLender 82 = .ok (.if_icmp .gt 100, 3) := by decide +kernel
theorem dX4_bestLender_85 : decode cX4_bestLender 85 = .ok (.iload_n 2, 1) := by decide +kernel
theorem dX4_bestLender_86 : decode cX4_bestLender 86 = .ok (.iload 5, 2) := by decide +kernel
theorem dX4_bestLender_88 : decode cX4_bestLender 88 = .ok (.iload_n 1, 1) := by decide +kernel
theorem dX4_bestLender_89 : decode cX4_bestLender 89 = .ok (.invokestatic 98, 3) := by decide +kernel
theorem dX4_bestLender_92 : decode cX4_bestLender 92 = .ok (.istore 6, 2) := by decide +kernel
theorem dX4_bestLender_94 : decode cX4_bestLender 94 = .ok (.iload 5, 2) := by decide +kernel
theorem dX4_bestLender_96 : decode cX4_bestLender 96 = .ok (.iload_n 1, 1) := by decide +kernel
theorem dX4_bestLender_97 : decode cX4_bestLender 97 = .ok (.if_icmp .eq 28, 3) := by decide +kernel
theorem dX4_bestLender_100 : decode cX4_bestLender 100 = .ok (.aload_n 0, 1) := by decide +kernel
theorem dX4_bestLender_101 : decode cX4_bestLender 101 = .ok (.iload 5, 2) := by decide +kernel
theorem dX4_bestLender_103 : decode cX4_bestLender 103 = .ok (.invokevirtual 84, 3) := by decide +kernel
theorem dX4_bestLender_106 : decode cX4_bestLender 106 = .ok (.ifCond .eq 19, 3) := by decide +kernel
theorem dX4_bestLender_109 : decode cX4_bestLender 109 = .ok (.aload_n 0, 1) := by decide +kernel
theorem dX4_bestLender_110 : decode cX4_bestLender 110 = .ok (.iload 5, 2) := by decide +kernel
theorem dX4_bestLender_112 : decode cX4_bestLender 112 = .ok (.iconst 1, 1) := by decide +kernel
theorem dX4_bestLender_113 : decode cX4_bestLender 113 = .ok (.invokevirtual 43, 3) := by decide +kernel
theorem dX4_bestLender_116 : decode cX4_bestLender 116 = .ok (.iload 6, 2) := by decide +kernel
theorem dX4_bestLender_118 : decode cX4_bestLender 118 = .ok (.if_icmp .lt 7, 3) := by decide +kernel
theorem dX4_bestLender_121 : decode cX4_bestLender 121 = .ok (.iconst 1, 1) := by decide +kernel
theorem dX4_bestLender_122 : decode cX4_bestLender 122 = .ok (.goto 4, 3) := by decide +kernel
theorem dX4_bestLender_125 : decode cX4_bestLender 125 = .ok (.iconst 0, 1) := by decide +kernel
theorem dX4_bestLender_126 : decode cX4_bestLender 126 = .ok (.istore 7, 2) := by decide +kernel
theorem dX4_bestLender_128 : decode cX4_bestLender 128 = .ok (.iload 7, 2) := by decide +kernel
theorem dX4_bestLender_130 : decode cX4_bestLender 130 = .ok (.ifCond .eq 46, 3) := by decide +kernel
theorem dX4_bestLender_133 : decode cX4_bestLender 133 = .ok (.iload_n 3, 1) := by decide +kernel
theorem dX4_bestLender_134 : decode cX4_bestLender 134 = .ok (.bipush (-9), 2) := by decide +kernel
theorem dX4_bestLender_136 : decode cX4_bestLender 136 = .ok (.if_icmp .eq 33, 3) := by decide +kernel
theorem dX4_bestLender_139 : decode cX4_bestLender 139 = .ok (.iload 6, 2) := by decide +kernel
theorem dX4_bestLender_141 : decode cX4_bestLender 141 = .ok (.iload 4, 2) := by decide +kernel
theorem dX4_bestLender_143 : decode cX4_bestLender 143 = .ok (.if_icmp .lt 26, 3) := by decide +kernel
theorem dX4_bestLender_146 : decode cX4_bestLender 146 = .ok (.iload 6, 2) := by decide +kernel
theorem dX4_bestLender_148 : decode cX4_bestLender 148 = .ok (.iload 4, 2) := by decide +kernel
theorem dX4_bestLender_150 : decode cX4_bestLender 150 = .ok (.if_icmp .ne 26, 3) := by decide +kernel
theorem dX4_bestLender_153 : decode cX4_bestLender 153 = .ok (.aload_n 0, 1) := by decide +kernel
theorem dX4_bestLender_154 : decode cX4_bestLender 154 = .ok (.iload 5, 2) := by decide +kernel
theorem dX4_bestLender_156 : decode cX4_bestLender 156 = .ok (.iconst 1, 1) := by decide +kernel
theorem dX4_bestLender_157 : decode cX4_bestLender 157 = .ok (.invokevirtual 43, 3) := by decide +kernel
theorem dX4_bestLender_160 : decode cX4_bestLender 160 = .ok (.aload_n 0, 1) := by decide +kernel
theorem dX4_bestLender_161 : decode cX4_bestLender 161 = .ok (.iload_n 3, 1) := by decide +kernel
theorem dX4_bestLender_162 : decode cX4_bestLender 162 = .ok (.iconst 1, 1) := by decide +kernel
theorem dX4_bestLender_163 : decode cX4_bestLender 163 = .ok (.invokevirtual 43, 3) := by decide +kernel
theorem dX4_bestLender_166 : decode cX4_bestLender 166 = .ok (.if_icmp .le 10, 3) := by decide +kernel
theorem dX4_bestLender_169 : decode cX4_bestLender 169 = .ok (.iload 5, 2) := by decide +kernel
theorem dX4_bestLender_171 : decode cX4_bestLender 171 = .ok (.istore_n 3, 1) := by decide +kernel
theorem dX4_bestLender_172 : decode cX4_bestLender 172 = .ok (.iload 6, 2) := by decide +kernel
theorem dX4_bestLender_174 : decode cX4_bestLender 174 = .ok (.istore 4, 2) := by decide +kernel
theorem dX4_bestLender_176 : decode cX4_bestLender 176 = .ok (.iinc 5 1, 3) := by decide +kernel
theorem dX4_bestLender_179 : decode cX4_bestLender 179 = .ok (.goto (-130), 3) := by decide +kernel
theorem dX4_bestLender_182 : decode cX4_bestLender 182 = .ok (.iload_n 3, 1) := by decide +kernel
theorem dX4_bestLender_183 : decode cX4_bestLender 183 = .ok (.ireturn, 1) := by decide +kernel
theorem dX4_costs_0 : decode cX4_costs 0 = .ok (.aload_n 0, 1) := by decide +kernel
theorem dX4_costs_1 : decode cX4_costs 1 = .ok (.aload_n 0, 1) := by decide +kernel
theorem dX4_costs_2 : decode cX4_costs 2 = .ok (.iload_n 1, 1) := by decide +kernel
theorem dX4_costs_3 : decode cX4_costs 3 = .ok (.invokevirtual 175, 3) := by decide +kernel
theorem dX4_costs_6 : decode cX4_costs 6 = .ok (.ifCond .ne 7, 3) := by decide +kernel
theorem dX4_costs_9 : decode cX4_costs 9 = .ok (.iconst 1, 1) := by decide +kernel
theorem dX4_costs_10 : decode cX4_costs 10 = .ok (.goto 18, 3) := by decide +kernel
theorem dX4_costs_13 : decode cX4_costs 13 = .ok (.iload_n 2, 1) := by decide +kernel
theorem dX4_costs_14 : decode cX4_costs 14 = .ok (.iconst 1, 1) := by decide +kernel
theorem dX4_costs_15 : decode cX4_costs 15 = .ok (.bipush 50, 2) := by decide +kernel
theorem dX4_costs_17 : decode cX4_costs 17 = .ok (.invokestatic 39, 3) := by decide +kernel
theorem dX4_costs_20 : decode cX4_costs 20 = .ok (.ifCond .ne 7, 3) := by decide +kernel
theorem dX4_costs_23 : decode cX4_costs 23 = .ok (.iconst 2, 1) := by decide +kernel
theorem dX4_costs_24 : decode cX4_costs 24 = .ok (.goto 4, 3) := by decide +kernel
theorem dX4_costs_27 : decode cX4_costs 27 = .ok (.iconst 0, 1) := by decide +kernel
theorem dX4_costs_28 : decode cX4_costs 28 = .ok (.putfield 35, 3) := by decide +kernel
theorem dX4_costs_31 : decode cX4_costs 31 = .ok (.aload_n 0, 1) := by decide +kernel
theorem dX4_costs_32 : decode cX4_costs 32 = .ok (.getfield 35, 3) := by decide +kernel
theorem dX4_costs_35 : decode cX4_costs 35 = .ok (.ifCond .le 5, 3) := by decide +kernel
theorem dX4_costs_38 : decode cX4_costs 38 = .ok (.iconst 0, 1) := by decide +kernel
theorem dX4_costs_39 : decode cX4_costs 39 = .ok (.ireturn, 1) := by decide +kernel
theorem dX4_costs_40 : decode cX4_costs 40 = .ok (.aload_n 0, 1) := by decide +kernel
theorem dX4_costs_41 : decode cX4_costs 41 = .ok (.invokevirtual 150, 3) := by decide +kernel
theorem dX4_costs_44 : decode cX4_costs 44 = .ok (.aload_n 0, 1) := by decide +kernel
theorem dX4_costs_45 : decode cX4_costs 45 = .ok (.iload_n 1, 1) := by decide +kernel
theorem dX4_costs_46 : decode cX4_costs 46 = .ok (.putfield 61, 3) := by decide +kernel
theorem dX4_costs_49 : decode cX4_costs 49 = .ok (.aload_n 0, 1) := by decide +kernel
theorem dX4_costs_50 : decode cX4_costs 50 = .ok (.iconst 0, 1) := by decide +kernel
theorem dX4_costs_51 : decode cX4_costs 51 = .ok (.putfield 71, 3) := by decide +kernel
theorem dX4_costs_54 : decode cX4_costs 54 = .ok (.aload_n 0, 1) := by decide +kernel
theorem dX4_costs_55 : decode cX4_costs 55 = .ok (.iload_n 2, 1) := by decide +kernel
theorem dX4_costs_56 : decode cX4_costs 56 = .ok (.invokevirtual 196, 3) := by decide +kernel
theorem dX4_costs_59 : decode cX4_costs 59 = .ok (.pop, 1) := by decide +kernel
theorem dX4_costs_60 : decode cX4_costs 60 = .ok (.aload_n 0, 1) := by decide +kernel
theorem dX4_costs_61 : decode cX4_costs 61 = .ok (.bipush (-9), 2) := by decide +kernel
theorem dX4_costs_63 : decode cX4_costs 63 = .ok (.putfield 61, 3) := by decide +kernel
theorem dX4_costs_66 : decode cX4_costs 66 = .ok (.aload_n 0, 1) := by decide +kernel
theorem dX4_costs_67 : decode cX4_costs 67 = .ok (.invokevirtual 157, 3) := by decide +kernel
theorem dX4_costs_70 : decode cX4_costs 70 = .ok (.aload_n 0, 1) := by decide +kernel
theorem dX4_costs_71 : decode cX4_costs 71 = .ok (.getfield 71, 3) := by decide +kernel
theorem dX4_costs_74 : decode cX4_costs 74 = .ok (.ireturn, 1) := by decide +kernel
theorem dX4_isLent_0 : decode cX4_isLent 0 = .ok (.aload_n 0, 1) := by decide +kernel
theorem dX4_isLent_1 : decode cX4_isLent 1 = .ok (.iload_n 1, 1) := by decide +kernel
theorem dX4_isLent_2 : decode cX4_isLent 2 = .ok (.iload_n 2, 1) := by decide +kernel
theorem dX4_isLent_3 : decode cX4_isLent 3 = .ok (.iload_n 3, 1) := by decide +kernel
theorem dX4_isLent_4 : decode cX4_isLent 4 = .ok (.bipush 10, 2) := by decide +kernel
theorem dX4_isLent_6 : decode cX4_isLent 6 = .ok (.invokevirtual 181, 3) := by decide +kernel
theorem dX4_isLent_9 : decode cX4_isLent 9 = .ok (.ifCond .ne 7, 3) := by decide +kernel
theorem dX4_isLent_12 : decode cX4_isLent 12 = .ok (.iconst 1, 1) := by decide +kernel
theorem dX4_isLent_13 : decode cX4_isLent 13 = .ok (.goto 4, 3) := by decide +kernel
theorem dX4_isLent_16 : decode cX4_isLent 16 = .ok (.iconst 0, 1) := by decide +kernel
theorem dX4_isLent_17 : decode cX4_isLent 17 = .ok (.istore 4, 2) := by decide +kernel
theorem dX4_isLent_19 : decode cX4_isLent 19 = .ok (.iload 4, 2) := by decide +kernel
theorem dX4_isLent_21 : decode cX4_isLent 21 = .ok (.ifCond .eq 13, 3) := by decide +kernel
theorem dX4_isLent_24 : decode cX4_isLent 24 = .ok (.aload_n 0, 1) := by decide +kernel
theorem dX4_isLent_25 : decode cX4_isLent 25 = .ok (.iload_n 1, 1) := by decide +kernel
theorem dX4_isLent_26 : decode cX4_isLent 26 = .ok (.iload_n 2, 1) := by decide +kernel
theorem dX4_isLent_27 : decode cX4_isLent 27 = .ok (.iload_n 3, 1) := by decide +kernel
theorem dX4_isLent_28 : decode cX4_isLent 28 = .ok (.bipush 10, 2) := by decide +kernel
theorem dX4_isLent_30 : decode cX4_isLent 30 = .ok (.invokevirtual 101, 3) := by decide +kernel
theorem dX4_isLent_33 : decode cX4_isLent 33 = .ok (.pop, 1) := by decide +kernel
theorem dX4_isLent_34 : decode cX4_isLent 34 = .ok (.iload 4, 2) := by decide +kernel
theorem dX4_isLent_36 : decode cX4_isLent 36 = .ok (.ireturn, 1) := by decide +kernel
theorem dX4_isRepaid_0 : decode cX4_isRepaid 0 = .ok (.aload_n 0, 1) := by decide +kernel
theorem dX4_isRepaid_1 : decode cX4_isRepaid 1 = .ok (.iload_n 1, 1) := by decide +kernel
theorem dX4_isRepaid_2 : decode cX4_isRepaid 2 = .ok (.iload_n 2, 1) := by decide +kernel
theorem dX4_isRepaid_3 : decode cX4_isRepaid 3 = .ok (.invokevirtual 184, 3) := by decide +kernel
theorem dX4_isRepaid_6 : decode cX4_isRepaid 6 = .ok (.ifCond .ne 7, 3) := by decide +kernel
theorem dX4_isRepaid_9 : decode cX4_isRepaid 9 = .ok (.iconst 1, 1) := by decide +kernel
theorem dX4_isRepaid_10 : decode cX4_isRepaid 10 = .ok (.goto 4, 3) := by decide +kernel
theorem dX4_isRepaid_13 : decode cX4_isRepaid 13 = .ok (.iconst 0, 1) := by decide +kernel
theorem dX4_isRepaid_14 : decode cX4_isRepaid 14 = .ok (.istore_n 3, 1) := by decide +kernel
theorem dX4_isRepaid_15 : decode cX4_isRepaid 15 = .ok (.iload_n 3, 1) := by decide +kernel
theorem dX4_isRepaid_16 : decode cX4_isRepaid 16 = .ok (.ifCond .eq 10, 3) := by decide +kernel
theorem dX4_isRepaid_19 : decode cX4_isRepaid 19 = .ok (.aload_n 0, 1) := by decide +kernel
theorem dX4_isRepaid_20 : decode cX4_isRepaid 20 = .ok (.iload_n 1, 1) := by decide +kernel
theorem dX4_isRepaid_21 : decode cX4_isRepaid 21 = .ok (.iload_n 2, 1) := by decide +kernel
theorem dX4_isRepaid_22 : decode cX4_isRepaid 22 = .ok (.invokevirtual 187, 3) := by decide +kernel
theorem dX4_isRepaid_25 : decode cX4_isRepaid 25 = .ok (.pop, 1) := by decide +kernel
theorem dX4_isRepaid_26 : decode cX4_isRepaid 26 = .ok (.iload_n 3, 1) := by decide +kernel
theorem dX4_isRepaid_27 : decode cX4_isRepaid 27 = .ok (.ireturn, 1) := by decide +kernel
theorem dX4_isCharged_0 : decode cX4_isCharged 0 = .ok (.iload_n 1, 1) := by decide +kernel
theorem dX4_isCharged_1 : decode cX4_isCharged 1 = .ok (.ifCond .le 9, 3) := by decide +kernel
theorem dX4_isCharged_4 : decode cX4_isCharged 4 = .ok (.aload_n 0, 1) := by decide +kernel
theorem dX4_isCharged_5 : decode cX4_isCharged 5 = .ok (.iload_n 1, 1) := by decide +kernel
theorem dX4_isCharged_6 : decode cX4_isCharged 6 = .ok (.invokevirtual 190, 3) := by decide +kernel
theorem dX4_isCharged_9 : decode cX4_isCharged 9 = .ok (.pop, 1) := by decide +kernel
theorem dX4_isCharged_10 : decode cX4_isCharged 10 = .ok (.iload_n 1, 1) := by decide +kernel
theorem dX4_isCharged_11 : decode cX4_isCharged 11 = .ok (.ifCond .le 7, 3) := by decide +kernel
theorem dX4_isCharged_14 : decode cX4_isCharged 14 = .ok (.iconst 1, 1) := by decide +kernel
theorem dX4_isCharged_15 : decode cX4_isCharged 15 = .ok (.goto 4, 3) := by decide +kernel
theorem dX4_isCharged_18 : decode cX4_isCharged 18 = .ok (.iconst 0, 1) := by decide +kernel
theorem dX4_isCharged_19 : decode cX4_isCharged 19 = .ok (.ireturn, 1) := by decide +kernel
theorem dX4_isPassed_0 : decode cX4_isPassed 0 = .ok (.iload_n 1, 1) := by decide +kernel
theorem dX4_isPassed_1 : decode cX4_isPassed 1 = .ok (.iconst 1, 1) := by decide +kernel
theorem dX4_isPassed_2 : decode cX4_isPassed 2 = .ok (.bipush 50, 2) := by decide +kernel
theorem dX4_isPassed_4 : decode cX4_isPassed 4 = .ok (.invokestatic 39, 3) := by decide +kernel
theorem dX4_isPassed_7 : decode cX4_isPassed 7 = .ok (.istore_n 2, 1) := by decide +kernel
theorem dX4_isPassed_8 : decode cX4_isPassed 8 = .ok (.aload_n 0, 1) := by decide +kernel
theorem dX4_isPassed_9 : decode cX4_isPassed 9 = .ok (.iload_n 2, 1) := by decide +kernel
theorem dX4_isPassed_10 : decode cX4_isPassed 10 = .ok (.ifCond .eq 7, 3) := by decide +kernel
theorem dX4_isPassed_13 : decode cX4_isPassed 13 = .ok (.iload_n 1, 1) := by decide +kernel
theorem dX4_isPassed_14 : decode cX4_isPassed 14 = .ok (.goto 4, 3) := by decide +kernel
theorem dX4_isPassed_17 : decode cX4_isPassed 17 = .ok (.iconst 0, 1) := by decide +kernel
theorem dX4_isPassed_18 : decode cX4_isPassed 18 = .ok (.invokevirtual 196, 3) := by decide +kernel
theorem dX4_isPassed_21 : decode cX4_isPassed 21 = .ok (.pop, 1) := by decide +kernel
theorem dX4_isPassed_22 : decode cX4_isPassed 22 = .ok (.iload_n 2, 1) := by decide +kernel
theorem dX4_isPassed_23 : decode cX4_isPassed 23 = .ok (.ireturn, 1) := by decide +kernel
theorem dX4_bits_0 : decode cX4_bits 0 = .ok (.iconst 0, 1) := by decide +kernel
theorem dX4_bits_1 : decode cX4_bits 1 = .ok (.istore_n 1, 1) := by decide +kernel
theorem dX4_bits_2 : decode cX4_bits 2 = .ok (.iconst 0, 1) := by decide +kernel
theorem dX4_bits_3 : decode cX4_bits 3 = .ok (.istore_n 2, 1) := by decide +kernel
theorem dX4_bits_4 : decode cX4_bits 4 = .ok (.iload_n 2, 1) := by decide +kernel
theorem dX4_bits_5 : decode cX4_bits 5 = .ok (.bipush 8, 2) := by decide +kernel
theorem dX4_bits_7 : decode cX4_bits 7 = .ok (.if_icmp .ge 17, 3) := by decide +kernel
theorem dX4_bits_10 : decode cX4_bits 10 = .ok (.iload_n 1, 1) := by decide +kernel
theorem dX4_bits_11 : decode cX4_bits 11 = .ok (.iload_n 0, 1) := by decide +kernel
theorem dX4_bits_12 : decode cX4_bits 12 = .ok (.iload_n 2, 1) := by decide +kernel
theorem dX4_bits_13 : decode cX4_bits 13 = .ok (.ishr, 1) := by decide +kernel
theorem dX4_bits_14 : decode cX4_bits 14 = .ok (.iconst 1, 1) := by decide +kernel
theorem dX4_bits_15 : decode cX4_bits 15 = .ok (.iand, 1) := by decide +kernel
theorem dX4_bits_16 : decode cX4_bits 16 = .ok (.iadd, 1) := by decide +kernel
theorem dX4_bits_17 : decode cX4_bits 17 = .ok (.istore_n 1, 1) := by decide +kernel
theorem dX4_bits_18 : decode cX4_bits 18 = .ok (.iinc 2 1, 3) := by decide +kernel
theorem dX4_bits_21 : decode cX4_bits 21 = .ok (.goto (-17), 3) := by decide +kernel
theorem dX4_bits_24 : decode cX4_bits 24 = .ok (.iload_n 1, 1) := by decide +kernel
theorem dX4_bits_25 : decode cX4_bits 25 = .ok (.ireturn, 1) := by decide +kernel
theorem dX4_succeeds_0 : decode cX4_succeeds 0 = .ok (.iload_n 1, 1) := by decide +kernel
theorem dX4_succeeds_1 : decode cX4_succeeds 1 = .ok (.sipush 1000, 3) := by decide +kernel
theorem dX4_succeeds_4 : decode cX4_succeeds 4 = .ok (.idiv, 1) := by decide +kernel
theorem dX4_succeeds_5 : decode cX4_succeeds 5 = .ok (.bipush 10, 2) := by decide +kernel
theorem dX4_succeeds_7 : decode cX4_succeeds 7 = .ok (.irem, 1) := by decide +kernel
theorem dX4_succeeds_8 : decode cX4_succeeds 8 = .ok (.istore_n 2, 1) := by decide +kernel
theorem dX4_succeeds_9 : decode cX4_succeeds 9 = .ok (.iload_n 1, 1) := by decide +kernel
theorem dX4_succeeds_10 : decode cX4_succeeds 10 = .ok (.bipush 100, 2) := by decide +kernel
theorem dX4_succeeds_12 : decode cX4_succeeds 12 = .ok (.idiv, 1) := by decide +kernel
theorem dX4_succeeds_13 : decode cX4_succeeds 13 = .ok (.bipush 10, 2) := by decide +kernel
theorem dX4_succeeds_15 : decode cX4_succeeds 15 = .ok (.irem, 1) := by decide +kernel
theorem dX4_succeeds_16 : decode cX4_succeeds 16 = .ok (.istore_n 3, 1) := by decide +kernel
theorem dX4_succeeds_17 : decode cX4_succeeds 17 = .ok (.iload_n 1, 1) := by decide +kernel
theorem dX4_succeeds_18 : decode cX4_succeeds 18 = .ok (.bipush 100, 2) := by decide +kernel
theorem dX4_succeeds_20 : decode cX4_succeeds 20 = .ok (.irem, 1) := by decide +kernel
theorem dX4_succeeds_21 : decode cX4_succeeds 21 = .ok (.istore 4, 2) := by decide +kernel
theorem dX4_succeeds_23 : decode cX4_succeeds 23 = .ok (.iload_n 1, 1) := by decide +kernel
theorem dX4_succeeds_24 : decode cX4_succeeds 24 = .ok (.sipush 10000, 3) := by decide +kernel
theorem dX4_succeeds_27 : decode cX4_succeeds 27 = .ok (.idiv, 1) := by decide +kernel
theorem dX4_succeeds_28 : decode cX4_succeeds 28 = .ok (.tableswitch 259 1 9 #[52, 61, 74, 95, 121, 142, 171, 206, 228], 52) := by decide +kernel
theorem dX4_succeeds_80 : decode cX4_succeeds 80 = .ok (.aload_n 0, 1) := by decide +kernel
theorem dX4_succeeds_81 : decode cX4_succeeds 81 = .ok (.iload_n 2, 1) := by decide +kernel
theorem dX4_succeeds_82 : decode cX4_succeeds 82 = .ok (.iload_n 3, 1) := by decide +kernel
theorem dX4_succeeds_83 : decode cX4_succeeds 83 = .ok (.iload 4, 2) := by decide +kernel
theorem dX4_succeeds_85 : decode cX4_succeeds 85 = .ok (.invokevirtual 199, 3) := by decide +kernel
theorem dX4_succeeds_88 : decode cX4_succeeds 88 = .ok (.ireturn, 1) := by decide +kernel
theorem dX4_succeeds_89 : decode cX4_succeeds 89 = .ok (.aload_n 0, 1) := by decide +kernel
theorem dX4_succeeds_90 : decode cX4_succeeds 90 = .ok (.bipush 10, 2) := by decide +kernel
theorem dX4_succeeds_92 : decode cX4_succeeds 92 = .ok (.iload_n 2, 1) := by decide +kernel
theorem dX4_succeeds_93 : decode cX4_succeeds 93 = .ok (.imul, 1) := by decide +kernel
theorem dX4_succeeds_94 : decode cX4_succeeds 94 = .ok (.iload_n 3, 1) := by decide +kernel
theorem dX4_succeeds_95 : decode cX4_succeeds 95 = .ok (.iadd, 1) := by decide +kernel
theorem dX4_succeeds_96 : decode cX4_succeeds 96 = .ok (.iload 4, 2) := by decide +kernel
theorem dX4_succeeds_98 : decode cX4_succeeds 98 = .ok (.invokevirtual 202, 3) := by decide +kernel
theorem dX4_succeeds_101 : decode cX4_succeeds 101 = .ok (.ireturn, 1) := by decide +kernel
theorem dX4_succeeds_102 : decode cX4_succeeds 102 = .ok (.iload_n 2, 1) := by decide +kernel
theorem dX4_succeeds_103 : decode cX4_succeeds 103 = .ok (.iload_n 3, 1) := by decide +kernel
theorem dX4_succeeds_104 : decode cX4_succeeds 104 = .ok (.iadd, 1) := by decide +kernel
theorem dX4_succeeds_105 : decode cX4_succeeds 105 = .ok (.ifCond .ne 16, 3) := by decide +kernel
theorem dX4_succeeds_108 : decode cX4_succeeds 108 = .ok (.aload_n 0, 1) := by decide +kernel
theorem dX4_succeeds_109 : decode cX4_succeeds 109 = .ok (.iload 4, 2) := by decide +kernel
theorem dX4_succeeds_111 : decode cX4_succeeds 111 = .ok (.invokevirtual 205, 3) := by decide +kernel
theorem dX4_succeeds_114 : decode cX4_succeeds 114 = .ok (.ifCond .eq 7, 3) := by decide +kernel
theorem dX4_succeeds_117 : decode cX4_succeeds 117 = .ok (.iconst 1, 1) := by decide +kernel
theorem dX4_succeeds_118 : decode cX4_succeeds 118 = .ok (.goto 4, 3) := by decide +kernel
theorem dX4_succeeds_121 : decode cX4_succeeds 121 = .ok (.iconst 0, 1) := by decide +kernel
theorem dX4_succeeds_122 : decode cX4_succeeds 122 = .ok (.ireturn, 1) := by decide +kernel
theorem dX4_succeeds_123 : decode cX4_succeeds 123 = .ok (.iload_n 2, 1) := by decide +kernel
theorem dX4_succeeds_124 : decode cX4_succeeds 124 = .ok (.iload_n 3, 1) := by decide +kernel
theorem dX4_succeeds_125 : decode cX4_succeeds 125 = .ok (.iadd, 1) := by decide +kernel
theorem dX4_succeeds_126 : decode cX4_succeeds 126 = .ok (.ifCond .ne 21, 3) := by decide +kernel
theorem dX4_succeeds_129 : decode cX4_succeeds 129 = .ok (.iload 4, 2) := by decide +kernel
theorem dX4_succeeds_131 : decode cX4_succeeds 131 = .ok (.ifCond .le 16, 3) := by decide +kernel
theorem dX4_succeeds_134 : decode cX4_succeeds 134 = .ok (.aload_n 0, 1) := by decide +kernel
theorem dX4_succeeds_135 : decode cX4_succeeds 135 = .ok (.iload 4, 2) := by decide +kernel
theorem dX4_succeeds_137 : decode cX4_succeeds 137 = .ok (.invokevirtual 193, 3) := by decide +kernel
theorem dX4_succeeds_140 : decode cX4_succeeds 140 = .ok (.ifCond .le 7, 3) := by decide +kernel
theorem dX4_succeeds_143 : decode cX4_succeeds 143 = .ok (.iconst 1, 1) := by decide +kernel
theorem dX4_succeeds_144 : decode cX4_succeeds 144 = .ok (.goto 4, 3) := by decide +kernel
theorem dX4_succeeds_147 : decode cX4_succeeds 147 = .ok (.iconst 0, 1) := by decide +kernel
theorem dX4_succeeds_148 : decode cX4_succeeds 148 = .ok (.ireturn, 1) := by decide +kernel
theorem dX4_succeeds_149 : decode cX4_succeeds 149 = .ok (.iload_n 2, 1) := by decide +kernel
theorem dX4_succeeds_150 : decode cX4_succeeds 150 = .ok (.iload_n 3, 1) := by decide +kernel
theorem dX4_succeeds_151 : decode cX4_succeeds 151 = .ok (.iadd, 1) := by decide +kernel
theorem dX4_succeeds_152 : decode cX4_succeeds 152 = .ok (.ifCond .ne 16, 3) := by decide +kernel
theorem dX4_succeeds_155 : decode cX4_succeeds 155 = .ok (.aload_n 0, 1) := by decide +kernel
theorem dX4_succeeds_156 : decode cX4_succeeds 156 = .ok (.iload 4, 2) := by decide +kernel
theorem dX4_succeeds_158 : decode cX4_succeeds 158 = .ok (.invokevirtual 208, 3) := by decide +kernel
theorem dX4_succeeds_161 : decode cX4_succeeds 161 = .ok (.ifCond .eq 7, 3) := by decide +kernel
theorem dX4_succeeds_164 : decode cX4_succeeds 164 = .ok (.iconst 1, 1) := by decide +kernel
theorem dX4_succeeds_165 : decode cX4_succeeds 165 = .ok (.goto 4, 3) := by decide +kernel
theorem dX4_succeeds_168 : decode cX4_succeeds 168 = .ok (.iconst 0, 1) := by decide +kernel
theorem dX4_succeeds_169 : decode cX4_succeeds 169 = .ok (.ireturn, 1) := by decide +kernel
theorem dX4_succeeds_170 : decode cX4_succeeds 170 = .ok (.iload_n 3, 1) := by decide +kernel
theorem dX4_succeeds_171 : decode cX4_succeeds 171 = .ok (.ifCond .ne 26, 3) := by decide +kernel
theorem dX4_succeeds_174 : decode cX4_succeeds 174 = .ok (.aload_n 0, 1) := by decide +kernel
theorem dX4_succeeds_175 : decode cX4_succeeds 175 = .ok (.iload_n 2, 1) := by decide +kernel
theorem dX4_succeeds_176 : decode cX4_succeeds 176 = .ok (.invokevirtual 135, 3) := by decide +kernel
theorem dX4_succeeds_179 : decode cX4_succeeds 179 = .ok (.ifCond .eq 18, 3) := by decide +kernel
theorem dX4_succeeds_182 : decode cX4_succeeds 182 = .ok (.aload_n 0, 1) := by decide +kernel
theorem dX4_succeeds_183 : decode cX4_succeeds 183 = .ok (.iload_n 2, 1) := by decide +kernel
theorem dX4_succeeds_184 : decode cX4_succeeds 184 = .ok (.iconst 1, 1) := by decide +kernel
theorem dX4_succeeds_185 : decode cX4_succeeds 185 = .ok (.invokevirtual 43, 3) := by decide +kernel
theorem dX4_succeeds_188 : decode cX4_succeeds 188 = .ok (.iload 4, 2) := by decide +kernel
theorem dX4_succeeds_190 : decode cX4_succeeds 190 = .ok (.if_icmp .lt 7, 3) := by decide +kernel
theorem dX4_succeeds_193 : decode cX4_succeeds 193 = .ok (.iconst 1, 1) := by decide +kernel
theorem dX4_succeeds_194 : decode cX4_succeeds 194 = .ok (.goto 4, 3) := by decide +kernel
theorem dX4_succeeds_197 : decode cX4_succeeds 197 = .ok (.iconst 0, 1) := by decide +kernel
theorem dX4_succeeds_198 : decode cX4_succeeds 198 = .ok (.ireturn, 1) := by decide +kernel
theorem dX4_succeeds_199 : decode cX4_succeeds 199 = .ok (.iload_n 3, 1) := by decide +kernel
theorem dX4_succeeds_200 : decode cX4_succeeds 200 = .ok (.ifCond .ne 32, 3) := by decide +kernel
theorem dX4_succeeds_203 : decode cX4_succeeds 203 = .ok (.iload 4, 2) := by decide +kernel
theorem dX4_succeeds_205 : decode cX4_succeeds 205 = .ok (.bipush 10, 2) := by decide +kernel
theorem dX4_succeeds_207 : decode cX4_succeeds 207 = .ok (.if_icmp .ge 25, 3) := by decide +kernel
theorem dX4_succeeds_210 : decode cX4_succeeds 210 = .ok (.aload_n 0, 1) := by decide +kernel
theorem dX4_succeeds_211 : decode cX4_succeeds 211 = .ok (.iload_n 2, 1) := by decide +kernel
theorem dX4_succeeds_212 : decode cX4_succeeds 212 = .ok (.invokevirtual 135, 3) := by decide +kernel
theorem dX4_succeeds_215 : decode cX4_succeeds 215 = .ok (.ifCond .eq 17, 3) := by decide +kernel
theorem dX4_succeeds_218 : decode cX4_succeeds 218 = .ok (.aload_n 0, 1) := by decide +kernel
theorem dX4_succeeds_219 : decode cX4_succeeds 219 = .ok (.iload_n 2, 1) := by decide +kernel
theorem dX4_succeeds_220 : decode cX4_succeeds 220 = .ok (.invokevirtual 172, 3) := by decide +kernel
theorem dX4_succeeds_223 : decode cX4_succeeds 223 = .ok (.iload 4, 2) := by decide +kernel
theorem dX4_succeeds_225 : decode cX4_succeeds 225 = .ok (.if_icmp .ne 7, 3) := by decide +kernel
theorem dX4_succeeds_228 : decode cX4_succeeds 228 = .ok (.iconst 1, 1) := by decide +kernel
theorem dX4_succeeds_229 : decode cX4_succeeds 229 = .ok (.goto 4, 3) := by decide +kernel
theorem dX4_succeeds_232 : decode cX4_succeeds 232 = .ok (.iconst 0, 1) := by decide +kernel
theorem dX4_succeeds_233 : decode cX4_succeeds 233 = .ok (.ireturn, 1) := by decide +kernel
theorem dX4_succeeds_234 : decode cX4_succeeds 234 = .ok (.iload_n 2, 1) := by decide +kernel
theorem dX4_succeeds_235 : decode cX4_succeeds 235 = .ok (.ifCond .ne 19, 3) := by decide +kernel
theorem dX4_succeeds_238 : decode cX4_succeeds 238 = .ok (.aload_n 0, 1) := by decide +kernel
theorem dX4_succeeds_239 : decode cX4_succeeds 239 = .ok (.invokevirtual 163, 3) := by decide +kernel
theorem dX4_succeeds_242 : decode cX4_succeeds 242 = .ok (.iload_n 1, 1) := by decide +kernel
theorem dX4_succeeds_243 : decode cX4_succeeds 243 = .ok (.sipush 1000, 3) := by decide +kernel
theorem dX4_succeeds_246 : decode cX4_succeeds 246 = .ok (.irem, 1) := by decide +kernel
theorem dX4_succeeds_247 : decode cX4_succeeds 247 = .ok (.if_icmp .gt 7, 3) := by decide +kernel
theorem dX4_succeeds_250 : decode cX4_succeeds 250 = .ok (.iconst 1, 1) := by decide +kernel
theorem dX4_succeeds_251 : decode cX4_succeeds 251 = .ok (.goto 4, 3) := by decide +kernel
theorem dX4_succeeds_254 : decode cX4_succeeds 254 = .ok (.iconst 0, 1) := by decide +kernel
theorem dX4_succeeds_255 : decode cX4_succeeds 255 = .ok (.ireturn, 1) := by decide +kernel
theorem dX4_succeeds_256 : decode cX4_succeeds 256 = .ok (.iload_n 2, 1) := by decide +kernel
theorem dX4_succeeds_257 : decode cX4_succeeds 257 = .ok (.iload_n 3, 1) := by decide +kernel
theorem dX4_succeeds_258 : decode cX4_succeeds 258 = .ok (.iadd, 1) := by decide +kernel
theorem dX4_succeeds_259 : decode cX4_succeeds 259 = .ok (.ifCond .ne 26, 3) := by decide +kernel
theorem dX4_succeeds_262 : decode cX4_succeeds 262 = .ok (.iload 4, 2) := by decide +kernel
theorem dX4_succeeds_264 : decode cX4_succeeds 264 = .ok (.bipush 10, 2) := by decide +kernel
theorem dX4_succeeds_266 : decode cX4_succeeds 266 = .ok (.if_icmp .ge 19, 3) := by decide +kernel
theorem dX4_succeeds_269 : decode cX4_succeeds 269 = .ok (.aload_n 0, 1) := by decide +kernel
theorem dX4_succeeds_270 : decode cX4_succeeds 270 = .ok (.invokevirtual 166, 3) := by decide +kernel
theorem dX4_succeeds_273 : decode cX4_succeeds 273 = .ok (.invokestatic 211, 3) := by decide +kernel
theorem dX4_succeeds_276 : decode cX4_succeeds 276 = .ok (.iload 4, 2) := by decide +kernel
theorem dX4_succeeds_278 : decode cX4_succeeds 278 = .ok (.if_icmp .gt 7, 3) := by decide +kernel
theorem dX4_succeeds_281 : decode cX4_succeeds 281 = .ok (.iconst 1, 1) := by decide +kernel
theorem dX4_succeeds_282 : decode cX4_succeeds 282 = .ok (.goto 4, 3) := by decide +kernel
theorem dX4_succeeds_285 : decode cX4_succeeds 285 = .ok (.iconst 0, 1) := by decide +kernel
theorem dX4_succeeds_286 : decode cX4_succeeds 286 = .ok (.ireturn, 1) := by decide +kernel
theorem dX4_succeeds_287 : decode cX4_succeeds 287 = .ok (.iconst 0, 1) := by decide +kernel
theorem dX4_succeeds_288 : decode cX4_succeeds 288 = .ok (.ireturn, 1) := by decide +kernel
theorem dX4_runScript_0 : decode cX4_runScript 0 = .ok (.iload_n 1, 1) := by decide +kernel
theorem dX4_runScript_1 : decode cX4_runScript 1 = .ok (.iconst 1, 1) := by decide +kernel
theorem dX4_runScript_2 : decode cX4_runScript 2 = .ok (.if_icmp .ne 9, 3) := by decide +kernel
theorem dX4_runScript_5 : decode cX4_runScript 5 = .ok (.ldc2_w 214, 3) := by decide +kernel
theorem dX4_runScript_8 : decode cX4_runScript 8 = .ok (.goto 17, 3) := by decide +kernel
theorem dX4_runScript_11 : decode cX4_runScript 11 = .ok (.iload_n 1, 1) := by decide +kernel
theorem dX4_runScript_12 : decode cX4_runScript 12 = .ok (.iconst 2, 1) := by decide +kernel
theorem dX4_runScript_13 : decode cX4_runScript 13 = .ok (.if_icmp .ne 9, 3) := by decide +kernel
theorem dX4_runScript_16 : decode cX4_runScript 16 = .ok (.ldc2_w 216, 3) := by decide +kernel
theorem dX4_runScript_19 : decode cX4_runScript 19 = .ok (.goto 6, 3) := by decide +kernel
theorem dX4_runScript_22 : decode cX4_runScript 22 = .ok (.ldc2_w 218, 3) := by decide +kernel
theorem dX4_runScript_25 : decode cX4_runScript 25 = .ok (.lstore 4, 2) := by decide +kernel
theorem dX4_runScript_27 : decode cX4_runScript 27 = .ok (.aload_n 0, 1) := by decide +kernel
theorem dX4_runScript_28 : decode cX4_runScript 28 = .ok (.iload_n 1, 1) := by decide +kernel
theorem dX4_runScript_29 : decode cX4_runScript 29 = .ok (.iconst 1, 1) := by decide +kernel
theorem dX4_runScript_30 : decode cX4_runScript 30 = .ok (.iconst 3, 1) := by decide +kernel
theorem dX4_runScript_31 : decode cX4_runScript 31 = .ok (.invokestatic 39, 3) := by decide +kernel
theorem dX4_runScript_34 : decode cX4_runScript 34 = .ok (.ifCond .eq 20, 3) := by decide +kernel
theorem dX4_runScript_37 : decode cX4_runScript 37 = .ok (.lload_n 2, 1) := by decide +kernel
theorem dX4_runScript_38 : decode cX4_runScript 38 = .ok (.lconst 0, 1) := by decide +kernel
theorem dX4_runScript_39 : decode cX4_runScript 39 = .ok (.lcmp, 1) := by decide +kernel
theorem dX4_runScript_40 : decode cX4_runScript 40 = .ok (.ifCond .lt 14, 3) := by decide +kernel
theorem dX4_runScript_43 : decode cX4_runScript 43 = .ok (.lload_n 2, 1) := by decide +kernel
theorem dX4_runScript_44 : decode cX4_runScript 44 = .ok (.lload 4, 2) := by decide +kernel
theorem dX4_runScript_46 : decode cX4_runScript 46 = .ok (.lcmp, 1) := by decide +kernel
theorem dX4_runScript_47 : decode cX4_runScript 47 = .ok (.ifCond .ge 7, 3) := by decide +kernel
theorem dX4_runScript_50 : decode cX4_runScript 50 = .ok (.iconst 0, 1) := by decide +kernel
theorem dX4_runScript_51 : decode cX4_runScript 51 = .ok (.goto 4, 3) := by decide +kernel
theorem dX4_runScript_54 : decode cX4_runScript 54 = .ok (.iconst 1, 1) := by decide +kernel
theorem dX4_runScript_55 : decode cX4_runScript 55 = .ok (.putfield 35, 3) := by decide +kernel
theorem dX4_runScript_58 : decode cX4_runScript 58 = .ok (.aload_n 0, 1) := by decide +kernel
theorem dX4_runScript_59 : decode cX4_runScript 59 = .ok (.getfield 35, 3) := by decide +kernel
theorem dX4_runScript_62 : decode cX4_runScript 62 = .ok (.ifCond .le 5, 3) := by decide +kernel
theorem dX4_runScript_65 : decode cX4_runScript 65 = .ok (.iconst 0, 1) := by decide +kernel
theorem dX4_runScript_66 : decode cX4_runScript 66 = .ok (.ireturn, 1) := by decide +kernel
theorem dX4_runScript_67 : decode cX4_runScript 67 = .ok (.aload_n 0, 1) := by decide +kernel
theorem dX4_runScript_68 : decode cX4_runScript 68 = .ok (.invokevirtual 150, 3) := by decide +kernel
theorem dX4_runScript_71 : decode cX4_runScript 71 = .ok (.bipush (-9), 2) := by decide +kernel
theorem dX4_runScript_73 : decode cX4_runScript 73 = .ok (.istore 6, 2) := by decide +kernel
theorem dX4_runScript_75 : decode cX4_runScript 75 = .ok (.lload 4, 2) := by decide +kernel
theorem dX4_runScript_77 : decode cX4_runScript 77 = .ok (.ldc2_w 214, 3) := by decide +kernel
theorem dX4_runScript_80 : decode cX4_runScript 80 = .ok (.ldiv, 1) := by decide +kernel
theorem dX4_runScript_81 : decode cX4_runScript 81 = .ok (.lstore 7, 2) := by decide +kernel
theorem dX4_runScript_83 : decode cX4_runScript 83 = .ok (.iconst 0, 1) := by decide +kernel
theorem dX4_runScript_84 : decode cX4_runScript 84 = .ok (.istore 9, 2) := by decide +kernel
theorem dX4_runScript_86 : decode cX4_runScript 86 = .ok (.iload 9, 2) := by decide +kernel
theorem dX4_runScript_88 : decode cX4_runScript 88 = .ok (.iload_n 1, 1) := by decide +kernel
theorem dX4_runScript_89 : decode cX4_runScript 89 = .ok (.if_icmp .ge 49, 3) := by decide +kernel
theorem dX4_runScript_92 : decode cX4_runScript 92 = .ok (.iload 6, 2) := by decide +kernel
theorem dX4_runScript_94 : decode cX4_runScript 94 = .ok (.bipush (-9), 2) := by decide +kernel
theorem dX4_runScript_96 : decode cX4_runScript 96 = .ok (.if_icmp .ne 42, 3) := by decide +kernel
theorem dX4_runScript_99 : decode cX4_runScript 99 = .ok (.aload_n 0, 1) := by decide +kernel
theorem dX4_runScript_100 : decode cX4_runScript 100 = .ok (.lload_n 2, 1) := by decide +kernel
theorem dX4_runScript_101 : decode cX4_runScript 101 = .ok (.lload 7, 2) := by decide +kernel
theorem dX4_runScript_103 : decode cX4_runScript 103 = .ok (.ldiv, 1) := by decide +kernel
theorem dX4_runScript_104 : decode cX4_runScript 104 = .ok (.ldc2_w 214, 3) := by decide +kernel
theorem dX4_runScript_107 : decode cX4_runScript 107 = .ok (.lrem, 1) := by decide +kernel
theorem dX4_runScript_108 : decode cX4_runScript 108 = .ok (.l2i, 1) := by decide +kernel
theorem dX4_runScript_109 : decode cX4_runScript 109 = .ok (.invokevirtual 220, 3) := by decide +kernel
theorem dX4_runScript_112 : decode cX4_runScript 112 = .ok (.ifCond .eq 8, 3) := by decide +kernel
theorem dX4_runScript_115 : decode cX4_runScript 115 = .ok (.bipush (-9), 2) := by decide +kernel
theorem dX4_runScript_117 : decode cX4_runScript 117 = .ok (.goto 5, 3) := by decide +kernel
theorem dX4_runScript_120 : decode cX4_runScript 120 = .ok (.iload 9, 2) := by decide +kernel
theorem dX4_runScript_122 : decode cX4_runScript 122 = .ok (.istore 6, 2) := by decide +kernel
theorem dX4_runScript_124 : decode cX4_runScript 124 = .ok (.lload 7, 2) := by decide +kernel
theorem dX4_runScript_126 : decode cX4_runScript 126 = .ok (.ldc2_w 214, 3) := by decide +kernel
theorem dX4_runScript_129 : decode cX4_runScript 129 = .ok (.ldiv, 1) := by decide +kernel
theorem dX4_runScript_130 : decode cX4_runScript 130 = .ok (.lstore 7, 2) := by decide +kernel
theorem dX4_runScript_132 : decode cX4_runScript 132 = .ok (.iinc 9 1, 3) := by decide +kernel
theorem dX4_runScript_135 : decode cX4_runScript 135 = .ok (.goto (-49), 3) := by decide +kernel
theorem dX4_runScript_138 : decode cX4_runScript 138 = .ok (.aload_n 0, 1) := by decide +kernel
theorem dX4_runScript_139 : decode cX4_runScript 139 = .ok (.invokevirtual 157, 3) := by decide +kernel
theorem dX4_runScript_142 : decode cX4_runScript 142 = .ok (.iload 6, 2) := by decide +kernel
theorem dX4_runScript_144 : decode cX4_runScript 144 = .ok (.ireturn, 1) := by decide +kernel
theorem dX4_simulate_0 : decode cX4_simulate 0 = .ok (.aload_n 0, 1) := by decide +kernel
theorem dX4_simulate_1 : decode cX4_simulate 1 = .ok (.iload_n 3, 1) := by decide +kernel
theorem dX4_simulate_2 : decode cX4_simulate 2 = .ok (.iconst 1, 1) := by decide +kernel
theorem dX4_simulate_3 : decode cX4_simulate 3 = .ok (.bipush 99, 2) := by decide +kernel
theorem dX4_simulate_5 : decode cX4_simulate 5 = .ok (.invokestatic 39, 3) := by decide +kernel
theorem dX4_simulate_8 : decode cX4_simulate 8 = .ok (.ifCond .eq 7, 3) := by decide +kernel
theorem dX4_simulate_11 : decode cX4_simulate 11 = .ok (.iconst 0, 1) := by decide +kernel
theorem dX4_simulate_12 : decode cX4_simulate 12 = .ok (.goto 4, 3) := by decide +kernel
theorem dX4_simulate_15 : decode cX4_simulate 15 = .ok (.iconst 1, 1) := by decide +kernel
theorem dX4_simulate_16 : decode cX4_simulate 16 = .ok (.putfield 35, 3) := by decide +kernel
theorem dX4_simulate_19 : decode cX4_simulate 19 = .ok (.aload_n 0, 1) := by decide +kernel
theorem dX4_simulate_20 : decode cX4_simulate 20 = .ok (.getfield 35, 3) := by decide +kernel
theorem dX4_simulate_23 : decode cX4_simulate 23 = .ok (.ifCond .le 5, 3) := by decide +kernel
theorem dX4_simulate_26 : decode cX4_simulate 26 = .ok (.iconst 0, 1) := by decide +kernel
theorem dX4_simulate_27 : decode cX4_simulate 27 = .ok (.ireturn, 1) := by decide +kernel
theorem dX4_simulate_28 : decode cX4_simulate 28 = .ok (.aload_n 0, 1) := by decide +kernel
theorem dX4_simulate_29 : decode cX4_simulate 29 = .ok (.invokevirtual 150, 3) := by decide +kernel
theorem dX4_simulate_32 : decode cX4_simulate 32 = .ok (.aload_n 0, 1) := by decide +kernel
theorem dX4_simulate_33 : decode cX4_simulate 33 = .ok (.getfield 7, 3) := by decide +kernel
theorem dX4_simulate_36 : decode cX4_simulate 36 = .ok (.iconst 4, 1) := by decide +kernel
theorem dX4_simulate_37 : decode cX4_simulate 37 = .ok (.iaload, 1) := by decide +kernel
theorem dX4_simulate_38 : decode cX4_simulate 38 = .ok (.istore 4, 2) := by decide +kernel
theorem dX4_simulate_40 : decode cX4_simulate 40 = .ok (.iconst 0, 1) := by decide +kernel
theorem dX4_simulate_41 : decode cX4_simulate 41 = .ok (.istore 5, 2) := by decide +kernel
theorem dX4_simulate_43 : decode cX4_simulate 43 = .ok (.lload_n 1, 1) := by decide +kernel
theorem dX4_simulate_44 : decode cX4_simulate 44 = .ok (.lstore 6, 2) := by decide +kernel
theorem dX4_simulate_46 : decode cX4_simulate 46 = .ok (.iconst 0, 1) := by decide +kernel
theorem dX4_simulate_47 : decode cX4_simulate 47 = .ok (.istore 8, 2) := by decide +kernel
theorem dX4_simulate_49 : decode cX4_simulate 49 = .ok (.iload 8, 2) := by decide +kernel
theorem dX4_simulate_51 : decode cX4_simulate 51 = .ok (.iload_n 3, 1) := by decide +kernel
theorem dX4_simulate_52 : decode cX4_simulate 52 = .ok (.if_icmp .ge 81, 3) := by decide +kernel
theorem dX4_simulate_55 : decode cX4_simulate 55 = .ok (.lload 6, 2) := by decide +kernel
theorem dX4_simulate_57 : decode cX4_simulate 57 = .ok (.ldc2_w 223, 3) := by decide +kernel
theorem dX4_simulate_60 : decode cX4_simulate 60 = .ok (.lmul, 1) := by decide +kernel
theorem dX4_simulate_61 : decode cX4_simulate 61 = .ok (.ldc2_w 225, 3) := by decide +kernel
theorem dX4_simulate_64 : decode cX4_simulate 64 = .ok (.ladd, 1) := by decide +kernel
theorem dX4_simulate_65 : decode cX4_simulate 65 = .ok (.lstore 6, 2) := by decide +kernel
theorem dX4_simulate_67 : decode cX4_simulate 67 = .ok (.lload 6, 2) := by decide +kernel
theorem dX4_simulate_69 : decode cX4_simulate 69 = .ok (.bipush 33, 2) := by decide +kernel
theorem dX4_simulate_71 : decode cX4_simulate 71 = .ok (.lushr, 1) := by decide +kernel
theorem dX4_simulate_72 : decode cX4_simulate 72 = .ok (.l2i, 1) := by decide +kernel
theorem dX4_simulate_73 : decode cX4_simulate 73 = .ok (.istore 9, 2) := by decide +kernel
theorem dX4_simulate_75 : decode cX4_simulate 75 = .ok (.iconst 1, 1) := by decide +kernel
theorem dX4_simulate_76 : decode cX4_simulate 76 = .ok (.iload 9, 2) := by decide +kernel
theorem dX4_simulate_78 : decode cX4_simulate 78 = .ok (.iconst 4, 1) := by decide +kernel
theorem dX4_simulate_79 : decode cX4_simulate 79 = .ok (.idiv, 1) := by decide +kernel
theorem dX4_simulate_80 : decode cX4_simulate 80 = .ok (.bipush 9, 2) := by decide +kernel
theorem dX4_simulate_82 : decode cX4_simulate 82 = .ok (.irem, 1) := by decide +kernel
theorem dX4_simulate_83 : decode cX4_simulate 83 = .ok (.iadd, 1) := by decide +kernel
theorem dX4_simulate_84 : decode cX4_simulate 84 = .ok (.istore 10, 2) := by decide +kernel
theorem dX4_simulate_86 : decode cX4_simulate 86 = .ok (.iload 9, 2) := by decide +kernel
theorem dX4_simulate_88 : decode cX4_simulate 88 = .ok (.iconst 4, 1) := by decide +kernel
theorem dX4_simulate_89 : decode cX4_simulate 89 = .ok (.irem, 1) := by decide +kernel
theorem dX4_simulate_90 : decode cX4_simulate 90 = .ok (.ifCond .ne 13, 3) := by decide +kernel
theorem dX4_simulate_93 : decode cX4_simulate 93 = .ok (.aload_n 0, 1) := by decide +kernel
theorem dX4_simulate_94 : decode cX4_simulate 94 = .ok (.iload 10, 2) := by decide +kernel
theorem dX4_simulate_96 : decode cX4_simulate 96 = .ok (.invokevirtual 190, 3) := by decide +kernel
theorem dX4_simulate_99 : decode cX4_simulate 99 = .ok (.pop, 1) := by decide +kernel
theorem dX4_simulate_100 : decode cX4_simulate 100 = .ok (.goto 18, 3) := by decide +kernel
theorem dX4_simulate_103 : decode cX4_simulate 103 = .ok (.iload 9, 2) := by decide +kernel
theorem dX4_simulate_105 : decode cX4_simulate 105 = .ok (.iconst 4, 1) := by decide +kernel
theorem dX4_simulate_106 : decode cX4_simulate 106 = .ok (.irem, 1) := by decide +kernel
theorem dX4_simulate_107 : decode cX4_simulate 107 = .ok (.iconst 3, 1) := by decide +kernel
theorem dX4_simulate_108 : decode cX4_simulate 108 = .ok (.if_icmp .ge 10, 3) := by decide +kernel
theorem dX4_simulate_111 : decode cX4_simulate 111 = .ok (.aload_n 0, 1) := by decide +kernel
theorem dX4_simulate_112 : decode cX4_simulate 112 = .ok (.iload 10, 2) := by decide +kernel
theorem dX4_simulate_114 : decode cX4_simulate 114 = .ok (.invokevirtual 193, 3) := by decide +kernel
theorem dX4_simulate_117 : decode cX4_simulate 117 = .ok (.pop, 1) := by decide +kernel
theorem dX4_simulate_118 : decode cX4_simulate 118 = .ok (.iload 5, 2) := by decide +kernel
theorem dX4_simulate_120 : decode cX4_simulate 120 = .ok (.aload_n 0, 1) := by decide +kernel
theorem dX4_simulate_121 : decode cX4_simulate 121 = .ok (.invokevirtual 91, 3) := by decide +kernel
theorem dX4_simulate_124 : decode cX4_simulate 124 = .ok (.ior, 1) := by decide +kernel
theorem dX4_simulate_125 : decode cX4_simulate 125 = .ok (.istore 5, 2) := by decide +kernel
theorem dX4_simulate_127 : decode cX4_simulate 127 = .ok (.iinc 8 1, 3) := by decide +kernel
theorem dX4_simulate_130 : decode cX4_simulate 130 = .ok (.goto (-81), 3) := by decide +kernel
theorem dX4_simulate_133 : decode cX4_simulate 133 = .ok (.aload_n 0, 1) := by decide +kernel
theorem dX4_simulate_134 : decode cX4_simulate 134 = .ok (.getfield 7, 3) := by decide +kernel
theorem dX4_simulate_137 : decode cX4_simulate 137 = .ok (.iconst 4, 1) := by decide +kernel
theorem dX4_simulate_138 : decode cX4_simulate 138 = .ok (.iaload, 1) := by decide +kernel
theorem dX4_simulate_139 : decode cX4_simulate 139 = .ok (.iload 4, 2) := by decide +kernel
theorem dX4_simulate_141 : decode cX4_simulate 141 = .ok (.isub, 1) := by decide +kernel
theorem dX4_simulate_142 : decode cX4_simulate 142 = .ok (.istore 4, 2) := by decide +kernel
theorem dX4_simulate_144 : decode cX4_simulate 144 = .ok (.aload_n 0, 1) := by decide +kernel
theorem dX4_simulate_145 : decode cX4_simulate 145 = .ok (.invokevirtual 157, 3) := by decide +kernel
theorem dX4_simulate_148 : decode cX4_simulate 148 = .ok (.ldc 227, 2) := by decide +kernel
theorem dX4_simulate_150 : decode cX4_simulate 150 = .ok (.iload 5, 2) := by decide +kernel
theorem dX4_simulate_152 : decode cX4_simulate 152 = .ok (.invokestatic 211, 3) := by decide +kernel
theorem dX4_simulate_155 : decode cX4_simulate 155 = .ok (.imul, 1) := by decide +kernel
theorem dX4_simulate_156 : decode cX4_simulate 156 = .ok (.iload 4, 2) := by decide +kernel
theorem dX4_simulate_158 : decode cX4_simulate 158 = .ok (.iadd, 1) := by decide +kernel
theorem dX4_simulate_159 : decode cX4_simulate 159 = .ok (.ireturn, 1) := by decide +kernel
theorem dX4_save_0 : decode cX4_save 0 = .ok (.aload_n 0, 1) := by decide +kernel
theorem dX4_save_1 : decode cX4_save 1 = .ok (.iload_n 1, 1) := by decide +kernel
theorem dX4_save_2 : decode cX4_save 2 = .ok (.iconst 0, 1) := by decide +kernel
theorem dX4_save_3 : decode cX4_save 3 = .ok (.iconst 1, 1) := by decide +kernel
theorem dX4_save_4 : decode cX4_save 4 = .ok (.invokestatic 39, 3) := by decide +kernel
theorem dX4_save_7 : decode cX4_save 7 = .ok (.ifCond .eq 7, 3) := by decide +kernel
theorem dX4_save_10 : decode cX4_save 10 = .ok (.iconst 0, 1) := by decide +kernel
theorem dX4_save_11 : decode cX4_save 11 = .ok (.goto 4, 3) := by decide +kernel
theorem dX4_save_14 : decode cX4_save 14 = .ok (.iconst 1, 1) := by decide +kernel
theorem dX4_save_15 : decode cX4_save 15 = .ok (.putfield 35, 3) := by decide +kernel
theorem dX4_save_18 : decode cX4_save 18 = .ok (.aload_n 0, 1) := by decide +kernel
theorem dX4_save_19 : decode cX4_save 19 = .ok (.getfield 35, 3) := by decide +kernel
theorem dX4_save_22 : decode cX4_save 22 = .ok (.ifCond .le 5, 3) := by decide +kernel
theorem dX4_save_25 : decode cX4_save 25 = .ok (.iconst 0, 1) := by decide +kernel
theorem dX4_save_26 : decode cX4_save 26 = .ok (.ireturn, 1) := by decide +kernel
theorem dX4_save_27 : decode cX4_save 27 = .ok (.iconst 0, 1) := by decide +kernel
theorem dX4_save_28 : decode cX4_save 28 = .ok (.istore_n 2, 1) := by decide +kernel
theorem dX4_save_29 : decode cX4_save 29 = .ok (.iload_n 2, 1) := by decide +kernel
theorem dX4_save_30 : decode cX4_save 30 = .ok (.bipush 107, 2) := by decide +kernel
theorem dX4_save_32 : decode cX4_save 32 = .ok (.if_icmp .ge 26, 3) := by decide +kernel
theorem dX4_save_35 : decode cX4_save 35 = .ok (.aload_n 0, 1) := by decide +kernel
theorem dX4_save_36 : decode cX4_save 36 = .ok (.getfield 16, 3) := by decide +kernel
theorem dX4_save_39 : decode cX4_save 39 = .ok (.bipush 107, 2) := by decide +kernel
theorem dX4_save_41 : decode cX4_save 41 = .ok (.iload_n 1, 1) := by decide +kernel
theorem dX4_save_42 : decode cX4_save 42 = .ok (.imul, 1) := by decide +kernel
theorem dX4_save_43 : decode cX4_save 43 = .ok (.iload_n 2, 1) := by decide +kernel
theorem dX4_save_44 : decode cX4_save 44 = .ok (.iadd, 1) := by decide +kernel
theorem dX4_save_45 : decode cX4_save 45 = .ok (.aload_n 0, 1) := by decide +kernel
theorem dX4_save_46 : decode cX4_save 46 = .ok (.getfield 7, 3) := by decide +kernel
theorem dX4_save_49 : decode cX4_save 49 = .ok (.iload_n 2, 1) := by decide +kernel
theorem dX4_save_50 : decode cX4_save 50 = .ok (.iaload, 1) := by decide +kernel
theorem dX4_save_51 : decode cX4_save 51 = .ok (.iastore, 1) := by decide +kernel
theorem dX4_save_52 : decode cX4_save 52 = .ok (.iinc 2 1, 3) := by decide +kernel
theorem dX4_save_55 : decode cX4_save 55 = .ok (.goto (-26), 3) := by decide +kernel
theorem dX4_save_58 : decode cX4_save 58 = .ok (.aload_n 0, 1) := by decide +kernel
theorem dX4_save_59 : decode cX4_save 59 = .ok (.getfield 19, 3) := by decide +kernel
theorem dX4_save_62 : decode cX4_save 62 = .ok (.iload_n 1, 1) := by decide +kernel
theorem dX4_save_63 : decode cX4_save 63 = .ok (.iconst 1, 1) := by decide +kernel
theorem dX4_save_64 : decode cX4_save 64 = .ok (.bastore, 1) := by decide +kernel
theorem dX4_save_65 : decode cX4_save 65 = .ok (.aload_n 0, 1) := by decide +kernel
theorem dX4_save_66 : decode cX4_save 66 = .ok (.invokevirtual 160, 3) := by decide +kernel
theorem dX4_save_69 : decode cX4_save 69 = .ok (.ireturn, 1) := by decide +kernel
theorem dX4_restore_0 : decode cX4_restore 0 = .ok (.aload_n 0, 1) := by decide +kernel
theorem dX4_restore_1 : decode cX4_restore 1 = .ok (.iload_n 1, 1) := by decide +kernel
theorem dX4_restore_2 : decode cX4_restore 2 = .ok (.iconst 0, 1) := by decide +kernel
theorem dX4_restore_3 : decode cX4_restore 3 = .ok (.iconst 1, 1) := by decide +kernel
theorem dX4_restore_4 : decode cX4_restore 4 = .ok (.invokestatic 39, 3) := by decide +kernel
theorem dX4_restore_7 : decode cX4_restore 7 = .ok (.ifCond .ne 7, 3) := by decide +kernel
theorem dX4_restore_10 : decode cX4_restore 10 = .ok (.iconst 1, 1) := by decide +kernel
theorem dX4_restore_11 : decode cX4_restore 11 = .ok (.goto 17, 3) := by decide +kernel
theorem dX4_restore_14 : decode cX4_restore 14 = .ok (.aload_n 0, 1) := by decide +kernel
theorem dX4_restore_15 : decode cX4_restore 15 = .ok (.getfield 19, 3) := by decide +kernel
theorem dX4_restore_18 : decode cX4_restore 18 = .ok (.iload_n 1, 1) := by decide +kernel
theorem dX4_restore_19 : decode cX4_restore 19 = .ok (.baload, 1) := by decide +kernel
theorem dX4_restore_20 : decode cX4_restore 20 = .ok (.ifCond .ne 7, 3) := by decide +kernel
theorem dX4_restore_23 : decode cX4_restore 23 = .ok (.iconst 2, 1) := by decide +kernel
theorem dX4_restore_24 : decode cX4_restore 24 = .ok (.goto 4, 3) := by decide +kernel
theorem dX4_restore_27 : decode cX4_restore 27 = .ok (.iconst 0, 1) := by decide +kernel
theorem dX4_restore_28 : decode cX4_restore 28 = .ok (.putfield 35, 3) := by decide +kernel
theorem dX4_restore_31 : decode cX4_restore 31 = .ok (.aload_n 0, 1) := by decide +kernel
theorem dX4_restore_32 : decode cX4_restore 32 = .ok (.getfield 35, 3) := by decide +kernel
theorem dX4_restore_35 : decode cX4_restore 35 = .ok (.ifCond .le 5, 3) := by decide +kernel
theorem dX4_restore_38 : decode cX4_restore 38 = .ok (.iconst 0, 1) := by decide +kernel
theorem dX4_restore_39 : decode cX4_restore 39 = .ok (.ireturn, 1) := by decide +kernel
theorem dX4_restore_40 : decode cX4_restore 40 = .ok (.iconst 0, 1) := by decide +kernel
theorem dX4_restore_41 : decode cX4_restore 41 = .ok (.istore_n 2, 1) := by decide +kernel
theorem dX4_restore_42 : decode cX4_restore 42 = .ok (.iload_n 2, 1) := by decide +kernel
theorem dX4_restore_43 : decode cX4_restore 43 = .ok (.bipush 107, 2) := by decide +kernel
theorem dX4_restore_45 : decode cX4_restore 45 = .ok (.if_icmp .ge 26, 3) := by decide +kernel
theorem dX4_restore_48 : decode cX4_restore 48 = .ok (.aload_n 0, 1) := by decide +kernel
theorem dX4_restore_49 : decode cX4_restore 49 = .ok (.getfield 7, 3) := by decide +kernel
theorem dX4_restore_52 : decode cX4_restore 52 = .ok (.iload_n 2, 1) := by decide +kernel
theorem dX4_restore_53 : decode cX4_restore 53 = .ok (.aload_n 0, 1) := by decide +kernel
theorem dX4_restore_54 : decode cX4_restore 54 = .ok (.getfield 16, 3) := by decide +kernel
theorem dX4_restore_57 : decode cX4_restore 57 = .ok (.bipush 107, 2) := by decide +kernel
theorem dX4_restore_59 : decode cX4_restore 59 = .ok (.iload_n 1, 1) := by decide +kernel
theorem dX4_restore_60 : decode cX4_restore 60 = .ok (.imul, 1) := by decide +kernel
theorem dX4_restore_61 : decode cX4_restore 61 = .ok (.iload_n 2, 1) := by decide +kernel
theorem dX4_restore_62 : decode cX4_restore 62 = .ok (.iadd, 1) := by decide +kernel
theorem dX4_restore_63 : decode cX4_restore 63 = .ok (.iaload, 1) := by decide +kernel
theorem dX4_restore_64 : decode cX4_restore 64 = .ok (.iastore, 1) := by decide +kernel
theorem dX4_restore_65 : decode cX4_restore 65 = .ok (.iinc 2 1, 3) := by decide +kernel
theorem dX4_restore_68 : decode cX4_restore 68 = .ok (.goto (-26), 3) := by decide +kernel
theorem dX4_restore_71 : decode cX4_restore 71 = .ok (.aload_n 0, 1) := by decide +kernel
theorem dX4_restore_72 : decode cX4_restore 72 = .ok (.iconst 0, 1) := by decide +kernel
theorem dX4_restore_73 : decode cX4_restore 73 = .ok (.putfield 47, 3) := by decide +kernel
theorem dX4_restore_76 : decode cX4_restore 76 = .ok (.aload_n 0, 1) := by decide +kernel
theorem dX4_restore_77 : decode cX4_restore 77 = .ok (.invokevirtual 160, 3) := by decide +kernel
theorem dX4_restore_80 : decode cX4_restore 80 = .ok (.ireturn, 1) := by decide +kernel
theorem dJ6_bitCount_0f7a4_0 : decode cJ6_bitCount_0f7a4 0 = .ok (.iload_n 0, 1) := by decide +kernel
theorem dJ6_bitCount_0f7a4_1 : decode cJ6_bitCount_0f7a4 1 = .ok (.iload_n 0, 1) := by decide +kernel
theorem dJ6_bitCount_0f7a4_2 : decode cJ6_bitCount_0f7a4 2 = .ok (.iconst 1, 1) := by decide +kernel
theorem dJ6_bitCount_0f7a4_3 : decode cJ6_bitCount_0f7a4 3 = .ok (.iushr, 1) := by decide +kernel
theorem dJ6_bitCount_0f7a4_4 : decode cJ6_bitCount_0f7a4 4 = .ok (.ldc_w 265, 3) := by decide +kernel
theorem dJ6_bitCount_0f7a4_7 : decode cJ6_bitCount_0f7a4 7 = .ok (.iand, 1) := by decide +kernel
theorem dJ6_bitCount_0f7a4_8 : decode cJ6_bitCount_0f7a4 8 = .ok (.isub, 1) := by decide +kernel
theorem dJ6_bitCount_0f7a4_9 : decode cJ6_bitCount_0f7a4 9 = .ok (.istore_n 0, 1) := by decide +kernel
theorem dJ6_bitCount_0f7a4_10 : decode cJ6_bitCount_0f7a4 10 = .ok (.iload_n 0, 1) := by decide +kernel
theorem dJ6_bitCount_0f7a4_11 : decode cJ6_bitCount_0f7a4 11 = .ok (.ldc_w 266, 3) := by decide +kernel
theorem dJ6_bitCount_0f7a4_14 : decode cJ6_bitCount_0f7a4 14 = .ok (.iand, 1) := by decide +kernel
theorem dJ6_bitCount_0f7a4_15 : decode cJ6_bitCount_0f7a4 15 = .ok (.iload_n 0, 1) := by decide +kernel
theorem dJ6_bitCount_0f7a4_16 : decode cJ6_bitCount_0f7a4 16 = .ok (.iconst 2, 1) := by decide +kernel
theorem dJ6_bitCount_0f7a4_17 : decode cJ6_bitCount_0f7a4 17 = .ok (.iushr, 1) := by decide +kernel
theorem dJ6_bitCount_0f7a4_18 : decode cJ6_bitCount_0f7a4 18 = .ok (.ldc_w 266, 3) := by decide +kernel
theorem dJ6_bitCount_0f7a4_21 : decode cJ6_bitCount_0f7a4 21 = .ok (.iand, 1) := by decide +kernel
theorem dJ6_bitCount_0f7a4_22 : decode cJ6_bitCount_0f7a4 22 = .ok (.iadd, 1) := by decide +kernel
theorem dJ6_bitCount_0f7a4_23 : decode cJ6_bitCount_0f7a4 23 = .ok (.istore_n 0, 1) := by decide +kernel
theorem dJ6_bitCount_0f7a4_24 : decode cJ6_bitCount_0f7a4 24 = .ok (.iload_n 0, 1) := by decide +kernel
theorem dJ6_bitCount_0f7a4_25 : decode cJ6_bitCount_0f7a4 25 = .ok (.iload_n 0, 1) := by decide +kernel
theorem dJ6_bitCount_0f7a4_26 : decode cJ6_bitCount_0f7a4 26 = .ok (.iconst 4, 1) := by decide +kernel
theorem dJ6_bitCount_0f7a4_27 : decode cJ6_bitCount_0f7a4 27 = .ok (.iushr, 1) := by decide +kernel
theorem dJ6_bitCount_0f7a4_28 : decode cJ6_bitCount_0f7a4 28 = .ok (.iadd, 1) := by decide +kernel
theorem dJ6_bitCount_0f7a4_29 : decode cJ6_bitCount_0f7a4 29 = .ok (.ldc_w 267, 3) := by decide +kernel
theorem dJ6_bitCount_0f7a4_32 : decode cJ6_bitCount_0f7a4 32 = .ok (.iand, 1) := by decide +kernel
theorem dJ6_bitCount_0f7a4_33 : decode cJ6_bitCount_0f7a4 33 = .ok (.istore_n 0, 1) := by decide +kernel
theorem dJ6_bitCount_0f7a4_34 : decode cJ6_bitCount_0f7a4 34 = .ok (.iload_n 0, 1) := by decide +kernel
theorem dJ6_bitCount_0f7a4_35 : decode cJ6_bitCount_0f7a4 35 = .ok (.iload_n 0, 1) := by decide +kernel
theorem dJ6_bitCount_0f7a4_36 : decode cJ6_bitCount_0f7a4 36 = .ok (.bipush 8, 2) := by decide +kernel
theorem dJ6_bitCount_0f7a4_38 : decode cJ6_bitCount_0f7a4 38 = .ok (.iushr, 1) := by decide +kernel
theorem dJ6_bitCount_0f7a4_39 : decode cJ6_bitCount_0f7a4 39 = .ok (.iadd, 1) := by decide +kernel
theorem dJ6_bitCount_0f7a4_40 : decode cJ6_bitCount_0f7a4 40 = .ok (.istore_n 0, 1) := by decide +kernel
theorem dJ6_bitCount_0f7a4_41 : decode cJ6_bitCount_0f7a4 41 = .ok (.iload_n 0, 1) := by decide +kernel
theorem dJ6_bitCount_0f7a4_42 : decode cJ6_bitCount_0f7a4 42 = .ok (.iload_n 0, 1) := by decide +kernel
theorem dJ6_bitCount_0f7a4_43 : decode cJ6_bitCount_0f7a4 43 = .ok (.bipush 16, 2) := by decide +kernel
theorem dJ6_bitCount_0f7a4_45 : decode cJ6_bitCount_0f7a4 45 = .ok (.iushr, 1) := by decide +kernel
theorem dJ6_bitCount_0f7a4_46 : decode cJ6_bitCount_0f7a4 46 = .ok (.iadd, 1) := by decide +kernel
theorem dJ6_bitCount_0f7a4_47 : decode cJ6_bitCount_0f7a4 47 = .ok (.istore_n 0, 1) := by decide +kernel
theorem dJ6_bitCount_0f7a4_48 : decode cJ6_bitCount_0f7a4 48 = .ok (.iload_n 0, 1) := by decide +kernel
theorem dJ6_bitCount_0f7a4_49 : decode cJ6_bitCount_0f7a4 49 = .ok (.bipush 63, 2) := by decide +kernel
theorem dJ6_bitCount_0f7a4_51 : decode cJ6_bitCount_0f7a4 51 = .ok (.iand, 1) := by decide +kernel
theorem dJ6_bitCount_0f7a4_52 : decode cJ6_bitCount_0f7a4 52 = .ok (.ireturn, 1) := by decide +kernel
theorem dJ9_min_7cf53_0 : decode cJ9_min_7cf53 0 = .ok (.iload_n 0, 1) := by decide +kernel
theorem dJ9_min_7cf53_1 : decode cJ9_min_7cf53 1 = .ok (.iload_n 1, 1) := by decide +kernel
theorem dJ9_min_7cf53_2 : decode cJ9_min_7cf53 2 = .ok (.if_icmp .gt 7, 3) := by decide +kernel
theorem dJ9_min_7cf53_5 : decode cJ9_min_7cf53 5 = .ok (.iload_n 0, 1) := by decide +kernel
theorem dJ9_min_7cf53_6 : decode cJ9_min_7cf53 6 = .ok (.goto 4, 3) := by decide +kernel
theorem dJ9_min_7cf53_9 : decode cJ9_min_7cf53 9 = .ok (.iload_n 1, 1) := by decide +kernel
theorem dJ9_min_7cf53_10 : decode cJ9_min_7cf53 10 = .ok (.ireturn, 1) := by decide +kernel
theorem dL_append_0 : decode cL_append 0 = .ok (.aload_n 2, 1) := by decide +kernel
theorem dL_append_1 : decode cL_append 1 = .ok (.iconst 0, 1) := by decide +kernel
theorem dL_append_2 : decode cL_append 2 = .ok (.aload_n 0, 1) := by decide +kernel
theorem dL_append_3 : decode cL_append 3 = .ok (.iload_n 1, 1) := by decide +kernel
theorem dL_append_4 : decode cL_append 4 = .ok (.invokevirtual 7, 3) := by decide +kernel
theorem dL_append_7 : decode cL_append 7 = .ok (.i2l, 1) := by decide +kernel
theorem dL_append_8 : decode cL_append 8 = .ok (.lastore, 1) := by decide +kernel
theorem dL_append_9 : decode cL_append 9 = .ok (.goto 9, 3) := by decide +kernel
theorem dL_append_12 : decode cL_append 12 = .ok (.astore_n 3, 1) := by decide +kernel
theorem dL_append_13 : decode cL_append 13 = .ok (.iconst 1, 1) := by decide +kernel
theorem dL_append_14 : decode cL_append 14 = .ok (.ireturn, 1) := by decide +kernel
theorem dL_append_15 : decode cL_append 15 = .ok (.astore_n 3, 1) := by decide +kernel
theorem dL_append_16 : decode cL_append 16 = .ok (.iconst 2, 1) := by decide +kernel
theorem dL_append_17 : decode cL_append 17 = .ok (.ireturn, 1) := by decide +kernel
theorem dL_append_18 : decode cL_append 18 = .ok (.iconst 0, 1) := by decide +kernel
theorem dL_append_19 : decode cL_append 19 = .ok (.ireturn, 1) := by decide +kernel
theorem dL_load_0 : decode cL_load 0 = .ok (.aload_n 1, 1) := by decide +kernel
theorem dL_load_1 : decode cL_load 1 = .ok (.iconst 0, 1) := by decide +kernel
theorem dL_load_2 : decode cL_load 2 = .ok (.aload_n 0, 1) := by decide +kernel
theorem dL_load_3 : decode cL_load 3 = .ok (.invokevirtual 17, 3) := by decide +kernel
theorem dL_load_6 : decode cL_load 6 = .ok (.i2l, 1) := by decide +kernel
theorem dL_load_7 : decode cL_load 7 = .ok (.lastore, 1) := by decide +kernel
theorem dL_load_8 : decode cL_load 8 = .ok (.goto 6, 3) := by decide +kernel
theorem dL_load_11 : decode cL_load 11 = .ok (.astore_n 2, 1) := by decide +kernel
theorem dL_load_12 : decode cL_load 12 = .ok (.iconst 1, 1) := by decide +kernel
theorem dL_load_13 : decode cL_load 13 = .ok (.ireturn, 1) := by decide +kernel
theorem dL_load_14 : decode cL_load 14 = .ok (.iconst 0, 1) := by decide +kernel
theorem dL_load_15 : decode cL_load 15 = .ok (.ireturn, 1) := by decide +kernel
theorem dL_about_0 : decode cL_about 0 = .ok (.aload_n 2, 1) := by decide +kernel
theorem dL_about_1 : decode cL_about 1 = .ok (.iconst 0, 1) := by decide +kernel
theorem dL_about_2 : decode cL_about 2 = .ok (.aload_n 0, 1) := by decide +kernel
theorem dL_about_3 : decode cL_about 3 = .ok (.iload_n 1, 1) := by decide +kernel
theorem dL_about_4 : decode cL_about 4 = .ok (.invokevirtual 21, 3) := by decide +kernel
theorem dL_about_7 : decode cL_about 7 = .ok (.i2l, 1) := by decide +kernel
theorem dL_about_8 : decode cL_about 8 = .ok (.lastore, 1) := by decide +kernel
theorem dL_about_9 : decode cL_about 9 = .ok (.goto 6, 3) := by decide +kernel
theorem dL_about_12 : decode cL_about 12 = .ok (.astore_n 3, 1) := by decide +kernel
theorem dL_about_13 : decode cL_about 13 = .ok (.iconst 1, 1) := by decide +kernel
theorem dL_about_14 : decode cL_about 14 = .ok (.ireturn, 1) := by decide +kernel
theorem dL_about_15 : decode cL_about 15 = .ok (.iconst 0, 1) := by decide +kernel
theorem dL_about_16 : decode cL_about 16 = .ok (.ireturn, 1) := by decide +kernel
theorem dL_cell_0 : decode cL_cell 0 = .ok (.aload_n 3, 1) := by decide +kernel
theorem dL_cell_1 : decode cL_cell 1 = .ok (.iconst 0, 1) := by decide +kernel
theorem dL_cell_2 : decode cL_cell 2 = .ok (.aload_n 0, 1) := by decide +kernel
theorem dL_cell_3 : decode cL_cell 3 = .ok (.iload_n 1, 1) := by decide +kernel
theorem dL_cell_4 : decode cL_cell 4 = .ok (.iload_n 2, 1) := by decide +kernel
theorem dL_cell_5 : decode cL_cell 5 = .ok (.invokevirtual 24, 3) := by decide +kernel
theorem dL_cell_8 : decode cL_cell 8 = .ok (.i2l, 1) := by decide +kernel
theorem dL_cell_9 : decode cL_cell 9 = .ok (.lastore, 1) := by decide +kernel
theorem dL_cell_10 : decode cL_cell 10 = .ok (.goto 11, 3) := by decide +kernel
theorem dL_cell_13 : decode cL_cell 13 = .ok (.astore 4, 2) := by decide +kernel
theorem dL_cell_15 : decode cL_cell 15 = .ok (.iconst 1, 1) := by decide +kernel
theorem dL_cell_16 : decode cL_cell 16 = .ok (.ireturn, 1) := by decide +kernel
theorem dL_cell_17 : decode cL_cell 17 = .ok (.astore 4, 2) := by decide +kernel
theorem dL_cell_19 : decode cL_cell 19 = .ok (.iconst 2, 1) := by decide +kernel
theorem dL_cell_20 : decode cL_cell 20 = .ok (.ireturn, 1) := by decide +kernel
theorem dL_cell_21 : decode cL_cell 21 = .ok (.iconst 0, 1) := by decide +kernel
theorem dL_cell_22 : decode cL_cell 22 = .ok (.ireturn, 1) := by decide +kernel
theorem dL_loan_0 : decode cL_loan 0 = .ok (.aload_n 3, 1) := by decide +kernel
theorem dL_loan_1 : decode cL_loan 1 = .ok (.iconst 0, 1) := by decide +kernel
theorem dL_loan_2 : decode cL_loan 2 = .ok (.aload_n 0, 1) := by decide +kernel
theorem dL_loan_3 : decode cL_loan 3 = .ok (.iload_n 1, 1) := by decide +kernel
theorem dL_loan_4 : decode cL_loan 4 = .ok (.iload_n 2, 1) := by decide +kernel
theorem dL_loan_5 : decode cL_loan 5 = .ok (.invokevirtual 30, 3) := by decide +kernel
theorem dL_loan_8 : decode cL_loan 8 = .ok (.i2l, 1) := by decide +kernel
theorem dL_loan_9 : decode cL_loan 9 = .ok (.lastore, 1) := by decide +kernel
theorem dL_loan_10 : decode cL_loan 10 = .ok (.goto 11, 3) := by decide +kernel
theorem dL_loan_13 : decode cL_loan 13 = .ok (.astore 4, 2) := by decide +kernel
theorem dL_loan_15 : decode cL_loan 15 = .ok (.iconst 1, 1) := by decide +kernel
theorem dL_loan_16 : decode cL_loan 16 = .ok (.ireturn, 1) := by decide +kernel
theorem dL_loan_17 : decode cL_loan 17 = .ok (.astore 4, 2) := by decide +kernel
theorem dL_loan_19 : decode cL_loan 19 = .ok (.iconst 2, 1) := by decide +kernel
theorem dL_loan_20 : decode cL_loan 20 = .ok (.ireturn, 1) := by decide +kernel
theorem dL_loan_21 : decode cL_loan 21 = .ok (.iconst 0, 1) := by decide +kernel
theorem dL_loan_22 : decode cL_loan 22 = .ok (.ireturn, 1) := by decide +kernel
theorem dL_order_0 : decode cL_order 0 = .ok (.aload_n 2, 1) := by decide +kernel
theorem dL_order_1 : decode cL_order 1 = .ok (.iconst 0, 1) := by decide +kernel
theorem dL_order_2 : decode cL_order 2 = .ok (.aload_n 0, 1) := by decide +kernel
theorem dL_order_3 : decode cL_order 3 = .ok (.iload_n 1, 1) := by decide +kernel
theorem dL_order_4 : decode cL_order 4 = .ok (.invokevirtual 33, 3) := by decide +kernel
theorem dL_order_7 : decode cL_order 7 = .ok (.i2l, 1) := by decide +kernel
theorem dL_order_8 : decode cL_order 8 = .ok (.lastore, 1) := by decide +kernel
theorem dL_order_9 : decode cL_order 9 = .ok (.goto 6, 3) := by decide +kernel
theorem dL_order_12 : decode cL_order 12 = .ok (.astore_n 3, 1) := by decide +kernel
theorem dL_order_13 : decode cL_order 13 = .ok (.iconst 1, 1) := by decide +kernel
theorem dL_order_14 : decode cL_order 14 = .ok (.ireturn, 1) := by decide +kernel
theorem dL_order_15 : decode cL_order 15 = .ok (.iconst 0, 1) := by decide +kernel
theorem dL_order_16 : decode cL_order 16 = .ok (.ireturn, 1) := by decide +kernel
theorem dL_addCell_0 : decode cL_addCell 0 = .ok (.aload 4, 2) := by decide +kernel
theorem dL_addCell_2 : decode cL_addCell 2 = .ok (.iconst 0, 1) := by decide +kernel
theorem dL_addCell_3 : decode cL_addCell 3 = .ok (.aload_n 0, 1) := by decide +kernel
theorem dL_addCell_4 : decode cL_addCell 4 = .ok (.iload_n 1, 1) := by decide +kernel
theorem dL_addCell_5 : decode cL_addCell 5 = .ok (.iload_n 2, 1) := by decide +kernel
theorem dL_addCell_6 : decode cL_addCell 6 = .ok (.iload_n 3, 1) := by decide +kernel
theorem dL_addCell_7 : decode cL_addCell 7 = .ok (.invokevirtual 36, 3) := by decide +kernel
theorem dL_addCell_10 : decode cL_addCell 10 = .ok (.i2l, 1) := by decide +kernel
theorem dL_addCell_11 : decode cL_addCell 11 = .ok (.lastore, 1) := by decide +kernel
theorem dL_addCell_12 : decode cL_addCell 12 = .ok (.goto 11, 3) := by decide +kernel
theorem dL_addCell_15 : decode cL_addCell 15 = .ok (.astore 5, 2) := by decide +kernel
theorem dL_addCell_17 : decode cL_addCell 17 = .ok (.iconst 1, 1) := by decide +kernel
theorem dL_addCell_18 : decode cL_addCell 18 = .ok (.ireturn, 1) := by decide +kernel
theorem dL_addCell_19 : decode cL_addCell 19 = .ok (.astore 5, 2) := by decide +kernel
theorem dL_addCell_21 : decode cL_addCell 21 = .ok (.iconst 2, 1) := by decide +kernel
theorem dL_addCell_22 : decode cL_addCell 22 = .ok (.ireturn, 1) := by decide +kernel
theorem dL_addCell_23 : decode cL_addCell 23 = .ok (.iconst 0, 1) := by decide +kernel
theorem dL_addCell_24 : decode cL_addCell 24 = .ok (.ireturn, 1) := by decide +kernel
theorem dL_lend_0 : decode cL_lend 0 = .ok (.aload 5, 2) := by decide +kernel
theorem dL_lend_2 : decode cL_lend 2 = .ok (.iconst 0, 1) := by decide +kernel
theorem dL_lend_3 : decode cL_lend 3 = .ok (.aload_n 0, 1) := by decide +kernel
theorem dL_lend_4 : decode cL_lend 4 = .ok (.iload_n 1, 1) := by decide +kernel
theorem dL_lend_5 : decode cL_lend 5 = .ok (.iload_n 2, 1) := by decide +kernel
theorem dL_lend_6 : decode cL_lend 6 = .ok (.iload_n 3, 1) := by decide +kernel
theorem dL_lend_7 : decode cL_lend 7 = .ok (.iload 4, 2) := by decide +kernel
theorem dL_lend_9 : decode cL_lend 9 = .ok (.invokevirtual 40, 3) := by decide +kernel
theorem dL_lend_12 : decode cL_lend 12 = .ok (.i2l, 1) := by decide +kernel
theorem dL_lend_13 : decode cL_lend 13 = .ok (.lastore, 1) := by decide +kernel
theorem dL_lend_14 : decode cL_lend 14 = .ok (.goto 15, 3) := by decide +kernel
theorem dL_lend_17 : decode cL_lend 17 = .ok (.astore 6, 2) := by decide +kernel
theorem dL_lend_19 : decode cL_lend 19 = .ok (.iconst 1, 1) := by decide +kernel
theorem dL_lend_20 : decode cL_lend 20 = .ok (.ireturn, 1) := by decide +kernel
theorem dL_lend_21 : decode cL_lend 21 = .ok (.astore 6, 2) := by decide +kernel
theorem dL_lend_23 : decode cL_lend 23 = .ok (.iconst 2, 1) := by decide +kernel
theorem dL_lend_24 : decode cL_lend 24 = .ok (.ireturn, 1) := by decide +kernel
theorem dL_lend_25 : decode cL_lend 25 = .ok (.astore 6, 2) := by decide +kernel
theorem dL_lend_27 : decode cL_lend 27 = .ok (.iconst 3, 1) := by decide +kernel
theorem dL_lend_28 : decode cL_lend 28 = .ok (.ireturn, 1) := by decide +kernel
theorem dL_lend_29 : decode cL_lend 29 = .ok (.iconst 0, 1) := by decide +kernel
theorem dL_lend_30 : decode cL_lend 30 = .ok (.ireturn, 1) := by decide +kernel
theorem dL_repay_0 : decode cL_repay 0 = .ok (.aload_n 3, 1) := by decide +kernel
theorem dL_repay_1 : decode cL_repay 1 = .ok (.iconst 0, 1) := by decide +kernel
theorem dL_repay_2 : decode cL_repay 2 = .ok (.aload_n 0, 1) := by decide +kernel
theorem dL_repay_3 : decode cL_repay 3 = .ok (.iload_n 1, 1) := by decide +kernel
theorem dL_repay_4 : decode cL_repay 4 = .ok (.iload_n 2, 1) := by decide +kernel
theorem dL_repay_5 : decode cL_repay 5 = .ok (.invokevirtual 44, 3) := by decide +kernel
theorem dL_repay_8 : decode cL_repay 8 = .ok (.i2l, 1) := by decide +kernel
theorem dL_repay_9 : decode cL_repay 9 = .ok (.lastore, 1) := by decide +kernel
theorem dL_repay_10 : decode cL_repay 10 = .ok (.goto 15, 3) := by decide +kernel
theorem dL_repay_13 : decode cL_repay 13 = .ok (.astore 4, 2) := by decide +kernel
theorem dL_repay_15 : decode cL_repay 15 = .ok (.iconst 1, 1) := by decide +kernel
theorem dL_repay_16 : decode cL_repay 16 = .ok (.ireturn, 1) := by decide +kernel
theorem dL_repay_17 : decode cL_repay 17 = .ok (.astore 4, 2) := by decide +kernel
theorem dL_repay_19 : decode cL_repay 19 = .ok (.iconst 2, 1) := by decide +kernel
theorem dL_repay_20 : decode cL_repay 20 = .ok (.ireturn, 1) := by decide +kernel
theorem dL_repay_21 : decode cL_repay 21 = .ok (.astore 4, 2) := by decide +kernel
theorem dL_repay_23 : decode cL_repay 23 = .ok (.iconst 3, 1) := by decide +kernel
theorem dL_repay_24 : decode cL_repay 24 = .ok (.ireturn, 1) := by decide +kernel
theorem dL_repay_25 : decode cL_repay 25 = .ok (.iconst 0, 1) := by decide +kernel
theorem dL_repay_26 : decode cL_repay 26 = .ok (.ireturn, 1) := by decide +kernel
theorem dL_setLeak_0 : decode cL_setLeak 0 = .ok (.aload_n 3, 1) := by decide +kernel
theorem dL_setLeak_1 : decode cL_setLeak 1 = .ok (.iconst 0, 1) := by decide +kernel
theorem dL_setLeak_2 : decode cL_setLeak 2 = .ok (.aload_n 0, 1) := by decide +kernel
theorem dL_setLeak_3 : decode cL_setLeak 3 = .ok (.iload_n 1, 1) := by decide +kernel
theorem dL_setLeak_4 : decode cL_setLeak 4 = .ok (.iload_n 2, 1) := by decide +kernel
theorem dL_setLeak_5 : decode cL_setLeak 5 = .ok (.invokevirtual 47, 3) := by decide +kernel
theorem dL_setLeak_8 : decode cL_setLeak 8 = .ok (.i2l, 1) := by decide +kernel
theorem dL_setLeak_9 : decode cL_setLeak 9 = .ok (.lastore, 1) := by decide +kernel
theorem dL_setLeak_10 : decode cL_setLeak 10 = .ok (.goto 11, 3) := by decide +kernel
theorem dL_setLeak_13 : decode cL_setLeak 13 = .ok (.astore 4, 2) := by decide +kernel
theorem dL_setLeak_15 : decode cL_setLeak 15 = .ok (.iconst 1, 1) := by decide +kernel
theorem dL_setLeak_16 : decode cL_setLeak 16 = .ok (.ireturn, 1) := by decide +kernel
theorem dL_setLeak_17 : decode cL_setLeak 17 = .ok (.astore 4, 2) := by decide +kernel
theorem dL_setLeak_19 : decode cL_setLeak 19 = .ok (.iconst 2, 1) := by decide +kernel
theorem dL_setLeak_20 : decode cL_setLeak 20 = .ok (.ireturn, 1) := by decide +kernel
theorem dL_setLeak_21 : decode cL_setLeak 21 = .ok (.iconst 0, 1) := by decide +kernel
theorem dL_setLeak_22 : decode cL_setLeak 22 = .ok (.ireturn, 1) := by decide +kernel
theorem dL_charge_0 : decode cL_charge 0 = .ok (.aload_n 2, 1) := by decide +kernel
theorem dL_charge_1 : decode cL_charge 1 = .ok (.iconst 0, 1) := by decide +kernel
theorem dL_charge_2 : decode cL_charge 2 = .ok (.aload_n 0, 1) := by decide +kernel
theorem dL_charge_3 : decode cL_charge 3 = .ok (.iload_n 1, 1) := by decide +kernel
theorem dL_charge_4 : decode cL_charge 4 = .ok (.invokevirtual 50, 3) := by decide +kernel
theorem dL_charge_7 : decode cL_charge 7 = .ok (.i2l, 1) := by decide +kernel
theorem dL_charge_8 : decode cL_charge 8 = .ok (.lastore, 1) := by decide +kernel
theorem dL_charge_9 : decode cL_charge 9 = .ok (.goto 6, 3) := by decide +kernel
theorem dL_charge_12 : decode cL_charge 12 = .ok (.astore_n 3, 1) := by decide +kernel
theorem dL_charge_13 : decode cL_charge 13 = .ok (.iconst 1, 1) := by decide +kernel
theorem dL_charge_14 : decode cL_charge 14 = .ok (.ireturn, 1) := by decide +kernel
theorem dL_charge_15 : decode cL_charge 15 = .ok (.iconst 0, 1) := by decide +kernel
theorem dL_charge_16 : decode cL_charge 16 = .ok (.ireturn, 1) := by decide +kernel
theorem dL_draw_0 : decode cL_draw 0 = .ok (.aload_n 2, 1) := by decide +kernel
theorem dL_draw_1 : decode cL_draw 1 = .ok (.iconst 0, 1) := by decide +kernel
theorem dL_draw_2 : decode cL_draw 2 = .ok (.aload_n 0, 1) := by decide +kernel
theorem dL_draw_3 : decode cL_draw 3 = .ok (.iload_n 1, 1) := by decide +kernel
theorem dL_draw_4 : decode cL_draw 4 = .ok (.invokevirtual 53, 3) := by decide +kernel
theorem dL_draw_7 : decode cL_draw 7 = .ok (.i2l, 1) := by decide +kernel
theorem dL_draw_8 : decode cL_draw 8 = .ok (.lastore, 1) := by decide +kernel
theorem dL_draw_9 : decode cL_draw 9 = .ok (.goto 9, 3) := by decide +kernel
theorem dL_draw_12 : decode cL_draw 12 = .ok (.astore_n 3, 1) := by decide +kernel
theorem dL_draw_13 : decode cL_draw 13 = .ok (.iconst 1, 1) := by decide +kernel
theorem dL_draw_14 : decode cL_draw 14 = .ok (.ireturn, 1) := by decide +kernel
theorem dL_draw_15 : decode cL_draw 15 = .ok (.astore_n 3, 1) := by decide +kernel
theorem dL_draw_16 : decode cL_draw 16 = .ok (.iconst 2, 1) := by decide +kernel
theorem dL_draw_17 : decode cL_draw 17 = .ok (.ireturn, 1) := by decide +kernel
theorem dL_draw_18 : decode cL_draw 18 = .ok (.iconst 0, 1) := by decide +kernel
theorem dL_draw_19 : decode cL_draw 19 = .ok (.ireturn, 1) := by decide +kernel
theorem dL_pass_0 : decode cL_pass 0 = .ok (.aload_n 2, 1) := by decide +kernel
theorem dL_pass_1 : decode cL_pass 1 = .ok (.iconst 0, 1) := by decide +kernel
theorem dL_pass_2 : decode cL_pass 2 = .ok (.aload_n 0, 1) := by decide +kernel
theorem dL_pass_3 : decode cL_pass 3 = .ok (.iload_n 1, 1) := by decide +kernel
theorem dL_pass_4 : decode cL_pass 4 = .ok (.invokevirtual 56, 3) := by decide +kernel
theorem dL_pass_7 : decode cL_pass 7 = .ok (.i2l, 1) := by decide +kernel
theorem dL_pass_8 : decode cL_pass 8 = .ok (.lastore, 1) := by decide +kernel
theorem dL_pass_9 : decode cL_pass 9 = .ok (.goto 6, 3) := by decide +kernel
theorem dL_pass_12 : decode cL_pass 12 = .ok (.astore_n 3, 1) := by decide +kernel
theorem dL_pass_13 : decode cL_pass 13 = .ok (.iconst 1, 1) := by decide +kernel
theorem dL_pass_14 : decode cL_pass 14 = .ok (.ireturn, 1) := by decide +kernel
theorem dL_pass_15 : decode cL_pass 15 = .ok (.iconst 0, 1) := by decide +kernel
theorem dL_pass_16 : decode cL_pass 16 = .ok (.ireturn, 1) := by decide +kernel
theorem dL_undo_0 : decode cL_undo 0 = .ok (.aload_n 1, 1) := by decide +kernel
theorem dL_undo_1 : decode cL_undo 1 = .ok (.iconst 0, 1) := by decide +kernel
theorem dL_undo_2 : decode cL_undo 2 = .ok (.aload_n 0, 1) := by decide +kernel
theorem dL_undo_3 : decode cL_undo 3 = .ok (.invokevirtual 59, 3) := by decide +kernel
theorem dL_undo_6 : decode cL_undo 6 = .ok (.i2l, 1) := by decide +kernel
theorem dL_undo_7 : decode cL_undo 7 = .ok (.lastore, 1) := by decide +kernel
theorem dL_undo_8 : decode cL_undo 8 = .ok (.goto 6, 3) := by decide +kernel
theorem dL_undo_11 : decode cL_undo 11 = .ok (.astore_n 2, 1) := by decide +kernel
theorem dL_undo_12 : decode cL_undo 12 = .ok (.iconst 1, 1) := by decide +kernel
theorem dL_undo_13 : decode cL_undo 13 = .ok (.ireturn, 1) := by decide +kernel
theorem dL_undo_14 : decode cL_undo 14 = .ok (.iconst 0, 1) := by decide +kernel
theorem dL_undo_15 : decode cL_undo 15 = .ok (.ireturn, 1) := by decide +kernel
theorem dL_holds_0 : decode cL_holds 0 = .ok (.aload_n 2, 1) := by decide +kernel
theorem dL_holds_1 : decode cL_holds 1 = .ok (.iconst 0, 1) := by decide +kernel
theorem dL_holds_2 : decode cL_holds 2 = .ok (.aload_n 0, 1) := by decide +kernel
theorem dL_holds_3 : decode cL_holds 3 = .ok (.iload_n 1, 1) := by decide +kernel
theorem dL_holds_4 : decode cL_holds 4 = .ok (.invokevirtual 62, 3) := by decide +kernel
theorem dL_holds_7 : decode cL_holds 7 = .ok (.i2l, 1) := by decide +kernel
theorem dL_holds_8 : decode cL_holds 8 = .ok (.lastore, 1) := by decide +kernel
theorem dL_holds_9 : decode cL_holds 9 = .ok (.goto 6, 3) := by decide +kernel
theorem dL_holds_12 : decode cL_holds 12 = .ok (.astore_n 3, 1) := by decide +kernel
theorem dL_holds_13 : decode cL_holds 13 = .ok (.iconst 1, 1) := by decide +kernel
theorem dL_holds_14 : decode cL_holds 14 = .ok (.ireturn, 1) := by decide +kernel
theorem dL_holds_15 : decode cL_holds 15 = .ok (.iconst 0, 1) := by decide +kernel
theorem dL_holds_16 : decode cL_holds 16 = .ok (.ireturn, 1) := by decide +kernel
theorem dL_draws_0 : decode cL_draws 0 = .ok (.aload_n 2, 1) := by decide +kernel
theorem dL_draws_1 : decode cL_draws 1 = .ok (.iconst 0, 1) := by decide +kernel
theorem dL_draws_2 : decode cL_draws 2 = .ok (.aload_n 0, 1) := by decide +kernel
theorem dL_draws_3 : decode cL_draws 3 = .ok (.iload_n 1, 1) := by decide +kernel
theorem dL_draws_4 : decode cL_draws 4 = .ok (.invokevirtual 65, 3) := by decide +kernel
theorem dL_draws_7 : decode cL_draws 7 = .ok (.i2l, 1) := by decide +kernel
theorem dL_draws_8 : decode cL_draws 8 = .ok (.lastore, 1) := by decide +kernel
theorem dL_draws_9 : decode cL_draws 9 = .ok (.goto 6, 3) := by decide +kernel
theorem dL_draws_12 : decode cL_draws 12 = .ok (.astore_n 3, 1) := by decide +kernel
theorem dL_draws_13 : decode cL_draws 13 = .ok (.iconst 1, 1) := by decide +kernel
theorem dL_draws_14 : decode cL_draws 14 = .ok (.ireturn, 1) := by decide +kernel
theorem dL_draws_15 : decode cL_draws 15 = .ok (.iconst 0, 1) := by decide +kernel
theorem dL_draws_16 : decode cL_draws 16 = .ok (.ireturn, 1) := by decide +kernel
theorem dL_bestLender_0 : decode cL_bestLender 0 = .ok (.aload_n 3, 1) := by decide +kernel
theorem dL_bestLender_1 : decode cL_bestLender 1 = .ok (.iconst 0, 1) := by decide +kernel
theorem dL_bestLender_2 : decode cL_bestLender 2 = .ok (.aload_n 0, 1) := by decide +kernel
theorem dL_bestLender_3 : decode cL_bestLender 3 = .ok (.iload_n 1, 1) := by decide +kernel
theorem dL_bestLender_4 : decode cL_bestLender 4 = .ok (.iload_n 2, 1) := by decide +kernel
end
section
theorem dL_bestLender_5 : decode cL_bestLender 5 = .ok (.invokevirtual 68, 3) := by decide +kernel
theorem dL_bestLender_8 : decode cL_bestLender 8 = .ok (.i2l, 1) := by decide +kernel
theorem dL_bestLender_9 : decode cL_bestLender 9 = .ok (.lastore, 1) := by decide +kernel
theorem dL_bestLender_10 : decode cL_bestLender 10 = .ok (.goto 11, 3) := by decide +kernel
theorem dL_bestLender_13 : decode cL_bestLender 13 = .ok (.astore 4, 2) := by decide +kernel
theorem dL_bestLender_15 : decode cL_bestLender 15 = .ok (.iconst 1, 1) := by decide +kernel
theorem dL_bestLender_16 : decode cL_bestLender 16 = .ok (.ireturn, 1) := by decide +kernel
theorem dL_bestLender_17 : decode cL_bestLender 17 = .ok (.astore 4, 2) := by decide +kernel
theorem dL_bestLender_19 : decode cL_bestLender 19 = .ok (.iconst 2, 1) := by decide +kernel
theorem dL_bestLender_20 : decode cL_bestLender 20 = .ok (.ireturn, 1) := by decide +kernel
theorem dL_bestLender_21 : decode cL_bestLender 21 = .ok (.iconst 0, 1) := by decide +kernel
theorem dL_bestLender_22 : decode cL_bestLender 22 = .ok (.ireturn, 1) := by decide +kernel
theorem dL_costs_0 : decode cL_costs 0 = .ok (.aload_n 3, 1) := by decide +kernel
theorem dL_costs_1 : decode cL_costs 1 = .ok (.iconst 0, 1) := by decide +kernel
theorem dL_costs_2 : decode cL_costs 2 = .ok (.aload_n 0, 1) := by decide +kernel
theorem dL_costs_3 : decode cL_costs 3 = .ok (.iload_n 1, 1) := by decide +kernel
theorem dL_costs_4 : decode cL_costs 4 = .ok (.iload_n 2, 1) := by decide +kernel
theorem dL_costs_5 : decode cL_costs 5 = .ok (.invokevirtual 71, 3) := by decide +kernel
theorem dL_costs_8 : decode cL_costs 8 = .ok (.i2l, 1) := by decide +kernel
theorem dL_costs_9 : decode cL_costs 9 = .ok (.lastore, 1) := by decide +kernel
theorem dL_costs_10 : decode cL_costs 10 = .ok (.goto 11, 3) := by decide +kernel
theorem dL_costs_13 : decode cL_costs 13 = .ok (.astore 4, 2) := by decide +kernel
theorem dL_costs_15 : decode cL_costs 15 = .ok (.iconst 1, 1) := by decide +kernel
theorem dL_costs_16 : decode cL_costs 16 = .ok (.ireturn, 1) := by decide +kernel
theorem dL_costs_17 : decode cL_costs 17 = .ok (.astore 4, 2) := by decide +kernel
theorem dL_costs_19 : decode cL_costs 19 = .ok (.iconst 2, 1) := by decide +kernel
theorem dL_costs_20 : decode cL_costs 20 = .ok (.ireturn, 1) := by decide +kernel
theorem dL_costs_21 : decode cL_costs 21 = .ok (.iconst 0, 1) := by decide +kernel
theorem dL_costs_22 : decode cL_costs 22 = .ok (.ireturn, 1) := by decide +kernel
theorem dL_runScript_0 : decode cL_runScript 0 = .ok (.aload 4, 2) := by decide +kernel
theorem dL_runScript_2 : decode cL_runScript 2 = .ok (.iconst 0, 1) := by decide +kernel
theorem dL_runScript_3 : decode cL_runScript 3 = .ok (.aload_n 0, 1) := by decide +kernel
theorem dL_runScript_4 : decode cL_runScript 4 = .ok (.iload_n 1, 1) := by decide +kernel
theorem dL_runScript_5 : decode cL_runScript 5 = .ok (.lload_n 2, 1) := by decide +kernel
theorem dL_runScript_6 : decode cL_runScript 6 = .ok (.invokevirtual 74, 3) := by decide +kernel
theorem dL_runScript_9 : decode cL_runScript 9 = .ok (.i2l, 1) := by decide +kernel
theorem dL_runScript_10 : decode cL_runScript 10 = .ok (.lastore, 1) := by decide +kernel
theorem dL_runScript_11 : decode cL_runScript 11 = .ok (.goto 7, 3) := by decide +kernel
theorem dL_runScript_14 : decode cL_runScript 14 = .ok (.astore 5, 2) := by decide +kernel
theorem dL_runScript_16 : decode cL_runScript 16 = .ok (.iconst 1, 1) := by decide +kernel
theorem dL_runScript_17 : decode cL_runScript 17 = .ok (.ireturn, 1) := by decide +kernel
theorem dL_runScript_18 : decode cL_runScript 18 = .ok (.iconst 0, 1) := by decide +kernel
theorem dL_runScript_19 : decode cL_runScript 19 = .ok (.ireturn, 1) := by decide +kernel
theorem dL_simulate_0 : decode cL_simulate 0 = .ok (.aload 4, 2) := by decide +kernel
theorem dL_simulate_2 : decode cL_simulate 2 = .ok (.iconst 0, 1) := by decide +kernel
theorem dL_simulate_3 : decode cL_simulate 3 = .ok (.aload_n 0, 1) := by decide +kernel
theorem dL_simulate_4 : decode cL_simulate 4 = .ok (.lload_n 1, 1) := by decide +kernel
theorem dL_simulate_5 : decode cL_simulate 5 = .ok (.iload_n 3, 1) := by decide +kernel
theorem dL_simulate_6 : decode cL_simulate 6 = .ok (.invokevirtual 78, 3) := by decide +kernel
theorem dL_simulate_9 : decode cL_simulate 9 = .ok (.i2l, 1) := by decide +kernel
theorem dL_simulate_10 : decode cL_simulate 10 = .ok (.lastore, 1) := by decide +kernel
theorem dL_simulate_11 : decode cL_simulate 11 = .ok (.goto 7, 3) := by decide +kernel
theorem dL_simulate_14 : decode cL_simulate 14 = .ok (.astore 5, 2) := by decide +kernel
theorem dL_simulate_16 : decode cL_simulate 16 = .ok (.iconst 1, 1) := by decide +kernel
theorem dL_simulate_17 : decode cL_simulate 17 = .ok (.ireturn, 1) := by decide +kernel
theorem dL_simulate_18 : decode cL_simulate 18 = .ok (.iconst 0, 1) := by decide +kernel
theorem dL_simulate_19 : decode cL_simulate 19 = .ok (.ireturn, 1) := by decide +kernel
theorem dL_save_0 : decode cL_save 0 = .ok (.aload_n 2, 1) := by decide +kernel
theorem dL_save_1 : decode cL_save 1 = .ok (.iconst 0, 1) := by decide +kernel
theorem dL_save_2 : decode cL_save 2 = .ok (.aload_n 0, 1) := by decide +kernel
theorem dL_save_3 : decode cL_save 3 = .ok (.iload_n 1, 1) := by decide +kernel
theorem dL_save_4 : decode cL_save 4 = .ok (.invokevirtual 82, 3) := by decide +kernel
theorem dL_save_7 : decode cL_save 7 = .ok (.i2l, 1) := by decide +kernel
theorem dL_save_8 : decode cL_save 8 = .ok (.lastore, 1) := by decide +kernel
theorem dL_save_9 : decode cL_save 9 = .ok (.goto 6, 3) := by decide +kernel
theorem dL_save_12 : decode cL_save 12 = .ok (.astore_n 3, 1) := by decide +kernel
theorem dL_save_13 : decode cL_save 13 = .ok (.iconst 1, 1) := by decide +kernel
theorem dL_save_14 : decode cL_save 14 = .ok (.ireturn, 1) := by decide +kernel
theorem dL_save_15 : decode cL_save 15 = .ok (.iconst 0, 1) := by decide +kernel
theorem dL_save_16 : decode cL_save 16 = .ok (.ireturn, 1) := by decide +kernel
theorem dL_restore_0 : decode cL_restore 0 = .ok (.aload_n 2, 1) := by decide +kernel
theorem dL_restore_1 : decode cL_restore 1 = .ok (.iconst 0, 1) := by decide +kernel
theorem dL_restore_2 : decode cL_restore 2 = .ok (.aload_n 0, 1) := by decide +kernel
theorem dL_restore_3 : decode cL_restore 3 = .ok (.iload_n 1, 1) := by decide +kernel
theorem dL_restore_4 : decode cL_restore 4 = .ok (.invokevirtual 85, 3) := by decide +kernel
theorem dL_restore_7 : decode cL_restore 7 = .ok (.i2l, 1) := by decide +kernel
theorem dL_restore_8 : decode cL_restore 8 = .ok (.lastore, 1) := by decide +kernel
theorem dL_restore_9 : decode cL_restore 9 = .ok (.goto 9, 3) := by decide +kernel
theorem dL_restore_12 : decode cL_restore 12 = .ok (.astore_n 3, 1) := by decide +kernel
theorem dL_restore_13 : decode cL_restore 13 = .ok (.iconst 1, 1) := by decide +kernel
theorem dL_restore_14 : decode cL_restore 14 = .ok (.ireturn, 1) := by decide +kernel
theorem dL_restore_15 : decode cL_restore 15 = .ok (.astore_n 3, 1) := by decide +kernel
theorem dL_restore_16 : decode cL_restore 16 = .ok (.iconst 2, 1) := by decide +kernel
theorem dL_restore_17 : decode cL_restore 17 = .ok (.ireturn, 1) := by decide +kernel
theorem dL_restore_18 : decode cL_restore 18 = .ok (.iconst 0, 1) := by decide +kernel
theorem dL_restore_19 : decode cL_restore 19 = .ok (.ireturn, 1) := by decide +kernel
theorem dL_law_0 : decode cL_law 0 = .ok (.new 8, 3) := by decide +kernel
theorem dL_law_3 : decode cL_law 3 = .ok (.dup, 1) := by decide +kernel
theorem dL_law_4 : decode cL_law 4 = .ok (.invokespecial 88, 3) := by decide +kernel
theorem dL_law_7 : decode cL_law 7 = .ok (.astore_n 1, 1) := by decide +kernel
theorem dL_law_8 : decode cL_law 8 = .ok (.new 89, 3) := by decide +kernel
theorem dL_law_11 : decode cL_law 11 = .ok (.dup, 1) := by decide +kernel
theorem dL_law_12 : decode cL_law 12 = .ok (.invokespecial 91, 3) := by decide +kernel
theorem dL_law_15 : decode cL_law 15 = .ok (.astore_n 2, 1) := by decide +kernel
theorem dL_law_16 : decode cL_law 16 = .ok (.iconst 1, 1) := by decide +kernel
theorem dL_law_17 : decode cL_law 17 = .ok (.newarray .long, 2) := by decide +kernel
theorem dL_law_19 : decode cL_law 19 = .ok (.astore_n 3, 1) := by decide +kernel
theorem dL_law_20 : decode cL_law 20 = .ok (.iconst 0, 1) := by decide +kernel
theorem dL_law_21 : decode cL_law 21 = .ok (.istore 4, 2) := by decide +kernel
theorem dL_law_23 : decode cL_law 23 = .ok (.iload 4, 2) := by decide +kernel
theorem dL_law_25 : decode cL_law 25 = .ok (.aload_n 0, 1) := by decide +kernel
theorem dL_law_26 : decode cL_law 26 = .ok (.arraylength, 1) := by decide +kernel
theorem dL_law_27 : decode cL_law 27 = .ok (.iconst 5, 1) := by decide +kernel
theorem dL_law_28 : decode cL_law 28 = .ok (.isub, 1) := by decide +kernel
theorem dL_law_29 : decode cL_law 29 = .ok (.if_icmp .gt 1596, 3) := by decide +kernel
theorem dL_law_32 : decode cL_law 32 = .ok (.aload_n 0, 1) := by decide +kernel
theorem dL_law_33 : decode cL_law 33 = .ok (.iload 4, 2) := by decide +kernel
theorem dL_law_35 : decode cL_law 35 = .ok (.iaload, 1) := by decide +kernel
theorem dL_law_36 : decode cL_law 36 = .ok (.bipush 31, 2) := by decide +kernel
theorem dL_law_38 : decode cL_law 38 = .ok (.iand, 1) := by decide +kernel
theorem dL_law_39 : decode cL_law 39 = .ok (.tableswitch 1580 0 24 #[113, 169, 182, 195, 239, 295, 363, 431, 487, 567, 659, 727, 795, 851, 907, 963, 1007, 1063, 1119, 1132, 1200, 1268, 1368, 1468, 1524], 113) := by decide +kernel
theorem dL_law_152 : decode cL_law 152 = .ok (.aload_n 1, 1) := by decide +kernel
theorem dL_law_153 : decode cL_law 153 = .ok (.aload_n 0, 1) := by decide +kernel
theorem dL_law_154 : decode cL_law 154 = .ok (.iload 4, 2) := by decide +kernel
theorem dL_law_156 : decode cL_law 156 = .ok (.iconst 1, 1) := by decide +kernel
theorem dL_law_157 : decode cL_law 157 = .ok (.iadd, 1) := by decide +kernel
theorem dL_law_158 : decode cL_law 158 = .ok (.iaload, 1) := by decide +kernel
theorem dL_law_159 : decode cL_law 159 = .ok (.aload_n 3, 1) := by decide +kernel
theorem dL_law_160 : decode cL_law 160 = .ok (.invokestatic 92, 3) := by decide +kernel
theorem dL_law_163 : decode cL_law 163 = .ok (.istore 5, 2) := by decide +kernel
theorem dL_law_165 : decode cL_law 165 = .ok (.aload_n 2, 1) := by decide +kernel
theorem dL_law_166 : decode cL_law 166 = .ok (.aload_n 0, 1) := by decide +kernel
theorem dL_law_167 : decode cL_law 167 = .ok (.iload 4, 2) := by decide +kernel
theorem dL_law_169 : decode cL_law 169 = .ok (.iconst 1, 1) := by decide +kernel
theorem dL_law_170 : decode cL_law 170 = .ok (.iadd, 1) := by decide +kernel
theorem dL_law_171 : decode cL_law 171 = .ok (.iaload, 1) := by decide +kernel
theorem dL_law_172 : decode cL_law 172 = .ok (.invokevirtual 97, 3) := by decide +kernel
theorem dL_law_175 : decode cL_law 175 = .ok (.istore 6, 2) := by decide +kernel
theorem dL_law_177 : decode cL_law 177 = .ok (.aload_n 2, 1) := by decide +kernel
theorem dL_law_178 : decode cL_law 178 = .ok (.invokevirtual 98, 3) := by decide +kernel
theorem dL_law_181 : decode cL_law 181 = .ok (.iload 5, 2) := by decide +kernel
theorem dL_law_183 : decode cL_law 183 = .ok (.if_icmp .eq 5, 3) := by decide +kernel
theorem dL_law_186 : decode cL_law 186 = .ok (.iconst 0, 1) := by decide +kernel
theorem dL_law_187 : decode cL_law 187 = .ok (.ireturn, 1) := by decide +kernel
theorem dL_law_188 : decode cL_law 188 = .ok (.iload 5, 2) := by decide +kernel
theorem dL_law_190 : decode cL_law 190 = .ok (.ifCond .ne 15, 3) := by decide +kernel
theorem dL_law_193 : decode cL_law 193 = .ok (.aload_n 3, 1) := by decide +kernel
theorem dL_law_194 : decode cL_law 194 = .ok (.iconst 0, 1) := by decide +kernel
theorem dL_law_195 : decode cL_law 195 = .ok (.laload, 1) := by decide +kernel
theorem dL_law_196 : decode cL_law 196 = .ok (.iload 6, 2) := by decide +kernel
theorem dL_law_198 : decode cL_law 198 = .ok (.i2l, 1) := by decide +kernel
theorem dL_law_199 : decode cL_law 199 = .ok (.lcmp, 1) := by decide +kernel
theorem dL_law_200 : decode cL_law 200 = .ok (.ifCond .eq 5, 3) := by decide +kernel
theorem dL_law_203 : decode cL_law 203 = .ok (.iconst 0, 1) := by decide +kernel
theorem dL_law_204 : decode cL_law 204 = .ok (.ireturn, 1) := by decide +kernel
theorem dL_law_205 : decode cL_law 205 = .ok (.goto 1414, 3) := by decide +kernel
theorem dL_law_208 : decode cL_law 208 = .ok (.aload_n 1, 1) := by decide +kernel
theorem dL_law_209 : decode cL_law 209 = .ok (.invokevirtual 101, 3) := by decide +kernel
theorem dL_law_212 : decode cL_law 212 = .ok (.aload_n 2, 1) := by decide +kernel
theorem dL_law_213 : decode cL_law 213 = .ok (.invokevirtual 104, 3) := by decide +kernel
theorem dL_law_216 : decode cL_law 216 = .ok (.if_icmp .eq 1403, 3) := by decide +kernel
theorem dL_law_219 : decode cL_law 219 = .ok (.iconst 0, 1) := by decide +kernel
theorem dL_law_220 : decode cL_law 220 = .ok (.ireturn, 1) := by decide +kernel
theorem dL_law_221 : decode cL_law 221 = .ok (.aload_n 1, 1) := by decide +kernel
theorem dL_law_222 : decode cL_law 222 = .ok (.invokevirtual 105, 3) := by decide +kernel
theorem dL_law_225 : decode cL_law 225 = .ok (.aload_n 2, 1) := by decide +kernel
theorem dL_law_226 : decode cL_law 226 = .ok (.invokevirtual 108, 3) := by decide +kernel
theorem dL_law_229 : decode cL_law 229 = .ok (.if_icmp .eq 1390, 3) := by decide +kernel
theorem dL_law_232 : decode cL_law 232 = .ok (.iconst 0, 1) := by decide +kernel
theorem dL_law_233 : decode cL_law 233 = .ok (.ireturn, 1) := by decide +kernel
theorem dL_law_234 : decode cL_law 234 = .ok (.aload_n 1, 1) := by decide +kernel
theorem dL_law_235 : decode cL_law 235 = .ok (.aload_n 3, 1) := by decide +kernel
theorem dL_law_236 : decode cL_law 236 = .ok (.invokestatic 109, 3) := by decide +kernel
theorem dL_law_239 : decode cL_law 239 = .ok (.istore 5, 2) := by decide +kernel
theorem dL_law_241 : decode cL_law 241 = .ok (.aload_n 2, 1) := by decide +kernel
theorem dL_law_242 : decode cL_law 242 = .ok (.invokevirtual 112, 3) := by decide +kernel
theorem dL_law_245 : decode cL_law 245 = .ok (.istore 6, 2) := by decide +kernel
theorem dL_law_247 : decode cL_law 247 = .ok (.aload_n 2, 1) := by decide +kernel
theorem dL_law_248 : decode cL_law 248 = .ok (.invokevirtual 98, 3) := by decide +kernel
theorem dL_law_251 : decode cL_law 251 = .ok (.iload 5, 2) := by decide +kernel
theorem dL_law_253 : decode cL_law 253 = .ok (.if_icmp .eq 5, 3) := by decide +kernel
theorem dL_law_256 : decode cL_law 256 = .ok (.iconst 0, 1) := by decide +kernel
theorem dL_law_257 : decode cL_law 257 = .ok (.ireturn, 1) := by decide +kernel
theorem dL_law_258 : decode cL_law 258 = .ok (.iload 5, 2) := by decide +kernel
theorem dL_law_260 : decode cL_law 260 = .ok (.ifCond .ne 15, 3) := by decide +kernel
theorem dL_law_263 : decode cL_law 263 = .ok (.aload_n 3, 1) := by decide +kernel
theorem dL_law_264 : decode cL_law 264 = .ok (.iconst 0, 1) := by decide +kernel
theorem dL_law_265 : decode cL_law 265 = .ok (.laload, 1) := by decide +kernel
theorem dL_law_266 : decode cL_law 266 = .ok (.iload 6, 2) := by decide +kernel
theorem dL_law_268 : decode cL_law 268 = .ok (.i2l, 1) := by decide +kernel
theorem dL_law_269 : decode cL_law 269 = .ok (.lcmp, 1) := by decide +kernel
theorem dL_law_270 : decode cL_law 270 = .ok (.ifCond .eq 5, 3) := by decide +kernel
theorem dL_law_273 : decode cL_law 273 = .ok (.iconst 0, 1) := by decide +kernel
theorem dL_law_274 : decode cL_law 274 = .ok (.ireturn, 1) := by decide +kernel
theorem dL_law_275 : decode cL_law 275 = .ok (.goto 1344, 3) := by decide +kernel
theorem dL_law_278 : decode cL_law 278 = .ok (.aload_n 1, 1) := by decide +kernel
theorem dL_law_279 : decode cL_law 279 = .ok (.aload_n 0, 1) := by decide +kernel
theorem dL_law_280 : decode cL_law 280 = .ok (.iload 4, 2) := by decide +kernel
theorem dL_law_282 : decode cL_law 282 = .ok (.iconst 1, 1) := by decide +kernel
theorem dL_law_283 : decode cL_law 283 = .ok (.iadd, 1) := by decide +kernel
theorem dL_law_284 : decode cL_law 284 = .ok (.iaload, 1) := by decide +kernel
theorem dL_law_285 : decode cL_law 285 = .ok (.aload_n 3, 1) := by decide +kernel
theorem dL_law_286 : decode cL_law 286 = .ok (.invokestatic 113, 3) := by decide +kernel
theorem dL_law_289 : decode cL_law 289 = .ok (.istore 5, 2) := by decide +kernel
theorem dL_law_291 : decode cL_law 291 = .ok (.aload_n 2, 1) := by decide +kernel
theorem dL_law_292 : decode cL_law 292 = .ok (.aload_n 0, 1) := by decide +kernel
theorem dL_law_293 : decode cL_law 293 = .ok (.iload 4, 2) := by decide +kernel
theorem dL_law_295 : decode cL_law 295 = .ok (.iconst 1, 1) := by decide +kernel
theorem dL_law_296 : decode cL_law 296 = .ok (.iadd, 1) := by decide +kernel
theorem dL_law_297 : decode cL_law 297 = .ok (.iaload, 1) := by decide +kernel
theorem dL_law_298 : decode cL_law 298 = .ok (.invokevirtual 115, 3) := by decide +kernel
theorem dL_law_301 : decode cL_law 301 = .ok (.istore 6, 2) := by decide +kernel
theorem dL_law_303 : decode cL_law 303 = .ok (.aload_n 2, 1) := by decide +kernel
theorem dL_law_304 : decode cL_law 304 = .ok (.invokevirtual 98, 3) := by decide +kernel
theorem dL_law_307 : decode cL_law 307 = .ok (.iload 5, 2) := by decide +kernel
theorem dL_law_309 : decode cL_law 309 = .ok (.if_icmp .eq 5, 3) := by decide +kernel
theorem dL_law_312 : decode cL_law 312 = .ok (.iconst 0, 1) := by decide +kernel
theorem dL_law_313 : decode cL_law 313 = .ok (.ireturn, 1) := by decide +kernel
theorem dL_law_314 : decode cL_law 314 = .ok (.iload 5, 2) := by decide +kernel
theorem dL_law_316 : decode cL_law 316 = .ok (.ifCond .ne 15, 3) := by decide +kernel
theorem dL_law_319 : decode cL_law 319 = .ok (.aload_n 3, 1) := by decide +kernel
theorem dL_law_320 : decode cL_law 320 = .ok (.iconst 0, 1) := by decide +kernel
theorem dL_law_321 : decode cL_law 321 = .ok (.laload, 1) := by decide +kernel
theorem dL_law_322 : decode cL_law 322 = .ok (.iload 6, 2) := by decide +kernel
theorem dL_law_324 : decode cL_law 324 = .ok (.i2l, 1) := by decide +kernel
theorem dL_law_325 : decode cL_law 325 = .ok (.lcmp, 1) := by decide +kernel
theorem dL_law_326 : decode cL_law 326 = .ok (.ifCond .eq 5, 3) := by decide +kernel
theorem dL_law_329 : decode cL_law 329 = .ok (.iconst 0, 1) := by decide +kernel
theorem dL_law_330 : decode cL_law 330 = .ok (.ireturn, 1) := by decide +kernel
theorem dL_law_331 : decode cL_law 331 = .ok (.goto 1288, 3) := by decide +kernel
theorem dL_law_334 : decode cL_law 334 = .ok (.aload_n 1, 1) := by decide +kernel
theorem dL_law_335 : decode cL_law 335 = .ok (.aload_n 0, 1) := by decide +kernel
theorem dL_law_336 : decode cL_law 336 = .ok (.iload 4, 2) := by decide +kernel
theorem dL_law_338 : decode cL_law 338 = .ok (.iconst 1, 1) := by decide +kernel
theorem dL_law_339 : decode cL_law 339 = .ok (.iadd, 1) := by decide +kernel
theorem dL_law_340 : decode cL_law 340 = .ok (.iaload, 1) := by decide +kernel
theorem dL_law_341 : decode cL_law 341 = .ok (.aload_n 0, 1) := by decide +kernel
theorem dL_law_342 : decode cL_law 342 = .ok (.iload 4, 2) := by decide +kernel
theorem dL_law_344 : decode cL_law 344 = .ok (.iconst 2, 1) := by decide +kernel
theorem dL_law_345 : decode cL_law 345 = .ok (.iadd, 1) := by decide +kernel
theorem dL_law_346 : decode cL_law 346 = .ok (.iaload, 1) := by decide +kernel
theorem dL_law_347 : decode cL_law 347 = .ok (.aload_n 3, 1) := by decide +kernel
theorem dL_law_348 : decode cL_law 348 = .ok (.invokestatic 116, 3) := by decide +kernel
theorem dL_law_351 : decode cL_law 351 = .ok (.istore 5, 2) := by decide +kernel
theorem dL_law_353 : decode cL_law 353 = .ok (.aload_n 2, 1) := by decide +kernel
theorem dL_law_354 : decode cL_law 354 = .ok (.aload_n 0, 1) := by decide +kernel
theorem dL_law_355 : decode cL_law 355 = .ok (.iload 4, 2) := by decide +kernel
theorem dL_law_357 : decode cL_law 357 = .ok (.iconst 1, 1) := by decide +kernel
theorem dL_law_358 : decode cL_law 358 = .ok (.iadd, 1) := by decide +kernel
theorem dL_law_359 : decode cL_law 359 = .ok (.iaload, 1) := by decide +kernel
theorem dL_law_360 : decode cL_law 360 = .ok (.aload_n 0, 1) := by decide +kernel
theorem dL_law_361 : decode cL_law 361 = .ok (.iload 4, 2) := by decide +kernel
theorem dL_law_363 : decode cL_law 363 = .ok (.iconst 2, 1) := by decide +kernel
theorem dL_law_364 : decode cL_law 364 = .ok (.iadd, 1) := by decide +kernel
theorem dL_law_365 : decode cL_law 365 = .ok (.iaload, 1) := by decide +kernel
theorem dL_law_366 : decode cL_law 366 = .ok (.invokevirtual 119, 3) := by decide +kernel
theorem dL_law_369 : decode cL_law 369 = .ok (.istore 6, 2) := by decide +kernel
theorem dL_law_371 : decode cL_law 371 = .ok (.aload_n 2, 1) := by decide +kernel
theorem dL_law_372 : decode cL_law 372 = .ok (.invokevirtual 98, 3) := by decide +kernel
theorem dL_law_375 : decode cL_law 375 = .ok (.iload 5, 2) := by decide +kernel
theorem dL_law_377 : decode cL_law 377 = .ok (.if_icmp .eq 5, 3) := by decide +kernel
theorem dL_law_380 : decode cL_law 380 = .ok (.iconst 0, 1) := by decide +kernel
theorem dL_law_381 : decode cL_law 381 = .ok (.ireturn, 1) := by decide +kernel
theorem dL_law_382 : decode cL_law 382 = .ok (.iload 5, 2) := by decide +kernel
theorem dL_law_384 : decode cL_law 384 = .ok (.ifCond .ne 15, 3) := by decide +kernel
theorem dL_law_387 : decode cL_law 387 = .ok (.aload_n 3, 1) := by decide +kernel
theorem dL_law_388 : decode cL_law 388 = .ok (.iconst 0, 1) := by decide +kernel
theorem dL_law_389 : decode cL_law 389 = .ok (.laload, 1) := by decide +kernel
theorem dL_law_390 : decode cL_law 390 = .ok (.iload 6, 2) := by decide +kernel
theorem dL_law_392 : decode cL_law 392 = .ok (.i2l, 1) := by decide +kernel
theorem dL_law_393 : decode cL_law 393 = .ok (.lcmp, 1) := by decide +kernel
theorem dL_law_394 : decode cL_law 394 = .ok (.ifCond .eq 5, 3) := by decide +kernel
theorem dL_law_397 : decode cL_law 397 = .ok (.iconst 0, 1) := by decide +kernel
theorem dL_law_398 : decode cL_law 398 = .ok (.ireturn, 1) := by decide +kernel
theorem dL_law_399 : decode cL_law 399 = .ok (.goto 1220, 3) := by decide +kernel
theorem dL_law_402 : decode cL_law 402 = .ok (.aload_n 1, 1) := by decide +kernel
theorem dL_law_403 : decode cL_law 403 = .ok (.aload_n 0, 1) := by decide +kernel
theorem dL_law_404 : decode cL_law 404 = .ok (.iload 4, 2) := by decide +kernel
theorem dL_law_406 : decode cL_law 406 = .ok (.iconst 1, 1) := by decide +kernel
theorem dL_law_407 : decode cL_law 407 = .ok (.iadd, 1) := by decide +kernel
theorem dL_law_408 : decode cL_law 408 = .ok (.iaload, 1) := by decide +kernel
theorem dL_law_409 : decode cL_law 409 = .ok (.aload_n 0, 1) := by decide +kernel
theorem dL_law_410 : decode cL_law 410 = .ok (.iload 4, 2) := by decide +kernel
theorem dL_law_412 : decode cL_law 412 = .ok (.iconst 2, 1) := by decide +kernel
theorem dL_law_413 : decode cL_law 413 = .ok (.iadd, 1) := by decide +kernel
theorem dL_law_414 : decode cL_law 414 = .ok (.iaload, 1) := by decide +kernel
theorem dL_law_415 : decode cL_law 415 = .ok (.aload_n 3, 1) := by decide +kernel
theorem dL_law_416 : decode cL_law 416 = .ok (.invokestatic 120, 3) := by decide +kernel
theorem dL_law_419 : decode cL_law 419 = .ok (.istore 5, 2) := by decide +kernel
theorem dL_law_421 : decode cL_law 421 = .ok (.aload_n 2, 1) := by decide +kernel
theorem dL_law_422 : decode cL_law 422 = .ok (.aload_n 0, 1) := by decide +kernel
theorem dL_law_423 : decode cL_law 423 = .ok (.iload 4, 2) := by decide +kernel
theorem dL_law_425 : decode cL_law 425 = .ok (.iconst 1, 1) := by decide +kernel
theorem dL_law_426 : decode cL_law 426 = .ok (.iadd, 1) := by decide +kernel
theorem dL_law_427 : decode cL_law 427 = .ok (.iaload, 1) := by decide +kernel
theorem dL_law_428 : decode cL_law 428 = .ok (.aload_n 0, 1) := by decide +kernel
theorem dL_law_429 : decode cL_law 429 = .ok (.iload 4, 2) := by decide +kernel
theorem dL_law_431 : decode cL_law 431 = .ok (.iconst 2, 1) := by decide +kernel
theorem dL_law_432 : decode cL_law 432 = .ok (.iadd, 1) := by decide +kernel
theorem dL_law_433 : decode cL_law 433 = .ok (.iaload, 1) := by decide +kernel
theorem dL_law_434 : decode cL_law 434 = .ok (.invokevirtual 122, 3) := by decide +kernel
theorem dL_law_437 : decode cL_law 437 = .ok (.istore 6, 2) := by decide +kernel
theorem dL_law_439 : decode cL_law 439 = .ok (.aload_n 2, 1) := by decide +kernel
theorem dL_law_440 : decode cL_law 440 = .ok (.invokevirtual 98, 3) := by decide +kernel
theorem dL_law_443 : decode cL_law 443 = .ok (.iload 5, 2) := by decide +kernel
theorem dL_law_445 : decode cL_law 445 = .ok (.if_icmp .eq 5, 3) := by decide +kernel
theorem dL_law_448 : decode cL_law 448 = .ok (.iconst 0, 1) := by decide +kernel
theorem dL_law_449 : decode cL_law 449 = .ok (.ireturn, 1) := by decide +kernel
theorem dL_law_450 : decode cL_law 450 = .ok (.iload 5, 2) := by decide +kernel
theorem dL_law_452 : decode cL_law 452 = .ok (.ifCond .ne 15, 3) := by decide +kernel
theorem dL_law_455 : decode cL_law 455 = .ok (.aload_n 3, 1) := by decide +kernel
theorem dL_law_456 : decode cL_law 456 = .ok (.iconst 0, 1) := by decide +kernel
theorem dL_law_457 : decode cL_law 457 = .ok (.laload, 1) := by decide +kernel
theorem dL_law_458 : decode cL_law 458 = .ok (.iload 6, 2) := by decide +kernel
theorem dL_law_460 : decode cL_law 460 = .ok (.i2l, 1) := by decide +kernel
theorem dL_law_461 : decode cL_law 461 = .ok (.lcmp, 1) := by decide +kernel
theorem dL_law_462 : decode cL_law 462 = .ok (.ifCond .eq 5, 3) := by decide +kernel
theorem dL_law_465 : decode cL_law 465 = .ok (.iconst 0, 1) := by decide +kernel
theorem dL_law_466 : decode cL_law 466 = .ok (.ireturn, 1) := by decide +kernel
theorem dL_law_467 : decode cL_law 467 = .ok (.goto 1152, 3) := by decide +kernel
theorem dL_law_470 : decode cL_law 470 = .ok (.aload_n 1, 1) := by decide +kernel
theorem dL_law_471 : decode cL_law 471 = .ok (.aload_n 0, 1) := by decide +kernel
theorem dL_law_472 : decode cL_law 472 = .ok (.iload 4, 2) := by decide +kernel
theorem dL_law_474 : decode cL_law 474 = .ok (.iconst 1, 1) := by decide +kernel
theorem dL_law_475 : decode cL_law 475 = .ok (.iadd, 1) := by decide +kernel
theorem dL_law_476 : decode cL_law 476 = .ok (.iaload, 1) := by decide +kernel
theorem dL_law_477 : decode cL_law 477 = .ok (.aload_n 3, 1) := by decide +kernel
theorem dL_law_478 : decode cL_law 478 = .ok (.invokestatic 123, 3) := by decide +kernel
theorem dL_law_481 : decode cL_law 481 = .ok (.istore 5, 2) := by decide +kernel
theorem dL_law_483 : decode cL_law 483 = .ok (.aload_n 2, 1) := by decide +kernel
theorem dL_law_484 : decode cL_law 484 = .ok (.aload_n 0, 1) := by decide +kernel
theorem dL_law_485 : decode cL_law 485 = .ok (.iload 4, 2) := by decide +kernel
theorem dL_law_487 : decode cL_law 487 = .ok (.iconst 1, 1) := by decide +kernel
theorem dL_law_488 : decode cL_law 488 = .ok (.iadd, 1) := by decide +kernel
theorem dL_law_489 : decode cL_law 489 = .ok (.iaload, 1) := by decide +kernel
theorem dL_law_490 : decode cL_law 490 = .ok (.invokevirtual 125, 3) := by decide +kernel
theorem dL_law_493 : decode cL_law 493 = .ok (.istore 6, 2) := by decide +kernel
theorem dL_law_495 : decode cL_law 495 = .ok (.aload_n 2, 1) := by decide +kernel
theorem dL_law_496 : decode cL_law 496 = .ok (.invokevirtual 98, 3) := by decide +kernel
theorem dL_law_499 : decode cL_law 499 = .ok (.iload 5, 2) := by decide +kernel
theorem dL_law_501 : decode cL_law 501 = .ok (.if_icmp .eq 5, 3) := by decide +kernel
theorem dL_law_504 : decode cL_law 504 = .ok (.iconst 0, 1) := by decide +kernel
theorem dL_law_505 : decode cL_law 505 = .ok (.ireturn, 1) := by decide +kernel
theorem dL_law_506 : decode cL_law 506 = .ok (.iload 5, 2) := by decide +kernel
theorem dL_law_508 : decode cL_law 508 = .ok (.ifCond .ne 15, 3) := by decide +kernel
theorem dL_law_511 : decode cL_law 511 = .ok (.aload_n 3, 1) := by decide +kernel
theorem dL_law_512 : decode cL_law 512 = .ok (.iconst 0, 1) := by decide +kernel
theorem dL_law_513 : decode cL_law 513 = .ok (.laload, 1) := by decide +kernel
theorem dL_law_514 : decode cL_law 514 = .ok (.iload 6, 2) := by decide +kernel
theorem dL_law_516 : decode cL_law 516 = .ok (.i2l, 1) := by decide +kernel
theorem dL_law_517 : decode cL_law 517 = .ok (.lcmp, 1) := by decide +kernel
theorem dL_law_518 : decode cL_law 518 = .ok (.ifCond .eq 5, 3) := by decide +kernel
theorem dL_law_521 : decode cL_law 521 = .ok (.iconst 0, 1) := by decide +kernel
theorem dL_law_522 : decode cL_law 522 = .ok (.ireturn, 1) := by decide +kernel
theorem dL_law_523 : decode cL_law 523 = .ok (.goto 1096, 3) := by decide +kernel
theorem dL_law_526 : decode cL_law 526 = .ok (.aload_n 1, 1) := by decide +kernel
theorem dL_law_527 : decode cL_law 527 = .ok (.aload_n 0, 1) := by decide +kernel
theorem dL_law_528 : decode cL_law 528 = .ok (.iload 4, 2) := by decide +kernel
theorem dL_law_530 : decode cL_law 530 = .ok (.iconst 1, 1) := by decide +kernel
theorem dL_law_531 : decode cL_law 531 = .ok (.iadd, 1) := by decide +kernel
theorem dL_law_532 : decode cL_law 532 = .ok (.iaload, 1) := by decide +kernel
theorem dL_law_533 : decode cL_law 533 = .ok (.aload_n 0, 1) := by decide +kernel
theorem dL_law_534 : decode cL_law 534 = .ok (.iload 4, 2) := by decide +kernel
theorem dL_law_536 : decode cL_law 536 = .ok (.iconst 2, 1) := by decide +kernel
theorem dL_law_537 : decode cL_law 537 = .ok (.iadd, 1) := by decide +kernel
theorem dL_law_538 : decode cL_law 538 = .ok (.iaload, 1) := by decide +kernel
theorem dL_law_539 : decode cL_law 539 = .ok (.aload_n 0, 1) := by decide +kernel
theorem dL_law_540 : decode cL_law 540 = .ok (.iload 4, 2) := by decide +kernel
theorem dL_law_542 : decode cL_law 542 = .ok (.iconst 3, 1) := by decide +kernel
theorem dL_law_543 : decode cL_law 543 = .ok (.iadd, 1) := by decide +kernel
theorem dL_law_544 : decode cL_law 544 = .ok (.iaload, 1) := by decide +kernel
theorem dL_law_545 : decode cL_law 545 = .ok (.aload_n 3, 1) := by decide +kernel
theorem dL_law_546 : decode cL_law 546 = .ok (.invokestatic 126, 3) := by decide +kernel
theorem dL_law_549 : decode cL_law 549 = .ok (.istore 5, 2) := by decide +kernel
theorem dL_law_551 : decode cL_law 551 = .ok (.aload_n 2, 1) := by decide +kernel
theorem dL_law_552 : decode cL_law 552 = .ok (.aload_n 0, 1) := by decide +kernel
theorem dL_law_553 : decode cL_law 553 = .ok (.iload 4, 2) := by decide +kernel
theorem dL_law_555 : decode cL_law 555 = .ok (.iconst 1, 1) := by decide +kernel
theorem dL_law_556 : decode cL_law 556 = .ok (.iadd, 1) := by decide +kernel
theorem dL_law_557 : decode cL_law 557 = .ok (.iaload, 1) := by decide +kernel
theorem dL_law_558 : decode cL_law 558 = .ok (.aload_n 0, 1) := by decide +kernel
theorem dL_law_559 : decode cL_law 559 = .ok (.iload 4, 2) := by decide +kernel
theorem dL_law_561 : decode cL_law 561 = .ok (.iconst 2, 1) := by decide +kernel
theorem dL_law_562 : decode cL_law 562 = .ok (.iadd, 1) := by decide +kernel
theorem dL_law_563 : decode cL_law 563 = .ok (.iaload, 1) := by decide +kernel
theorem dL_law_564 : decode cL_law 564 = .ok (.aload_n 0, 1) := by decide +kernel
theorem dL_law_565 : decode cL_law 565 = .ok (.iload 4, 2) := by decide +kernel
theorem dL_law_567 : decode cL_law 567 = .ok (.iconst 3, 1) := by decide +kernel
theorem dL_law_568 : decode cL_law 568 = .ok (.iadd, 1) := by decide +kernel
theorem dL_law_569 : decode cL_law 569 = .ok (.iaload, 1) := by decide +kernel
theorem dL_law_570 : decode cL_law 570 = .ok (.invokevirtual 129, 3) := by decide +kernel
theorem dL_law_573 : decode cL_law 573 = .ok (.istore 6, 2) := by decide +kernel
theorem dL_law_575 : decode cL_law 575 = .ok (.aload_n 2, 1) := by decide +kernel
theorem dL_law_576 : decode cL_law 576 = .ok (.invokevirtual 98, 3) := by decide +kernel
theorem dL_law_579 : decode cL_law 579 = .ok (.iload 5, 2) := by decide +kernel
theorem dL_law_581 : decode cL_law 581 = .ok (.if_icmp .eq 5, 3) := by decide +kernel
theorem dL_law_584 : decode cL_law 584 = .ok (.iconst 0, 1) := by decide +kernel
theorem dL_law_585 : decode cL_law 585 = .ok (.ireturn, 1) := by decide +kernel
theorem dL_law_586 : decode cL_law 586 = .ok (.iload 5, 2) := by decide +kernel
theorem dL_law_588 : decode cL_law 588 = .ok (.ifCond .ne 15, 3) := by decide +kernel
theorem dL_law_591 : decode cL_law 591 = .ok (.aload_n 3, 1) := by decide +kernel
theorem dL_law_592 : decode cL_law 592 = .ok (.iconst 0, 1) := by decide +kernel
theorem dL_law_593 : decode cL_law 593 = .ok (.laload, 1) := by decide +kernel
theorem dL_law_594 : decode cL_law 594 = .ok (.iload 6, 2) := by decide +kernel
theorem dL_law_596 : decode cL_law 596 = .ok (.i2l, 1) := by decide +kernel
theorem dL_law_597 : decode cL_law 597 = .ok (.lcmp, 1) := by decide +kernel
theorem dL_law_598 : decode cL_law 598 = .ok (.ifCond .eq 5, 3) := by decide +kernel
theorem dL_law_601 : decode cL_law 601 = .ok (.iconst 0, 1) := by decide +kernel
theorem dL_law_602 : decode cL_law 602 = .ok (.ireturn, 1) := by decide +kernel
theorem dL_law_603 : decode cL_law 603 = .ok (.goto 1016, 3) := by decide +kernel
theorem dL_law_606 : decode cL_law 606 = .ok (.aload_n 1, 1) := by decide +kernel
theorem dL_law_607 : decode cL_law 607 = .ok (.aload_n 0, 1) := by decide +kernel
theorem dL_law_608 : decode cL_law 608 = .ok (.iload 4, 2) := by decide +kernel
theorem dL_law_610 : decode cL_law 610 = .ok (.iconst 1, 1) := by decide +kernel
theorem dL_law_611 : decode cL_law 611 = .ok (.iadd, 1) := by decide +kernel
theorem dL_law_612 : decode cL_law 612 = .ok (.iaload, 1) := by decide +kernel
theorem dL_law_613 : decode cL_law 613 = .ok (.aload_n 0, 1) := by decide +kernel
theorem dL_law_614 : decode cL_law 614 = .ok (.iload 4, 2) := by decide +kernel
theorem dL_law_616 : decode cL_law 616 = .ok (.iconst 2, 1) := by decide +kernel
theorem dL_law_617 : decode cL_law 617 = .ok (.iadd, 1) := by decide +kernel
theorem dL_law_618 : decode cL_law 618 = .ok (.iaload, 1) := by decide +kernel
theorem dL_law_619 : decode cL_law 619 = .ok (.aload_n 0, 1) := by decide +kernel
theorem dL_law_620 : decode cL_law 620 = .ok (.iload 4, 2) := by decide +kernel
theorem dL_law_622 : decode cL_law 622 = .ok (.iconst 3, 1) := by decide +kernel
theorem dL_law_623 : decode cL_law 623 = .ok (.iadd, 1) := by decide +kernel
theorem dL_law_624 : decode cL_law 624 = .ok (.iaload, 1) := by decide +kernel
theorem dL_law_625 : decode cL_law 625 = .ok (.aload_n 0, 1) := by decide +kernel
theorem dL_law_626 : decode cL_law 626 = .ok (.iload 4, 2) := by decide +kernel
theorem dL_law_628 : decode cL_law 628 = .ok (.iconst 4, 1) := by decide +kernel
theorem dL_law_629 : decode cL_law 629 = .ok (.iadd, 1) := by decide +kernel
theorem dL_law_630 : decode cL_law 630 = .ok (.iaload, 1) := by decide +kernel
theorem dL_law_631 : decode cL_law 631 = .ok (.aload_n 3, 1) := by decide +kernel
theorem dL_law_632 : decode cL_law 632 = .ok (.invokestatic 130, 3) := by decide +kernel
theorem dL_law_635 : decode cL_law 635 = .ok (.istore 5, 2) := by decide +kernel
theorem dL_law_637 : decode cL_law 637 = .ok (.aload_n 2, 1) := by decide +kernel
theorem dL_law_638 : decode cL_law 638 = .ok (.aload_n 0, 1) := by decide +kernel
theorem dL_law_639 : decode cL_law 639 = .ok (.iload 4, 2) := by decide +kernel
theorem dL_law_641 : decode cL_law 641 = .ok (.iconst 1, 1) := by decide +kernel
theorem dL_law_642 : decode cL_law 642 = .ok (.iadd, 1) := by decide +kernel
theorem dL_law_643 : decode cL_law 643 = .ok (.iaload, 1) := by decide +kernel
theorem dL_law_644 : decode cL_law 644 = .ok (.aload_n 0, 1) := by decide +kernel
theorem dL_law_645 : decode cL_law 645 = .ok (.iload 4, 2) := by decide +kernel
theorem dL_law_647 : decode cL_law 647 = .ok (.iconst 2, 1) := by decide +kernel
theorem dL_law_648 : decode cL_law 648 = .ok (.iadd, 1) := by decide +kernel
theorem dL_law_649 : decode cL_law 649 = .ok (.iaload, 1) := by decide +kernel
theorem dL_law_650 : decode cL_law 650 = .ok (.aload_n 0, 1) := by decide +kernel
theorem dL_law_651 : decode cL_law 651 = .ok (.iload 4, 2) := by decide +kernel
theorem dL_law_653 : decode cL_law 653 = .ok (.iconst 3, 1) := by decide +kernel
theorem dL_law_654 : decode cL_law 654 = .ok (.iadd, 1) := by decide +kernel
theorem dL_law_655 : decode cL_law 655 = .ok (.iaload, 1) := by decide +kernel
theorem dL_law_656 : decode cL_law 656 = .ok (.aload_n 0, 1) := by decide +kernel
theorem dL_law_657 : decode cL_law 657 = .ok (.iload 4, 2) := by decide +kernel
theorem dL_law_659 : decode cL_law 659 = .ok (.iconst 4, 1) := by decide +kernel
theorem dL_law_660 : decode cL_law 660 = .ok (.iadd, 1) := by decide +kernel
theorem dL_law_661 : decode cL_law 661 = .ok (.iaload, 1) := by decide +kernel
theorem dL_law_662 : decode cL_law 662 = .ok (.invokevirtual 133, 3) := by decide +kernel
theorem dL_law_665 : decode cL_law 665 = .ok (.istore 6, 2) := by decide +kernel
theorem dL_law_667 : decode cL_law 667 = .ok (.aload_n 2, 1) := by decide +kernel
theorem dL_law_668 : decode cL_law 668 = .ok (.invokevirtual 98, 3) := by decide +kernel
theorem dL_law_671 : decode cL_law 671 = .ok (.iload 5, 2) := by decide +kernel
theorem dL_law_673 : decode cL_law 673 = .ok (.if_icmp .eq 5, 3) := by decide +kernel
theorem dL_law_676 : decode cL_law 676 = .ok (.iconst 0, 1) := by decide +kernel
theorem dL_law_677 : decode cL_law 677 = .ok (.ireturn, 1) := by decide +kernel
theorem dL_law_678 : decode cL_law 678 = .ok (.iload 5, 2) := by decide +kernel
theorem dL_law_680 : decode cL_law 680 = .ok (.ifCond .ne 15, 3) := by decide +kernel
theorem dL_law_683 : decode cL_law 683 = .ok (.aload_n 3, 1) := by decide +kernel
theorem dL_law_684 : decode cL_law 684 = .ok (.iconst 0, 1) := by decide +kernel
theorem dL_law_685 : decode cL_law 685 = .ok (.laload, 1) := by decide +kernel
theorem dL_law_686 : decode cL_law 686 = .ok (.iload 6, 2) := by decide +kernel
theorem dL_law_688 : decode cL_law 688 = .ok (.i2l, 1) := by decide +kernel
theorem dL_law_689 : decode cL_law 689 = .ok (.lcmp, 1) := by decide +kernel
theorem dL_law_690 : decode cL_law 690 = .ok (.ifCond .eq 5, 3) := by decide +kernel
theorem dL_law_693 : decode cL_law 693 = .ok (.iconst 0, 1) := by decide +kernel
theorem dL_law_694 : decode cL_law 694 = .ok (.ireturn, 1) := by decide +kernel
theorem dL_law_695 : decode cL_law 695 = .ok (.goto 924, 3) := by decide +kernel
theorem dL_law_698 : decode cL_law 698 = .ok (.aload_n 1, 1) := by decide +kernel
theorem dL_law_699 : decode cL_law 699 = .ok (.aload_n 0, 1) := by decide +kernel
theorem dL_law_700 : decode cL_law 700 = .ok (.iload 4, 2) := by decide +kernel
theorem dL_law_702 : decode cL_law 702 = .ok (.iconst 1, 1) := by decide +kernel
theorem dL_law_703 : decode cL_law 703 = .ok (.iadd, 1) := by decide +kernel
theorem dL_law_704 : decode cL_law 704 = .ok (.iaload, 1) := by decide +kernel
theorem dL_law_705 : decode cL_law 705 = .ok (.aload_n 0, 1) := by decide +kernel
theorem dL_law_706 : decode cL_law 706 = .ok (.iload 4, 2) := by decide +kernel
theorem dL_law_708 : decode cL_law 708 = .ok (.iconst 2, 1) := by decide +kernel
theorem dL_law_709 : decode cL_law 709 = .ok (.iadd, 1) := by decide +kernel
theorem dL_law_710 : decode cL_law 710 = .ok (.iaload, 1) := by decide +kernel
theorem dL_law_711 : decode cL_law 711 = .ok (.aload_n 3, 1) := by decide +kernel
theorem dL_law_712 : decode cL_law 712 = .ok (.invokestatic 134, 3) := by decide +kernel
theorem dL_law_715 : decode cL_law 715 = .ok (.istore 5, 2) := by decide +kernel
theorem dL_law_717 : decode cL_law 717 = .ok (.aload_n 2, 1) := by decide +kernel
theorem dL_law_718 : decode cL_law 718 = .ok (.aload_n 0, 1) := by decide +kernel
theorem dL_law_719 : decode cL_law 719 = .ok (.iload 4, 2) := by decide +kernel
theorem dL_law_721 : decode cL_law 721 = .ok (.iconst 1, 1) := by decide +kernel
theorem dL_law_722 : decode cL_law 722 = .ok (.iadd, 1) := by decide +kernel
theorem dL_law_723 : decode cL_law 723 = .ok (.iaload, 1) := by decide +kernel
theorem dL_law_724 : decode cL_law 724 = .ok (.aload_n 0, 1) := by decide +kernel
theorem dL_law_725 : decode cL_law 725 = .ok (.iload 4, 2) := by decide +kernel
theorem dL_law_727 : decode cL_law 727 = .ok (.iconst 2, 1) := by decide +kernel
theorem dL_law_728 : decode cL_law 728 = .ok (.iadd, 1) := by decide +kernel
theorem dL_law_729 : decode cL_law 729 = .ok (.iaload, 1) := by decide +kernel
theorem dL_law_730 : decode cL_law 730 = .ok (.invokevirtual 136, 3) := by decide +kernel
theorem dL_law_733 : decode cL_law 733 = .ok (.istore 6, 2) := by decide +kernel
theorem dL_law_735 : decode cL_law 735 = .ok (.aload_n 2, 1) := by decide +kernel
theorem dL_law_736 : decode cL_law 736 = .ok (.invokevirtual 98, 3) := by decide +kernel
theorem dL_law_739 : decode cL_law 739 = .ok (.iload 5, 2) := by decide +kernel
theorem dL_law_741 : decode cL_law 741 = .ok (.if_icmp .eq 5, 3) := by decide +kernel
theorem dL_law_744 : decode cL_law 744 = .ok (.iconst 0, 1) := by decide +kernel
theorem dL_law_745 : decode cL_law 745 = .ok (.ireturn, 1) := by decide +kernel
theorem dL_law_746 : decode cL_law 746 = .ok (.iload 5, 2) := by decide +kernel
theorem dL_law_748 : decode cL_law 748 = .ok (.ifCond .ne 15, 3) := by decide +kernel
theorem dL_law_751 : decode cL_law 751 = .ok (.aload_n 3, 1) := by decide +kernel
theorem dL_law_752 : decode cL_law 752 = .ok (.iconst 0, 1) := by decide +kernel
theorem dL_law_753 : decode cL_law 753 = .ok (.laload, 1) := by decide +kernel
theorem dL_law_754 : decode cL_law 754 = .ok (.iload 6, 2) := by decide +kernel
theorem dL_law_756 : decode cL_law 756 = .ok (.i2l, 1) := by decide +kernel
theorem dL_law_757 : decode cL_law 757 = .ok (.lcmp, 1) := by decide +kernel
theorem dL_law_758 : decode cL_law 758 = .ok (.ifCond .eq 5, 3) := by decide +kernel
theorem dL_law_761 : decode cL_law 761 = .ok (.iconst 0, 1) := by decide +kernel
theorem dL_law_762 : decode cL_law 762 = .ok (.ireturn, 1) := by decide +kernel
theorem dL_law_763 : decode cL_law 763 = .ok (.goto 856, 3) := by decide +kernel
theorem dL_law_766 : decode cL_law 766 = .ok (.aload_n 1, 1) := by decide +kernel
theorem dL_law_767 : decode cL_law 767 = .ok (.aload_n 0, 1) := by decide +kernel
theorem dL_law_768 : decode cL_law 768 = .ok (.iload 4, 2) := by decide +kernel
theorem dL_law_770 : decode cL_law 770 = .ok (.iconst 1, 1) := by decide +kernel
theorem dL_law_771 : decode cL_law 771 = .ok (.iadd, 1) := by decide +kernel
theorem dL_law_772 : decode cL_law 772 = .ok (.iaload, 1) := by decide +kernel
theorem dL_law_773 : decode cL_law 773 = .ok (.aload_n 0, 1) := by decide +kernel
theorem dL_law_774 : decode cL_law 774 = .ok (.iload 4, 2) := by decide +kernel
theorem dL_law_776 : decode cL_law 776 = .ok (.iconst 2, 1) := by decide +kernel
theorem dL_law_777 : decode cL_law 777 = .ok (.iadd, 1) := by decide +kernel
theorem dL_law_778 : decode cL_law 778 = .ok (.iaload, 1) := by decide +kernel
theorem dL_law_779 : decode cL_law 779 = .ok (.aload_n 3, 1) := by decide +kernel
theorem dL_law_780 : decode cL_law 780 = .ok (.invokestatic 137, 3) := by decide +kernel
theorem dL_law_783 : decode cL_law 783 = .ok (.istore 5, 2) := by decide +kernel
theorem dL_law_785 : decode cL_law 785 = .ok (.aload_n 2, 1) := by decide +kernel
theorem dL_law_786 : decode cL_law 786 = .ok (.aload_n 0, 1) := by decide +kernel
theorem dL_law_787 : decode cL_law 787 = .ok (.iload 4, 2) := by decide +kernel
theorem dL_law_789 : decode cL_law 789 = .ok (.iconst 1, 1) := by decide +kernel
theorem dL_law_790 : decode cL_law 790 = .ok (.iadd, 1) := by decide +kernel
theorem dL_law_791 : decode cL_law 791 = .ok (.iaload, 1) := by decide +kernel
theorem dL_law_792 : decode cL_law 792 = .ok (.aload_n 0, 1) := by decide +kernel
theorem dL_law_793 : decode cL_law 793 = .ok (.iload 4, 2) := by decide +kernel
theorem dL_law_795 : decode cL_law 795 = .ok (.iconst 2, 1) := by decide +kernel
theorem dL_law_796 : decode cL_law 796 = .ok (.iadd, 1) := by decide +kernel
theorem dL_law_797 : decode cL_law 797 = .ok (.iaload, 1) := by decide +kernel
theorem dL_law_798 : decode cL_law 798 = .ok (.invokevirtual 139, 3) := by decide +kernel
theorem dL_law_801 : decode cL_law 801 = .ok (.istore 6, 2) := by decide +kernel
theorem dL_law_803 : decode cL_law 803 = .ok (.aload_n 2, 1) := by decide +kernel
theorem dL_law_804 : decode cL_law 804 = .ok (.invokevirtual 98, 3) := by decide +kernel
theorem dL_law_807 : decode cL_law 807 = .ok (.iload 5, 2) := by decide +kernel
theorem dL_law_809 : decode cL_law 809 = .ok (.if_icmp .eq 5, 3) := by decide +kernel
theorem dL_law_812 : decode cL_law 812 = .ok (.iconst 0, 1) := by decide +kernel
theorem dL_law_813 : decode cL_law 813 = .ok (.ireturn, 1) := by decide +kernel
theorem dL_law_814 : decode cL_law 814 = .ok (.iload 5, 2) := by decide +kernel
theorem dL_law_816 : decode cL_law 816 = .ok (.ifCond .ne 15, 3) := by decide +kernel
theorem dL_law_819 : decode cL_law 819 = .ok (.aload_n 3, 1) := by decide +kernel
theorem dL_law_820 : decode cL_law 820 = .ok (.iconst 0, 1) := by decide +kernel
theorem dL_law_821 : decode cL_law 821 = .ok (.laload, 1) := by decide +kernel
theorem dL_law_822 : decode cL_law 822 = .ok (.iload 6, 2) := by decide +kernel
theorem dL_law_824 : decode cL_law 824 = .ok (.i2l, 1) := by decide +kernel
theorem dL_law_825 : decode cL_law 825 = .ok (.lcmp, 1) := by decide +kernel
theorem dL_law_826 : decode cL_law 826 = .ok (.ifCond .eq 5, 3) := by decide +kernel
theorem dL_law_829 : decode cL_law 829 = .ok (.iconst 0, 1) := by decide +kernel
theorem dL_law_830 : decode cL_law 830 = .ok (.ireturn, 1) := by decide +kernel
theorem dL_law_831 : decode cL_law 831 = .ok (.goto 788, 3) := by decide +kernel
theorem dL_law_834 : decode cL_law 834 = .ok (.aload_n 1, 1) := by decide +kernel
theorem dL_law_835 : decode cL_law 835 = .ok (.aload_n 0, 1) := by decide +kernel
theorem dL_law_836 : decode cL_law 836 = .ok (.iload 4, 2) := by decide +kernel
theorem dL_law_838 : decode cL_law 838 = .ok (.iconst 1, 1) := by decide +kernel
theorem dL_law_839 : decode cL_law 839 = .ok (.iadd, 1) := by decide +kernel
theorem dL_law_840 : decode cL_law 840 = .ok (.iaload, 1) := by decide +kernel
theorem dL_law_841 : decode cL_law 841 = .ok (.aload_n 3, 1) := by decide +kernel
theorem dL_law_842 : decode cL_law 842 = .ok (.invokestatic 140, 3) := by decide +kernel
theorem dL_law_845 : decode cL_law 845 = .ok (.istore 5, 2) := by decide +kernel
theorem dL_law_847 : decode cL_law 847 = .ok (.aload_n 2, 1) := by decide +kernel
theorem dL_law_848 : decode cL_law 848 = .ok (.aload_n 0, 1) := by decide +kernel
theorem dL_law_849 : decode cL_law 849 = .ok (.iload 4, 2) := by decide +kernel
theorem dL_law_851 : decode cL_law 851 = .ok (.iconst 1, 1) := by decide +kernel
theorem dL_law_852 : decode cL_law 852 = .ok (.iadd, 1) := by decide +kernel
theorem dL_law_853 : decode cL_law 853 = .ok (.iaload, 1) := by decide +kernel
theorem dL_law_854 : decode cL_law 854 = .ok (.invokevirtual 142, 3) := by decide +kernel
theorem dL_law_857 : decode cL_law 857 = .ok (.istore 6, 2) := by decide +kernel
theorem dL_law_859 : decode cL_law 859 = .ok (.aload_n 2, 1) := by decide +kernel
theorem dL_law_860 : decode cL_law 860 = .ok (.invokevirtual 98, 3) := by decide +kernel
theorem dL_law_863 : decode cL_law 863 = .ok (.iload 5, 2) := by decide +kernel
theorem dL_law_865 : decode cL_law 865 = .ok (.if_icmp .eq 5, 3) := by decide +kernel
theorem dL_law_868 : decode cL_law 868 = .ok (.iconst 0, 1) := by decide +kernel
theorem dL_law_869 : decode cL_law 869 = .ok (.ireturn, 1) := by decide +kernel
theorem dL_law_870 : decode cL_law 870 = .ok (.iload 5, 2) := by decide +kernel
theorem dL_law_872 : decode cL_law 872 = .ok (.ifCond .ne 15, 3) := by decide +kernel
theorem dL_law_875 : decode cL_law 875 = .ok (.aload_n 3, 1) := by decide +kernel
theorem dL_law_876 : decode cL_law 876 = .ok (.iconst 0, 1) := by decide +kernel
theorem dL_law_877 : decode cL_law 877 = .ok (.laload, 1) := by decide +kernel
theorem dL_law_878 : decode cL_law 878 = .ok (.iload 6, 2) := by decide +kernel
theorem dL_law_880 : decode cL_law 880 = .ok (.i2l, 1) := by decide +kernel
theorem dL_law_881 : decode cL_law 881 = .ok (.lcmp, 1) := by decide +kernel
theorem dL_law_882 : decode cL_law 882 = .ok (.ifCond .eq 5, 3) := by decide +kernel
theorem dL_law_885 : decode cL_law 885 = .ok (.iconst 0, 1) := by decide +kernel
theorem dL_law_886 : decode cL_law 886 = .ok (.ireturn, 1) := by decide +kernel
theorem dL_law_887 : decode cL_law 887 = .ok (.goto 732, 3) := by decide +kernel
theorem dL_law_890 : decode cL_law 890 = .ok (.aload_n 1, 1) := by decide +kernel
theorem dL_law_891 : decode cL_law 891 = .ok (.aload_n 0, 1) := by decide +kernel
theorem dL_law_892 : decode cL_law 892 = .ok (.iload 4, 2) := by decide +kernel
theorem dL_law_894 : decode cL_law 894 = .ok (.iconst 1, 1) := by decide +kernel
theorem dL_law_895 : decode cL_law 895 = .ok (.iadd, 1) := by decide +kernel
theorem dL_law_896 : decode cL_law 896 = .ok (.iaload, 1) := by decide +kernel
theorem dL_law_897 : decode cL_law 897 = .ok (.aload_n 3, 1) := by decide +kernel
theorem dL_law_898 : decode cL_law 898 = .ok (.invokestatic 143, 3) := by decide +kernel
theorem dL_law_901 : decode cL_law 901 = .ok (.istore 5, 2) := by decide +kernel
theorem dL_law_903 : decode cL_law 903 = .ok (.aload_n 2, 1) := by decide +kernel
theorem dL_law_904 : decode cL_law 904 = .ok (.aload_n 0, 1) := by decide +kernel
theorem dL_law_905 : decode cL_law 905 = .ok (.iload 4, 2) := by decide +kernel
theorem dL_law_907 : decode cL_law 907 = .ok (.iconst 1, 1) := by decide +kernel
theorem dL_law_908 : decode cL_law 908 = .ok (.iadd, 1) := by decide +kernel
theorem dL_law_909 : decode cL_law 909 = .ok (.iaload, 1) := by decide +kernel
theorem dL_law_910 : decode cL_law 910 = .ok (.invokevirtual 145, 3) := by decide +kernel
theorem dL_law_913 : decode cL_law 913 = .ok (.istore 6, 2) := by decide +kernel
theorem dL_law_915 : decode cL_law 915 = .ok (.aload_n 2, 1) := by decide +kernel
theorem dL_law_916 : decode cL_law 916 = .ok (.invokevirtual 98, 3) := by decide +kernel
theorem dL_law_919 : decode cL_law 919 = .ok (.iload 5, 2) := by decide +kernel
theorem dL_law_921 : decode cL_law 921 = .ok (.if_icmp .eq 5, 3) := by decide +kernel
theorem dL_law_924 : decode cL_law 924 = .ok (.iconst 0, 1) := by decide +kernel
theorem dL_law_925 : decode cL_law 925 = .ok (.ireturn, 1) := by decide +kernel
theorem dL_law_926 : decode cL_law 926 = .ok (.iload 5, 2) := by decide +kernel
theorem dL_law_928 : decode cL_law 928 = .ok (.ifCond .ne 15, 3) := by decide +kernel
theorem dL_law_931 : decode cL_law 931 = .ok (.aload_n 3, 1) := by decide +kernel
theorem dL_law_932 : decode cL_law 932 = .ok (.iconst 0, 1) := by decide +kernel
theorem dL_law_933 : decode cL_law 933 = .ok (.laload, 1) := by decide +kernel
theorem dL_law_934 : decode cL_law 934 = .ok (.iload 6, 2) := by decide +kernel
theorem dL_law_936 : decode cL_law 936 = .ok (.i2l, 1) := by decide +kernel
theorem dL_law_937 : decode cL_law 937 = .ok (.lcmp, 1) := by decide +kernel
theorem dL_law_938 : decode cL_law 938 = .ok (.ifCond .eq 5, 3) := by decide +kernel
theorem dL_law_941 : decode cL_law 941 = .ok (.iconst 0, 1) := by decide +kernel
theorem dL_law_942 : decode cL_law 942 = .ok (.ireturn, 1) := by decide +kernel
theorem dL_law_943 : decode cL_law 943 = .ok (.goto 676, 3) := by decide +kernel
theorem dL_law_946 : decode cL_law 946 = .ok (.aload_n 1, 1) := by decide +kernel
theorem dL_law_947 : decode cL_law 947 = .ok (.aload_n 0, 1) := by decide +kernel
theorem dL_law_948 : decode cL_law 948 = .ok (.iload 4, 2) := by decide +kernel
theorem dL_law_950 : decode cL_law 950 = .ok (.iconst 1, 1) := by decide +kernel
theorem dL_law_951 : decode cL_law 951 = .ok (.iadd, 1) := by decide +kernel
theorem dL_law_952 : decode cL_law 952 = .ok (.iaload, 1) := by decide +kernel
theorem dL_law_953 : decode cL_law 953 = .ok (.aload_n 3, 1) := by decide +kernel
theorem dL_law_954 : decode cL_law 954 = .ok (.invokestatic 146, 3) := by decide +kernel
theorem dL_law_957 : decode cL_law 957 = .ok (.istore 5, 2) := by decide +kernel
theorem dL_law_959 : decode cL_law 959 = .ok (.aload_n 2, 1) := by decide +kernel
theorem dL_law_960 : decode cL_law 960 = .ok (.aload_n 0, 1) := by decide +kernel
theorem dL_law_961 : decode cL_law 961 = .ok (.iload 4, 2) := by decide +kernel
theorem dL_law_963 : decode cL_law 963 = .ok (.iconst 1, 1) := by decide +kernel
theorem dL_law_964 : decode cL_law 964 = .ok (.iadd, 1) := by decide +kernel
theorem dL_law_965 : decode cL_law 965 = .ok (.iaload, 1) := by decide +kernel
theorem dL_law_966 : decode cL_law 966 = .ok (.invokevirtual 148, 3) := by decide +kernel
theorem dL_law_969 : decode cL_law 969 = .ok (.istore 6, 2) := by decide +kernel
theorem dL_law_971 : decode cL_law 971 = .ok (.aload_n 2, 1) := by decide +kernel
theorem dL_law_972 : decode cL_law 972 = .ok (.invokevirtual 98, 3) := by decide +kernel
theorem dL_law_975 : decode cL_law 975 = .ok (.iload 5, 2) := by decide +kernel
theorem dL_law_977 : decode cL_law 977 = .ok (.if_icmp .eq 5, 3) := by decide +kernel
theorem dL_law_980 : decode cL_law 980 = .ok (.iconst 0, 1) := by decide +kernel
theorem dL_law_981 : decode cL_law 981 = .ok (.ireturn, 1) := by decide +kernel
theorem dL_law_982 : decode cL_law 982 = .ok (.iload 5, 2) := by decide +kernel
theorem dL_law_984 : decode cL_law 984 = .ok (.ifCond .ne 15, 3) := by decide +kernel
theorem dL_law_987 : decode cL_law 987 = .ok (.aload_n 3, 1) := by decide +kernel
theorem dL_law_988 : decode cL_law 988 = .ok (.iconst 0, 1) := by decide +kernel
theorem dL_law_989 : decode cL_law 989 = .ok (.laload, 1) := by decide +kernel
theorem dL_law_990 : decode cL_law 990 = .ok (.iload 6, 2) := by decide +kernel
theorem dL_law_992 : decode cL_law 992 = .ok (.i2l, 1) := by decide +kernel
theorem dL_law_993 : decode cL_law 993 = .ok (.lcmp, 1) := by decide +kernel
theorem dL_law_994 : decode cL_law 994 = .ok (.ifCond .eq 5, 3) := by decide +kernel
theorem dL_law_997 : decode cL_law 997 = .ok (.iconst 0, 1) := by decide +kernel
theorem dL_law_998 : decode cL_law 998 = .ok (.ireturn, 1) := by decide +kernel
theorem dL_law_999 : decode cL_law 999 = .ok (.goto 620, 3) := by decide +kernel
theorem dL_law_1002 : decode cL_law 1002 = .ok (.aload_n 1, 1) := by decide +kernel
theorem dL_law_1003 : decode cL_law 1003 = .ok (.aload_n 3, 1) := by decide +kernel
theorem dL_law_1004 : decode cL_law 1004 = .ok (.invokestatic 149, 3) := by decide +kernel
theorem dL_law_1007 : decode cL_law 1007 = .ok (.istore 5, 2) := by decide +kernel
theorem dL_law_1009 : decode cL_law 1009 = .ok (.aload_n 2, 1) := by decide +kernel
theorem dL_law_1010 : decode cL_law 1010 = .ok (.invokevirtual 151, 3) := by decide +kernel
theorem dL_law_1013 : decode cL_law 1013 = .ok (.istore 6, 2) := by decide +kernel
theorem dL_law_1015 : decode cL_law 1015 = .ok (.aload_n 2, 1) := by decide +kernel
theorem dL_law_1016 : decode cL_law 1016 = .ok (.invokevirtual 98, 3) := by decide +kernel
theorem dL_law_1019 : decode cL_law 1019 = .ok (.iload 5, 2) := by decide +kernel
theorem dL_law_1021 : decode cL_law 1021 = .ok (.if_icmp .eq 5, 3) := by decide +kernel
theorem dL_law_1024 : decode cL_law 1024 = .ok (.iconst 0, 1) := by decide +kernel
theorem dL_law_1025 : decode cL_law 1025 = .ok (.ireturn, 1) := by decide +kernel
theorem dL_law_1026 : decode cL_law 1026 = .ok (.iload 5, 2) := by decide +kernel
theorem dL_law_1028 : decode cL_law 1028 = .ok (.ifCond .ne 15, 3) := by decide +kernel
theorem dL_law_1031 : decode cL_law 1031 = .ok (.aload_n 3, 1) := by decide +kernel
theorem dL_law_1032 : decode cL_law 1032 = .ok (.iconst 0, 1) := by decide +kernel
theorem dL_law_1033 : decode cL_law 1033 = .ok (.laload, 1) := by decide +kernel
theorem dL_law_1034 : decode cL_law 1034 = .ok (.iload 6, 2) := by decide +kernel
theorem dL_law_1036 : decode cL_law 1036 = .ok (.i2l, 1) := by decide +kernel
theorem dL_law_1037 : decode cL_law 1037 = .ok (.lcmp, 1) := by decide +kernel
theorem dL_law_1038 : decode cL_law 1038 = .ok (.ifCond .eq 5, 3) := by decide +kernel
theorem dL_law_1041 : decode cL_law 1041 = .ok (.iconst 0, 1) := by decide +kernel
theorem dL_law_1042 : decode cL_law 1042 = .ok (.ireturn, 1) := by decide +kernel
theorem dL_law_1043 : decode cL_law 1043 = .ok (.goto 576, 3) := by decide +kernel
theorem dL_law_1046 : decode cL_law 1046 = .ok (.aload_n 1, 1) := by decide +kernel
theorem dL_law_1047 : decode cL_law 1047 = .ok (.aload_n 0, 1) := by decide +kernel
theorem dL_law_1048 : decode cL_law 1048 = .ok (.iload 4, 2) := by decide +kernel
theorem dL_law_1050 : decode cL_law 1050 = .ok (.iconst 1, 1) := by decide +kernel
theorem dL_law_1051 : decode cL_law 1051 = .ok (.iadd, 1) := by decide +kernel
theorem dL_law_1052 : decode cL_law 1052 = .ok (.iaload, 1) := by decide +kernel
theorem dL_law_1053 : decode cL_law 1053 = .ok (.aload_n 3, 1) := by decide +kernel
theorem dL_law_1054 : decode cL_law 1054 = .ok (.invokestatic 152, 3) := by decide +kernel
theorem dL_law_1057 : decode cL_law 1057 = .ok (.istore 5, 2) := by decide +kernel
theorem dL_law_1059 : decode cL_law 1059 = .ok (.aload_n 2, 1) := by decide +kernel
theorem dL_law_1060 : decode cL_law 1060 = .ok (.aload_n 0, 1) := by decide +kernel
theorem dL_law_1061 : decode cL_law 1061 = .ok (.iload 4, 2) := by decide +kernel
theorem dL_law_1063 : decode cL_law 1063 = .ok (.iconst 1, 1) := by decide +kernel
theorem dL_law_1064 : decode cL_law 1064 = .ok (.iadd, 1) := by decide +kernel
theorem dL_law_1065 : decode cL_law 1065 = .ok (.iaload, 1) := by decide +kernel
theorem dL_law_1066 : decode cL_law 1066 = .ok (.invokevirtual 154, 3) := by decide +kernel
theorem dL_law_1069 : decode cL_law 1069 = .ok (.istore 6, 2) := by decide +kernel
theorem dL_law_1071 : decode cL_law 1071 = .ok (.aload_n 2, 1) := by decide +kernel
theorem dL_law_1072 : decode cL_law 1072 = .ok (.invokevirtual 98, 3) := by decide +kernel
theorem dL_law_1075 : decode cL_law 1075 = .ok (.iload 5, 2) := by decide +kernel
theorem dL_law_1077 : decode cL_law 1077 = .ok (.if_icmp .eq 5, 3) := by decide +kernel
theorem dL_law_1080 : decode cL_law 1080 = .ok (.iconst 0, 1) := by decide +kernel
theorem dL_law_1081 : decode cL_law 1081 = .ok (.ireturn, 1) := by decide +kernel
theorem dL_law_1082 : decode cL_law 1082 = .ok (.iload 5, 2) := by decide +kernel
theorem dL_law_1084 : decode cL_law 1084 = .ok (.ifCond .ne 15, 3) := by decide +kernel
theorem dL_law_1087 : decode cL_law 1087 = .ok (.aload_n 3, 1) := by decide +kernel
theorem dL_law_1088 : decode cL_law 1088 = .ok (.iconst 0, 1) := by decide +kernel
theorem dL_law_1089 : decode cL_law 1089 = .ok (.laload, 1) := by decide +kernel
theorem dL_law_1090 : decode cL_law 1090 = .ok (.iload 6, 2) := by decide +kernel
theorem dL_law_1092 : decode cL_law 1092 = .ok (.i2l, 1) := by decide +kernel
theorem dL_law_1093 : decode cL_law 1093 = .ok (.lcmp, 1) := by decide +kernel
theorem dL_law_1094 : decode cL_law 1094 = .ok (.ifCond .eq 5, 3) := by decide +kernel
theorem dL_law_1097 : decode cL_law 1097 = .ok (.iconst 0, 1) := by decide +kernel
theorem dL_law_1098 : decode cL_law 1098 = .ok (.ireturn, 1) := by decide +kernel
theorem dL_law_1099 : decode cL_law 1099 = .ok (.goto 520, 3) := by decide +kernel
theorem dL_law_1102 : decode cL_law 1102 = .ok (.aload_n 1, 1) := by decide +kernel
theorem dL_law_1103 : decode cL_law 1103 = .ok (.aload_n 0, 1) := by decide +kernel
theorem dL_law_1104 : decode cL_law 1104 = .ok (.iload 4, 2) := by decide +kernel
theorem dL_law_1106 : decode cL_law 1106 = .ok (.iconst 1, 1) := by decide +kernel
theorem dL_law_1107 : decode cL_law 1107 = .ok (.iadd, 1) := by decide +kernel
theorem dL_law_1108 : decode cL_law 1108 = .ok (.iaload, 1) := by decide +kernel
theorem dL_law_1109 : decode cL_law 1109 = .ok (.aload_n 3, 1) := by decide +kernel
theorem dL_law_1110 : decode cL_law 1110 = .ok (.invokestatic 155, 3) := by decide +kernel
theorem dL_law_1113 : decode cL_law 1113 = .ok (.istore 5, 2) := by decide +kernel
theorem dL_law_1115 : decode cL_law 1115 = .ok (.aload_n 2, 1) := by decide +kernel
theorem dL_law_1116 : decode cL_law 1116 = .ok (.aload_n 0, 1) := by decide +kernel
theorem dL_law_1117 : decode cL_law 1117 = .ok (.iload 4, 2) := by decide +kernel
theorem dL_law_1119 : decode cL_law 1119 = .ok (.iconst 1, 1) := by decide +kernel
theorem dL_law_1120 : decode cL_law 1120 = .ok (.iadd, 1) := by decide +kernel
theorem dL_law_1121 : decode cL_law 1121 = .ok (.iaload, 1) := by decide +kernel
theorem dL_law_1122 : decode cL_law 1122 = .ok (.invokevirtual 157, 3) := by decide +kernel
theorem dL_law_1125 : decode cL_law 1125 = .ok (.istore 6, 2) := by decide +kernel
theorem dL_law_1127 : decode cL_law 1127 = .ok (.aload_n 2, 1) := by decide +kernel
theorem dL_law_1128 : decode cL_law 1128 = .ok (.invokevirtual 98, 3) := by decide +kernel
theorem dL_law_1131 : decode cL_law 1131 = .ok (.iload 5, 2) := by decide +kernel
theorem dL_law_1133 : decode cL_law 1133 = .ok (.if_icmp .eq 5, 3) := by decide +kernel
theorem dL_law_1136 : decode cL_law 1136 = .ok (.iconst 0, 1) := by decide +kernel
theorem dL_law_1137 : decode cL_law 1137 = .ok (.ireturn, 1) := by decide +kernel
theorem dL_law_1138 : decode cL_law 1138 = .ok (.iload 5, 2) := by decide +kernel
theorem dL_law_1140 : decode cL_law 1140 = .ok (.ifCond .ne 15, 3) := by decide +kernel
theorem dL_law_1143 : decode cL_law 1143 = .ok (.aload_n 3, 1) := by decide +kernel
theorem dL_law_1144 : decode cL_law 1144 = .ok (.iconst 0, 1) := by decide +kernel
theorem dL_law_1145 : decode cL_law 1145 = .ok (.laload, 1) := by decide +kernel
theorem dL_law_1146 : decode cL_law 1146 = .ok (.iload 6, 2) := by decide +kernel
theorem dL_law_1148 : decode cL_law 1148 = .ok (.i2l, 1) := by decide +kernel
theorem dL_law_1149 : decode cL_law 1149 = .ok (.lcmp, 1) := by decide +kernel
theorem dL_law_1150 : decode cL_law 1150 = .ok (.ifCond .eq 5, 3) := by decide +kernel
theorem dL_law_1153 : decode cL_law 1153 = .ok (.iconst 0, 1) := by decide +kernel
theorem dL_law_1154 : decode cL_law 1154 = .ok (.ireturn, 1) := by decide +kernel
theorem dL_law_1155 : decode cL_law 1155 = .ok (.goto 464, 3) := by decide +kernel
theorem dL_law_1158 : decode cL_law 1158 = .ok (.aload_n 1, 1) := by decide +kernel
theorem dL_law_1159 : decode cL_law 1159 = .ok (.invokevirtual 158, 3) := by decide +kernel
theorem dL_law_1162 : decode cL_law 1162 = .ok (.aload_n 2, 1) := by decide +kernel
theorem dL_law_1163 : decode cL_law 1163 = .ok (.invokevirtual 161, 3) := by decide +kernel
theorem dL_law_1166 : decode cL_law 1166 = .ok (.if_icmp .eq 453, 3) := by decide +kernel
theorem dL_law_1169 : decode cL_law 1169 = .ok (.iconst 0, 1) := by decide +kernel
theorem dL_law_1170 : decode cL_law 1170 = .ok (.ireturn, 1) := by decide +kernel
theorem dL_law_1171 : decode cL_law 1171 = .ok (.aload_n 1, 1) := by decide +kernel
theorem dL_law_1172 : decode cL_law 1172 = .ok (.aload_n 0, 1) := by decide +kernel
theorem dL_law_1173 : decode cL_law 1173 = .ok (.iload 4, 2) := by decide +kernel
theorem dL_law_1175 : decode cL_law 1175 = .ok (.iconst 1, 1) := by decide +kernel
theorem dL_law_1176 : decode cL_law 1176 = .ok (.iadd, 1) := by decide +kernel
theorem dL_law_1177 : decode cL_law 1177 = .ok (.iaload, 1) := by decide +kernel
theorem dL_law_1178 : decode cL_law 1178 = .ok (.aload_n 0, 1) := by decide +kernel
theorem dL_law_1179 : decode cL_law 1179 = .ok (.iload 4, 2) := by decide +kernel
theorem dL_law_1181 : decode cL_law 1181 = .ok (.iconst 2, 1) := by decide +kernel
theorem dL_law_1182 : decode cL_law 1182 = .ok (.iadd, 1) := by decide +kernel
theorem dL_law_1183 : decode cL_law 1183 = .ok (.iaload, 1) := by decide +kernel
theorem dL_law_1184 : decode cL_law 1184 = .ok (.aload_n 3, 1) := by decide +kernel
theorem dL_law_1185 : decode cL_law 1185 = .ok (.invokestatic 162, 3) := by decide +kernel
theorem dL_law_1188 : decode cL_law 1188 = .ok (.istore 5, 2) := by decide +kernel
theorem dL_law_1190 : decode cL_law 1190 = .ok (.aload_n 2, 1) := by decide +kernel
theorem dL_law_1191 : decode cL_law 1191 = .ok (.aload_n 0, 1) := by decide +kernel
theorem dL_law_1192 : decode cL_law 1192 = .ok (.iload 4, 2) := by decide +kernel
theorem dL_law_1194 : decode cL_law 1194 = .ok (.iconst 1, 1) := by decide +kernel
theorem dL_law_1195 : decode cL_law 1195 = .ok (.iadd, 1) := by decide +kernel
theorem dL_law_1196 : decode cL_law 1196 = .ok (.iaload, 1) := by decide +kernel
theorem dL_law_1197 : decode cL_law 1197 = .ok (.aload_n 0, 1) := by decide +kernel
theorem dL_law_1198 : decode cL_law 1198 = .ok (.iload 4, 2) := by decide +kernel
theorem dL_law_1200 : decode cL_law 1200 = .ok (.iconst 2, 1) := by decide +kernel
theorem dL_law_1201 : decode cL_law 1201 = .ok (.iadd, 1) := by decide +kernel
theorem dL_law_1202 : decode cL_law 1202 = .ok (.iaload, 1) := by decide +kernel
theorem dL_law_1203 : decode cL_law 1203 = .ok (.invokevirtual 164, 3) := by decide +kernel
theorem dL_law_1206 : decode cL_law 1206 = .ok (.istore 6, 2) := by decide +kernel
theorem dL_law_1208 : decode cL_law 1208 = .ok (.aload_n 2, 1) := by decide +kernel
theorem dL_law_1209 : decode cL_law 1209 = .ok (.invokevirtual 98, 3) := by decide +kernel
theorem dL_law_1212 : decode cL_law 1212 = .ok (.iload 5, 2) := by decide +kernel
theorem dL_law_1214 : decode cL_law 1214 = .ok (.if_icmp .eq 5, 3) := by decide +kernel
theorem dL_law_1217 : decode cL_law 1217 = .ok (.iconst 0, 1) := by decide +kernel
theorem dL_law_1218 : decode cL_law 1218 = .ok (.ireturn, 1) := by decide +kernel
theorem dL_law_1219 : decode cL_law 1219 = .ok (.iload 5, 2) := by decide +kernel
theorem dL_law_1221 : decode cL_law 1221 = .ok (.ifCond .ne 15, 3) := by decide +kernel
theorem dL_law_1224 : decode cL_law 1224 = .ok (.aload_n 3, 1) := by decide +kernel
theorem dL_law_1225 : decode cL_law 1225 = .ok (.iconst 0, 1) := by decide +kernel
theorem dL_law_1226 : decode cL_law 1226 = .ok (.laload, 1) := by decide +kernel
theorem dL_law_1227 : decode cL_law 1227 = .ok (.iload 6, 2) := by decide +kernel
theorem dL_law_1229 : decode cL_law 1229 = .ok (.i2l, 1) := by decide +kernel
theorem dL_law_1230 : decode cL_law 1230 = .ok (.lcmp, 1) := by decide +kernel
theorem dL_law_1231 : decode cL_law 1231 = .ok (.ifCond .eq 5, 3) := by decide +kernel
theorem dL_law_1234 : decode cL_law 1234 = .ok (.iconst 0, 1) := by decide +kernel
theorem dL_law_1235 : decode cL_law 1235 = .ok (.ireturn, 1) := by decide +kernel
theorem dL_law_1236 : decode cL_law 1236 = .ok (.goto 383, 3) := by decide +kernel
theorem dL_law_1239 : decode cL_law 1239 = .ok (.aload_n 1, 1) := by decide +kernel
theorem dL_law_1240 : decode cL_law 1240 = .ok (.aload_n 0, 1) := by decide +kernel
theorem dL_law_1241 : decode cL_law 1241 = .ok (.iload 4, 2) := by decide +kernel
theorem dL_law_1243 : decode cL_law 1243 = .ok (.iconst 1, 1) := by decide +kernel
theorem dL_law_1244 : decode cL_law 1244 = .ok (.iadd, 1) := by decide +kernel
theorem dL_law_1245 : decode cL_law 1245 = .ok (.iaload, 1) := by decide +kernel
theorem dL_law_1246 : decode cL_law 1246 = .ok (.aload_n 0, 1) := by decide +kernel
theorem dL_law_1247 : decode cL_law 1247 = .ok (.iload 4, 2) := by decide +kernel
theorem dL_law_1249 : decode cL_law 1249 = .ok (.iconst 2, 1) := by decide +kernel
theorem dL_law_1250 : decode cL_law 1250 = .ok (.iadd, 1) := by decide +kernel
theorem dL_law_1251 : decode cL_law 1251 = .ok (.iaload, 1) := by decide +kernel
theorem dL_law_1252 : decode cL_law 1252 = .ok (.aload_n 3, 1) := by decide +kernel
theorem dL_law_1253 : decode cL_law 1253 = .ok (.invokestatic 165, 3) := by decide +kernel
theorem dL_law_1256 : decode cL_law 1256 = .ok (.istore 5, 2) := by decide +kernel
theorem dL_law_1258 : decode cL_law 1258 = .ok (.aload_n 2, 1) := by decide +kernel
theorem dL_law_1259 : decode cL_law 1259 = .ok (.aload_n 0, 1) := by decide +kernel
theorem dL_law_1260 : decode cL_law 1260 = .ok (.iload 4, 2) := by decide +kernel
theorem dL_law_1262 : decode cL_law 1262 = .ok (.iconst 1, 1) := by decide +kernel
theorem dL_law_1263 : decode cL_law 1263 = .ok (.iadd, 1) := by decide +kernel
theorem dL_law_1264 : decode cL_law 1264 = .ok (.iaload, 1) := by decide +kernel
theorem dL_law_1265 : decode cL_law 1265 = .ok (.aload_n 0, 1) := by decide +kernel
theorem dL_law_1266 : decode cL_law 1266 = .ok (.iload 4, 2) := by decide +kernel
theorem dL_law_1268 : decode cL_law 1268 = .ok (.iconst 2, 1) := by decide +kernel
theorem dL_law_1269 : decode cL_law 1269 = .ok (.iadd, 1) := by decide +kernel
theorem dL_law_1270 : decode cL_law 1270 = .ok (.iaload, 1) := by decide +kernel
theorem dL_law_1271 : decode cL_law 1271 = .ok (.invokevirtual 167, 3) := by decide +kernel
theorem dL_law_1274 : decode cL_law 1274 = .ok (.istore 6, 2) := by decide +kernel
theorem dL_law_1276 : decode cL_law 1276 = .ok (.aload_n 2, 1) := by decide +kernel
theorem dL_law_1277 : decode cL_law 1277 = .ok (.invokevirtual 98, 3) := by decide +kernel
theorem dL_law_1280 : decode cL_law 1280 = .ok (.iload 5, 2) := by decide +kernel
theorem dL_law_1282 : decode cL_law 1282 = .ok (.if_icmp .eq 5, 3) := by decide +kernel
theorem dL_law_1285 : decode cL_law 1285 = .ok (.iconst 0, 1) := by decide +kernel
theorem dL_law_1286 : decode cL_law 1286 = .ok (.ireturn, 1) := by decide +kernel
theorem dL_law_1287 : decode cL_law 1287 = .ok (.iload 5, 2) := by decide +kernel
theorem dL_law_1289 : decode cL_law 1289 = .ok (.ifCond .ne 15, 3) := by decide +kernel
theorem dL_law_1292 : decode cL_law 1292 = .ok (.aload_n 3, 1) := by decide +kernel
theorem dL_law_1293 : decode cL_law 1293 = .ok (.iconst 0, 1) := by decide +kernel
theorem dL_law_1294 : decode cL_law 1294 = .ok (.laload, 1) := by decide +kernel
theorem dL_law_1295 : decode cL_law 1295 = .ok (.iload 6, 2) := by decide +kernel
theorem dL_law_1297 : decode cL_law 1297 = .ok (.i2l, 1) := by decide +kernel
theorem dL_law_1298 : decode cL_law 1298 = .ok (.lcmp, 1) := by decide +kernel
theorem dL_law_1299 : decode cL_law 1299 = .ok (.ifCond .eq 5, 3) := by decide +kernel
theorem dL_law_1302 : decode cL_law 1302 = .ok (.iconst 0, 1) := by decide +kernel
theorem dL_law_1303 : decode cL_law 1303 = .ok (.ireturn, 1) := by decide +kernel
theorem dL_law_1304 : decode cL_law 1304 = .ok (.goto 315, 3) := by decide +kernel
theorem dL_law_1307 : decode cL_law 1307 = .ok (.aload_n 1, 1) := by decide +kernel
theorem dL_law_1308 : decode cL_law 1308 = .ok (.aload_n 0, 1) := by decide +kernel
theorem dL_law_1309 : decode cL_law 1309 = .ok (.iload 4, 2) := by decide +kernel
theorem dL_law_1311 : decode cL_law 1311 = .ok (.iconst 1, 1) := by decide +kernel
theorem dL_law_1312 : decode cL_law 1312 = .ok (.iadd, 1) := by decide +kernel
theorem dL_law_1313 : decode cL_law 1313 = .ok (.iaload, 1) := by decide +kernel
theorem dL_law_1314 : decode cL_law 1314 = .ok (.aload_n 0, 1) := by decide +kernel
theorem dL_law_1315 : decode cL_law 1315 = .ok (.iload 4, 2) := by decide +kernel
theorem dL_law_1317 : decode cL_law 1317 = .ok (.iconst 2, 1) := by decide +kernel
theorem dL_law_1318 : decode cL_law 1318 = .ok (.iadd, 1) := by decide +kernel
theorem dL_law_1319 : decode cL_law 1319 = .ok (.iaload, 1) := by decide +kernel
theorem dL_law_1320 : decode cL_law 1320 = .ok (.i2l, 1) := by decide +kernel
theorem dL_law_1321 : decode cL_law 1321 = .ok (.bipush 32, 2) := by decide +kernel
theorem dL_law_1323 : decode cL_law 1323 = .ok (.lshl, 1) := by decide +kernel
theorem dL_law_1324 : decode cL_law 1324 = .ok (.aload_n 0, 1) := by decide +kernel
theorem dL_law_1325 : decode cL_law 1325 = .ok (.iload 4, 2) := by decide +kernel
theorem dL_law_1327 : decode cL_law 1327 = .ok (.iconst 3, 1) := by decide +kernel
theorem dL_law_1328 : decode cL_law 1328 = .ok (.iadd, 1) := by decide +kernel
theorem dL_law_1329 : decode cL_law 1329 = .ok (.iaload, 1) := by decide +kernel
theorem dL_law_1330 : decode cL_law 1330 = .ok (.i2l, 1) := by decide +kernel
theorem dL_law_1331 : decode cL_law 1331 = .ok (.ldc2_w 168, 3) := by decide +kernel
theorem dL_law_1334 : decode cL_law 1334 = .ok (.land, 1) := by decide +kernel
theorem dL_law_1335 : decode cL_law 1335 = .ok (.lor, 1) := by decide +kernel
theorem dL_law_1336 : decode cL_law 1336 = .ok (.aload_n 3, 1) := by decide +kernel
theorem dL_law_1337 : decode cL_law 1337 = .ok (.invokestatic 170, 3) := by decide +kernel
theorem dL_law_1340 : decode cL_law 1340 = .ok (.istore 5, 2) := by decide +kernel
theorem dL_law_1342 : decode cL_law 1342 = .ok (.aload_n 2, 1) := by decide +kernel
theorem dL_law_1343 : decode cL_law 1343 = .ok (.aload_n 0, 1) := by decide +kernel
theorem dL_law_1344 : decode cL_law 1344 = .ok (.iload 4, 2) := by decide +kernel
theorem dL_law_1346 : decode cL_law 1346 = .ok (.iconst 1, 1) := by decide +kernel
theorem dL_law_1347 : decode cL_law 1347 = .ok (.iadd, 1) := by decide +kernel
theorem dL_law_1348 : decode cL_law 1348 = .ok (.iaload, 1) := by decide +kernel
theorem dL_law_1349 : decode cL_law 1349 = .ok (.aload_n 0, 1) := by decide +kernel
theorem dL_law_1350 : decode cL_law 1350 = .ok (.iload 4, 2) := by decide +kernel
theorem dL_law_1352 : decode cL_law 1352 = .ok (.iconst 2, 1) := by decide +kernel
theorem dL_law_1353 : decode cL_law 1353 = .ok (.iadd, 1) := by decide +kernel
theorem dL_law_1354 : decode cL_law 1354 = .ok (.iaload, 1) := by decide +kernel
theorem dL_law_1355 : decode cL_law 1355 = .ok (.i2l, 1) := by decide +kernel
theorem dL_law_1356 : decode cL_law 1356 = .ok (.bipush 32, 2) := by decide +kernel
theorem dL_law_1358 : decode cL_law 1358 = .ok (.lshl, 1) := by decide +kernel
theorem dL_law_1359 : decode cL_law 1359 = .ok (.aload_n 0, 1) := by decide +kernel
theorem dL_law_1360 : decode cL_law 1360 = .ok (.iload 4, 2) := by decide +kernel
theorem dL_law_1362 : decode cL_law 1362 = .ok (.iconst 3, 1) := by decide +kernel
theorem dL_law_1363 : decode cL_law 1363 = .ok (.iadd, 1) := by decide +kernel
theorem dL_law_1364 : decode cL_law 1364 = .ok (.iaload, 1) := by decide +kernel
theorem dL_law_1365 : decode cL_law 1365 = .ok (.i2l, 1) := by decide +kernel
theorem dL_law_1366 : decode cL_law 1366 = .ok (.ldc2_w 168, 3) := by decide +kernel
theorem dL_law_1369 : decode cL_law 1369 = .ok (.land, 1) := by decide +kernel
theorem dL_law_1370 : decode cL_law 1370 = .ok (.lor, 1) := by decide +kernel
theorem dL_law_1371 : decode cL_law 1371 = .ok (.invokevirtual 173, 3) := by decide +kernel
theorem dL_law_1374 : decode cL_law 1374 = .ok (.istore 6, 2) := by decide +kernel
theorem dL_law_1376 : decode cL_law 1376 = .ok (.aload_n 2, 1) := by decide +kernel
theorem dL_law_1377 : decode cL_law 1377 = .ok (.invokevirtual 98, 3) := by decide +kernel
theorem dL_law_1380 : decode cL_law 1380 = .ok (.iload 5, 2) := by decide +kernel
theorem dL_law_1382 : decode cL_law 1382 = .ok (.if_icmp .eq 5, 3) := by decide +kernel
theorem dL_law_1385 : decode cL_law 1385 = .ok (.iconst 0, 1) := by decide +kernel
theorem dL_law_1386 : decode cL_law 1386 = .ok (.ireturn, 1) := by decide +kernel
theorem dL_law_1387 : decode cL_law 1387 = .ok (.iload 5, 2) := by decide +kernel
theorem dL_law_1389 : decode cL_law 1389 = .ok (.ifCond .ne 15, 3) := by decide +kernel
theorem dL_law_1392 : decode cL_law 1392 = .ok (.aload_n 3, 1) := by decide +kernel
theorem dL_law_1393 : decode cL_law 1393 = .ok (.iconst 0, 1) := by decide +kernel
theorem dL_law_1394 : decode cL_law 1394 = .ok (.laload, 1) := by decide +kernel
theorem dL_law_1395 : decode cL_law 1395 = .ok (.iload 6, 2) := by decide +kernel
theorem dL_law_1397 : decode cL_law 1397 = .ok (.i2l, 1) := by decide +kernel
theorem dL_law_1398 : decode cL_law 1398 = .ok (.lcmp, 1) := by decide +kernel
theorem dL_law_1399 : decode cL_law 1399 = .ok (.ifCond .eq 5, 3) := by decide +kernel
theorem dL_law_1402 : decode cL_law 1402 = .ok (.iconst 0, 1) := by decide +kernel
theorem dL_law_1403 : decode cL_law 1403 = .ok (.ireturn, 1) := by decide +kernel
theorem dL_law_1404 : decode cL_law 1404 = .ok (.goto 215, 3) := by decide +kernel
theorem dL_law_1407 : decode cL_law 1407 = .ok (.aload_n 1, 1) := by decide +kernel
theorem dL_law_1408 : decode cL_law 1408 = .ok (.aload_n 0, 1) := by decide +kernel
theorem dL_law_1409 : decode cL_law 1409 = .ok (.iload 4, 2) := by decide +kernel
theorem dL_law_1411 : decode cL_law 1411 = .ok (.iconst 1, 1) := by decide +kernel
theorem dL_law_1412 : decode cL_law 1412 = .ok (.iadd, 1) := by decide +kernel
theorem dL_law_1413 : decode cL_law 1413 = .ok (.iaload, 1) := by decide +kernel
theorem dL_law_1414 : decode cL_law 1414 = .ok (.i2l, 1) := by decide +kernel
theorem dL_law_1415 : decode cL_law 1415 = .ok (.bipush 32, 2) := by decide +kernel
theorem dL_law_1417 : decode cL_law 1417 = .ok (.lshl, 1) := by decide +kernel
theorem dL_law_1418 : decode cL_law 1418 = .ok (.aload_n 0, 1) := by decide +kernel
theorem dL_law_1419 : decode cL_law 1419 = .ok (.iload 4, 2) := by decide +kernel
theorem dL_law_1421 : decode cL_law 1421 = .ok (.iconst 2, 1) := by decide +kernel
theorem dL_law_1422 : decode cL_law 1422 = .ok (.iadd, 1) := by decide +kernel
theorem dL_law_1423 : decode cL_law 1423 = .ok (.iaload, 1) := by decide +kernel
theorem dL_law_1424 : decode cL_law 1424 = .ok (.i2l, 1) := by decide +kernel
theorem dL_law_1425 : decode cL_law 1425 = .ok (.ldc2_w 168, 3) := by decide +kernel
theorem dL_law_1428 : decode cL_law 1428 = .ok (.land, 1) := by decide +kernel
theorem dL_law_1429 : decode cL_law 1429 = .ok (.lor, 1) := by decide +kernel
theorem dL_law_1430 : decode cL_law 1430 = .ok (.aload_n 0, 1) := by decide +kernel
theorem dL_law_1431 : decode cL_law 1431 = .ok (.iload 4, 2) := by decide +kernel
theorem dL_law_1433 : decode cL_law 1433 = .ok (.iconst 3, 1) := by decide +kernel
theorem dL_law_1434 : decode cL_law 1434 = .ok (.iadd, 1) := by decide +kernel
theorem dL_law_1435 : decode cL_law 1435 = .ok (.iaload, 1) := by decide +kernel
theorem dL_law_1436 : decode cL_law 1436 = .ok (.aload_n 3, 1) := by decide +kernel
theorem dL_law_1437 : decode cL_law 1437 = .ok (.invokestatic 174, 3) := by decide +kernel
theorem dL_law_1440 : decode cL_law 1440 = .ok (.istore 5, 2) := by decide +kernel
theorem dL_law_1442 : decode cL_law 1442 = .ok (.aload_n 2, 1) := by decide +kernel
theorem dL_law_1443 : decode cL_law 1443 = .ok (.aload_n 0, 1) := by decide +kernel
theorem dL_law_1444 : decode cL_law 1444 = .ok (.iload 4, 2) := by decide +kernel
theorem dL_law_1446 : decode cL_law 1446 = .ok (.iconst 1, 1) := by decide +kernel
theorem dL_law_1447 : decode cL_law 1447 = .ok (.iadd, 1) := by decide +kernel
theorem dL_law_1448 : decode cL_law 1448 = .ok (.iaload, 1) := by decide +kernel
theorem dL_law_1449 : decode cL_law 1449 = .ok (.i2l, 1) := by decide +kernel
theorem dL_law_1450 : decode cL_law 1450 = .ok (.bipush 32, 2) := by decide +kernel
theorem dL_law_1452 : decode cL_law 1452 = .ok (.lshl, 1) := by decide +kernel
theorem dL_law_1453 : decode cL_law 1453 = .ok (.aload_n 0, 1) := by decide +kernel
theorem dL_law_1454 : decode cL_law 1454 = .ok (.iload 4, 2) := by decide +kernel
theorem dL_law_1456 : decode cL_law 1456 = .ok (.iconst 2, 1) := by decide +kernel
theorem dL_law_1457 : decode cL_law 1457 = .ok (.iadd, 1) := by decide +kernel
theorem dL_law_1458 : decode cL_law 1458 = .ok (.iaload, 1) := by decide +kernel
theorem dL_law_1459 : decode cL_law 1459 = .ok (.i2l, 1) := by decide +kernel
theorem dL_law_1460 : decode cL_law 1460 = .ok (.ldc2_w 168, 3) := by decide +kernel
theorem dL_law_1463 : decode cL_law 1463 = .ok (.land, 1) := by decide +kernel
theorem dL_law_1464 : decode cL_law 1464 = .ok (.lor, 1) := by decide +kernel
theorem dL_law_1465 : decode cL_law 1465 = .ok (.aload_n 0, 1) := by decide +kernel
theorem dL_law_1466 : decode cL_law 1466 = .ok (.iload 4, 2) := by decide +kernel
theorem dL_law_1468 : decode cL_law 1468 = .ok (.iconst 3, 1) := by decide +kernel
theorem dL_law_1469 : decode cL_law 1469 = .ok (.iadd, 1) := by decide +kernel
theorem dL_law_1470 : decode cL_law 1470 = .ok (.iaload, 1) := by decide +kernel
theorem dL_law_1471 : decode cL_law 1471 = .ok (.invokevirtual 177, 3) := by decide +kernel
theorem dL_law_1474 : decode cL_law 1474 = .ok (.istore 6, 2) := by decide +kernel
theorem dL_law_1476 : decode cL_law 1476 = .ok (.aload_n 2, 1) := by decide +kernel
theorem dL_law_1477 : decode cL_law 1477 = .ok (.invokevirtual 98, 3) := by decide +kernel
theorem dL_law_1480 : decode cL_law 1480 = .ok (.iload 5, 2) := by decide +kernel
theorem dL_law_1482 : decode cL_law 1482 = .ok (.if_icmp .eq 5, 3) := by decide +kernel
theorem dL_law_1485 : decode cL_law 1485 = .ok (.iconst 0, 1) := by decide +kernel
theorem dL_law_1486 : decode cL_law 1486 = .ok (.ireturn, 1) := by decide +kernel
theorem dL_law_1487 : decode cL_law 1487 = .ok (.iload 5, 2) := by decide +kernel
theorem dL_law_1489 : decode cL_law 1489 = .ok (.ifCond .ne 15, 3) := by decide +kernel
theorem dL_law_1492 : decode cL_law 1492 = .ok (.aload_n 3, 1) := by decide +kernel
theorem dL_law_1493 : decode cL_law 1493 = .ok (.iconst 0, 1) := by decide +kernel
theorem dL_law_1494 : decode cL_law 1494 = .ok (.laload, 1) := by decide +kernel
theorem dL_law_1495 : decode cL_law 1495 = .ok (.iload 6, 2) := by decide +kernel
theorem dL_law_1497 : decode cL_law 1497 = .ok (.i2l, 1) := by decide +kernel
theorem dL_law_1498 : decode cL_law 1498 = .ok (.lcmp, 1) := by decide +kernel
theorem dL_law_1499 : decode cL_law 1499 = .ok (.ifCond .eq 5, 3) := by decide +kernel
theorem dL_law_1502 : decode cL_law 1502 = .ok (.iconst 0, 1) := by decide +kernel
theorem dL_law_1503 : decode cL_law 1503 = .ok (.ireturn, 1) := by decide +kernel
theorem dL_law_1504 : decode cL_law 1504 = .ok (.goto 115, 3) := by decide +kernel
theorem dL_law_1507 : decode cL_law 1507 = .ok (.aload_n 1, 1) := by decide +kernel
theorem dL_law_1508 : decode cL_law 1508 = .ok (.aload_n 0, 1) := by decide +kernel
theorem dL_law_1509 : decode cL_law 1509 = .ok (.iload 4, 2) := by decide +kernel
theorem dL_law_1511 : decode cL_law 1511 = .ok (.iconst 1, 1) := by decide +kernel
theorem dL_law_1512 : decode cL_law 1512 = .ok (.iadd, 1) := by decide +kernel
theorem dL_law_1513 : decode cL_law 1513 = .ok (.iaload, 1) := by decide +kernel
theorem dL_law_1514 : decode cL_law 1514 = .ok (.aload_n 3, 1) := by decide +kernel
theorem dL_law_1515 : decode cL_law 1515 = .ok (.invokestatic 178, 3) := by decide +kernel
theorem dL_law_1518 : decode cL_law 1518 = .ok (.istore 5, 2) := by decide +kernel
theorem dL_law_1520 : decode cL_law 1520 = .ok (.aload_n 2, 1) := by decide +kernel
theorem dL_law_1521 : decode cL_law 1521 = .ok (.aload_n 0, 1) := by decide +kernel
theorem dL_law_1522 : decode cL_law 1522 = .ok (.iload 4, 2) := by decide +kernel
theorem dL_law_1524 : decode cL_law 1524 = .ok (.iconst 1, 1) := by decide +kernel
theorem dL_law_1525 : decode cL_law 1525 = .ok (.iadd, 1) := by decide +kernel
theorem dL_law_1526 : decode cL_law 1526 = .ok (.iaload, 1) := by decide +kernel
theorem dL_law_1527 : decode cL_law 1527 = .ok (.invokevirtual 180, 3) := by decide +kernel
theorem dL_law_1530 : decode cL_law 1530 = .ok (.istore 6, 2) := by decide +kernel
theorem dL_law_1532 : decode cL_law 1532 = .ok (.aload_n 2, 1) := by decide +kernel
theorem dL_law_1533 : decode cL_law 1533 = .ok (.invokevirtual 98, 3) := by decide +kernel
theorem dL_law_1536 : decode cL_law 1536 = .ok (.iload 5, 2) := by decide +kernel
theorem dL_law_1538 : decode cL_law 1538 = .ok (.if_icmp .eq 5, 3) := by decide +kernel
theorem dL_law_1541 : decode cL_law 1541 = .ok (.iconst 0, 1) := by decide +kernel
theorem dL_law_1542 : decode cL_law 1542 = .ok (.ireturn, 1) := by decide +kernel
theorem dL_law_1543 : decode cL_law 1543 = .ok (.iload 5, 2) := by decide +kernel
theorem dL_law_1545 : decode cL_law 1545 = .ok (.ifCond .ne 15, 3) := by decide +kernel
theorem dL_law_1548 : decode cL_law 1548 = .ok (.aload_n 3, 1) := by decide +kernel
theorem dL_law_1549 : decode cL_law 1549 = .ok (.iconst 0, 1) := by decide +kernel
theorem dL_law_1550 : decode cL_law 1550 = .ok (.laload, 1) := by decide +kernel
theorem dL_law_1551 : decode cL_law 1551 = .ok (.iload 6, 2) := by decide +kernel
theorem dL_law_1553 : decode cL_law 1553 = .ok (.i2l, 1) := by decide +kernel
theorem dL_law_1554 : decode cL_law 1554 = .ok (.lcmp, 1) := by decide +kernel
theorem dL_law_1555 : decode cL_law 1555 = .ok (.ifCond .eq 5, 3) := by decide +kernel
theorem dL_law_1558 : decode cL_law 1558 = .ok (.iconst 0, 1) := by decide +kernel
theorem dL_law_1559 : decode cL_law 1559 = .ok (.ireturn, 1) := by decide +kernel
theorem dL_law_1560 : decode cL_law 1560 = .ok (.goto 59, 3) := by decide +kernel
theorem dL_law_1563 : decode cL_law 1563 = .ok (.aload_n 1, 1) := by decide +kernel
theorem dL_law_1564 : decode cL_law 1564 = .ok (.aload_n 0, 1) := by decide +kernel
theorem dL_law_1565 : decode cL_law 1565 = .ok (.iload 4, 2) := by decide +kernel
theorem dL_law_1567 : decode cL_law 1567 = .ok (.iconst 1, 1) := by decide +kernel
theorem dL_law_1568 : decode cL_law 1568 = .ok (.iadd, 1) := by decide +kernel
theorem dL_law_1569 : decode cL_law 1569 = .ok (.iaload, 1) := by decide +kernel
theorem dL_law_1570 : decode cL_law 1570 = .ok (.aload_n 3, 1) := by decide +kernel
theorem dL_law_1571 : decode cL_law 1571 = .ok (.invokestatic 181, 3) := by decide +kernel
theorem dL_law_1574 : decode cL_law 1574 = .ok (.istore 5, 2) := by decide +kernel
theorem dL_law_1576 : decode cL_law 1576 = .ok (.aload_n 2, 1) := by decide +kernel
theorem dL_law_1577 : decode cL_law 1577 = .ok (.aload_n 0, 1) := by decide +kernel
theorem dL_law_1578 : decode cL_law 1578 = .ok (.iload 4, 2) := by decide +kernel
theorem dL_law_1580 : decode cL_law 1580 = .ok (.iconst 1, 1) := by decide +kernel
theorem dL_law_1581 : decode cL_law 1581 = .ok (.iadd, 1) := by decide +kernel
theorem dL_law_1582 : decode cL_law 1582 = .ok (.iaload, 1) := by decide +kernel
theorem dL_law_1583 : decode cL_law 1583 = .ok (.invokevirtual 183, 3) := by decide +kernel
theorem dL_law_1586 : decode cL_law 1586 = .ok (.istore 6, 2) := by decide +kernel
theorem dL_law_1588 : decode cL_law 1588 = .ok (.aload_n 2, 1) := by decide +kernel
theorem dL_law_1589 : decode cL_law 1589 = .ok (.invokevirtual 98, 3) := by decide +kernel
theorem dL_law_1592 : decode cL_law 1592 = .ok (.iload 5, 2) := by decide +kernel
theorem dL_law_1594 : decode cL_law 1594 = .ok (.if_icmp .eq 5, 3) := by decide +kernel
theorem dL_law_1597 : decode cL_law 1597 = .ok (.iconst 0, 1) := by decide +kernel
theorem dL_law_1598 : decode cL_law 1598 = .ok (.ireturn, 1) := by decide +kernel
theorem dL_law_1599 : decode cL_law 1599 = .ok (.iload 5, 2) := by decide +kernel
theorem dL_law_1601 : decode cL_law 1601 = .ok (.ifCond .ne 15, 3) := by decide +kernel
theorem dL_law_1604 : decode cL_law 1604 = .ok (.aload_n 3, 1) := by decide +kernel
theorem dL_law_1605 : decode cL_law 1605 = .ok (.iconst 0, 1) := by decide +kernel
theorem dL_law_1606 : decode cL_law 1606 = .ok (.laload, 1) := by decide +kernel
theorem dL_law_1607 : decode cL_law 1607 = .ok (.iload 6, 2) := by decide +kernel
theorem dL_law_1609 : decode cL_law 1609 = .ok (.i2l, 1) := by decide +kernel
theorem dL_law_1610 : decode cL_law 1610 = .ok (.lcmp, 1) := by decide +kernel
theorem dL_law_1611 : decode cL_law 1611 = .ok (.ifCond .eq 5, 3) := by decide +kernel
theorem dL_law_1614 : decode cL_law 1614 = .ok (.iconst 0, 1) := by decide +kernel
theorem dL_law_1615 : decode cL_law 1615 = .ok (.ireturn, 1) := by decide +kernel
theorem dL_law_1616 : decode cL_law 1616 = .ok (.goto 3, 3) := by decide +kernel
theorem dL_law_1619 : decode cL_law 1619 = .ok (.iinc 4 5, 3) := by decide +kernel
theorem dL_law_1622 : decode cL_law 1622 = .ok (.goto (-1599), 3) := by decide +kernel
theorem dL_law_1625 : decode cL_law 1625 = .ok (.iconst 1, 1) := by decide +kernel
theorem dL_law_1626 : decode cL_law 1626 = .ok (.ireturn, 1) := by decide +kernel
end
section
/-! ===== the world: 207 cells by number; the state is a function unit -> row -> place ===== -/
abbrev lc_St : Type := Nat → Nat → Int32
abbrev lc_MM : Type := Nat → lc_St
/-- the tables' classes, the array classes (char, int, boolean, Battery, long), the addresses, where the law's own cells begin -/
abbrev lc_Se : Type := va_G × (Nat → ClassId) × (Nat → Nat) × Nat
abbrev lc_ad (S : lc_Se) (k : Nat) : Nat := S.2.2.1 k
abbrev lc_cl (S : lc_Se) (k : Nat) : ClassId := S.2.1 k
abbrev lc_ba (S : lc_Se) : Nat := S.2.2.2
def lc_A (S : lc_Se) : Nat → Prop := fun q => lc_ba S ≤ q
def lc_ss (s : lc_St) (r i : Nat) (v : Int32) : lc_St := va_up s r (upd (s r) i v)
def lc_ms (M : lc_MM) (u r i : Nat) (v : Int32) : lc_MM := va_up M u (lc_ss (M u) r i v)
def lc_bo (S : lc_Se) (b : Nat) (g : Nat → Int32) : List Value := [.ref (lc_ad S (b + 1)), .ref (lc_ad S (b + 2)), .ref (lc_ad S (b + 3)), .ref (lc_ad S (b + 4)), .ref (lc_ad S (b + 5)), .ref (lc_ad S (b + 6)), .ref (lc_ad S (b + 7)), .ref (lc_ad S (b + 8)), .ref (lc_ad S (b + 9)), .int (g 0), .int (g 1), .int (g 2), .int (g 3), .int (g 4), .int (g 5), .int (g 6), .int (g 7), .int (g 8)]
def lc_bl (r : Nat) : Nat := if r ≤ 4 then 8 else 12
/-- the cell of that number, with the row g -/
def lc_el (S : lc_Se) (id : Nat) (g : Nat → Int32) : va_E :=
  if id < 190 then (if id % 10 = 0 then .inr (0, lc_bo S id g) else .inl (lc_cl S 1, lc_bl (id % 10), .inl g))
  else if id = 190 then .inr (2, [.ref (lc_ad S 191), .int (g 0), .int (g 1)])
  else if id = 191 then .inl (lc_cl S 0, 120, .inl g)
  else if id = 192 then .inr (1, [.ref (lc_ad S 193), .int (g 0), .int (g 1)])
  else if id = 193 then .inl (lc_cl S 3, 14, .inr (.inr (.inr (.inr (fun j => some (lc_ad S (10 * (5 + j))))))))
  else if id = 194 then .inr (3, [.ref (lc_ad S 190), .ref (lc_ad S 0), .ref (lc_ad S 192), .ref (lc_ad S 195), .ref (lc_ad S 196), .ref (lc_ad S 10), .ref (lc_ad S 20)])
  else if id = 195 then .inl (lc_cl S 3, 2, .inr (.inr (.inr (.inr (fun j => some (lc_ad S (10 * (3 + j))))))))
  else if id = 196 then .inl (lc_cl S 2, 2, .inl g)
  else if id = 197 then .inr (4, [.int (g 0), .ref (lc_ad S 198), .ref (lc_ad S 199), .ref (lc_ad S 200), .ref (lc_ad S 201), .ref (lc_ad S 202), .int (g 1), .ref (lc_ad S 203), .int (g 2), .int (g 3), .int (g 4), .ref (lc_ad S 204), .ref (lc_ad S 205), .int (g 5), .int (g 6)])
  else if id = 198 then .inl (lc_cl S 1, 107, .inl g)
  else if id = 199 then .inl (lc_cl S 1, 107, .inl g)
  else if id = 200 then .inl (lc_cl S 1, 214, .inl g)
  else if id = 201 then .inl (lc_cl S 2, 2, .inl g)
  else if id = 202 then .inl (lc_cl S 1, 1498, .inl g)
  else if id = 203 then .inl (lc_cl S 1, 120, .inl g)
  else if id = 204 then .inl (lc_cl S 2, 8, .inl g)
  else if id = 205 then .inl (lc_cl S 1, 107, .inl g)
  else .inl (lc_cl S 4, 1, .inr (.inl (fun j => (g j).toInt64)))
def lc_un (id : Nat) : Nat := if id < 190 then id / 10 else if id < 192 then 19 else if id < 194 then 20 else if id < 197 then 21 else if id < 206 then 22 else 23
def lc_ro (id : Nat) : Nat := if id < 190 then id % 10 else if id < 192 then id - 190 else if id < 194 then id - 192 else if id < 197 then id - 194 else if id < 206 then id - 197 else 0
theorem lc_inj {a b : Nat} (ha : a < 207) (hb : b < 207) (h1 : lc_un a = lc_un b) (h2 : lc_ro a = lc_ro b) : a = b := by
  unfold lc_un at h1
  unfold lc_ro at h2
  split at h1 <;> split at h1 <;> simp_all <;> (try omega) <;> (repeat' split at h1) <;> simp_all <;> omega
def lc_w (S : lc_Se) (M : lc_MM) : va_W := (List.range 207).map (fun id => (lc_ad S id, lc_el S id (M (lc_un id) (lc_ro id))))
theorem lc_w_at (S : lc_Se) (M : lc_MM) {id : Nat} (h : id < 207) : (lc_w S M)[id]? = some (lc_ad S id, lc_el S id (M (lc_un id) (lc_ro id))) := by
  simp [lc_w, h]
theorem lc_w_set (S : lc_Se) (M : lc_MM) {id i : Nat} {v : Int32} (h : id < 207) : (lc_w S M).set id (lc_ad S id, lc_el S id (upd (M (lc_un id) (lc_ro id)) i v)) = lc_w S (lc_ms M (lc_un id) (lc_ro id) i v) := by
  apply List.ext_getElem?
  intro j
  by_cases hj : j < 207
  · by_cases hji : j = id
    · subst hji
      rw [List.getElem?_set_self (by simp [lc_w, h]), lc_w_at _ _ h]
      simp [lc_ms, lc_ss, va_up]
    · rw [List.getElem?_set_ne (Ne.symm hji), lc_w_at _ _ hj, lc_w_at _ _ hj]
      have hne : ¬ (lc_un j = lc_un id ∧ lc_ro j = lc_ro id) := fun q => hji (lc_inj hj h q.1 q.2)
      have e : lc_ms M (lc_un id) (lc_ro id) i v (lc_un j) (lc_ro j) = M (lc_un j) (lc_ro j) := by
        unfold lc_ms lc_ss va_up
        by_cases h1 : lc_un j = lc_un id
        · rw [if_pos h1, if_neg (fun q => hne ⟨h1, q⟩), h1]
        · rw [if_neg h1]
      rw [e]
  · rw [List.getElem?_eq_none (by simp [lc_w]; omega), List.getElem?_eq_none (by simp [lc_w]; omega)]
def lc_ty (S : lc_Se) : List (ClassId × FieldType) := [(lc_cl S 0, .char), (lc_cl S 1, .int), (lc_cl S 2, .boolean), (lc_cl S 3, .object RX0), (lc_cl S 4, .long)]
/-- the world inside a method -/
def lc_G (S : lc_Se) (M : lc_MM) (s : State) (H : Heap) (locs : List Loc) : Prop :=
  va_K S.1 vwCl (lc_ty S) s ∧ va_P S.1 vwCl (lc_w S M) H ∧ va_D (lc_A S) (lc_w S M) ∧ va_S (lc_A S) s.heap H locs ∧ lc_ba S ≤ s.heap.size
/-- the world between methods -/
def lc_B (S : lc_Se) (M : lc_MM) (U : State) : Prop :=
  lc_ba S ≤ U.heap.size ∧ va_P S.1 vwCl (lc_w S M) U.heap ∧ va_K S.1 vwCl (lc_ty S) U ∧ va_D (lc_A S) (lc_w S M)
theorem lc_up_self {α : Type} (M : Nat → α) (k : Nat) : va_up M k (M k) = M := by
  funext j
  unfold va_up
  by_cases h : j = k
  · rw [if_pos h, h]
  · rw [if_neg h]
theorem lc_up_up {α : Type} (M : Nat → α) (k : Nat) (a b : α) : va_up (va_up M k a) k b = va_up M k b := by
  funext j
  unfold va_up
  by_cases h : j = k
  · rw [if_pos h, if_pos h]
  · rw [if_neg h, if_neg h, if_neg h]
theorem lc_up_at {α : Type} (M : Nat → α) (k : Nat) (a : α) : va_up M k a k = a := if_pos rfl
theorem lc_up_off {α : Type} (M : Nat → α) {k j : Nat} (a : α) (h : j ≠ k) : va_up M k a j = M j := if_neg h
theorem lc_up_swap {α : Type} (M : Nat → α) {k j : Nat} (a b : α) (h : j ≠ k) : va_up (va_up M k a) j b = va_up (va_up M j b) k a := by
  funext i
  unfold va_up
  by_cases h1 : i = j
  · subst h1
    rw [if_pos rfl, if_neg h, if_pos rfl]
  · rw [if_neg h1, if_neg h1]
/-! ===== words: all of the tables that a callee may ask for ===== -/
def lc_T : List Cond := lw_tbl.filter goodWord
theorem lc_in {w : Cond} (h : w ∈ lw_tbl) (g : goodWord w = true) : w ∈ lc_T := List.mem_filter.mpr ⟨h, g⟩
theorem lc_gd {w : Cond} (h : w ∈ lc_T) : goodWord w = true := (List.mem_filter.mp h).2
abbrev lc_ws (y : MethodName) (b : ByteArray) (n : Nat) (r : Option FieldType) : List Cond := .code y b n r :: lc_T
theorem lc_good {ws : List Cond} (h : ∀ w ∈ ws, w ∈ lc_T) : GoodIn lc_T ws := fun w hw => ⟨h w hw, good_of_word (lc_gd (h w hw))⟩


/-! ===== the judgement ===== -/
abbrev lc_X : Type := Program × Launch × Env × Room × State × MethodId × Array Value × List Frame × Method × Code
abbrev lc_Xs (X : lc_X) : State := X.2.2.2.2.1
abbrev lc_Xr (X : lc_X) : Room := X.2.2.2.1
/-- the method's own facts -/
def lc_C (X : lc_X) (cc : ByteArray) (own : String) (n : Nat) (rt : Option FieldType) (rm : Room) : Prop :=
  X.1.tables.exec = Jvm.exec ∧ X.2.2.2.2.2.2.2.2.2.code = cc ∧ X.2.2.2.2.2.2.2.2.2.maxLocals = n ∧ (lc_Xs X).vm.findClass own = some X.2.2.2.2.2.1.cls ∧ (∀ w ∈ lc_T, w.before X.2.2.2.2.2.2.1 (lc_Xs X) = true) ∧ X.2.2.2.2.2.2.2.2.1.locks = false ∧ X.2.2.2.2.2.2.2.2.1.sig.returnType = rt ∧ lc_Xr X = rm
def lc_J (S : lc_Se) (X : lc_X) (n k j : Nat) (Q : State → Prop) (pc : Nat) (lo : List (Nat × Value)) (st : List Value) (M : lc_MM) : Prop :=
  ∀ (H : Heap) (locs : List Loc) (ls : Array Slot), lc_G S M (lc_Xs X) H locs → lv_has ls n lo → W X.1 X.2.1 X.2.2.1 (lc_Xr X) (lc_Xs X) X.2.2.2.2.2.1 X.2.2.2.2.2.2.1 X.2.2.2.2.2.2.2.1 X.2.2.2.2.2.2.2.2.1 X.2.2.2.2.2.2.2.2.2 H locs k j Q (F0 X.2.2.2.2.2.1 pc ls st)
def lc_let {α β : Sort _} (x : α) (f : α → β) : β := f x
theorem lc_lete {α : Type} {β : Type} {x : α} {f : α → Option β} {o : Option β} (h : lc_let x f = o) : ∃ y, x = y ∧ f y = o := ⟨x, rfl, h⟩
def lc_if {α : Type} (c : Prop) [Decidable c] (x : Option α) : Option α := if c then x else none
theorem lc_ife {α : Type} {c : Prop} [Decidable c] {x : Option α} {o : α} (h : lc_if c x = some o) : c ∧ x = some o := by
  unfold lc_if at h
  split at h
  · exact ⟨by assumption, h⟩
  · cases h
def lc_bd {α β : Type} (x : Option α) (f : α → Option β) : Option β := x.bind f
theorem lc_bde {α β : Type} {x : Option α} {f : α → Option β} {o : β} (h : lc_bd x f = some o) : ∃ y, x = some y ∧ f y = some o := by
  cases x with
  | none => cases h
  | some y => exact ⟨y, rfl, h⟩
abbrev lc_ok (i : Int32) (n : Nat) : Prop := ¬ (i < 0 ∨ n ≤ i.toNatClampNeg)
section LCJ
variable {S : lc_Se} {X : lc_X} {cc : ByteArray} {own : String} {rt : Option FieldType} {rm : Room} {n k j : Nat} {Q : State → Prop} {pc pc' : Nat} {lo lo' : List (Nat × Value)} {st : List Value} {M M' : lc_MM}
theorem lc_sub (ks : List Nat) (hl : lv_pick lo ks = lo') (kk : lc_J S X n k j Q pc lo' st M) : lc_J S X n k j Q pc lo st M := fun H locs ls hG h => kk H locs ls hG (lv_sub h ks hl)
theorem lc_wid {k' j' : Nat} (h1 : k ≤ k') (h2 : j ≤ j') (kk : lc_J S X n k' j' Q pc lo st M) : lc_J S X n k j Q pc lo st M := fun H locs ls hG h => W.widen h1 h2 (kk H locs ls hG h)
theorem lc_meq (h : M = M') (kk : lc_J S X n k j Q pc lo st M') : lc_J S X n k j Q pc lo st M := h ▸ kk

theorem lc_iconst (C : lc_C X cc own n rt rm) {z : Int} {v : Int32} (d : decode cc pc = .ok (.iconst z, 1)) (hv : Int32.ofInt z = v) (hq : pc + 1 = pc') (kk : lc_J S X n k j Q pc' lo (.int v :: st) M) : lc_J S X n k j Q pc lo (st) M := by
  subst hq
  exact fun H locs ls hG h => lv_iconst C.1 C.2.1 d hv (kk H locs ls hG h)
theorem lc_bipush (C : lc_C X cc own n rt rm) {z : Int} {v : Int32} (d : decode cc pc = .ok (.bipush z, 2)) (hv : (Int8.ofInt z).toInt32 = v) (hq : pc + 2 = pc') (kk : lc_J S X n k j Q pc' lo (.int v :: st) M) : lc_J S X n k j Q pc lo (st) M := by
  subst hq
  exact fun H locs ls hG h => lv_bipush C.1 C.2.1 d hv (kk H locs ls hG h)
theorem lc_sipush (C : lc_C X cc own n rt rm) {z : Int} {v : Int32} (d : decode cc pc = .ok (.sipush z, 3)) (hv : (Int16.ofInt z).toInt32 = v) (hq : pc + 3 = pc') (kk : lc_J S X n k j Q pc' lo (.int v :: st) M) : lc_J S X n k j Q pc lo (st) M := by
  subst hq
  exact fun H locs ls hG h => lv_sipush C.1 C.2.1 d hv (kk H locs ls hG h)
theorem lc_lconst (C : lc_C X cc own n rt rm) {z : Fin 2} {v : Int64} (d : decode cc pc = .ok (.lconst z, 1)) (hv : Int64.ofNat (z : Nat) = v) (hq : pc + 1 = pc') (kk : lc_J S X n k j Q pc' lo (.long v :: st) M) : lc_J S X n k j Q pc lo (st) M := by
  subst hq
  exact fun H locs ls hG h => lv_lconst C.1 C.2.1 d hv (kk H locs ls hG h)
theorem lc_ldc (C : lc_C X cc own n rt rm) {ix : Nat} {v : Int32} (d : decode cc pc = .ok (.ldc ix, 2)) (hw : Jvm.Cond.constant own ix v ∈ lc_T) (hq : pc + 2 = pc') (kk : lc_J S X n k j Q pc' lo (.int v :: st) M) : lc_J S X n k j Q pc lo (st) M := by
  subst hq
  exact fun H locs ls hG h => lv_ldc C.1 C.2.1 C.2.2.2.1 (C.2.2.2.2.1 _ hw) d (kk H locs ls hG h)
theorem lc_ldcw (C : lc_C X cc own n rt rm) {ix : Nat} {v : Int32} (d : decode cc pc = .ok (.ldc_w ix, 3)) (hw : Jvm.Cond.constant own ix v ∈ lc_T) (hq : pc + 3 = pc') (kk : lc_J S X n k j Q pc' lo (.int v :: st) M) : lc_J S X n k j Q pc lo (st) M := by
  subst hq
  exact fun H locs ls hG h => lv_ldcw C.1 C.2.1 C.2.2.2.1 (C.2.2.2.2.1 _ hw) d (kk H locs ls hG h)
theorem lc_ldc2 (C : lc_C X cc own n rt rm) {ix : Nat} {v : Int64} (d : decode cc pc = .ok (.ldc2_w ix, 3)) (hw : Jvm.Cond.constantLong own ix v ∈ lc_T) (hq : pc + 3 = pc') (kk : lc_J S X n k j Q pc' lo (.long v :: st) M) : lc_J S X n k j Q pc lo (st) M := by
  subst hq
  exact fun H locs ls hG h => lv_ldc2 C.1 C.2.1 C.2.2.2.1 (C.2.2.2.2.1 _ hw) d (kk H locs ls hG h)
theorem lc_iload_n (C : lc_C X cc own n rt rm) {z : Fin 4} {v : Int32} (q : Nat) (d : decode cc pc = .ok (.iload_n z, 1)) (hv : lo[q]? = some ((z : Nat), .int v)) (hq : pc + 1 = pc') (kk : lc_J S X n k j Q pc' lo (.int v :: st) M) : lc_J S X n k j Q pc lo (st) M := by
  subst hq
  exact fun H locs ls hG h => lv_iload_n C.1 C.2.1 d rfl (lv_at h q hv) (kk H locs ls hG h)
theorem lc_iload (C : lc_C X cc own n rt rm) {z : Nat} {v : Int32} (q : Nat) (d : decode cc pc = .ok (.iload z, 2)) (hv : lo[q]? = some (z, .int v)) (hq : pc + 2 = pc') (kk : lc_J S X n k j Q pc' lo (.int v :: st) M) : lc_J S X n k j Q pc lo (st) M := by
  subst hq
  exact fun H locs ls hG h => lv_iload C.1 C.2.1 d (lv_at h q hv) (kk H locs ls hG h)
theorem lc_lload_n (C : lc_C X cc own n rt rm) {z : Fin 4} {v : Int64} (q : Nat) (d : decode cc pc = .ok (.lload_n z, 1)) (hv : lo[q]? = some ((z : Nat), .long v)) (hq : pc + 1 = pc') (kk : lc_J S X n k j Q pc' lo (.long v :: st) M) : lc_J S X n k j Q pc lo (st) M := by
  subst hq
  exact fun H locs ls hG h => lv_lload_n C.1 C.2.1 d rfl (lv_at h q hv) (kk H locs ls hG h)
theorem lc_lload (C : lc_C X cc own n rt rm) {z : Nat} {v : Int64} (q : Nat) (d : decode cc pc = .ok (.lload z, 2)) (hv : lo[q]? = some (z, .long v)) (hq : pc + 2 = pc') (kk : lc_J S X n k j Q pc' lo (.long v :: st) M) : lc_J S X n k j Q pc lo (st) M := by
  subst hq
  exact fun H locs ls hG h => lv_lload C.1 C.2.1 d (lv_at h q hv) (kk H locs ls hG h)
theorem lc_aload_n (C : lc_C X cc own n rt rm) {z : Fin 4} {v : Nat} (q : Nat) (d : decode cc pc = .ok (.aload_n z, 1)) (hv : lo[q]? = some ((z : Nat), .ref v)) (hq : pc + 1 = pc') (kk : lc_J S X n k j Q pc' lo (.ref v :: st) M) : lc_J S X n k j Q pc lo (st) M := by
  subst hq
  exact fun H locs ls hG h => lv_aload_n C.1 C.2.1 d rfl (lv_at h q hv) (kk H locs ls hG h)
theorem lc_aload (C : lc_C X cc own n rt rm) {z : Nat} {v : Nat} (q : Nat) (d : decode cc pc = .ok (.aload z, 2)) (hv : lo[q]? = some (z, .ref v)) (hq : pc + 2 = pc') (kk : lc_J S X n k j Q pc' lo (.ref v :: st) M) : lc_J S X n k j Q pc lo (st) M := by
  subst hq
  exact fun H locs ls hG h => lv_aload C.1 C.2.1 d (lv_at h q hv) (kk H locs ls hG h)
theorem lc_istore_n (C : lc_C X cc own n rt rm) {z : Fin 4} {v : Int32} (d : decode cc pc = .ok (.istore_n z, 1)) (hn : (z : Nat) < n) (hl : ((z : Nat), Value.int v) :: lo.filter (fun q => !(q.1 == (z : Nat)) && !(q.1 + 1 == (z : Nat) && q.2.category == 2)) = lo') (hq : pc + 1 = pc') (kk : lc_J S X n k j Q pc' lo' st M) : lc_J S X n k j Q pc lo (.int v :: st) M := by
  subst hq
  exact fun H locs ls hG h => lv_istore_n C.1 C.2.1 d rfl h hn hl (fun ls' h' => kk H locs ls' hG h')
theorem lc_istore (C : lc_C X cc own n rt rm) {z : Nat} {v : Int32} (d : decode cc pc = .ok (.istore z, 2)) (hn : z < n) (hl : (z, Value.int v) :: lo.filter (fun q => !(q.1 == z) && !(q.1 + 1 == z && q.2.category == 2)) = lo') (hq : pc + 2 = pc') (kk : lc_J S X n k j Q pc' lo' st M) : lc_J S X n k j Q pc lo (.int v :: st) M := by
  subst hq
  exact fun H locs ls hG h => lv_istore C.1 C.2.1 d h hn hl (fun ls' h' => kk H locs ls' hG h')
theorem lc_lstore_n (C : lc_C X cc own n rt rm) {z : Fin 4} {v : Int64} (d : decode cc pc = .ok (.lstore_n z, 1)) (hn : (z : Nat) + 1 < n) (hl : ((z : Nat), Value.long v) :: lo.filter (fun q => !(q.1 == (z : Nat)) && (!(q.1 == (z : Nat) + 1) && !(q.1 + 1 == (z : Nat) && q.2.category == 2))) = lo') (hq : pc + 1 = pc') (kk : lc_J S X n k j Q pc' lo' st M) : lc_J S X n k j Q pc lo (.long v :: st) M := by
  subst hq
  exact fun H locs ls hG h => lv_lstore_n C.1 C.2.1 d rfl h hn hl (fun ls' h' => kk H locs ls' hG h')
theorem lc_lstore (C : lc_C X cc own n rt rm) {z : Nat} {v : Int64} (d : decode cc pc = .ok (.lstore z, 2)) (hn : z + 1 < n) (hl : (z, Value.long v) :: lo.filter (fun q => !(q.1 == z) && (!(q.1 == z + 1) && !(q.1 + 1 == z && q.2.category == 2))) = lo') (hq : pc + 2 = pc') (kk : lc_J S X n k j Q pc' lo' st M) : lc_J S X n k j Q pc lo (.long v :: st) M := by
  subst hq
  exact fun H locs ls hG h => lv_lstore C.1 C.2.1 d h hn hl (fun ls' h' => kk H locs ls' hG h')
theorem lc_astore_n (C : lc_C X cc own n rt rm) {z : Fin 4} {v : Nat} (d : decode cc pc = .ok (.astore_n z, 1)) (hn : (z : Nat) < n) (hl : ((z : Nat), Value.ref v) :: lo.filter (fun q => !(q.1 == (z : Nat)) && !(q.1 + 1 == (z : Nat) && q.2.category == 2)) = lo') (hq : pc + 1 = pc') (kk : lc_J S X n k j Q pc' lo' st M) : lc_J S X n k j Q pc lo (.ref v :: st) M := by
  subst hq
  exact fun H locs ls hG h => lv_astore_n C.1 C.2.1 d rfl h hn hl (fun ls' h' => kk H locs ls' hG h')
theorem lc_astore (C : lc_C X cc own n rt rm) {z : Nat} {v : Nat} (d : decode cc pc = .ok (.astore z, 2)) (hn : z < n) (hl : (z, Value.ref v) :: lo.filter (fun q => !(q.1 == z) && !(q.1 + 1 == z && q.2.category == 2)) = lo') (hq : pc + 2 = pc') (kk : lc_J S X n k j Q pc' lo' st M) : lc_J S X n k j Q pc lo (.ref v :: st) M := by
  subst hq
  exact fun H locs ls hG h => lv_astore C.1 C.2.1 d h hn hl (fun ls' h' => kk H locs ls' hG h')
theorem lc_iinc (C : lc_C X cc own n rt rm) {i q : Nat} {z : Int} {x v : Int32} (d : decode cc pc = .ok (.iinc i z, 3)) (hk : lo[q]? = some (i, .int x)) (hv : x + Int32.ofInt z = v) (hn : i < n) (hl : (i, Value.int v) :: lo.filter (fun q => !(q.1 == i) && !(q.1 + 1 == i && q.2.category == 2)) = lo') (hq : pc + 3 = pc') (kk : lc_J S X n k j Q pc' lo' st M) : lc_J S X n k j Q pc lo st M := by
  subst hq
  exact fun H locs ls hG h => lv_iinc C.1 C.2.1 d h hk hv hn hl (fun ls' h' => kk H locs ls' hG h')
theorem lc_iadd (C : lc_C X cc own n rt rm) {x y : Int32} (d : decode cc pc = .ok (.iadd, 1)) (hq : pc + 1 = pc') (kk : lc_J S X n k j Q pc' lo (.int (x + y) :: st) M) : lc_J S X n k j Q pc lo (.int y :: .int x :: st) M := by
  subst hq
  exact fun H locs ls hG h => lv_iadd C.1 C.2.1 d (kk H locs ls hG h)
theorem lc_isub (C : lc_C X cc own n rt rm) {x y : Int32} (d : decode cc pc = .ok (.isub, 1)) (hq : pc + 1 = pc') (kk : lc_J S X n k j Q pc' lo (.int (x - y) :: st) M) : lc_J S X n k j Q pc lo (.int y :: .int x :: st) M := by
  subst hq
  exact fun H locs ls hG h => lv_isub C.1 C.2.1 d (kk H locs ls hG h)
theorem lc_imul (C : lc_C X cc own n rt rm) {x y : Int32} (d : decode cc pc = .ok (.imul, 1)) (hq : pc + 1 = pc') (kk : lc_J S X n k j Q pc' lo (.int (x * y) :: st) M) : lc_J S X n k j Q pc lo (.int y :: .int x :: st) M := by
  subst hq
  exact fun H locs ls hG h => lv_imul C.1 C.2.1 d (kk H locs ls hG h)
theorem lc_iand (C : lc_C X cc own n rt rm) {x y : Int32} (d : decode cc pc = .ok (.iand, 1)) (hq : pc + 1 = pc') (kk : lc_J S X n k j Q pc' lo (.int (x &&& y) :: st) M) : lc_J S X n k j Q pc lo (.int y :: .int x :: st) M := by
  subst hq
  exact fun H locs ls hG h => lv_iand C.1 C.2.1 d (kk H locs ls hG h)
theorem lc_ior (C : lc_C X cc own n rt rm) {x y : Int32} (d : decode cc pc = .ok (.ior, 1)) (hq : pc + 1 = pc') (kk : lc_J S X n k j Q pc' lo (.int (x ||| y) :: st) M) : lc_J S X n k j Q pc lo (.int y :: .int x :: st) M := by
  subst hq
  exact fun H locs ls hG h => lv_ior C.1 C.2.1 d (kk H locs ls hG h)
theorem lc_idiv (C : lc_C X cc own n rt rm) {x y : Int32} (d : decode cc pc = .ok (.idiv, 1)) (hy : ¬ y = 0) (hq : pc + 1 = pc') (kk : lc_J S X n k j Q pc' lo (.int (x / y) :: st) M) : lc_J S X n k j Q pc lo (.int y :: .int x :: st) M := by
  subst hq
  exact fun H locs ls hG h => lv_idiv C.1 C.2.1 d hy (kk H locs ls hG h)
theorem lc_irem (C : lc_C X cc own n rt rm) {x y : Int32} (d : decode cc pc = .ok (.irem, 1)) (hy : ¬ y = 0) (hq : pc + 1 = pc') (kk : lc_J S X n k j Q pc' lo (.int (x - x / y * y) :: st) M) : lc_J S X n k j Q pc lo (.int y :: .int x :: st) M := by
  subst hq
  exact fun H locs ls hG h => lv_irem C.1 C.2.1 d hy (kk H locs ls hG h)
theorem lc_ineg (C : lc_C X cc own n rt rm) {x : Int32} (d : decode cc pc = .ok (.ineg, 1)) (hq : pc + 1 = pc') (kk : lc_J S X n k j Q pc' lo (.int (-x) :: st) M) : lc_J S X n k j Q pc lo (.int x :: st) M := by
  subst hq
  exact fun H locs ls hG h => lv_ineg C.1 C.2.1 d (kk H locs ls hG h)
theorem lc_ladd (C : lc_C X cc own n rt rm) {x y : Int64} (d : decode cc pc = .ok (.ladd, 1)) (hq : pc + 1 = pc') (kk : lc_J S X n k j Q pc' lo (.long (x + y) :: st) M) : lc_J S X n k j Q pc lo (.long y :: .long x :: st) M := by
  subst hq
  exact fun H locs ls hG h => lv_ladd C.1 C.2.1 d (kk H locs ls hG h)
theorem lc_lmul (C : lc_C X cc own n rt rm) {x y : Int64} (d : decode cc pc = .ok (.lmul, 1)) (hq : pc + 1 = pc') (kk : lc_J S X n k j Q pc' lo (.long (x * y) :: st) M) : lc_J S X n k j Q pc lo (.long y :: .long x :: st) M := by
  subst hq
  exact fun H locs ls hG h => lv_lmul C.1 C.2.1 d (kk H locs ls hG h)
theorem lc_land (C : lc_C X cc own n rt rm) {x y : Int64} (d : decode cc pc = .ok (.land, 1)) (hq : pc + 1 = pc') (kk : lc_J S X n k j Q pc' lo (.long (x &&& y) :: st) M) : lc_J S X n k j Q pc lo (.long y :: .long x :: st) M := by
  subst hq
  exact fun H locs ls hG h => lv_land C.1 C.2.1 d (kk H locs ls hG h)
theorem lc_lor (C : lc_C X cc own n rt rm) {x y : Int64} (d : decode cc pc = .ok (.lor, 1)) (hq : pc + 1 = pc') (kk : lc_J S X n k j Q pc' lo (.long (x ||| y) :: st) M) : lc_J S X n k j Q pc lo (.long y :: .long x :: st) M := by
  subst hq
  exact fun H locs ls hG h => lv_lor C.1 C.2.1 d (kk H locs ls hG h)
theorem lc_ldiv (C : lc_C X cc own n rt rm) {x y : Int64} (d : decode cc pc = .ok (.ldiv, 1)) (hy : ¬ y = 0) (hq : pc + 1 = pc') (kk : lc_J S X n k j Q pc' lo (.long (x / y) :: st) M) : lc_J S X n k j Q pc lo (.long y :: .long x :: st) M := by
  subst hq
  exact fun H locs ls hG h => lv_ldiv C.1 C.2.1 d hy (kk H locs ls hG h)
theorem lc_lrem (C : lc_C X cc own n rt rm) {x y : Int64} (d : decode cc pc = .ok (.lrem, 1)) (hy : ¬ y = 0) (hq : pc + 1 = pc') (kk : lc_J S X n k j Q pc' lo (.long (x - x / y * y) :: st) M) : lc_J S X n k j Q pc lo (.long y :: .long x :: st) M := by
  subst hq
  exact fun H locs ls hG h => lv_lrem C.1 C.2.1 d hy (kk H locs ls hG h)
theorem lc_i2l (C : lc_C X cc own n rt rm) {x : Int32} (d : decode cc pc = .ok (.i2l, 1)) (hq : pc + 1 = pc') (kk : lc_J S X n k j Q pc' lo (.long x.toInt64 :: st) M) : lc_J S X n k j Q pc lo (.int x :: st) M := by
  subst hq
  exact fun H locs ls hG h => lv_i2l C.1 C.2.1 d rfl (kk H locs ls hG h)
theorem lc_l2i (C : lc_C X cc own n rt rm) {x : Int64} (d : decode cc pc = .ok (.l2i, 1)) (hq : pc + 1 = pc') (kk : lc_J S X n k j Q pc' lo (.int x.toInt32 :: st) M) : lc_J S X n k j Q pc lo (.long x :: st) M := by
  subst hq
  exact fun H locs ls hG h => lv_l2i C.1 C.2.1 d rfl (kk H locs ls hG h)
theorem lc_i2c (C : lc_C X cc own n rt rm) {x : Int32} (d : decode cc pc = .ok (.i2c, 1)) (hq : pc + 1 = pc') (kk : lc_J S X n k j Q pc' lo (.int (x.toUInt32 % 65536).toInt32 :: st) M) : lc_J S X n k j Q pc lo (.int x :: st) M := by
  subst hq
  exact fun H locs ls hG h => lv_i2c C.1 C.2.1 d rfl (kk H locs ls hG h)
theorem lc_dup (C : lc_C X cc own n rt rm) {v : Value} (d : decode cc pc = .ok (.dup, 1)) (hc : v.category = 1) (hq : pc + 1 = pc') (kk : lc_J S X n k j Q pc' lo (v :: v :: st) M) : lc_J S X n k j Q pc lo (v :: st) M := by
  subst hq
  exact fun H locs ls hG h => lv_dup C.1 C.2.1 d hc (kk H locs ls hG h)
theorem lc_pop (C : lc_C X cc own n rt rm) {v : Value} (d : decode cc pc = .ok (.pop, 1)) (hc : v.category = 1) (hq : pc + 1 = pc') (kk : lc_J S X n k j Q pc' lo (st) M) : lc_J S X n k j Q pc lo (v :: st) M := by
  subst hq
  exact fun H locs ls hG h => lv_pop C.1 C.2.1 d hc (kk H locs ls hG h)
theorem lc_dup2 (C : lc_C X cc own n rt rm) {v u : Value} (d : decode cc pc = .ok (.dup2, 1)) (hc : v.category = 1) (hu : u.category = 1) (hq : pc + 1 = pc') (kk : lc_J S X n k j Q pc' lo (v :: u :: v :: u :: st) M) : lc_J S X n k j Q pc lo (v :: u :: st) M := by
  subst hq
  exact fun H locs ls hG h => lv_dup2_11 C.1 C.2.1 d hc hu (kk H locs ls hG h)
theorem lc_ishl (C : lc_C X cc own n rt rm) {x y : Int32} (d : decode cc pc = .ok (.ishl, 1)) (hq : pc + 1 = pc') (kk : lc_J S X n k j Q pc' lo (.int (x <<< (y &&& 31)) :: st) M) : lc_J S X n k j Q pc lo (.int y :: .int x :: st) M := by
  subst hq
  exact fun H locs ls hG h => lv_ishl C.1 C.2.1 d (kk H locs ls hG h)
theorem lc_ishr (C : lc_C X cc own n rt rm) {x y : Int32} (d : decode cc pc = .ok (.ishr, 1)) (hq : pc + 1 = pc') (kk : lc_J S X n k j Q pc' lo (.int (x >>> (y &&& 31)) :: st) M) : lc_J S X n k j Q pc lo (.int y :: .int x :: st) M := by
  subst hq
  exact fun H locs ls hG h => lv_ishr C.1 C.2.1 d (kk H locs ls hG h)
theorem lc_iushr (C : lc_C X cc own n rt rm) {x y : Int32} (d : decode cc pc = .ok (.iushr, 1)) (hq : pc + 1 = pc') (kk : lc_J S X n k j Q pc' lo (.int (x.toUInt32 >>> (y.toUInt32 &&& Int32.toUInt32 31)).toInt32 :: st) M) : lc_J S X n k j Q pc lo (.int y :: .int x :: st) M := by
  subst hq
  exact fun H locs ls hG h => lv_iushr C.1 C.2.1 d rfl (kk H locs ls hG h)
theorem lc_lushr (C : lc_C X cc own n rt rm) {x : Int64} {y : Int32} (d : decode cc pc = .ok (.lushr, 1)) (hq : pc + 1 = pc') (kk : lc_J S X n k j Q pc' lo (.long (x.toUInt64 >>> (y.toInt64.toUInt64 &&& Int64.toUInt64 63)).toInt64 :: st) M) : lc_J S X n k j Q pc lo (.int y :: .long x :: st) M := by
  subst hq
  exact fun H locs ls hG h => lv_lushr C.1 C.2.1 d rfl (kk H locs ls hG h)
theorem lc_lshl (C : lc_C X cc own n rt rm) {x : Int64} {y : Int32} (d : decode cc pc = .ok (.lshl, 1)) (hq : pc + 1 = pc') (kk : lc_J S X n k j Q pc' lo (.long (x <<< (y.toInt64 &&& 63)) :: st) M) : lc_J S X n k j Q pc lo (.int y :: .long x :: st) M := by
  subst hq
  exact fun H locs ls hG h => lv_lshl C.1 C.2.1 d rfl (kk H locs ls hG h)
theorem lc_lcmp (C : lc_C X cc own n rt rm) {x y : Int64} (d : decode cc pc = .ok (.lcmp, 1)) (hq : pc + 1 = pc') (kk : lc_J S X n k j Q pc' lo (.int (lg_cmp x y) :: st) M) : lc_J S X n k j Q pc lo (.long y :: .long x :: st) M := by
  subst hq
  exact fun H locs ls hG h => W.lcmp C.1 C.2.1 d (kk H locs ls hG h)
theorem lc_if_eq (C : lc_C X cc own n rt rm) {x : Int32} {off : Int} {tgt : Nat} (d : decode cc pc = .ok (.ifCond .eq off, 3)) (ht : (pc : Int) + off = (tgt : Int)) (hq : pc + 3 = pc') (kt : x = 0 → lc_J S X n k j Q tgt lo st M) (kf : ¬ x = 0 → lc_J S X n k j Q pc' lo st M) : lc_J S X n k j Q pc lo (.int x :: st) M := by
  subst hq
  exact fun H locs ls hG h => lv_if_eq C.1 C.2.1 d ht (fun z => kt z H locs ls hG h) (fun z => kf z H locs ls hG h)
theorem lc_icmp_eq (C : lc_C X cc own n rt rm) {x y : Int32} {off : Int} {tgt : Nat} (d : decode cc pc = .ok (.if_icmp .eq off, 3)) (ht : (pc : Int) + off = (tgt : Int)) (hq : pc + 3 = pc') (kt : x = y → lc_J S X n k j Q tgt lo st M) (kf : ¬ x = y → lc_J S X n k j Q pc' lo st M) : lc_J S X n k j Q pc lo (.int y :: .int x :: st) M := by
  subst hq
  exact fun H locs ls hG h => lv_icmp_eq C.1 C.2.1 d ht (fun z => kt z H locs ls hG h) (fun z => kf z H locs ls hG h)
theorem lc_if_ne (C : lc_C X cc own n rt rm) {x : Int32} {off : Int} {tgt : Nat} (d : decode cc pc = .ok (.ifCond .ne off, 3)) (ht : (pc : Int) + off = (tgt : Int)) (hq : pc + 3 = pc') (kt : ¬ x = 0 → lc_J S X n k j Q tgt lo st M) (kf : x = 0 → lc_J S X n k j Q pc' lo st M) : lc_J S X n k j Q pc lo (.int x :: st) M := by
  subst hq
  exact fun H locs ls hG h => lv_if_ne C.1 C.2.1 d ht (fun z => kt z H locs ls hG h) (fun z => kf z H locs ls hG h)
theorem lc_icmp_ne (C : lc_C X cc own n rt rm) {x y : Int32} {off : Int} {tgt : Nat} (d : decode cc pc = .ok (.if_icmp .ne off, 3)) (ht : (pc : Int) + off = (tgt : Int)) (hq : pc + 3 = pc') (kt : ¬ x = y → lc_J S X n k j Q tgt lo st M) (kf : x = y → lc_J S X n k j Q pc' lo st M) : lc_J S X n k j Q pc lo (.int y :: .int x :: st) M := by
  subst hq
  exact fun H locs ls hG h => lv_icmp_ne C.1 C.2.1 d ht (fun z => kt z H locs ls hG h) (fun z => kf z H locs ls hG h)
theorem lc_if_lt (C : lc_C X cc own n rt rm) {x : Int32} {off : Int} {tgt : Nat} (d : decode cc pc = .ok (.ifCond .lt off, 3)) (ht : (pc : Int) + off = (tgt : Int)) (hq : pc + 3 = pc') (kt : x < 0 → lc_J S X n k j Q tgt lo st M) (kf : ¬ x < 0 → lc_J S X n k j Q pc' lo st M) : lc_J S X n k j Q pc lo (.int x :: st) M := by
  subst hq
  exact fun H locs ls hG h => lv_if_lt C.1 C.2.1 d ht (fun z => kt z H locs ls hG h) (fun z => kf z H locs ls hG h)
theorem lc_icmp_lt (C : lc_C X cc own n rt rm) {x y : Int32} {off : Int} {tgt : Nat} (d : decode cc pc = .ok (.if_icmp .lt off, 3)) (ht : (pc : Int) + off = (tgt : Int)) (hq : pc + 3 = pc') (kt : x < y → lc_J S X n k j Q tgt lo st M) (kf : ¬ x < y → lc_J S X n k j Q pc' lo st M) : lc_J S X n k j Q pc lo (.int y :: .int x :: st) M := by
  subst hq
  exact fun H locs ls hG h => lv_icmp_lt C.1 C.2.1 d ht (fun z => kt z H locs ls hG h) (fun z => kf z H locs ls hG h)
theorem lc_if_ge (C : lc_C X cc own n rt rm) {x : Int32} {off : Int} {tgt : Nat} (d : decode cc pc = .ok (.ifCond .ge off, 3)) (ht : (pc : Int) + off = (tgt : Int)) (hq : pc + 3 = pc') (kt : 0 ≤ x → lc_J S X n k j Q tgt lo st M) (kf : ¬ 0 ≤ x → lc_J S X n k j Q pc' lo st M) : lc_J S X n k j Q pc lo (.int x :: st) M := by
  subst hq
  exact fun H locs ls hG h => lv_if_ge C.1 C.2.1 d ht (fun z => kt z H locs ls hG h) (fun z => kf z H locs ls hG h)
theorem lc_icmp_ge (C : lc_C X cc own n rt rm) {x y : Int32} {off : Int} {tgt : Nat} (d : decode cc pc = .ok (.if_icmp .ge off, 3)) (ht : (pc : Int) + off = (tgt : Int)) (hq : pc + 3 = pc') (kt : y ≤ x → lc_J S X n k j Q tgt lo st M) (kf : ¬ y ≤ x → lc_J S X n k j Q pc' lo st M) : lc_J S X n k j Q pc lo (.int y :: .int x :: st) M := by
  subst hq
  exact fun H locs ls hG h => lv_icmp_ge C.1 C.2.1 d ht (fun z => kt z H locs ls hG h) (fun z => kf z H locs ls hG h)
theorem lc_if_gt (C : lc_C X cc own n rt rm) {x : Int32} {off : Int} {tgt : Nat} (d : decode cc pc = .ok (.ifCond .gt off, 3)) (ht : (pc : Int) + off = (tgt : Int)) (hq : pc + 3 = pc') (kt : 0 < x → lc_J S X n k j Q tgt lo st M) (kf : ¬ 0 < x → lc_J S X n k j Q pc' lo st M) : lc_J S X n k j Q pc lo (.int x :: st) M := by
  subst hq
  exact fun H locs ls hG h => lv_if_gt C.1 C.2.1 d ht (fun z => kt z H locs ls hG h) (fun z => kf z H locs ls hG h)
theorem lc_icmp_gt (C : lc_C X cc own n rt rm) {x y : Int32} {off : Int} {tgt : Nat} (d : decode cc pc = .ok (.if_icmp .gt off, 3)) (ht : (pc : Int) + off = (tgt : Int)) (hq : pc + 3 = pc') (kt : y < x → lc_J S X n k j Q tgt lo st M) (kf : ¬ y < x → lc_J S X n k j Q pc' lo st M) : lc_J S X n k j Q pc lo (.int y :: .int x :: st) M := by
  subst hq
  exact fun H locs ls hG h => lv_icmp_gt C.1 C.2.1 d ht (fun z => kt z H locs ls hG h) (fun z => kf z H locs ls hG h)
theorem lc_if_le (C : lc_C X cc own n rt rm) {x : Int32} {off : Int} {tgt : Nat} (d : decode cc pc = .ok (.ifCond .le off, 3)) (ht : (pc : Int) + off = (tgt : Int)) (hq : pc + 3 = pc') (kt : x ≤ 0 → lc_J S X n k j Q tgt lo st M) (kf : ¬ x ≤ 0 → lc_J S X n k j Q pc' lo st M) : lc_J S X n k j Q pc lo (.int x :: st) M := by
  subst hq
  exact fun H locs ls hG h => lv_if_le C.1 C.2.1 d ht (fun z => kt z H locs ls hG h) (fun z => kf z H locs ls hG h)
theorem lc_icmp_le (C : lc_C X cc own n rt rm) {x y : Int32} {off : Int} {tgt : Nat} (d : decode cc pc = .ok (.if_icmp .le off, 3)) (ht : (pc : Int) + off = (tgt : Int)) (hq : pc + 3 = pc') (kt : x ≤ y → lc_J S X n k j Q tgt lo st M) (kf : ¬ x ≤ y → lc_J S X n k j Q pc' lo st M) : lc_J S X n k j Q pc lo (.int y :: .int x :: st) M := by
  subst hq
  exact fun H locs ls hG h => lv_icmp_le C.1 C.2.1 d ht (fun z => kt z H locs ls hG h) (fun z => kf z H locs ls hG h)
theorem lc_goto (C : lc_C X cc own n rt rm) {off : Int} {tgt : Nat} (d : decode cc pc = .ok (.goto off, 3)) (ht : (pc : Int) + off = (tgt : Int)) (kk : lc_J S X n k j Q tgt lo st M) : lc_J S X n k j Q pc lo st M := fun H locs ls hG h => lv_goto C.1 C.2.1 d ht (kk H locs ls hG h)
theorem lc_tabOut (C : lc_C X cc own n rt rm) {df lw hi : Int} {offs : Array Int} {len : Nat} {x : Int32} {tgt : Nat} (d : decode cc pc = .ok (.tableswitch df lw hi offs, len)) (hx : x.toInt < lw ∨ hi < x.toInt) (ht : (pc : Int) + df = (tgt : Int)) (kk : lc_J S X n k j Q tgt lo st M) : lc_J S X n k j Q pc lo (.int x :: st) M := fun H locs ls hG h => lv_tableOut C.1 C.2.1 d hx ht (kk H locs ls hG h)
theorem lc_tabIn (C : lc_C X cc own n rt rm) {df lw hi off : Int} {offs : Array Int} {len : Nat} {x : Int32} {tgt : Nat} (d : decode cc pc = .ok (.tableswitch df lw hi offs, len)) (z : Int) (hx : x.toInt = z) (h1 : ¬ z < lw) (h2 : ¬ hi < z) (ho : offs[(z - lw).toNat]? = some off) (ht : (pc : Int) + off = (tgt : Int)) (kk : lc_J S X n k j Q tgt lo st M) : lc_J S X n k j Q pc lo (.int x :: st) M := by
  subst hx
  exact fun H locs ls hG h => lv_tableIn C.1 C.2.1 d h1 h2 ho ht (kk H locs ls hG h)
theorem lc_un_b {k0 : Nat} (h : k0 < 19) : lc_un (10 * k0) = k0 := by unfold lc_un; rw [if_pos (by omega)]; omega
theorem lc_ro_b {k0 : Nat} (h : k0 < 19) : lc_ro (10 * k0) = 0 := by unfold lc_ro; rw [if_pos (by omega)]; omega
theorem lc_un_a {k0 r : Nat} (h : k0 < 19) (hr : r < 10) : lc_un (10 * k0 + r) = k0 := by unfold lc_un; rw [if_pos (by omega)]; omega
theorem lc_ro_a {k0 r : Nat} (h : k0 < 19) (hr : r < 10) : lc_ro (10 * k0 + r) = r := by unfold lc_ro; rw [if_pos (by omega)]; omega
theorem lc_el_b (S : lc_Se) {k0 : Nat} (h : k0 < 19) (g : Nat → Int32) : lc_el S (10 * k0) g = .inr (0, lc_bo S (10 * k0) g) := by unfold lc_el; rw [if_pos (by omega), if_pos (by omega)]
theorem lc_el_a (S : lc_Se) {k0 r : Nat} (h : k0 < 19) (h1 : 1 ≤ r) (h2 : r < 10) (g : Nat → Int32) : lc_el S (10 * k0 + r) g = .inl (lc_cl S 1, lc_bl r, .inl g) := by unfold lc_el; rw [if_pos (by omega), if_neg (by omega), show (10 * k0 + r) % 10 = r by omega]
theorem lc_at_b (S : lc_Se) (M : lc_MM) {k0 : Nat} (h : k0 < 19) : (lc_w S M)[10 * k0]? = some (lc_ad S (10 * k0), .inr (0, lc_bo S (10 * k0) (M k0 0))) := by
  rw [lc_w_at S M (by omega), lc_el_b S h, lc_un_b h, lc_ro_b h]
theorem lc_at_a (S : lc_Se) (M : lc_MM) {k0 r : Nat} (h : k0 < 19) (h1 : 1 ≤ r) (h2 : r < 10) : (lc_w S M)[10 * k0 + r]? = some (lc_ad S (10 * k0 + r), .inl (lc_cl S 1, lc_bl r, .inl (M k0 r))) := by
  rw [lc_w_at S M (by omega), lc_el_a S h h1 h2, lc_un_a h h2, lc_ro_a h h2]
theorem lc_st_b (S : lc_Se) (M : lc_MM) {k0 i : Nat} {v : Int32} (h : k0 < 19) : (lc_w S M).set (10 * k0) (lc_ad S (10 * k0), .inr (0, lc_bo S (10 * k0) (upd (M k0 0) i v))) = lc_w S (lc_ms M k0 0 i v) := by
  have e := lc_w_set S M (id := 10 * k0) (i := i) (v := v) (by omega)
  rw [lc_el_b S h, lc_un_b h, lc_ro_b h] at e
  exact e
theorem lc_st_a (S : lc_Se) (M : lc_MM) {k0 r i : Nat} {v : Int32} (h : k0 < 19) (h1 : 1 ≤ r) (h2 : r < 10) : (lc_w S M).set (10 * k0 + r) (lc_ad S (10 * k0 + r), .inl (lc_cl S 1, lc_bl r, .inl (upd (M k0 r) i v))) = lc_w S (lc_ms M k0 r i v) := by
  have e := lc_w_set S M (id := 10 * k0 + r) (i := i) (v := v) (by omega)
  rw [lc_el_a S h h1 h2, lc_un_a h h2, lc_ro_a h h2] at e
  exact e
theorem lc_uF {α : Type} {f : Nat → α} {a b : Nat} : (if a = b then f a else f b) = f b := by
  split <;> simp_all
theorem lc_iX0 : ∀ w ∈ u_ws RX0 TX0 18, w ∈ lc_T := fun w hw => List.mem_filter.mpr ⟨(show ∀ w ∈ u_ws RX0 TX0 18, w ∈ lw_tbl by decide +kernel) w hw, (show ∀ w ∈ u_ws RX0 TX0 18, goodWord w = true by decide +kernel) w hw⟩
theorem lc_iX1 : ∀ w ∈ u_ws RX1 TX1 3, w ∈ lc_T := fun w hw => List.mem_filter.mpr ⟨(show ∀ w ∈ u_ws RX1 TX1 3, w ∈ lw_tbl by decide +kernel) w hw, (show ∀ w ∈ u_ws RX1 TX1 3, goodWord w = true by decide +kernel) w hw⟩
theorem lc_iX2 : ∀ w ∈ u_ws RX2 TX2 3, w ∈ lc_T := fun w hw => List.mem_filter.mpr ⟨(show ∀ w ∈ u_ws RX2 TX2 3, w ∈ lw_tbl by decide +kernel) w hw, (show ∀ w ∈ u_ws RX2 TX2 3, goodWord w = true by decide +kernel) w hw⟩
theorem lc_iX3 : ∀ w ∈ u_ws RX3 TX3 7, w ∈ lc_T := fun w hw => List.mem_filter.mpr ⟨(show ∀ w ∈ u_ws RX3 TX3 7, w ∈ lw_tbl by decide +kernel) w hw, (show ∀ w ∈ u_ws RX3 TX3 7, goodWord w = true by decide +kernel) w hw⟩
theorem lc_iX4 : ∀ w ∈ u_ws RX4 TX4 15, w ∈ lc_T := fun w hw => List.mem_filter.mpr ⟨(show ∀ w ∈ u_ws RX4 TX4 15, w ∈ lw_tbl by decide +kernel) w hw, (show ∀ w ∈ u_ws RX4 TX4 15, goodWord w = true by decide +kernel) w hw⟩
theorem lc_bg0 (C : lc_C X cc own n rt rm) {ix k0 : Nat} {s : lc_St} (hk : k0 < 19) (hs : M k0 = s) (d : decode cc pc = .ok (.getfield ix, 3)) (hw : Cond.fieldLink own ix RX0 "cellCount" "I" ∈ lc_T) (hq : pc + 3 = pc') (kk : lc_J S X n k j Q pc' lo (.int (s 0 0) :: st) M) : lc_J S X n k j Q pc lo (.ref (lc_ad S (10 * k0)) :: st) M := by
  subst hq; subst hs
  exact fun H locs ls hG h => va_get C.1 C.2.1 C.2.2.2.2.1 lc_iX0 C.2.2.2.1 hG.1 hG.2.1 (10 * k0) (lc_at_b S M hk) rfl 9 (by decide) (C.2.2.2.2.1 _ hw) (fun _ h9 => h9) rfl d (kk H locs ls hG h)
theorem lc_bp0 (C : lc_C X cc own n rt rm) {ix k0 : Nat} {v : Int32} {s s' : lc_St} (hk : k0 < 19) (hs : M k0 = s) (hs' : lc_ss s 0 0 v = s') (hM : va_up M k0 s' = M') (d : decode cc pc = .ok (.putfield ix, 3)) (hw : Cond.fieldLink own ix RX0 "cellCount" "I" ∈ lc_T) (hq : pc + 3 = pc') (kk : lc_J S X n k j Q pc' lo st M') : lc_J S X n k j Q pc lo (.int v :: .ref (lc_ad S (10 * k0)) :: st) M := by
  subst hq; subst hs; subst hs'; subst hM
  exact fun H locs ls hG h => va_put (v := .int v) C.1 C.2.1 C.2.2.2.2.1 lc_iX0 tyX0 tyX0_ok nmX0 C.2.2.2.1 hG.1 hG.2.1 hG.2.2.1 hG.2.2.2.1 (10 * k0) (lc_at_b S M hk) rfl 9 (by decide) (C.2.2.2.2.1 _ hw) (fun _ h9 => h9) rfl (tyX0_ok 9 (by decide)) rfl rfl (Nat.le_of_ble_eq_true rfl) d (fun H1 l1 p1 p2 p3 => kk H1 l1 ls ⟨hG.1, lc_st_b S M (i := 0) (v := v) hk ▸ p1, lc_st_b S M (i := 0) (v := v) hk ▸ p2, p3, hG.2.2.2.2⟩ h)
theorem lc_bg1 (C : lc_C X cc own n rt rm) {ix k0 : Nat} {s : lc_St} (hk : k0 < 19) (hs : M k0 = s) (d : decode cc pc = .ok (.getfield ix, 3)) (hw : Cond.fieldLink own ix RX0 "loanCount" "I" ∈ lc_T) (hq : pc + 3 = pc') (kk : lc_J S X n k j Q pc' lo (.int (s 0 1) :: st) M) : lc_J S X n k j Q pc lo (.ref (lc_ad S (10 * k0)) :: st) M := by
  subst hq; subst hs
  exact fun H locs ls hG h => va_get C.1 C.2.1 C.2.2.2.2.1 lc_iX0 C.2.2.2.1 hG.1 hG.2.1 (10 * k0) (lc_at_b S M hk) rfl 10 (by decide) (C.2.2.2.2.1 _ hw) (fun _ h9 => h9) rfl d (kk H locs ls hG h)
theorem lc_bp1 (C : lc_C X cc own n rt rm) {ix k0 : Nat} {v : Int32} {s s' : lc_St} (hk : k0 < 19) (hs : M k0 = s) (hs' : lc_ss s 0 1 v = s') (hM : va_up M k0 s' = M') (d : decode cc pc = .ok (.putfield ix, 3)) (hw : Cond.fieldLink own ix RX0 "loanCount" "I" ∈ lc_T) (hq : pc + 3 = pc') (kk : lc_J S X n k j Q pc' lo st M') : lc_J S X n k j Q pc lo (.int v :: .ref (lc_ad S (10 * k0)) :: st) M := by
  subst hq; subst hs; subst hs'; subst hM
  exact fun H locs ls hG h => va_put (v := .int v) C.1 C.2.1 C.2.2.2.2.1 lc_iX0 tyX0 tyX0_ok nmX0 C.2.2.2.1 hG.1 hG.2.1 hG.2.2.1 hG.2.2.2.1 (10 * k0) (lc_at_b S M hk) rfl 10 (by decide) (C.2.2.2.2.1 _ hw) (fun _ h9 => h9) rfl (tyX0_ok 10 (by decide)) rfl rfl (Nat.le_of_ble_eq_true rfl) d (fun H1 l1 p1 p2 p3 => kk H1 l1 ls ⟨hG.1, lc_st_b S M (i := 1) (v := v) hk ▸ p1, lc_st_b S M (i := 1) (v := v) hk ▸ p2, p3, hG.2.2.2.2⟩ h)
theorem lc_bg2 (C : lc_C X cc own n rt rm) {ix k0 : Nat} {s : lc_St} (hk : k0 < 19) (hs : M k0 = s) (d : decode cc pc = .ok (.getfield ix, 3)) (hw : Cond.fieldLink own ix RX0 "rounds" "I" ∈ lc_T) (hq : pc + 3 = pc') (kk : lc_J S X n k j Q pc' lo (.int (s 0 2) :: st) M) : lc_J S X n k j Q pc lo (.ref (lc_ad S (10 * k0)) :: st) M := by
  subst hq; subst hs
  exact fun H locs ls hG h => va_get C.1 C.2.1 C.2.2.2.2.1 lc_iX0 C.2.2.2.1 hG.1 hG.2.1 (10 * k0) (lc_at_b S M hk) rfl 11 (by decide) (C.2.2.2.2.1 _ hw) (fun _ h9 => h9) rfl d (kk H locs ls hG h)
theorem lc_bp2 (C : lc_C X cc own n rt rm) {ix k0 : Nat} {v : Int32} {s s' : lc_St} (hk : k0 < 19) (hs : M k0 = s) (hs' : lc_ss s 0 2 v = s') (hM : va_up M k0 s' = M') (d : decode cc pc = .ok (.putfield ix, 3)) (hw : Cond.fieldLink own ix RX0 "rounds" "I" ∈ lc_T) (hq : pc + 3 = pc') (kk : lc_J S X n k j Q pc' lo st M') : lc_J S X n k j Q pc lo (.int v :: .ref (lc_ad S (10 * k0)) :: st) M := by
  subst hq; subst hs; subst hs'; subst hM
  exact fun H locs ls hG h => va_put (v := .int v) C.1 C.2.1 C.2.2.2.2.1 lc_iX0 tyX0 tyX0_ok nmX0 C.2.2.2.1 hG.1 hG.2.1 hG.2.2.1 hG.2.2.2.1 (10 * k0) (lc_at_b S M hk) rfl 11 (by decide) (C.2.2.2.2.1 _ hw) (fun _ h9 => h9) rfl (tyX0_ok 11 (by decide)) rfl rfl (Nat.le_of_ble_eq_true rfl) d (fun H1 l1 p1 p2 p3 => kk H1 l1 ls ⟨hG.1, lc_st_b S M (i := 2) (v := v) hk ▸ p1, lc_st_b S M (i := 2) (v := v) hk ▸ p2, p3, hG.2.2.2.2⟩ h)
theorem lc_bg3 (C : lc_C X cc own n rt rm) {ix k0 : Nat} {s : lc_St} (hk : k0 < 19) (hs : M k0 = s) (d : decode cc pc = .ok (.getfield ix, 3)) (hw : Cond.fieldLink own ix RX0 "putIn" "I" ∈ lc_T) (hq : pc + 3 = pc') (kk : lc_J S X n k j Q pc' lo (.int (s 0 3) :: st) M) : lc_J S X n k j Q pc lo (.ref (lc_ad S (10 * k0)) :: st) M := by
  subst hq; subst hs
  exact fun H locs ls hG h => va_get C.1 C.2.1 C.2.2.2.2.1 lc_iX0 C.2.2.2.1 hG.1 hG.2.1 (10 * k0) (lc_at_b S M hk) rfl 12 (by decide) (C.2.2.2.2.1 _ hw) (fun _ h9 => h9) rfl d (kk H locs ls hG h)
theorem lc_bp3 (C : lc_C X cc own n rt rm) {ix k0 : Nat} {v : Int32} {s s' : lc_St} (hk : k0 < 19) (hs : M k0 = s) (hs' : lc_ss s 0 3 v = s') (hM : va_up M k0 s' = M') (d : decode cc pc = .ok (.putfield ix, 3)) (hw : Cond.fieldLink own ix RX0 "putIn" "I" ∈ lc_T) (hq : pc + 3 = pc') (kk : lc_J S X n k j Q pc' lo st M') : lc_J S X n k j Q pc lo (.int v :: .ref (lc_ad S (10 * k0)) :: st) M := by
  subst hq; subst hs; subst hs'; subst hM
  exact fun H locs ls hG h => va_put (v := .int v) C.1 C.2.1 C.2.2.2.2.1 lc_iX0 tyX0 tyX0_ok nmX0 C.2.2.2.1 hG.1 hG.2.1 hG.2.2.1 hG.2.2.2.1 (10 * k0) (lc_at_b S M hk) rfl 12 (by decide) (C.2.2.2.2.1 _ hw) (fun _ h9 => h9) rfl (tyX0_ok 12 (by decide)) rfl rfl (Nat.le_of_ble_eq_true rfl) d (fun H1 l1 p1 p2 p3 => kk H1 l1 ls ⟨hG.1, lc_st_b S M (i := 3) (v := v) hk ▸ p1, lc_st_b S M (i := 3) (v := v) hk ▸ p2, p3, hG.2.2.2.2⟩ h)
theorem lc_bg4 (C : lc_C X cc own n rt rm) {ix k0 : Nat} {s : lc_St} (hk : k0 < 19) (hs : M k0 = s) (d : decode cc pc = .ok (.getfield ix, 3)) (hw : Cond.fieldLink own ix RX0 "used" "I" ∈ lc_T) (hq : pc + 3 = pc') (kk : lc_J S X n k j Q pc' lo (.int (s 0 4) :: st) M) : lc_J S X n k j Q pc lo (.ref (lc_ad S (10 * k0)) :: st) M := by
  subst hq; subst hs
  exact fun H locs ls hG h => va_get C.1 C.2.1 C.2.2.2.2.1 lc_iX0 C.2.2.2.1 hG.1 hG.2.1 (10 * k0) (lc_at_b S M hk) rfl 13 (by decide) (C.2.2.2.2.1 _ hw) (fun _ h9 => h9) rfl d (kk H locs ls hG h)
theorem lc_bp4 (C : lc_C X cc own n rt rm) {ix k0 : Nat} {v : Int32} {s s' : lc_St} (hk : k0 < 19) (hs : M k0 = s) (hs' : lc_ss s 0 4 v = s') (hM : va_up M k0 s' = M') (d : decode cc pc = .ok (.putfield ix, 3)) (hw : Cond.fieldLink own ix RX0 "used" "I" ∈ lc_T) (hq : pc + 3 = pc') (kk : lc_J S X n k j Q pc' lo st M') : lc_J S X n k j Q pc lo (.int v :: .ref (lc_ad S (10 * k0)) :: st) M := by
  subst hq; subst hs; subst hs'; subst hM
  exact fun H locs ls hG h => va_put (v := .int v) C.1 C.2.1 C.2.2.2.2.1 lc_iX0 tyX0 tyX0_ok nmX0 C.2.2.2.1 hG.1 hG.2.1 hG.2.2.1 hG.2.2.2.1 (10 * k0) (lc_at_b S M hk) rfl 13 (by decide) (C.2.2.2.2.1 _ hw) (fun _ h9 => h9) rfl (tyX0_ok 13 (by decide)) rfl rfl (Nat.le_of_ble_eq_true rfl) d (fun H1 l1 p1 p2 p3 => kk H1 l1 ls ⟨hG.1, lc_st_b S M (i := 4) (v := v) hk ▸ p1, lc_st_b S M (i := 4) (v := v) hk ▸ p2, p3, hG.2.2.2.2⟩ h)
theorem lc_bg5 (C : lc_C X cc own n rt rm) {ix k0 : Nat} {s : lc_St} (hk : k0 < 19) (hs : M k0 = s) (d : decode cc pc = .ok (.getfield ix, 3)) (hw : Cond.fieldLink own ix RX0 "heat" "I" ∈ lc_T) (hq : pc + 3 = pc') (kk : lc_J S X n k j Q pc' lo (.int (s 0 5) :: st) M) : lc_J S X n k j Q pc lo (.ref (lc_ad S (10 * k0)) :: st) M := by
  subst hq; subst hs
  exact fun H locs ls hG h => va_get C.1 C.2.1 C.2.2.2.2.1 lc_iX0 C.2.2.2.1 hG.1 hG.2.1 (10 * k0) (lc_at_b S M hk) rfl 14 (by decide) (C.2.2.2.2.1 _ hw) (fun _ h9 => h9) rfl d (kk H locs ls hG h)
theorem lc_bp5 (C : lc_C X cc own n rt rm) {ix k0 : Nat} {v : Int32} {s s' : lc_St} (hk : k0 < 19) (hs : M k0 = s) (hs' : lc_ss s 0 5 v = s') (hM : va_up M k0 s' = M') (d : decode cc pc = .ok (.putfield ix, 3)) (hw : Cond.fieldLink own ix RX0 "heat" "I" ∈ lc_T) (hq : pc + 3 = pc') (kk : lc_J S X n k j Q pc' lo st M') : lc_J S X n k j Q pc lo (.int v :: .ref (lc_ad S (10 * k0)) :: st) M := by
  subst hq; subst hs; subst hs'; subst hM
  exact fun H locs ls hG h => va_put (v := .int v) C.1 C.2.1 C.2.2.2.2.1 lc_iX0 tyX0 tyX0_ok nmX0 C.2.2.2.1 hG.1 hG.2.1 hG.2.2.1 hG.2.2.2.1 (10 * k0) (lc_at_b S M hk) rfl 14 (by decide) (C.2.2.2.2.1 _ hw) (fun _ h9 => h9) rfl (tyX0_ok 14 (by decide)) rfl rfl (Nat.le_of_ble_eq_true rfl) d (fun H1 l1 p1 p2 p3 => kk H1 l1 ls ⟨hG.1, lc_st_b S M (i := 5) (v := v) hk ▸ p1, lc_st_b S M (i := 5) (v := v) hk ▸ p2, p3, hG.2.2.2.2⟩ h)
theorem lc_bg6 (C : lc_C X cc own n rt rm) {ix k0 : Nat} {s : lc_St} (hk : k0 < 19) (hs : M k0 = s) (d : decode cc pc = .ok (.getfield ix, 3)) (hw : Cond.fieldLink own ix RX0 "writtenOff" "I" ∈ lc_T) (hq : pc + 3 = pc') (kk : lc_J S X n k j Q pc' lo (.int (s 0 6) :: st) M) : lc_J S X n k j Q pc lo (.ref (lc_ad S (10 * k0)) :: st) M := by
  subst hq; subst hs
  exact fun H locs ls hG h => va_get C.1 C.2.1 C.2.2.2.2.1 lc_iX0 C.2.2.2.1 hG.1 hG.2.1 (10 * k0) (lc_at_b S M hk) rfl 15 (by decide) (C.2.2.2.2.1 _ hw) (fun _ h9 => h9) rfl d (kk H locs ls hG h)
theorem lc_bp6 (C : lc_C X cc own n rt rm) {ix k0 : Nat} {v : Int32} {s s' : lc_St} (hk : k0 < 19) (hs : M k0 = s) (hs' : lc_ss s 0 6 v = s') (hM : va_up M k0 s' = M') (d : decode cc pc = .ok (.putfield ix, 3)) (hw : Cond.fieldLink own ix RX0 "writtenOff" "I" ∈ lc_T) (hq : pc + 3 = pc') (kk : lc_J S X n k j Q pc' lo st M') : lc_J S X n k j Q pc lo (.int v :: .ref (lc_ad S (10 * k0)) :: st) M := by
  subst hq; subst hs; subst hs'; subst hM
  exact fun H locs ls hG h => va_put (v := .int v) C.1 C.2.1 C.2.2.2.2.1 lc_iX0 tyX0 tyX0_ok nmX0 C.2.2.2.1 hG.1 hG.2.1 hG.2.2.1 hG.2.2.2.1 (10 * k0) (lc_at_b S M hk) rfl 15 (by decide) (C.2.2.2.2.1 _ hw) (fun _ h9 => h9) rfl (tyX0_ok 15 (by decide)) rfl rfl (Nat.le_of_ble_eq_true rfl) d (fun H1 l1 p1 p2 p3 => kk H1 l1 ls ⟨hG.1, lc_st_b S M (i := 6) (v := v) hk ▸ p1, lc_st_b S M (i := 6) (v := v) hk ▸ p2, p3, hG.2.2.2.2⟩ h)
theorem lc_bg7 (C : lc_C X cc own n rt rm) {ix k0 : Nat} {s : lc_St} (hk : k0 < 19) (hs : M k0 = s) (d : decode cc pc = .ok (.getfield ix, 3)) (hw : Cond.fieldLink own ix RX0 "watchedLoan" "I" ∈ lc_T) (hq : pc + 3 = pc') (kk : lc_J S X n k j Q pc' lo (.int (s 0 7) :: st) M) : lc_J S X n k j Q pc lo (.ref (lc_ad S (10 * k0)) :: st) M := by
  subst hq; subst hs
  exact fun H locs ls hG h => va_get C.1 C.2.1 C.2.2.2.2.1 lc_iX0 C.2.2.2.1 hG.1 hG.2.1 (10 * k0) (lc_at_b S M hk) rfl 16 (by decide) (C.2.2.2.2.1 _ hw) (fun _ h9 => h9) rfl d (kk H locs ls hG h)
theorem lc_bp7 (C : lc_C X cc own n rt rm) {ix k0 : Nat} {v : Int32} {s s' : lc_St} (hk : k0 < 19) (hs : M k0 = s) (hs' : lc_ss s 0 7 v = s') (hM : va_up M k0 s' = M') (d : decode cc pc = .ok (.putfield ix, 3)) (hw : Cond.fieldLink own ix RX0 "watchedLoan" "I" ∈ lc_T) (hq : pc + 3 = pc') (kk : lc_J S X n k j Q pc' lo st M') : lc_J S X n k j Q pc lo (.int v :: .ref (lc_ad S (10 * k0)) :: st) M := by
  subst hq; subst hs; subst hs'; subst hM
  exact fun H locs ls hG h => va_put (v := .int v) C.1 C.2.1 C.2.2.2.2.1 lc_iX0 tyX0 tyX0_ok nmX0 C.2.2.2.1 hG.1 hG.2.1 hG.2.2.1 hG.2.2.2.1 (10 * k0) (lc_at_b S M hk) rfl 16 (by decide) (C.2.2.2.2.1 _ hw) (fun _ h9 => h9) rfl (tyX0_ok 16 (by decide)) rfl rfl (Nat.le_of_ble_eq_true rfl) d (fun H1 l1 p1 p2 p3 => kk H1 l1 ls ⟨hG.1, lc_st_b S M (i := 7) (v := v) hk ▸ p1, lc_st_b S M (i := 7) (v := v) hk ▸ p2, p3, hG.2.2.2.2⟩ h)
theorem lc_bg8 (C : lc_C X cc own n rt rm) {ix k0 : Nat} {s : lc_St} (hk : k0 < 19) (hs : M k0 = s) (d : decode cc pc = .ok (.getfield ix, 3)) (hw : Cond.fieldLink own ix RX0 "watchedBurn" "I" ∈ lc_T) (hq : pc + 3 = pc') (kk : lc_J S X n k j Q pc' lo (.int (s 0 8) :: st) M) : lc_J S X n k j Q pc lo (.ref (lc_ad S (10 * k0)) :: st) M := by
  subst hq; subst hs
  exact fun H locs ls hG h => va_get C.1 C.2.1 C.2.2.2.2.1 lc_iX0 C.2.2.2.1 hG.1 hG.2.1 (10 * k0) (lc_at_b S M hk) rfl 17 (by decide) (C.2.2.2.2.1 _ hw) (fun _ h9 => h9) rfl d (kk H locs ls hG h)
theorem lc_bp8 (C : lc_C X cc own n rt rm) {ix k0 : Nat} {v : Int32} {s s' : lc_St} (hk : k0 < 19) (hs : M k0 = s) (hs' : lc_ss s 0 8 v = s') (hM : va_up M k0 s' = M') (d : decode cc pc = .ok (.putfield ix, 3)) (hw : Cond.fieldLink own ix RX0 "watchedBurn" "I" ∈ lc_T) (hq : pc + 3 = pc') (kk : lc_J S X n k j Q pc' lo st M') : lc_J S X n k j Q pc lo (.int v :: .ref (lc_ad S (10 * k0)) :: st) M := by
  subst hq; subst hs; subst hs'; subst hM
  exact fun H locs ls hG h => va_put (v := .int v) C.1 C.2.1 C.2.2.2.2.1 lc_iX0 tyX0 tyX0_ok nmX0 C.2.2.2.1 hG.1 hG.2.1 hG.2.2.1 hG.2.2.2.1 (10 * k0) (lc_at_b S M hk) rfl 17 (by decide) (C.2.2.2.2.1 _ hw) (fun _ h9 => h9) rfl (tyX0_ok 17 (by decide)) rfl rfl (Nat.le_of_ble_eq_true rfl) d (fun H1 l1 p1 p2 p3 => kk H1 l1 ls ⟨hG.1, lc_st_b S M (i := 8) (v := v) hk ▸ p1, lc_st_b S M (i := 8) (v := v) hk ▸ p2, p3, hG.2.2.2.2⟩ h)
theorem lc_br0 (C : lc_C X cc own n rt rm) {ix k0 : Nat} (hk : k0 < 19) (d : decode cc pc = .ok (.getfield ix, 3)) (hw : Cond.fieldLink own ix RX0 "capacities" "[I" ∈ lc_T) (hq : pc + 3 = pc') (kk : lc_J S X n k j Q pc' lo (.ref (lc_ad S (10 * k0 + 1)) :: st) M) : lc_J S X n k j Q pc lo (.ref (lc_ad S (10 * k0)) :: st) M := by
  subst hq
  exact fun H locs ls hG h => va_get C.1 C.2.1 C.2.2.2.2.1 lc_iX0 C.2.2.2.1 hG.1 hG.2.1 (10 * k0) (lc_at_b S M hk) rfl 0 (by decide) (C.2.2.2.2.1 _ hw) (fun _ h9 => h9) rfl d (kk H locs ls hG h)
theorem lc_br1 (C : lc_C X cc own n rt rm) {ix k0 : Nat} (hk : k0 < 19) (d : decode cc pc = .ok (.getfield ix, 3)) (hw : Cond.fieldLink own ix RX0 "charges" "[I" ∈ lc_T) (hq : pc + 3 = pc') (kk : lc_J S X n k j Q pc' lo (.ref (lc_ad S (10 * k0 + 2)) :: st) M) : lc_J S X n k j Q pc lo (.ref (lc_ad S (10 * k0)) :: st) M := by
  subst hq
  exact fun H locs ls hG h => va_get C.1 C.2.1 C.2.2.2.2.1 lc_iX0 C.2.2.2.1 hG.1 hG.2.1 (10 * k0) (lc_at_b S M hk) rfl 1 (by decide) (C.2.2.2.2.1 _ hw) (fun _ h9 => h9) rfl d (kk H locs ls hG h)
theorem lc_br2 (C : lc_C X cc own n rt rm) {ix k0 : Nat} (hk : k0 < 19) (d : decode cc pc = .ok (.getfield ix, 3)) (hw : Cond.fieldLink own ix RX0 "leaks" "[I" ∈ lc_T) (hq : pc + 3 = pc') (kk : lc_J S X n k j Q pc' lo (.ref (lc_ad S (10 * k0 + 3)) :: st) M) : lc_J S X n k j Q pc lo (.ref (lc_ad S (10 * k0)) :: st) M := by
  subst hq
  exact fun H locs ls hG h => va_get C.1 C.2.1 C.2.2.2.2.1 lc_iX0 C.2.2.2.1 hG.1 hG.2.1 (10 * k0) (lc_at_b S M hk) rfl 2 (by decide) (C.2.2.2.2.1 _ hw) (fun _ h9 => h9) rfl d (kk H locs ls hG h)
theorem lc_br3 (C : lc_C X cc own n rt rm) {ix k0 : Nat} (hk : k0 < 19) (d : decode cc pc = .ok (.getfield ix, 3)) (hw : Cond.fieldLink own ix RX0 "lateRounds" "[I" ∈ lc_T) (hq : pc + 3 = pc') (kk : lc_J S X n k j Q pc' lo (.ref (lc_ad S (10 * k0 + 4)) :: st) M) : lc_J S X n k j Q pc lo (.ref (lc_ad S (10 * k0)) :: st) M := by
  subst hq
  exact fun H locs ls hG h => va_get C.1 C.2.1 C.2.2.2.2.1 lc_iX0 C.2.2.2.1 hG.1 hG.2.1 (10 * k0) (lc_at_b S M hk) rfl 3 (by decide) (C.2.2.2.2.1 _ hw) (fun _ h9 => h9) rfl d (kk H locs ls hG h)
theorem lc_br4 (C : lc_C X cc own n rt rm) {ix k0 : Nat} (hk : k0 < 19) (d : decode cc pc = .ok (.getfield ix, 3)) (hw : Cond.fieldLink own ix RX0 "lenders" "[I" ∈ lc_T) (hq : pc + 3 = pc') (kk : lc_J S X n k j Q pc' lo (.ref (lc_ad S (10 * k0 + 5)) :: st) M) : lc_J S X n k j Q pc lo (.ref (lc_ad S (10 * k0)) :: st) M := by
  subst hq
  exact fun H locs ls hG h => va_get C.1 C.2.1 C.2.2.2.2.1 lc_iX0 C.2.2.2.1 hG.1 hG.2.1 (10 * k0) (lc_at_b S M hk) rfl 4 (by decide) (C.2.2.2.2.1 _ hw) (fun _ h9 => h9) rfl d (kk H locs ls hG h)
theorem lc_br5 (C : lc_C X cc own n rt rm) {ix k0 : Nat} (hk : k0 < 19) (d : decode cc pc = .ok (.getfield ix, 3)) (hw : Cond.fieldLink own ix RX0 "borrowers" "[I" ∈ lc_T) (hq : pc + 3 = pc') (kk : lc_J S X n k j Q pc' lo (.ref (lc_ad S (10 * k0 + 6)) :: st) M) : lc_J S X n k j Q pc lo (.ref (lc_ad S (10 * k0)) :: st) M := by
  subst hq
  exact fun H locs ls hG h => va_get C.1 C.2.1 C.2.2.2.2.1 lc_iX0 C.2.2.2.1 hG.1 hG.2.1 (10 * k0) (lc_at_b S M hk) rfl 5 (by decide) (C.2.2.2.2.1 _ hw) (fun _ h9 => h9) rfl d (kk H locs ls hG h)
theorem lc_br6 (C : lc_C X cc own n rt rm) {ix k0 : Nat} (hk : k0 < 19) (d : decode cc pc = .ok (.getfield ix, 3)) (hw : Cond.fieldLink own ix RX0 "owed" "[I" ∈ lc_T) (hq : pc + 3 = pc') (kk : lc_J S X n k j Q pc' lo (.ref (lc_ad S (10 * k0 + 7)) :: st) M) : lc_J S X n k j Q pc lo (.ref (lc_ad S (10 * k0)) :: st) M := by
  subst hq
  exact fun H locs ls hG h => va_get C.1 C.2.1 C.2.2.2.2.1 lc_iX0 C.2.2.2.1 hG.1 hG.2.1 (10 * k0) (lc_at_b S M hk) rfl 6 (by decide) (C.2.2.2.2.1 _ hw) (fun _ h9 => h9) rfl d (kk H locs ls hG h)
theorem lc_br7 (C : lc_C X cc own n rt rm) {ix k0 : Nat} (hk : k0 < 19) (d : decode cc pc = .ok (.getfield ix, 3)) (hw : Cond.fieldLink own ix RX0 "rates" "[I" ∈ lc_T) (hq : pc + 3 = pc') (kk : lc_J S X n k j Q pc' lo (.ref (lc_ad S (10 * k0 + 8)) :: st) M) : lc_J S X n k j Q pc lo (.ref (lc_ad S (10 * k0)) :: st) M := by
  subst hq
  exact fun H locs ls hG h => va_get C.1 C.2.1 C.2.2.2.2.1 lc_iX0 C.2.2.2.1 hG.1 hG.2.1 (10 * k0) (lc_at_b S M hk) rfl 7 (by decide) (C.2.2.2.2.1 _ hw) (fun _ h9 => h9) rfl d (kk H locs ls hG h)
theorem lc_br8 (C : lc_C X cc own n rt rm) {ix k0 : Nat} (hk : k0 < 19) (d : decode cc pc = .ok (.getfield ix, 3)) (hw : Cond.fieldLink own ix RX0 "arrived" "[I" ∈ lc_T) (hq : pc + 3 = pc') (kk : lc_J S X n k j Q pc' lo (.ref (lc_ad S (10 * k0 + 9)) :: st) M) : lc_J S X n k j Q pc lo (.ref (lc_ad S (10 * k0)) :: st) M := by
  subst hq
  exact fun H locs ls hG h => va_get C.1 C.2.1 C.2.2.2.2.1 lc_iX0 C.2.2.2.1 hG.1 hG.2.1 (10 * k0) (lc_at_b S M hk) rfl 8 (by decide) (C.2.2.2.2.1 _ hw) (fun _ h9 => h9) rfl d (kk H locs ls hG h)
theorem lc_bald (C : lc_C X cc own n rt rm) {k0 r len : Nat} {s : lc_St} {i : Int32} (hk : k0 < 19) (h1 : 1 ≤ r) (h2 : r < 10) (hs : M k0 = s) (hl : lc_bl r = len) (hi : lc_ok i len) (d : decode cc pc = .ok (.iaload, 1)) (hq : pc + 1 = pc') (kk : lc_J S X n k j Q pc' lo (.int (s r i.toNatClampNeg) :: st) M) : lc_J S X n k j Q pc lo (.int i :: .ref (lc_ad S (10 * k0 + r)) :: st) M := by
  subst hq; subst hs; subst hl
  exact fun H locs ls hG h => va_iald C.1 C.2.1 hG.1 hG.2.1 (10 * k0 + r) 1 (lc_at_a S M hk h1 h2) rfl hi d (kk H locs ls hG h)
theorem lc_bast (C : lc_C X cc own n rt rm) {k0 r len : Nat} {s s' : lc_St} {i v : Int32} (hk : k0 < 19) (h1 : 1 ≤ r) (h2 : r < 10) (hs : M k0 = s) (hl : lc_bl r = len) (hi : lc_ok i len) (hs' : lc_ss s r i.toNatClampNeg v = s') (hM : va_up M k0 s' = M') (d : decode cc pc = .ok (.iastore, 1)) (hq : pc + 1 = pc') (kk : lc_J S X n k j Q pc' lo st M') : lc_J S X n k j Q pc lo (.int v :: .int i :: .ref (lc_ad S (10 * k0 + r)) :: st) M := by
  subst hq; subst hs; subst hl; subst hs'; subst hM
  exact fun H locs ls hG h => va_iast C.1 C.2.1 hG.1 hG.2.1 hG.2.2.1 hG.2.2.2.1 (10 * k0 + r) 1 (lc_at_a S M hk h1 h2) rfl hi d (fun H1 l1 p1 p2 p3 => kk H1 l1 ls ⟨hG.1, lc_st_a S M (i := i.toNatClampNeg) (v := v) hk h1 h2 ▸ p1, lc_st_a S M (i := i.toNatClampNeg) (v := v) hk h1 h2 ▸ p2, p3, hG.2.2.2.2⟩ h)
theorem lc_at190 (S : lc_Se) (M : lc_MM) : (lc_w S M)[190]? = some (lc_ad S 190, .inr (2, [.ref (lc_ad S 191), .int (M 19 0 0), .int (M 19 0 1)])) := by
  rw [lc_w_at S M (by decide)]; rfl
theorem lc_g190_signs (C : lc_C X cc own n rt rm) {ix : Nat} {s : lc_St} (hs : M 19 = s) (d : decode cc pc = .ok (.getfield ix, 3)) (hw : Cond.fieldLink own ix RX2 "signs" "[C" ∈ lc_T) (hq : pc + 3 = pc') (kk : lc_J S X n k j Q pc' lo (.ref (lc_ad S 191) :: st) M) : lc_J S X n k j Q pc lo (.ref (lc_ad S 190) :: st) M := by
  subst hq; subst hs
  exact fun H locs ls hG h => va_get C.1 C.2.1 C.2.2.2.2.1 lc_iX2 C.2.2.2.1 hG.1 hG.2.1 190 (lc_at190 S M) rfl 0 (by decide) (C.2.2.2.2.1 _ hw) (fun _ h9 => h9) rfl d (kk H locs ls hG h)
theorem lc_g190_length (C : lc_C X cc own n rt rm) {ix : Nat} {s : lc_St} (hs : M 19 = s) (d : decode cc pc = .ok (.getfield ix, 3)) (hw : Cond.fieldLink own ix RX2 "length" "I" ∈ lc_T) (hq : pc + 3 = pc') (kk : lc_J S X n k j Q pc' lo (.int (s 0 0) :: st) M) : lc_J S X n k j Q pc lo (.ref (lc_ad S 190) :: st) M := by
  subst hq; subst hs
  exact fun H locs ls hG h => va_get C.1 C.2.1 C.2.2.2.2.1 lc_iX2 C.2.2.2.1 hG.1 hG.2.1 190 (lc_at190 S M) rfl 1 (by decide) (C.2.2.2.2.1 _ hw) (fun _ h9 => h9) rfl d (kk H locs ls hG h)
theorem lc_st190_length (S : lc_Se) (M : lc_MM) (v : Int32) : (lc_w S M).set 190 (lc_ad S 190, .inr (2, ([.ref (lc_ad S 191), .int (M 19 0 0), .int (M 19 0 1)] : List Value).set 1 (.int v))) = lc_w S (lc_ms M 19 0 0 v) := by
  have e := lc_w_set S M (id := 190) (i := 0) (v := v) (by decide)
  exact e
theorem lc_p190_length (C : lc_C X cc own n rt rm) {ix : Nat} {v : Int32} {s s' : lc_St} (hs : M 19 = s) (hs' : lc_ss s 0 0 v = s') (hM : va_up M 19 s' = M') (d : decode cc pc = .ok (.putfield ix, 3)) (hw : Cond.fieldLink own ix RX2 "length" "I" ∈ lc_T) (hq : pc + 3 = pc') (kk : lc_J S X n k j Q pc' lo st M') : lc_J S X n k j Q pc lo (.int v :: .ref (lc_ad S 190) :: st) M := by
  subst hq; subst hs; subst hs'; subst hM
  exact fun H locs ls hG h => va_put (v := .int v) C.1 C.2.1 C.2.2.2.2.1 lc_iX2 tyX2 tyX2_ok nmX2 C.2.2.2.1 hG.1 hG.2.1 hG.2.2.1 hG.2.2.2.1 190 (lc_at190 S M) rfl 1 (by decide) (C.2.2.2.2.1 _ hw) (fun _ h9 => h9) rfl (tyX2_ok 1 (by decide)) rfl rfl (Nat.le_of_ble_eq_true rfl) d (fun H1 l1 p1 p2 p3 => kk H1 l1 ls ⟨hG.1, lc_st190_length S M v ▸ p1, lc_st190_length S M v ▸ p2, p3, hG.2.2.2.2⟩ h)
theorem lc_g190_at (C : lc_C X cc own n rt rm) {ix : Nat} {s : lc_St} (hs : M 19 = s) (d : decode cc pc = .ok (.getfield ix, 3)) (hw : Cond.fieldLink own ix RX2 "at" "I" ∈ lc_T) (hq : pc + 3 = pc') (kk : lc_J S X n k j Q pc' lo (.int (s 0 1) :: st) M) : lc_J S X n k j Q pc lo (.ref (lc_ad S 190) :: st) M := by
  subst hq; subst hs
  exact fun H locs ls hG h => va_get C.1 C.2.1 C.2.2.2.2.1 lc_iX2 C.2.2.2.1 hG.1 hG.2.1 190 (lc_at190 S M) rfl 2 (by decide) (C.2.2.2.2.1 _ hw) (fun _ h9 => h9) rfl d (kk H locs ls hG h)
theorem lc_st190_at (S : lc_Se) (M : lc_MM) (v : Int32) : (lc_w S M).set 190 (lc_ad S 190, .inr (2, ([.ref (lc_ad S 191), .int (M 19 0 0), .int (M 19 0 1)] : List Value).set 2 (.int v))) = lc_w S (lc_ms M 19 0 1 v) := by
  have e := lc_w_set S M (id := 190) (i := 1) (v := v) (by decide)
  exact e
theorem lc_p190_at (C : lc_C X cc own n rt rm) {ix : Nat} {v : Int32} {s s' : lc_St} (hs : M 19 = s) (hs' : lc_ss s 0 1 v = s') (hM : va_up M 19 s' = M') (d : decode cc pc = .ok (.putfield ix, 3)) (hw : Cond.fieldLink own ix RX2 "at" "I" ∈ lc_T) (hq : pc + 3 = pc') (kk : lc_J S X n k j Q pc' lo st M') : lc_J S X n k j Q pc lo (.int v :: .ref (lc_ad S 190) :: st) M := by
  subst hq; subst hs; subst hs'; subst hM
  exact fun H locs ls hG h => va_put (v := .int v) C.1 C.2.1 C.2.2.2.2.1 lc_iX2 tyX2 tyX2_ok nmX2 C.2.2.2.1 hG.1 hG.2.1 hG.2.2.1 hG.2.2.2.1 190 (lc_at190 S M) rfl 2 (by decide) (C.2.2.2.2.1 _ hw) (fun _ h9 => h9) rfl (tyX2_ok 2 (by decide)) rfl rfl (Nat.le_of_ble_eq_true rfl) d (fun H1 l1 p1 p2 p3 => kk H1 l1 ls ⟨hG.1, lc_st190_at S M v ▸ p1, lc_st190_at S M v ▸ p2, p3, hG.2.2.2.2⟩ h)
theorem lc_at192 (S : lc_Se) (M : lc_MM) : (lc_w S M)[192]? = some (lc_ad S 192, .inr (1, [.ref (lc_ad S 193), .int (M 20 0 0), .int (M 20 0 1)])) := by
  rw [lc_w_at S M (by decide)]; rfl
theorem lc_g192_states (C : lc_C X cc own n rt rm) {ix : Nat} {s : lc_St} (hs : M 20 = s) (d : decode cc pc = .ok (.getfield ix, 3)) (hw : Cond.fieldLink own ix RX1 "states" "[LLendingCells$Battery;" ∈ lc_T) (hq : pc + 3 = pc') (kk : lc_J S X n k j Q pc' lo (.ref (lc_ad S 193) :: st) M) : lc_J S X n k j Q pc lo (.ref (lc_ad S 192) :: st) M := by
  subst hq; subst hs
  exact fun H locs ls hG h => va_get C.1 C.2.1 C.2.2.2.2.1 lc_iX1 C.2.2.2.1 hG.1 hG.2.1 192 (lc_at192 S M) rfl 0 (by decide) (C.2.2.2.2.1 _ hw) (fun _ h9 => h9) rfl d (kk H locs ls hG h)
theorem lc_g192_first (C : lc_C X cc own n rt rm) {ix : Nat} {s : lc_St} (hs : M 20 = s) (d : decode cc pc = .ok (.getfield ix, 3)) (hw : Cond.fieldLink own ix RX1 "first" "I" ∈ lc_T) (hq : pc + 3 = pc') (kk : lc_J S X n k j Q pc' lo (.int (s 0 0) :: st) M) : lc_J S X n k j Q pc lo (.ref (lc_ad S 192) :: st) M := by
  subst hq; subst hs
  exact fun H locs ls hG h => va_get C.1 C.2.1 C.2.2.2.2.1 lc_iX1 C.2.2.2.1 hG.1 hG.2.1 192 (lc_at192 S M) rfl 1 (by decide) (C.2.2.2.2.1 _ hw) (fun _ h9 => h9) rfl d (kk H locs ls hG h)
theorem lc_st192_first (S : lc_Se) (M : lc_MM) (v : Int32) : (lc_w S M).set 192 (lc_ad S 192, .inr (1, ([.ref (lc_ad S 193), .int (M 20 0 0), .int (M 20 0 1)] : List Value).set 1 (.int v))) = lc_w S (lc_ms M 20 0 0 v) := by
  have e := lc_w_set S M (id := 192) (i := 0) (v := v) (by decide)
  exact e
theorem lc_p192_first (C : lc_C X cc own n rt rm) {ix : Nat} {v : Int32} {s s' : lc_St} (hs : M 20 = s) (hs' : lc_ss s 0 0 v = s') (hM : va_up M 20 s' = M') (d : decode cc pc = .ok (.putfield ix, 3)) (hw : Cond.fieldLink own ix RX1 "first" "I" ∈ lc_T) (hq : pc + 3 = pc') (kk : lc_J S X n k j Q pc' lo st M') : lc_J S X n k j Q pc lo (.int v :: .ref (lc_ad S 192) :: st) M := by
  subst hq; subst hs; subst hs'; subst hM
  exact fun H locs ls hG h => va_put (v := .int v) C.1 C.2.1 C.2.2.2.2.1 lc_iX1 tyX1 tyX1_ok nmX1 C.2.2.2.1 hG.1 hG.2.1 hG.2.2.1 hG.2.2.2.1 192 (lc_at192 S M) rfl 1 (by decide) (C.2.2.2.2.1 _ hw) (fun _ h9 => h9) rfl (tyX1_ok 1 (by decide)) rfl rfl (Nat.le_of_ble_eq_true rfl) d (fun H1 l1 p1 p2 p3 => kk H1 l1 ls ⟨hG.1, lc_st192_first S M v ▸ p1, lc_st192_first S M v ▸ p2, p3, hG.2.2.2.2⟩ h)
theorem lc_g192_count (C : lc_C X cc own n rt rm) {ix : Nat} {s : lc_St} (hs : M 20 = s) (d : decode cc pc = .ok (.getfield ix, 3)) (hw : Cond.fieldLink own ix RX1 "count" "I" ∈ lc_T) (hq : pc + 3 = pc') (kk : lc_J S X n k j Q pc' lo (.int (s 0 1) :: st) M) : lc_J S X n k j Q pc lo (.ref (lc_ad S 192) :: st) M := by
  subst hq; subst hs
  exact fun H locs ls hG h => va_get C.1 C.2.1 C.2.2.2.2.1 lc_iX1 C.2.2.2.1 hG.1 hG.2.1 192 (lc_at192 S M) rfl 2 (by decide) (C.2.2.2.2.1 _ hw) (fun _ h9 => h9) rfl d (kk H locs ls hG h)
theorem lc_st192_count (S : lc_Se) (M : lc_MM) (v : Int32) : (lc_w S M).set 192 (lc_ad S 192, .inr (1, ([.ref (lc_ad S 193), .int (M 20 0 0), .int (M 20 0 1)] : List Value).set 2 (.int v))) = lc_w S (lc_ms M 20 0 1 v) := by
  have e := lc_w_set S M (id := 192) (i := 1) (v := v) (by decide)
  exact e
theorem lc_p192_count (C : lc_C X cc own n rt rm) {ix : Nat} {v : Int32} {s s' : lc_St} (hs : M 20 = s) (hs' : lc_ss s 0 1 v = s') (hM : va_up M 20 s' = M') (d : decode cc pc = .ok (.putfield ix, 3)) (hw : Cond.fieldLink own ix RX1 "count" "I" ∈ lc_T) (hq : pc + 3 = pc') (kk : lc_J S X n k j Q pc' lo st M') : lc_J S X n k j Q pc lo (.int v :: .ref (lc_ad S 192) :: st) M := by
  subst hq; subst hs; subst hs'; subst hM
  exact fun H locs ls hG h => va_put (v := .int v) C.1 C.2.1 C.2.2.2.2.1 lc_iX1 tyX1 tyX1_ok nmX1 C.2.2.2.1 hG.1 hG.2.1 hG.2.2.1 hG.2.2.2.1 192 (lc_at192 S M) rfl 2 (by decide) (C.2.2.2.2.1 _ hw) (fun _ h9 => h9) rfl (tyX1_ok 2 (by decide)) rfl rfl (Nat.le_of_ble_eq_true rfl) d (fun H1 l1 p1 p2 p3 => kk H1 l1 ls ⟨hG.1, lc_st192_count S M v ▸ p1, lc_st192_count S M v ▸ p2, p3, hG.2.2.2.2⟩ h)
theorem lc_at194 (S : lc_Se) (M : lc_MM) : (lc_w S M)[194]? = some (lc_ad S 194, .inr (3, [.ref (lc_ad S 190), .ref (lc_ad S 0), .ref (lc_ad S 192), .ref (lc_ad S 195), .ref (lc_ad S 196), .ref (lc_ad S 10), .ref (lc_ad S 20)])) := by
  rw [lc_w_at S M (by decide)]; rfl
theorem lc_g194_text (C : lc_C X cc own n rt rm) {ix : Nat} {s : lc_St} (hs : M 21 = s) (d : decode cc pc = .ok (.getfield ix, 3)) (hw : Cond.fieldLink own ix RX3 "text" "LLendingCells$Text;" ∈ lc_T) (hq : pc + 3 = pc') (kk : lc_J S X n k j Q pc' lo (.ref (lc_ad S 190) :: st) M) : lc_J S X n k j Q pc lo (.ref (lc_ad S 194) :: st) M := by
  subst hq; subst hs
  exact fun H locs ls hG h => va_get C.1 C.2.1 C.2.2.2.2.1 lc_iX3 C.2.2.2.1 hG.1 hG.2.1 194 (lc_at194 S M) rfl 0 (by decide) (C.2.2.2.2.1 _ hw) (fun _ h9 => h9) rfl d (kk H locs ls hG h)
theorem lc_g194_now (C : lc_C X cc own n rt rm) {ix : Nat} {s : lc_St} (hs : M 21 = s) (d : decode cc pc = .ok (.getfield ix, 3)) (hw : Cond.fieldLink own ix RX3 "now" "LLendingCells$Battery;" ∈ lc_T) (hq : pc + 3 = pc') (kk : lc_J S X n k j Q pc' lo (.ref (lc_ad S 0) :: st) M) : lc_J S X n k j Q pc lo (.ref (lc_ad S 194) :: st) M := by
  subst hq; subst hs
  exact fun H locs ls hG h => va_get C.1 C.2.1 C.2.2.2.2.1 lc_iX3 C.2.2.2.1 hG.1 hG.2.1 194 (lc_at194 S M) rfl 1 (by decide) (C.2.2.2.2.1 _ hw) (fun _ h9 => h9) rfl d (kk H locs ls hG h)
theorem lc_g194_history (C : lc_C X cc own n rt rm) {ix : Nat} {s : lc_St} (hs : M 21 = s) (d : decode cc pc = .ok (.getfield ix, 3)) (hw : Cond.fieldLink own ix RX3 "history" "LLendingCells$History;" ∈ lc_T) (hq : pc + 3 = pc') (kk : lc_J S X n k j Q pc' lo (.ref (lc_ad S 192) :: st) M) : lc_J S X n k j Q pc lo (.ref (lc_ad S 194) :: st) M := by
  subst hq; subst hs
  exact fun H locs ls hG h => va_get C.1 C.2.1 C.2.2.2.2.1 lc_iX3 C.2.2.2.1 hG.1 hG.2.1 194 (lc_at194 S M) rfl 2 (by decide) (C.2.2.2.2.1 _ hw) (fun _ h9 => h9) rfl d (kk H locs ls hG h)
theorem lc_g194_slots (C : lc_C X cc own n rt rm) {ix : Nat} {s : lc_St} (hs : M 21 = s) (d : decode cc pc = .ok (.getfield ix, 3)) (hw : Cond.fieldLink own ix RX3 "slots" "[LLendingCells$Battery;" ∈ lc_T) (hq : pc + 3 = pc') (kk : lc_J S X n k j Q pc' lo (.ref (lc_ad S 195) :: st) M) : lc_J S X n k j Q pc lo (.ref (lc_ad S 194) :: st) M := by
  subst hq; subst hs
  exact fun H locs ls hG h => va_get C.1 C.2.1 C.2.2.2.2.1 lc_iX3 C.2.2.2.1 hG.1 hG.2.1 194 (lc_at194 S M) rfl 3 (by decide) (C.2.2.2.2.1 _ hw) (fun _ h9 => h9) rfl d (kk H locs ls hG h)
theorem lc_g194_filled (C : lc_C X cc own n rt rm) {ix : Nat} {s : lc_St} (hs : M 21 = s) (d : decode cc pc = .ok (.getfield ix, 3)) (hw : Cond.fieldLink own ix RX3 "filled" "[Z" ∈ lc_T) (hq : pc + 3 = pc') (kk : lc_J S X n k j Q pc' lo (.ref (lc_ad S 196) :: st) M) : lc_J S X n k j Q pc lo (.ref (lc_ad S 194) :: st) M := by
  subst hq; subst hs
  exact fun H locs ls hG h => va_get C.1 C.2.1 C.2.2.2.2.1 lc_iX3 C.2.2.2.1 hG.1 hG.2.1 194 (lc_at194 S M) rfl 4 (by decide) (C.2.2.2.2.1 _ hw) (fun _ h9 => h9) rfl d (kk H locs ls hG h)
theorem lc_g194_trial (C : lc_C X cc own n rt rm) {ix : Nat} {s : lc_St} (hs : M 21 = s) (d : decode cc pc = .ok (.getfield ix, 3)) (hw : Cond.fieldLink own ix RX3 "trial" "LLendingCells$Battery;" ∈ lc_T) (hq : pc + 3 = pc') (kk : lc_J S X n k j Q pc' lo (.ref (lc_ad S 10) :: st) M) : lc_J S X n k j Q pc lo (.ref (lc_ad S 194) :: st) M := by
  subst hq; subst hs
  exact fun H locs ls hG h => va_get C.1 C.2.1 C.2.2.2.2.1 lc_iX3 C.2.2.2.1 hG.1 hG.2.1 194 (lc_at194 S M) rfl 5 (by decide) (C.2.2.2.2.1 _ hw) (fun _ h9 => h9) rfl d (kk H locs ls hG h)
theorem lc_g194_before (C : lc_C X cc own n rt rm) {ix : Nat} {s : lc_St} (hs : M 21 = s) (d : decode cc pc = .ok (.getfield ix, 3)) (hw : Cond.fieldLink own ix RX3 "before" "LLendingCells$Battery;" ∈ lc_T) (hq : pc + 3 = pc') (kk : lc_J S X n k j Q pc' lo (.ref (lc_ad S 20) :: st) M) : lc_J S X n k j Q pc lo (.ref (lc_ad S 194) :: st) M := by
  subst hq; subst hs
  exact fun H locs ls hG h => va_get C.1 C.2.1 C.2.2.2.2.1 lc_iX3 C.2.2.2.1 hG.1 hG.2.1 194 (lc_at194 S M) rfl 6 (by decide) (C.2.2.2.2.1 _ hw) (fun _ h9 => h9) rfl d (kk H locs ls hG h)
theorem lc_at197 (S : lc_Se) (M : lc_MM) : (lc_w S M)[197]? = some (lc_ad S 197, .inr (4, [.int (M 22 0 0), .ref (lc_ad S 198), .ref (lc_ad S 199), .ref (lc_ad S 200), .ref (lc_ad S 201), .ref (lc_ad S 202), .int (M 22 0 1), .ref (lc_ad S 203), .int (M 22 0 2), .int (M 22 0 3), .int (M 22 0 4), .ref (lc_ad S 204), .ref (lc_ad S 205), .int (M 22 0 5), .int (M 22 0 6)])) := by
  rw [lc_w_at S M (by decide)]; rfl
theorem lc_g197_thrown (C : lc_C X cc own n rt rm) {ix : Nat} {s : lc_St} (hs : M 22 = s) (d : decode cc pc = .ok (.getfield ix, 3)) (hw : Cond.fieldLink own ix RX4 "thrown" "I" ∈ lc_T) (hq : pc + 3 = pc') (kk : lc_J S X n k j Q pc' lo (.int (s 0 0) :: st) M) : lc_J S X n k j Q pc lo (.ref (lc_ad S 197) :: st) M := by
  subst hq; subst hs
  exact fun H locs ls hG h => va_get C.1 C.2.1 C.2.2.2.2.1 lc_iX4 C.2.2.2.1 hG.1 hG.2.1 197 (lc_at197 S M) rfl 0 (by decide) (C.2.2.2.2.1 _ hw) (fun _ h9 => h9) rfl d (kk H locs ls hG h)
theorem lc_st197_thrown (S : lc_Se) (M : lc_MM) (v : Int32) : (lc_w S M).set 197 (lc_ad S 197, .inr (4, ([.int (M 22 0 0), .ref (lc_ad S 198), .ref (lc_ad S 199), .ref (lc_ad S 200), .ref (lc_ad S 201), .ref (lc_ad S 202), .int (M 22 0 1), .ref (lc_ad S 203), .int (M 22 0 2), .int (M 22 0 3), .int (M 22 0 4), .ref (lc_ad S 204), .ref (lc_ad S 205), .int (M 22 0 5), .int (M 22 0 6)] : List Value).set 0 (.int v))) = lc_w S (lc_ms M 22 0 0 v) := by
  have e := lc_w_set S M (id := 197) (i := 0) (v := v) (by decide)
  exact e
theorem lc_p197_thrown (C : lc_C X cc own n rt rm) {ix : Nat} {v : Int32} {s s' : lc_St} (hs : M 22 = s) (hs' : lc_ss s 0 0 v = s') (hM : va_up M 22 s' = M') (d : decode cc pc = .ok (.putfield ix, 3)) (hw : Cond.fieldLink own ix RX4 "thrown" "I" ∈ lc_T) (hq : pc + 3 = pc') (kk : lc_J S X n k j Q pc' lo st M') : lc_J S X n k j Q pc lo (.int v :: .ref (lc_ad S 197) :: st) M := by
  subst hq; subst hs; subst hs'; subst hM
  exact fun H locs ls hG h => va_put (v := .int v) C.1 C.2.1 C.2.2.2.2.1 lc_iX4 tyX4 tyX4_ok nmX4 C.2.2.2.1 hG.1 hG.2.1 hG.2.2.1 hG.2.2.2.1 197 (lc_at197 S M) rfl 0 (by decide) (C.2.2.2.2.1 _ hw) (fun _ h9 => h9) rfl (tyX4_ok 0 (by decide)) rfl rfl (Nat.le_of_ble_eq_true rfl) d (fun H1 l1 p1 p2 p3 => kk H1 l1 ls ⟨hG.1, lc_st197_thrown S M v ▸ p1, lc_st197_thrown S M v ▸ p2, p3, hG.2.2.2.2⟩ h)
theorem lc_g197_now (C : lc_C X cc own n rt rm) {ix : Nat} {s : lc_St} (hs : M 22 = s) (d : decode cc pc = .ok (.getfield ix, 3)) (hw : Cond.fieldLink own ix RX4 "now" "[I" ∈ lc_T) (hq : pc + 3 = pc') (kk : lc_J S X n k j Q pc' lo (.ref (lc_ad S 198) :: st) M) : lc_J S X n k j Q pc lo (.ref (lc_ad S 197) :: st) M := by
  subst hq; subst hs
  exact fun H locs ls hG h => va_get C.1 C.2.1 C.2.2.2.2.1 lc_iX4 C.2.2.2.1 hG.1 hG.2.1 197 (lc_at197 S M) rfl 1 (by decide) (C.2.2.2.2.1 _ hw) (fun _ h9 => h9) rfl d (kk H locs ls hG h)
theorem lc_g197_put (C : lc_C X cc own n rt rm) {ix : Nat} {s : lc_St} (hs : M 22 = s) (d : decode cc pc = .ok (.getfield ix, 3)) (hw : Cond.fieldLink own ix RX4 "put" "[I" ∈ lc_T) (hq : pc + 3 = pc') (kk : lc_J S X n k j Q pc' lo (.ref (lc_ad S 199) :: st) M) : lc_J S X n k j Q pc lo (.ref (lc_ad S 197) :: st) M := by
  subst hq; subst hs
  exact fun H locs ls hG h => va_get C.1 C.2.1 C.2.2.2.2.1 lc_iX4 C.2.2.2.1 hG.1 hG.2.1 197 (lc_at197 S M) rfl 2 (by decide) (C.2.2.2.2.1 _ hw) (fun _ h9 => h9) rfl d (kk H locs ls hG h)
theorem lc_g197_slots (C : lc_C X cc own n rt rm) {ix : Nat} {s : lc_St} (hs : M 22 = s) (d : decode cc pc = .ok (.getfield ix, 3)) (hw : Cond.fieldLink own ix RX4 "slots" "[I" ∈ lc_T) (hq : pc + 3 = pc') (kk : lc_J S X n k j Q pc' lo (.ref (lc_ad S 200) :: st) M) : lc_J S X n k j Q pc lo (.ref (lc_ad S 197) :: st) M := by
  subst hq; subst hs
  exact fun H locs ls hG h => va_get C.1 C.2.1 C.2.2.2.2.1 lc_iX4 C.2.2.2.1 hG.1 hG.2.1 197 (lc_at197 S M) rfl 3 (by decide) (C.2.2.2.2.1 _ hw) (fun _ h9 => h9) rfl d (kk H locs ls hG h)
theorem lc_g197_isSaved (C : lc_C X cc own n rt rm) {ix : Nat} {s : lc_St} (hs : M 22 = s) (d : decode cc pc = .ok (.getfield ix, 3)) (hw : Cond.fieldLink own ix RX4 "isSaved" "[Z" ∈ lc_T) (hq : pc + 3 = pc') (kk : lc_J S X n k j Q pc' lo (.ref (lc_ad S 201) :: st) M) : lc_J S X n k j Q pc lo (.ref (lc_ad S 197) :: st) M := by
  subst hq; subst hs
  exact fun H locs ls hG h => va_get C.1 C.2.1 C.2.2.2.2.1 lc_iX4 C.2.2.2.1 hG.1 hG.2.1 197 (lc_at197 S M) rfl 4 (by decide) (C.2.2.2.2.1 _ hw) (fun _ h9 => h9) rfl d (kk H locs ls hG h)
theorem lc_g197_was (C : lc_C X cc own n rt rm) {ix : Nat} {s : lc_St} (hs : M 22 = s) (d : decode cc pc = .ok (.getfield ix, 3)) (hw : Cond.fieldLink own ix RX4 "was" "[I" ∈ lc_T) (hq : pc + 3 = pc') (kk : lc_J S X n k j Q pc' lo (.ref (lc_ad S 202) :: st) M) : lc_J S X n k j Q pc lo (.ref (lc_ad S 197) :: st) M := by
  subst hq; subst hs
  exact fun H locs ls hG h => va_get C.1 C.2.1 C.2.2.2.2.1 lc_iX4 C.2.2.2.1 hG.1 hG.2.1 197 (lc_at197 S M) rfl 5 (by decide) (C.2.2.2.2.1 _ hw) (fun _ h9 => h9) rfl d (kk H locs ls hG h)
theorem lc_g197_acts (C : lc_C X cc own n rt rm) {ix : Nat} {s : lc_St} (hs : M 22 = s) (d : decode cc pc = .ok (.getfield ix, 3)) (hw : Cond.fieldLink own ix RX4 "acts" "I" ∈ lc_T) (hq : pc + 3 = pc') (kk : lc_J S X n k j Q pc' lo (.int (s 0 1) :: st) M) : lc_J S X n k j Q pc lo (.ref (lc_ad S 197) :: st) M := by
  subst hq; subst hs
  exact fun H locs ls hG h => va_get C.1 C.2.1 C.2.2.2.2.1 lc_iX4 C.2.2.2.1 hG.1 hG.2.1 197 (lc_at197 S M) rfl 6 (by decide) (C.2.2.2.2.1 _ hw) (fun _ h9 => h9) rfl d (kk H locs ls hG h)
theorem lc_st197_acts (S : lc_Se) (M : lc_MM) (v : Int32) : (lc_w S M).set 197 (lc_ad S 197, .inr (4, ([.int (M 22 0 0), .ref (lc_ad S 198), .ref (lc_ad S 199), .ref (lc_ad S 200), .ref (lc_ad S 201), .ref (lc_ad S 202), .int (M 22 0 1), .ref (lc_ad S 203), .int (M 22 0 2), .int (M 22 0 3), .int (M 22 0 4), .ref (lc_ad S 204), .ref (lc_ad S 205), .int (M 22 0 5), .int (M 22 0 6)] : List Value).set 6 (.int v))) = lc_w S (lc_ms M 22 0 1 v) := by
  have e := lc_w_set S M (id := 197) (i := 1) (v := v) (by decide)
  exact e
theorem lc_p197_acts (C : lc_C X cc own n rt rm) {ix : Nat} {v : Int32} {s s' : lc_St} (hs : M 22 = s) (hs' : lc_ss s 0 1 v = s') (hM : va_up M 22 s' = M') (d : decode cc pc = .ok (.putfield ix, 3)) (hw : Cond.fieldLink own ix RX4 "acts" "I" ∈ lc_T) (hq : pc + 3 = pc') (kk : lc_J S X n k j Q pc' lo st M') : lc_J S X n k j Q pc lo (.int v :: .ref (lc_ad S 197) :: st) M := by
  subst hq; subst hs; subst hs'; subst hM
  exact fun H locs ls hG h => va_put (v := .int v) C.1 C.2.1 C.2.2.2.2.1 lc_iX4 tyX4 tyX4_ok nmX4 C.2.2.2.1 hG.1 hG.2.1 hG.2.2.1 hG.2.2.2.1 197 (lc_at197 S M) rfl 6 (by decide) (C.2.2.2.2.1 _ hw) (fun _ h9 => h9) rfl (tyX4_ok 6 (by decide)) rfl rfl (Nat.le_of_ble_eq_true rfl) d (fun H1 l1 p1 p2 p3 => kk H1 l1 ls ⟨hG.1, lc_st197_acts S M v ▸ p1, lc_st197_acts S M v ▸ p2, p3, hG.2.2.2.2⟩ h)
theorem lc_g197_text (C : lc_C X cc own n rt rm) {ix : Nat} {s : lc_St} (hs : M 22 = s) (d : decode cc pc = .ok (.getfield ix, 3)) (hw : Cond.fieldLink own ix RX4 "text" "[I" ∈ lc_T) (hq : pc + 3 = pc') (kk : lc_J S X n k j Q pc' lo (.ref (lc_ad S 203) :: st) M) : lc_J S X n k j Q pc lo (.ref (lc_ad S 197) :: st) M := by
  subst hq; subst hs
  exact fun H locs ls hG h => va_get C.1 C.2.1 C.2.2.2.2.1 lc_iX4 C.2.2.2.1 hG.1 hG.2.1 197 (lc_at197 S M) rfl 7 (by decide) (C.2.2.2.2.1 _ hw) (fun _ h9 => h9) rfl d (kk H locs ls hG h)
theorem lc_g197_typed (C : lc_C X cc own n rt rm) {ix : Nat} {s : lc_St} (hs : M 22 = s) (d : decode cc pc = .ok (.getfield ix, 3)) (hw : Cond.fieldLink own ix RX4 "typed" "I" ∈ lc_T) (hq : pc + 3 = pc') (kk : lc_J S X n k j Q pc' lo (.int (s 0 2) :: st) M) : lc_J S X n k j Q pc lo (.ref (lc_ad S 197) :: st) M := by
  subst hq; subst hs
  exact fun H locs ls hG h => va_get C.1 C.2.1 C.2.2.2.2.1 lc_iX4 C.2.2.2.1 hG.1 hG.2.1 197 (lc_at197 S M) rfl 8 (by decide) (C.2.2.2.2.1 _ hw) (fun _ h9 => h9) rfl d (kk H locs ls hG h)
theorem lc_st197_typed (S : lc_Se) (M : lc_MM) (v : Int32) : (lc_w S M).set 197 (lc_ad S 197, .inr (4, ([.int (M 22 0 0), .ref (lc_ad S 198), .ref (lc_ad S 199), .ref (lc_ad S 200), .ref (lc_ad S 201), .ref (lc_ad S 202), .int (M 22 0 1), .ref (lc_ad S 203), .int (M 22 0 2), .int (M 22 0 3), .int (M 22 0 4), .ref (lc_ad S 204), .ref (lc_ad S 205), .int (M 22 0 5), .int (M 22 0 6)] : List Value).set 8 (.int v))) = lc_w S (lc_ms M 22 0 2 v) := by
  have e := lc_w_set S M (id := 197) (i := 2) (v := v) (by decide)
  exact e
theorem lc_p197_typed (C : lc_C X cc own n rt rm) {ix : Nat} {v : Int32} {s s' : lc_St} (hs : M 22 = s) (hs' : lc_ss s 0 2 v = s') (hM : va_up M 22 s' = M') (d : decode cc pc = .ok (.putfield ix, 3)) (hw : Cond.fieldLink own ix RX4 "typed" "I" ∈ lc_T) (hq : pc + 3 = pc') (kk : lc_J S X n k j Q pc' lo st M') : lc_J S X n k j Q pc lo (.int v :: .ref (lc_ad S 197) :: st) M := by
  subst hq; subst hs; subst hs'; subst hM
  exact fun H locs ls hG h => va_put (v := .int v) C.1 C.2.1 C.2.2.2.2.1 lc_iX4 tyX4 tyX4_ok nmX4 C.2.2.2.1 hG.1 hG.2.1 hG.2.2.1 hG.2.2.2.1 197 (lc_at197 S M) rfl 8 (by decide) (C.2.2.2.2.1 _ hw) (fun _ h9 => h9) rfl (tyX4_ok 8 (by decide)) rfl rfl (Nat.le_of_ble_eq_true rfl) d (fun H1 l1 p1 p2 p3 => kk H1 l1 ls ⟨hG.1, lc_st197_typed S M v ▸ p1, lc_st197_typed S M v ▸ p2, p3, hG.2.2.2.2⟩ h)
theorem lc_g197_watched (C : lc_C X cc own n rt rm) {ix : Nat} {s : lc_St} (hs : M 22 = s) (d : decode cc pc = .ok (.getfield ix, 3)) (hw : Cond.fieldLink own ix RX4 "watched" "I" ∈ lc_T) (hq : pc + 3 = pc') (kk : lc_J S X n k j Q pc' lo (.int (s 0 3) :: st) M) : lc_J S X n k j Q pc lo (.ref (lc_ad S 197) :: st) M := by
  subst hq; subst hs
  exact fun H locs ls hG h => va_get C.1 C.2.1 C.2.2.2.2.1 lc_iX4 C.2.2.2.1 hG.1 hG.2.1 197 (lc_at197 S M) rfl 9 (by decide) (C.2.2.2.2.1 _ hw) (fun _ h9 => h9) rfl d (kk H locs ls hG h)
theorem lc_st197_watched (S : lc_Se) (M : lc_MM) (v : Int32) : (lc_w S M).set 197 (lc_ad S 197, .inr (4, ([.int (M 22 0 0), .ref (lc_ad S 198), .ref (lc_ad S 199), .ref (lc_ad S 200), .ref (lc_ad S 201), .ref (lc_ad S 202), .int (M 22 0 1), .ref (lc_ad S 203), .int (M 22 0 2), .int (M 22 0 3), .int (M 22 0 4), .ref (lc_ad S 204), .ref (lc_ad S 205), .int (M 22 0 5), .int (M 22 0 6)] : List Value).set 9 (.int v))) = lc_w S (lc_ms M 22 0 3 v) := by
  have e := lc_w_set S M (id := 197) (i := 3) (v := v) (by decide)
  exact e
theorem lc_p197_watched (C : lc_C X cc own n rt rm) {ix : Nat} {v : Int32} {s s' : lc_St} (hs : M 22 = s) (hs' : lc_ss s 0 3 v = s') (hM : va_up M 22 s' = M') (d : decode cc pc = .ok (.putfield ix, 3)) (hw : Cond.fieldLink own ix RX4 "watched" "I" ∈ lc_T) (hq : pc + 3 = pc') (kk : lc_J S X n k j Q pc' lo st M') : lc_J S X n k j Q pc lo (.int v :: .ref (lc_ad S 197) :: st) M := by
  subst hq; subst hs; subst hs'; subst hM
  exact fun H locs ls hG h => va_put (v := .int v) C.1 C.2.1 C.2.2.2.2.1 lc_iX4 tyX4 tyX4_ok nmX4 C.2.2.2.1 hG.1 hG.2.1 hG.2.2.1 hG.2.2.2.1 197 (lc_at197 S M) rfl 9 (by decide) (C.2.2.2.2.1 _ hw) (fun _ h9 => h9) rfl (tyX4_ok 9 (by decide)) rfl rfl (Nat.le_of_ble_eq_true rfl) d (fun H1 l1 p1 p2 p3 => kk H1 l1 ls ⟨hG.1, lc_st197_watched S M v ▸ p1, lc_st197_watched S M v ▸ p2, p3, hG.2.2.2.2⟩ h)
theorem lc_g197_burned (C : lc_C X cc own n rt rm) {ix : Nat} {s : lc_St} (hs : M 22 = s) (d : decode cc pc = .ok (.getfield ix, 3)) (hw : Cond.fieldLink own ix RX4 "burned" "I" ∈ lc_T) (hq : pc + 3 = pc') (kk : lc_J S X n k j Q pc' lo (.int (s 0 4) :: st) M) : lc_J S X n k j Q pc lo (.ref (lc_ad S 197) :: st) M := by
  subst hq; subst hs
  exact fun H locs ls hG h => va_get C.1 C.2.1 C.2.2.2.2.1 lc_iX4 C.2.2.2.1 hG.1 hG.2.1 197 (lc_at197 S M) rfl 10 (by decide) (C.2.2.2.2.1 _ hw) (fun _ h9 => h9) rfl d (kk H locs ls hG h)
theorem lc_st197_burned (S : lc_Se) (M : lc_MM) (v : Int32) : (lc_w S M).set 197 (lc_ad S 197, .inr (4, ([.int (M 22 0 0), .ref (lc_ad S 198), .ref (lc_ad S 199), .ref (lc_ad S 200), .ref (lc_ad S 201), .ref (lc_ad S 202), .int (M 22 0 1), .ref (lc_ad S 203), .int (M 22 0 2), .int (M 22 0 3), .int (M 22 0 4), .ref (lc_ad S 204), .ref (lc_ad S 205), .int (M 22 0 5), .int (M 22 0 6)] : List Value).set 10 (.int v))) = lc_w S (lc_ms M 22 0 4 v) := by
  have e := lc_w_set S M (id := 197) (i := 4) (v := v) (by decide)
  exact e
theorem lc_p197_burned (C : lc_C X cc own n rt rm) {ix : Nat} {v : Int32} {s s' : lc_St} (hs : M 22 = s) (hs' : lc_ss s 0 4 v = s') (hM : va_up M 22 s' = M') (d : decode cc pc = .ok (.putfield ix, 3)) (hw : Cond.fieldLink own ix RX4 "burned" "I" ∈ lc_T) (hq : pc + 3 = pc') (kk : lc_J S X n k j Q pc' lo st M') : lc_J S X n k j Q pc lo (.int v :: .ref (lc_ad S 197) :: st) M := by
  subst hq; subst hs; subst hs'; subst hM
  exact fun H locs ls hG h => va_put (v := .int v) C.1 C.2.1 C.2.2.2.2.1 lc_iX4 tyX4 tyX4_ok nmX4 C.2.2.2.1 hG.1 hG.2.1 hG.2.2.1 hG.2.2.2.1 197 (lc_at197 S M) rfl 10 (by decide) (C.2.2.2.2.1 _ hw) (fun _ h9 => h9) rfl (tyX4_ok 10 (by decide)) rfl rfl (Nat.le_of_ble_eq_true rfl) d (fun H1 l1 p1 p2 p3 => kk H1 l1 ls ⟨hG.1, lc_st197_burned S M v ▸ p1, lc_st197_burned S M v ▸ p2, p3, hG.2.2.2.2⟩ h)
theorem lc_g197_hasMissed (C : lc_C X cc own n rt rm) {ix : Nat} {s : lc_St} (hs : M 22 = s) (d : decode cc pc = .ok (.getfield ix, 3)) (hw : Cond.fieldLink own ix RX4 "hasMissed" "[Z" ∈ lc_T) (hq : pc + 3 = pc') (kk : lc_J S X n k j Q pc' lo (.ref (lc_ad S 204) :: st) M) : lc_J S X n k j Q pc lo (.ref (lc_ad S 197) :: st) M := by
  subst hq; subst hs
  exact fun H locs ls hG h => va_get C.1 C.2.1 C.2.2.2.2.1 lc_iX4 C.2.2.2.1 hG.1 hG.2.1 197 (lc_at197 S M) rfl 11 (by decide) (C.2.2.2.2.1 _ hw) (fun _ h9 => h9) rfl d (kk H locs ls hG h)
theorem lc_g197_ahead (C : lc_C X cc own n rt rm) {ix : Nat} {s : lc_St} (hs : M 22 = s) (d : decode cc pc = .ok (.getfield ix, 3)) (hw : Cond.fieldLink own ix RX4 "ahead" "[I" ∈ lc_T) (hq : pc + 3 = pc') (kk : lc_J S X n k j Q pc' lo (.ref (lc_ad S 205) :: st) M) : lc_J S X n k j Q pc lo (.ref (lc_ad S 197) :: st) M := by
  subst hq; subst hs
  exact fun H locs ls hG h => va_get C.1 C.2.1 C.2.2.2.2.1 lc_iX4 C.2.2.2.1 hG.1 hG.2.1 197 (lc_at197 S M) rfl 12 (by decide) (C.2.2.2.2.1 _ hw) (fun _ h9 => h9) rfl d (kk H locs ls hG h)
theorem lc_g197_at (C : lc_C X cc own n rt rm) {ix : Nat} {s : lc_St} (hs : M 22 = s) (d : decode cc pc = .ok (.getfield ix, 3)) (hw : Cond.fieldLink own ix RX4 "at" "I" ∈ lc_T) (hq : pc + 3 = pc') (kk : lc_J S X n k j Q pc' lo (.int (s 0 5) :: st) M) : lc_J S X n k j Q pc lo (.ref (lc_ad S 197) :: st) M := by
  subst hq; subst hs
  exact fun H locs ls hG h => va_get C.1 C.2.1 C.2.2.2.2.1 lc_iX4 C.2.2.2.1 hG.1 hG.2.1 197 (lc_at197 S M) rfl 13 (by decide) (C.2.2.2.2.1 _ hw) (fun _ h9 => h9) rfl d (kk H locs ls hG h)
theorem lc_st197_at (S : lc_Se) (M : lc_MM) (v : Int32) : (lc_w S M).set 197 (lc_ad S 197, .inr (4, ([.int (M 22 0 0), .ref (lc_ad S 198), .ref (lc_ad S 199), .ref (lc_ad S 200), .ref (lc_ad S 201), .ref (lc_ad S 202), .int (M 22 0 1), .ref (lc_ad S 203), .int (M 22 0 2), .int (M 22 0 3), .int (M 22 0 4), .ref (lc_ad S 204), .ref (lc_ad S 205), .int (M 22 0 5), .int (M 22 0 6)] : List Value).set 13 (.int v))) = lc_w S (lc_ms M 22 0 5 v) := by
  have e := lc_w_set S M (id := 197) (i := 5) (v := v) (by decide)
  exact e
theorem lc_p197_at (C : lc_C X cc own n rt rm) {ix : Nat} {v : Int32} {s s' : lc_St} (hs : M 22 = s) (hs' : lc_ss s 0 5 v = s') (hM : va_up M 22 s' = M') (d : decode cc pc = .ok (.putfield ix, 3)) (hw : Cond.fieldLink own ix RX4 "at" "I" ∈ lc_T) (hq : pc + 3 = pc') (kk : lc_J S X n k j Q pc' lo st M') : lc_J S X n k j Q pc lo (.int v :: .ref (lc_ad S 197) :: st) M := by
  subst hq; subst hs; subst hs'; subst hM
  exact fun H locs ls hG h => va_put (v := .int v) C.1 C.2.1 C.2.2.2.2.1 lc_iX4 tyX4 tyX4_ok nmX4 C.2.2.2.1 hG.1 hG.2.1 hG.2.2.1 hG.2.2.2.1 197 (lc_at197 S M) rfl 13 (by decide) (C.2.2.2.2.1 _ hw) (fun _ h9 => h9) rfl (tyX4_ok 13 (by decide)) rfl rfl (Nat.le_of_ble_eq_true rfl) d (fun H1 l1 p1 p2 p3 => kk H1 l1 ls ⟨hG.1, lc_st197_at S M v ▸ p1, lc_st197_at S M v ▸ p2, p3, hG.2.2.2.2⟩ h)
theorem lc_g197_isStuck (C : lc_C X cc own n rt rm) {ix : Nat} {s : lc_St} (hs : M 22 = s) (d : decode cc pc = .ok (.getfield ix, 3)) (hw : Cond.fieldLink own ix RX4 "isStuck" "Z" ∈ lc_T) (hq : pc + 3 = pc') (kk : lc_J S X n k j Q pc' lo (.int (s 0 6) :: st) M) : lc_J S X n k j Q pc lo (.ref (lc_ad S 197) :: st) M := by
  subst hq; subst hs
  exact fun H locs ls hG h => va_get C.1 C.2.1 C.2.2.2.2.1 lc_iX4 C.2.2.2.1 hG.1 hG.2.1 197 (lc_at197 S M) rfl 14 (by decide) (C.2.2.2.2.1 _ hw) (fun _ h9 => h9) rfl d (kk H locs ls hG h)
theorem lc_st197_isStuck (S : lc_Se) (M : lc_MM) (v : Int32) : (lc_w S M).set 197 (lc_ad S 197, .inr (4, ([.int (M 22 0 0), .ref (lc_ad S 198), .ref (lc_ad S 199), .ref (lc_ad S 200), .ref (lc_ad S 201), .ref (lc_ad S 202), .int (M 22 0 1), .ref (lc_ad S 203), .int (M 22 0 2), .int (M 22 0 3), .int (M 22 0 4), .ref (lc_ad S 204), .ref (lc_ad S 205), .int (M 22 0 5), .int (M 22 0 6)] : List Value).set 14 (.int v))) = lc_w S (lc_ms M 22 0 6 v) := by
  have e := lc_w_set S M (id := 197) (i := 6) (v := v) (by decide)
  exact e
theorem lc_p197_isStuck (C : lc_C X cc own n rt rm) {ix : Nat} {v : Int32} {s s' : lc_St} (hs : M 22 = s) (hs' : lc_ss s 0 6 v = s') (hM : va_up M 22 s' = M') (hb : v = 0 ∨ v = 1) (d : decode cc pc = .ok (.putfield ix, 3)) (hw : Cond.fieldLink own ix RX4 "isStuck" "Z" ∈ lc_T) (hq : pc + 3 = pc') (kk : lc_J S X n k j Q pc' lo st M') : lc_J S X n k j Q pc lo (.int v :: .ref (lc_ad S 197) :: st) M := by
  subst hq; subst hs; subst hs'; subst hM
  exact fun H locs ls hG h => va_put (v := .int v) C.1 C.2.1 C.2.2.2.2.1 lc_iX4 tyX4 tyX4_ok nmX4 C.2.2.2.1 hG.1 hG.2.1 hG.2.2.1 hG.2.2.2.1 197 (lc_at197 S M) rfl 14 (by decide) (C.2.2.2.2.1 _ hw) (fun _ h9 => h9) rfl (tyX4_ok 14 (by decide)) (by rcases hb with rfl | rfl <;> rfl) (by rcases hb with rfl | rfl <;> rfl) (Nat.le_of_ble_eq_true rfl) d (fun H1 l1 p1 p2 p3 => kk H1 l1 ls ⟨hG.1, lc_st197_isStuck S M v ▸ p1, lc_st197_isStuck S M v ▸ p2, p3, hG.2.2.2.2⟩ h)
theorem lc_at191 (S : lc_Se) (M : lc_MM) : (lc_w S M)[191]? = some (lc_ad S 191, .inl (lc_cl S 0, 120, .inl (M 19 1))) := by
  rw [lc_w_at S M (by decide)]; rfl
theorem lc_st191 (S : lc_Se) (M : lc_MM) (i : Nat) (v : Int32) : (lc_w S M).set 191 (lc_ad S 191, .inl (lc_cl S 0, 120, .inl (upd (M 19 1) i v))) = lc_w S (lc_ms M 19 1 i v) := by
  have e := lc_w_set S M (id := 191) (i := i) (v := v) (by decide)
  exact e
theorem lc_ld191 (C : lc_C X cc own n rt rm) {s : lc_St} {i : Int32} (hs : M 19 = s) (hi : lc_ok i 120) (d : decode cc pc = .ok (.caload, 1)) (hq : pc + 1 = pc') (kk : lc_J S X n k j Q pc' lo (.int (s 1 i.toNatClampNeg) :: st) M) : lc_J S X n k j Q pc lo (.int i :: .ref (lc_ad S 191) :: st) M := by
  subst hq; subst hs
  exact fun H locs ls hG h => va_cald C.1 C.2.1 hG.1 hG.2.1 191 0 (lc_at191 S M) rfl hi d (kk H locs ls hG h)
theorem lc_sd191 (C : lc_C X cc own n rt rm) {s s' : lc_St} {i v : Int32} (hs : M 19 = s) (hi : lc_ok i 120) (hs' : lc_ss s 1 i.toNatClampNeg (vp_nar .char v) = s') (hM : va_up M 19 s' = M') (d : decode cc pc = .ok (.castore, 1)) (hq : pc + 1 = pc') (kk : lc_J S X n k j Q pc' lo st M') : lc_J S X n k j Q pc lo (.int v :: .int i :: .ref (lc_ad S 191) :: st) M := by
  subst hq; subst hs; subst hs'; subst hM
  exact fun H locs ls hG h => va_cast C.1 C.2.1 hG.1 hG.2.1 hG.2.2.1 hG.2.2.2.1 191 0 (lc_at191 S M) rfl hi d (fun H1 l1 p1 p2 p3 => kk H1 l1 ls ⟨hG.1, lc_st191 S M i.toNatClampNeg (vp_nar .char v) ▸ p1, lc_st191 S M i.toNatClampNeg (vp_nar .char v) ▸ p2, p3, hG.2.2.2.2⟩ h)
theorem lc_at196 (S : lc_Se) (M : lc_MM) : (lc_w S M)[196]? = some (lc_ad S 196, .inl (lc_cl S 2, 2, .inl (M 21 2))) := by
  rw [lc_w_at S M (by decide)]; rfl
theorem lc_st196 (S : lc_Se) (M : lc_MM) (i : Nat) (v : Int32) : (lc_w S M).set 196 (lc_ad S 196, .inl (lc_cl S 2, 2, .inl (upd (M 21 2) i v))) = lc_w S (lc_ms M 21 2 i v) := by
  have e := lc_w_set S M (id := 196) (i := i) (v := v) (by decide)
  exact e
theorem lc_ld196 (C : lc_C X cc own n rt rm) {s : lc_St} {i : Int32} (hs : M 21 = s) (hi : lc_ok i 2) (d : decode cc pc = .ok (.baload, 1)) (hq : pc + 1 = pc') (kk : lc_J S X n k j Q pc' lo (.int (s 2 i.toNatClampNeg) :: st) M) : lc_J S X n k j Q pc lo (.int i :: .ref (lc_ad S 196) :: st) M := by
  subst hq; subst hs
  exact fun H locs ls hG h => va_zald C.1 C.2.1 hG.1 hG.2.1 196 2 (lc_at196 S M) rfl hi d (kk H locs ls hG h)
theorem lc_sd196 (C : lc_C X cc own n rt rm) {s s' : lc_St} {i v : Int32} (hs : M 21 = s) (hi : lc_ok i 2) (hs' : lc_ss s 2 i.toNatClampNeg (vp_nar .boolean v) = s') (hM : va_up M 21 s' = M') (d : decode cc pc = .ok (.bastore, 1)) (hq : pc + 1 = pc') (kk : lc_J S X n k j Q pc' lo st M') : lc_J S X n k j Q pc lo (.int v :: .int i :: .ref (lc_ad S 196) :: st) M := by
  subst hq; subst hs; subst hs'; subst hM
  exact fun H locs ls hG h => va_zast C.1 C.2.1 hG.1 hG.2.1 hG.2.2.1 hG.2.2.2.1 196 2 (lc_at196 S M) rfl hi d (fun H1 l1 p1 p2 p3 => kk H1 l1 ls ⟨hG.1, lc_st196 S M i.toNatClampNeg (vp_nar .boolean v) ▸ p1, lc_st196 S M i.toNatClampNeg (vp_nar .boolean v) ▸ p2, p3, hG.2.2.2.2⟩ h)
theorem lc_at198 (S : lc_Se) (M : lc_MM) : (lc_w S M)[198]? = some (lc_ad S 198, .inl (lc_cl S 1, 107, .inl (M 22 1))) := by
  rw [lc_w_at S M (by decide)]; rfl
theorem lc_st198 (S : lc_Se) (M : lc_MM) (i : Nat) (v : Int32) : (lc_w S M).set 198 (lc_ad S 198, .inl (lc_cl S 1, 107, .inl (upd (M 22 1) i v))) = lc_w S (lc_ms M 22 1 i v) := by
  have e := lc_w_set S M (id := 198) (i := i) (v := v) (by decide)
  exact e
theorem lc_ld198 (C : lc_C X cc own n rt rm) {s : lc_St} {i : Int32} (hs : M 22 = s) (hi : lc_ok i 107) (d : decode cc pc = .ok (.iaload, 1)) (hq : pc + 1 = pc') (kk : lc_J S X n k j Q pc' lo (.int (s 1 i.toNatClampNeg) :: st) M) : lc_J S X n k j Q pc lo (.int i :: .ref (lc_ad S 198) :: st) M := by
  subst hq; subst hs
  exact fun H locs ls hG h => va_iald C.1 C.2.1 hG.1 hG.2.1 198 1 (lc_at198 S M) rfl hi d (kk H locs ls hG h)
theorem lc_sd198 (C : lc_C X cc own n rt rm) {s s' : lc_St} {i v : Int32} (hs : M 22 = s) (hi : lc_ok i 107) (hs' : lc_ss s 1 i.toNatClampNeg v = s') (hM : va_up M 22 s' = M') (d : decode cc pc = .ok (.iastore, 1)) (hq : pc + 1 = pc') (kk : lc_J S X n k j Q pc' lo st M') : lc_J S X n k j Q pc lo (.int v :: .int i :: .ref (lc_ad S 198) :: st) M := by
  subst hq; subst hs; subst hs'; subst hM
  exact fun H locs ls hG h => va_iast C.1 C.2.1 hG.1 hG.2.1 hG.2.2.1 hG.2.2.2.1 198 1 (lc_at198 S M) rfl hi d (fun H1 l1 p1 p2 p3 => kk H1 l1 ls ⟨hG.1, lc_st198 S M i.toNatClampNeg v ▸ p1, lc_st198 S M i.toNatClampNeg v ▸ p2, p3, hG.2.2.2.2⟩ h)
theorem lc_at199 (S : lc_Se) (M : lc_MM) : (lc_w S M)[199]? = some (lc_ad S 199, .inl (lc_cl S 1, 107, .inl (M 22 2))) := by
  rw [lc_w_at S M (by decide)]; rfl
theorem lc_st199 (S : lc_Se) (M : lc_MM) (i : Nat) (v : Int32) : (lc_w S M).set 199 (lc_ad S 199, .inl (lc_cl S 1, 107, .inl (upd (M 22 2) i v))) = lc_w S (lc_ms M 22 2 i v) := by
  have e := lc_w_set S M (id := 199) (i := i) (v := v) (by decide)
  exact e
theorem lc_ld199 (C : lc_C X cc own n rt rm) {s : lc_St} {i : Int32} (hs : M 22 = s) (hi : lc_ok i 107) (d : decode cc pc = .ok (.iaload, 1)) (hq : pc + 1 = pc') (kk : lc_J S X n k j Q pc' lo (.int (s 2 i.toNatClampNeg) :: st) M) : lc_J S X n k j Q pc lo (.int i :: .ref (lc_ad S 199) :: st) M := by
  subst hq; subst hs
  exact fun H locs ls hG h => va_iald C.1 C.2.1 hG.1 hG.2.1 199 1 (lc_at199 S M) rfl hi d (kk H locs ls hG h)
theorem lc_sd199 (C : lc_C X cc own n rt rm) {s s' : lc_St} {i v : Int32} (hs : M 22 = s) (hi : lc_ok i 107) (hs' : lc_ss s 2 i.toNatClampNeg v = s') (hM : va_up M 22 s' = M') (d : decode cc pc = .ok (.iastore, 1)) (hq : pc + 1 = pc') (kk : lc_J S X n k j Q pc' lo st M') : lc_J S X n k j Q pc lo (.int v :: .int i :: .ref (lc_ad S 199) :: st) M := by
  subst hq; subst hs; subst hs'; subst hM
  exact fun H locs ls hG h => va_iast C.1 C.2.1 hG.1 hG.2.1 hG.2.2.1 hG.2.2.2.1 199 1 (lc_at199 S M) rfl hi d (fun H1 l1 p1 p2 p3 => kk H1 l1 ls ⟨hG.1, lc_st199 S M i.toNatClampNeg v ▸ p1, lc_st199 S M i.toNatClampNeg v ▸ p2, p3, hG.2.2.2.2⟩ h)
theorem lc_at200 (S : lc_Se) (M : lc_MM) : (lc_w S M)[200]? = some (lc_ad S 200, .inl (lc_cl S 1, 214, .inl (M 22 3))) := by
  rw [lc_w_at S M (by decide)]; rfl
theorem lc_st200 (S : lc_Se) (M : lc_MM) (i : Nat) (v : Int32) : (lc_w S M).set 200 (lc_ad S 200, .inl (lc_cl S 1, 214, .inl (upd (M 22 3) i v))) = lc_w S (lc_ms M 22 3 i v) := by
  have e := lc_w_set S M (id := 200) (i := i) (v := v) (by decide)
  exact e
theorem lc_ld200 (C : lc_C X cc own n rt rm) {s : lc_St} {i : Int32} (hs : M 22 = s) (hi : lc_ok i 214) (d : decode cc pc = .ok (.iaload, 1)) (hq : pc + 1 = pc') (kk : lc_J S X n k j Q pc' lo (.int (s 3 i.toNatClampNeg) :: st) M) : lc_J S X n k j Q pc lo (.int i :: .ref (lc_ad S 200) :: st) M := by
  subst hq; subst hs
  exact fun H locs ls hG h => va_iald C.1 C.2.1 hG.1 hG.2.1 200 1 (lc_at200 S M) rfl hi d (kk H locs ls hG h)
theorem lc_sd200 (C : lc_C X cc own n rt rm) {s s' : lc_St} {i v : Int32} (hs : M 22 = s) (hi : lc_ok i 214) (hs' : lc_ss s 3 i.toNatClampNeg v = s') (hM : va_up M 22 s' = M') (d : decode cc pc = .ok (.iastore, 1)) (hq : pc + 1 = pc') (kk : lc_J S X n k j Q pc' lo st M') : lc_J S X n k j Q pc lo (.int v :: .int i :: .ref (lc_ad S 200) :: st) M := by
  subst hq; subst hs; subst hs'; subst hM
  exact fun H locs ls hG h => va_iast C.1 C.2.1 hG.1 hG.2.1 hG.2.2.1 hG.2.2.2.1 200 1 (lc_at200 S M) rfl hi d (fun H1 l1 p1 p2 p3 => kk H1 l1 ls ⟨hG.1, lc_st200 S M i.toNatClampNeg v ▸ p1, lc_st200 S M i.toNatClampNeg v ▸ p2, p3, hG.2.2.2.2⟩ h)
theorem lc_at201 (S : lc_Se) (M : lc_MM) : (lc_w S M)[201]? = some (lc_ad S 201, .inl (lc_cl S 2, 2, .inl (M 22 4))) := by
  rw [lc_w_at S M (by decide)]; rfl
theorem lc_st201 (S : lc_Se) (M : lc_MM) (i : Nat) (v : Int32) : (lc_w S M).set 201 (lc_ad S 201, .inl (lc_cl S 2, 2, .inl (upd (M 22 4) i v))) = lc_w S (lc_ms M 22 4 i v) := by
  have e := lc_w_set S M (id := 201) (i := i) (v := v) (by decide)
  exact e
theorem lc_ld201 (C : lc_C X cc own n rt rm) {s : lc_St} {i : Int32} (hs : M 22 = s) (hi : lc_ok i 2) (d : decode cc pc = .ok (.baload, 1)) (hq : pc + 1 = pc') (kk : lc_J S X n k j Q pc' lo (.int (s 4 i.toNatClampNeg) :: st) M) : lc_J S X n k j Q pc lo (.int i :: .ref (lc_ad S 201) :: st) M := by
  subst hq; subst hs
  exact fun H locs ls hG h => va_zald C.1 C.2.1 hG.1 hG.2.1 201 2 (lc_at201 S M) rfl hi d (kk H locs ls hG h)
theorem lc_sd201 (C : lc_C X cc own n rt rm) {s s' : lc_St} {i v : Int32} (hs : M 22 = s) (hi : lc_ok i 2) (hs' : lc_ss s 4 i.toNatClampNeg (vp_nar .boolean v) = s') (hM : va_up M 22 s' = M') (d : decode cc pc = .ok (.bastore, 1)) (hq : pc + 1 = pc') (kk : lc_J S X n k j Q pc' lo st M') : lc_J S X n k j Q pc lo (.int v :: .int i :: .ref (lc_ad S 201) :: st) M := by
  subst hq; subst hs; subst hs'; subst hM
  exact fun H locs ls hG h => va_zast C.1 C.2.1 hG.1 hG.2.1 hG.2.2.1 hG.2.2.2.1 201 2 (lc_at201 S M) rfl hi d (fun H1 l1 p1 p2 p3 => kk H1 l1 ls ⟨hG.1, lc_st201 S M i.toNatClampNeg (vp_nar .boolean v) ▸ p1, lc_st201 S M i.toNatClampNeg (vp_nar .boolean v) ▸ p2, p3, hG.2.2.2.2⟩ h)
theorem lc_at202 (S : lc_Se) (M : lc_MM) : (lc_w S M)[202]? = some (lc_ad S 202, .inl (lc_cl S 1, 1498, .inl (M 22 5))) := by
  rw [lc_w_at S M (by decide)]; rfl
theorem lc_st202 (S : lc_Se) (M : lc_MM) (i : Nat) (v : Int32) : (lc_w S M).set 202 (lc_ad S 202, .inl (lc_cl S 1, 1498, .inl (upd (M 22 5) i v))) = lc_w S (lc_ms M 22 5 i v) := by
  have e := lc_w_set S M (id := 202) (i := i) (v := v) (by decide)
  exact e
theorem lc_ld202 (C : lc_C X cc own n rt rm) {s : lc_St} {i : Int32} (hs : M 22 = s) (hi : lc_ok i 1498) (d : decode cc pc = .ok (.iaload, 1)) (hq : pc + 1 = pc') (kk : lc_J S X n k j Q pc' lo (.int (s 5 i.toNatClampNeg) :: st) M) : lc_J S X n k j Q pc lo (.int i :: .ref (lc_ad S 202) :: st) M := by
  subst hq; subst hs
  exact fun H locs ls hG h => va_iald C.1 C.2.1 hG.1 hG.2.1 202 1 (lc_at202 S M) rfl hi d (kk H locs ls hG h)
theorem lc_sd202 (C : lc_C X cc own n rt rm) {s s' : lc_St} {i v : Int32} (hs : M 22 = s) (hi : lc_ok i 1498) (hs' : lc_ss s 5 i.toNatClampNeg v = s') (hM : va_up M 22 s' = M') (d : decode cc pc = .ok (.iastore, 1)) (hq : pc + 1 = pc') (kk : lc_J S X n k j Q pc' lo st M') : lc_J S X n k j Q pc lo (.int v :: .int i :: .ref (lc_ad S 202) :: st) M := by
  subst hq; subst hs; subst hs'; subst hM
  exact fun H locs ls hG h => va_iast C.1 C.2.1 hG.1 hG.2.1 hG.2.2.1 hG.2.2.2.1 202 1 (lc_at202 S M) rfl hi d (fun H1 l1 p1 p2 p3 => kk H1 l1 ls ⟨hG.1, lc_st202 S M i.toNatClampNeg v ▸ p1, lc_st202 S M i.toNatClampNeg v ▸ p2, p3, hG.2.2.2.2⟩ h)
theorem lc_at203 (S : lc_Se) (M : lc_MM) : (lc_w S M)[203]? = some (lc_ad S 203, .inl (lc_cl S 1, 120, .inl (M 22 6))) := by
  rw [lc_w_at S M (by decide)]; rfl
theorem lc_st203 (S : lc_Se) (M : lc_MM) (i : Nat) (v : Int32) : (lc_w S M).set 203 (lc_ad S 203, .inl (lc_cl S 1, 120, .inl (upd (M 22 6) i v))) = lc_w S (lc_ms M 22 6 i v) := by
  have e := lc_w_set S M (id := 203) (i := i) (v := v) (by decide)
  exact e
theorem lc_ld203 (C : lc_C X cc own n rt rm) {s : lc_St} {i : Int32} (hs : M 22 = s) (hi : lc_ok i 120) (d : decode cc pc = .ok (.iaload, 1)) (hq : pc + 1 = pc') (kk : lc_J S X n k j Q pc' lo (.int (s 6 i.toNatClampNeg) :: st) M) : lc_J S X n k j Q pc lo (.int i :: .ref (lc_ad S 203) :: st) M := by
  subst hq; subst hs
  exact fun H locs ls hG h => va_iald C.1 C.2.1 hG.1 hG.2.1 203 1 (lc_at203 S M) rfl hi d (kk H locs ls hG h)
theorem lc_sd203 (C : lc_C X cc own n rt rm) {s s' : lc_St} {i v : Int32} (hs : M 22 = s) (hi : lc_ok i 120) (hs' : lc_ss s 6 i.toNatClampNeg v = s') (hM : va_up M 22 s' = M') (d : decode cc pc = .ok (.iastore, 1)) (hq : pc + 1 = pc') (kk : lc_J S X n k j Q pc' lo st M') : lc_J S X n k j Q pc lo (.int v :: .int i :: .ref (lc_ad S 203) :: st) M := by
  subst hq; subst hs; subst hs'; subst hM
  exact fun H locs ls hG h => va_iast C.1 C.2.1 hG.1 hG.2.1 hG.2.2.1 hG.2.2.2.1 203 1 (lc_at203 S M) rfl hi d (fun H1 l1 p1 p2 p3 => kk H1 l1 ls ⟨hG.1, lc_st203 S M i.toNatClampNeg v ▸ p1, lc_st203 S M i.toNatClampNeg v ▸ p2, p3, hG.2.2.2.2⟩ h)
theorem lc_at204 (S : lc_Se) (M : lc_MM) : (lc_w S M)[204]? = some (lc_ad S 204, .inl (lc_cl S 2, 8, .inl (M 22 7))) := by
  rw [lc_w_at S M (by decide)]; rfl
theorem lc_st204 (S : lc_Se) (M : lc_MM) (i : Nat) (v : Int32) : (lc_w S M).set 204 (lc_ad S 204, .inl (lc_cl S 2, 8, .inl (upd (M 22 7) i v))) = lc_w S (lc_ms M 22 7 i v) := by
  have e := lc_w_set S M (id := 204) (i := i) (v := v) (by decide)
  exact e
theorem lc_ld204 (C : lc_C X cc own n rt rm) {s : lc_St} {i : Int32} (hs : M 22 = s) (hi : lc_ok i 8) (d : decode cc pc = .ok (.baload, 1)) (hq : pc + 1 = pc') (kk : lc_J S X n k j Q pc' lo (.int (s 7 i.toNatClampNeg) :: st) M) : lc_J S X n k j Q pc lo (.int i :: .ref (lc_ad S 204) :: st) M := by
  subst hq; subst hs
  exact fun H locs ls hG h => va_zald C.1 C.2.1 hG.1 hG.2.1 204 2 (lc_at204 S M) rfl hi d (kk H locs ls hG h)
theorem lc_sd204 (C : lc_C X cc own n rt rm) {s s' : lc_St} {i v : Int32} (hs : M 22 = s) (hi : lc_ok i 8) (hs' : lc_ss s 7 i.toNatClampNeg (vp_nar .boolean v) = s') (hM : va_up M 22 s' = M') (d : decode cc pc = .ok (.bastore, 1)) (hq : pc + 1 = pc') (kk : lc_J S X n k j Q pc' lo st M') : lc_J S X n k j Q pc lo (.int v :: .int i :: .ref (lc_ad S 204) :: st) M := by
  subst hq; subst hs; subst hs'; subst hM
  exact fun H locs ls hG h => va_zast C.1 C.2.1 hG.1 hG.2.1 hG.2.2.1 hG.2.2.2.1 204 2 (lc_at204 S M) rfl hi d (fun H1 l1 p1 p2 p3 => kk H1 l1 ls ⟨hG.1, lc_st204 S M i.toNatClampNeg (vp_nar .boolean v) ▸ p1, lc_st204 S M i.toNatClampNeg (vp_nar .boolean v) ▸ p2, p3, hG.2.2.2.2⟩ h)
theorem lc_at205 (S : lc_Se) (M : lc_MM) : (lc_w S M)[205]? = some (lc_ad S 205, .inl (lc_cl S 1, 107, .inl (M 22 8))) := by
  rw [lc_w_at S M (by decide)]; rfl
theorem lc_st205 (S : lc_Se) (M : lc_MM) (i : Nat) (v : Int32) : (lc_w S M).set 205 (lc_ad S 205, .inl (lc_cl S 1, 107, .inl (upd (M 22 8) i v))) = lc_w S (lc_ms M 22 8 i v) := by
  have e := lc_w_set S M (id := 205) (i := i) (v := v) (by decide)
  exact e
theorem lc_ld205 (C : lc_C X cc own n rt rm) {s : lc_St} {i : Int32} (hs : M 22 = s) (hi : lc_ok i 107) (d : decode cc pc = .ok (.iaload, 1)) (hq : pc + 1 = pc') (kk : lc_J S X n k j Q pc' lo (.int (s 8 i.toNatClampNeg) :: st) M) : lc_J S X n k j Q pc lo (.int i :: .ref (lc_ad S 205) :: st) M := by
  subst hq; subst hs
  exact fun H locs ls hG h => va_iald C.1 C.2.1 hG.1 hG.2.1 205 1 (lc_at205 S M) rfl hi d (kk H locs ls hG h)
theorem lc_sd205 (C : lc_C X cc own n rt rm) {s s' : lc_St} {i v : Int32} (hs : M 22 = s) (hi : lc_ok i 107) (hs' : lc_ss s 8 i.toNatClampNeg v = s') (hM : va_up M 22 s' = M') (d : decode cc pc = .ok (.iastore, 1)) (hq : pc + 1 = pc') (kk : lc_J S X n k j Q pc' lo st M') : lc_J S X n k j Q pc lo (.int v :: .int i :: .ref (lc_ad S 205) :: st) M := by
  subst hq; subst hs; subst hs'; subst hM
  exact fun H locs ls hG h => va_iast C.1 C.2.1 hG.1 hG.2.1 hG.2.2.1 hG.2.2.2.1 205 1 (lc_at205 S M) rfl hi d (fun H1 l1 p1 p2 p3 => kk H1 l1 ls ⟨hG.1, lc_st205 S M i.toNatClampNeg v ▸ p1, lc_st205 S M i.toNatClampNeg v ▸ p2, p3, hG.2.2.2.2⟩ h)
theorem lc_at193 (S : lc_Se) (M : lc_MM) : (lc_w S M)[193]? = some (lc_ad S 193, .inl (lc_cl S 3, 14, .inr (.inr (.inr (.inr (fun j => some (lc_ad S (10 * (5 + j))))))))) := by
  rw [lc_w_at S M (by decide)]; rfl
theorem lc_ld193 (C : lc_C X cc own n rt rm) {i : Int32} (hi : lc_ok i 14) (d : decode cc pc = .ok (.aaload, 1)) (hq : pc + 1 = pc') (kk : lc_J S X n k j Q pc' lo (.ref (lc_ad S (10 * (5 + i.toNatClampNeg))) :: st) M) : lc_J S X n k j Q pc lo (.int i :: .ref (lc_ad S 193) :: st) M := by
  subst hq
  exact fun H locs ls hG h => va_aldq C.1 C.2.1 hG.1 hG.2.1 193 3 (lc_at193 S M) rfl hi d (kk H locs ls hG h)
theorem lc_at195 (S : lc_Se) (M : lc_MM) : (lc_w S M)[195]? = some (lc_ad S 195, .inl (lc_cl S 3, 2, .inr (.inr (.inr (.inr (fun j => some (lc_ad S (10 * (3 + j))))))))) := by
  rw [lc_w_at S M (by decide)]; rfl
theorem lc_ld195 (C : lc_C X cc own n rt rm) {i : Int32} (hi : lc_ok i 2) (d : decode cc pc = .ok (.aaload, 1)) (hq : pc + 1 = pc') (kk : lc_J S X n k j Q pc' lo (.ref (lc_ad S (10 * (3 + i.toNatClampNeg))) :: st) M) : lc_J S X n k j Q pc lo (.int i :: .ref (lc_ad S 195) :: st) M := by
  subst hq
  exact fun H locs ls hG h => va_aldq C.1 C.2.1 hG.1 hG.2.1 195 3 (lc_at195 S M) rfl hi d (kk H locs ls hG h)
end LCJ
end
section
/-! ===== contracts over the world ===== -/
def lc_MI (S : lc_Se) (l : Launch) (y : MethodName) (b : ByteArray) (mL : Nat) (ret : Option FieldType) (rm : Room) (av : List Value) (M : lc_MM) (r : Int32) (M' : lc_MM) : Prop :=
  Met l y (lc_ws y b mL ret) rm (va_Pc av (lc_B S M)) (va_Qi (fun (x : Int32) (_ : Unit) => x = r) (fun _ t => lc_B S M' t) (lc_A S)) rm.cells rm.slots (lc_A S)
def lc_ML (S : lc_Se) (l : Launch) (y : MethodName) (b : ByteArray) (mL : Nat) (ret : Option FieldType) (rm : Room) (av : List Value) (M : lc_MM) (r : Int64) (M' : lc_MM) : Prop :=
  Met l y (lc_ws y b mL ret) rm (va_Pc av (lc_B S M)) (va_Ql (fun (x : Int64) (_ : Unit) => x = r) (fun _ t => lc_B S M' t) (lc_A S)) rm.cells rm.slots (lc_A S)
def lc_MV (S : lc_Se) (l : Launch) (y : MethodName) (b : ByteArray) (mL : Nat) (ret : Option FieldType) (rm : Room) (av : List Value) (M M' : lc_MM) : Prop :=
  Met l y (lc_ws y b mL ret) rm (va_Pc av (lc_B S M)) (va_Qv (fun (_ : Unit) => True) (fun _ t => lc_B S M' t) (lc_A S)) rm.cells rm.slots (lc_A S)
abbrev lc_QI (S : lc_Se) (X : lc_X) (k j : Nat) (r : Int32) (M' : lc_MM) : State → Prop :=
  MQ X.2.2.2.2.2.2.2.1 (va_Qi (fun (x : Int32) (_ : Unit) => x = r) (fun _ t => lc_B S M' t) (lc_A S)) X.2.2.2.2.2.2.1 (lc_Xs X) k j (lc_A S)
abbrev lc_QL (S : lc_Se) (X : lc_X) (k j : Nat) (r : Int64) (M' : lc_MM) : State → Prop :=
  MQ X.2.2.2.2.2.2.2.1 (va_Ql (fun (x : Int64) (_ : Unit) => x = r) (fun _ t => lc_B S M' t) (lc_A S)) X.2.2.2.2.2.2.1 (lc_Xs X) k j (lc_A S)
abbrev lc_QV (S : lc_Se) (X : lc_X) (k j : Nat) (M' : lc_MM) : State → Prop :=
  MQ X.2.2.2.2.2.2.2.1 (va_Qv (fun (_ : Unit) => True) (fun _ t => lc_B S M' t) (lc_A S)) X.2.2.2.2.2.2.1 (lc_Xs X) k j (lc_A S)
theorem lc_GB {S : lc_Se} {M : lc_MM} {s t : State} {H : Heap} {locs : List Loc} (hG : lc_G S M s H locs) (ht : t.heap = H) (hvm : s.vm.Alike t.vm) : lc_B S M t := by
  refine ⟨?_, ?_, va_K.moved hvm hG.1, hG.2.2.1⟩
  · rw [ht]; exact Nat.le_trans hG.2.2.2.2 hG.2.2.2.1.1
  · rw [ht]; exact hG.2.1
theorem lc_BG {S : lc_Se} {M : lc_MM} {s : State} (h : lc_B S M s) : lc_G S M s s.heap [] := ⟨h.2.2.1, h.2.1, h.2.2.2, va_S.rf, h.1⟩
theorem lc_blind (S : lc_Se) (M : lc_MM) (av : List Value) : FrameBlind (va_Pc av (lc_B S M)) := fun a U g mk q => ⟨q.1, q.2.1, q.2.2.1, va_K.moved (u := U) (U := U.calling g mk a) (Vm.Alike.refl U.vm) q.2.2.2.1, q.2.2.2.2⟩
/-! ===== a method's beginning ===== -/
section LCM
variable {S : lc_Se} {l : Launch} {y : MethodName} {b : ByteArray} {mL : Nat} {ret : Option FieldType} {rm : Room} {av : List Value} {M M' : lc_MM} {lo : List (Nat × Value)} {own : String}
theorem lc_mkI {r : Int32} (hy : plainName y.cls = true) (hown : y.cls = own) (hlen : (lg_sl av).length ≤ mL) (hlo : lv_args 0 av = lo) (body : ∀ X : lc_X, X.2.1 = l → lc_C X b own mL ret rm → lc_J S X mL 0 0 (lc_QI S X rm.cells rm.slots r M') 0 lo [] M) : lc_MI S l y b mL ret rm av M r M' := by
  refine Met.ofW (cc := b) (maxL := mL) (ret := ret) hy rfl ?_
  intro p e s m args below meth c s₁ B hml hv
  obtain ⟨rfl, hB⟩ := hv
  have hts := atoms_spec (ws := lc_ws y b mL ret) B.pre
  have hl := lv_entry av hlen
  rw [lg_entry_eq]
  rw [hlo] at hl
  exact body (p, l, e, (headSpec (lc_ws y b mL ret) rm).room, s, m, av.toArray, below, meth, c) rfl ⟨B.exec, B.bytes, hml, hown ▸ findClass_of_methodNamed B.named, fun w hw => hts w (List.mem_cons_of_mem _ hw), B.notSynchronized, B.returns, rfl⟩ s.heap [] _ (lc_BG hB) hl
theorem lc_mkL {r : Int64} (hy : plainName y.cls = true) (hown : y.cls = own) (hlen : (lg_sl av).length ≤ mL) (hlo : lv_args 0 av = lo) (body : ∀ X : lc_X, X.2.1 = l → lc_C X b own mL ret rm → lc_J S X mL 0 0 (lc_QL S X rm.cells rm.slots r M') 0 lo [] M) : lc_ML S l y b mL ret rm av M r M' := by
  refine Met.ofW (cc := b) (maxL := mL) (ret := ret) hy rfl ?_
  intro p e s m args below meth c s₁ B hml hv
  obtain ⟨rfl, hB⟩ := hv
  have hts := atoms_spec (ws := lc_ws y b mL ret) B.pre
  have hl := lv_entry av hlen
  rw [lg_entry_eq]
  rw [hlo] at hl
  exact body (p, l, e, (headSpec (lc_ws y b mL ret) rm).room, s, m, av.toArray, below, meth, c) rfl ⟨B.exec, B.bytes, hml, hown ▸ findClass_of_methodNamed B.named, fun w hw => hts w (List.mem_cons_of_mem _ hw), B.notSynchronized, B.returns, rfl⟩ s.heap [] _ (lc_BG hB) hl
theorem lc_mkV (hy : plainName y.cls = true) (hown : y.cls = own) (hlen : (lg_sl av).length ≤ mL) (hlo : lv_args 0 av = lo) (body : ∀ X : lc_X, X.2.1 = l → lc_C X b own mL ret rm → lc_J S X mL 0 0 (lc_QV S X rm.cells rm.slots M') 0 lo [] M) : lc_MV S l y b mL ret rm av M M' := by
  refine Met.ofW (cc := b) (maxL := mL) (ret := ret) hy rfl ?_
  intro p e s m args below meth c s₁ B hml hv
  obtain ⟨rfl, hB⟩ := hv
  have hts := atoms_spec (ws := lc_ws y b mL ret) B.pre
  have hl := lv_entry av hlen
  rw [lg_entry_eq]
  rw [hlo] at hl
  exact body (p, l, e, (headSpec (lc_ws y b mL ret) rm).room, s, m, av.toArray, below, meth, c) rfl ⟨B.exec, B.bytes, hml, hown ▸ findClass_of_methodNamed B.named, fun w hw => hts w (List.mem_cons_of_mem _ hw), B.notSynchronized, B.returns, rfl⟩ s.heap [] _ (lc_BG hB) hl
end LCM
/-! ===== what a call needs of the tables ===== -/
def lc_kV (own : String) (ix : Nat) (y : MethodName) (b : ByteArray) (mL : Nat) (ret : Option FieldType) (nA : Nat) : Prop :=
  (Cond.methodLink own ix y ∈ lc_T ∧ Cond.instanceMethod y ∈ lc_T ∧ Cond.selects y.cls y y ∈ lc_T ∧ Cond.initialized y.cls ∈ lc_T ∧ Cond.code y b mL ret ∈ lc_T) ∧ y.cls ≠ "java/lang/invoke/MethodHandle" ∧ y.cls ≠ "java/lang/invoke/VarHandle" ∧ (parseMethodDescriptor y.desc).map (fun d => d.parameters.length) = some nA
def lc_kS (own : String) (ix : Nat) (y : MethodName) (b : ByteArray) (mL : Nat) (ret : Option FieldType) (nA : Nat) : Prop :=
  (Cond.methodLink own ix y ∈ lc_T ∧ Cond.static y ∈ lc_T ∧ Cond.initialized y.cls ∈ lc_T ∧ Cond.code y b mL ret ∈ lc_T) ∧ y.cls ≠ "java/lang/invoke/MethodHandle" ∧ y.cls ≠ "java/lang/invoke/VarHandle" ∧ (parseMethodDescriptor y.desc).map (fun d => d.parameters.length) = some nA
def lc_kN (own : String) (ix : Nat) (y : MethodName) (host : String) (b : ByteArray) (mL : Nat) (ret : Option FieldType) (nA : Nat) : Prop :=
  (Cond.methodLinkNest own ix y host ∈ lc_T ∧ Cond.static y ∈ lc_T ∧ Cond.initialized y.cls ∈ lc_T ∧ Cond.code y b mL ret ∈ lc_T) ∧ y.cls ≠ "java/lang/invoke/MethodHandle" ∧ y.cls ≠ "java/lang/invoke/VarHandle" ∧ (parseMethodDescriptor y.desc).map (fun d => d.parameters.length) = some nA
theorem lc_wsin {y : MethodName} {b : ByteArray} {mL : Nat} {ret : Option FieldType} (h : Cond.code y b mL ret ∈ lc_T) : GoodIn lc_T (lc_ws y b mL ret) := lc_good (fun w hw => by
  rcases List.mem_cons.mp hw with rfl | hw
  · exact h
  · exact hw)
section LCK
variable {S : lc_Se} {X : lc_X} {cc : ByteArray} {own : String} {rt : Option FieldType} {rm : Room} {n k j : Nat} {Q : State → Prop} {pc pc' : Nat} {lo lo' : List (Nat × Value)} {st : List Value} {M M' : lc_MM}
theorem lc_fix (C : lc_C X cc own n rt rm) : CallFix X.1 X.2.2.2.2.2.1 X.2.2.2.2.2.2.2.2.2 cc n (lc_Xs X) X.2.2.2.2.2.2.1 lc_T own := ⟨C.1, C.2.1, C.2.2.1, C.2.2.2.1, C.2.2.2.2.1⟩
theorem lc_cB (C : lc_C X cc own n rt rm) {ix mL nA : Nat} {y : MethodName} {b : ByteArray} {ret : Option FieldType} {R' : Room} (hl : Cond.methodLink own ix y ∈ lc_T) (hi : Cond.initialized y.cls ∈ lc_T) (hc : Cond.code y b mL ret ∈ lc_T) (hd : y.cls ≠ "java/lang/invoke/MethodHandle" ∧ y.cls ≠ "java/lang/invoke/VarHandle" ∧ (parseMethodDescriptor y.desc).map (fun d => d.parameters.length) = some nA) (hR : R'.frames + 1 ≤ rm.frames ∧ 8 + (mL + 11) + R'.locals ≤ rm.locals) :
    CallB (lc_Xr X) (lc_Xs X) X.2.2.2.2.2.2.1 own ix y b mL ret (lc_ws y b mL ret) R' R'.cells R'.slots nA := by
  have hr := C.2.2.2.2.2.2.2
  exact callB_of nA C.2.2.2.2.1 (lc_wsin hc) rfl rfl rfl (C.2.2.2.2.1 _ hi) (C.2.2.2.2.1 _ hl) hd (by rw [hr]; exact hR)
theorem lc_back {s t : State} {H1 : Heap} {locs1 : List Loc} {base : Nat} (hb : lc_ba S ≤ s.heap.size) (ht : t.heap = H1) (hvm : s.vm.Alike t.vm) (hB : lc_B S M' t) (hS : va_S (lc_A S) s.heap H1 locs1) : lc_G S M' s H1 locs1 :=
  ⟨va_K.moved hvm.symm hB.2.2.1, ht ▸ hB.2.1, hB.2.2.2, hS, hb⟩

theorem lc_cvi (C : lc_C X cc own n rt rm) {ix mL nA a q0 ci : Nat} {y : MethodName} {b : ByteArray} {ret : Option FieldType} {R' : Room} {As rest : List Value} {fs : List Value} {cq : vw_C} {r : Int32} (hM : lc_MI S X.2.1 y b mL ret R' (.ref a :: As) M r M') (hf : lc_kV own ix y b mL ret nA) (he : (lc_w S M)[q0]? = some (a, .inr (ci, fs))) (hc : vwCl[ci]? = some cq) (hq1 : cq.1 = y.cls) (hn : As.length = nA) (hst : st = As.reverse ++ .ref a :: rest) (hcat : (rest.map fun v => v.category).sum ≤ 8) (hR : R'.frames + 1 ≤ rm.frames ∧ 8 + (mL + 11) + R'.locals ≤ rm.locals) (hz : R'.cells = 0 ∧ R'.slots = 0) (hcs : k ≤ rm.cells ∧ j ≤ rm.slots) (d : decode cc pc = .ok (.invokevirtual ix, 3)) (hq : pc + 3 = pc') (kk : lc_J S X n k j Q pc' lo (.int r :: rest) M') : lc_J S X n k j Q pc lo st M := by
  subst hq; subst hst
  have hr := C.2.2.2.2.2.2.2
  have hcs' : k + R'.cells ≤ rm.cells ∧ j + R'.slots ≤ rm.slots := (by rw [hz.1, hz.2]; exact hcs)
  have kk : lc_J S X n (k + R'.cells) (j + R'.slots) Q (pc + 3) lo (.int r :: rest) M' := by rw [hz.1, hz.2]; exact kk
  intro H locs ls hG h
  have hA1 : ∀ q : Nat, lc_A S q → lc_A S q := fun _ z => z
  exact va_calli (va_runV (C := y.cls) (lc_fix C) hM ⟨lc_cB C hf.1.1 hf.1.2.2.2.1 hf.1.2.2.2.2 hf.2 hR, C.2.2.2.2.1 _ hf.1.2.1, C.2.2.2.2.1 _ hf.1.2.2.1⟩ ⟨lc_blind S M _, hq1 ▸ va_recv hG.1 hG.2.1 hc he, fun U hU hW => ⟨rfl, lc_GB hG hU hW.alike⟩⟩ rfl hn h.1 rfl (lv_room hcat) d (by rw [hr]; exact hcs')) hG.2.2.2.1 (fun q _ z => z) hA1 (fun x u t H1 l1 ht hvm hp hB hz hk hS => by subst hp; exact kk H1 l1 ls (lc_back (base := 0) hG.2.2.2.2 ht hvm hB hS) h)
theorem lc_cviA (C : lc_C X cc own n rt rm) {ix mL nA a q0 ci : Nat} {y : MethodName} {b : ByteArray} {ret : Option FieldType} {R' : Room} {As rest : List Value} {fs : List Value} {cq : vw_C} {r : Int32} (hM : lc_MI S X.2.1 y b mL ret R' (.ref a :: As) M r M') (hf : lc_kV own ix y b mL ret nA) (he : (lc_w S M)[q0]? = some (a, .inr (ci, fs))) (hc : vwCl[ci]? = some cq) (hq1 : cq.1 = y.cls) (hn : As.length = nA) (hst : st = As.reverse ++ .ref a :: rest) (hcat : (rest.map fun v => v.category).sum ≤ 8) (hR : R'.frames + 1 ≤ rm.frames ∧ 8 + (mL + 11) + R'.locals ≤ rm.locals) (hcs : k + R'.cells ≤ rm.cells ∧ j + R'.slots ≤ rm.slots) (d : decode cc pc = .ok (.invokevirtual ix, 3)) (hq : pc + 3 = pc') (kk : lc_J S X n (k + R'.cells) (j + R'.slots) Q pc' lo (.int r :: rest) M') : lc_J S X n k j Q pc lo st M := by
  subst hq; subst hst
  have hr := C.2.2.2.2.2.2.2
  have hcs' : k + R'.cells ≤ rm.cells ∧ j + R'.slots ≤ rm.slots := hcs
  intro H locs ls hG h
  have hA1 : ∀ q : Nat, lc_A S q → lc_A S q := fun _ z => z
  exact va_calli (va_runV (C := y.cls) (lc_fix C) hM ⟨lc_cB C hf.1.1 hf.1.2.2.2.1 hf.1.2.2.2.2 hf.2 hR, C.2.2.2.2.1 _ hf.1.2.1, C.2.2.2.2.1 _ hf.1.2.2.1⟩ ⟨lc_blind S M _, hq1 ▸ va_recv hG.1 hG.2.1 hc he, fun U hU hW => ⟨rfl, lc_GB hG hU hW.alike⟩⟩ rfl hn h.1 rfl (lv_room hcat) d (by rw [hr]; exact hcs')) hG.2.2.2.1 (fun q _ z => z) hA1 (fun x u t H1 l1 ht hvm hp hB hz hk hS => by subst hp; exact kk H1 l1 ls (lc_back (base := 0) hG.2.2.2.2 ht hvm hB hS) h)
theorem lc_cvl (C : lc_C X cc own n rt rm) {ix mL nA a q0 ci : Nat} {y : MethodName} {b : ByteArray} {ret : Option FieldType} {R' : Room} {As rest : List Value} {fs : List Value} {cq : vw_C} {r : Int64} (hM : lc_ML S X.2.1 y b mL ret R' (.ref a :: As) M r M') (hf : lc_kV own ix y b mL ret nA) (he : (lc_w S M)[q0]? = some (a, .inr (ci, fs))) (hc : vwCl[ci]? = some cq) (hq1 : cq.1 = y.cls) (hn : As.length = nA) (hst : st = As.reverse ++ .ref a :: rest) (hcat : (rest.map fun v => v.category).sum ≤ 8) (hR : R'.frames + 1 ≤ rm.frames ∧ 8 + (mL + 11) + R'.locals ≤ rm.locals) (hz : R'.cells = 0 ∧ R'.slots = 0) (hcs : k ≤ rm.cells ∧ j ≤ rm.slots) (d : decode cc pc = .ok (.invokevirtual ix, 3)) (hq : pc + 3 = pc') (kk : lc_J S X n k j Q pc' lo (.long r :: rest) M') : lc_J S X n k j Q pc lo st M := by
  subst hq; subst hst
  have hr := C.2.2.2.2.2.2.2
  have hcs' : k + R'.cells ≤ rm.cells ∧ j + R'.slots ≤ rm.slots := (by rw [hz.1, hz.2]; exact hcs)
  have kk : lc_J S X n (k + R'.cells) (j + R'.slots) Q (pc + 3) lo (.long r :: rest) M' := by rw [hz.1, hz.2]; exact kk
  intro H locs ls hG h
  have hA1 : ∀ q : Nat, lc_A S q → lc_A S q := fun _ z => z
  exact va_calll (va_runV (C := y.cls) (lc_fix C) hM ⟨lc_cB C hf.1.1 hf.1.2.2.2.1 hf.1.2.2.2.2 hf.2 hR, C.2.2.2.2.1 _ hf.1.2.1, C.2.2.2.2.1 _ hf.1.2.2.1⟩ ⟨lc_blind S M _, hq1 ▸ va_recv hG.1 hG.2.1 hc he, fun U hU hW => ⟨rfl, lc_GB hG hU hW.alike⟩⟩ rfl hn h.1 rfl (lv_room hcat) d (by rw [hr]; exact hcs')) hG.2.2.2.1 (fun q _ z => z) hA1 (fun x u t H1 l1 ht hvm hp hB hz hk hS => by subst hp; exact kk H1 l1 ls (lc_back (base := 0) hG.2.2.2.2 ht hvm hB hS) h)
theorem lc_cvlA (C : lc_C X cc own n rt rm) {ix mL nA a q0 ci : Nat} {y : MethodName} {b : ByteArray} {ret : Option FieldType} {R' : Room} {As rest : List Value} {fs : List Value} {cq : vw_C} {r : Int64} (hM : lc_ML S X.2.1 y b mL ret R' (.ref a :: As) M r M') (hf : lc_kV own ix y b mL ret nA) (he : (lc_w S M)[q0]? = some (a, .inr (ci, fs))) (hc : vwCl[ci]? = some cq) (hq1 : cq.1 = y.cls) (hn : As.length = nA) (hst : st = As.reverse ++ .ref a :: rest) (hcat : (rest.map fun v => v.category).sum ≤ 8) (hR : R'.frames + 1 ≤ rm.frames ∧ 8 + (mL + 11) + R'.locals ≤ rm.locals) (hcs : k + R'.cells ≤ rm.cells ∧ j + R'.slots ≤ rm.slots) (d : decode cc pc = .ok (.invokevirtual ix, 3)) (hq : pc + 3 = pc') (kk : lc_J S X n (k + R'.cells) (j + R'.slots) Q pc' lo (.long r :: rest) M') : lc_J S X n k j Q pc lo st M := by
  subst hq; subst hst
  have hr := C.2.2.2.2.2.2.2
  have hcs' : k + R'.cells ≤ rm.cells ∧ j + R'.slots ≤ rm.slots := hcs
  intro H locs ls hG h
  have hA1 : ∀ q : Nat, lc_A S q → lc_A S q := fun _ z => z
  exact va_calll (va_runV (C := y.cls) (lc_fix C) hM ⟨lc_cB C hf.1.1 hf.1.2.2.2.1 hf.1.2.2.2.2 hf.2 hR, C.2.2.2.2.1 _ hf.1.2.1, C.2.2.2.2.1 _ hf.1.2.2.1⟩ ⟨lc_blind S M _, hq1 ▸ va_recv hG.1 hG.2.1 hc he, fun U hU hW => ⟨rfl, lc_GB hG hU hW.alike⟩⟩ rfl hn h.1 rfl (lv_room hcat) d (by rw [hr]; exact hcs')) hG.2.2.2.1 (fun q _ z => z) hA1 (fun x u t H1 l1 ht hvm hp hB hz hk hS => by subst hp; exact kk H1 l1 ls (lc_back (base := 0) hG.2.2.2.2 ht hvm hB hS) h)
theorem lc_cvv (C : lc_C X cc own n rt rm) {ix mL nA a q0 ci : Nat} {y : MethodName} {b : ByteArray} {ret : Option FieldType} {R' : Room} {As rest : List Value} {fs : List Value} {cq : vw_C} (hM : lc_MV S X.2.1 y b mL ret R' (.ref a :: As) M M') (hf : lc_kV own ix y b mL ret nA) (he : (lc_w S M)[q0]? = some (a, .inr (ci, fs))) (hc : vwCl[ci]? = some cq) (hq1 : cq.1 = y.cls) (hn : As.length = nA) (hst : st = As.reverse ++ .ref a :: rest) (hcat : (rest.map fun v => v.category).sum ≤ 8) (hR : R'.frames + 1 ≤ rm.frames ∧ 8 + (mL + 11) + R'.locals ≤ rm.locals) (hz : R'.cells = 0 ∧ R'.slots = 0) (hcs : k ≤ rm.cells ∧ j ≤ rm.slots) (d : decode cc pc = .ok (.invokevirtual ix, 3)) (hq : pc + 3 = pc') (kk : lc_J S X n k j Q pc' lo (rest) M') : lc_J S X n k j Q pc lo st M := by
  subst hq; subst hst
  have hr := C.2.2.2.2.2.2.2
  have hcs' : k + R'.cells ≤ rm.cells ∧ j + R'.slots ≤ rm.slots := (by rw [hz.1, hz.2]; exact hcs)
  have kk : lc_J S X n (k + R'.cells) (j + R'.slots) Q (pc + 3) lo (rest) M' := by rw [hz.1, hz.2]; exact kk
  intro H locs ls hG h
  have hA1 : ∀ q : Nat, lc_A S q → lc_A S q := fun _ z => z
  exact va_callv (va_runV (C := y.cls) (lc_fix C) hM ⟨lc_cB C hf.1.1 hf.1.2.2.2.1 hf.1.2.2.2.2 hf.2 hR, C.2.2.2.2.1 _ hf.1.2.1, C.2.2.2.2.1 _ hf.1.2.2.1⟩ ⟨lc_blind S M _, hq1 ▸ va_recv hG.1 hG.2.1 hc he, fun U hU hW => ⟨rfl, lc_GB hG hU hW.alike⟩⟩ rfl hn h.1 rfl (lv_room hcat) d (by rw [hr]; exact hcs')) hG.2.2.2.1 (fun q _ z => z) hA1 (fun u t H1 l1 ht hvm hp hB hz hk hS => kk H1 l1 ls (lc_back (base := 0) hG.2.2.2.2 ht hvm hB hS) h)
theorem lc_cvvA (C : lc_C X cc own n rt rm) {ix mL nA a q0 ci : Nat} {y : MethodName} {b : ByteArray} {ret : Option FieldType} {R' : Room} {As rest : List Value} {fs : List Value} {cq : vw_C} (hM : lc_MV S X.2.1 y b mL ret R' (.ref a :: As) M M') (hf : lc_kV own ix y b mL ret nA) (he : (lc_w S M)[q0]? = some (a, .inr (ci, fs))) (hc : vwCl[ci]? = some cq) (hq1 : cq.1 = y.cls) (hn : As.length = nA) (hst : st = As.reverse ++ .ref a :: rest) (hcat : (rest.map fun v => v.category).sum ≤ 8) (hR : R'.frames + 1 ≤ rm.frames ∧ 8 + (mL + 11) + R'.locals ≤ rm.locals) (hcs : k + R'.cells ≤ rm.cells ∧ j + R'.slots ≤ rm.slots) (d : decode cc pc = .ok (.invokevirtual ix, 3)) (hq : pc + 3 = pc') (kk : lc_J S X n (k + R'.cells) (j + R'.slots) Q pc' lo (rest) M') : lc_J S X n k j Q pc lo st M := by
  subst hq; subst hst
  have hr := C.2.2.2.2.2.2.2
  have hcs' : k + R'.cells ≤ rm.cells ∧ j + R'.slots ≤ rm.slots := hcs
  intro H locs ls hG h
  have hA1 : ∀ q : Nat, lc_A S q → lc_A S q := fun _ z => z
  exact va_callv (va_runV (C := y.cls) (lc_fix C) hM ⟨lc_cB C hf.1.1 hf.1.2.2.2.1 hf.1.2.2.2.2 hf.2 hR, C.2.2.2.2.1 _ hf.1.2.1, C.2.2.2.2.1 _ hf.1.2.2.1⟩ ⟨lc_blind S M _, hq1 ▸ va_recv hG.1 hG.2.1 hc he, fun U hU hW => ⟨rfl, lc_GB hG hU hW.alike⟩⟩ rfl hn h.1 rfl (lv_room hcat) d (by rw [hr]; exact hcs')) hG.2.2.2.1 (fun q _ z => z) hA1 (fun u t H1 l1 ht hvm hp hB hz hk hS => kk H1 l1 ls (lc_back (base := 0) hG.2.2.2.2 ht hvm hB hS) h)
theorem lc_csi (C : lc_C X cc own n rt rm) {ix mL nA : Nat} {y : MethodName} {b : ByteArray} {ret : Option FieldType} {R' : Room} {As rest : List Value} {r : Int32} (hM : lc_MI S X.2.1 y b mL ret R' As M r M') (hf : lc_kS own ix y b mL ret nA) (hn : As.length = nA) (hst : st = As.reverse ++ rest) (hcat : (rest.map fun v => v.category).sum ≤ 8) (hR : R'.frames + 1 ≤ rm.frames ∧ 8 + (mL + 11) + R'.locals ≤ rm.locals) (hz : R'.cells = 0 ∧ R'.slots = 0) (hcs : k ≤ rm.cells ∧ j ≤ rm.slots) (d : decode cc pc = .ok (.invokestatic ix, 3)) (hq : pc + 3 = pc') (kk : lc_J S X n k j Q pc' lo (.int r :: rest) M') : lc_J S X n k j Q pc lo st M := by
  subst hq; subst hst
  have hr := C.2.2.2.2.2.2.2
  have hcs' : k + R'.cells ≤ rm.cells ∧ j + R'.slots ≤ rm.slots := (by rw [hz.1, hz.2]; exact hcs)
  have kk : lc_J S X n (k + R'.cells) (j + R'.slots) Q (pc + 3) lo (.int r :: rest) M' := by rw [hz.1, hz.2]; exact kk
  intro H locs ls hG h
  have hA1 : ∀ q : Nat, lc_A S q → lc_A S q := fun _ z => z
  exact va_calli (va_runS (lc_fix C) hM ⟨lc_cB C hf.1.1 hf.1.2.2.1 hf.1.2.2.2 hf.2 hR, C.2.2.2.2.1 _ hf.1.2.1⟩ ⟨lc_blind S M _, fun U hU hW => ⟨rfl, lc_GB hG hU hW.alike⟩⟩ rfl hn h.1 rfl (lv_room hcat) d (by rw [hr]; exact hcs')) hG.2.2.2.1 (fun q _ z => z) hA1 (fun x u t H1 l1 ht hvm hp hB hz hk hS => by subst hp; exact kk H1 l1 ls (lc_back (base := 0) hG.2.2.2.2 ht hvm hB hS) h)
theorem lc_csiA (C : lc_C X cc own n rt rm) {ix mL nA : Nat} {y : MethodName} {b : ByteArray} {ret : Option FieldType} {R' : Room} {As rest : List Value} {r : Int32} (hM : lc_MI S X.2.1 y b mL ret R' As M r M') (hf : lc_kS own ix y b mL ret nA) (hn : As.length = nA) (hst : st = As.reverse ++ rest) (hcat : (rest.map fun v => v.category).sum ≤ 8) (hR : R'.frames + 1 ≤ rm.frames ∧ 8 + (mL + 11) + R'.locals ≤ rm.locals) (hcs : k + R'.cells ≤ rm.cells ∧ j + R'.slots ≤ rm.slots) (d : decode cc pc = .ok (.invokestatic ix, 3)) (hq : pc + 3 = pc') (kk : lc_J S X n (k + R'.cells) (j + R'.slots) Q pc' lo (.int r :: rest) M') : lc_J S X n k j Q pc lo st M := by
  subst hq; subst hst
  have hr := C.2.2.2.2.2.2.2
  have hcs' : k + R'.cells ≤ rm.cells ∧ j + R'.slots ≤ rm.slots := hcs
  intro H locs ls hG h
  have hA1 : ∀ q : Nat, lc_A S q → lc_A S q := fun _ z => z
  exact va_calli (va_runS (lc_fix C) hM ⟨lc_cB C hf.1.1 hf.1.2.2.1 hf.1.2.2.2 hf.2 hR, C.2.2.2.2.1 _ hf.1.2.1⟩ ⟨lc_blind S M _, fun U hU hW => ⟨rfl, lc_GB hG hU hW.alike⟩⟩ rfl hn h.1 rfl (lv_room hcat) d (by rw [hr]; exact hcs')) hG.2.2.2.1 (fun q _ z => z) hA1 (fun x u t H1 l1 ht hvm hp hB hz hk hS => by subst hp; exact kk H1 l1 ls (lc_back (base := 0) hG.2.2.2.2 ht hvm hB hS) h)
theorem lc_csl (C : lc_C X cc own n rt rm) {ix mL nA : Nat} {y : MethodName} {b : ByteArray} {ret : Option FieldType} {R' : Room} {As rest : List Value} {r : Int64} (hM : lc_ML S X.2.1 y b mL ret R' As M r M') (hf : lc_kS own ix y b mL ret nA) (hn : As.length = nA) (hst : st = As.reverse ++ rest) (hcat : (rest.map fun v => v.category).sum ≤ 8) (hR : R'.frames + 1 ≤ rm.frames ∧ 8 + (mL + 11) + R'.locals ≤ rm.locals) (hz : R'.cells = 0 ∧ R'.slots = 0) (hcs : k ≤ rm.cells ∧ j ≤ rm.slots) (d : decode cc pc = .ok (.invokestatic ix, 3)) (hq : pc + 3 = pc') (kk : lc_J S X n k j Q pc' lo (.long r :: rest) M') : lc_J S X n k j Q pc lo st M := by
  subst hq; subst hst
  have hr := C.2.2.2.2.2.2.2
  have hcs' : k + R'.cells ≤ rm.cells ∧ j + R'.slots ≤ rm.slots := (by rw [hz.1, hz.2]; exact hcs)
  have kk : lc_J S X n (k + R'.cells) (j + R'.slots) Q (pc + 3) lo (.long r :: rest) M' := by rw [hz.1, hz.2]; exact kk
  intro H locs ls hG h
  have hA1 : ∀ q : Nat, lc_A S q → lc_A S q := fun _ z => z
  exact va_calll (va_runS (lc_fix C) hM ⟨lc_cB C hf.1.1 hf.1.2.2.1 hf.1.2.2.2 hf.2 hR, C.2.2.2.2.1 _ hf.1.2.1⟩ ⟨lc_blind S M _, fun U hU hW => ⟨rfl, lc_GB hG hU hW.alike⟩⟩ rfl hn h.1 rfl (lv_room hcat) d (by rw [hr]; exact hcs')) hG.2.2.2.1 (fun q _ z => z) hA1 (fun x u t H1 l1 ht hvm hp hB hz hk hS => by subst hp; exact kk H1 l1 ls (lc_back (base := 0) hG.2.2.2.2 ht hvm hB hS) h)
theorem lc_cslA (C : lc_C X cc own n rt rm) {ix mL nA : Nat} {y : MethodName} {b : ByteArray} {ret : Option FieldType} {R' : Room} {As rest : List Value} {r : Int64} (hM : lc_ML S X.2.1 y b mL ret R' As M r M') (hf : lc_kS own ix y b mL ret nA) (hn : As.length = nA) (hst : st = As.reverse ++ rest) (hcat : (rest.map fun v => v.category).sum ≤ 8) (hR : R'.frames + 1 ≤ rm.frames ∧ 8 + (mL + 11) + R'.locals ≤ rm.locals) (hcs : k + R'.cells ≤ rm.cells ∧ j + R'.slots ≤ rm.slots) (d : decode cc pc = .ok (.invokestatic ix, 3)) (hq : pc + 3 = pc') (kk : lc_J S X n (k + R'.cells) (j + R'.slots) Q pc' lo (.long r :: rest) M') : lc_J S X n k j Q pc lo st M := by
  subst hq; subst hst
  have hr := C.2.2.2.2.2.2.2
  have hcs' : k + R'.cells ≤ rm.cells ∧ j + R'.slots ≤ rm.slots := hcs
  intro H locs ls hG h
  have hA1 : ∀ q : Nat, lc_A S q → lc_A S q := fun _ z => z
  exact va_calll (va_runS (lc_fix C) hM ⟨lc_cB C hf.1.1 hf.1.2.2.1 hf.1.2.2.2 hf.2 hR, C.2.2.2.2.1 _ hf.1.2.1⟩ ⟨lc_blind S M _, fun U hU hW => ⟨rfl, lc_GB hG hU hW.alike⟩⟩ rfl hn h.1 rfl (lv_room hcat) d (by rw [hr]; exact hcs')) hG.2.2.2.1 (fun q _ z => z) hA1 (fun x u t H1 l1 ht hvm hp hB hz hk hS => by subst hp; exact kk H1 l1 ls (lc_back (base := 0) hG.2.2.2.2 ht hvm hB hS) h)
theorem lc_csv (C : lc_C X cc own n rt rm) {ix mL nA : Nat} {y : MethodName} {b : ByteArray} {ret : Option FieldType} {R' : Room} {As rest : List Value} (hM : lc_MV S X.2.1 y b mL ret R' As M M') (hf : lc_kS own ix y b mL ret nA) (hn : As.length = nA) (hst : st = As.reverse ++ rest) (hcat : (rest.map fun v => v.category).sum ≤ 8) (hR : R'.frames + 1 ≤ rm.frames ∧ 8 + (mL + 11) + R'.locals ≤ rm.locals) (hz : R'.cells = 0 ∧ R'.slots = 0) (hcs : k ≤ rm.cells ∧ j ≤ rm.slots) (d : decode cc pc = .ok (.invokestatic ix, 3)) (hq : pc + 3 = pc') (kk : lc_J S X n k j Q pc' lo (rest) M') : lc_J S X n k j Q pc lo st M := by
  subst hq; subst hst
  have hr := C.2.2.2.2.2.2.2
  have hcs' : k + R'.cells ≤ rm.cells ∧ j + R'.slots ≤ rm.slots := (by rw [hz.1, hz.2]; exact hcs)
  have kk : lc_J S X n (k + R'.cells) (j + R'.slots) Q (pc + 3) lo (rest) M' := by rw [hz.1, hz.2]; exact kk
  intro H locs ls hG h
  have hA1 : ∀ q : Nat, lc_A S q → lc_A S q := fun _ z => z
  exact va_callv (va_runS (lc_fix C) hM ⟨lc_cB C hf.1.1 hf.1.2.2.1 hf.1.2.2.2 hf.2 hR, C.2.2.2.2.1 _ hf.1.2.1⟩ ⟨lc_blind S M _, fun U hU hW => ⟨rfl, lc_GB hG hU hW.alike⟩⟩ rfl hn h.1 rfl (lv_room hcat) d (by rw [hr]; exact hcs')) hG.2.2.2.1 (fun q _ z => z) hA1 (fun u t H1 l1 ht hvm hp hB hz hk hS => kk H1 l1 ls (lc_back (base := 0) hG.2.2.2.2 ht hvm hB hS) h)
theorem lc_csvA (C : lc_C X cc own n rt rm) {ix mL nA : Nat} {y : MethodName} {b : ByteArray} {ret : Option FieldType} {R' : Room} {As rest : List Value} (hM : lc_MV S X.2.1 y b mL ret R' As M M') (hf : lc_kS own ix y b mL ret nA) (hn : As.length = nA) (hst : st = As.reverse ++ rest) (hcat : (rest.map fun v => v.category).sum ≤ 8) (hR : R'.frames + 1 ≤ rm.frames ∧ 8 + (mL + 11) + R'.locals ≤ rm.locals) (hcs : k + R'.cells ≤ rm.cells ∧ j + R'.slots ≤ rm.slots) (d : decode cc pc = .ok (.invokestatic ix, 3)) (hq : pc + 3 = pc') (kk : lc_J S X n (k + R'.cells) (j + R'.slots) Q pc' lo (rest) M') : lc_J S X n k j Q pc lo st M := by
  subst hq; subst hst
  have hr := C.2.2.2.2.2.2.2
  have hcs' : k + R'.cells ≤ rm.cells ∧ j + R'.slots ≤ rm.slots := hcs
  intro H locs ls hG h
  have hA1 : ∀ q : Nat, lc_A S q → lc_A S q := fun _ z => z
  exact va_callv (va_runS (lc_fix C) hM ⟨lc_cB C hf.1.1 hf.1.2.2.1 hf.1.2.2.2 hf.2 hR, C.2.2.2.2.1 _ hf.1.2.1⟩ ⟨lc_blind S M _, fun U hU hW => ⟨rfl, lc_GB hG hU hW.alike⟩⟩ rfl hn h.1 rfl (lv_room hcat) d (by rw [hr]; exact hcs')) hG.2.2.2.1 (fun q _ z => z) hA1 (fun u t H1 l1 ht hvm hp hB hz hk hS => kk H1 l1 ls (lc_back (base := 0) hG.2.2.2.2 ht hvm hB hS) h)
theorem lc_cni (C : lc_C X cc own n rt rm) {ix mL nA : Nat} {y : MethodName} {host : String} {b : ByteArray} {ret : Option FieldType} {R' : Room} {As rest : List Value} {r : Int32} (hM : lc_MI S X.2.1 y b mL ret R' As M r M') (hf : lc_kN own ix y host b mL ret nA) (hn : As.length = nA) (hst : st = As.reverse ++ rest) (hcat : (rest.map fun v => v.category).sum ≤ 8) (hR : R'.frames + 1 ≤ rm.frames ∧ 8 + (mL + 11) + R'.locals ≤ rm.locals) (hz : R'.cells = 0 ∧ R'.slots = 0) (hcs : k ≤ rm.cells ∧ j ≤ rm.slots) (d : decode cc pc = .ok (.invokestatic ix, 3)) (hq : pc + 3 = pc') (kk : lc_J S X n k j Q pc' lo (.int r :: rest) M') : lc_J S X n k j Q pc lo st M := by
  subst hq; subst hst
  have hr := C.2.2.2.2.2.2.2
  have hcs' : k + R'.cells ≤ rm.cells ∧ j + R'.slots ≤ rm.slots := (by rw [hz.1, hz.2]; exact hcs)
  have kk : lc_J S X n (k + R'.cells) (j + R'.slots) Q (pc + 3) lo (.int r :: rest) M' := by rw [hz.1, hz.2]; exact kk
  intro H locs ls hG h
  have hA1 : ∀ q : Nat, lc_A S q → lc_A S q := fun _ z => z
  exact va_calli (va_runSN (lc_fix C) hM ⟨va_cnB nA C.2.2.2.2.1 (lc_wsin hf.1.2.2.2) rfl rfl rfl (C.2.2.2.2.1 _ hf.1.1) (C.2.2.2.2.1 _ hf.1.2.2.1) hf.2 (by rw [hr]; exact hR), C.2.2.2.2.1 _ hf.1.2.1, trivial⟩ ⟨lc_blind S M _, fun U hU hW => ⟨rfl, lc_GB hG hU hW.alike⟩⟩ rfl hn h.1 rfl (lv_room hcat) d (by rw [hr]; exact hcs')) hG.2.2.2.1 (fun q _ z => z) hA1 (fun x u t H1 l1 ht hvm hp hB hz hk hS => by subst hp; exact kk H1 l1 ls (lc_back (base := 0) hG.2.2.2.2 ht hvm hB hS) h)
theorem lc_cniA (C : lc_C X cc own n rt rm) {ix mL nA : Nat} {y : MethodName} {host : String} {b : ByteArray} {ret : Option FieldType} {R' : Room} {As rest : List Value} {r : Int32} (hM : lc_MI S X.2.1 y b mL ret R' As M r M') (hf : lc_kN own ix y host b mL ret nA) (hn : As.length = nA) (hst : st = As.reverse ++ rest) (hcat : (rest.map fun v => v.category).sum ≤ 8) (hR : R'.frames + 1 ≤ rm.frames ∧ 8 + (mL + 11) + R'.locals ≤ rm.locals) (hcs : k + R'.cells ≤ rm.cells ∧ j + R'.slots ≤ rm.slots) (d : decode cc pc = .ok (.invokestatic ix, 3)) (hq : pc + 3 = pc') (kk : lc_J S X n (k + R'.cells) (j + R'.slots) Q pc' lo (.int r :: rest) M') : lc_J S X n k j Q pc lo st M := by
  subst hq; subst hst
  have hr := C.2.2.2.2.2.2.2
  have hcs' : k + R'.cells ≤ rm.cells ∧ j + R'.slots ≤ rm.slots := hcs
  intro H locs ls hG h
  have hA1 : ∀ q : Nat, lc_A S q → lc_A S q := fun _ z => z
  exact va_calli (va_runSN (lc_fix C) hM ⟨va_cnB nA C.2.2.2.2.1 (lc_wsin hf.1.2.2.2) rfl rfl rfl (C.2.2.2.2.1 _ hf.1.1) (C.2.2.2.2.1 _ hf.1.2.2.1) hf.2 (by rw [hr]; exact hR), C.2.2.2.2.1 _ hf.1.2.1, trivial⟩ ⟨lc_blind S M _, fun U hU hW => ⟨rfl, lc_GB hG hU hW.alike⟩⟩ rfl hn h.1 rfl (lv_room hcat) d (by rw [hr]; exact hcs')) hG.2.2.2.1 (fun q _ z => z) hA1 (fun x u t H1 l1 ht hvm hp hB hz hk hS => by subst hp; exact kk H1 l1 ls (lc_back (base := 0) hG.2.2.2.2 ht hvm hB hS) h)
theorem lc_iret (C : lc_C X cc own n rt rm) {r : Int32} (hrt : rt = some .int) (d : decode cc pc = .ok (.ireturn, 1)) : lc_J S X n k j (lc_QI S X k j r M) pc lo [.int r] M := by
  have hr := C.2.2.2.2.2.2.1
  subst hrt
  exact fun H locs ls hG h => W.iret C.1 C.2.1 hr (fun t ht hW => ⟨⟨r, (), rfl, rfl, lc_GB hG ht hW.alike⟩, hG.2.2.2.1.F ht⟩) hG.2.2.2.1.2.2 d C.2.2.2.2.2.1
theorem lc_zret (C : lc_C X cc own n rt rm) {r : Int32} (hrt : rt = some .boolean) (hb : r = 0 ∨ r = 1) (d : decode cc pc = .ok (.ireturn, 1)) : lc_J S X n k j (lc_QI S X k j r M) pc lo [.int r] M := by
  have hr := C.2.2.2.2.2.2.1
  subst hrt
  exact fun H locs ls hG h => W.zret C.1 C.2.1 hr (by rcases hb with rfl | rfl <;> rfl) (fun t ht hW => ⟨⟨r, (), rfl, rfl, lc_GB hG ht hW.alike⟩, hG.2.2.2.1.F ht⟩) hG.2.2.2.1.2.2 d C.2.2.2.2.2.1
theorem lc_lret (C : lc_C X cc own n rt rm) {r : Int64} (hrt : rt = some .long) (d : decode cc pc = .ok (.lreturn, 1)) : lc_J S X n k j (lc_QL S X k j r M) pc lo [.long r] M := by
  have hr := C.2.2.2.2.2.2.1
  subst hrt
  exact fun H locs ls hG h => W.lret C.1 C.2.1 hr (fun t ht hW => ⟨⟨r, (), rfl, rfl, lc_GB hG ht hW.alike⟩, hG.2.2.2.1.F ht⟩) hG.2.2.2.1.2.2 d C.2.2.2.2.2.1
theorem lc_vret (C : lc_C X cc own n rt rm) (hrt : rt = none) (d : decode cc pc = .ok (.return_, 1)) : lc_J S X n k j (lc_QV S X k j M) pc lo [] M := by
  have hr := C.2.2.2.2.2.2.1
  subst hrt
  exact fun H locs ls hG h => W.vret C.1 C.2.1 hr (fun t ht hW => ⟨⟨(), rfl, trivial, lc_GB hG ht hW.alike⟩, hG.2.2.2.1.F ht⟩) hG.2.2.2.1.2.2 d C.2.2.2.2.2.1
theorem lc_min (C : lc_C X cc own n rt rm) {ix : Nat} {x y : Int32} (hl : Cond.methodLink own ix Lib.Math.min.name ∈ lc_T) (hm : Cond.static Lib.Math.min.name ∈ lc_T ∧ Cond.initialized "java/lang/Math" ∈ lc_T ∧ Cond.code Lib.Math.min.name Lib.Math.min.code 2 (some .int) ∈ lc_T) (hR : 1 ≤ rm.frames ∧ (st.map fun v => v.category).sum + 13 ≤ rm.locals ∧ k ≤ rm.cells ∧ j ≤ rm.slots) (d : decode cc pc = .ok (.invokestatic ix, 3)) (hq : pc + 3 = pc') (kk : lc_J S X n k j Q pc' lo (.int (if y < x then y else x) :: st) M) : lc_J S X n k j Q pc lo (.int y :: .int x :: st) M := by
  subst hq
  have hr := C.2.2.2.2.2.2.2
  exact fun H locs ls hG h => va_mmin C.1 C.2.1 (by rw [h.1]; exact C.2.2.1) C.2.2.2.1 (C.2.2.2.2.1 _ hl) (C.2.2.2.2.1 _ hm.1) (C.2.2.2.2.1 _ hm.2.1) (C.2.2.2.2.1 _ hm.2.2) (by rw [hr]; exact hR.1) (by rw [hr]; exact hR.2.1) (by rw [hr]; exact hR.2.2.1) (by rw [hr]; exact hR.2.2.2) d (kk H locs ls hG h)
end LCK
end
