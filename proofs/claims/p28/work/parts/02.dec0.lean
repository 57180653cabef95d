theorem dX0_init_0 : decode cX0_init 0 = .ok (.aload_n 0, 1) := by decide +kernel
theorem dX0_init_1 : decode cX0_init 1 = .ok (.invokespecial 3, 3) := by decide +kernel
theorem dX0_init_4 : decode cX0_init 4 = .ok (.aload_n 0, 1) := by decide +kernel
theorem dX0_init_5 : decode cX0_init 5 = .ok (.bipush 8, 2) := by decide +kernel
theorem dX0_init_7 : decode cX0_init 7 = .ok (.newarray .int, 2) := by decide +kernel
theorem dX0_init_9 : decode cX0_init 9 = .ok (.putfield 9, 3) := by decide +kernel
theorem dX0_init_12 : decode cX0_init 12 = .ok (.aload_n 0, 1) := by decide +kernel
theorem dX0_init_13 : decode cX0_init 13 = .ok (.bipush 8, 2) := by decide +kernel
theorem dX0_init_15 : decode cX0_init 15 = .ok (.newarray .int, 2) := by decide +kernel
theorem dX0_init_17 : decode cX0_init 17 = .ok (.putfield 15, 3) := by decide +kernel
theorem dX0_init_20 : decode cX0_init 20 = .ok (.aload_n 0, 1) := by decide +kernel
theorem dX0_init_21 : decode cX0_init 21 = .ok (.bipush 8, 2) := by decide +kernel
theorem dX0_init_23 : decode cX0_init 23 = .ok (.newarray .int, 2) := by decide +kernel
theorem dX0_init_25 : decode cX0_init 25 = .ok (.putfield 18, 3) := by decide +kernel
theorem dX0_init_28 : decode cX0_init 28 = .ok (.aload_n 0, 1) := by decide +kernel
theorem dX0_init_29 : decode cX0_init 29 = .ok (.bipush 8, 2) := by decide +kernel
theorem dX0_init_31 : decode cX0_init 31 = .ok (.newarray .int, 2) := by decide +kernel
theorem dX0_init_33 : decode cX0_init 33 = .ok (.putfield 21, 3) := by decide +kernel
theorem dX0_init_36 : decode cX0_init 36 = .ok (.aload_n 0, 1) := by decide +kernel
theorem dX0_init_37 : decode cX0_init 37 = .ok (.bipush 12, 2) := by decide +kernel
theorem dX0_init_39 : decode cX0_init 39 = .ok (.newarray .int, 2) := by decide +kernel
theorem dX0_init_41 : decode cX0_init 41 = .ok (.putfield 24, 3) := by decide +kernel
theorem dX0_init_44 : decode cX0_init 44 = .ok (.aload_n 0, 1) := by decide +kernel
theorem dX0_init_45 : decode cX0_init 45 = .ok (.bipush 12, 2) := by decide +kernel
theorem dX0_init_47 : decode cX0_init 47 = .ok (.newarray .int, 2) := by decide +kernel
theorem dX0_init_49 : decode cX0_init 49 = .ok (.putfield 27, 3) := by decide +kernel
theorem dX0_init_52 : decode cX0_init 52 = .ok (.aload_n 0, 1) := by decide +kernel
theorem dX0_init_53 : decode cX0_init 53 = .ok (.bipush 12, 2) := by decide +kernel
theorem dX0_init_55 : decode cX0_init 55 = .ok (.newarray .int, 2) := by decide +kernel
theorem dX0_init_57 : decode cX0_init 57 = .ok (.putfield 30, 3) := by decide +kernel
theorem dX0_init_60 : decode cX0_init 60 = .ok (.aload_n 0, 1) := by decide +kernel
theorem dX0_init_61 : decode cX0_init 61 = .ok (.bipush 12, 2) := by decide +kernel
theorem dX0_init_63 : decode cX0_init 63 = .ok (.newarray .int, 2) := by decide +kernel
theorem dX0_init_65 : decode cX0_init 65 = .ok (.putfield 33, 3) := by decide +kernel
theorem dX0_init_68 : decode cX0_init 68 = .ok (.aload_n 0, 1) := by decide +kernel
theorem dX0_init_69 : decode cX0_init 69 = .ok (.bipush 12, 2) := by decide +kernel
theorem dX0_init_71 : decode cX0_init 71 = .ok (.newarray .int, 2) := by decide +kernel
theorem dX0_init_73 : decode cX0_init 73 = .ok (.putfield 36, 3) := by decide +kernel
theorem dX0_init_76 : decode cX0_init 76 = .ok (.aload_n 0, 1) := by decide +kernel
theorem dX0_init_77 : decode cX0_init 77 = .ok (.bipush (-9), 2) := by decide +kernel
theorem dX0_init_79 : decode cX0_init 79 = .ok (.putfield 39, 3) := by decide +kernel
theorem dX0_init_82 : decode cX0_init 82 = .ok (.return_, 1) := by decide +kernel
theorem dX0_copyFrom_0 : decode cX0_copyFrom 0 = .ok (.aload_n 1, 1) := by decide +kernel
theorem dX0_copyFrom_1 : decode cX0_copyFrom 1 = .ok (.getfield 9, 3) := by decide +kernel
theorem dX0_copyFrom_4 : decode cX0_copyFrom 4 = .ok (.iconst 0, 1) := by decide +kernel
theorem dX0_copyFrom_5 : decode cX0_copyFrom 5 = .ok (.aload_n 0, 1) := by decide +kernel
theorem dX0_copyFrom_6 : decode cX0_copyFrom 6 = .ok (.getfield 9, 3) := by decide +kernel
theorem dX0_copyFrom_9 : decode cX0_copyFrom 9 = .ok (.iconst 0, 1) := by decide +kernel
theorem dX0_copyFrom_10 : decode cX0_copyFrom 10 = .ok (.bipush 8, 2) := by decide +kernel
theorem dX0_copyFrom_12 : decode cX0_copyFrom 12 = .ok (.invokestatic 67, 3) := by decide +kernel
theorem dX0_copyFrom_15 : decode cX0_copyFrom 15 = .ok (.aload_n 1, 1) := by decide +kernel
theorem dX0_copyFrom_16 : decode cX0_copyFrom 16 = .ok (.getfield 15, 3) := by decide +kernel
theorem dX0_copyFrom_19 : decode cX0_copyFrom 19 = .ok (.iconst 0, 1) := by decide +kernel
theorem dX0_copyFrom_20 : decode cX0_copyFrom 20 = .ok (.aload_n 0, 1) := by decide +kernel
theorem dX0_copyFrom_21 : decode cX0_copyFrom 21 = .ok (.getfield 15, 3) := by decide +kernel
theorem dX0_copyFrom_24 : decode cX0_copyFrom 24 = .ok (.iconst 0, 1) := by decide +kernel
theorem dX0_copyFrom_25 : decode cX0_copyFrom 25 = .ok (.bipush 8, 2) := by decide +kernel
theorem dX0_copyFrom_27 : decode cX0_copyFrom 27 = .ok (.invokestatic 67, 3) := by decide +kernel
theorem dX0_copyFrom_30 : decode cX0_copyFrom 30 = .ok (.aload_n 1, 1) := by decide +kernel
theorem dX0_copyFrom_31 : decode cX0_copyFrom 31 = .ok (.getfield 18, 3) := by decide +kernel
theorem dX0_copyFrom_34 : decode cX0_copyFrom 34 = .ok (.iconst 0, 1) := by decide +kernel
theorem dX0_copyFrom_35 : decode cX0_copyFrom 35 = .ok (.aload_n 0, 1) := by decide +kernel
theorem dX0_copyFrom_36 : decode cX0_copyFrom 36 = .ok (.getfield 18, 3) := by decide +kernel
theorem dX0_copyFrom_39 : decode cX0_copyFrom 39 = .ok (.iconst 0, 1) := by decide +kernel
theorem dX0_copyFrom_40 : decode cX0_copyFrom 40 = .ok (.bipush 8, 2) := by decide +kernel
theorem dX0_copyFrom_42 : decode cX0_copyFrom 42 = .ok (.invokestatic 67, 3) := by decide +kernel
theorem dX0_copyFrom_45 : decode cX0_copyFrom 45 = .ok (.aload_n 1, 1) := by decide +kernel
theorem dX0_copyFrom_46 : decode cX0_copyFrom 46 = .ok (.getfield 21, 3) := by decide +kernel
theorem dX0_copyFrom_49 : decode cX0_copyFrom 49 = .ok (.iconst 0, 1) := by decide +kernel
theorem dX0_copyFrom_50 : decode cX0_copyFrom 50 = .ok (.aload_n 0, 1) := by decide +kernel
theorem dX0_copyFrom_51 : decode cX0_copyFrom 51 = .ok (.getfield 21, 3) := by decide +kernel
theorem dX0_copyFrom_54 : decode cX0_copyFrom 54 = .ok (.iconst 0, 1) := by decide +kernel
theorem dX0_copyFrom_55 : decode cX0_copyFrom 55 = .ok (.bipush 8, 2) := by decide +kernel
theorem dX0_copyFrom_57 : decode cX0_copyFrom 57 = .ok (.invokestatic 67, 3) := by decide +kernel
theorem dX0_copyFrom_60 : decode cX0_copyFrom 60 = .ok (.aload_n 1, 1) := by decide +kernel
theorem dX0_copyFrom_61 : decode cX0_copyFrom 61 = .ok (.getfield 24, 3) := by decide +kernel
theorem dX0_copyFrom_64 : decode cX0_copyFrom 64 = .ok (.iconst 0, 1) := by decide +kernel
theorem dX0_copyFrom_65 : decode cX0_copyFrom 65 = .ok (.aload_n 0, 1) := by decide +kernel
theorem dX0_copyFrom_66 : decode cX0_copyFrom 66 = .ok (.getfield 24, 3) := by decide +kernel
theorem dX0_copyFrom_69 : decode cX0_copyFrom 69 = .ok (.iconst 0, 1) := by decide +kernel
theorem dX0_copyFrom_70 : decode cX0_copyFrom 70 = .ok (.bipush 12, 2) := by decide +kernel
theorem dX0_copyFrom_72 : decode cX0_copyFrom 72 = .ok (.invokestatic 67, 3) := by decide +kernel
theorem dX0_copyFrom_75 : decode cX0_copyFrom 75 = .ok (.aload_n 1, 1) := by decide +kernel
theorem dX0_copyFrom_76 : decode cX0_copyFrom 76 = .ok (.getfield 27, 3) := by decide +kernel
theorem dX0_copyFrom_79 : decode cX0_copyFrom 79 = .ok (.iconst 0, 1) := by decide +kernel
theorem dX0_copyFrom_80 : decode cX0_copyFrom 80 = .ok (.aload_n 0, 1) := by decide +kernel
theorem dX0_copyFrom_81 : decode cX0_copyFrom 81 = .ok (.getfield 27, 3) := by decide +kernel
theorem dX0_copyFrom_84 : decode cX0_copyFrom 84 = .ok (.iconst 0, 1) := by decide +kernel
theorem dX0_copyFrom_85 : decode cX0_copyFrom 85 = .ok (.bipush 12, 2) := by decide +kernel
theorem dX0_copyFrom_87 : decode cX0_copyFrom 87 = .ok (.invokestatic 67, 3) := by decide +kernel
theorem dX0_copyFrom_90 : decode cX0_copyFrom 90 = .ok (.aload_n 1, 1) := by decide +kernel
theorem dX0_copyFrom_91 : decode cX0_copyFrom 91 = .ok (.getfield 30, 3) := by decide +kernel
theorem dX0_copyFrom_94 : decode cX0_copyFrom 94 = .ok (.iconst 0, 1) := by decide +kernel
theorem dX0_copyFrom_95 : decode cX0_copyFrom 95 = .ok (.aload_n 0, 1) := by decide +kernel
theorem dX0_copyFrom_96 : decode cX0_copyFrom 96 = .ok (.getfield 30, 3) := by decide +kernel
theorem dX0_copyFrom_99 : decode cX0_copyFrom 99 = .ok (.iconst 0, 1) := by decide +kernel
theorem dX0_copyFrom_100 : decode cX0_copyFrom 100 = .ok (.bipush 12, 2) := by decide +kernel
theorem dX0_copyFrom_102 : decode cX0_copyFrom 102 = .ok (.invokestatic 67, 3) := by decide +kernel
theorem dX0_copyFrom_105 : decode cX0_copyFrom 105 = .ok (.aload_n 1, 1) := by decide +kernel
theorem dX0_copyFrom_106 : decode cX0_copyFrom 106 = .ok (.getfield 33, 3) := by decide +kernel
theorem dX0_copyFrom_109 : decode cX0_copyFrom 109 = .ok (.iconst 0, 1) := by decide +kernel
theorem dX0_copyFrom_110 : decode cX0_copyFrom 110 = .ok (.aload_n 0, 1) := by decide +kernel
theorem dX0_copyFrom_111 : decode cX0_copyFrom 111 = .ok (.getfield 33, 3) := by decide +kernel
theorem dX0_copyFrom_114 : decode cX0_copyFrom 114 = .ok (.iconst 0, 1) := by decide +kernel
theorem dX0_copyFrom_115 : decode cX0_copyFrom 115 = .ok (.bipush 12, 2) := by decide +kernel
theorem dX0_copyFrom_117 : decode cX0_copyFrom 117 = .ok (.invokestatic 67, 3) := by decide +kernel
theorem dX0_copyFrom_120 : decode cX0_copyFrom 120 = .ok (.aload_n 1, 1) := by decide +kernel
theorem dX0_copyFrom_121 : decode cX0_copyFrom 121 = .ok (.getfield 36, 3) := by decide +kernel
theorem dX0_copyFrom_124 : decode cX0_copyFrom 124 = .ok (.iconst 0, 1) := by decide +kernel
theorem dX0_copyFrom_125 : decode cX0_copyFrom 125 = .ok (.aload_n 0, 1) := by decide +kernel
theorem dX0_copyFrom_126 : decode cX0_copyFrom 126 = .ok (.getfield 36, 3) := by decide +kernel
theorem dX0_copyFrom_129 : decode cX0_copyFrom 129 = .ok (.iconst 0, 1) := by decide +kernel
theorem dX0_copyFrom_130 : decode cX0_copyFrom 130 = .ok (.bipush 12, 2) := by decide +kernel
theorem dX0_copyFrom_132 : decode cX0_copyFrom 132 = .ok (.invokestatic 67, 3) := by decide +kernel
theorem dX0_copyFrom_135 : decode cX0_copyFrom 135 = .ok (.aload_n 0, 1) := by decide +kernel
theorem dX0_copyFrom_136 : decode cX0_copyFrom 136 = .ok (.aload_n 1, 1) := by decide +kernel
theorem dX0_copyFrom_137 : decode cX0_copyFrom 137 = .ok (.getfield 43, 3) := by decide +kernel
theorem dX0_copyFrom_140 : decode cX0_copyFrom 140 = .ok (.putfield 43, 3) := by decide +kernel
theorem dX0_copyFrom_143 : decode cX0_copyFrom 143 = .ok (.aload_n 0, 1) := by decide +kernel
theorem dX0_copyFrom_144 : decode cX0_copyFrom 144 = .ok (.aload_n 1, 1) := by decide +kernel
theorem dX0_copyFrom_145 : decode cX0_copyFrom 145 = .ok (.getfield 46, 3) := by decide +kernel
theorem dX0_copyFrom_148 : decode cX0_copyFrom 148 = .ok (.putfield 46, 3) := by decide +kernel
theorem dX0_copyFrom_151 : decode cX0_copyFrom 151 = .ok (.aload_n 0, 1) := by decide +kernel
theorem dX0_copyFrom_152 : decode cX0_copyFrom 152 = .ok (.aload_n 1, 1) := by decide +kernel
theorem dX0_copyFrom_153 : decode cX0_copyFrom 153 = .ok (.getfield 49, 3) := by decide +kernel
theorem dX0_copyFrom_156 : decode cX0_copyFrom 156 = .ok (.putfield 49, 3) := by decide +kernel
theorem dX0_copyFrom_159 : decode cX0_copyFrom 159 = .ok (.aload_n 0, 1) := by decide +kernel
theorem dX0_copyFrom_160 : decode cX0_copyFrom 160 = .ok (.aload_n 1, 1) := by decide +kernel
theorem dX0_copyFrom_161 : decode cX0_copyFrom 161 = .ok (.getfield 52, 3) := by decide +kernel
theorem dX0_copyFrom_164 : decode cX0_copyFrom 164 = .ok (.putfield 52, 3) := by decide +kernel
theorem dX0_copyFrom_167 : decode cX0_copyFrom 167 = .ok (.aload_n 0, 1) := by decide +kernel
theorem dX0_copyFrom_168 : decode cX0_copyFrom 168 = .ok (.aload_n 1, 1) := by decide +kernel
theorem dX0_copyFrom_169 : decode cX0_copyFrom 169 = .ok (.getfield 55, 3) := by decide +kernel
theorem dX0_copyFrom_172 : decode cX0_copyFrom 172 = .ok (.putfield 55, 3) := by decide +kernel
theorem dX0_copyFrom_175 : decode cX0_copyFrom 175 = .ok (.aload_n 0, 1) := by decide +kernel
theorem dX0_copyFrom_176 : decode cX0_copyFrom 176 = .ok (.aload_n 1, 1) := by decide +kernel
theorem dX0_copyFrom_177 : decode cX0_copyFrom 177 = .ok (.getfield 58, 3) := by decide +kernel
theorem dX0_copyFrom_180 : decode cX0_copyFrom 180 = .ok (.putfield 58, 3) := by decide +kernel
theorem dX0_copyFrom_183 : decode cX0_copyFrom 183 = .ok (.aload_n 0, 1) := by decide +kernel
theorem dX0_copyFrom_184 : decode cX0_copyFrom 184 = .ok (.aload_n 1, 1) := by decide +kernel
theorem dX0_copyFrom_185 : decode cX0_copyFrom 185 = .ok (.getfield 61, 3) := by decide +kernel
theorem dX0_copyFrom_188 : decode cX0_copyFrom 188 = .ok (.putfield 61, 3) := by decide +kernel
theorem dX0_copyFrom_191 : decode cX0_copyFrom 191 = .ok (.aload_n 0, 1) := by decide +kernel
theorem dX0_copyFrom_192 : decode cX0_copyFrom 192 = .ok (.bipush (-9), 2) := by decide +kernel
theorem dX0_copyFrom_194 : decode cX0_copyFrom 194 = .ok (.putfield 39, 3) := by decide +kernel
theorem dX0_copyFrom_197 : decode cX0_copyFrom 197 = .ok (.aload_n 0, 1) := by decide +kernel
theorem dX0_copyFrom_198 : decode cX0_copyFrom 198 = .ok (.iconst 0, 1) := by decide +kernel
theorem dX0_copyFrom_199 : decode cX0_copyFrom 199 = .ok (.putfield 64, 3) := by decide +kernel
theorem dX0_copyFrom_202 : decode cX0_copyFrom 202 = .ok (.return_, 1) := by decide +kernel
theorem dX0_hasCell_0 : decode cX0_hasCell 0 = .ok (.iload_n 1, 1) := by decide +kernel
theorem dX0_hasCell_1 : decode cX0_hasCell 1 = .ok (.ifCond .lt 15, 3) := by decide +kernel
theorem dX0_hasCell_4 : decode cX0_hasCell 4 = .ok (.iload_n 1, 1) := by decide +kernel
theorem dX0_hasCell_5 : decode cX0_hasCell 5 = .ok (.aload_n 0, 1) := by decide +kernel
theorem dX0_hasCell_6 : decode cX0_hasCell 6 = .ok (.getfield 43, 3) := by decide +kernel
theorem dX0_hasCell_9 : decode cX0_hasCell 9 = .ok (.if_icmp .ge 7, 3) := by decide +kernel
theorem dX0_hasCell_12 : decode cX0_hasCell 12 = .ok (.iconst 1, 1) := by decide +kernel
theorem dX0_hasCell_13 : decode cX0_hasCell 13 = .ok (.goto 4, 3) := by decide +kernel
theorem dX0_hasCell_16 : decode cX0_hasCell 16 = .ok (.iconst 0, 1) := by decide +kernel
theorem dX0_hasCell_17 : decode cX0_hasCell 17 = .ok (.ireturn, 1) := by decide +kernel
theorem dX0_hasLoan_0 : decode cX0_hasLoan 0 = .ok (.iload_n 1, 1) := by decide +kernel
theorem dX0_hasLoan_1 : decode cX0_hasLoan 1 = .ok (.ifCond .lt 15, 3) := by decide +kernel
theorem dX0_hasLoan_4 : decode cX0_hasLoan 4 = .ok (.iload_n 1, 1) := by decide +kernel
theorem dX0_hasLoan_5 : decode cX0_hasLoan 5 = .ok (.aload_n 0, 1) := by decide +kernel
theorem dX0_hasLoan_6 : decode cX0_hasLoan 6 = .ok (.getfield 46, 3) := by decide +kernel
theorem dX0_hasLoan_9 : decode cX0_hasLoan 9 = .ok (.if_icmp .ge 7, 3) := by decide +kernel
theorem dX0_hasLoan_12 : decode cX0_hasLoan 12 = .ok (.iconst 1, 1) := by decide +kernel
theorem dX0_hasLoan_13 : decode cX0_hasLoan 13 = .ok (.goto 4, 3) := by decide +kernel
theorem dX0_hasLoan_16 : decode cX0_hasLoan 16 = .ok (.iconst 0, 1) := by decide +kernel
theorem dX0_hasLoan_17 : decode cX0_hasLoan 17 = .ok (.ireturn, 1) := by decide +kernel
theorem dX0_isBankrupt_0 : decode cX0_isBankrupt 0 = .ok (.iload_n 1, 1) := by decide +kernel
theorem dX0_isBankrupt_1 : decode cX0_isBankrupt 1 = .ok (.ifCond .lt 25, 3) := by decide +kernel
theorem dX0_isBankrupt_4 : decode cX0_isBankrupt 4 = .ok (.iload_n 1, 1) := by decide +kernel
theorem dX0_isBankrupt_5 : decode cX0_isBankrupt 5 = .ok (.aload_n 0, 1) := by decide +kernel
theorem dX0_isBankrupt_6 : decode cX0_isBankrupt 6 = .ok (.getfield 43, 3) := by decide +kernel
theorem dX0_isBankrupt_9 : decode cX0_isBankrupt 9 = .ok (.if_icmp .ge 17, 3) := by decide +kernel
theorem dX0_isBankrupt_12 : decode cX0_isBankrupt 12 = .ok (.aload_n 0, 1) := by decide +kernel
theorem dX0_isBankrupt_13 : decode cX0_isBankrupt 13 = .ok (.getfield 21, 3) := by decide +kernel
theorem dX0_isBankrupt_16 : decode cX0_isBankrupt 16 = .ok (.iload_n 1, 1) := by decide +kernel
theorem dX0_isBankrupt_17 : decode cX0_isBankrupt 17 = .ok (.iaload, 1) := by decide +kernel
theorem dX0_isBankrupt_18 : decode cX0_isBankrupt 18 = .ok (.iconst 3, 1) := by decide +kernel
theorem dX0_isBankrupt_19 : decode cX0_isBankrupt 19 = .ok (.if_icmp .lt 7, 3) := by decide +kernel
theorem dX0_isBankrupt_22 : decode cX0_isBankrupt 22 = .ok (.iconst 1, 1) := by decide +kernel
theorem dX0_isBankrupt_23 : decode cX0_isBankrupt 23 = .ok (.goto 4, 3) := by decide +kernel
theorem dX0_isBankrupt_26 : decode cX0_isBankrupt 26 = .ok (.iconst 0, 1) := by decide +kernel
theorem dX0_isBankrupt_27 : decode cX0_isBankrupt 27 = .ok (.ireturn, 1) := by decide +kernel
theorem dX0_chargeOf_0 : decode cX0_chargeOf 0 = .ok (.aload_n 0, 1) := by decide +kernel
theorem dX0_chargeOf_1 : decode cX0_chargeOf 1 = .ok (.iload_n 1, 1) := by decide +kernel
theorem dX0_chargeOf_2 : decode cX0_chargeOf 2 = .ok (.invokevirtual 73, 3) := by decide +kernel
theorem dX0_chargeOf_5 : decode cX0_chargeOf 5 = .ok (.ifCond .eq 12, 3) := by decide +kernel
theorem dX0_chargeOf_8 : decode cX0_chargeOf 8 = .ok (.aload_n 0, 1) := by decide +kernel
theorem dX0_chargeOf_9 : decode cX0_chargeOf 9 = .ok (.getfield 15, 3) := by decide +kernel
theorem dX0_chargeOf_12 : decode cX0_chargeOf 12 = .ok (.iload_n 1, 1) := by decide +kernel
theorem dX0_chargeOf_13 : decode cX0_chargeOf 13 = .ok (.iaload, 1) := by decide +kernel
theorem dX0_chargeOf_14 : decode cX0_chargeOf 14 = .ok (.goto 4, 3) := by decide +kernel
theorem dX0_chargeOf_17 : decode cX0_chargeOf 17 = .ok (.iconst 0, 1) := by decide +kernel
theorem dX0_chargeOf_18 : decode cX0_chargeOf 18 = .ok (.ireturn, 1) := by decide +kernel
theorem dX0_roomOf_0 : decode cX0_roomOf 0 = .ok (.aload_n 0, 1) := by decide +kernel
theorem dX0_roomOf_1 : decode cX0_roomOf 1 = .ok (.iload_n 1, 1) := by decide +kernel
theorem dX0_roomOf_2 : decode cX0_roomOf 2 = .ok (.invokevirtual 73, 3) := by decide +kernel
theorem dX0_roomOf_5 : decode cX0_roomOf 5 = .ok (.ifCond .eq 19, 3) := by decide +kernel
theorem dX0_roomOf_8 : decode cX0_roomOf 8 = .ok (.aload_n 0, 1) := by decide +kernel
theorem dX0_roomOf_9 : decode cX0_roomOf 9 = .ok (.getfield 9, 3) := by decide +kernel
theorem dX0_roomOf_12 : decode cX0_roomOf 12 = .ok (.iload_n 1, 1) := by decide +kernel
theorem dX0_roomOf_13 : decode cX0_roomOf 13 = .ok (.iaload, 1) := by decide +kernel
theorem dX0_roomOf_14 : decode cX0_roomOf 14 = .ok (.aload_n 0, 1) := by decide +kernel
theorem dX0_roomOf_15 : decode cX0_roomOf 15 = .ok (.getfield 15, 3) := by decide +kernel
theorem dX0_roomOf_18 : decode cX0_roomOf 18 = .ok (.iload_n 1, 1) := by decide +kernel
theorem dX0_roomOf_19 : decode cX0_roomOf 19 = .ok (.iaload, 1) := by decide +kernel
theorem dX0_roomOf_20 : decode cX0_roomOf 20 = .ok (.isub, 1) := by decide +kernel
theorem dX0_roomOf_21 : decode cX0_roomOf 21 = .ok (.goto 4, 3) := by decide +kernel
theorem dX0_roomOf_24 : decode cX0_roomOf 24 = .ok (.iconst 0, 1) := by decide +kernel
theorem dX0_roomOf_25 : decode cX0_roomOf 25 = .ok (.ireturn, 1) := by decide +kernel
theorem dX0_allCharge_0 : decode cX0_allCharge 0 = .ok (.iconst 0, 1) := by decide +kernel
theorem dX0_allCharge_1 : decode cX0_allCharge 1 = .ok (.istore_n 1, 1) := by decide +kernel
theorem dX0_allCharge_2 : decode cX0_allCharge 2 = .ok (.iconst 0, 1) := by decide +kernel
theorem dX0_allCharge_3 : decode cX0_allCharge 3 = .ok (.istore_n 2, 1) := by decide +kernel
theorem dX0_allCharge_4 : decode cX0_allCharge 4 = .ok (.iload_n 2, 1) := by decide +kernel
theorem dX0_allCharge_5 : decode cX0_allCharge 5 = .ok (.aload_n 0, 1) := by decide +kernel
theorem dX0_allCharge_6 : decode cX0_allCharge 6 = .ok (.getfield 43, 3) := by decide +kernel
theorem dX0_allCharge_9 : decode cX0_allCharge 9 = .ok (.if_icmp .ge 18, 3) := by decide +kernel
theorem dX0_allCharge_12 : decode cX0_allCharge 12 = .ok (.iload_n 1, 1) := by decide +kernel
theorem dX0_allCharge_13 : decode cX0_allCharge 13 = .ok (.aload_n 0, 1) := by decide +kernel
theorem dX0_allCharge_14 : decode cX0_allCharge 14 = .ok (.getfield 15, 3) := by decide +kernel
theorem dX0_allCharge_17 : decode cX0_allCharge 17 = .ok (.iload_n 2, 1) := by decide +kernel
theorem dX0_allCharge_18 : decode cX0_allCharge 18 = .ok (.iaload, 1) := by decide +kernel
theorem dX0_allCharge_19 : decode cX0_allCharge 19 = .ok (.iadd, 1) := by decide +kernel
theorem dX0_allCharge_20 : decode cX0_allCharge 20 = .ok (.istore_n 1, 1) := by decide +kernel
theorem dX0_allCharge_21 : decode cX0_allCharge 21 = .ok (.iinc 2 1, 3) := by decide +kernel
theorem dX0_allCharge_24 : decode cX0_allCharge 24 = .ok (.goto (-20), 3) := by decide +kernel
theorem dX0_allCharge_27 : decode cX0_allCharge 27 = .ok (.iload_n 1, 1) := by decide +kernel
theorem dX0_allCharge_28 : decode cX0_allCharge 28 = .ok (.ireturn, 1) := by decide +kernel
theorem dX0_allOwed_0 : decode cX0_allOwed 0 = .ok (.iconst 0, 1) := by decide +kernel
theorem dX0_allOwed_1 : decode cX0_allOwed 1 = .ok (.istore_n 1, 1) := by decide +kernel
theorem dX0_allOwed_2 : decode cX0_allOwed 2 = .ok (.iconst 0, 1) := by decide +kernel
theorem dX0_allOwed_3 : decode cX0_allOwed 3 = .ok (.istore_n 2, 1) := by decide +kernel
theorem dX0_allOwed_4 : decode cX0_allOwed 4 = .ok (.iload_n 2, 1) := by decide +kernel
theorem dX0_allOwed_5 : decode cX0_allOwed 5 = .ok (.aload_n 0, 1) := by decide +kernel
theorem dX0_allOwed_6 : decode cX0_allOwed 6 = .ok (.getfield 46, 3) := by decide +kernel
theorem dX0_allOwed_9 : decode cX0_allOwed 9 = .ok (.if_icmp .ge 18, 3) := by decide +kernel
theorem dX0_allOwed_12 : decode cX0_allOwed 12 = .ok (.iload_n 1, 1) := by decide +kernel
theorem dX0_allOwed_13 : decode cX0_allOwed 13 = .ok (.aload_n 0, 1) := by decide +kernel
theorem dX0_allOwed_14 : decode cX0_allOwed 14 = .ok (.getfield 30, 3) := by decide +kernel
theorem dX0_allOwed_17 : decode cX0_allOwed 17 = .ok (.iload_n 2, 1) := by decide +kernel
theorem dX0_allOwed_18 : decode cX0_allOwed 18 = .ok (.iaload, 1) := by decide +kernel
theorem dX0_allOwed_19 : decode cX0_allOwed 19 = .ok (.iadd, 1) := by decide +kernel
theorem dX0_allOwed_20 : decode cX0_allOwed 20 = .ok (.istore_n 1, 1) := by decide +kernel
theorem dX0_allOwed_21 : decode cX0_allOwed 21 = .ok (.iinc 2 1, 3) := by decide +kernel
theorem dX0_allOwed_24 : decode cX0_allOwed 24 = .ok (.goto (-20), 3) := by decide +kernel
theorem dX0_allOwed_27 : decode cX0_allOwed 27 = .ok (.iload_n 1, 1) := by decide +kernel
theorem dX0_allOwed_28 : decode cX0_allOwed 28 = .ok (.ireturn, 1) := by decide +kernel
theorem dX0_bankruptCells_0 : decode cX0_bankruptCells 0 = .ok (.iconst 0, 1) := by decide +kernel
theorem dX0_bankruptCells_1 : decode cX0_bankruptCells 1 = .ok (.istore_n 1, 1) := by decide +kernel
theorem dX0_bankruptCells_2 : decode cX0_bankruptCells 2 = .ok (.iconst 0, 1) := by decide +kernel
theorem dX0_bankruptCells_3 : decode cX0_bankruptCells 3 = .ok (.istore_n 2, 1) := by decide +kernel
theorem dX0_bankruptCells_4 : decode cX0_bankruptCells 4 = .ok (.iload_n 2, 1) := by decide +kernel
theorem dX0_bankruptCells_5 : decode cX0_bankruptCells 5 = .ok (.aload_n 0, 1) := by decide +kernel
theorem dX0_bankruptCells_6 : decode cX0_bankruptCells 6 = .ok (.getfield 43, 3) := by decide +kernel
theorem dX0_bankruptCells_9 : decode cX0_bankruptCells 9 = .ok (.if_icmp .ge 23, 3) := by decide +kernel
theorem dX0_bankruptCells_12 : decode cX0_bankruptCells 12 = .ok (.aload_n 0, 1) := by decide +kernel
theorem dX0_bankruptCells_13 : decode cX0_bankruptCells 13 = .ok (.iload_n 2, 1) := by decide +kernel
theorem dX0_bankruptCells_14 : decode cX0_bankruptCells 14 = .ok (.invokevirtual 77, 3) := by decide +kernel
theorem dX0_bankruptCells_17 : decode cX0_bankruptCells 17 = .ok (.ifCond .eq 9, 3) := by decide +kernel
theorem dX0_bankruptCells_20 : decode cX0_bankruptCells 20 = .ok (.iload_n 1, 1) := by decide +kernel
theorem dX0_bankruptCells_21 : decode cX0_bankruptCells 21 = .ok (.iconst 1, 1) := by decide +kernel
theorem dX0_bankruptCells_22 : decode cX0_bankruptCells 22 = .ok (.iload_n 2, 1) := by decide +kernel
theorem dX0_bankruptCells_23 : decode cX0_bankruptCells 23 = .ok (.ishl, 1) := by decide +kernel
theorem dX0_bankruptCells_24 : decode cX0_bankruptCells 24 = .ok (.ior, 1) := by decide +kernel
theorem dX0_bankruptCells_25 : decode cX0_bankruptCells 25 = .ok (.istore_n 1, 1) := by decide +kernel
theorem dX0_bankruptCells_26 : decode cX0_bankruptCells 26 = .ok (.iinc 2 1, 3) := by decide +kernel
theorem dX0_bankruptCells_29 : decode cX0_bankruptCells 29 = .ok (.goto (-25), 3) := by decide +kernel
theorem dX0_bankruptCells_32 : decode cX0_bankruptCells 32 = .ok (.iload_n 1, 1) := by decide +kernel
theorem dX0_bankruptCells_33 : decode cX0_bankruptCells 33 = .ok (.ireturn, 1) := by decide +kernel
theorem dX0_owedBy_0 : decode cX0_owedBy 0 = .ok (.iconst 0, 1) := by decide +kernel
theorem dX0_owedBy_1 : decode cX0_owedBy 1 = .ok (.istore_n 2, 1) := by decide +kernel
theorem dX0_owedBy_2 : decode cX0_owedBy 2 = .ok (.iconst 0, 1) := by decide +kernel
theorem dX0_owedBy_3 : decode cX0_owedBy 3 = .ok (.istore_n 3, 1) := by decide +kernel
theorem dX0_owedBy_4 : decode cX0_owedBy 4 = .ok (.iload_n 3, 1) := by decide +kernel
theorem dX0_owedBy_5 : decode cX0_owedBy 5 = .ok (.aload_n 0, 1) := by decide +kernel
theorem dX0_owedBy_6 : decode cX0_owedBy 6 = .ok (.getfield 46, 3) := by decide +kernel
theorem dX0_owedBy_9 : decode cX0_owedBy 9 = .ok (.if_icmp .ge 28, 3) := by decide +kernel
theorem dX0_owedBy_12 : decode cX0_owedBy 12 = .ok (.aload_n 0, 1) := by decide +kernel
theorem dX0_owedBy_13 : decode cX0_owedBy 13 = .ok (.getfield 27, 3) := by decide +kernel
theorem dX0_owedBy_16 : decode cX0_owedBy 16 = .ok (.iload_n 3, 1) := by decide +kernel
theorem dX0_owedBy_17 : decode cX0_owedBy 17 = .ok (.iaload, 1) := by decide +kernel
theorem dX0_owedBy_18 : decode cX0_owedBy 18 = .ok (.iload_n 1, 1) := by decide +kernel
theorem dX0_owedBy_19 : decode cX0_owedBy 19 = .ok (.if_icmp .ne 12, 3) := by decide +kernel
theorem dX0_owedBy_22 : decode cX0_owedBy 22 = .ok (.iload_n 2, 1) := by decide +kernel
theorem dX0_owedBy_23 : decode cX0_owedBy 23 = .ok (.aload_n 0, 1) := by decide +kernel
theorem dX0_owedBy_24 : decode cX0_owedBy 24 = .ok (.getfield 30, 3) := by decide +kernel
theorem dX0_owedBy_27 : decode cX0_owedBy 27 = .ok (.iload_n 3, 1) := by decide +kernel
theorem dX0_owedBy_28 : decode cX0_owedBy 28 = .ok (.iaload, 1) := by decide +kernel
theorem dX0_owedBy_29 : decode cX0_owedBy 29 = .ok (.iadd, 1) := by decide +kernel
theorem dX0_owedBy_30 : decode cX0_owedBy 30 = .ok (.istore_n 2, 1) := by decide +kernel
theorem dX0_owedBy_31 : decode cX0_owedBy 31 = .ok (.iinc 3 1, 3) := by decide +kernel
theorem dX0_owedBy_34 : decode cX0_owedBy 34 = .ok (.goto (-30), 3) := by decide +kernel
theorem dX0_owedBy_37 : decode cX0_owedBy 37 = .ok (.iload_n 2, 1) := by decide +kernel
theorem dX0_owedBy_38 : decode cX0_owedBy 38 = .ok (.ireturn, 1) := by decide +kernel
theorem dX0_owedTo_0 : decode cX0_owedTo 0 = .ok (.iconst 0, 1) := by decide +kernel
theorem dX0_owedTo_1 : decode cX0_owedTo 1 = .ok (.istore_n 2, 1) := by decide +kernel
theorem dX0_owedTo_2 : decode cX0_owedTo 2 = .ok (.iconst 0, 1) := by decide +kernel
theorem dX0_owedTo_3 : decode cX0_owedTo 3 = .ok (.istore_n 3, 1) := by decide +kernel
theorem dX0_owedTo_4 : decode cX0_owedTo 4 = .ok (.iload_n 3, 1) := by decide +kernel
theorem dX0_owedTo_5 : decode cX0_owedTo 5 = .ok (.aload_n 0, 1) := by decide +kernel
theorem dX0_owedTo_6 : decode cX0_owedTo 6 = .ok (.getfield 46, 3) := by decide +kernel
theorem dX0_owedTo_9 : decode cX0_owedTo 9 = .ok (.if_icmp .ge 28, 3) := by decide +kernel
theorem dX0_owedTo_12 : decode cX0_owedTo 12 = .ok (.aload_n 0, 1) := by decide +kernel
theorem dX0_owedTo_13 : decode cX0_owedTo 13 = .ok (.getfield 24, 3) := by decide +kernel
theorem dX0_owedTo_16 : decode cX0_owedTo 16 = .ok (.iload_n 3, 1) := by decide +kernel
theorem dX0_owedTo_17 : decode cX0_owedTo 17 = .ok (.iaload, 1) := by decide +kernel
theorem dX0_owedTo_18 : decode cX0_owedTo 18 = .ok (.iload_n 1, 1) := by decide +kernel
theorem dX0_owedTo_19 : decode cX0_owedTo 19 = .ok (.if_icmp .ne 12, 3) := by decide +kernel
theorem dX0_owedTo_22 : decode cX0_owedTo 22 = .ok (.iload_n 2, 1) := by decide +kernel
theorem dX0_owedTo_23 : decode cX0_owedTo 23 = .ok (.aload_n 0, 1) := by decide +kernel
theorem dX0_owedTo_24 : decode cX0_owedTo 24 = .ok (.getfield 30, 3) := by decide +kernel
theorem dX0_owedTo_27 : decode cX0_owedTo 27 = .ok (.iload_n 3, 1) := by decide +kernel
theorem dX0_owedTo_28 : decode cX0_owedTo 28 = .ok (.iaload, 1) := by decide +kernel
theorem dX0_owedTo_29 : decode cX0_owedTo 29 = .ok (.iadd, 1) := by decide +kernel
theorem dX0_owedTo_30 : decode cX0_owedTo 30 = .ok (.istore_n 2, 1) := by decide +kernel
theorem dX0_owedTo_31 : decode cX0_owedTo 31 = .ok (.iinc 3 1, 3) := by decide +kernel
theorem dX0_owedTo_34 : decode cX0_owedTo 34 = .ok (.goto (-30), 3) := by decide +kernel
theorem dX0_owedTo_37 : decode cX0_owedTo 37 = .ok (.iload_n 2, 1) := by decide +kernel
theorem dX0_owedTo_38 : decode cX0_owedTo 38 = .ok (.ireturn, 1) := by decide +kernel
theorem dX0_interestOf_0 : decode cX0_interestOf 0 = .ok (.aload_n 0, 1) := by decide +kernel
theorem dX0_interestOf_1 : decode cX0_interestOf 1 = .ok (.iload_n 1, 1) := by decide +kernel
theorem dX0_interestOf_2 : decode cX0_interestOf 2 = .ok (.invokevirtual 80, 3) := by decide +kernel
theorem dX0_interestOf_5 : decode cX0_interestOf 5 = .ok (.ifCond .eq 25, 3) := by decide +kernel
theorem dX0_interestOf_8 : decode cX0_interestOf 8 = .ok (.aload_n 0, 1) := by decide +kernel
theorem dX0_interestOf_9 : decode cX0_interestOf 9 = .ok (.getfield 30, 3) := by decide +kernel
theorem dX0_interestOf_12 : decode cX0_interestOf 12 = .ok (.iload_n 1, 1) := by decide +kernel
theorem dX0_interestOf_13 : decode cX0_interestOf 13 = .ok (.iaload, 1) := by decide +kernel
theorem dX0_interestOf_14 : decode cX0_interestOf 14 = .ok (.aload_n 0, 1) := by decide +kernel
theorem dX0_interestOf_15 : decode cX0_interestOf 15 = .ok (.getfield 33, 3) := by decide +kernel
theorem dX0_interestOf_18 : decode cX0_interestOf 18 = .ok (.iload_n 1, 1) := by decide +kernel
theorem dX0_interestOf_19 : decode cX0_interestOf 19 = .ok (.iaload, 1) := by decide +kernel
theorem dX0_interestOf_20 : decode cX0_interestOf 20 = .ok (.imul, 1) := by decide +kernel
theorem dX0_interestOf_21 : decode cX0_interestOf 21 = .ok (.bipush 99, 2) := by decide +kernel
theorem dX0_interestOf_23 : decode cX0_interestOf 23 = .ok (.iadd, 1) := by decide +kernel
theorem dX0_interestOf_24 : decode cX0_interestOf 24 = .ok (.bipush 100, 2) := by decide +kernel
theorem dX0_interestOf_26 : decode cX0_interestOf 26 = .ok (.idiv, 1) := by decide +kernel
theorem dX0_interestOf_27 : decode cX0_interestOf 27 = .ok (.goto 4, 3) := by decide +kernel
theorem dX0_interestOf_30 : decode cX0_interestOf 30 = .ok (.iconst 0, 1) := by decide +kernel
theorem dX0_interestOf_31 : decode cX0_interestOf 31 = .ok (.ireturn, 1) := by decide +kernel
theorem dX0_interestBy_0 : decode cX0_interestBy 0 = .ok (.iconst 0, 1) := by decide +kernel
theorem dX0_interestBy_1 : decode cX0_interestBy 1 = .ok (.istore_n 2, 1) := by decide +kernel
theorem dX0_interestBy_2 : decode cX0_interestBy 2 = .ok (.iconst 0, 1) := by decide +kernel
theorem dX0_interestBy_3 : decode cX0_interestBy 3 = .ok (.istore_n 3, 1) := by decide +kernel
theorem dX0_interestBy_4 : decode cX0_interestBy 4 = .ok (.iload_n 3, 1) := by decide +kernel
theorem dX0_interestBy_5 : decode cX0_interestBy 5 = .ok (.aload_n 0, 1) := by decide +kernel
theorem dX0_interestBy_6 : decode cX0_interestBy 6 = .ok (.getfield 46, 3) := by decide +kernel
theorem dX0_interestBy_9 : decode cX0_interestBy 9 = .ok (.if_icmp .ge 27, 3) := by decide +kernel
theorem dX0_interestBy_12 : decode cX0_interestBy 12 = .ok (.aload_n 0, 1) := by decide +kernel
theorem dX0_interestBy_13 : decode cX0_interestBy 13 = .ok (.getfield 27, 3) := by decide +kernel
theorem dX0_interestBy_16 : decode cX0_interestBy 16 = .ok (.iload_n 3, 1) := by decide +kernel
theorem dX0_interestBy_17 : decode cX0_interestBy 17 = .ok (.iaload, 1) := by decide +kernel
theorem dX0_interestBy_18 : decode cX0_interestBy 18 = .ok (.iload_n 1, 1) := by decide +kernel
theorem dX0_interestBy_19 : decode cX0_interestBy 19 = .ok (.if_icmp .ne 11, 3) := by decide +kernel
theorem dX0_interestBy_22 : decode cX0_interestBy 22 = .ok (.iload_n 2, 1) := by decide +kernel
theorem dX0_interestBy_23 : decode cX0_interestBy 23 = .ok (.aload_n 0, 1) := by decide +kernel
theorem dX0_interestBy_24 : decode cX0_interestBy 24 = .ok (.iload_n 3, 1) := by decide +kernel
theorem dX0_interestBy_25 : decode cX0_interestBy 25 = .ok (.invokevirtual 83, 3) := by decide +kernel
theorem dX0_interestBy_28 : decode cX0_interestBy 28 = .ok (.iadd, 1) := by decide +kernel
theorem dX0_interestBy_29 : decode cX0_interestBy 29 = .ok (.istore_n 2, 1) := by decide +kernel
theorem dX0_interestBy_30 : decode cX0_interestBy 30 = .ok (.iinc 3 1, 3) := by decide +kernel
theorem dX0_interestBy_33 : decode cX0_interestBy 33 = .ok (.goto (-29), 3) := by decide +kernel
theorem dX0_interestBy_36 : decode cX0_interestBy 36 = .ok (.iload_n 2, 1) := by decide +kernel
theorem dX0_interestBy_37 : decode cX0_interestBy 37 = .ok (.ireturn, 1) := by decide +kernel
theorem dX0_kindOf_0 : decode cX0_kindOf 0 = .ok (.aload_n 0, 1) := by decide +kernel
theorem dX0_kindOf_1 : decode cX0_kindOf 1 = .ok (.iload_n 1, 1) := by decide +kernel
theorem dX0_kindOf_2 : decode cX0_kindOf 2 = .ok (.invokevirtual 77, 3) := by decide +kernel
theorem dX0_kindOf_5 : decode cX0_kindOf 5 = .ok (.ifCond .eq 5, 3) := by decide +kernel
theorem dX0_kindOf_8 : decode cX0_kindOf 8 = .ok (.iconst 3, 1) := by decide +kernel
theorem dX0_kindOf_9 : decode cX0_kindOf 9 = .ok (.ireturn, 1) := by decide +kernel
theorem dX0_kindOf_10 : decode cX0_kindOf 10 = .ok (.aload_n 0, 1) := by decide +kernel
theorem dX0_kindOf_11 : decode cX0_kindOf 11 = .ok (.iload_n 1, 1) := by decide +kernel
theorem dX0_kindOf_12 : decode cX0_kindOf 12 = .ok (.invokevirtual 73, 3) := by decide +kernel
theorem dX0_kindOf_15 : decode cX0_kindOf 15 = .ok (.ifCond .eq 14, 3) := by decide +kernel
theorem dX0_kindOf_18 : decode cX0_kindOf 18 = .ok (.aload_n 0, 1) := by decide +kernel
theorem dX0_kindOf_19 : decode cX0_kindOf 19 = .ok (.getfield 21, 3) := by decide +kernel
theorem dX0_kindOf_22 : decode cX0_kindOf 22 = .ok (.iload_n 1, 1) := by decide +kernel
theorem dX0_kindOf_23 : decode cX0_kindOf 23 = .ok (.iaload, 1) := by decide +kernel
theorem dX0_kindOf_24 : decode cX0_kindOf 24 = .ok (.ifCond .le 5, 3) := by decide +kernel
theorem dX0_kindOf_27 : decode cX0_kindOf 27 = .ok (.iconst 2, 1) := by decide +kernel
theorem dX0_kindOf_28 : decode cX0_kindOf 28 = .ok (.ireturn, 1) := by decide +kernel
theorem dX0_kindOf_29 : decode cX0_kindOf 29 = .ok (.aload_n 0, 1) := by decide +kernel
theorem dX0_kindOf_30 : decode cX0_kindOf 30 = .ok (.iload_n 1, 1) := by decide +kernel
theorem dX0_kindOf_31 : decode cX0_kindOf 31 = .ok (.invokevirtual 87, 3) := by decide +kernel
theorem dX0_kindOf_34 : decode cX0_kindOf 34 = .ok (.ifCond .le 7, 3) := by decide +kernel
theorem dX0_kindOf_37 : decode cX0_kindOf 37 = .ok (.iconst 1, 1) := by decide +kernel
theorem dX0_kindOf_38 : decode cX0_kindOf 38 = .ok (.goto 4, 3) := by decide +kernel
theorem dX0_kindOf_41 : decode cX0_kindOf 41 = .ok (.iconst 0, 1) := by decide +kernel
theorem dX0_kindOf_42 : decode cX0_kindOf 42 = .ok (.ireturn, 1) := by decide +kernel
theorem dX0_putCell_0 : decode cX0_putCell 0 = .ok (.aload_n 0, 1) := by decide +kernel
theorem dX0_putCell_1 : decode cX0_putCell 1 = .ok (.getfield 43, 3) := by decide +kernel
theorem dX0_putCell_4 : decode cX0_putCell 4 = .ok (.bipush 8, 2) := by decide +kernel
theorem dX0_putCell_6 : decode cX0_putCell 6 = .ok (.if_icmp .lt 6, 3) := by decide +kernel
theorem dX0_putCell_9 : decode cX0_putCell 9 = .ok (.bipush (-9), 2) := by decide +kernel
theorem dX0_putCell_11 : decode cX0_putCell 11 = .ok (.ireturn, 1) := by decide +kernel
theorem dX0_putCell_12 : decode cX0_putCell 12 = .ok (.aload_n 0, 1) := by decide +kernel
theorem dX0_putCell_13 : decode cX0_putCell 13 = .ok (.getfield 43, 3) := by decide +kernel
theorem dX0_putCell_16 : decode cX0_putCell 16 = .ok (.istore 4, 2) := by decide +kernel
theorem dX0_putCell_18 : decode cX0_putCell 18 = .ok (.aload_n 0, 1) := by decide +kernel
theorem dX0_putCell_19 : decode cX0_putCell 19 = .ok (.getfield 9, 3) := by decide +kernel
theorem dX0_putCell_22 : decode cX0_putCell 22 = .ok (.iload 4, 2) := by decide +kernel
theorem dX0_putCell_24 : decode cX0_putCell 24 = .ok (.iload_n 1, 1) := by decide +kernel
theorem dX0_putCell_25 : decode cX0_putCell 25 = .ok (.iastore, 1) := by decide +kernel
theorem dX0_putCell_26 : decode cX0_putCell 26 = .ok (.aload_n 0, 1) := by decide +kernel
theorem dX0_putCell_27 : decode cX0_putCell 27 = .ok (.getfield 15, 3) := by decide +kernel
theorem dX0_putCell_30 : decode cX0_putCell 30 = .ok (.iload 4, 2) := by decide +kernel
theorem dX0_putCell_32 : decode cX0_putCell 32 = .ok (.iload_n 2, 1) := by decide +kernel
theorem dX0_putCell_33 : decode cX0_putCell 33 = .ok (.iastore, 1) := by decide +kernel
theorem dX0_putCell_34 : decode cX0_putCell 34 = .ok (.aload_n 0, 1) := by decide +kernel
theorem dX0_putCell_35 : decode cX0_putCell 35 = .ok (.getfield 18, 3) := by decide +kernel
theorem dX0_putCell_38 : decode cX0_putCell 38 = .ok (.iload 4, 2) := by decide +kernel
theorem dX0_putCell_40 : decode cX0_putCell 40 = .ok (.iload_n 3, 1) := by decide +kernel
theorem dX0_putCell_41 : decode cX0_putCell 41 = .ok (.iastore, 1) := by decide +kernel
theorem dX0_putCell_42 : decode cX0_putCell 42 = .ok (.aload_n 0, 1) := by decide +kernel
theorem dX0_putCell_43 : decode cX0_putCell 43 = .ok (.getfield 21, 3) := by decide +kernel
theorem dX0_putCell_46 : decode cX0_putCell 46 = .ok (.iload 4, 2) := by decide +kernel
theorem dX0_putCell_48 : decode cX0_putCell 48 = .ok (.iconst 0, 1) := by decide +kernel
theorem dX0_putCell_49 : decode cX0_putCell 49 = .ok (.iastore, 1) := by decide +kernel
theorem dX0_putCell_50 : decode cX0_putCell 50 = .ok (.aload_n 0, 1) := by decide +kernel
theorem dX0_putCell_51 : decode cX0_putCell 51 = .ok (.dup, 1) := by decide +kernel
theorem dX0_putCell_52 : decode cX0_putCell 52 = .ok (.getfield 52, 3) := by decide +kernel
theorem dX0_putCell_55 : decode cX0_putCell 55 = .ok (.iload_n 2, 1) := by decide +kernel
theorem dX0_putCell_56 : decode cX0_putCell 56 = .ok (.iadd, 1) := by decide +kernel
theorem dX0_putCell_57 : decode cX0_putCell 57 = .ok (.putfield 52, 3) := by decide +kernel
theorem dX0_putCell_60 : decode cX0_putCell 60 = .ok (.aload_n 0, 1) := by decide +kernel
theorem dX0_putCell_61 : decode cX0_putCell 61 = .ok (.dup, 1) := by decide +kernel
theorem dX0_putCell_62 : decode cX0_putCell 62 = .ok (.getfield 43, 3) := by decide +kernel
theorem dX0_putCell_65 : decode cX0_putCell 65 = .ok (.iconst 1, 1) := by decide +kernel
theorem dX0_putCell_66 : decode cX0_putCell 66 = .ok (.iadd, 1) := by decide +kernel
theorem dX0_putCell_67 : decode cX0_putCell 67 = .ok (.putfield 43, 3) := by decide +kernel
theorem dX0_putCell_70 : decode cX0_putCell 70 = .ok (.iload 4, 2) := by decide +kernel
theorem dX0_putCell_72 : decode cX0_putCell 72 = .ok (.ireturn, 1) := by decide +kernel
theorem dX0_arriving_0 : decode cX0_arriving 0 = .ok (.iload_n 2, 1) := by decide +kernel
theorem dX0_arriving_1 : decode cX0_arriving 1 = .ok (.iload_n 3, 1) := by decide +kernel
theorem dX0_arriving_2 : decode cX0_arriving 2 = .ok (.if_icmp .ge 9, 3) := by decide +kernel
theorem dX0_arriving_5 : decode cX0_arriving 5 = .ok (.iload_n 3, 1) := by decide +kernel
theorem dX0_arriving_6 : decode cX0_arriving 6 = .ok (.iload_n 2, 1) := by decide +kernel
theorem dX0_arriving_7 : decode cX0_arriving 7 = .ok (.isub, 1) := by decide +kernel
theorem dX0_arriving_8 : decode cX0_arriving 8 = .ok (.goto 6, 3) := by decide +kernel
theorem dX0_arriving_11 : decode cX0_arriving 11 = .ok (.iload_n 2, 1) := by decide +kernel
theorem dX0_arriving_12 : decode cX0_arriving 12 = .ok (.iload_n 3, 1) := by decide +kernel
theorem dX0_arriving_13 : decode cX0_arriving 13 = .ok (.isub, 1) := by decide +kernel
theorem dX0_arriving_14 : decode cX0_arriving 14 = .ok (.istore 4, 2) := by decide +kernel
theorem dX0_arriving_16 : decode cX0_arriving 16 = .ok (.iload_n 1, 1) := by decide +kernel
theorem dX0_arriving_17 : decode cX0_arriving 17 = .ok (.iload_n 1, 1) := by decide +kernel
theorem dX0_arriving_18 : decode cX0_arriving 18 = .ok (.iload 4, 2) := by decide +kernel
theorem dX0_arriving_20 : decode cX0_arriving 20 = .ok (.imul, 1) := by decide +kernel
theorem dX0_arriving_21 : decode cX0_arriving 21 = .ok (.bipush 20, 2) := by decide +kernel
theorem dX0_arriving_23 : decode cX0_arriving 23 = .ok (.idiv, 1) := by decide +kernel
theorem dX0_arriving_24 : decode cX0_arriving 24 = .ok (.isub, 1) := by decide +kernel
theorem dX0_arriving_25 : decode cX0_arriving 25 = .ok (.ireturn, 1) := by decide +kernel
theorem dX0_sizeToBring_0 : decode cX0_sizeToBring 0 = .ok (.iload_n 1, 1) := by decide +kernel
theorem dX0_sizeToBring_1 : decode cX0_sizeToBring 1 = .ok (.istore 4, 2) := by decide +kernel
theorem dX0_sizeToBring_3 : decode cX0_sizeToBring 3 = .ok (.iload 4, 2) := by decide +kernel
theorem dX0_sizeToBring_5 : decode cX0_sizeToBring 5 = .ok (.iconst 2, 1) := by decide +kernel
theorem dX0_sizeToBring_6 : decode cX0_sizeToBring 6 = .ok (.iload_n 1, 1) := by decide +kernel
theorem dX0_sizeToBring_7 : decode cX0_sizeToBring 7 = .ok (.imul, 1) := by decide +kernel
theorem dX0_sizeToBring_8 : decode cX0_sizeToBring 8 = .ok (.if_icmp .ge 24, 3) := by decide +kernel
theorem dX0_sizeToBring_11 : decode cX0_sizeToBring 11 = .ok (.aload_n 0, 1) := by decide +kernel
theorem dX0_sizeToBring_12 : decode cX0_sizeToBring 12 = .ok (.iload 4, 2) := by decide +kernel
theorem dX0_sizeToBring_14 : decode cX0_sizeToBring 14 = .ok (.iload_n 2, 1) := by decide +kernel
theorem dX0_sizeToBring_15 : decode cX0_sizeToBring 15 = .ok (.iload_n 3, 1) := by decide +kernel
theorem dX0_sizeToBring_16 : decode cX0_sizeToBring 16 = .ok (.invokevirtual 96, 3) := by decide +kernel
theorem dX0_sizeToBring_19 : decode cX0_sizeToBring 19 = .ok (.iload_n 1, 1) := by decide +kernel
theorem dX0_sizeToBring_20 : decode cX0_sizeToBring 20 = .ok (.if_icmp .lt 6, 3) := by decide +kernel
theorem dX0_sizeToBring_23 : decode cX0_sizeToBring 23 = .ok (.iload 4, 2) := by decide +kernel
theorem dX0_sizeToBring_25 : decode cX0_sizeToBring 25 = .ok (.ireturn, 1) := by decide +kernel
theorem dX0_sizeToBring_26 : decode cX0_sizeToBring 26 = .ok (.iinc 4 1, 3) := by decide +kernel
theorem dX0_sizeToBring_29 : decode cX0_sizeToBring 29 = .ok (.goto (-26), 3) := by decide +kernel
theorem dX0_sizeToBring_32 : decode cX0_sizeToBring 32 = .ok (.iconst 2, 1) := by decide +kernel
theorem dX0_sizeToBring_33 : decode cX0_sizeToBring 33 = .ok (.iload_n 1, 1) := by decide +kernel
theorem dX0_sizeToBring_34 : decode cX0_sizeToBring 34 = .ok (.imul, 1) := by decide +kernel
theorem dX0_sizeToBring_35 : decode cX0_sizeToBring 35 = .ok (.ireturn, 1) := by decide +kernel
theorem dX0_shuttle_0 : decode cX0_shuttle 0 = .ok (.aload_n 0, 1) := by decide +kernel
theorem dX0_shuttle_1 : decode cX0_shuttle 1 = .ok (.iload_n 2, 1) := by decide +kernel
theorem dX0_shuttle_2 : decode cX0_shuttle 2 = .ok (.invokevirtual 73, 3) := by decide +kernel
theorem dX0_shuttle_5 : decode cX0_shuttle 5 = .ok (.ifCond .eq 11, 3) := by decide +kernel
theorem dX0_shuttle_8 : decode cX0_shuttle 8 = .ok (.aload_n 0, 1) := by decide +kernel
theorem dX0_shuttle_9 : decode cX0_shuttle 9 = .ok (.iload_n 3, 1) := by decide +kernel
theorem dX0_shuttle_10 : decode cX0_shuttle 10 = .ok (.invokevirtual 73, 3) := by decide +kernel
theorem dX0_shuttle_13 : decode cX0_shuttle 13 = .ok (.ifCond .ne 5, 3) := by decide +kernel
theorem dX0_shuttle_16 : decode cX0_shuttle 16 = .ok (.iconst 0, 1) := by decide +kernel
theorem dX0_shuttle_17 : decode cX0_shuttle 17 = .ok (.ireturn, 1) := by decide +kernel
theorem dX0_shuttle_18 : decode cX0_shuttle 18 = .ok (.aload_n 0, 1) := by decide +kernel
theorem dX0_shuttle_19 : decode cX0_shuttle 19 = .ok (.iload_n 1, 1) := by decide +kernel
theorem dX0_shuttle_20 : decode cX0_shuttle 20 = .ok (.iload_n 2, 1) := by decide +kernel
theorem dX0_shuttle_21 : decode cX0_shuttle 21 = .ok (.iload_n 3, 1) := by decide +kernel
theorem dX0_shuttle_22 : decode cX0_shuttle 22 = .ok (.invokevirtual 96, 3) := by decide +kernel
theorem dX0_shuttle_25 : decode cX0_shuttle 25 = .ok (.istore 4, 2) := by decide +kernel
theorem dX0_shuttle_27 : decode cX0_shuttle 27 = .ok (.aload_n 0, 1) := by decide +kernel
theorem dX0_shuttle_28 : decode cX0_shuttle 28 = .ok (.getfield 15, 3) := by decide +kernel
theorem dX0_shuttle_31 : decode cX0_shuttle 31 = .ok (.iload_n 2, 1) := by decide +kernel
theorem dX0_shuttle_32 : decode cX0_shuttle 32 = .ok (.dup2, 1) := by decide +kernel
theorem dX0_shuttle_33 : decode cX0_shuttle 33 = .ok (.iaload, 1) := by decide +kernel
theorem dX0_shuttle_34 : decode cX0_shuttle 34 = .ok (.iload_n 1, 1) := by decide +kernel
theorem dX0_shuttle_35 : decode cX0_shuttle 35 = .ok (.isub, 1) := by decide +kernel
theorem dX0_shuttle_36 : decode cX0_shuttle 36 = .ok (.iastore, 1) := by decide +kernel
theorem dX0_shuttle_37 : decode cX0_shuttle 37 = .ok (.aload_n 0, 1) := by decide +kernel
theorem dX0_shuttle_38 : decode cX0_shuttle 38 = .ok (.getfield 15, 3) := by decide +kernel
theorem dX0_shuttle_41 : decode cX0_shuttle 41 = .ok (.iload_n 3, 1) := by decide +kernel
theorem dX0_shuttle_42 : decode cX0_shuttle 42 = .ok (.dup2, 1) := by decide +kernel
theorem dX0_shuttle_43 : decode cX0_shuttle 43 = .ok (.iaload, 1) := by decide +kernel
theorem dX0_shuttle_44 : decode cX0_shuttle 44 = .ok (.iload 4, 2) := by decide +kernel
theorem dX0_shuttle_46 : decode cX0_shuttle 46 = .ok (.iadd, 1) := by decide +kernel
theorem dX0_shuttle_47 : decode cX0_shuttle 47 = .ok (.iastore, 1) := by decide +kernel
theorem dX0_shuttle_48 : decode cX0_shuttle 48 = .ok (.aload_n 0, 1) := by decide +kernel
theorem dX0_shuttle_49 : decode cX0_shuttle 49 = .ok (.dup, 1) := by decide +kernel
theorem dX0_shuttle_50 : decode cX0_shuttle 50 = .ok (.getfield 58, 3) := by decide +kernel
theorem dX0_shuttle_53 : decode cX0_shuttle 53 = .ok (.iload_n 1, 1) := by decide +kernel
theorem dX0_shuttle_54 : decode cX0_shuttle 54 = .ok (.iload 4, 2) := by decide +kernel
theorem dX0_shuttle_56 : decode cX0_shuttle 56 = .ok (.isub, 1) := by decide +kernel
theorem dX0_shuttle_57 : decode cX0_shuttle 57 = .ok (.iadd, 1) := by decide +kernel
theorem dX0_shuttle_58 : decode cX0_shuttle 58 = .ok (.putfield 58, 3) := by decide +kernel
theorem dX0_shuttle_61 : decode cX0_shuttle 61 = .ok (.iload 4, 2) := by decide +kernel
theorem dX0_shuttle_63 : decode cX0_shuttle 63 = .ok (.ireturn, 1) := by decide +kernel
theorem dX0_canLend_0 : decode cX0_canLend 0 = .ok (.aload_n 0, 1) := by decide +kernel
theorem dX0_canLend_1 : decode cX0_canLend 1 = .ok (.iload_n 1, 1) := by decide +kernel
theorem dX0_canLend_2 : decode cX0_canLend 2 = .ok (.invokevirtual 73, 3) := by decide +kernel
theorem dX0_canLend_5 : decode cX0_canLend 5 = .ok (.ifCond .eq 16, 3) := by decide +kernel
theorem dX0_canLend_8 : decode cX0_canLend 8 = .ok (.aload_n 0, 1) := by decide +kernel
theorem dX0_canLend_9 : decode cX0_canLend 9 = .ok (.iload_n 2, 1) := by decide +kernel
theorem dX0_canLend_10 : decode cX0_canLend 10 = .ok (.invokevirtual 73, 3) := by decide +kernel
theorem dX0_canLend_13 : decode cX0_canLend 13 = .ok (.ifCond .eq 8, 3) := by decide +kernel
theorem dX0_canLend_16 : decode cX0_canLend 16 = .ok (.iload_n 1, 1) := by decide +kernel
theorem dX0_canLend_17 : decode cX0_canLend 17 = .ok (.iload_n 2, 1) := by decide +kernel
theorem dX0_canLend_18 : decode cX0_canLend 18 = .ok (.if_icmp .ne 5, 3) := by decide +kernel
theorem dX0_canLend_21 : decode cX0_canLend 21 = .ok (.iconst 0, 1) := by decide +kernel
theorem dX0_canLend_22 : decode cX0_canLend 22 = .ok (.ireturn, 1) := by decide +kernel
theorem dX0_canLend_23 : decode cX0_canLend 23 = .ok (.aload_n 0, 1) := by decide +kernel
theorem dX0_canLend_24 : decode cX0_canLend 24 = .ok (.iload_n 1, 1) := by decide +kernel
theorem dX0_canLend_25 : decode cX0_canLend 25 = .ok (.invokevirtual 77, 3) := by decide +kernel
theorem dX0_canLend_28 : decode cX0_canLend 28 = .ok (.ifCond .ne 20, 3) := by decide +kernel
theorem dX0_canLend_31 : decode cX0_canLend 31 = .ok (.aload_n 0, 1) := by decide +kernel
theorem dX0_canLend_32 : decode cX0_canLend 32 = .ok (.iload_n 2, 1) := by decide +kernel
theorem dX0_canLend_33 : decode cX0_canLend 33 = .ok (.invokevirtual 77, 3) := by decide +kernel
theorem dX0_canLend_36 : decode cX0_canLend 36 = .ok (.ifCond .ne 12, 3) := by decide +kernel
theorem dX0_canLend_39 : decode cX0_canLend 39 = .ok (.aload_n 0, 1) := by decide +kernel
theorem dX0_canLend_40 : decode cX0_canLend 40 = .ok (.getfield 46, 3) := by decide +kernel
theorem dX0_canLend_43 : decode cX0_canLend 43 = .ok (.bipush 12, 2) := by decide +kernel
theorem dX0_canLend_45 : decode cX0_canLend 45 = .ok (.if_icmp .lt 5, 3) := by decide +kernel
theorem dX0_canLend_48 : decode cX0_canLend 48 = .ok (.iconst 0, 1) := by decide +kernel
theorem dX0_canLend_49 : decode cX0_canLend 49 = .ok (.ireturn, 1) := by decide +kernel
theorem dX0_canLend_50 : decode cX0_canLend 50 = .ok (.aload_n 0, 1) := by decide +kernel
theorem dX0_canLend_51 : decode cX0_canLend 51 = .ok (.iload_n 1, 1) := by decide +kernel
theorem dX0_canLend_52 : decode cX0_canLend 52 = .ok (.invokevirtual 93, 3) := by decide +kernel
theorem dX0_canLend_55 : decode cX0_canLend 55 = .ok (.iload_n 3, 1) := by decide +kernel
theorem dX0_canLend_56 : decode cX0_canLend 56 = .ok (.if_icmp .lt 22, 3) := by decide +kernel
theorem dX0_canLend_59 : decode cX0_canLend 59 = .ok (.aload_n 0, 1) := by decide +kernel
theorem dX0_canLend_60 : decode cX0_canLend 60 = .ok (.iload_n 3, 1) := by decide +kernel
theorem dX0_canLend_61 : decode cX0_canLend 61 = .ok (.iload_n 1, 1) := by decide +kernel
theorem dX0_canLend_62 : decode cX0_canLend 62 = .ok (.iload_n 2, 1) := by decide +kernel
theorem dX0_canLend_63 : decode cX0_canLend 63 = .ok (.invokevirtual 96, 3) := by decide +kernel
theorem dX0_canLend_66 : decode cX0_canLend 66 = .ok (.aload_n 0, 1) := by decide +kernel
theorem dX0_canLend_67 : decode cX0_canLend 67 = .ok (.iload_n 2, 1) := by decide +kernel
theorem dX0_canLend_68 : decode cX0_canLend 68 = .ok (.invokevirtual 100, 3) := by decide +kernel
theorem dX0_canLend_71 : decode cX0_canLend 71 = .ok (.if_icmp .gt 7, 3) := by decide +kernel
theorem dX0_canLend_74 : decode cX0_canLend 74 = .ok (.iconst 1, 1) := by decide +kernel
theorem dX0_canLend_75 : decode cX0_canLend 75 = .ok (.goto 4, 3) := by decide +kernel
theorem dX0_canLend_78 : decode cX0_canLend 78 = .ok (.iconst 0, 1) := by decide +kernel
theorem dX0_canLend_79 : decode cX0_canLend 79 = .ok (.ireturn, 1) := by decide +kernel
theorem dX0_makeLoan_0 : decode cX0_makeLoan 0 = .ok (.aload_n 0, 1) := by decide +kernel
theorem dX0_makeLoan_1 : decode cX0_makeLoan 1 = .ok (.getfield 46, 3) := by decide +kernel
theorem dX0_makeLoan_4 : decode cX0_makeLoan 4 = .ok (.bipush 12, 2) := by decide +kernel
theorem dX0_makeLoan_6 : decode cX0_makeLoan 6 = .ok (.if_icmp .ge 13, 3) := by decide +kernel
theorem dX0_makeLoan_9 : decode cX0_makeLoan 9 = .ok (.aload_n 0, 1) := by decide +kernel
theorem dX0_makeLoan_10 : decode cX0_makeLoan 10 = .ok (.iload_n 1, 1) := by decide +kernel
theorem dX0_makeLoan_11 : decode cX0_makeLoan 11 = .ok (.iload_n 2, 1) := by decide +kernel
theorem dX0_makeLoan_12 : decode cX0_makeLoan 12 = .ok (.iload_n 3, 1) := by decide +kernel
theorem dX0_makeLoan_13 : decode cX0_makeLoan 13 = .ok (.invokevirtual 103, 3) := by decide +kernel
theorem dX0_makeLoan_16 : decode cX0_makeLoan 16 = .ok (.ifCond .ne 6, 3) := by decide +kernel
theorem dX0_makeLoan_19 : decode cX0_makeLoan 19 = .ok (.bipush (-9), 2) := by decide +kernel
theorem dX0_makeLoan_21 : decode cX0_makeLoan 21 = .ok (.ireturn, 1) := by decide +kernel
theorem dX0_makeLoan_22 : decode cX0_makeLoan 22 = .ok (.aload_n 0, 1) := by decide +kernel
theorem dX0_makeLoan_23 : decode cX0_makeLoan 23 = .ok (.getfield 46, 3) := by decide +kernel
theorem dX0_makeLoan_26 : decode cX0_makeLoan 26 = .ok (.istore 5, 2) := by decide +kernel
theorem dX0_makeLoan_28 : decode cX0_makeLoan 28 = .ok (.aload_n 0, 1) := by decide +kernel
theorem dX0_makeLoan_29 : decode cX0_makeLoan 29 = .ok (.getfield 24, 3) := by decide +kernel
theorem dX0_makeLoan_32 : decode cX0_makeLoan 32 = .ok (.iload 5, 2) := by decide +kernel
theorem dX0_makeLoan_34 : decode cX0_makeLoan 34 = .ok (.iload_n 1, 1) := by decide +kernel
theorem dX0_makeLoan_35 : decode cX0_makeLoan 35 = .ok (.iastore, 1) := by decide +kernel
theorem dX0_makeLoan_36 : decode cX0_makeLoan 36 = .ok (.aload_n 0, 1) := by decide +kernel
theorem dX0_makeLoan_37 : decode cX0_makeLoan 37 = .ok (.getfield 27, 3) := by decide +kernel
theorem dX0_makeLoan_40 : decode cX0_makeLoan 40 = .ok (.iload 5, 2) := by decide +kernel
theorem dX0_makeLoan_42 : decode cX0_makeLoan 42 = .ok (.iload_n 2, 1) := by decide +kernel
theorem dX0_makeLoan_43 : decode cX0_makeLoan 43 = .ok (.iastore, 1) := by decide +kernel
theorem dX0_makeLoan_44 : decode cX0_makeLoan 44 = .ok (.aload_n 0, 1) := by decide +kernel
theorem dX0_makeLoan_45 : decode cX0_makeLoan 45 = .ok (.getfield 30, 3) := by decide +kernel
theorem dX0_makeLoan_48 : decode cX0_makeLoan 48 = .ok (.iload 5, 2) := by decide +kernel
theorem dX0_makeLoan_50 : decode cX0_makeLoan 50 = .ok (.iload_n 3, 1) := by decide +kernel
theorem dX0_makeLoan_51 : decode cX0_makeLoan 51 = .ok (.iastore, 1) := by decide +kernel
theorem dX0_makeLoan_52 : decode cX0_makeLoan 52 = .ok (.aload_n 0, 1) := by decide +kernel
theorem dX0_makeLoan_53 : decode cX0_makeLoan 53 = .ok (.getfield 33, 3) := by decide +kernel
theorem dX0_makeLoan_56 : decode cX0_makeLoan 56 = .ok (.iload 5, 2) := by decide +kernel
theorem dX0_makeLoan_58 : decode cX0_makeLoan 58 = .ok (.iload 4, 2) := by decide +kernel
theorem dX0_makeLoan_60 : decode cX0_makeLoan 60 = .ok (.iastore, 1) := by decide +kernel
theorem dX0_makeLoan_61 : decode cX0_makeLoan 61 = .ok (.aload_n 0, 1) := by decide +kernel
theorem dX0_makeLoan_62 : decode cX0_makeLoan 62 = .ok (.getfield 36, 3) := by decide +kernel
theorem dX0_makeLoan_65 : decode cX0_makeLoan 65 = .ok (.iload 5, 2) := by decide +kernel
theorem dX0_makeLoan_67 : decode cX0_makeLoan 67 = .ok (.aload_n 0, 1) := by decide +kernel
theorem dX0_makeLoan_68 : decode cX0_makeLoan 68 = .ok (.iload_n 3, 1) := by decide +kernel
theorem dX0_makeLoan_69 : decode cX0_makeLoan 69 = .ok (.iload_n 1, 1) := by decide +kernel
theorem dX0_makeLoan_70 : decode cX0_makeLoan 70 = .ok (.iload_n 2, 1) := by decide +kernel
theorem dX0_makeLoan_71 : decode cX0_makeLoan 71 = .ok (.invokevirtual 107, 3) := by decide +kernel
theorem dX0_makeLoan_74 : decode cX0_makeLoan 74 = .ok (.iastore, 1) := by decide +kernel
theorem dX0_makeLoan_75 : decode cX0_makeLoan 75 = .ok (.aload_n 0, 1) := by decide +kernel
theorem dX0_makeLoan_76 : decode cX0_makeLoan 76 = .ok (.dup, 1) := by decide +kernel
theorem dX0_makeLoan_77 : decode cX0_makeLoan 77 = .ok (.getfield 46, 3) := by decide +kernel
theorem dX0_makeLoan_80 : decode cX0_makeLoan 80 = .ok (.iconst 1, 1) := by decide +kernel
theorem dX0_makeLoan_81 : decode cX0_makeLoan 81 = .ok (.iadd, 1) := by decide +kernel
theorem dX0_makeLoan_82 : decode cX0_makeLoan 82 = .ok (.putfield 46, 3) := by decide +kernel
theorem dX0_makeLoan_85 : decode cX0_makeLoan 85 = .ok (.aload_n 0, 1) := by decide +kernel
theorem dX0_makeLoan_86 : decode cX0_makeLoan 86 = .ok (.getfield 36, 3) := by decide +kernel
theorem dX0_makeLoan_89 : decode cX0_makeLoan 89 = .ok (.iload 5, 2) := by decide +kernel
theorem dX0_makeLoan_91 : decode cX0_makeLoan 91 = .ok (.iaload, 1) := by decide +kernel
theorem dX0_makeLoan_92 : decode cX0_makeLoan 92 = .ok (.ireturn, 1) := by decide +kernel
theorem dX0_canPayBack_0 : decode cX0_canPayBack 0 = .ok (.aload_n 0, 1) := by decide +kernel
theorem dX0_canPayBack_1 : decode cX0_canPayBack 1 = .ok (.iload_n 1, 1) := by decide +kernel
theorem dX0_canPayBack_2 : decode cX0_canPayBack 2 = .ok (.invokevirtual 80, 3) := by decide +kernel
theorem dX0_canPayBack_5 : decode cX0_canPayBack 5 = .ok (.ifCond .eq 27, 3) := by decide +kernel
theorem dX0_canPayBack_8 : decode cX0_canPayBack 8 = .ok (.aload_n 0, 1) := by decide +kernel
theorem dX0_canPayBack_9 : decode cX0_canPayBack 9 = .ok (.getfield 30, 3) := by decide +kernel
theorem dX0_canPayBack_12 : decode cX0_canPayBack 12 = .ok (.iload_n 1, 1) := by decide +kernel
theorem dX0_canPayBack_13 : decode cX0_canPayBack 13 = .ok (.iaload, 1) := by decide +kernel
theorem dX0_canPayBack_14 : decode cX0_canPayBack 14 = .ok (.iload_n 2, 1) := by decide +kernel
theorem dX0_canPayBack_15 : decode cX0_canPayBack 15 = .ok (.if_icmp .lt 17, 3) := by decide +kernel
theorem dX0_canPayBack_18 : decode cX0_canPayBack 18 = .ok (.aload_n 0, 1) := by decide +kernel
theorem dX0_canPayBack_19 : decode cX0_canPayBack 19 = .ok (.aload_n 0, 1) := by decide +kernel
theorem dX0_canPayBack_20 : decode cX0_canPayBack 20 = .ok (.getfield 27, 3) := by decide +kernel
theorem dX0_canPayBack_23 : decode cX0_canPayBack 23 = .ok (.iload_n 1, 1) := by decide +kernel
theorem dX0_canPayBack_24 : decode cX0_canPayBack 24 = .ok (.iaload, 1) := by decide +kernel
theorem dX0_canPayBack_25 : decode cX0_canPayBack 25 = .ok (.invokevirtual 93, 3) := by decide +kernel
theorem dX0_canPayBack_28 : decode cX0_canPayBack 28 = .ok (.iload_n 2, 1) := by decide +kernel
theorem dX0_canPayBack_29 : decode cX0_canPayBack 29 = .ok (.if_icmp .ge 5, 3) := by decide +kernel
theorem dX0_canPayBack_32 : decode cX0_canPayBack 32 = .ok (.iconst 0, 1) := by decide +kernel
theorem dX0_canPayBack_33 : decode cX0_canPayBack 33 = .ok (.ireturn, 1) := by decide +kernel
theorem dX0_canPayBack_34 : decode cX0_canPayBack 34 = .ok (.aload_n 0, 1) := by decide +kernel
theorem dX0_canPayBack_35 : decode cX0_canPayBack 35 = .ok (.iload_n 2, 1) := by decide +kernel
theorem dX0_canPayBack_36 : decode cX0_canPayBack 36 = .ok (.aload_n 0, 1) := by decide +kernel
theorem dX0_canPayBack_37 : decode cX0_canPayBack 37 = .ok (.getfield 27, 3) := by decide +kernel
theorem dX0_canPayBack_40 : decode cX0_canPayBack 40 = .ok (.iload_n 1, 1) := by decide +kernel
theorem dX0_canPayBack_41 : decode cX0_canPayBack 41 = .ok (.iaload, 1) := by decide +kernel
theorem dX0_canPayBack_42 : decode cX0_canPayBack 42 = .ok (.aload_n 0, 1) := by decide +kernel
theorem dX0_canPayBack_43 : decode cX0_canPayBack 43 = .ok (.getfield 24, 3) := by decide +kernel
theorem dX0_canPayBack_46 : decode cX0_canPayBack 46 = .ok (.iload_n 1, 1) := by decide +kernel
theorem dX0_canPayBack_47 : decode cX0_canPayBack 47 = .ok (.iaload, 1) := by decide +kernel
theorem dX0_canPayBack_48 : decode cX0_canPayBack 48 = .ok (.invokevirtual 96, 3) := by decide +kernel
theorem dX0_canPayBack_51 : decode cX0_canPayBack 51 = .ok (.aload_n 0, 1) := by decide +kernel
theorem dX0_canPayBack_52 : decode cX0_canPayBack 52 = .ok (.aload_n 0, 1) := by decide +kernel
theorem dX0_canPayBack_53 : decode cX0_canPayBack 53 = .ok (.getfield 24, 3) := by decide +kernel
theorem dX0_canPayBack_56 : decode cX0_canPayBack 56 = .ok (.iload_n 1, 1) := by decide +kernel
theorem dX0_canPayBack_57 : decode cX0_canPayBack 57 = .ok (.iaload, 1) := by decide +kernel
theorem dX0_canPayBack_58 : decode cX0_canPayBack 58 = .ok (.invokevirtual 100, 3) := by decide +kernel
theorem dX0_canPayBack_61 : decode cX0_canPayBack 61 = .ok (.if_icmp .gt 7, 3) := by decide +kernel
theorem dX0_canPayBack_64 : decode cX0_canPayBack 64 = .ok (.iconst 1, 1) := by decide +kernel
theorem dX0_canPayBack_65 : decode cX0_canPayBack 65 = .ok (.goto 4, 3) := by decide +kernel
theorem dX0_canPayBack_68 : decode cX0_canPayBack 68 = .ok (.iconst 0, 1) := by decide +kernel
theorem dX0_canPayBack_69 : decode cX0_canPayBack 69 = .ok (.ireturn, 1) := by decide +kernel
theorem dX0_payBack_0 : decode cX0_payBack 0 = .ok (.aload_n 0, 1) := by decide +kernel
theorem dX0_payBack_1 : decode cX0_payBack 1 = .ok (.iload_n 1, 1) := by decide +kernel
theorem dX0_payBack_2 : decode cX0_payBack 2 = .ok (.invokevirtual 80, 3) := by decide +kernel
theorem dX0_payBack_5 : decode cX0_payBack 5 = .ok (.ifCond .eq 12, 3) := by decide +kernel
theorem dX0_payBack_8 : decode cX0_payBack 8 = .ok (.aload_n 0, 1) := by decide +kernel
theorem dX0_payBack_9 : decode cX0_payBack 9 = .ok (.iload_n 1, 1) := by decide +kernel
theorem dX0_payBack_10 : decode cX0_payBack 10 = .ok (.iload_n 2, 1) := by decide +kernel
theorem dX0_payBack_11 : decode cX0_payBack 11 = .ok (.invokevirtual 110, 3) := by decide +kernel
theorem dX0_payBack_14 : decode cX0_payBack 14 = .ok (.ifCond .ne 6, 3) := by decide +kernel
theorem dX0_payBack_17 : decode cX0_payBack 17 = .ok (.bipush (-9), 2) := by decide +kernel
theorem dX0_payBack_19 : decode cX0_payBack 19 = .ok (.ireturn, 1) := by decide +kernel
theorem dX0_payBack_20 : decode cX0_payBack 20 = .ok (.aload_n 0, 1) := by decide +kernel
theorem dX0_payBack_21 : decode cX0_payBack 21 = .ok (.iload_n 2, 1) := by decide +kernel
theorem dX0_payBack_22 : decode cX0_payBack 22 = .ok (.aload_n 0, 1) := by decide +kernel
theorem dX0_payBack_23 : decode cX0_payBack 23 = .ok (.getfield 27, 3) := by decide +kernel
theorem dX0_payBack_26 : decode cX0_payBack 26 = .ok (.iload_n 1, 1) := by decide +kernel
theorem dX0_payBack_27 : decode cX0_payBack 27 = .ok (.iaload, 1) := by decide +kernel
theorem dX0_payBack_28 : decode cX0_payBack 28 = .ok (.aload_n 0, 1) := by decide +kernel
theorem dX0_payBack_29 : decode cX0_payBack 29 = .ok (.getfield 24, 3) := by decide +kernel
theorem dX0_payBack_32 : decode cX0_payBack 32 = .ok (.iload_n 1, 1) := by decide +kernel
theorem dX0_payBack_33 : decode cX0_payBack 33 = .ok (.iaload, 1) := by decide +kernel
theorem dX0_payBack_34 : decode cX0_payBack 34 = .ok (.invokevirtual 107, 3) := by decide +kernel
theorem dX0_payBack_37 : decode cX0_payBack 37 = .ok (.pop, 1) := by decide +kernel
theorem dX0_payBack_38 : decode cX0_payBack 38 = .ok (.aload_n 0, 1) := by decide +kernel
theorem dX0_payBack_39 : decode cX0_payBack 39 = .ok (.getfield 30, 3) := by decide +kernel
theorem dX0_payBack_42 : decode cX0_payBack 42 = .ok (.iload_n 1, 1) := by decide +kernel
theorem dX0_payBack_43 : decode cX0_payBack 43 = .ok (.dup2, 1) := by decide +kernel
theorem dX0_payBack_44 : decode cX0_payBack 44 = .ok (.iaload, 1) := by decide +kernel
theorem dX0_payBack_45 : decode cX0_payBack 45 = .ok (.iload_n 2, 1) := by decide +kernel
theorem dX0_payBack_46 : decode cX0_payBack 46 = .ok (.isub, 1) := by decide +kernel
theorem dX0_payBack_47 : decode cX0_payBack 47 = .ok (.iastore, 1) := by decide +kernel
theorem dX0_payBack_48 : decode cX0_payBack 48 = .ok (.aload_n 0, 1) := by decide +kernel
theorem dX0_payBack_49 : decode cX0_payBack 49 = .ok (.getfield 30, 3) := by decide +kernel
theorem dX0_payBack_52 : decode cX0_payBack 52 = .ok (.iload_n 1, 1) := by decide +kernel
theorem dX0_payBack_53 : decode cX0_payBack 53 = .ok (.iaload, 1) := by decide +kernel
theorem dX0_payBack_54 : decode cX0_payBack 54 = .ok (.istore_n 3, 1) := by decide +kernel
theorem dX0_payBack_55 : decode cX0_payBack 55 = .ok (.iload_n 3, 1) := by decide +kernel
theorem dX0_payBack_56 : decode cX0_payBack 56 = .ok (.ifCond .ne 8, 3) := by decide +kernel
theorem dX0_payBack_59 : decode cX0_payBack 59 = .ok (.aload_n 0, 1) := by decide +kernel
theorem dX0_payBack_60 : decode cX0_payBack 60 = .ok (.iload_n 1, 1) := by decide +kernel
theorem dX0_payBack_61 : decode cX0_payBack 61 = .ok (.invokevirtual 114, 3) := by decide +kernel
theorem dX0_payBack_64 : decode cX0_payBack 64 = .ok (.iload_n 3, 1) := by decide +kernel
theorem dX0_payBack_65 : decode cX0_payBack 65 = .ok (.ireturn, 1) := by decide +kernel
theorem dX0_removeLoan_0 : decode cX0_removeLoan 0 = .ok (.iload_n 1, 1) := by decide +kernel
theorem dX0_removeLoan_1 : decode cX0_removeLoan 1 = .ok (.ifCond .lt 11, 3) := by decide +kernel
theorem dX0_removeLoan_4 : decode cX0_removeLoan 4 = .ok (.iload_n 1, 1) := by decide +kernel
theorem dX0_removeLoan_5 : decode cX0_removeLoan 5 = .ok (.aload_n 0, 1) := by decide +kernel
theorem dX0_removeLoan_6 : decode cX0_removeLoan 6 = .ok (.getfield 46, 3) := by decide +kernel
theorem dX0_removeLoan_9 : decode cX0_removeLoan 9 = .ok (.if_icmp .lt 4, 3) := by decide +kernel
theorem dX0_removeLoan_12 : decode cX0_removeLoan 12 = .ok (.return_, 1) := by decide +kernel
theorem dX0_removeLoan_13 : decode cX0_removeLoan 13 = .ok (.iload_n 1, 1) := by decide +kernel
theorem dX0_removeLoan_14 : decode cX0_removeLoan 14 = .ok (.iconst 1, 1) := by decide +kernel
theorem dX0_removeLoan_15 : decode cX0_removeLoan 15 = .ok (.iadd, 1) := by decide +kernel
theorem dX0_removeLoan_16 : decode cX0_removeLoan 16 = .ok (.istore_n 2, 1) := by decide +kernel
theorem dX0_removeLoan_17 : decode cX0_removeLoan 17 = .ok (.iload_n 2, 1) := by decide +kernel
theorem dX0_removeLoan_18 : decode cX0_removeLoan 18 = .ok (.aload_n 0, 1) := by decide +kernel
theorem dX0_removeLoan_19 : decode cX0_removeLoan 19 = .ok (.getfield 46, 3) := by decide +kernel
theorem dX0_removeLoan_22 : decode cX0_removeLoan 22 = .ok (.if_icmp .ge 79, 3) := by decide +kernel
theorem dX0_removeLoan_25 : decode cX0_removeLoan 25 = .ok (.aload_n 0, 1) := by decide +kernel
theorem dX0_removeLoan_26 : decode cX0_removeLoan 26 = .ok (.getfield 24, 3) := by decide +kernel
theorem dX0_removeLoan_29 : decode cX0_removeLoan 29 = .ok (.iload_n 2, 1) := by decide +kernel
theorem dX0_removeLoan_30 : decode cX0_removeLoan 30 = .ok (.iconst 1, 1) := by decide +kernel
theorem dX0_removeLoan_31 : decode cX0_removeLoan 31 = .ok (.isub, 1) := by decide +kernel
theorem dX0_removeLoan_32 : decode cX0_removeLoan 32 = .ok (.aload_n 0, 1) := by decide +kernel
theorem dX0_removeLoan_33 : decode cX0_removeLoan 33 = .ok (.getfield 24, 3) := by decide +kernel
theorem dX0_removeLoan_36 : decode cX0_removeLoan 36 = .ok (.iload_n 2, 1) := by decide +kernel
theorem dX0_removeLoan_37 : decode cX0_removeLoan 37 = .ok (.iaload, 1) := by decide +kernel
theorem dX0_removeLoan_38 : decode cX0_removeLoan 38 = .ok (.iastore, 1) := by decide +kernel
theorem dX0_removeLoan_39 : decode cX0_removeLoan 39 = .ok (.aload_n 0, 1) := by decide +kernel
theorem dX0_removeLoan_40 : decode cX0_removeLoan 40 = .ok (.getfield 27, 3) := by decide +kernel
theorem dX0_removeLoan_43 : decode cX0_removeLoan 43 = .ok (.iload_n 2, 1) := by decide +kernel
theorem dX0_removeLoan_44 : decode cX0_removeLoan 44 = .ok (.iconst 1, 1) := by decide +kernel
theorem dX0_removeLoan_45 : decode cX0_removeLoan 45 = .ok (.isub, 1) := by decide +kernel
theorem dX0_removeLoan_46 : decode cX0_removeLoan 46 = .ok (.aload_n 0, 1) := by decide +kernel
theorem dX0_removeLoan_47 : decode cX0_removeLoan 47 = .ok (.getfield 27, 3) := by decide +kernel
theorem dX0_removeLoan_50 : decode cX0_removeLoan 50 = .ok (.iload_n 2, 1) := by decide +kernel
theorem dX0_removeLoan_51 : decode cX0_removeLoan 51 = .ok (.iaload, 1) := by decide +kernel
theorem dX0_removeLoan_52 : decode cX0_removeLoan 52 = .ok (.iastore, 1) := by decide +kernel
theorem dX0_removeLoan_53 : decode cX0_removeLoan 53 = .ok (.aload_n 0, 1) := by decide +kernel
theorem dX0_removeLoan_54 : decode cX0_removeLoan 54 = .ok (.getfield 30, 3) := by decide +kernel
theorem dX0_removeLoan_57 : decode cX0_removeLoan 57 = .ok (.iload_n 2, 1) := by decide +kernel
theorem dX0_removeLoan_58 : decode cX0_removeLoan 58 = .ok (.iconst 1, 1) := by decide +kernel
theorem dX0_removeLoan_59 : decode cX0_removeLoan 59 = .ok (.isub, 1) := by decide +kernel
theorem dX0_removeLoan_60 : decode cX0_removeLoan 60 = .ok (.aload_n 0, 1) := by decide +kernel
theorem dX0_removeLoan_61 : decode cX0_removeLoan 61 = .ok (.getfield 30, 3) := by decide +kernel
theorem dX0_removeLoan_64 : decode cX0_removeLoan 64 = .ok (.iload_n 2, 1) := by decide +kernel
theorem dX0_removeLoan_65 : decode cX0_removeLoan 65 = .ok (.iaload, 1) := by decide +kernel
theorem dX0_removeLoan_66 : decode cX0_removeLoan 66 = .ok (.iastore, 1) := by decide +kernel
theorem dX0_removeLoan_67 : decode cX0_removeLoan 67 = .ok (.aload_n 0, 1) := by decide +kernel
theorem dX0_removeLoan_68 : decode cX0_removeLoan 68 = .ok (.getfield 33, 3) := by decide +kernel
theorem dX0_removeLoan_71 : decode cX0_removeLoan 71 = .ok (.iload_n 2, 1) := by decide +kernel
theorem dX0_removeLoan_72 : decode cX0_removeLoan 72 = .ok (.iconst 1, 1) := by decide +kernel
theorem dX0_removeLoan_73 : decode cX0_removeLoan 73 = .ok (.isub, 1) := by decide +kernel
theorem dX0_removeLoan_74 : decode cX0_removeLoan 74 = .ok (.aload_n 0, 1) := by decide +kernel
theorem dX0_removeLoan_75 : decode cX0_removeLoan 75 = .ok (.getfield 33, 3) := by decide +kernel
theorem dX0_removeLoan_78 : decode cX0_removeLoan 78 = .ok (.iload_n 2, 1) := by decide +kernel
theorem dX0_removeLoan_79 : decode cX0_removeLoan 79 = .ok (.iaload, 1) := by decide +kernel
theorem dX0_removeLoan_80 : decode cX0_removeLoan 80 = .ok (.iastore, 1) := by decide +kernel
theorem dX0_removeLoan_81 : decode cX0_removeLoan 81 = .ok (.aload_n 0, 1) := by decide +kernel
theorem dX0_removeLoan_82 : decode cX0_removeLoan 82 = .ok (.getfield 36, 3) := by decide +kernel
theorem dX0_removeLoan_85 : decode cX0_removeLoan 85 = .ok (.iload_n 2, 1) := by decide +kernel
theorem dX0_removeLoan_86 : decode cX0_removeLoan 86 = .ok (.iconst 1, 1) := by decide +kernel
theorem dX0_removeLoan_87 : decode cX0_removeLoan 87 = .ok (.isub, 1) := by decide +kernel
theorem dX0_removeLoan_88 : decode cX0_removeLoan 88 = .ok (.aload_n 0, 1) := by decide +kernel
theorem dX0_removeLoan_89 : decode cX0_removeLoan 89 = .ok (.getfield 36, 3) := by decide +kernel
theorem dX0_removeLoan_92 : decode cX0_removeLoan 92 = .ok (.iload_n 2, 1) := by decide +kernel
theorem dX0_removeLoan_93 : decode cX0_removeLoan 93 = .ok (.iaload, 1) := by decide +kernel
theorem dX0_removeLoan_94 : decode cX0_removeLoan 94 = .ok (.iastore, 1) := by decide +kernel
theorem dX0_removeLoan_95 : decode cX0_removeLoan 95 = .ok (.iinc 2 1, 3) := by decide +kernel
theorem dX0_removeLoan_98 : decode cX0_removeLoan 98 = .ok (.goto (-81), 3) := by decide +kernel
theorem dX0_removeLoan_101 : decode cX0_removeLoan 101 = .ok (.aload_n 0, 1) := by decide +kernel
theorem dX0_removeLoan_102 : decode cX0_removeLoan 102 = .ok (.dup, 1) := by decide +kernel
theorem dX0_removeLoan_103 : decode cX0_removeLoan 103 = .ok (.getfield 46, 3) := by decide +kernel
theorem dX0_removeLoan_106 : decode cX0_removeLoan 106 = .ok (.iconst 1, 1) := by decide +kernel
theorem dX0_removeLoan_107 : decode cX0_removeLoan 107 = .ok (.isub, 1) := by decide +kernel
theorem dX0_removeLoan_108 : decode cX0_removeLoan 108 = .ok (.putfield 46, 3) := by decide +kernel
theorem dX0_removeLoan_111 : decode cX0_removeLoan 111 = .ok (.aload_n 0, 1) := by decide +kernel
theorem dX0_removeLoan_112 : decode cX0_removeLoan 112 = .ok (.getfield 39, 3) := by decide +kernel
theorem dX0_removeLoan_115 : decode cX0_removeLoan 115 = .ok (.iload_n 1, 1) := by decide +kernel
theorem dX0_removeLoan_116 : decode cX0_removeLoan 116 = .ok (.if_icmp .ne 12, 3) := by decide +kernel
theorem dX0_removeLoan_119 : decode cX0_removeLoan 119 = .ok (.aload_n 0, 1) := by decide +kernel
theorem dX0_removeLoan_120 : decode cX0_removeLoan 120 = .ok (.bipush (-9), 2) := by decide +kernel
theorem dX0_removeLoan_122 : decode cX0_removeLoan 122 = .ok (.putfield 39, 3) := by decide +kernel
theorem dX0_removeLoan_125 : decode cX0_removeLoan 125 = .ok (.goto 21, 3) := by decide +kernel
theorem dX0_removeLoan_128 : decode cX0_removeLoan 128 = .ok (.aload_n 0, 1) := by decide +kernel
theorem dX0_removeLoan_129 : decode cX0_removeLoan 129 = .ok (.getfield 39, 3) := by decide +kernel
theorem dX0_removeLoan_132 : decode cX0_removeLoan 132 = .ok (.iload_n 1, 1) := by decide +kernel
theorem dX0_removeLoan_133 : decode cX0_removeLoan 133 = .ok (.if_icmp .le 13, 3) := by decide +kernel
theorem dX0_removeLoan_136 : decode cX0_removeLoan 136 = .ok (.aload_n 0, 1) := by decide +kernel
theorem dX0_removeLoan_137 : decode cX0_removeLoan 137 = .ok (.dup, 1) := by decide +kernel
theorem dX0_removeLoan_138 : decode cX0_removeLoan 138 = .ok (.getfield 39, 3) := by decide +kernel
theorem dX0_removeLoan_141 : decode cX0_removeLoan 141 = .ok (.iconst 1, 1) := by decide +kernel
theorem dX0_removeLoan_142 : decode cX0_removeLoan 142 = .ok (.isub, 1) := by decide +kernel
theorem dX0_removeLoan_143 : decode cX0_removeLoan 143 = .ok (.putfield 39, 3) := by decide +kernel
theorem dX0_removeLoan_146 : decode cX0_removeLoan 146 = .ok (.return_, 1) := by decide +kernel
theorem dX0_fillEach_0 : decode cX0_fillEach 0 = .ok (.iconst 0, 1) := by decide +kernel
theorem dX0_fillEach_1 : decode cX0_fillEach 1 = .ok (.istore_n 2, 1) := by decide +kernel
theorem dX0_fillEach_2 : decode cX0_fillEach 2 = .ok (.iconst 0, 1) := by decide +kernel
theorem dX0_fillEach_3 : decode cX0_fillEach 3 = .ok (.istore_n 3, 1) := by decide +kernel
theorem dX0_fillEach_4 : decode cX0_fillEach 4 = .ok (.iload_n 3, 1) := by decide +kernel
theorem dX0_fillEach_5 : decode cX0_fillEach 5 = .ok (.aload_n 0, 1) := by decide +kernel
theorem dX0_fillEach_6 : decode cX0_fillEach 6 = .ok (.getfield 43, 3) := by decide +kernel
theorem dX0_fillEach_9 : decode cX0_fillEach 9 = .ok (.if_icmp .ge 56, 3) := by decide +kernel
theorem dX0_fillEach_12 : decode cX0_fillEach 12 = .ok (.aload_n 0, 1) := by decide +kernel
theorem dX0_fillEach_13 : decode cX0_fillEach 13 = .ok (.iload_n 3, 1) := by decide +kernel
theorem dX0_fillEach_14 : decode cX0_fillEach 14 = .ok (.invokevirtual 77, 3) := by decide +kernel
theorem dX0_fillEach_17 : decode cX0_fillEach 17 = .ok (.ifCond .ne 42, 3) := by decide +kernel
theorem dX0_fillEach_20 : decode cX0_fillEach 20 = .ok (.iload_n 1, 1) := by decide +kernel
theorem dX0_fillEach_21 : decode cX0_fillEach 21 = .ok (.aload_n 0, 1) := by decide +kernel
theorem dX0_fillEach_22 : decode cX0_fillEach 22 = .ok (.iload_n 3, 1) := by decide +kernel
theorem dX0_fillEach_23 : decode cX0_fillEach 23 = .ok (.invokevirtual 100, 3) := by decide +kernel
theorem dX0_fillEach_26 : decode cX0_fillEach 26 = .ok (.invokestatic 121, 3) := by decide +kernel
theorem dX0_fillEach_29 : decode cX0_fillEach 29 = .ok (.istore 4, 2) := by decide +kernel
theorem dX0_fillEach_31 : decode cX0_fillEach 31 = .ok (.aload_n 0, 1) := by decide +kernel
theorem dX0_fillEach_32 : decode cX0_fillEach 32 = .ok (.getfield 15, 3) := by decide +kernel
theorem dX0_fillEach_35 : decode cX0_fillEach 35 = .ok (.iload_n 3, 1) := by decide +kernel
theorem dX0_fillEach_36 : decode cX0_fillEach 36 = .ok (.dup2, 1) := by decide +kernel
theorem dX0_fillEach_37 : decode cX0_fillEach 37 = .ok (.iaload, 1) := by decide +kernel
theorem dX0_fillEach_38 : decode cX0_fillEach 38 = .ok (.iload 4, 2) := by decide +kernel
theorem dX0_fillEach_40 : decode cX0_fillEach 40 = .ok (.iadd, 1) := by decide +kernel
theorem dX0_fillEach_41 : decode cX0_fillEach 41 = .ok (.iastore, 1) := by decide +kernel
theorem dX0_fillEach_42 : decode cX0_fillEach 42 = .ok (.aload_n 0, 1) := by decide +kernel
theorem dX0_fillEach_43 : decode cX0_fillEach 43 = .ok (.dup, 1) := by decide +kernel
theorem dX0_fillEach_44 : decode cX0_fillEach 44 = .ok (.getfield 52, 3) := by decide +kernel
theorem dX0_fillEach_47 : decode cX0_fillEach 47 = .ok (.iload_n 1, 1) := by decide +kernel
theorem dX0_fillEach_48 : decode cX0_fillEach 48 = .ok (.iadd, 1) := by decide +kernel
theorem dX0_fillEach_49 : decode cX0_fillEach 49 = .ok (.putfield 52, 3) := by decide +kernel
theorem dX0_fillEach_52 : decode cX0_fillEach 52 = .ok (.iload_n 2, 1) := by decide +kernel
theorem dX0_fillEach_53 : decode cX0_fillEach 53 = .ok (.iload_n 1, 1) := by decide +kernel
theorem dX0_fillEach_54 : decode cX0_fillEach 54 = .ok (.iload 4, 2) := by decide +kernel
theorem dX0_fillEach_56 : decode cX0_fillEach 56 = .ok (.isub, 1) := by decide +kernel
theorem dX0_fillEach_57 : decode cX0_fillEach 57 = .ok (.iadd, 1) := by decide +kernel
theorem dX0_fillEach_58 : decode cX0_fillEach 58 = .ok (.istore_n 2, 1) := by decide +kernel
theorem dX0_fillEach_59 : decode cX0_fillEach 59 = .ok (.iinc 3 1, 3) := by decide +kernel
theorem dX0_fillEach_62 : decode cX0_fillEach 62 = .ok (.goto (-58), 3) := by decide +kernel
theorem dX0_fillEach_65 : decode cX0_fillEach 65 = .ok (.aload_n 0, 1) := by decide +kernel
theorem dX0_fillEach_66 : decode cX0_fillEach 66 = .ok (.dup, 1) := by decide +kernel
theorem dX0_fillEach_67 : decode cX0_fillEach 67 = .ok (.getfield 58, 3) := by decide +kernel
theorem dX0_fillEach_70 : decode cX0_fillEach 70 = .ok (.iload_n 2, 1) := by decide +kernel
theorem dX0_fillEach_71 : decode cX0_fillEach 71 = .ok (.iadd, 1) := by decide +kernel
theorem dX0_fillEach_72 : decode cX0_fillEach 72 = .ok (.putfield 58, 3) := by decide +kernel
theorem dX0_fillEach_75 : decode cX0_fillEach 75 = .ok (.iload_n 2, 1) := by decide +kernel
theorem dX0_fillEach_76 : decode cX0_fillEach 76 = .ok (.ireturn, 1) := by decide +kernel
theorem dX0_giveEach_0 : decode cX0_giveEach 0 = .ok (.iconst 0, 1) := by decide +kernel
theorem dX0_giveEach_1 : decode cX0_giveEach 1 = .ok (.istore_n 2, 1) := by decide +kernel
theorem dX0_giveEach_2 : decode cX0_giveEach 2 = .ok (.iload_n 2, 1) := by decide +kernel
theorem dX0_giveEach_3 : decode cX0_giveEach 3 = .ok (.aload_n 0, 1) := by decide +kernel
theorem dX0_giveEach_4 : decode cX0_giveEach 4 = .ok (.getfield 43, 3) := by decide +kernel
theorem dX0_giveEach_7 : decode cX0_giveEach 7 = .ok (.if_icmp .ge 38, 3) := by decide +kernel
theorem dX0_giveEach_10 : decode cX0_giveEach 10 = .ok (.aload_n 0, 1) := by decide +kernel
theorem dX0_giveEach_11 : decode cX0_giveEach 11 = .ok (.iload_n 2, 1) := by decide +kernel
theorem dX0_giveEach_12 : decode cX0_giveEach 12 = .ok (.invokevirtual 77, 3) := by decide +kernel
theorem dX0_giveEach_15 : decode cX0_giveEach 15 = .ok (.ifCond .ne 24, 3) := by decide +kernel
theorem dX0_giveEach_18 : decode cX0_giveEach 18 = .ok (.aload_n 0, 1) := by decide +kernel
theorem dX0_giveEach_19 : decode cX0_giveEach 19 = .ok (.getfield 15, 3) := by decide +kernel
theorem dX0_giveEach_22 : decode cX0_giveEach 22 = .ok (.iload_n 2, 1) := by decide +kernel
theorem dX0_giveEach_23 : decode cX0_giveEach 23 = .ok (.iaload, 1) := by decide +kernel
theorem dX0_giveEach_24 : decode cX0_giveEach 24 = .ok (.iload_n 1, 1) := by decide +kernel
theorem dX0_giveEach_25 : decode cX0_giveEach 25 = .ok (.if_icmp .ge 14, 3) := by decide +kernel
theorem dX0_giveEach_28 : decode cX0_giveEach 28 = .ok (.aload_n 0, 1) := by decide +kernel
theorem dX0_giveEach_29 : decode cX0_giveEach 29 = .ok (.iload_n 2, 1) := by decide +kernel
theorem dX0_giveEach_30 : decode cX0_giveEach 30 = .ok (.iload_n 1, 1) := by decide +kernel
theorem dX0_giveEach_31 : decode cX0_giveEach 31 = .ok (.invokevirtual 127, 3) := by decide +kernel
theorem dX0_giveEach_34 : decode cX0_giveEach 34 = .ok (.ifCond .ne 5, 3) := by decide +kernel
theorem dX0_giveEach_37 : decode cX0_giveEach 37 = .ok (.iconst 0, 1) := by decide +kernel
theorem dX0_giveEach_38 : decode cX0_giveEach 38 = .ok (.ireturn, 1) := by decide +kernel
theorem dX0_giveEach_39 : decode cX0_giveEach 39 = .ok (.iinc 2 1, 3) := by decide +kernel
theorem dX0_giveEach_42 : decode cX0_giveEach 42 = .ok (.goto (-40), 3) := by decide +kernel
theorem dX0_giveEach_45 : decode cX0_giveEach 45 = .ok (.iconst 0, 1) := by decide +kernel
theorem dX0_giveEach_46 : decode cX0_giveEach 46 = .ok (.istore_n 2, 1) := by decide +kernel
theorem dX0_giveEach_47 : decode cX0_giveEach 47 = .ok (.iconst 0, 1) := by decide +kernel
theorem dX0_giveEach_48 : decode cX0_giveEach 48 = .ok (.istore_n 3, 1) := by decide +kernel
theorem dX0_giveEach_49 : decode cX0_giveEach 49 = .ok (.iload_n 3, 1) := by decide +kernel
theorem dX0_giveEach_50 : decode cX0_giveEach 50 = .ok (.aload_n 0, 1) := by decide +kernel
theorem dX0_giveEach_51 : decode cX0_giveEach 51 = .ok (.getfield 43, 3) := by decide +kernel
theorem dX0_giveEach_54 : decode cX0_giveEach 54 = .ok (.if_icmp .ge 31, 3) := by decide +kernel
theorem dX0_giveEach_57 : decode cX0_giveEach 57 = .ok (.aload_n 0, 1) := by decide +kernel
theorem dX0_giveEach_58 : decode cX0_giveEach 58 = .ok (.iload_n 3, 1) := by decide +kernel
theorem dX0_giveEach_59 : decode cX0_giveEach 59 = .ok (.invokevirtual 77, 3) := by decide +kernel
theorem dX0_giveEach_62 : decode cX0_giveEach 62 = .ok (.ifCond .ne 17, 3) := by decide +kernel
theorem dX0_giveEach_65 : decode cX0_giveEach 65 = .ok (.aload_n 0, 1) := by decide +kernel
theorem dX0_giveEach_66 : decode cX0_giveEach 66 = .ok (.getfield 15, 3) := by decide +kernel
theorem dX0_giveEach_69 : decode cX0_giveEach 69 = .ok (.iload_n 3, 1) := by decide +kernel
theorem dX0_giveEach_70 : decode cX0_giveEach 70 = .ok (.dup2, 1) := by decide +kernel
theorem dX0_giveEach_71 : decode cX0_giveEach 71 = .ok (.iaload, 1) := by decide +kernel
theorem dX0_giveEach_72 : decode cX0_giveEach 72 = .ok (.iload_n 1, 1) := by decide +kernel
theorem dX0_giveEach_73 : decode cX0_giveEach 73 = .ok (.isub, 1) := by decide +kernel
theorem dX0_giveEach_74 : decode cX0_giveEach 74 = .ok (.iastore, 1) := by decide +kernel
theorem dX0_giveEach_75 : decode cX0_giveEach 75 = .ok (.iload_n 2, 1) := by decide +kernel
theorem dX0_giveEach_76 : decode cX0_giveEach 76 = .ok (.iload_n 1, 1) := by decide +kernel
theorem dX0_giveEach_77 : decode cX0_giveEach 77 = .ok (.iadd, 1) := by decide +kernel
theorem dX0_giveEach_78 : decode cX0_giveEach 78 = .ok (.istore_n 2, 1) := by decide +kernel
theorem dX0_giveEach_79 : decode cX0_giveEach 79 = .ok (.iinc 3 1, 3) := by decide +kernel
theorem dX0_giveEach_82 : decode cX0_giveEach 82 = .ok (.goto (-33), 3) := by decide +kernel
theorem dX0_giveEach_85 : decode cX0_giveEach 85 = .ok (.aload_n 0, 1) := by decide +kernel
theorem dX0_giveEach_86 : decode cX0_giveEach 86 = .ok (.dup, 1) := by decide +kernel
theorem dX0_giveEach_87 : decode cX0_giveEach 87 = .ok (.getfield 55, 3) := by decide +kernel
theorem dX0_giveEach_90 : decode cX0_giveEach 90 = .ok (.iload_n 2, 1) := by decide +kernel
theorem dX0_giveEach_91 : decode cX0_giveEach 91 = .ok (.iadd, 1) := by decide +kernel
theorem dX0_giveEach_92 : decode cX0_giveEach 92 = .ok (.putfield 55, 3) := by decide +kernel
theorem dX0_giveEach_95 : decode cX0_giveEach 95 = .ok (.iload_n 2, 1) := by decide +kernel
theorem dX0_giveEach_96 : decode cX0_giveEach 96 = .ok (.ireturn, 1) := by decide +kernel
theorem dX0_borrowUpTo_0 : decode cX0_borrowUpTo 0 = .ok (.aload_n 0, 1) := by decide +kernel
theorem dX0_borrowUpTo_1 : decode cX0_borrowUpTo 1 = .ok (.iload_n 1, 1) := by decide +kernel
theorem dX0_borrowUpTo_2 : decode cX0_borrowUpTo 2 = .ok (.invokevirtual 130, 3) := by decide +kernel
theorem dX0_borrowUpTo_5 : decode cX0_borrowUpTo 5 = .ok (.istore_n 3, 1) := by decide +kernel
theorem dX0_borrowUpTo_6 : decode cX0_borrowUpTo 6 = .ok (.iload_n 3, 1) := by decide +kernel
theorem dX0_borrowUpTo_7 : decode cX0_borrowUpTo 7 = .ok (.bipush (-9), 2) := by decide +kernel
theorem dX0_borrowUpTo_9 : decode cX0_borrowUpTo 9 = .ok (.if_icmp .ne 5, 3) := by decide +kernel
theorem dX0_borrowUpTo_12 : decode cX0_borrowUpTo 12 = .ok (.iconst 0, 1) := by decide +kernel
theorem dX0_borrowUpTo_13 : decode cX0_borrowUpTo 13 = .ok (.ireturn, 1) := by decide +kernel
theorem dX0_borrowUpTo_14 : decode cX0_borrowUpTo 14 = .ok (.aload_n 0, 1) := by decide +kernel
theorem dX0_borrowUpTo_15 : decode cX0_borrowUpTo 15 = .ok (.iload_n 2, 1) := by decide +kernel
theorem dX0_borrowUpTo_16 : decode cX0_borrowUpTo 16 = .ok (.aload_n 0, 1) := by decide +kernel
theorem dX0_borrowUpTo_17 : decode cX0_borrowUpTo 17 = .ok (.iload_n 1, 1) := by decide +kernel
theorem dX0_borrowUpTo_18 : decode cX0_borrowUpTo 18 = .ok (.invokevirtual 93, 3) := by decide +kernel
theorem dX0_borrowUpTo_21 : decode cX0_borrowUpTo 21 = .ok (.isub, 1) := by decide +kernel
theorem dX0_borrowUpTo_22 : decode cX0_borrowUpTo 22 = .ok (.iload_n 3, 1) := by decide +kernel
theorem dX0_borrowUpTo_23 : decode cX0_borrowUpTo 23 = .ok (.iload_n 1, 1) := by decide +kernel
theorem dX0_borrowUpTo_24 : decode cX0_borrowUpTo 24 = .ok (.invokevirtual 118, 3) := by decide +kernel
theorem dX0_borrowUpTo_27 : decode cX0_borrowUpTo 27 = .ok (.istore 4, 2) := by decide +kernel
theorem dX0_borrowUpTo_29 : decode cX0_borrowUpTo 29 = .ok (.aload_n 0, 1) := by decide +kernel
theorem dX0_borrowUpTo_30 : decode cX0_borrowUpTo 30 = .ok (.iload_n 3, 1) := by decide +kernel
theorem dX0_borrowUpTo_31 : decode cX0_borrowUpTo 31 = .ok (.invokevirtual 93, 3) := by decide +kernel
theorem dX0_borrowUpTo_34 : decode cX0_borrowUpTo 34 = .ok (.iload 4, 2) := by decide +kernel
theorem dX0_borrowUpTo_36 : decode cX0_borrowUpTo 36 = .ok (.isub, 1) := by decide +kernel
theorem dX0_borrowUpTo_37 : decode cX0_borrowUpTo 37 = .ok (.iload_n 2, 1) := by decide +kernel
theorem dX0_borrowUpTo_38 : decode cX0_borrowUpTo 38 = .ok (.if_icmp .lt 22, 3) := by decide +kernel
theorem dX0_borrowUpTo_41 : decode cX0_borrowUpTo 41 = .ok (.aload_n 0, 1) := by decide +kernel
theorem dX0_borrowUpTo_42 : decode cX0_borrowUpTo 42 = .ok (.iload_n 3, 1) := by decide +kernel
theorem dX0_borrowUpTo_43 : decode cX0_borrowUpTo 43 = .ok (.iload_n 1, 1) := by decide +kernel
theorem dX0_borrowUpTo_44 : decode cX0_borrowUpTo 44 = .ok (.iload 4, 2) := by decide +kernel
theorem dX0_borrowUpTo_46 : decode cX0_borrowUpTo 46 = .ok (.bipush 10, 2) := by decide +kernel
theorem dX0_borrowUpTo_48 : decode cX0_borrowUpTo 48 = .ok (.invokevirtual 133, 3) := by decide +kernel
theorem dX0_borrowUpTo_51 : decode cX0_borrowUpTo 51 = .ok (.bipush (-9), 2) := by decide +kernel
theorem dX0_borrowUpTo_53 : decode cX0_borrowUpTo 53 = .ok (.if_icmp .eq 7, 3) := by decide +kernel
theorem dX0_borrowUpTo_56 : decode cX0_borrowUpTo 56 = .ok (.iconst 1, 1) := by decide +kernel
theorem dX0_borrowUpTo_57 : decode cX0_borrowUpTo 57 = .ok (.goto 4, 3) := by decide +kernel
theorem dX0_borrowUpTo_60 : decode cX0_borrowUpTo 60 = .ok (.iconst 0, 1) := by decide +kernel
theorem dX0_borrowUpTo_61 : decode cX0_borrowUpTo 61 = .ok (.ireturn, 1) := by decide +kernel
theorem dX0_fullestOther_0 : decode cX0_fullestOther 0 = .ok (.bipush (-9), 2) := by decide +kernel
theorem dX0_fullestOther_2 : decode cX0_fullestOther 2 = .ok (.istore_n 2, 1) := by decide +kernel
theorem dX0_fullestOther_3 : decode cX0_fullestOther 3 = .ok (.iconst 0, 1) := by decide +kernel
theorem dX0_fullestOther_4 : decode cX0_fullestOther 4 = .ok (.istore_n 3, 1) := by decide +kernel
theorem dX0_fullestOther_5 : decode cX0_fullestOther 5 = .ok (.iload_n 3, 1) := by decide +kernel
theorem dX0_fullestOther_6 : decode cX0_fullestOther 6 = .ok (.aload_n 0, 1) := by decide +kernel
theorem dX0_fullestOther_7 : decode cX0_fullestOther 7 = .ok (.getfield 43, 3) := by decide +kernel
theorem dX0_fullestOther_10 : decode cX0_fullestOther 10 = .ok (.if_icmp .ge 47, 3) := by decide +kernel
theorem dX0_fullestOther_13 : decode cX0_fullestOther 13 = .ok (.iload_n 3, 1) := by decide +kernel
theorem dX0_fullestOther_14 : decode cX0_fullestOther 14 = .ok (.iload_n 1, 1) := by decide +kernel
theorem dX0_fullestOther_15 : decode cX0_fullestOther 15 = .ok (.if_icmp .eq 36, 3) := by decide +kernel
theorem dX0_fullestOther_18 : decode cX0_fullestOther 18 = .ok (.aload_n 0, 1) := by decide +kernel
theorem dX0_fullestOther_19 : decode cX0_fullestOther 19 = .ok (.iload_n 3, 1) := by decide +kernel
theorem dX0_fullestOther_20 : decode cX0_fullestOther 20 = .ok (.invokevirtual 77, 3) := by decide +kernel
theorem dX0_fullestOther_23 : decode cX0_fullestOther 23 = .ok (.ifCond .eq 6, 3) := by decide +kernel
theorem dX0_fullestOther_26 : decode cX0_fullestOther 26 = .ok (.goto 25, 3) := by decide +kernel
theorem dX0_fullestOther_29 : decode cX0_fullestOther 29 = .ok (.iload_n 2, 1) := by decide +kernel
theorem dX0_fullestOther_30 : decode cX0_fullestOther 30 = .ok (.bipush (-9), 2) := by decide +kernel
theorem dX0_fullestOther_32 : decode cX0_fullestOther 32 = .ok (.if_icmp .eq 17, 3) := by decide +kernel
theorem dX0_fullestOther_35 : decode cX0_fullestOther 35 = .ok (.aload_n 0, 1) := by decide +kernel
theorem dX0_fullestOther_36 : decode cX0_fullestOther 36 = .ok (.getfield 15, 3) := by decide +kernel
theorem dX0_fullestOther_39 : decode cX0_fullestOther 39 = .ok (.iload_n 3, 1) := by decide +kernel
theorem dX0_fullestOther_40 : decode cX0_fullestOther 40 = .ok (.iaload, 1) := by decide +kernel
theorem dX0_fullestOther_41 : decode cX0_fullestOther 41 = .ok (.aload_n 0, 1) := by decide +kernel
theorem dX0_fullestOther_42 : decode cX0_fullestOther 42 = .ok (.iload_n 2, 1) := by decide +kernel
theorem dX0_fullestOther_43 : decode cX0_fullestOther 43 = .ok (.invokevirtual 93, 3) := by decide +kernel
theorem dX0_fullestOther_46 : decode cX0_fullestOther 46 = .ok (.if_icmp .le 5, 3) := by decide +kernel
theorem dX0_fullestOther_49 : decode cX0_fullestOther 49 = .ok (.iload_n 3, 1) := by decide +kernel
theorem dX0_fullestOther_50 : decode cX0_fullestOther 50 = .ok (.istore_n 2, 1) := by decide +kernel
theorem dX0_fullestOther_51 : decode cX0_fullestOther 51 = .ok (.iinc 3 1, 3) := by decide +kernel
theorem dX0_fullestOther_54 : decode cX0_fullestOther 54 = .ok (.goto (-49), 3) := by decide +kernel
theorem dX0_fullestOther_57 : decode cX0_fullestOther 57 = .ok (.iload_n 2, 1) := by decide +kernel
theorem dX0_fullestOther_58 : decode cX0_fullestOther 58 = .ok (.ireturn, 1) := by decide +kernel
theorem dX0_letRoundsGoBy_0 : decode cX0_letRoundsGoBy 0 = .ok (.iconst 0, 1) := by decide +kernel
theorem dX0_letRoundsGoBy_1 : decode cX0_letRoundsGoBy 1 = .ok (.istore_n 2, 1) := by decide +kernel
theorem dX0_letRoundsGoBy_2 : decode cX0_letRoundsGoBy 2 = .ok (.iconst 0, 1) := by decide +kernel
theorem dX0_letRoundsGoBy_3 : decode cX0_letRoundsGoBy 3 = .ok (.istore_n 3, 1) := by decide +kernel
theorem dX0_letRoundsGoBy_4 : decode cX0_letRoundsGoBy 4 = .ok (.iload_n 3, 1) := by decide +kernel
theorem dX0_letRoundsGoBy_5 : decode cX0_letRoundsGoBy 5 = .ok (.iload_n 1, 1) := by decide +kernel
theorem dX0_letRoundsGoBy_6 : decode cX0_letRoundsGoBy 6 = .ok (.if_icmp .ge 16, 3) := by decide +kernel
theorem dX0_letRoundsGoBy_9 : decode cX0_letRoundsGoBy 9 = .ok (.iload_n 2, 1) := by decide +kernel
theorem dX0_letRoundsGoBy_10 : decode cX0_letRoundsGoBy 10 = .ok (.aload_n 0, 1) := by decide +kernel
theorem dX0_letRoundsGoBy_11 : decode cX0_letRoundsGoBy 11 = .ok (.invokevirtual 137, 3) := by decide +kernel
theorem dX0_letRoundsGoBy_14 : decode cX0_letRoundsGoBy 14 = .ok (.ior, 1) := by decide +kernel
theorem dX0_letRoundsGoBy_15 : decode cX0_letRoundsGoBy 15 = .ok (.istore_n 2, 1) := by decide +kernel
theorem dX0_letRoundsGoBy_16 : decode cX0_letRoundsGoBy 16 = .ok (.iinc 3 1, 3) := by decide +kernel
theorem dX0_letRoundsGoBy_19 : decode cX0_letRoundsGoBy 19 = .ok (.goto (-15), 3) := by decide +kernel
theorem dX0_letRoundsGoBy_22 : decode cX0_letRoundsGoBy 22 = .ok (.iload_n 2, 1) := by decide +kernel
theorem dX0_letRoundsGoBy_23 : decode cX0_letRoundsGoBy 23 = .ok (.ireturn, 1) := by decide +kernel
theorem dX0_letRoundGoBy_0 : decode cX0_letRoundGoBy 0 = .ok (.aload_n 0, 1) := by decide +kernel
theorem dX0_letRoundGoBy_1 : decode cX0_letRoundGoBy 1 = .ok (.invokevirtual 141, 3) := by decide +kernel
theorem dX0_letRoundGoBy_4 : decode cX0_letRoundGoBy 4 = .ok (.aload_n 0, 1) := by decide +kernel
theorem dX0_letRoundGoBy_5 : decode cX0_letRoundGoBy 5 = .ok (.invokevirtual 144, 3) := by decide +kernel
theorem dX0_letRoundGoBy_8 : decode cX0_letRoundGoBy 8 = .ok (.istore_n 1, 1) := by decide +kernel
theorem dX0_letRoundGoBy_9 : decode cX0_letRoundGoBy 9 = .ok (.aload_n 0, 1) := by decide +kernel
theorem dX0_letRoundGoBy_10 : decode cX0_letRoundGoBy 10 = .ok (.iload_n 1, 1) := by decide +kernel
theorem dX0_letRoundGoBy_11 : decode cX0_letRoundGoBy 11 = .ok (.invokevirtual 147, 3) := by decide +kernel
theorem dX0_letRoundGoBy_14 : decode cX0_letRoundGoBy 14 = .ok (.istore_n 2, 1) := by decide +kernel
theorem dX0_letRoundGoBy_15 : decode cX0_letRoundGoBy 15 = .ok (.aload_n 0, 1) := by decide +kernel
theorem dX0_letRoundGoBy_16 : decode cX0_letRoundGoBy 16 = .ok (.dup, 1) := by decide +kernel
theorem dX0_letRoundGoBy_17 : decode cX0_letRoundGoBy 17 = .ok (.getfield 49, 3) := by decide +kernel
theorem dX0_letRoundGoBy_20 : decode cX0_letRoundGoBy 20 = .ok (.iconst 1, 1) := by decide +kernel
theorem dX0_letRoundGoBy_21 : decode cX0_letRoundGoBy 21 = .ok (.iadd, 1) := by decide +kernel
theorem dX0_letRoundGoBy_22 : decode cX0_letRoundGoBy 22 = .ok (.putfield 49, 3) := by decide +kernel
theorem dX0_letRoundGoBy_25 : decode cX0_letRoundGoBy 25 = .ok (.iload_n 2, 1) := by decide +kernel
theorem dX0_letRoundGoBy_26 : decode cX0_letRoundGoBy 26 = .ok (.ireturn, 1) := by decide +kernel
theorem dX0_leakAll_0 : decode cX0_leakAll 0 = .ok (.iconst 0, 1) := by decide +kernel
theorem dX0_leakAll_1 : decode cX0_leakAll 1 = .ok (.istore_n 1, 1) := by decide +kernel
theorem dX0_leakAll_2 : decode cX0_leakAll 2 = .ok (.iload_n 1, 1) := by decide +kernel
theorem dX0_leakAll_3 : decode cX0_leakAll 3 = .ok (.aload_n 0, 1) := by decide +kernel
theorem dX0_leakAll_4 : decode cX0_leakAll 4 = .ok (.getfield 43, 3) := by decide +kernel
theorem dX0_leakAll_7 : decode cX0_leakAll 7 = .ok (.if_icmp .ge 29, 3) := by decide +kernel
theorem dX0_leakAll_10 : decode cX0_leakAll 10 = .ok (.aload_n 0, 1) := by decide +kernel
theorem dX0_leakAll_11 : decode cX0_leakAll 11 = .ok (.iload_n 1, 1) := by decide +kernel
theorem dX0_leakAll_12 : decode cX0_leakAll 12 = .ok (.aload_n 0, 1) := by decide +kernel
theorem dX0_leakAll_13 : decode cX0_leakAll 13 = .ok (.getfield 18, 3) := by decide +kernel
theorem dX0_leakAll_16 : decode cX0_leakAll 16 = .ok (.iload_n 1, 1) := by decide +kernel
theorem dX0_leakAll_17 : decode cX0_leakAll 17 = .ok (.iaload, 1) := by decide +kernel
theorem dX0_leakAll_18 : decode cX0_leakAll 18 = .ok (.aload_n 0, 1) := by decide +kernel
theorem dX0_leakAll_19 : decode cX0_leakAll 19 = .ok (.getfield 15, 3) := by decide +kernel
theorem dX0_leakAll_22 : decode cX0_leakAll 22 = .ok (.iload_n 1, 1) := by decide +kernel
theorem dX0_leakAll_23 : decode cX0_leakAll 23 = .ok (.iaload, 1) := by decide +kernel
theorem dX0_leakAll_24 : decode cX0_leakAll 24 = .ok (.invokestatic 121, 3) := by decide +kernel
theorem dX0_leakAll_27 : decode cX0_leakAll 27 = .ok (.invokevirtual 150, 3) := by decide +kernel
theorem dX0_leakAll_30 : decode cX0_leakAll 30 = .ok (.iinc 1 1, 3) := by decide +kernel
theorem dX0_leakAll_33 : decode cX0_leakAll 33 = .ok (.goto (-31), 3) := by decide +kernel
theorem dX0_leakAll_36 : decode cX0_leakAll 36 = .ok (.return_, 1) := by decide +kernel
theorem dX0_loseAsHeat_0 : decode cX0_loseAsHeat 0 = .ok (.aload_n 0, 1) := by decide +kernel
theorem dX0_loseAsHeat_1 : decode cX0_loseAsHeat 1 = .ok (.iload_n 1, 1) := by decide +kernel
theorem dX0_loseAsHeat_2 : decode cX0_loseAsHeat 2 = .ok (.invokevirtual 73, 3) := by decide +kernel
theorem dX0_loseAsHeat_5 : decode cX0_loseAsHeat 5 = .ok (.ifCond .eq 23, 3) := by decide +kernel
theorem dX0_loseAsHeat_8 : decode cX0_loseAsHeat 8 = .ok (.aload_n 0, 1) := by decide +kernel
theorem dX0_loseAsHeat_9 : decode cX0_loseAsHeat 9 = .ok (.getfield 15, 3) := by decide +kernel
theorem dX0_loseAsHeat_12 : decode cX0_loseAsHeat 12 = .ok (.iload_n 1, 1) := by decide +kernel
theorem dX0_loseAsHeat_13 : decode cX0_loseAsHeat 13 = .ok (.dup2, 1) := by decide +kernel
theorem dX0_loseAsHeat_14 : decode cX0_loseAsHeat 14 = .ok (.iaload, 1) := by decide +kernel
theorem dX0_loseAsHeat_15 : decode cX0_loseAsHeat 15 = .ok (.iload_n 2, 1) := by decide +kernel
theorem dX0_loseAsHeat_16 : decode cX0_loseAsHeat 16 = .ok (.isub, 1) := by decide +kernel
theorem dX0_loseAsHeat_17 : decode cX0_loseAsHeat 17 = .ok (.iastore, 1) := by decide +kernel
theorem dX0_loseAsHeat_18 : decode cX0_loseAsHeat 18 = .ok (.aload_n 0, 1) := by decide +kernel
theorem dX0_loseAsHeat_19 : decode cX0_loseAsHeat 19 = .ok (.dup, 1) := by decide +kernel
theorem dX0_loseAsHeat_20 : decode cX0_loseAsHeat 20 = .ok (.getfield 58, 3) := by decide +kernel
theorem dX0_loseAsHeat_23 : decode cX0_loseAsHeat 23 = .ok (.iload_n 2, 1) := by decide +kernel
theorem dX0_loseAsHeat_24 : decode cX0_loseAsHeat 24 = .ok (.iadd, 1) := by decide +kernel
theorem dX0_loseAsHeat_25 : decode cX0_loseAsHeat 25 = .ok (.putfield 58, 3) := by decide +kernel
theorem dX0_loseAsHeat_28 : decode cX0_loseAsHeat 28 = .ok (.return_, 1) := by decide +kernel
theorem dX0_burnInterest_0 : decode cX0_burnInterest 0 = .ok (.iconst 0, 1) := by decide +kernel
theorem dX0_burnInterest_1 : decode cX0_burnInterest 1 = .ok (.istore_n 1, 1) := by decide +kernel
theorem dX0_burnInterest_2 : decode cX0_burnInterest 2 = .ok (.iconst 0, 1) := by decide +kernel
theorem dX0_burnInterest_3 : decode cX0_burnInterest 3 = .ok (.istore_n 2, 1) := by decide +kernel
theorem dX0_burnInterest_4 : decode cX0_burnInterest 4 = .ok (.iload_n 2, 1) := by decide +kernel
theorem dX0_burnInterest_5 : decode cX0_burnInterest 5 = .ok (.aload_n 0, 1) := by decide +kernel
theorem dX0_burnInterest_6 : decode cX0_burnInterest 6 = .ok (.getfield 46, 3) := by decide +kernel
theorem dX0_burnInterest_9 : decode cX0_burnInterest 9 = .ok (.if_icmp .ge 79, 3) := by decide +kernel
theorem dX0_burnInterest_12 : decode cX0_burnInterest 12 = .ok (.aload_n 0, 1) := by decide +kernel
theorem dX0_burnInterest_13 : decode cX0_burnInterest 13 = .ok (.iload_n 2, 1) := by decide +kernel
theorem dX0_burnInterest_14 : decode cX0_burnInterest 14 = .ok (.invokevirtual 83, 3) := by decide +kernel
theorem dX0_burnInterest_17 : decode cX0_burnInterest 17 = .ok (.istore_n 3, 1) := by decide +kernel
theorem dX0_burnInterest_18 : decode cX0_burnInterest 18 = .ok (.iload_n 3, 1) := by decide +kernel
theorem dX0_burnInterest_19 : decode cX0_burnInterest 19 = .ok (.aload_n 0, 1) := by decide +kernel
theorem dX0_burnInterest_20 : decode cX0_burnInterest 20 = .ok (.aload_n 0, 1) := by decide +kernel
theorem dX0_burnInterest_21 : decode cX0_burnInterest 21 = .ok (.getfield 27, 3) := by decide +kernel
theorem dX0_burnInterest_24 : decode cX0_burnInterest 24 = .ok (.iload_n 2, 1) := by decide +kernel
theorem dX0_burnInterest_25 : decode cX0_burnInterest 25 = .ok (.iaload, 1) := by decide +kernel
theorem dX0_burnInterest_26 : decode cX0_burnInterest 26 = .ok (.invokevirtual 93, 3) := by decide +kernel
theorem dX0_burnInterest_29 : decode cX0_burnInterest 29 = .ok (.invokestatic 121, 3) := by decide +kernel
theorem dX0_burnInterest_32 : decode cX0_burnInterest 32 = .ok (.istore 4, 2) := by decide +kernel
theorem dX0_burnInterest_34 : decode cX0_burnInterest 34 = .ok (.aload_n 0, 1) := by decide +kernel
theorem dX0_burnInterest_35 : decode cX0_burnInterest 35 = .ok (.aload_n 0, 1) := by decide +kernel
theorem dX0_burnInterest_36 : decode cX0_burnInterest 36 = .ok (.getfield 27, 3) := by decide +kernel
theorem dX0_burnInterest_39 : decode cX0_burnInterest 39 = .ok (.iload_n 2, 1) := by decide +kernel
theorem dX0_burnInterest_40 : decode cX0_burnInterest 40 = .ok (.iaload, 1) := by decide +kernel
theorem dX0_burnInterest_41 : decode cX0_burnInterest 41 = .ok (.iload 4, 2) := by decide +kernel
theorem dX0_burnInterest_43 : decode cX0_burnInterest 43 = .ok (.invokevirtual 150, 3) := by decide +kernel
theorem dX0_burnInterest_46 : decode cX0_burnInterest 46 = .ok (.iload 4, 2) := by decide +kernel
theorem dX0_burnInterest_48 : decode cX0_burnInterest 48 = .ok (.iload_n 3, 1) := by decide +kernel
theorem dX0_burnInterest_49 : decode cX0_burnInterest 49 = .ok (.if_icmp .ge 14, 3) := by decide +kernel
theorem dX0_burnInterest_52 : decode cX0_burnInterest 52 = .ok (.iload_n 1, 1) := by decide +kernel
theorem dX0_burnInterest_53 : decode cX0_burnInterest 53 = .ok (.iconst 1, 1) := by decide +kernel
theorem dX0_burnInterest_54 : decode cX0_burnInterest 54 = .ok (.aload_n 0, 1) := by decide +kernel
theorem dX0_burnInterest_55 : decode cX0_burnInterest 55 = .ok (.getfield 27, 3) := by decide +kernel
theorem dX0_burnInterest_58 : decode cX0_burnInterest 58 = .ok (.iload_n 2, 1) := by decide +kernel
theorem dX0_burnInterest_59 : decode cX0_burnInterest 59 = .ok (.iaload, 1) := by decide +kernel
theorem dX0_burnInterest_60 : decode cX0_burnInterest 60 = .ok (.ishl, 1) := by decide +kernel
theorem dX0_burnInterest_61 : decode cX0_burnInterest 61 = .ok (.ior, 1) := by decide +kernel
theorem dX0_burnInterest_62 : decode cX0_burnInterest 62 = .ok (.istore_n 1, 1) := by decide +kernel
theorem dX0_burnInterest_63 : decode cX0_burnInterest 63 = .ok (.iload_n 2, 1) := by decide +kernel
theorem dX0_burnInterest_64 : decode cX0_burnInterest 64 = .ok (.aload_n 0, 1) := by decide +kernel
theorem dX0_burnInterest_65 : decode cX0_burnInterest 65 = .ok (.getfield 39, 3) := by decide +kernel
theorem dX0_burnInterest_68 : decode cX0_burnInterest 68 = .ok (.if_icmp .ne 14, 3) := by decide +kernel
theorem dX0_burnInterest_71 : decode cX0_burnInterest 71 = .ok (.aload_n 0, 1) := by decide +kernel
theorem dX0_burnInterest_72 : decode cX0_burnInterest 72 = .ok (.dup, 1) := by decide +kernel
theorem dX0_burnInterest_73 : decode cX0_burnInterest 73 = .ok (.getfield 64, 3) := by decide +kernel
theorem dX0_burnInterest_76 : decode cX0_burnInterest 76 = .ok (.iload 4, 2) := by decide +kernel
theorem dX0_burnInterest_78 : decode cX0_burnInterest 78 = .ok (.iadd, 1) := by decide +kernel
theorem dX0_burnInterest_79 : decode cX0_burnInterest 79 = .ok (.putfield 64, 3) := by decide +kernel
theorem dX0_burnInterest_82 : decode cX0_burnInterest 82 = .ok (.iinc 2 1, 3) := by decide +kernel
theorem dX0_burnInterest_85 : decode cX0_burnInterest 85 = .ok (.goto (-81), 3) := by decide +kernel
theorem dX0_burnInterest_88 : decode cX0_burnInterest 88 = .ok (.iload_n 1, 1) := by decide +kernel
theorem dX0_burnInterest_89 : decode cX0_burnInterest 89 = .ok (.ireturn, 1) := by decide +kernel
theorem dX0_countLateRounds_0 : decode cX0_countLateRounds 0 = .ok (.iconst 0, 1) := by decide +kernel
theorem dX0_countLateRounds_1 : decode cX0_countLateRounds 1 = .ok (.istore_n 2, 1) := by decide +kernel
theorem dX0_countLateRounds_2 : decode cX0_countLateRounds 2 = .ok (.iconst 0, 1) := by decide +kernel
theorem dX0_countLateRounds_3 : decode cX0_countLateRounds 3 = .ok (.istore_n 3, 1) := by decide +kernel
theorem dX0_countLateRounds_4 : decode cX0_countLateRounds 4 = .ok (.iload_n 3, 1) := by decide +kernel
theorem dX0_countLateRounds_5 : decode cX0_countLateRounds 5 = .ok (.aload_n 0, 1) := by decide +kernel
theorem dX0_countLateRounds_6 : decode cX0_countLateRounds 6 = .ok (.getfield 43, 3) := by decide +kernel
theorem dX0_countLateRounds_9 : decode cX0_countLateRounds 9 = .ok (.if_icmp .ge 82, 3) := by decide +kernel
theorem dX0_countLateRounds_12 : decode cX0_countLateRounds 12 = .ok (.aload_n 0, 1) := by decide +kernel
theorem dX0_countLateRounds_13 : decode cX0_countLateRounds 13 = .ok (.iload_n 3, 1) := by decide +kernel
theorem dX0_countLateRounds_14 : decode cX0_countLateRounds 14 = .ok (.invokevirtual 77, 3) := by decide +kernel
theorem dX0_countLateRounds_17 : decode cX0_countLateRounds 17 = .ok (.ifCond .eq 6, 3) := by decide +kernel
theorem dX0_countLateRounds_20 : decode cX0_countLateRounds 20 = .ok (.goto 65, 3) := by decide +kernel
theorem dX0_countLateRounds_23 : decode cX0_countLateRounds 23 = .ok (.iload_n 1, 1) := by decide +kernel
theorem dX0_countLateRounds_24 : decode cX0_countLateRounds 24 = .ok (.iconst 1, 1) := by decide +kernel
theorem dX0_countLateRounds_25 : decode cX0_countLateRounds 25 = .ok (.iload_n 3, 1) := by decide +kernel
theorem dX0_countLateRounds_26 : decode cX0_countLateRounds 26 = .ok (.ishl, 1) := by decide +kernel
theorem dX0_countLateRounds_27 : decode cX0_countLateRounds 27 = .ok (.iand, 1) := by decide +kernel
theorem dX0_countLateRounds_28 : decode cX0_countLateRounds 28 = .ok (.ifCond .eq 7, 3) := by decide +kernel
theorem dX0_countLateRounds_31 : decode cX0_countLateRounds 31 = .ok (.iconst 1, 1) := by decide +kernel
theorem dX0_countLateRounds_32 : decode cX0_countLateRounds 32 = .ok (.goto 4, 3) := by decide +kernel
theorem dX0_countLateRounds_35 : decode cX0_countLateRounds 35 = .ok (.iconst 0, 1) := by decide +kernel
theorem dX0_countLateRounds_36 : decode cX0_countLateRounds 36 = .ok (.istore 4, 2) := by decide +kernel
theorem dX0_countLateRounds_38 : decode cX0_countLateRounds 38 = .ok (.aload_n 0, 1) := by decide +kernel
theorem dX0_countLateRounds_39 : decode cX0_countLateRounds 39 = .ok (.getfield 21, 3) := by decide +kernel
theorem dX0_countLateRounds_42 : decode cX0_countLateRounds 42 = .ok (.iload_n 3, 1) := by decide +kernel
theorem dX0_countLateRounds_43 : decode cX0_countLateRounds 43 = .ok (.iload 4, 2) := by decide +kernel
theorem dX0_countLateRounds_45 : decode cX0_countLateRounds 45 = .ok (.ifCond .eq 14, 3) := by decide +kernel
theorem dX0_countLateRounds_48 : decode cX0_countLateRounds 48 = .ok (.aload_n 0, 1) := by decide +kernel
theorem dX0_countLateRounds_49 : decode cX0_countLateRounds 49 = .ok (.getfield 21, 3) := by decide +kernel
theorem dX0_countLateRounds_52 : decode cX0_countLateRounds 52 = .ok (.iload_n 3, 1) := by decide +kernel
theorem dX0_countLateRounds_53 : decode cX0_countLateRounds 53 = .ok (.iaload, 1) := by decide +kernel
theorem dX0_countLateRounds_54 : decode cX0_countLateRounds 54 = .ok (.iconst 1, 1) := by decide +kernel
theorem dX0_countLateRounds_55 : decode cX0_countLateRounds 55 = .ok (.iadd, 1) := by decide +kernel
theorem dX0_countLateRounds_56 : decode cX0_countLateRounds 56 = .ok (.goto 4, 3) := by decide +kernel
theorem dX0_countLateRounds_59 : decode cX0_countLateRounds 59 = .ok (.iconst 0, 1) := by decide +kernel
theorem dX0_countLateRounds_60 : decode cX0_countLateRounds 60 = .ok (.iastore, 1) := by decide +kernel
theorem dX0_countLateRounds_61 : decode cX0_countLateRounds 61 = .ok (.aload_n 0, 1) := by decide +kernel
theorem dX0_countLateRounds_62 : decode cX0_countLateRounds 62 = .ok (.iload_n 3, 1) := by decide +kernel
theorem dX0_countLateRounds_63 : decode cX0_countLateRounds 63 = .ok (.invokevirtual 77, 3) := by decide +kernel
theorem dX0_countLateRounds_66 : decode cX0_countLateRounds 66 = .ok (.ifCond .eq 19, 3) := by decide +kernel
theorem dX0_countLateRounds_69 : decode cX0_countLateRounds 69 = .ok (.aload_n 0, 1) := by decide +kernel
theorem dX0_countLateRounds_70 : decode cX0_countLateRounds 70 = .ok (.iload_n 3, 1) := by decide +kernel
theorem dX0_countLateRounds_71 : decode cX0_countLateRounds 71 = .ok (.invokevirtual 154, 3) := by decide +kernel
theorem dX0_countLateRounds_74 : decode cX0_countLateRounds 74 = .ok (.aload_n 0, 1) := by decide +kernel
theorem dX0_countLateRounds_75 : decode cX0_countLateRounds 75 = .ok (.iload_n 3, 1) := by decide +kernel
theorem dX0_countLateRounds_76 : decode cX0_countLateRounds 76 = .ok (.invokevirtual 157, 3) := by decide +kernel
theorem dX0_countLateRounds_79 : decode cX0_countLateRounds 79 = .ok (.iload_n 2, 1) := by decide +kernel
theorem dX0_countLateRounds_80 : decode cX0_countLateRounds 80 = .ok (.iconst 1, 1) := by decide +kernel
theorem dX0_countLateRounds_81 : decode cX0_countLateRounds 81 = .ok (.iload_n 3, 1) := by decide +kernel
theorem dX0_countLateRounds_82 : decode cX0_countLateRounds 82 = .ok (.ishl, 1) := by decide +kernel
theorem dX0_countLateRounds_83 : decode cX0_countLateRounds 83 = .ok (.ior, 1) := by decide +kernel
theorem dX0_countLateRounds_84 : decode cX0_countLateRounds 84 = .ok (.istore_n 2, 1) := by decide +kernel
theorem dX0_countLateRounds_85 : decode cX0_countLateRounds 85 = .ok (.iinc 3 1, 3) := by decide +kernel
theorem dX0_countLateRounds_88 : decode cX0_countLateRounds 88 = .ok (.goto (-84), 3) := by decide +kernel
theorem dX0_countLateRounds_91 : decode cX0_countLateRounds 91 = .ok (.iload_n 2, 1) := by decide +kernel
theorem dX0_countLateRounds_92 : decode cX0_countLateRounds 92 = .ok (.ireturn, 1) := by decide +kernel
theorem dX0_shareOut_0 : decode cX0_shareOut 0 = .ok (.aload_n 0, 1) := by decide +kernel
theorem dX0_shareOut_1 : decode cX0_shareOut 1 = .ok (.iload_n 1, 1) := by decide +kernel
theorem dX0_shareOut_2 : decode cX0_shareOut 2 = .ok (.invokevirtual 73, 3) := by decide +kernel
theorem dX0_shareOut_5 : decode cX0_shareOut 5 = .ok (.ifCond .ne 4, 3) := by decide +kernel
theorem dX0_shareOut_8 : decode cX0_shareOut 8 = .ok (.return_, 1) := by decide +kernel
theorem dX0_shareOut_9 : decode cX0_shareOut 9 = .ok (.aload_n 0, 1) := by decide +kernel
theorem dX0_shareOut_10 : decode cX0_shareOut 10 = .ok (.iload_n 1, 1) := by decide +kernel
theorem dX0_shareOut_11 : decode cX0_shareOut 11 = .ok (.invokevirtual 93, 3) := by decide +kernel
theorem dX0_shareOut_14 : decode cX0_shareOut 14 = .ok (.istore_n 2, 1) := by decide +kernel
theorem dX0_shareOut_15 : decode cX0_shareOut 15 = .ok (.aload_n 0, 1) := by decide +kernel
theorem dX0_shareOut_16 : decode cX0_shareOut 16 = .ok (.iload_n 1, 1) := by decide +kernel
theorem dX0_shareOut_17 : decode cX0_shareOut 17 = .ok (.invokevirtual 87, 3) := by decide +kernel
theorem dX0_shareOut_20 : decode cX0_shareOut 20 = .ok (.istore_n 3, 1) := by decide +kernel
theorem dX0_shareOut_21 : decode cX0_shareOut 21 = .ok (.iconst 0, 1) := by decide +kernel
theorem dX0_shareOut_22 : decode cX0_shareOut 22 = .ok (.istore 4, 2) := by decide +kernel
theorem dX0_shareOut_24 : decode cX0_shareOut 24 = .ok (.iload 4, 2) := by decide +kernel
theorem dX0_shareOut_26 : decode cX0_shareOut 26 = .ok (.aload_n 0, 1) := by decide +kernel
theorem dX0_shareOut_27 : decode cX0_shareOut 27 = .ok (.getfield 46, 3) := by decide +kernel
theorem dX0_shareOut_30 : decode cX0_shareOut 30 = .ok (.if_icmp .ge 105, 3) := by decide +kernel
theorem dX0_shareOut_33 : decode cX0_shareOut 33 = .ok (.aload_n 0, 1) := by decide +kernel
theorem dX0_shareOut_34 : decode cX0_shareOut 34 = .ok (.getfield 24, 3) := by decide +kernel
theorem dX0_shareOut_37 : decode cX0_shareOut 37 = .ok (.iload 4, 2) := by decide +kernel
theorem dX0_shareOut_39 : decode cX0_shareOut 39 = .ok (.iaload, 1) := by decide +kernel
theorem dX0_shareOut_40 : decode cX0_shareOut 40 = .ok (.istore 5, 2) := by decide +kernel
theorem dX0_shareOut_42 : decode cX0_shareOut 42 = .ok (.aload_n 0, 1) := by decide +kernel
theorem dX0_shareOut_43 : decode cX0_shareOut 43 = .ok (.getfield 27, 3) := by decide +kernel
theorem dX0_shareOut_46 : decode cX0_shareOut 46 = .ok (.iload 4, 2) := by decide +kernel
theorem dX0_shareOut_48 : decode cX0_shareOut 48 = .ok (.iaload, 1) := by decide +kernel
theorem dX0_shareOut_49 : decode cX0_shareOut 49 = .ok (.iload_n 1, 1) := by decide +kernel
theorem dX0_shareOut_50 : decode cX0_shareOut 50 = .ok (.if_icmp .ne 79, 3) := by decide +kernel
theorem dX0_shareOut_53 : decode cX0_shareOut 53 = .ok (.aload_n 0, 1) := by decide +kernel
theorem dX0_shareOut_54 : decode cX0_shareOut 54 = .ok (.iload 5, 2) := by decide +kernel
theorem dX0_shareOut_56 : decode cX0_shareOut 56 = .ok (.invokevirtual 73, 3) := by decide +kernel
theorem dX0_shareOut_59 : decode cX0_shareOut 59 = .ok (.ifCond .eq 70, 3) := by decide +kernel
theorem dX0_shareOut_62 : decode cX0_shareOut 62 = .ok (.iload_n 3, 1) := by decide +kernel
theorem dX0_shareOut_63 : decode cX0_shareOut 63 = .ok (.ifCond .le 66, 3) := by decide +kernel
theorem dX0_shareOut_66 : decode cX0_shareOut 66 = .ok (.iload_n 2, 1) := by decide +kernel
theorem dX0_shareOut_67 : decode cX0_shareOut 67 = .ok (.aload_n 0, 1) := by decide +kernel
theorem dX0_shareOut_68 : decode cX0_shareOut 68 = .ok (.getfield 30, 3) := by decide +kernel
theorem dX0_shareOut_71 : decode cX0_shareOut 71 = .ok (.iload 4, 2) := by decide +kernel
theorem dX0_shareOut_73 : decode cX0_shareOut 73 = .ok (.iaload, 1) := by decide +kernel
theorem dX0_shareOut_74 : decode cX0_shareOut 74 = .ok (.imul, 1) := by decide +kernel
theorem dX0_shareOut_75 : decode cX0_shareOut 75 = .ok (.iload_n 3, 1) := by decide +kernel
theorem dX0_shareOut_76 : decode cX0_shareOut 76 = .ok (.idiv, 1) := by decide +kernel
theorem dX0_shareOut_77 : decode cX0_shareOut 77 = .ok (.istore 6, 2) := by decide +kernel
theorem dX0_shareOut_79 : decode cX0_shareOut 79 = .ok (.iload 6, 2) := by decide +kernel
theorem dX0_shareOut_81 : decode cX0_shareOut 81 = .ok (.aload_n 0, 1) := by decide +kernel
theorem dX0_shareOut_82 : decode cX0_shareOut 82 = .ok (.iload 5, 2) := by decide +kernel
theorem dX0_shareOut_84 : decode cX0_shareOut 84 = .ok (.invokevirtual 100, 3) := by decide +kernel
theorem dX0_shareOut_87 : decode cX0_shareOut 87 = .ok (.invokestatic 121, 3) := by decide +kernel
theorem dX0_shareOut_90 : decode cX0_shareOut 90 = .ok (.istore 7, 2) := by decide +kernel
theorem dX0_shareOut_92 : decode cX0_shareOut 92 = .ok (.aload_n 0, 1) := by decide +kernel
theorem dX0_shareOut_93 : decode cX0_shareOut 93 = .ok (.getfield 15, 3) := by decide +kernel
theorem dX0_shareOut_96 : decode cX0_shareOut 96 = .ok (.iload 5, 2) := by decide +kernel
theorem dX0_shareOut_98 : decode cX0_shareOut 98 = .ok (.dup2, 1) := by decide +kernel
theorem dX0_shareOut_99 : decode cX0_shareOut 99 = .ok (.iaload, 1) := by decide +kernel
theorem dX0_shareOut_100 : decode cX0_shareOut 100 = .ok (.iload 7, 2) := by decide +kernel
theorem dX0_shareOut_102 : decode cX0_shareOut 102 = .ok (.iadd, 1) := by decide +kernel
theorem dX0_shareOut_103 : decode cX0_shareOut 103 = .ok (.iastore, 1) := by decide +kernel
theorem dX0_shareOut_104 : decode cX0_shareOut 104 = .ok (.aload_n 0, 1) := by decide +kernel
theorem dX0_shareOut_105 : decode cX0_shareOut 105 = .ok (.dup, 1) := by decide +kernel
theorem dX0_shareOut_106 : decode cX0_shareOut 106 = .ok (.getfield 58, 3) := by decide +kernel
theorem dX0_shareOut_109 : decode cX0_shareOut 109 = .ok (.iload 6, 2) := by decide +kernel
theorem dX0_shareOut_111 : decode cX0_shareOut 111 = .ok (.iload 7, 2) := by decide +kernel
theorem dX0_shareOut_113 : decode cX0_shareOut 113 = .ok (.isub, 1) := by decide +kernel
theorem dX0_shareOut_114 : decode cX0_shareOut 114 = .ok (.iadd, 1) := by decide +kernel
theorem dX0_shareOut_115 : decode cX0_shareOut 115 = .ok (.putfield 58, 3) := by decide +kernel
theorem dX0_shareOut_118 : decode cX0_shareOut 118 = .ok (.aload_n 0, 1) := by decide +kernel
theorem dX0_shareOut_119 : decode cX0_shareOut 119 = .ok (.getfield 15, 3) := by decide +kernel
theorem dX0_shareOut_122 : decode cX0_shareOut 122 = .ok (.iload_n 1, 1) := by decide +kernel
theorem dX0_shareOut_123 : decode cX0_shareOut 123 = .ok (.dup2, 1) := by decide +kernel
theorem dX0_shareOut_124 : decode cX0_shareOut 124 = .ok (.iaload, 1) := by decide +kernel
theorem dX0_shareOut_125 : decode cX0_shareOut 125 = .ok (.iload 6, 2) := by decide +kernel
theorem dX0_shareOut_127 : decode cX0_shareOut 127 = .ok (.isub, 1) := by decide +kernel
theorem dX0_shareOut_128 : decode cX0_shareOut 128 = .ok (.iastore, 1) := by decide +kernel
theorem dX0_shareOut_129 : decode cX0_shareOut 129 = .ok (.iinc 4 1, 3) := by decide +kernel
theorem dX0_shareOut_132 : decode cX0_shareOut 132 = .ok (.goto (-108), 3) := by decide +kernel
theorem dX0_shareOut_135 : decode cX0_shareOut 135 = .ok (.aload_n 0, 1) := by decide +kernel
theorem dX0_shareOut_136 : decode cX0_shareOut 136 = .ok (.iload_n 1, 1) := by decide +kernel
theorem dX0_shareOut_137 : decode cX0_shareOut 137 = .ok (.aload_n 0, 1) := by decide +kernel
theorem dX0_shareOut_138 : decode cX0_shareOut 138 = .ok (.iload_n 1, 1) := by decide +kernel
theorem dX0_shareOut_139 : decode cX0_shareOut 139 = .ok (.invokevirtual 93, 3) := by decide +kernel
theorem dX0_shareOut_142 : decode cX0_shareOut 142 = .ok (.invokevirtual 150, 3) := by decide +kernel
theorem dX0_shareOut_145 : decode cX0_shareOut 145 = .ok (.return_, 1) := by decide +kernel
theorem dX0_dropLoansOf_0 : decode cX0_dropLoansOf 0 = .ok (.aload_n 0, 1) := by decide +kernel
theorem dX0_dropLoansOf_1 : decode cX0_dropLoansOf 1 = .ok (.getfield 46, 3) := by decide +kernel
theorem dX0_dropLoansOf_4 : decode cX0_dropLoansOf 4 = .ok (.iconst 1, 1) := by decide +kernel
theorem dX0_dropLoansOf_5 : decode cX0_dropLoansOf 5 = .ok (.isub, 1) := by decide +kernel
theorem dX0_dropLoansOf_6 : decode cX0_dropLoansOf 6 = .ok (.istore_n 2, 1) := by decide +kernel
theorem dX0_dropLoansOf_7 : decode cX0_dropLoansOf 7 = .ok (.iload_n 2, 1) := by decide +kernel
theorem dX0_dropLoansOf_8 : decode cX0_dropLoansOf 8 = .ok (.ifCond .lt 49, 3) := by decide +kernel
theorem dX0_dropLoansOf_11 : decode cX0_dropLoansOf 11 = .ok (.aload_n 0, 1) := by decide +kernel
theorem dX0_dropLoansOf_12 : decode cX0_dropLoansOf 12 = .ok (.getfield 24, 3) := by decide +kernel
theorem dX0_dropLoansOf_15 : decode cX0_dropLoansOf 15 = .ok (.iload_n 2, 1) := by decide +kernel
