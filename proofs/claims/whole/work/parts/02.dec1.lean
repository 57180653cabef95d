theorem dX0_burnInterest_65 : decode cX0_burnInterest 65 = .ok (.getfield 39, 3) := by decide +kernel
theorem dX0_burnInterest_68 : decode cX0_burnInterest 68 = .ok (.if_icmp .ne 14, 3) := by decide +kernel
theorem dX0_burnInterest_71 : decode cX0_burnInterest 71 = .ok (.aload_n 0, 1) := by decide +kernel
theorem dX0_burnInterest_72 : decode cX0_burnInterest 72 = .ok (.dup, 1) := by decide +kernel
theorem dX0_burnInterest_73 : decode cX0_burnInterest 73 = .ok (.getfield 64, 3) := by decide +kernel
theorem dX0_burnInterest_76 : decode cX0_burnInterest 76 = .ok (.iload 4, 2) := by decide +kernel
theorem dX0_burnInterest_78 : decode cX0_burnInterest 78 = .ok (.iadd, 1) := by decide +kernel
theorem dX0_burnInterest_79 : decode cX0_burnInterest 79 = .ok (.putfield 64, 3) := by decide +kernel
theorem dX0_burnInterest_82 : decode cX0_burnInterest 82 = .ok (.iinc 2 1, 3) := by decide +kernel
theorem dX0_burnInterest_85 : decode cX0_burnInterest 85 = .ok (.goto (-81), 3) := by decide +kernel
theorem dX0_burnInterest_88 : decode cX0_burnInterest 88 = .ok (.iload_n 1, 1) := by decide +kernel
theorem dX0_burnInterest_89 : decode cX0_burnInterest 89 = .ok (.ireturn, 1) := by decide +kernel
theorem dX0_countLateRounds_0 : decode cX0_countLateRounds 0 = .ok (.iconst 0, 1) := by decide +kernel
theorem dX0_countLateRounds_1 : decode cX0_countLateRounds 1 = .ok (.istore_n 2, 1) := by decide +kernel
theorem dX0_countLateRounds_2 : decode cX0_countLateRounds 2 = .ok (.iconst 0, 1) := by decide +kernel
theorem dX0_countLateRounds_3 : decode cX0_countLateRounds 3 = .ok (.istore_n 3, 1) := by decide +kernel
theorem dX0_countLateRounds_4 : decode cX0_countLateRounds 4 = .ok (.iload_n 3, 1) := by decide +kernel
theorem dX0_countLateRounds_5 : decode cX0_countLateRounds 5 = .ok (.aload_n 0, 1) := by decide +kernel
theorem dX0_countLateRounds_6 : decode cX0_countLateRounds 6 = .ok (.getfield 43, 3) := by decide +kernel
theorem dX0_countLateRounds_9 : decode cX0_countLateRounds 9 = .ok (.if_icmp .ge 82, 3) := by decide +kernel
theorem dX0_countLateRounds_12 : decode cX0_countLateRounds 12 = .ok (.aload_n 0, 1) := by decide +kernel
theorem dX0_countLateRounds_13 : decode cX0_countLateRounds 13 = .ok (.iload_n 3, 1) := by decide +kernel
theorem dX0_countLateRounds_14 : decode cX0_countLateRounds 14 = .ok (.invokevirtual 77, 3) := by decide +kernel
theorem dX0_countLateRounds_17 : decode cX0_countLateRounds 17 = .ok (.ifCond .eq 6, 3) := by decide +kernel
theorem dX0_countLateRounds_20 : decode cX0_countLateRounds 20 = .ok (.goto 65, 3) := by decide +kernel
theorem dX0_countLateRounds_23 : decode cX0_countLateRounds 23 = .ok (.iload_n 1, 1) := by decide +kernel
theorem dX0_countLateRounds_24 : decode cX0_countLateRounds 24 = .ok (.iconst 1, 1) := by decide +kernel
theorem dX0_countLateRounds_25 : decode cX0_countLateRounds 25 = .ok (.iload_n 3, 1) := by decide +kernel
theorem dX0_countLateRounds_26 : decode cX0_countLateRounds 26 = .ok (.ishl, 1) := by decide +kernel
theorem dX0_countLateRounds_27 : decode cX0_countLateRounds 27 = .ok (.iand, 1) := by decide +kernel
theorem dX0_countLateRounds_28 : decode cX0_countLateRounds 28 = .ok (.ifCond .eq 7, 3) := by decide +kernel
theorem dX0_countLateRounds_31 : decode cX0_countLateRounds 31 = .ok (.iconst 1, 1) := by decide +kernel
theorem dX0_countLateRounds_32 : decode cX0_countLateRounds 32 = .ok (.goto 4, 3) := by decide +kernel
theorem dX0_countLateRounds_35 : decode cX0_countLateRounds 35 = .ok (.iconst 0, 1) := by decide +kernel
theorem dX0_countLateRounds_36 : decode cX0_countLateRounds 36 = .ok (.istore 4, 2) := by decide +kernel
theorem dX0_countLateRounds_38 : decode cX0_countLateRounds 38 = .ok (.aload_n 0, 1) := by decide +kernel
theorem dX0_countLateRounds_39 : decode cX0_countLateRounds 39 = .ok (.getfield 21, 3) := by decide +kernel
theorem dX0_countLateRounds_42 : decode cX0_countLateRounds 42 = .ok (.iload_n 3, 1) := by decide +kernel
theorem dX0_countLateRounds_43 : decode cX0_countLateRounds 43 = .ok (.iload 4, 2) := by decide +kernel
theorem dX0_countLateRounds_45 : decode cX0_countLateRounds 45 = .ok (.ifCond .eq 14, 3) := by decide +kernel
theorem dX0_countLateRounds_48 : decode cX0_countLateRounds 48 = .ok (.aload_n 0, 1) := by decide +kernel
theorem dX0_countLateRounds_49 : decode cX0_countLateRounds 49 = .ok (.getfield 21, 3) := by decide +kernel
theorem dX0_countLateRounds_52 : decode cX0_countLateRounds 52 = .ok (.iload_n 3, 1) := by decide +kernel
theorem dX0_countLateRounds_53 : decode cX0_countLateRounds 53 = .ok (.iaload, 1) := by decide +kernel
theorem dX0_countLateRounds_54 : decode cX0_countLateRounds 54 = .ok (.iconst 1, 1) := by decide +kernel
theorem dX0_countLateRounds_55 : decode cX0_countLateRounds 55 = .ok (.iadd, 1) := by decide +kernel
theorem dX0_countLateRounds_56 : decode cX0_countLateRounds 56 = .ok (.goto 4, 3) := by decide +kernel
theorem dX0_countLateRounds_59 : decode cX0_countLateRounds 59 = .ok (.iconst 0, 1) := by decide +kernel
theorem dX0_countLateRounds_60 : decode cX0_countLateRounds 60 = .ok (.iastore, 1) := by decide +kernel
theorem dX0_countLateRounds_61 : decode cX0_countLateRounds 61 = .ok (.aload_n 0, 1) := by decide +kernel
theorem dX0_countLateRounds_62 : decode cX0_countLateRounds 62 = .ok (.iload_n 3, 1) := by decide +kernel
theorem dX0_countLateRounds_63 : decode cX0_countLateRounds 63 = .ok (.invokevirtual 77, 3) := by decide +kernel
theorem dX0_countLateRounds_66 : decode cX0_countLateRounds 66 = .ok (.ifCond .eq 19, 3) := by decide +kernel
theorem dX0_countLateRounds_69 : decode cX0_countLateRounds 69 = .ok (.aload_n 0, 1) := by decide +kernel
theorem dX0_countLateRounds_70 : decode cX0_countLateRounds 70 = .ok (.iload_n 3, 1) := by decide +kernel
theorem dX0_countLateRounds_71 : decode cX0_countLateRounds 71 = .ok (.invokevirtual 154, 3) := by decide +kernel
theorem dX0_countLateRounds_74 : decode cX0_countLateRounds 74 = .ok (.aload_n 0, 1) := by decide +kernel
theorem dX0_countLateRounds_75 : decode cX0_countLateRounds 75 = .ok (.iload_n 3, 1) := by decide +kernel
theorem dX0_countLateRounds_76 : decode cX0_countLateRounds 76 = .ok (.invokevirtual 157, 3) := by decide +kernel
theorem dX0_countLateRounds_79 : decode cX0_countLateRounds 79 = .ok (.iload_n 2, 1) := by decide +kernel
theorem dX0_countLateRounds_80 : decode cX0_countLateRounds 80 = .ok (.iconst 1, 1) := by decide +kernel
theorem dX0_countLateRounds_81 : decode cX0_countLateRounds 81 = .ok (.iload_n 3, 1) := by decide +kernel
theorem dX0_countLateRounds_82 : decode cX0_countLateRounds 82 = .ok (.ishl, 1) := by decide +kernel
theorem dX0_countLateRounds_83 : decode cX0_countLateRounds 83 = .ok (.ior, 1) := by decide +kernel
theorem dX0_countLateRounds_84 : decode cX0_countLateRounds 84 = .ok (.istore_n 2, 1) := by decide +kernel
theorem dX0_countLateRounds_85 : decode cX0_countLateRounds 85 = .ok (.iinc 3 1, 3) := by decide +kernel
theorem dX0_countLateRounds_88 : decode cX0_countLateRounds 88 = .ok (.goto (-84), 3) := by decide +kernel
theorem dX0_countLateRounds_91 : decode cX0_countLateRounds 91 = .ok (.iload_n 2, 1) := by decide +kernel
theorem dX0_countLateRounds_92 : decode cX0_countLateRounds 92 = .ok (.ireturn, 1) := by decide +kernel
theorem dX0_shareOut_0 : decode cX0_shareOut 0 = .ok (.aload_n 0, 1) := by decide +kernel
theorem dX0_shareOut_1 : decode cX0_shareOut 1 = .ok (.iload_n 1, 1) := by decide +kernel
theorem dX0_shareOut_2 : decode cX0_shareOut 2 = .ok (.invokevirtual 73, 3) := by decide +kernel
theorem dX0_shareOut_5 : decode cX0_shareOut 5 = .ok (.ifCond .ne 4, 3) := by decide +kernel
theorem dX0_shareOut_8 : decode cX0_shareOut 8 = .ok (.return_, 1) := by decide +kernel
theorem dX0_shareOut_9 : decode cX0_shareOut 9 = .ok (.aload_n 0, 1) := by decide +kernel
theorem dX0_shareOut_10 : decode cX0_shareOut 10 = .ok (.iload_n 1, 1) := by decide +kernel
theorem dX0_shareOut_11 : decode cX0_shareOut 11 = .ok (.invokevirtual 93, 3) := by decide +kernel
theorem dX0_shareOut_14 : decode cX0_shareOut 14 = .ok (.istore_n 2, 1) := by decide +kernel
theorem dX0_shareOut_15 : decode cX0_shareOut 15 = .ok (.aload_n 0, 1) := by decide +kernel
theorem dX0_shareOut_16 : decode cX0_shareOut 16 = .ok (.iload_n 1, 1) := by decide +kernel
theorem dX0_shareOut_17 : decode cX0_shareOut 17 = .ok (.invokevirtual 87, 3) := by decide +kernel
theorem dX0_shareOut_20 : decode cX0_shareOut 20 = .ok (.istore_n 3, 1) := by decide +kernel
theorem dX0_shareOut_21 : decode cX0_shareOut 21 = .ok (.iconst 0, 1) := by decide +kernel
theorem dX0_shareOut_22 : decode cX0_shareOut 22 = .ok (.istore 4, 2) := by decide +kernel
theorem dX0_shareOut_24 : decode cX0_shareOut 24 = .ok (.iload 4, 2) := by decide +kernel
theorem dX0_shareOut_26 : decode cX0_shareOut 26 = .ok (.aload_n 0, 1) := by decide +kernel
theorem dX0_shareOut_27 : decode cX0_shareOut 27 = .ok (.getfield 46, 3) := by decide +kernel
theorem dX0_shareOut_30 : decode cX0_shareOut 30 = .ok (.if_icmp .ge 105, 3) := by decide +kernel
theorem dX0_shareOut_33 : decode cX0_shareOut 33 = .ok (.aload_n 0, 1) := by decide +kernel
theorem dX0_shareOut_34 : decode cX0_shareOut 34 = .ok (.getfield 24, 3) := by decide +kernel
theorem dX0_shareOut_37 : decode cX0_shareOut 37 = .ok (.iload 4, 2) := by decide +kernel
theorem dX0_shareOut_39 : decode cX0_shareOut 39 = .ok (.iaload, 1) := by decide +kernel
theorem dX0_shareOut_40 : decode cX0_shareOut 40 = .ok (.istore 5, 2) := by decide +kernel
theorem dX0_shareOut_42 : decode cX0_shareOut 42 = .ok (.aload_n 0, 1) := by decide +kernel
theorem dX0_shareOut_43 : decode cX0_shareOut 43 = .ok (.getfield 27, 3) := by decide +kernel
theorem dX0_shareOut_46 : decode cX0_shareOut 46 = .ok (.iload 4, 2) := by decide +kernel
theorem dX0_shareOut_48 : decode cX0_shareOut 48 = .ok (.iaload, 1) := by decide +kernel
theorem dX0_shareOut_49 : decode cX0_shareOut 49 = .ok (.iload_n 1, 1) := by decide +kernel
theorem dX0_shareOut_50 : decode cX0_shareOut 50 = .ok (.if_icmp .ne 79, 3) := by decide +kernel
theorem dX0_shareOut_53 : decode cX0_shareOut 53 = .ok (.aload_n 0, 1) := by decide +kernel
theorem dX0_shareOut_54 : decode cX0_shareOut 54 = .ok (.iload 5, 2) := by decide +kernel
theorem dX0_shareOut_56 : decode cX0_shareOut 56 = .ok (.invokevirtual 73, 3) := by decide +kernel
theorem dX0_shareOut_59 : decode cX0_shareOut 59 = .ok (.ifCond .eq 70, 3) := by decide +kernel
theorem dX0_shareOut_62 : decode cX0_shareOut 62 = .ok (.iload_n 3, 1) := by decide +kernel
theorem dX0_shareOut_63 : decode cX0_shareOut 63 = .ok (.ifCond .le 66, 3) := by decide +kernel
theorem dX0_shareOut_66 : decode cX0_shareOut 66 = .ok (.iload_n 2, 1) := by decide +kernel
theorem dX0_shareOut_67 : decode cX0_shareOut 67 = .ok (.aload_n 0, 1) := by decide +kernel
theorem dX0_shareOut_68 : decode cX0_shareOut 68 = .ok (.getfield 30, 3) := by decide +kernel
theorem dX0_shareOut_71 : decode cX0_shareOut 71 = .ok (.iload 4, 2) := by decide +kernel
theorem dX0_shareOut_73 : decode cX0_shareOut 73 = .ok (.iaload, 1) := by decide +kernel
theorem dX0_shareOut_74 : decode cX0_shareOut 74 = .ok (.imul, 1) := by decide +kernel
theorem dX0_shareOut_75 : decode cX0_shareOut 75 = .ok (.iload_n 3, 1) := by decide +kernel
theorem dX0_shareOut_76 : decode cX0_shareOut 76 = .ok (.idiv, 1) := by decide +kernel
theorem dX0_shareOut_77 : decode cX0_shareOut 77 = .ok (.istore 6, 2) := by decide +kernel
theorem dX0_shareOut_79 : decode cX0_shareOut 79 = .ok (.iload 6, 2) := by decide +kernel
theorem dX0_shareOut_81 : decode cX0_shareOut 81 = .ok (.aload_n 0, 1) := by decide +kernel
theorem dX0_shareOut_82 : decode cX0_shareOut 82 = .ok (.iload 5, 2) := by decide +kernel
theorem dX0_shareOut_84 : decode cX0_shareOut 84 = .ok (.invokevirtual 100, 3) := by decide +kernel
theorem dX0_shareOut_87 : decode cX0_shareOut 87 = .ok (.invokestatic 121, 3) := by decide +kernel
theorem dX0_shareOut_90 : decode cX0_shareOut 90 = .ok (.istore 7, 2) := by decide +kernel
theorem dX0_shareOut_92 : decode cX0_shareOut 92 = .ok (.aload_n 0, 1) := by decide +kernel
theorem dX0_shareOut_93 : decode cX0_shareOut 93 = .ok (.getfield 15, 3) := by decide +kernel
theorem dX0_shareOut_96 : decode cX0_shareOut 96 = .ok (.iload 5, 2) := by decide +kernel
theorem dX0_shareOut_98 : decode cX0_shareOut 98 = .ok (.dup2, 1) := by decide +kernel
theorem dX0_shareOut_99 : decode cX0_shareOut 99 = .ok (.iaload, 1) := by decide +kernel
theorem dX0_shareOut_100 : decode cX0_shareOut 100 = .ok (.iload 7, 2) := by decide +kernel
theorem dX0_shareOut_102 : decode cX0_shareOut 102 = .ok (.iadd, 1) := by decide +kernel
theorem dX0_shareOut_103 : decode cX0_shareOut 103 = .ok (.iastore, 1) := by decide +kernel
theorem dX0_shareOut_104 : decode cX0_shareOut 104 = .ok (.aload_n 0, 1) := by decide +kernel
theorem dX0_shareOut_105 : decode cX0_shareOut 105 = .ok (.dup, 1) := by decide +kernel
theorem dX0_shareOut_106 : decode cX0_shareOut 106 = .ok (.getfield 58, 3) := by decide +kernel
theorem dX0_shareOut_109 : decode cX0_shareOut 109 = .ok (.iload 6, 2) := by decide +kernel
theorem dX0_shareOut_111 : decode cX0_shareOut 111 = .ok (.iload 7, 2) := by decide +kernel
theorem dX0_shareOut_113 : decode cX0_shareOut 113 = .ok (.isub, 1) := by decide +kernel
theorem dX0_shareOut_114 : decode cX0_shareOut 114 = .ok (.iadd, 1) := by decide +kernel
theorem dX0_shareOut_115 : decode cX0_shareOut 115 = .ok (.putfield 58, 3) := by decide +kernel
theorem dX0_shareOut_118 : decode cX0_shareOut 118 = .ok (.aload_n 0, 1) := by decide +kernel
theorem dX0_shareOut_119 : decode cX0_shareOut 119 = .ok (.getfield 15, 3) := by decide +kernel
theorem dX0_shareOut_122 : decode cX0_shareOut 122 = .ok (.iload_n 1, 1) := by decide +kernel
theorem dX0_shareOut_123 : decode cX0_shareOut 123 = .ok (.dup2, 1) := by decide +kernel
theorem dX0_shareOut_124 : decode cX0_shareOut 124 = .ok (.iaload, 1) := by decide +kernel
theorem dX0_shareOut_125 : decode cX0_shareOut 125 = .ok (.iload 6, 2) := by decide +kernel
theorem dX0_shareOut_127 : decode cX0_shareOut 127 = .ok (.isub, 1) := by decide +kernel
theorem dX0_shareOut_128 : decode cX0_shareOut 128 = .ok (.iastore, 1) := by decide +kernel
theorem dX0_shareOut_129 : decode cX0_shareOut 129 = .ok (.iinc 4 1, 3) := by decide +kernel
theorem dX0_shareOut_132 : decode cX0_shareOut 132 = .ok (.goto (-108), 3) := by decide +kernel
theorem dX0_shareOut_135 : decode cX0_shareOut 135 = .ok (.aload_n 0, 1) := by decide +kernel
theorem dX0_shareOut_136 : decode cX0_shareOut 136 = .ok (.iload_n 1, 1) := by decide +kernel
theorem dX0_shareOut_137 : decode cX0_shareOut 137 = .ok (.aload_n 0, 1) := by decide +kernel
theorem dX0_shareOut_138 : decode cX0_shareOut 138 = .ok (.iload_n 1, 1) := by decide +kernel
theorem dX0_shareOut_139 : decode cX0_shareOut 139 = .ok (.invokevirtual 93, 3) := by decide +kernel
theorem dX0_shareOut_142 : decode cX0_shareOut 142 = .ok (.invokevirtual 150, 3) := by decide +kernel
theorem dX0_shareOut_145 : decode cX0_shareOut 145 = .ok (.return_, 1) := by decide +kernel
theorem dX0_dropLoansOf_0 : decode cX0_dropLoansOf 0 = .ok (.aload_n 0, 1) := by decide +kernel
theorem dX0_dropLoansOf_1 : decode cX0_dropLoansOf 1 = .ok (.getfield 46, 3) := by decide +kernel
theorem dX0_dropLoansOf_4 : decode cX0_dropLoansOf 4 = .ok (.iconst 1, 1) := by decide +kernel
theorem dX0_dropLoansOf_5 : decode cX0_dropLoansOf 5 = .ok (.isub, 1) := by decide +kernel
theorem dX0_dropLoansOf_6 : decode cX0_dropLoansOf 6 = .ok (.istore_n 2, 1) := by decide +kernel
theorem dX0_dropLoansOf_7 : decode cX0_dropLoansOf 7 = .ok (.iload_n 2, 1) := by decide +kernel
theorem dX0_dropLoansOf_8 : decode cX0_dropLoansOf 8 = .ok (.ifCond .lt 49, 3) := by decide +kernel
theorem dX0_dropLoansOf_11 : decode cX0_dropLoansOf 11 = .ok (.aload_n 0, 1) := by decide +kernel
theorem dX0_dropLoansOf_12 : decode cX0_dropLoansOf 12 = .ok (.getfield 24, 3) := by decide +kernel
theorem dX0_dropLoansOf_15 : decode cX0_dropLoansOf 15 = .ok (.iload_n 2, 1) := by decide +kernel
theorem dX0_dropLoansOf_16 : decode cX0_dropLoansOf 16 = .ok (.iaload, 1) := by decide +kernel
theorem dX0_dropLoansOf_17 : decode cX0_dropLoansOf 17 = .ok (.iload_n 1, 1) := by decide +kernel
theorem dX0_dropLoansOf_18 : decode cX0_dropLoansOf 18 = .ok (.if_icmp .eq 13, 3) := by decide +kernel
theorem dX0_dropLoansOf_21 : decode cX0_dropLoansOf 21 = .ok (.aload_n 0, 1) := by decide +kernel
theorem dX0_dropLoansOf_22 : decode cX0_dropLoansOf 22 = .ok (.getfield 27, 3) := by decide +kernel
theorem dX0_dropLoansOf_25 : decode cX0_dropLoansOf 25 = .ok (.iload_n 2, 1) := by decide +kernel
theorem dX0_dropLoansOf_26 : decode cX0_dropLoansOf 26 = .ok (.iaload, 1) := by decide +kernel
theorem dX0_dropLoansOf_27 : decode cX0_dropLoansOf 27 = .ok (.iload_n 1, 1) := by decide +kernel
theorem dX0_dropLoansOf_28 : decode cX0_dropLoansOf 28 = .ok (.if_icmp .ne 23, 3) := by decide +kernel
theorem dX0_dropLoansOf_31 : decode cX0_dropLoansOf 31 = .ok (.aload_n 0, 1) := by decide +kernel
theorem dX0_dropLoansOf_32 : decode cX0_dropLoansOf 32 = .ok (.dup, 1) := by decide +kernel
theorem dX0_dropLoansOf_33 : decode cX0_dropLoansOf 33 = .ok (.getfield 61, 3) := by decide +kernel
theorem dX0_dropLoansOf_36 : decode cX0_dropLoansOf 36 = .ok (.aload_n 0, 1) := by decide +kernel
theorem dX0_dropLoansOf_37 : decode cX0_dropLoansOf 37 = .ok (.getfield 30, 3) := by decide +kernel
theorem dX0_dropLoansOf_40 : decode cX0_dropLoansOf 40 = .ok (.iload_n 2, 1) := by decide +kernel
theorem dX0_dropLoansOf_41 : decode cX0_dropLoansOf 41 = .ok (.iaload, 1) := by decide +kernel
theorem dX0_dropLoansOf_42 : decode cX0_dropLoansOf 42 = .ok (.iadd, 1) := by decide +kernel
theorem dX0_dropLoansOf_43 : decode cX0_dropLoansOf 43 = .ok (.putfield 61, 3) := by decide +kernel
theorem dX0_dropLoansOf_46 : decode cX0_dropLoansOf 46 = .ok (.aload_n 0, 1) := by decide +kernel
theorem dX0_dropLoansOf_47 : decode cX0_dropLoansOf 47 = .ok (.iload_n 2, 1) := by decide +kernel
theorem dX0_dropLoansOf_48 : decode cX0_dropLoansOf 48 = .ok (.invokevirtual 114, 3) := by decide +kernel
theorem dX0_dropLoansOf_51 : decode cX0_dropLoansOf 51 = .ok (.iinc 2 (-1), 3) := by decide +kernel
theorem dX0_dropLoansOf_54 : decode cX0_dropLoansOf 54 = .ok (.goto (-47), 3) := by decide +kernel
theorem dX0_dropLoansOf_57 : decode cX0_dropLoansOf 57 = .ok (.return_, 1) := by decide +kernel
theorem dX1_init_0 : decode cX1_init 0 = .ok (.aload_n 0, 1) := by decide +kernel
theorem dX1_init_1 : decode cX1_init 1 = .ok (.invokespecial 3, 3) := by decide +kernel
theorem dX1_init_4 : decode cX1_init 4 = .ok (.aload_n 0, 1) := by decide +kernel
theorem dX1_init_5 : decode cX1_init 5 = .ok (.bipush 14, 2) := by decide +kernel
theorem dX1_init_7 : decode cX1_init 7 = .ok (.anewarray 9, 3) := by decide +kernel
theorem dX1_init_10 : decode cX1_init 10 = .ok (.putfield 11, 3) := by decide +kernel
theorem dX1_init_13 : decode cX1_init 13 = .ok (.iconst 0, 1) := by decide +kernel
theorem dX1_init_14 : decode cX1_init 14 = .ok (.istore_n 1, 1) := by decide +kernel
theorem dX1_init_15 : decode cX1_init 15 = .ok (.iload_n 1, 1) := by decide +kernel
theorem dX1_init_16 : decode cX1_init 16 = .ok (.bipush 14, 2) := by decide +kernel
theorem dX1_init_18 : decode cX1_init 18 = .ok (.if_icmp .ge 22, 3) := by decide +kernel
theorem dX1_init_21 : decode cX1_init 21 = .ok (.aload_n 0, 1) := by decide +kernel
theorem dX1_init_22 : decode cX1_init 22 = .ok (.getfield 11, 3) := by decide +kernel
theorem dX1_init_25 : decode cX1_init 25 = .ok (.iload_n 1, 1) := by decide +kernel
theorem dX1_init_26 : decode cX1_init 26 = .ok (.new 9, 3) := by decide +kernel
theorem dX1_init_29 : decode cX1_init 29 = .ok (.dup, 1) := by decide +kernel
theorem dX1_init_30 : decode cX1_init 30 = .ok (.invokespecial 17, 3) := by decide +kernel
theorem dX1_init_33 : decode cX1_init 33 = .ok (.aastore, 1) := by decide +kernel
theorem dX1_init_34 : decode cX1_init 34 = .ok (.iinc 1 1, 3) := by decide +kernel
theorem dX1_init_37 : decode cX1_init 37 = .ok (.goto (-22), 3) := by decide +kernel
theorem dX1_init_40 : decode cX1_init 40 = .ok (.return_, 1) := by decide +kernel
theorem dX1_remember_0 : decode cX1_remember 0 = .ok (.aload_n 0, 1) := by decide +kernel
theorem dX1_remember_1 : decode cX1_remember 1 = .ok (.getfield 11, 3) := by decide +kernel
theorem dX1_remember_4 : decode cX1_remember 4 = .ok (.aload_n 0, 1) := by decide +kernel
theorem dX1_remember_5 : decode cX1_remember 5 = .ok (.getfield 18, 3) := by decide +kernel
theorem dX1_remember_8 : decode cX1_remember 8 = .ok (.aload_n 0, 1) := by decide +kernel
theorem dX1_remember_9 : decode cX1_remember 9 = .ok (.getfield 22, 3) := by decide +kernel
theorem dX1_remember_12 : decode cX1_remember 12 = .ok (.iadd, 1) := by decide +kernel
theorem dX1_remember_13 : decode cX1_remember 13 = .ok (.bipush 14, 2) := by decide +kernel
theorem dX1_remember_15 : decode cX1_remember 15 = .ok (.irem, 1) := by decide +kernel
theorem dX1_remember_16 : decode cX1_remember 16 = .ok (.aaload, 1) := by decide +kernel
theorem dX1_remember_17 : decode cX1_remember 17 = .ok (.aload_n 1, 1) := by decide +kernel
theorem dX1_remember_18 : decode cX1_remember 18 = .ok (.invokevirtual 25, 3) := by decide +kernel
theorem dX1_remember_21 : decode cX1_remember 21 = .ok (.aload_n 0, 1) := by decide +kernel
theorem dX1_remember_22 : decode cX1_remember 22 = .ok (.getfield 22, 3) := by decide +kernel
theorem dX1_remember_25 : decode cX1_remember 25 = .ok (.bipush 14, 2) := by decide +kernel
theorem dX1_remember_27 : decode cX1_remember 27 = .ok (.if_icmp .ge 16, 3) := by decide +kernel
theorem dX1_remember_30 : decode cX1_remember 30 = .ok (.aload_n 0, 1) := by decide +kernel
theorem dX1_remember_31 : decode cX1_remember 31 = .ok (.dup, 1) := by decide +kernel
theorem dX1_remember_32 : decode cX1_remember 32 = .ok (.getfield 22, 3) := by decide +kernel
theorem dX1_remember_35 : decode cX1_remember 35 = .ok (.iconst 1, 1) := by decide +kernel
theorem dX1_remember_36 : decode cX1_remember 36 = .ok (.iadd, 1) := by decide +kernel
theorem dX1_remember_37 : decode cX1_remember 37 = .ok (.putfield 22, 3) := by decide +kernel
theorem dX1_remember_40 : decode cX1_remember 40 = .ok (.goto 16, 3) := by decide +kernel
theorem dX1_remember_43 : decode cX1_remember 43 = .ok (.aload_n 0, 1) := by decide +kernel
theorem dX1_remember_44 : decode cX1_remember 44 = .ok (.aload_n 0, 1) := by decide +kernel
theorem dX1_remember_45 : decode cX1_remember 45 = .ok (.getfield 18, 3) := by decide +kernel
theorem dX1_remember_48 : decode cX1_remember 48 = .ok (.iconst 1, 1) := by decide +kernel
theorem dX1_remember_49 : decode cX1_remember 49 = .ok (.iadd, 1) := by decide +kernel
theorem dX1_remember_50 : decode cX1_remember 50 = .ok (.bipush 14, 2) := by decide +kernel
theorem dX1_remember_52 : decode cX1_remember 52 = .ok (.irem, 1) := by decide +kernel
theorem dX1_remember_53 : decode cX1_remember 53 = .ok (.putfield 18, 3) := by decide +kernel
theorem dX1_remember_56 : decode cX1_remember 56 = .ok (.return_, 1) := by decide +kernel
theorem dX1_takeBack_0 : decode cX1_takeBack 0 = .ok (.aload_n 0, 1) := by decide +kernel
theorem dX1_takeBack_1 : decode cX1_takeBack 1 = .ok (.getfield 22, 3) := by decide +kernel
theorem dX1_takeBack_4 : decode cX1_takeBack 4 = .ok (.ifCond .le 34, 3) := by decide +kernel
theorem dX1_takeBack_7 : decode cX1_takeBack 7 = .ok (.aload_n 0, 1) := by decide +kernel
theorem dX1_takeBack_8 : decode cX1_takeBack 8 = .ok (.dup, 1) := by decide +kernel
theorem dX1_takeBack_9 : decode cX1_takeBack 9 = .ok (.getfield 22, 3) := by decide +kernel
theorem dX1_takeBack_12 : decode cX1_takeBack 12 = .ok (.iconst 1, 1) := by decide +kernel
theorem dX1_takeBack_13 : decode cX1_takeBack 13 = .ok (.isub, 1) := by decide +kernel
theorem dX1_takeBack_14 : decode cX1_takeBack 14 = .ok (.putfield 22, 3) := by decide +kernel
theorem dX1_takeBack_17 : decode cX1_takeBack 17 = .ok (.aload_n 1, 1) := by decide +kernel
theorem dX1_takeBack_18 : decode cX1_takeBack 18 = .ok (.aload_n 0, 1) := by decide +kernel
theorem dX1_takeBack_19 : decode cX1_takeBack 19 = .ok (.getfield 11, 3) := by decide +kernel
theorem dX1_takeBack_22 : decode cX1_takeBack 22 = .ok (.aload_n 0, 1) := by decide +kernel
theorem dX1_takeBack_23 : decode cX1_takeBack 23 = .ok (.getfield 18, 3) := by decide +kernel
theorem dX1_takeBack_26 : decode cX1_takeBack 26 = .ok (.aload_n 0, 1) := by decide +kernel
theorem dX1_takeBack_27 : decode cX1_takeBack 27 = .ok (.getfield 22, 3) := by decide +kernel
theorem dX1_takeBack_30 : decode cX1_takeBack 30 = .ok (.iadd, 1) := by decide +kernel
theorem dX1_takeBack_31 : decode cX1_takeBack 31 = .ok (.bipush 14, 2) := by decide +kernel
theorem dX1_takeBack_33 : decode cX1_takeBack 33 = .ok (.irem, 1) := by decide +kernel
theorem dX1_takeBack_34 : decode cX1_takeBack 34 = .ok (.aaload, 1) := by decide +kernel
theorem dX1_takeBack_35 : decode cX1_takeBack 35 = .ok (.invokevirtual 25, 3) := by decide +kernel
theorem dX1_takeBack_38 : decode cX1_takeBack 38 = .ok (.return_, 1) := by decide +kernel
theorem dX1_forgetAll_0 : decode cX1_forgetAll 0 = .ok (.aload_n 0, 1) := by decide +kernel
theorem dX1_forgetAll_1 : decode cX1_forgetAll 1 = .ok (.iconst 0, 1) := by decide +kernel
theorem dX1_forgetAll_2 : decode cX1_forgetAll 2 = .ok (.putfield 22, 3) := by decide +kernel
theorem dX1_forgetAll_5 : decode cX1_forgetAll 5 = .ok (.return_, 1) := by decide +kernel
theorem dX2_init_0 : decode cX2_init 0 = .ok (.aload_n 0, 1) := by decide +kernel
theorem dX2_init_1 : decode cX2_init 1 = .ok (.invokespecial 3, 3) := by decide +kernel
theorem dX2_init_4 : decode cX2_init 4 = .ok (.aload_n 0, 1) := by decide +kernel
theorem dX2_init_5 : decode cX2_init 5 = .ok (.bipush 120, 2) := by decide +kernel
theorem dX2_init_7 : decode cX2_init 7 = .ok (.newarray .char, 2) := by decide +kernel
theorem dX2_init_9 : decode cX2_init 9 = .ok (.putfield 9, 3) := by decide +kernel
theorem dX2_init_12 : decode cX2_init 12 = .ok (.return_, 1) := by decide +kernel
theorem dX2_put_0 : decode cX2_put 0 = .ok (.aload_n 0, 1) := by decide +kernel
theorem dX2_put_1 : decode cX2_put 1 = .ok (.getfield 15, 3) := by decide +kernel
theorem dX2_put_4 : decode cX2_put 4 = .ok (.bipush 120, 2) := by decide +kernel
theorem dX2_put_6 : decode cX2_put 6 = .ok (.if_icmp .ge 23, 3) := by decide +kernel
theorem dX2_put_9 : decode cX2_put 9 = .ok (.aload_n 0, 1) := by decide +kernel
theorem dX2_put_10 : decode cX2_put 10 = .ok (.getfield 9, 3) := by decide +kernel
theorem dX2_put_13 : decode cX2_put 13 = .ok (.aload_n 0, 1) := by decide +kernel
theorem dX2_put_14 : decode cX2_put 14 = .ok (.getfield 15, 3) := by decide +kernel
theorem dX2_put_17 : decode cX2_put 17 = .ok (.iload_n 1, 1) := by decide +kernel
theorem dX2_put_18 : decode cX2_put 18 = .ok (.castore, 1) := by decide +kernel
theorem dX2_put_19 : decode cX2_put 19 = .ok (.aload_n 0, 1) := by decide +kernel
theorem dX2_put_20 : decode cX2_put 20 = .ok (.dup, 1) := by decide +kernel
theorem dX2_put_21 : decode cX2_put 21 = .ok (.getfield 15, 3) := by decide +kernel
theorem dX2_put_24 : decode cX2_put 24 = .ok (.iconst 1, 1) := by decide +kernel
theorem dX2_put_25 : decode cX2_put 25 = .ok (.iadd, 1) := by decide +kernel
theorem dX2_put_26 : decode cX2_put 26 = .ok (.putfield 15, 3) := by decide +kernel
theorem dX2_put_29 : decode cX2_put 29 = .ok (.aload_n 0, 1) := by decide +kernel
theorem dX2_put_30 : decode cX2_put 30 = .ok (.getfield 15, 3) := by decide +kernel
theorem dX2_put_33 : decode cX2_put 33 = .ok (.ireturn, 1) := by decide +kernel
theorem dX2_becomeEmpty_0 : decode cX2_becomeEmpty 0 = .ok (.aload_n 0, 1) := by decide +kernel
theorem dX2_becomeEmpty_1 : decode cX2_becomeEmpty 1 = .ok (.iconst 0, 1) := by decide +kernel
theorem dX2_becomeEmpty_2 : decode cX2_becomeEmpty 2 = .ok (.putfield 15, 3) := by decide +kernel
theorem dX2_becomeEmpty_5 : decode cX2_becomeEmpty 5 = .ok (.return_, 1) := by decide +kernel
theorem dX2_readInto_0 : decode cX2_readInto 0 = .ok (.aload_n 1, 1) := by decide +kernel
theorem dX2_readInto_1 : decode cX2_readInto 1 = .ok (.invokevirtual 19, 3) := by decide +kernel
theorem dX2_readInto_4 : decode cX2_readInto 4 = .ok (.aload_n 0, 1) := by decide +kernel
theorem dX2_readInto_5 : decode cX2_readInto 5 = .ok (.iconst 0, 1) := by decide +kernel
theorem dX2_readInto_6 : decode cX2_readInto 6 = .ok (.putfield 24, 3) := by decide +kernel
theorem dX2_readInto_9 : decode cX2_readInto 9 = .ok (.aload_n 0, 1) := by decide +kernel
theorem dX2_readInto_10 : decode cX2_readInto 10 = .ok (.bipush 66, 2) := by decide +kernel
theorem dX2_readInto_12 : decode cX2_readInto 12 = .ok (.invokevirtual 27, 3) := by decide +kernel
theorem dX2_readInto_15 : decode cX2_readInto 15 = .ok (.ifCond .ne 8, 3) := by decide +kernel
theorem dX2_readInto_18 : decode cX2_readInto 18 = .ok (.aload_n 0, 1) := by decide +kernel
theorem dX2_readInto_19 : decode cX2_readInto 19 = .ok (.getfield 24, 3) := by decide +kernel
theorem dX2_readInto_22 : decode cX2_readInto 22 = .ok (.ireturn, 1) := by decide +kernel
theorem dX2_readInto_23 : decode cX2_readInto 23 = .ok (.aload_n 0, 1) := by decide +kernel
theorem dX2_readInto_24 : decode cX2_readInto 24 = .ok (.dup, 1) := by decide +kernel
theorem dX2_readInto_25 : decode cX2_readInto 25 = .ok (.getfield 24, 3) := by decide +kernel
theorem dX2_readInto_28 : decode cX2_readInto 28 = .ok (.iconst 1, 1) := by decide +kernel
theorem dX2_readInto_29 : decode cX2_readInto 29 = .ok (.iadd, 1) := by decide +kernel
theorem dX2_readInto_30 : decode cX2_readInto 30 = .ok (.putfield 24, 3) := by decide +kernel
theorem dX2_readInto_33 : decode cX2_readInto 33 = .ok (.iconst 0, 1) := by decide +kernel
theorem dX2_readInto_34 : decode cX2_readInto 34 = .ok (.istore_n 2, 1) := by decide +kernel
theorem dX2_readInto_35 : decode cX2_readInto 35 = .ok (.iload_n 2, 1) := by decide +kernel
theorem dX2_readInto_36 : decode cX2_readInto 36 = .ok (.bipush 120, 2) := by decide +kernel
theorem dX2_readInto_38 : decode cX2_readInto 38 = .ok (.if_icmp .ge 33, 3) := by decide +kernel
theorem dX2_readInto_41 : decode cX2_readInto 41 = .ok (.aload_n 0, 1) := by decide +kernel
theorem dX2_readInto_42 : decode cX2_readInto 42 = .ok (.getfield 24, 3) := by decide +kernel
theorem dX2_readInto_45 : decode cX2_readInto 45 = .ok (.aload_n 0, 1) := by decide +kernel
theorem dX2_readInto_46 : decode cX2_readInto 46 = .ok (.getfield 15, 3) := by decide +kernel
theorem dX2_readInto_49 : decode cX2_readInto 49 = .ok (.if_icmp .ge 22, 3) := by decide +kernel
theorem dX2_readInto_52 : decode cX2_readInto 52 = .ok (.aload_n 0, 1) := by decide +kernel
theorem dX2_readInto_53 : decode cX2_readInto 53 = .ok (.aload_n 1, 1) := by decide +kernel
theorem dX2_readInto_54 : decode cX2_readInto 54 = .ok (.invokevirtual 31, 3) := by decide +kernel
theorem dX2_readInto_57 : decode cX2_readInto 57 = .ok (.ifCond .ne 8, 3) := by decide +kernel
theorem dX2_readInto_60 : decode cX2_readInto 60 = .ok (.aload_n 0, 1) := by decide +kernel
theorem dX2_readInto_61 : decode cX2_readInto 61 = .ok (.getfield 24, 3) := by decide +kernel
theorem dX2_readInto_64 : decode cX2_readInto 64 = .ok (.ireturn, 1) := by decide +kernel
theorem dX2_readInto_65 : decode cX2_readInto 65 = .ok (.iinc 2 1, 3) := by decide +kernel
theorem dX2_readInto_68 : decode cX2_readInto 68 = .ok (.goto (-33), 3) := by decide +kernel
theorem dX2_readInto_71 : decode cX2_readInto 71 = .ok (.bipush (-9), 2) := by decide +kernel
theorem dX2_readInto_73 : decode cX2_readInto 73 = .ok (.ireturn, 1) := by decide +kernel
theorem dX2_readPart_0 : decode cX2_readPart 0 = .ok (.aload_n 0, 1) := by decide +kernel
theorem dX2_readPart_1 : decode cX2_readPart 1 = .ok (.bipush 99, 2) := by decide +kernel
theorem dX2_readPart_3 : decode cX2_readPart 3 = .ok (.invokevirtual 27, 3) := by decide +kernel
theorem dX2_readPart_6 : decode cX2_readPart 6 = .ok (.ifCond .eq 9, 3) := by decide +kernel
theorem dX2_readPart_9 : decode cX2_readPart 9 = .ok (.aload_n 0, 1) := by decide +kernel
theorem dX2_readPart_10 : decode cX2_readPart 10 = .ok (.aload_n 1, 1) := by decide +kernel
theorem dX2_readPart_11 : decode cX2_readPart 11 = .ok (.invokevirtual 35, 3) := by decide +kernel
theorem dX2_readPart_14 : decode cX2_readPart 14 = .ok (.ireturn, 1) := by decide +kernel
theorem dX2_readPart_15 : decode cX2_readPart 15 = .ok (.aload_n 0, 1) := by decide +kernel
theorem dX2_readPart_16 : decode cX2_readPart 16 = .ok (.bipush 108, 2) := by decide +kernel
theorem dX2_readPart_18 : decode cX2_readPart 18 = .ok (.invokevirtual 27, 3) := by decide +kernel
theorem dX2_readPart_21 : decode cX2_readPart 21 = .ok (.ifCond .eq 15, 3) := by decide +kernel
theorem dX2_readPart_24 : decode cX2_readPart 24 = .ok (.aload_n 0, 1) := by decide +kernel
theorem dX2_readPart_25 : decode cX2_readPart 25 = .ok (.aload_n 1, 1) := by decide +kernel
theorem dX2_readPart_26 : decode cX2_readPart 26 = .ok (.invokevirtual 38, 3) := by decide +kernel
theorem dX2_readPart_29 : decode cX2_readPart 29 = .ok (.ifCond .eq 7, 3) := by decide +kernel
theorem dX2_readPart_32 : decode cX2_readPart 32 = .ok (.iconst 1, 1) := by decide +kernel
theorem dX2_readPart_33 : decode cX2_readPart 33 = .ok (.goto 4, 3) := by decide +kernel
theorem dX2_readPart_36 : decode cX2_readPart 36 = .ok (.iconst 0, 1) := by decide +kernel
theorem dX2_readPart_37 : decode cX2_readPart 37 = .ok (.ireturn, 1) := by decide +kernel
theorem dX2_readCell_0 : decode cX2_readCell 0 = .ok (.aload_n 1, 1) := by decide +kernel
theorem dX2_readCell_1 : decode cX2_readCell 1 = .ok (.getfield 41, 3) := by decide +kernel
theorem dX2_readCell_4 : decode cX2_readCell 4 = .ok (.bipush 8, 2) := by decide +kernel
theorem dX2_readCell_6 : decode cX2_readCell 6 = .ok (.if_icmp .lt 5, 3) := by decide +kernel
theorem dX2_readCell_9 : decode cX2_readCell 9 = .ok (.iconst 0, 1) := by decide +kernel
theorem dX2_readCell_10 : decode cX2_readCell 10 = .ok (.ireturn, 1) := by decide +kernel
theorem dX2_readCell_11 : decode cX2_readCell 11 = .ok (.aload_n 0, 1) := by decide +kernel
theorem dX2_readCell_12 : decode cX2_readCell 12 = .ok (.dup, 1) := by decide +kernel
theorem dX2_readCell_13 : decode cX2_readCell 13 = .ok (.getfield 24, 3) := by decide +kernel
theorem dX2_readCell_16 : decode cX2_readCell 16 = .ok (.iconst 1, 1) := by decide +kernel
theorem dX2_readCell_17 : decode cX2_readCell 17 = .ok (.iadd, 1) := by decide +kernel
theorem dX2_readCell_18 : decode cX2_readCell 18 = .ok (.putfield 24, 3) := by decide +kernel
theorem dX2_readCell_21 : decode cX2_readCell 21 = .ok (.aload_n 0, 1) := by decide +kernel
theorem dX2_readCell_22 : decode cX2_readCell 22 = .ok (.bipush 10, 2) := by decide +kernel
theorem dX2_readCell_24 : decode cX2_readCell 24 = .ok (.bipush 99, 2) := by decide +kernel
theorem dX2_readCell_26 : decode cX2_readCell 26 = .ok (.invokevirtual 44, 3) := by decide +kernel
theorem dX2_readCell_29 : decode cX2_readCell 29 = .ok (.istore_n 2, 1) := by decide +kernel
theorem dX2_readCell_30 : decode cX2_readCell 30 = .ok (.iload_n 2, 1) := by decide +kernel
theorem dX2_readCell_31 : decode cX2_readCell 31 = .ok (.bipush (-9), 2) := by decide +kernel
theorem dX2_readCell_33 : decode cX2_readCell 33 = .ok (.if_icmp .ne 5, 3) := by decide +kernel
theorem dX2_readCell_36 : decode cX2_readCell 36 = .ok (.iconst 0, 1) := by decide +kernel
theorem dX2_readCell_37 : decode cX2_readCell 37 = .ok (.ireturn, 1) := by decide +kernel
theorem dX2_readCell_38 : decode cX2_readCell 38 = .ok (.aload_n 0, 1) := by decide +kernel
theorem dX2_readCell_39 : decode cX2_readCell 39 = .ok (.iconst 0, 1) := by decide +kernel
theorem dX2_readCell_40 : decode cX2_readCell 40 = .ok (.iload_n 2, 1) := by decide +kernel
theorem dX2_readCell_41 : decode cX2_readCell 41 = .ok (.invokevirtual 44, 3) := by decide +kernel
theorem dX2_readCell_44 : decode cX2_readCell 44 = .ok (.istore_n 3, 1) := by decide +kernel
theorem dX2_readCell_45 : decode cX2_readCell 45 = .ok (.iload_n 3, 1) := by decide +kernel
theorem dX2_readCell_46 : decode cX2_readCell 46 = .ok (.bipush (-9), 2) := by decide +kernel
theorem dX2_readCell_48 : decode cX2_readCell 48 = .ok (.if_icmp .ne 5, 3) := by decide +kernel
theorem dX2_readCell_51 : decode cX2_readCell 51 = .ok (.iconst 0, 1) := by decide +kernel
theorem dX2_readCell_52 : decode cX2_readCell 52 = .ok (.ireturn, 1) := by decide +kernel
theorem dX2_readCell_53 : decode cX2_readCell 53 = .ok (.aload_n 0, 1) := by decide +kernel
theorem dX2_readCell_54 : decode cX2_readCell 54 = .ok (.iconst 0, 1) := by decide +kernel
theorem dX2_readCell_55 : decode cX2_readCell 55 = .ok (.iconst 3, 1) := by decide +kernel
theorem dX2_readCell_56 : decode cX2_readCell 56 = .ok (.invokevirtual 48, 3) := by decide +kernel
theorem dX2_readCell_59 : decode cX2_readCell 59 = .ok (.istore 4, 2) := by decide +kernel
theorem dX2_readCell_61 : decode cX2_readCell 61 = .ok (.iload 4, 2) := by decide +kernel
theorem dX2_readCell_63 : decode cX2_readCell 63 = .ok (.bipush (-9), 2) := by decide +kernel
theorem dX2_readCell_65 : decode cX2_readCell 65 = .ok (.if_icmp .eq 20, 3) := by decide +kernel
theorem dX2_readCell_68 : decode cX2_readCell 68 = .ok (.aload_n 1, 1) := by decide +kernel
theorem dX2_readCell_69 : decode cX2_readCell 69 = .ok (.iload_n 2, 1) := by decide +kernel
theorem dX2_readCell_70 : decode cX2_readCell 70 = .ok (.iload_n 3, 1) := by decide +kernel
theorem dX2_readCell_71 : decode cX2_readCell 71 = .ok (.iload 4, 2) := by decide +kernel
theorem dX2_readCell_73 : decode cX2_readCell 73 = .ok (.invokevirtual 51, 3) := by decide +kernel
theorem dX2_readCell_76 : decode cX2_readCell 76 = .ok (.bipush (-9), 2) := by decide +kernel
theorem dX2_readCell_78 : decode cX2_readCell 78 = .ok (.if_icmp .eq 7, 3) := by decide +kernel
theorem dX2_readCell_81 : decode cX2_readCell 81 = .ok (.iconst 1, 1) := by decide +kernel
theorem dX2_readCell_82 : decode cX2_readCell 82 = .ok (.goto 4, 3) := by decide +kernel
theorem dX2_readCell_85 : decode cX2_readCell 85 = .ok (.iconst 0, 1) := by decide +kernel
theorem dX2_readCell_86 : decode cX2_readCell 86 = .ok (.ireturn, 1) := by decide +kernel
theorem dX2_readLoan_0 : decode cX2_readLoan 0 = .ok (.aload_n 1, 1) := by decide +kernel
theorem dX2_readLoan_1 : decode cX2_readLoan 1 = .ok (.getfield 41, 3) := by decide +kernel
theorem dX2_readLoan_4 : decode cX2_readLoan 4 = .ok (.iconst 2, 1) := by decide +kernel
theorem dX2_readLoan_5 : decode cX2_readLoan 5 = .ok (.if_icmp .lt 12, 3) := by decide +kernel
theorem dX2_readLoan_8 : decode cX2_readLoan 8 = .ok (.aload_n 1, 1) := by decide +kernel
theorem dX2_readLoan_9 : decode cX2_readLoan 9 = .ok (.getfield 55, 3) := by decide +kernel
theorem dX2_readLoan_12 : decode cX2_readLoan 12 = .ok (.bipush 12, 2) := by decide +kernel
theorem dX2_readLoan_14 : decode cX2_readLoan 14 = .ok (.if_icmp .lt 5, 3) := by decide +kernel
theorem dX2_readLoan_17 : decode cX2_readLoan 17 = .ok (.iconst 0, 1) := by decide +kernel
theorem dX2_readLoan_18 : decode cX2_readLoan 18 = .ok (.ireturn, 1) := by decide +kernel
theorem dX2_readLoan_19 : decode cX2_readLoan 19 = .ok (.aload_n 0, 1) := by decide +kernel
theorem dX2_readLoan_20 : decode cX2_readLoan 20 = .ok (.getfield 24, 3) := by decide +kernel
theorem dX2_readLoan_23 : decode cX2_readLoan 23 = .ok (.istore_n 2, 1) := by decide +kernel
theorem dX2_readLoan_24 : decode cX2_readLoan 24 = .ok (.aload_n 0, 1) := by decide +kernel
theorem dX2_readLoan_25 : decode cX2_readLoan 25 = .ok (.dup, 1) := by decide +kernel
theorem dX2_readLoan_26 : decode cX2_readLoan 26 = .ok (.getfield 24, 3) := by decide +kernel
theorem dX2_readLoan_29 : decode cX2_readLoan 29 = .ok (.iconst 1, 1) := by decide +kernel
theorem dX2_readLoan_30 : decode cX2_readLoan 30 = .ok (.iadd, 1) := by decide +kernel
theorem dX2_readLoan_31 : decode cX2_readLoan 31 = .ok (.putfield 24, 3) := by decide +kernel
theorem dX2_readLoan_34 : decode cX2_readLoan 34 = .ok (.aload_n 0, 1) := by decide +kernel
theorem dX2_readLoan_35 : decode cX2_readLoan 35 = .ok (.invokevirtual 58, 3) := by decide +kernel
theorem dX2_readLoan_38 : decode cX2_readLoan 38 = .ok (.istore_n 3, 1) := by decide +kernel
theorem dX2_readLoan_39 : decode cX2_readLoan 39 = .ok (.aload_n 1, 1) := by decide +kernel
theorem dX2_readLoan_40 : decode cX2_readLoan 40 = .ok (.iload_n 3, 1) := by decide +kernel
theorem dX2_readLoan_41 : decode cX2_readLoan 41 = .ok (.invokevirtual 62, 3) := by decide +kernel
theorem dX2_readLoan_44 : decode cX2_readLoan 44 = .ok (.ifCond .ne 5, 3) := by decide +kernel
theorem dX2_readLoan_47 : decode cX2_readLoan 47 = .ok (.iconst 0, 1) := by decide +kernel
theorem dX2_readLoan_48 : decode cX2_readLoan 48 = .ok (.ireturn, 1) := by decide +kernel
theorem dX2_readLoan_49 : decode cX2_readLoan 49 = .ok (.aload_n 0, 1) := by decide +kernel
theorem dX2_readLoan_50 : decode cX2_readLoan 50 = .ok (.dup, 1) := by decide +kernel
theorem dX2_readLoan_51 : decode cX2_readLoan 51 = .ok (.getfield 24, 3) := by decide +kernel
theorem dX2_readLoan_54 : decode cX2_readLoan 54 = .ok (.iconst 1, 1) := by decide +kernel
theorem dX2_readLoan_55 : decode cX2_readLoan 55 = .ok (.iadd, 1) := by decide +kernel
theorem dX2_readLoan_56 : decode cX2_readLoan 56 = .ok (.putfield 24, 3) := by decide +kernel
theorem dX2_readLoan_59 : decode cX2_readLoan 59 = .ok (.aload_n 0, 1) := by decide +kernel
theorem dX2_readLoan_60 : decode cX2_readLoan 60 = .ok (.invokevirtual 58, 3) := by decide +kernel
theorem dX2_readLoan_63 : decode cX2_readLoan 63 = .ok (.istore 4, 2) := by decide +kernel
theorem dX2_readLoan_65 : decode cX2_readLoan 65 = .ok (.aload_n 1, 1) := by decide +kernel
theorem dX2_readLoan_66 : decode cX2_readLoan 66 = .ok (.iload 4, 2) := by decide +kernel
theorem dX2_readLoan_68 : decode cX2_readLoan 68 = .ok (.invokevirtual 66, 3) := by decide +kernel
theorem dX2_readLoan_71 : decode cX2_readLoan 71 = .ok (.ifCond .eq 9, 3) := by decide +kernel
theorem dX2_readLoan_74 : decode cX2_readLoan 74 = .ok (.iload 4, 2) := by decide +kernel
theorem dX2_readLoan_76 : decode cX2_readLoan 76 = .ok (.iload_n 3, 1) := by decide +kernel
theorem dX2_readLoan_77 : decode cX2_readLoan 77 = .ok (.if_icmp .ne 5, 3) := by decide +kernel
theorem dX2_readLoan_80 : decode cX2_readLoan 80 = .ok (.iconst 0, 1) := by decide +kernel
theorem dX2_readLoan_81 : decode cX2_readLoan 81 = .ok (.ireturn, 1) := by decide +kernel
theorem dX2_readLoan_82 : decode cX2_readLoan 82 = .ok (.aload_n 0, 1) := by decide +kernel
theorem dX2_readLoan_83 : decode cX2_readLoan 83 = .ok (.dup, 1) := by decide +kernel
theorem dX2_readLoan_84 : decode cX2_readLoan 84 = .ok (.getfield 24, 3) := by decide +kernel
theorem dX2_readLoan_87 : decode cX2_readLoan 87 = .ok (.iconst 1, 1) := by decide +kernel
theorem dX2_readLoan_88 : decode cX2_readLoan 88 = .ok (.iadd, 1) := by decide +kernel
theorem dX2_readLoan_89 : decode cX2_readLoan 89 = .ok (.putfield 24, 3) := by decide +kernel
theorem dX2_readLoan_92 : decode cX2_readLoan 92 = .ok (.aload_n 0, 1) := by decide +kernel
theorem dX2_readLoan_93 : decode cX2_readLoan 93 = .ok (.iconst 1, 1) := by decide +kernel
theorem dX2_readLoan_94 : decode cX2_readLoan 94 = .ok (.aload_n 1, 1) := by decide +kernel
theorem dX2_readLoan_95 : decode cX2_readLoan 95 = .ok (.iload_n 3, 1) := by decide +kernel
theorem dX2_readLoan_96 : decode cX2_readLoan 96 = .ok (.invokevirtual 62, 3) := by decide +kernel
theorem dX2_readLoan_99 : decode cX2_readLoan 99 = .ok (.invokevirtual 44, 3) := by decide +kernel
theorem dX2_readLoan_102 : decode cX2_readLoan 102 = .ok (.istore 5, 2) := by decide +kernel
theorem dX2_readLoan_104 : decode cX2_readLoan 104 = .ok (.iload 5, 2) := by decide +kernel
theorem dX2_readLoan_106 : decode cX2_readLoan 106 = .ok (.bipush (-9), 2) := by decide +kernel
theorem dX2_readLoan_108 : decode cX2_readLoan 108 = .ok (.if_icmp .ne 5, 3) := by decide +kernel
theorem dX2_readLoan_111 : decode cX2_readLoan 111 = .ok (.iconst 0, 1) := by decide +kernel
theorem dX2_readLoan_112 : decode cX2_readLoan 112 = .ok (.ireturn, 1) := by decide +kernel
theorem dX2_readLoan_113 : decode cX2_readLoan 113 = .ok (.aload_n 0, 1) := by decide +kernel
theorem dX2_readLoan_114 : decode cX2_readLoan 114 = .ok (.iconst 0, 1) := by decide +kernel
theorem dX2_readLoan_115 : decode cX2_readLoan 115 = .ok (.bipush 50, 2) := by decide +kernel
theorem dX2_readLoan_117 : decode cX2_readLoan 117 = .ok (.invokevirtual 44, 3) := by decide +kernel
theorem dX2_readLoan_120 : decode cX2_readLoan 120 = .ok (.istore 6, 2) := by decide +kernel
theorem dX2_readLoan_122 : decode cX2_readLoan 122 = .ok (.iload 6, 2) := by decide +kernel
theorem dX2_readLoan_124 : decode cX2_readLoan 124 = .ok (.bipush (-9), 2) := by decide +kernel
theorem dX2_readLoan_126 : decode cX2_readLoan 126 = .ok (.if_icmp .ne 5, 3) := by decide +kernel
theorem dX2_readLoan_129 : decode cX2_readLoan 129 = .ok (.iconst 0, 1) := by decide +kernel
theorem dX2_readLoan_130 : decode cX2_readLoan 130 = .ok (.ireturn, 1) := by decide +kernel
theorem dX2_readLoan_131 : decode cX2_readLoan 131 = .ok (.aload_n 1, 1) := by decide +kernel
theorem dX2_readLoan_132 : decode cX2_readLoan 132 = .ok (.iload_n 3, 1) := by decide +kernel
theorem dX2_readLoan_133 : decode cX2_readLoan 133 = .ok (.iload 4, 2) := by decide +kernel
theorem dX2_readLoan_135 : decode cX2_readLoan 135 = .ok (.iload 5, 2) := by decide +kernel
theorem dX2_readLoan_137 : decode cX2_readLoan 137 = .ok (.iload 6, 2) := by decide +kernel
theorem dX2_readLoan_139 : decode cX2_readLoan 139 = .ok (.invokevirtual 70, 3) := by decide +kernel
theorem dX2_readLoan_142 : decode cX2_readLoan 142 = .ok (.bipush (-9), 2) := by decide +kernel
theorem dX2_readLoan_144 : decode cX2_readLoan 144 = .ok (.if_icmp .ne 10, 3) := by decide +kernel
theorem dX2_readLoan_147 : decode cX2_readLoan 147 = .ok (.aload_n 0, 1) := by decide +kernel
theorem dX2_readLoan_148 : decode cX2_readLoan 148 = .ok (.iload_n 2, 1) := by decide +kernel
theorem dX2_readLoan_149 : decode cX2_readLoan 149 = .ok (.putfield 24, 3) := by decide +kernel
theorem dX2_readLoan_152 : decode cX2_readLoan 152 = .ok (.iconst 0, 1) := by decide +kernel
theorem dX2_readLoan_153 : decode cX2_readLoan 153 = .ok (.ireturn, 1) := by decide +kernel
theorem dX2_readLoan_154 : decode cX2_readLoan 154 = .ok (.iconst 1, 1) := by decide +kernel
theorem dX2_readLoan_155 : decode cX2_readLoan 155 = .ok (.ireturn, 1) := by decide +kernel
theorem dX2_readNumber_0 : decode cX2_readNumber 0 = .ok (.aload_n 0, 1) := by decide +kernel
theorem dX2_readNumber_1 : decode cX2_readNumber 1 = .ok (.iload_n 1, 1) := by decide +kernel
theorem dX2_readNumber_2 : decode cX2_readNumber 2 = .ok (.bipush 10, 2) := by decide +kernel
theorem dX2_readNumber_4 : decode cX2_readNumber 4 = .ok (.idiv, 1) := by decide +kernel
theorem dX2_readNumber_5 : decode cX2_readNumber 5 = .ok (.iload_n 2, 1) := by decide +kernel
theorem dX2_readNumber_6 : decode cX2_readNumber 6 = .ok (.bipush 10, 2) := by decide +kernel
theorem dX2_readNumber_8 : decode cX2_readNumber 8 = .ok (.idiv, 1) := by decide +kernel
theorem dX2_readNumber_9 : decode cX2_readNumber 9 = .ok (.invokevirtual 48, 3) := by decide +kernel
theorem dX2_readNumber_12 : decode cX2_readNumber 12 = .ok (.istore_n 3, 1) := by decide +kernel
theorem dX2_readNumber_13 : decode cX2_readNumber 13 = .ok (.iload_n 3, 1) := by decide +kernel
theorem dX2_readNumber_14 : decode cX2_readNumber 14 = .ok (.bipush (-9), 2) := by decide +kernel
theorem dX2_readNumber_16 : decode cX2_readNumber 16 = .ok (.if_icmp .ne 6, 3) := by decide +kernel
theorem dX2_readNumber_19 : decode cX2_readNumber 19 = .ok (.bipush (-9), 2) := by decide +kernel
theorem dX2_readNumber_21 : decode cX2_readNumber 21 = .ok (.ireturn, 1) := by decide +kernel
theorem dX2_readNumber_22 : decode cX2_readNumber 22 = .ok (.aload_n 0, 1) := by decide +kernel
theorem dX2_readNumber_23 : decode cX2_readNumber 23 = .ok (.iload_n 3, 1) := by decide +kernel
theorem dX2_readNumber_24 : decode cX2_readNumber 24 = .ok (.iload_n 1, 1) := by decide +kernel
theorem dX2_readNumber_25 : decode cX2_readNumber 25 = .ok (.bipush 10, 2) := by decide +kernel
theorem dX2_readNumber_27 : decode cX2_readNumber 27 = .ok (.idiv, 1) := by decide +kernel
theorem dX2_readNumber_28 : decode cX2_readNumber 28 = .ok (.if_icmp .ne 10, 3) := by decide +kernel
theorem dX2_readNumber_31 : decode cX2_readNumber 31 = .ok (.iload_n 1, 1) := by decide +kernel
theorem dX2_readNumber_32 : decode cX2_readNumber 32 = .ok (.bipush 10, 2) := by decide +kernel
theorem dX2_readNumber_34 : decode cX2_readNumber 34 = .ok (.irem, 1) := by decide +kernel
theorem dX2_readNumber_35 : decode cX2_readNumber 35 = .ok (.goto 4, 3) := by decide +kernel
theorem dX2_readNumber_38 : decode cX2_readNumber 38 = .ok (.iconst 0, 1) := by decide +kernel
theorem dX2_readNumber_39 : decode cX2_readNumber 39 = .ok (.iload_n 3, 1) := by decide +kernel
theorem dX2_readNumber_40 : decode cX2_readNumber 40 = .ok (.iload_n 2, 1) := by decide +kernel
theorem dX2_readNumber_41 : decode cX2_readNumber 41 = .ok (.bipush 10, 2) := by decide +kernel
theorem dX2_readNumber_43 : decode cX2_readNumber 43 = .ok (.idiv, 1) := by decide +kernel
theorem dX2_readNumber_44 : decode cX2_readNumber 44 = .ok (.if_icmp .ne 10, 3) := by decide +kernel
theorem dX2_readNumber_47 : decode cX2_readNumber 47 = .ok (.iload_n 2, 1) := by decide +kernel
theorem dX2_readNumber_48 : decode cX2_readNumber 48 = .ok (.bipush 10, 2) := by decide +kernel
theorem dX2_readNumber_50 : decode cX2_readNumber 50 = .ok (.irem, 1) := by decide +kernel
theorem dX2_readNumber_51 : decode cX2_readNumber 51 = .ok (.goto 5, 3) := by decide +kernel
theorem dX2_readNumber_54 : decode cX2_readNumber 54 = .ok (.bipush 9, 2) := by decide +kernel
theorem dX2_readNumber_56 : decode cX2_readNumber 56 = .ok (.invokevirtual 48, 3) := by decide +kernel
theorem dX2_readNumber_59 : decode cX2_readNumber 59 = .ok (.istore 4, 2) := by decide +kernel
theorem dX2_readNumber_61 : decode cX2_readNumber 61 = .ok (.iload 4, 2) := by decide +kernel
theorem dX2_readNumber_63 : decode cX2_readNumber 63 = .ok (.bipush (-9), 2) := by decide +kernel
theorem dX2_readNumber_65 : decode cX2_readNumber 65 = .ok (.if_icmp .ne 8, 3) := by decide +kernel
theorem dX2_readNumber_68 : decode cX2_readNumber 68 = .ok (.bipush (-9), 2) := by decide +kernel
theorem dX2_readNumber_70 : decode cX2_readNumber 70 = .ok (.goto 10, 3) := by decide +kernel
theorem dX2_readNumber_73 : decode cX2_readNumber 73 = .ok (.bipush 10, 2) := by decide +kernel
theorem dX2_readNumber_75 : decode cX2_readNumber 75 = .ok (.iload_n 3, 1) := by decide +kernel
theorem dX2_readNumber_76 : decode cX2_readNumber 76 = .ok (.imul, 1) := by decide +kernel
theorem dX2_readNumber_77 : decode cX2_readNumber 77 = .ok (.iload 4, 2) := by decide +kernel
theorem dX2_readNumber_79 : decode cX2_readNumber 79 = .ok (.iadd, 1) := by decide +kernel
theorem dX2_readNumber_80 : decode cX2_readNumber 80 = .ok (.ireturn, 1) := by decide +kernel
theorem dX2_readDigit_0 : decode cX2_readDigit 0 = .ok (.aload_n 0, 1) := by decide +kernel
theorem dX2_readDigit_1 : decode cX2_readDigit 1 = .ok (.invokevirtual 58, 3) := by decide +kernel
theorem dX2_readDigit_4 : decode cX2_readDigit 4 = .ok (.istore_n 3, 1) := by decide +kernel
theorem dX2_readDigit_5 : decode cX2_readDigit 5 = .ok (.iload_n 3, 1) := by decide +kernel
theorem dX2_readDigit_6 : decode cX2_readDigit 6 = .ok (.bipush (-9), 2) := by decide +kernel
theorem dX2_readDigit_8 : decode cX2_readDigit 8 = .ok (.if_icmp .eq 12, 3) := by decide +kernel
theorem dX2_readDigit_11 : decode cX2_readDigit 11 = .ok (.iload_n 3, 1) := by decide +kernel
theorem dX2_readDigit_12 : decode cX2_readDigit 12 = .ok (.iload_n 1, 1) := by decide +kernel
theorem dX2_readDigit_13 : decode cX2_readDigit 13 = .ok (.iload_n 2, 1) := by decide +kernel
theorem dX2_readDigit_14 : decode cX2_readDigit 14 = .ok (.invokestatic 74, 3) := by decide +kernel
theorem dX2_readDigit_17 : decode cX2_readDigit 17 = .ok (.ifCond .ne 6, 3) := by decide +kernel
theorem dX2_readDigit_20 : decode cX2_readDigit 20 = .ok (.bipush (-9), 2) := by decide +kernel
theorem dX2_readDigit_22 : decode cX2_readDigit 22 = .ok (.ireturn, 1) := by decide +kernel
theorem dX2_readDigit_23 : decode cX2_readDigit 23 = .ok (.aload_n 0, 1) := by decide +kernel
theorem dX2_readDigit_24 : decode cX2_readDigit 24 = .ok (.dup, 1) := by decide +kernel
theorem dX2_readDigit_25 : decode cX2_readDigit 25 = .ok (.getfield 24, 3) := by decide +kernel
theorem dX2_readDigit_28 : decode cX2_readDigit 28 = .ok (.iconst 1, 1) := by decide +kernel
theorem dX2_readDigit_29 : decode cX2_readDigit 29 = .ok (.iadd, 1) := by decide +kernel
theorem dX2_readDigit_30 : decode cX2_readDigit 30 = .ok (.putfield 24, 3) := by decide +kernel
theorem dX2_readDigit_33 : decode cX2_readDigit 33 = .ok (.iload_n 3, 1) := by decide +kernel
theorem dX2_readDigit_34 : decode cX2_readDigit 34 = .ok (.ireturn, 1) := by decide +kernel
theorem dX2_digitHere_0 : decode cX2_digitHere 0 = .ok (.aload_n 0, 1) := by decide +kernel
theorem dX2_digitHere_1 : decode cX2_digitHere 1 = .ok (.getfield 24, 3) := by decide +kernel
theorem dX2_digitHere_4 : decode cX2_digitHere 4 = .ok (.aload_n 0, 1) := by decide +kernel
theorem dX2_digitHere_5 : decode cX2_digitHere 5 = .ok (.getfield 15, 3) := by decide +kernel
theorem dX2_digitHere_8 : decode cX2_digitHere 8 = .ok (.if_icmp .ge 35, 3) := by decide +kernel
theorem dX2_digitHere_11 : decode cX2_digitHere 11 = .ok (.aload_n 0, 1) := by decide +kernel
theorem dX2_digitHere_12 : decode cX2_digitHere 12 = .ok (.getfield 9, 3) := by decide +kernel
theorem dX2_digitHere_15 : decode cX2_digitHere 15 = .ok (.aload_n 0, 1) := by decide +kernel
theorem dX2_digitHere_16 : decode cX2_digitHere 16 = .ok (.getfield 24, 3) := by decide +kernel
theorem dX2_digitHere_19 : decode cX2_digitHere 19 = .ok (.caload, 1) := by decide +kernel
theorem dX2_digitHere_20 : decode cX2_digitHere 20 = .ok (.bipush 48, 2) := by decide +kernel
theorem dX2_digitHere_22 : decode cX2_digitHere 22 = .ok (.if_icmp .lt 21, 3) := by decide +kernel
theorem dX2_digitHere_25 : decode cX2_digitHere 25 = .ok (.aload_n 0, 1) := by decide +kernel
theorem dX2_digitHere_26 : decode cX2_digitHere 26 = .ok (.getfield 9, 3) := by decide +kernel
theorem dX2_digitHere_29 : decode cX2_digitHere 29 = .ok (.aload_n 0, 1) := by decide +kernel
theorem dX2_digitHere_30 : decode cX2_digitHere 30 = .ok (.getfield 24, 3) := by decide +kernel
theorem dX2_digitHere_33 : decode cX2_digitHere 33 = .ok (.caload, 1) := by decide +kernel
theorem dX2_digitHere_34 : decode cX2_digitHere 34 = .ok (.bipush 57, 2) := by decide +kernel
theorem dX2_digitHere_36 : decode cX2_digitHere 36 = .ok (.if_icmp .gt 7, 3) := by decide +kernel
theorem dX2_digitHere_39 : decode cX2_digitHere 39 = .ok (.iconst 1, 1) := by decide +kernel
theorem dX2_digitHere_40 : decode cX2_digitHere 40 = .ok (.goto 4, 3) := by decide +kernel
theorem dX2_digitHere_43 : decode cX2_digitHere 43 = .ok (.iconst 0, 1) := by decide +kernel
theorem dX2_digitHere_44 : decode cX2_digitHere 44 = .ok (.istore_n 1, 1) := by decide +kernel
theorem dX2_digitHere_45 : decode cX2_digitHere 45 = .ok (.iload_n 1, 1) := by decide +kernel
theorem dX2_digitHere_46 : decode cX2_digitHere 46 = .ok (.ifCond .eq 18, 3) := by decide +kernel
theorem dX2_digitHere_49 : decode cX2_digitHere 49 = .ok (.aload_n 0, 1) := by decide +kernel
theorem dX2_digitHere_50 : decode cX2_digitHere 50 = .ok (.getfield 9, 3) := by decide +kernel
theorem dX2_digitHere_53 : decode cX2_digitHere 53 = .ok (.aload_n 0, 1) := by decide +kernel
theorem dX2_digitHere_54 : decode cX2_digitHere 54 = .ok (.getfield 24, 3) := by decide +kernel
theorem dX2_digitHere_57 : decode cX2_digitHere 57 = .ok (.caload, 1) := by decide +kernel
theorem dX2_digitHere_58 : decode cX2_digitHere 58 = .ok (.bipush 48, 2) := by decide +kernel
theorem dX2_digitHere_60 : decode cX2_digitHere 60 = .ok (.isub, 1) := by decide +kernel
theorem dX2_digitHere_61 : decode cX2_digitHere 61 = .ok (.goto 5, 3) := by decide +kernel
theorem dX2_digitHere_64 : decode cX2_digitHere 64 = .ok (.bipush (-9), 2) := by decide +kernel
theorem dX2_digitHere_66 : decode cX2_digitHere 66 = .ok (.ireturn, 1) := by decide +kernel
theorem dX2_isAt_0 : decode cX2_isAt 0 = .ok (.aload_n 0, 1) := by decide +kernel
theorem dX2_isAt_1 : decode cX2_isAt 1 = .ok (.getfield 24, 3) := by decide +kernel
theorem dX2_isAt_4 : decode cX2_isAt 4 = .ok (.aload_n 0, 1) := by decide +kernel
theorem dX2_isAt_5 : decode cX2_isAt 5 = .ok (.getfield 15, 3) := by decide +kernel
theorem dX2_isAt_8 : decode cX2_isAt 8 = .ok (.if_icmp .ge 20, 3) := by decide +kernel
theorem dX2_isAt_11 : decode cX2_isAt 11 = .ok (.aload_n 0, 1) := by decide +kernel
theorem dX2_isAt_12 : decode cX2_isAt 12 = .ok (.getfield 9, 3) := by decide +kernel
theorem dX2_isAt_15 : decode cX2_isAt 15 = .ok (.aload_n 0, 1) := by decide +kernel
theorem dX2_isAt_16 : decode cX2_isAt 16 = .ok (.getfield 24, 3) := by decide +kernel
theorem dX2_isAt_19 : decode cX2_isAt 19 = .ok (.caload, 1) := by decide +kernel
theorem dX2_isAt_20 : decode cX2_isAt 20 = .ok (.iload_n 1, 1) := by decide +kernel
theorem dX2_isAt_21 : decode cX2_isAt 21 = .ok (.if_icmp .ne 7, 3) := by decide +kernel
theorem dX2_isAt_24 : decode cX2_isAt 24 = .ok (.iconst 1, 1) := by decide +kernel
theorem dX2_isAt_25 : decode cX2_isAt 25 = .ok (.goto 4, 3) := by decide +kernel
theorem dX2_isAt_28 : decode cX2_isAt 28 = .ok (.iconst 0, 1) := by decide +kernel
theorem dX2_isAt_29 : decode cX2_isAt 29 = .ok (.ireturn, 1) := by decide +kernel
theorem dX3_init_0 : decode cX3_init 0 = .ok (.aload_n 0, 1) := by decide +kernel
theorem dX3_init_1 : decode cX3_init 1 = .ok (.invokespecial 1, 3) := by decide +kernel
theorem dX3_init_4 : decode cX3_init 4 = .ok (.aload_n 0, 1) := by decide +kernel
theorem dX3_init_5 : decode cX3_init 5 = .ok (.new 7, 3) := by decide +kernel
theorem dX3_init_8 : decode cX3_init 8 = .ok (.dup, 1) := by decide +kernel
theorem dX3_init_9 : decode cX3_init 9 = .ok (.invokespecial 9, 3) := by decide +kernel
theorem dX3_init_12 : decode cX3_init 12 = .ok (.putfield 10, 3) := by decide +kernel
theorem dX3_init_15 : decode cX3_init 15 = .ok (.aload_n 0, 1) := by decide +kernel
theorem dX3_init_16 : decode cX3_init 16 = .ok (.new 16, 3) := by decide +kernel
theorem dX3_init_19 : decode cX3_init 19 = .ok (.dup, 1) := by decide +kernel
theorem dX3_init_20 : decode cX3_init 20 = .ok (.invokespecial 18, 3) := by decide +kernel
theorem dX3_init_23 : decode cX3_init 23 = .ok (.putfield 19, 3) := by decide +kernel
theorem dX3_init_26 : decode cX3_init 26 = .ok (.aload_n 0, 1) := by decide +kernel
theorem dX3_init_27 : decode cX3_init 27 = .ok (.new 23, 3) := by decide +kernel
theorem dX3_init_30 : decode cX3_init 30 = .ok (.dup, 1) := by decide +kernel
theorem dX3_init_31 : decode cX3_init 31 = .ok (.invokespecial 25, 3) := by decide +kernel
theorem dX3_init_34 : decode cX3_init 34 = .ok (.putfield 26, 3) := by decide +kernel
theorem dX3_init_37 : decode cX3_init 37 = .ok (.aload_n 0, 1) := by decide +kernel
theorem dX3_init_38 : decode cX3_init 38 = .ok (.iconst 2, 1) := by decide +kernel
theorem dX3_init_39 : decode cX3_init 39 = .ok (.anewarray 16, 3) := by decide +kernel
theorem dX3_init_42 : decode cX3_init 42 = .ok (.putfield 30, 3) := by decide +kernel
theorem dX3_init_45 : decode cX3_init 45 = .ok (.aload_n 0, 1) := by decide +kernel
theorem dX3_init_46 : decode cX3_init 46 = .ok (.iconst 2, 1) := by decide +kernel
theorem dX3_init_47 : decode cX3_init 47 = .ok (.newarray .boolean, 2) := by decide +kernel
theorem dX3_init_49 : decode cX3_init 49 = .ok (.putfield 34, 3) := by decide +kernel
theorem dX3_init_52 : decode cX3_init 52 = .ok (.aload_n 0, 1) := by decide +kernel
theorem dX3_init_53 : decode cX3_init 53 = .ok (.new 16, 3) := by decide +kernel
theorem dX3_init_56 : decode cX3_init 56 = .ok (.dup, 1) := by decide +kernel
theorem dX3_init_57 : decode cX3_init 57 = .ok (.invokespecial 18, 3) := by decide +kernel
theorem dX3_init_60 : decode cX3_init 60 = .ok (.putfield 38, 3) := by decide +kernel
theorem dX3_init_63 : decode cX3_init 63 = .ok (.aload_n 0, 1) := by decide +kernel
theorem dX3_init_64 : decode cX3_init 64 = .ok (.new 16, 3) := by decide +kernel
theorem dX3_init_67 : decode cX3_init 67 = .ok (.dup, 1) := by decide +kernel
theorem dX3_init_68 : decode cX3_init 68 = .ok (.invokespecial 18, 3) := by decide +kernel
theorem dX3_init_71 : decode cX3_init 71 = .ok (.putfield 41, 3) := by decide +kernel
theorem dX3_init_74 : decode cX3_init 74 = .ok (.iconst 0, 1) := by decide +kernel
theorem dX3_init_75 : decode cX3_init 75 = .ok (.istore_n 1, 1) := by decide +kernel
theorem dX3_init_76 : decode cX3_init 76 = .ok (.iload_n 1, 1) := by decide +kernel
theorem dX3_init_77 : decode cX3_init 77 = .ok (.iconst 2, 1) := by decide +kernel
theorem dX3_init_78 : decode cX3_init 78 = .ok (.if_icmp .ge 22, 3) := by decide +kernel
theorem dX3_init_81 : decode cX3_init 81 = .ok (.aload_n 0, 1) := by decide +kernel
theorem dX3_init_82 : decode cX3_init 82 = .ok (.getfield 30, 3) := by decide +kernel
theorem dX3_init_85 : decode cX3_init 85 = .ok (.iload_n 1, 1) := by decide +kernel
theorem dX3_init_86 : decode cX3_init 86 = .ok (.new 16, 3) := by decide +kernel
theorem dX3_init_89 : decode cX3_init 89 = .ok (.dup, 1) := by decide +kernel
theorem dX3_init_90 : decode cX3_init 90 = .ok (.invokespecial 18, 3) := by decide +kernel
theorem dX3_init_93 : decode cX3_init 93 = .ok (.aastore, 1) := by decide +kernel
theorem dX3_init_94 : decode cX3_init 94 = .ok (.iinc 1 1, 3) := by decide +kernel
theorem dX3_init_97 : decode cX3_init 97 = .ok (.goto (-21), 3) := by decide +kernel
theorem dX3_init_100 : decode cX3_init 100 = .ok (.return_, 1) := by decide +kernel
theorem dX3_append_0 : decode cX3_append 0 = .ok (.iload_n 1, 1) := by decide +kernel
theorem dX3_append_1 : decode cX3_append 1 = .ok (.iconst 0, 1) := by decide +kernel
theorem dX3_append_2 : decode cX3_append 2 = .ok (.sipush 255, 3) := by decide +kernel
theorem dX3_append_5 : decode cX3_append 5 = .ok (.invokestatic 44, 3) := by decide +kernel
theorem dX3_append_8 : decode cX3_append 8 = .ok (.ifCond .ne 13, 3) := by decide +kernel
theorem dX3_append_11 : decode cX3_append 11 = .ok (.new 48, 3) := by decide +kernel
theorem dX3_append_14 : decode cX3_append 14 = .ok (.dup, 1) := by decide +kernel
theorem dX3_append_15 : decode cX3_append 15 = .ok (.ldc 50, 2) := by decide +kernel
theorem dX3_append_17 : decode cX3_append 17 = .ok (.invokespecial 52, 3) := by decide +kernel
theorem dX3_append_20 : decode cX3_append 20 = .ok (.athrow, 1) := by decide +kernel
theorem dX3_append_21 : decode cX3_append 21 = .ok (.aload_n 0, 1) := by decide +kernel
theorem dX3_append_22 : decode cX3_append 22 = .ok (.getfield 10, 3) := by decide +kernel
theorem dX3_append_25 : decode cX3_append 25 = .ok (.getfield 55, 3) := by decide +kernel
theorem dX3_append_28 : decode cX3_append 28 = .ok (.bipush 120, 2) := by decide +kernel
theorem dX3_append_30 : decode cX3_append 30 = .ok (.if_icmp .lt 13, 3) := by decide +kernel
theorem dX3_append_33 : decode cX3_append 33 = .ok (.new 59, 3) := by decide +kernel
theorem dX3_append_36 : decode cX3_append 36 = .ok (.dup, 1) := by decide +kernel
theorem dX3_append_37 : decode cX3_append 37 = .ok (.ldc 61, 2) := by decide +kernel
theorem dX3_append_39 : decode cX3_append 39 = .ok (.invokespecial 63, 3) := by decide +kernel
theorem dX3_append_42 : decode cX3_append 42 = .ok (.athrow, 1) := by decide +kernel
theorem dX3_append_43 : decode cX3_append 43 = .ok (.aload_n 0, 1) := by decide +kernel
theorem dX3_append_44 : decode cX3_append 44 = .ok (.getfield 10, 3) := by decide +kernel
theorem dX3_append_47 : decode cX3_append 47 = .ok (.iload_n 1, 1) := by decide +kernel
theorem dX3_append_48 : decode cX3_append 48 = .ok (.i2c, 1) := by decide +kernel
theorem dX3_append_49 : decode cX3_append 49 = .ok (.invokevirtual 64, 3) := by decide +kernel
theorem dX3_append_52 : decode cX3_append 52 = .ok (.ireturn, 1) := by decide +kernel
theorem dX3_clearText_0 : decode cX3_clearText 0 = .ok (.aload_n 0, 1) := by decide +kernel
theorem dX3_clearText_1 : decode cX3_clearText 1 = .ok (.getfield 10, 3) := by decide +kernel
theorem dX3_clearText_4 : decode cX3_clearText 4 = .ok (.getfield 55, 3) := by decide +kernel
theorem dX3_clearText_7 : decode cX3_clearText 7 = .ok (.istore_n 1, 1) := by decide +kernel
theorem dX3_clearText_8 : decode cX3_clearText 8 = .ok (.aload_n 0, 1) := by decide +kernel
theorem dX3_clearText_9 : decode cX3_clearText 9 = .ok (.getfield 10, 3) := by decide +kernel
theorem dX3_clearText_12 : decode cX3_clearText 12 = .ok (.invokevirtual 68, 3) := by decide +kernel
theorem dX3_clearText_15 : decode cX3_clearText 15 = .ok (.iload_n 1, 1) := by decide +kernel
theorem dX3_clearText_16 : decode cX3_clearText 16 = .ok (.ireturn, 1) := by decide +kernel
theorem dX3_errorPosition_0 : decode cX3_errorPosition 0 = .ok (.aload_n 0, 1) := by decide +kernel
theorem dX3_errorPosition_1 : decode cX3_errorPosition 1 = .ok (.getfield 10, 3) := by decide +kernel
theorem dX3_errorPosition_4 : decode cX3_errorPosition 4 = .ok (.aload_n 0, 1) := by decide +kernel
theorem dX3_errorPosition_5 : decode cX3_errorPosition 5 = .ok (.getfield 38, 3) := by decide +kernel
theorem dX3_errorPosition_8 : decode cX3_errorPosition 8 = .ok (.invokevirtual 71, 3) := by decide +kernel
theorem dX3_errorPosition_11 : decode cX3_errorPosition 11 = .ok (.ireturn, 1) := by decide +kernel
theorem dX3_load_0 : decode cX3_load 0 = .ok (.aload_n 0, 1) := by decide +kernel
theorem dX3_load_1 : decode cX3_load 1 = .ok (.getfield 10, 3) := by decide +kernel
theorem dX3_load_4 : decode cX3_load 4 = .ok (.aload_n 0, 1) := by decide +kernel
theorem dX3_load_5 : decode cX3_load 5 = .ok (.getfield 38, 3) := by decide +kernel
theorem dX3_load_8 : decode cX3_load 8 = .ok (.invokevirtual 71, 3) := by decide +kernel
theorem dX3_load_11 : decode cX3_load 11 = .ok (.bipush (-9), 2) := by decide +kernel
theorem dX3_load_13 : decode cX3_load 13 = .ok (.if_icmp .eq 13, 3) := by decide +kernel
theorem dX3_load_16 : decode cX3_load 16 = .ok (.new 59, 3) := by decide +kernel
theorem dX3_load_19 : decode cX3_load 19 = .ok (.dup, 1) := by decide +kernel
theorem dX3_load_20 : decode cX3_load 20 = .ok (.ldc 75, 2) := by decide +kernel
theorem dX3_load_22 : decode cX3_load 22 = .ok (.invokespecial 63, 3) := by decide +kernel
theorem dX3_load_25 : decode cX3_load 25 = .ok (.athrow, 1) := by decide +kernel
theorem dX3_load_26 : decode cX3_load 26 = .ok (.aload_n 0, 1) := by decide +kernel
theorem dX3_load_27 : decode cX3_load 27 = .ok (.getfield 19, 3) := by decide +kernel
theorem dX3_load_30 : decode cX3_load 30 = .ok (.aload_n 0, 1) := by decide +kernel
theorem dX3_load_31 : decode cX3_load 31 = .ok (.getfield 38, 3) := by decide +kernel
theorem dX3_load_34 : decode cX3_load 34 = .ok (.invokevirtual 77, 3) := by decide +kernel
theorem dX3_load_37 : decode cX3_load 37 = .ok (.aload_n 0, 1) := by decide +kernel
theorem dX3_load_38 : decode cX3_load 38 = .ok (.getfield 26, 3) := by decide +kernel
theorem dX3_load_41 : decode cX3_load 41 = .ok (.invokevirtual 81, 3) := by decide +kernel
theorem dX3_load_44 : decode cX3_load 44 = .ok (.iconst 0, 1) := by decide +kernel
theorem dX3_load_45 : decode cX3_load 45 = .ok (.istore_n 1, 1) := by decide +kernel
theorem dX3_load_46 : decode cX3_load 46 = .ok (.iload_n 1, 1) := by decide +kernel
theorem dX3_load_47 : decode cX3_load 47 = .ok (.iconst 2, 1) := by decide +kernel
theorem dX3_load_48 : decode cX3_load 48 = .ok (.if_icmp .ge 16, 3) := by decide +kernel
theorem dX3_load_51 : decode cX3_load 51 = .ok (.aload_n 0, 1) := by decide +kernel
theorem dX3_load_52 : decode cX3_load 52 = .ok (.getfield 34, 3) := by decide +kernel
theorem dX3_load_55 : decode cX3_load 55 = .ok (.iload_n 1, 1) := by decide +kernel
theorem dX3_load_56 : decode cX3_load 56 = .ok (.iconst 0, 1) := by decide +kernel
theorem dX3_load_57 : decode cX3_load 57 = .ok (.bastore, 1) := by decide +kernel
theorem dX3_load_58 : decode cX3_load 58 = .ok (.iinc 1 1, 3) := by decide +kernel
theorem dX3_load_61 : decode cX3_load 61 = .ok (.goto (-15), 3) := by decide +kernel
theorem dX3_load_64 : decode cX3_load 64 = .ok (.aload_n 0, 1) := by decide +kernel
theorem dX3_load_65 : decode cX3_load 65 = .ok (.getfield 19, 3) := by decide +kernel
theorem dX3_load_68 : decode cX3_load 68 = .ok (.getfield 84, 3) := by decide +kernel
theorem dX3_load_71 : decode cX3_load 71 = .ok (.ireturn, 1) := by decide +kernel
theorem dX3_about_0 : decode cX3_about 0 = .ok (.iload_n 1, 1) := by decide +kernel
theorem dX3_about_1 : decode cX3_about 1 = .ok (.tableswitch 135 0 9 #[55, 63, 71, 79, 87, 95, 103, 111, 119, 127], 55) := by decide +kernel
theorem dX3_about_56 : decode cX3_about 56 = .ok (.aload_n 0, 1) := by decide +kernel
theorem dX3_about_57 : decode cX3_about 57 = .ok (.getfield 19, 3) := by decide +kernel
theorem dX3_about_60 : decode cX3_about 60 = .ok (.getfield 84, 3) := by decide +kernel
theorem dX3_about_63 : decode cX3_about 63 = .ok (.ireturn, 1) := by decide +kernel
theorem dX3_about_64 : decode cX3_about 64 = .ok (.aload_n 0, 1) := by decide +kernel
theorem dX3_about_65 : decode cX3_about 65 = .ok (.getfield 19, 3) := by decide +kernel
theorem dX3_about_68 : decode cX3_about 68 = .ok (.getfield 87, 3) := by decide +kernel
theorem dX3_about_71 : decode cX3_about 71 = .ok (.ireturn, 1) := by decide +kernel
theorem dX3_about_72 : decode cX3_about 72 = .ok (.aload_n 0, 1) := by decide +kernel
theorem dX3_about_73 : decode cX3_about 73 = .ok (.getfield 19, 3) := by decide +kernel
theorem dX3_about_76 : decode cX3_about 76 = .ok (.getfield 90, 3) := by decide +kernel
theorem dX3_about_79 : decode cX3_about 79 = .ok (.ireturn, 1) := by decide +kernel
theorem dX3_about_80 : decode cX3_about 80 = .ok (.aload_n 0, 1) := by decide +kernel
theorem dX3_about_81 : decode cX3_about 81 = .ok (.getfield 19, 3) := by decide +kernel
theorem dX3_about_84 : decode cX3_about 84 = .ok (.invokevirtual 93, 3) := by decide +kernel
theorem dX3_about_87 : decode cX3_about 87 = .ok (.ireturn, 1) := by decide +kernel
theorem dX3_about_88 : decode cX3_about 88 = .ok (.aload_n 0, 1) := by decide +kernel
theorem dX3_about_89 : decode cX3_about 89 = .ok (.getfield 19, 3) := by decide +kernel
theorem dX3_about_92 : decode cX3_about 92 = .ok (.getfield 97, 3) := by decide +kernel
theorem dX3_about_95 : decode cX3_about 95 = .ok (.ireturn, 1) := by decide +kernel
theorem dX3_about_96 : decode cX3_about 96 = .ok (.aload_n 0, 1) := by decide +kernel
theorem dX3_about_97 : decode cX3_about 97 = .ok (.getfield 19, 3) := by decide +kernel
theorem dX3_about_100 : decode cX3_about 100 = .ok (.getfield 100, 3) := by decide +kernel
theorem dX3_about_103 : decode cX3_about 103 = .ok (.ireturn, 1) := by decide +kernel
theorem dX3_about_104 : decode cX3_about 104 = .ok (.aload_n 0, 1) := by decide +kernel
theorem dX3_about_105 : decode cX3_about 105 = .ok (.getfield 19, 3) := by decide +kernel
theorem dX3_about_108 : decode cX3_about 108 = .ok (.getfield 103, 3) := by decide +kernel
theorem dX3_about_111 : decode cX3_about 111 = .ok (.ireturn, 1) := by decide +kernel
theorem dX3_about_112 : decode cX3_about 112 = .ok (.aload_n 0, 1) := by decide +kernel
theorem dX3_about_113 : decode cX3_about 113 = .ok (.getfield 19, 3) := by decide +kernel
theorem dX3_about_116 : decode cX3_about 116 = .ok (.invokevirtual 106, 3) := by decide +kernel
theorem dX3_about_119 : decode cX3_about 119 = .ok (.ireturn, 1) := by decide +kernel
theorem dX3_about_120 : decode cX3_about 120 = .ok (.aload_n 0, 1) := by decide +kernel
theorem dX3_about_121 : decode cX3_about 121 = .ok (.getfield 19, 3) := by decide +kernel
theorem dX3_about_124 : decode cX3_about 124 = .ok (.getfield 109, 3) := by decide +kernel
theorem dX3_about_127 : decode cX3_about 127 = .ok (.ireturn, 1) := by decide +kernel
theorem dX3_about_128 : decode cX3_about 128 = .ok (.aload_n 0, 1) := by decide +kernel
theorem dX3_about_129 : decode cX3_about 129 = .ok (.getfield 19, 3) := by decide +kernel
theorem dX3_about_132 : decode cX3_about 132 = .ok (.invokevirtual 112, 3) := by decide +kernel
theorem dX3_about_135 : decode cX3_about 135 = .ok (.ireturn, 1) := by decide +kernel
theorem dX3_about_136 : decode cX3_about 136 = .ok (.new 48, 3) := by decide +kernel
theorem dX3_about_139 : decode cX3_about 139 = .ok (.dup, 1) := by decide +kernel
theorem dX3_about_140 : decode cX3_about 140 = .ok (.ldc 115, 2) := by decide +kernel
theorem dX3_about_142 : decode cX3_about 142 = .ok (.invokespecial 52, 3) := by decide +kernel
theorem dX3_about_145 : decode cX3_about 145 = .ok (.athrow, 1) := by decide +kernel
theorem dX3_cell_0 : decode cX3_cell 0 = .ok (.aload_n 0, 1) := by decide +kernel
theorem dX3_cell_1 : decode cX3_cell 1 = .ok (.getfield 19, 3) := by decide +kernel
theorem dX3_cell_4 : decode cX3_cell 4 = .ok (.iload_n 1, 1) := by decide +kernel
theorem dX3_cell_5 : decode cX3_cell 5 = .ok (.invokevirtual 117, 3) := by decide +kernel
theorem dX3_cell_8 : decode cX3_cell 8 = .ok (.ifCond .ne 13, 3) := by decide +kernel
theorem dX3_cell_11 : decode cX3_cell 11 = .ok (.new 121, 3) := by decide +kernel
theorem dX3_cell_14 : decode cX3_cell 14 = .ok (.dup, 1) := by decide +kernel
theorem dX3_cell_15 : decode cX3_cell 15 = .ok (.ldc 123, 2) := by decide +kernel
theorem dX3_cell_17 : decode cX3_cell 17 = .ok (.invokespecial 125, 3) := by decide +kernel
theorem dX3_cell_20 : decode cX3_cell 20 = .ok (.athrow, 1) := by decide +kernel
theorem dX3_cell_21 : decode cX3_cell 21 = .ok (.iload_n 2, 1) := by decide +kernel
theorem dX3_cell_22 : decode cX3_cell 22 = .ok (.tableswitch 122 0 7 #[46, 56, 66, 76, 86, 95, 104, 113], 46) := by decide +kernel
theorem dX3_cell_68 : decode cX3_cell 68 = .ok (.aload_n 0, 1) := by decide +kernel
theorem dX3_cell_69 : decode cX3_cell 69 = .ok (.getfield 19, 3) := by decide +kernel
theorem dX3_cell_72 : decode cX3_cell 72 = .ok (.getfield 126, 3) := by decide +kernel
theorem dX3_cell_75 : decode cX3_cell 75 = .ok (.iload_n 1, 1) := by decide +kernel
theorem dX3_cell_76 : decode cX3_cell 76 = .ok (.iaload, 1) := by decide +kernel
theorem dX3_cell_77 : decode cX3_cell 77 = .ok (.ireturn, 1) := by decide +kernel
theorem dX3_cell_78 : decode cX3_cell 78 = .ok (.aload_n 0, 1) := by decide +kernel
theorem dX3_cell_79 : decode cX3_cell 79 = .ok (.getfield 19, 3) := by decide +kernel
theorem dX3_cell_82 : decode cX3_cell 82 = .ok (.getfield 130, 3) := by decide +kernel
theorem dX3_cell_85 : decode cX3_cell 85 = .ok (.iload_n 1, 1) := by decide +kernel
theorem dX3_cell_86 : decode cX3_cell 86 = .ok (.iaload, 1) := by decide +kernel
theorem dX3_cell_87 : decode cX3_cell 87 = .ok (.ireturn, 1) := by decide +kernel
theorem dX3_cell_88 : decode cX3_cell 88 = .ok (.aload_n 0, 1) := by decide +kernel
theorem dX3_cell_89 : decode cX3_cell 89 = .ok (.getfield 19, 3) := by decide +kernel
theorem dX3_cell_92 : decode cX3_cell 92 = .ok (.getfield 133, 3) := by decide +kernel
theorem dX3_cell_95 : decode cX3_cell 95 = .ok (.iload_n 1, 1) := by decide +kernel
theorem dX3_cell_96 : decode cX3_cell 96 = .ok (.iaload, 1) := by decide +kernel
theorem dX3_cell_97 : decode cX3_cell 97 = .ok (.ireturn, 1) := by decide +kernel
theorem dX3_cell_98 : decode cX3_cell 98 = .ok (.aload_n 0, 1) := by decide +kernel
theorem dX3_cell_99 : decode cX3_cell 99 = .ok (.getfield 19, 3) := by decide +kernel
theorem dX3_cell_102 : decode cX3_cell 102 = .ok (.getfield 136, 3) := by decide +kernel
theorem dX3_cell_105 : decode cX3_cell 105 = .ok (.iload_n 1, 1) := by decide +kernel
theorem dX3_cell_106 : decode cX3_cell 106 = .ok (.iaload, 1) := by decide +kernel
theorem dX3_cell_107 : decode cX3_cell 107 = .ok (.ireturn, 1) := by decide +kernel
theorem dX3_cell_108 : decode cX3_cell 108 = .ok (.aload_n 0, 1) := by decide +kernel
theorem dX3_cell_109 : decode cX3_cell 109 = .ok (.getfield 19, 3) := by decide +kernel
theorem dX3_cell_112 : decode cX3_cell 112 = .ok (.iload_n 1, 1) := by decide +kernel
theorem dX3_cell_113 : decode cX3_cell 113 = .ok (.invokevirtual 139, 3) := by decide +kernel
theorem dX3_cell_116 : decode cX3_cell 116 = .ok (.ireturn, 1) := by decide +kernel
theorem dX3_cell_117 : decode cX3_cell 117 = .ok (.aload_n 0, 1) := by decide +kernel
theorem dX3_cell_118 : decode cX3_cell 118 = .ok (.getfield 19, 3) := by decide +kernel
theorem dX3_cell_121 : decode cX3_cell 121 = .ok (.iload_n 1, 1) := by decide +kernel
theorem dX3_cell_122 : decode cX3_cell 122 = .ok (.invokevirtual 143, 3) := by decide +kernel
theorem dX3_cell_125 : decode cX3_cell 125 = .ok (.ireturn, 1) := by decide +kernel
theorem dX3_cell_126 : decode cX3_cell 126 = .ok (.aload_n 0, 1) := by decide +kernel
theorem dX3_cell_127 : decode cX3_cell 127 = .ok (.getfield 19, 3) := by decide +kernel
theorem dX3_cell_130 : decode cX3_cell 130 = .ok (.iload_n 1, 1) := by decide +kernel
theorem dX3_cell_131 : decode cX3_cell 131 = .ok (.invokevirtual 146, 3) := by decide +kernel
theorem dX3_cell_134 : decode cX3_cell 134 = .ok (.ireturn, 1) := by decide +kernel
theorem dX3_cell_135 : decode cX3_cell 135 = .ok (.aload_n 0, 1) := by decide +kernel
theorem dX3_cell_136 : decode cX3_cell 136 = .ok (.getfield 19, 3) := by decide +kernel
theorem dX3_cell_139 : decode cX3_cell 139 = .ok (.iload_n 1, 1) := by decide +kernel
theorem dX3_cell_140 : decode cX3_cell 140 = .ok (.invokevirtual 149, 3) := by decide +kernel
theorem dX3_cell_143 : decode cX3_cell 143 = .ok (.ireturn, 1) := by decide +kernel
theorem dX3_cell_144 : decode cX3_cell 144 = .ok (.new 48, 3) := by decide +kernel
theorem dX3_cell_147 : decode cX3_cell 147 = .ok (.dup, 1) := by decide +kernel
theorem dX3_cell_148 : decode cX3_cell 148 = .ok (.ldc 152, 2) := by decide +kernel
theorem dX3_cell_150 : decode cX3_cell 150 = .ok (.invokespecial 52, 3) := by decide +kernel
theorem dX3_cell_153 : decode cX3_cell 153 = .ok (.athrow, 1) := by decide +kernel
theorem dX3_loan_0 : decode cX3_loan 0 = .ok (.aload_n 0, 1) := by decide +kernel
theorem dX3_loan_1 : decode cX3_loan 1 = .ok (.getfield 19, 3) := by decide +kernel
theorem dX3_loan_4 : decode cX3_loan 4 = .ok (.iload_n 1, 1) := by decide +kernel
theorem dX3_loan_5 : decode cX3_loan 5 = .ok (.invokevirtual 154, 3) := by decide +kernel
theorem dX3_loan_8 : decode cX3_loan 8 = .ok (.ifCond .ne 13, 3) := by decide +kernel
theorem dX3_loan_11 : decode cX3_loan 11 = .ok (.new 121, 3) := by decide +kernel
theorem dX3_loan_14 : decode cX3_loan 14 = .ok (.dup, 1) := by decide +kernel
theorem dX3_loan_15 : decode cX3_loan 15 = .ok (.ldc 157, 2) := by decide +kernel
theorem dX3_loan_17 : decode cX3_loan 17 = .ok (.invokespecial 125, 3) := by decide +kernel
theorem dX3_loan_20 : decode cX3_loan 20 = .ok (.athrow, 1) := by decide +kernel
theorem dX3_loan_21 : decode cX3_loan 21 = .ok (.iload_n 2, 1) := by decide +kernel
theorem dX3_loan_22 : decode cX3_loan 22 = .ok (.tableswitch 97 0 5 #[38, 48, 58, 68, 78, 87], 38) := by decide +kernel
theorem dX3_loan_60 : decode cX3_loan 60 = .ok (.aload_n 0, 1) := by decide +kernel
theorem dX3_loan_61 : decode cX3_loan 61 = .ok (.getfield 19, 3) := by decide +kernel
theorem dX3_loan_64 : decode cX3_loan 64 = .ok (.getfield 159, 3) := by decide +kernel
theorem dX3_loan_67 : decode cX3_loan 67 = .ok (.iload_n 1, 1) := by decide +kernel
theorem dX3_loan_68 : decode cX3_loan 68 = .ok (.iaload, 1) := by decide +kernel
theorem dX3_loan_69 : decode cX3_loan 69 = .ok (.ireturn, 1) := by decide +kernel
theorem dX3_loan_70 : decode cX3_loan 70 = .ok (.aload_n 0, 1) := by decide +kernel
theorem dX3_loan_71 : decode cX3_loan 71 = .ok (.getfield 19, 3) := by decide +kernel
theorem dX3_loan_74 : decode cX3_loan 74 = .ok (.getfield 162, 3) := by decide +kernel
theorem dX3_loan_77 : decode cX3_loan 77 = .ok (.iload_n 1, 1) := by decide +kernel
theorem dX3_loan_78 : decode cX3_loan 78 = .ok (.iaload, 1) := by decide +kernel
theorem dX3_loan_79 : decode cX3_loan 79 = .ok (.ireturn, 1) := by decide +kernel
theorem dX3_loan_80 : decode cX3_loan 80 = .ok (.aload_n 0, 1) := by decide +kernel
theorem dX3_loan_81 : decode cX3_loan 81 = .ok (.getfield 19, 3) := by decide +kernel
theorem dX3_loan_84 : decode cX3_loan 84 = .ok (.getfield 165, 3) := by decide +kernel
theorem dX3_loan_87 : decode cX3_loan 87 = .ok (.iload_n 1, 1) := by decide +kernel
theorem dX3_loan_88 : decode cX3_loan 88 = .ok (.iaload, 1) := by decide +kernel
theorem dX3_loan_89 : decode cX3_loan 89 = .ok (.ireturn, 1) := by decide +kernel
theorem dX3_loan_90 : decode cX3_loan 90 = .ok (.aload_n 0, 1) := by decide +kernel
theorem dX3_loan_91 : decode cX3_loan 91 = .ok (.getfield 19, 3) := by decide +kernel
theorem dX3_loan_94 : decode cX3_loan 94 = .ok (.getfield 168, 3) := by decide +kernel
theorem dX3_loan_97 : decode cX3_loan 97 = .ok (.iload_n 1, 1) := by decide +kernel
theorem dX3_loan_98 : decode cX3_loan 98 = .ok (.iaload, 1) := by decide +kernel
theorem dX3_loan_99 : decode cX3_loan 99 = .ok (.ireturn, 1) := by decide +kernel
theorem dX3_loan_100 : decode cX3_loan 100 = .ok (.aload_n 0, 1) := by decide +kernel
theorem dX3_loan_101 : decode cX3_loan 101 = .ok (.getfield 19, 3) := by decide +kernel
theorem dX3_loan_104 : decode cX3_loan 104 = .ok (.iload_n 1, 1) := by decide +kernel
theorem dX3_loan_105 : decode cX3_loan 105 = .ok (.invokevirtual 171, 3) := by decide +kernel
theorem dX3_loan_108 : decode cX3_loan 108 = .ok (.ireturn, 1) := by decide +kernel
theorem dX3_loan_109 : decode cX3_loan 109 = .ok (.aload_n 0, 1) := by decide +kernel
theorem dX3_loan_110 : decode cX3_loan 110 = .ok (.getfield 19, 3) := by decide +kernel
theorem dX3_loan_113 : decode cX3_loan 113 = .ok (.getfield 174, 3) := by decide +kernel
theorem dX3_loan_116 : decode cX3_loan 116 = .ok (.iload_n 1, 1) := by decide +kernel
theorem dX3_loan_117 : decode cX3_loan 117 = .ok (.iaload, 1) := by decide +kernel
theorem dX3_loan_118 : decode cX3_loan 118 = .ok (.ireturn, 1) := by decide +kernel
theorem dX3_loan_119 : decode cX3_loan 119 = .ok (.new 48, 3) := by decide +kernel
theorem dX3_loan_122 : decode cX3_loan 122 = .ok (.dup, 1) := by decide +kernel
theorem dX3_loan_123 : decode cX3_loan 123 = .ok (.ldc 177, 2) := by decide +kernel
theorem dX3_loan_125 : decode cX3_loan 125 = .ok (.invokespecial 52, 3) := by decide +kernel
theorem dX3_loan_128 : decode cX3_loan 128 = .ok (.athrow, 1) := by decide +kernel
theorem dX3_order_0 : decode cX3_order 0 = .ok (.iload_n 1, 1) := by decide +kernel
theorem dX3_order_1 : decode cX3_order 1 = .ok (.ifCond .ge 13, 3) := by decide +kernel
theorem dX3_order_4 : decode cX3_order 4 = .ok (.new 48, 3) := by decide +kernel
theorem dX3_order_7 : decode cX3_order 7 = .ok (.dup, 1) := by decide +kernel
theorem dX3_order_8 : decode cX3_order 8 = .ok (.ldc 179, 2) := by decide +kernel
theorem dX3_order_10 : decode cX3_order 10 = .ok (.invokespecial 52, 3) := by decide +kernel
theorem dX3_order_13 : decode cX3_order 13 = .ok (.athrow, 1) := by decide +kernel
theorem dX3_order_14 : decode cX3_order 14 = .ok (.aload_n 0, 1) := by decide +kernel
theorem dX3_order_15 : decode cX3_order 15 = .ok (.getfield 19, 3) := by decide +kernel
theorem dX3_order_18 : decode cX3_order 18 = .ok (.iload_n 1, 1) := by decide +kernel
theorem dX3_order_19 : decode cX3_order 19 = .ok (.invokevirtual 181, 3) := by decide +kernel
theorem dX3_order_22 : decode cX3_order 22 = .ok (.ireturn, 1) := by decide +kernel
theorem dX3_addCell_0 : decode cX3_addCell 0 = .ok (.iload_n 1, 1) := by decide +kernel
theorem dX3_addCell_1 : decode cX3_addCell 1 = .ok (.bipush 10, 2) := by decide +kernel
theorem dX3_addCell_3 : decode cX3_addCell 3 = .ok (.bipush 99, 2) := by decide +kernel
theorem dX3_addCell_5 : decode cX3_addCell 5 = .ok (.invokestatic 44, 3) := by decide +kernel
theorem dX3_addCell_8 : decode cX3_addCell 8 = .ok (.ifCond .eq 21, 3) := by decide +kernel
theorem dX3_addCell_11 : decode cX3_addCell 11 = .ok (.iload_n 2, 1) := by decide +kernel
theorem dX3_addCell_12 : decode cX3_addCell 12 = .ok (.iconst 0, 1) := by decide +kernel
theorem dX3_addCell_13 : decode cX3_addCell 13 = .ok (.iload_n 1, 1) := by decide +kernel
theorem dX3_addCell_14 : decode cX3_addCell 14 = .ok (.invokestatic 44, 3) := by decide +kernel
theorem dX3_addCell_17 : decode cX3_addCell 17 = .ok (.ifCond .eq 12, 3) := by decide +kernel
theorem dX3_addCell_20 : decode cX3_addCell 20 = .ok (.iload_n 3, 1) := by decide +kernel
theorem dX3_addCell_21 : decode cX3_addCell 21 = .ok (.iconst 0, 1) := by decide +kernel
theorem dX3_addCell_22 : decode cX3_addCell 22 = .ok (.iconst 3, 1) := by decide +kernel
theorem dX3_addCell_23 : decode cX3_addCell 23 = .ok (.invokestatic 44, 3) := by decide +kernel
theorem dX3_addCell_26 : decode cX3_addCell 26 = .ok (.ifCond .ne 13, 3) := by decide +kernel
theorem dX3_addCell_29 : decode cX3_addCell 29 = .ok (.new 48, 3) := by decide +kernel
theorem dX3_addCell_32 : decode cX3_addCell 32 = .ok (.dup, 1) := by decide +kernel
theorem dX3_addCell_33 : decode cX3_addCell 33 = .ok (.ldc 184, 2) := by decide +kernel
theorem dX3_addCell_35 : decode cX3_addCell 35 = .ok (.invokespecial 52, 3) := by decide +kernel
theorem dX3_addCell_38 : decode cX3_addCell 38 = .ok (.athrow, 1) := by decide +kernel
theorem dX3_addCell_39 : decode cX3_addCell 39 = .ok (.aload_n 0, 1) := by decide +kernel
theorem dX3_addCell_40 : decode cX3_addCell 40 = .ok (.getfield 19, 3) := by decide +kernel
theorem dX3_addCell_43 : decode cX3_addCell 43 = .ok (.getfield 84, 3) := by decide +kernel
theorem dX3_addCell_46 : decode cX3_addCell 46 = .ok (.bipush 8, 2) := by decide +kernel
theorem dX3_addCell_48 : decode cX3_addCell 48 = .ok (.if_icmp .lt 13, 3) := by decide +kernel
theorem dX3_addCell_51 : decode cX3_addCell 51 = .ok (.new 59, 3) := by decide +kernel
theorem dX3_addCell_54 : decode cX3_addCell 54 = .ok (.dup, 1) := by decide +kernel
theorem dX3_addCell_55 : decode cX3_addCell 55 = .ok (.ldc 186, 2) := by decide +kernel
theorem dX3_addCell_57 : decode cX3_addCell 57 = .ok (.invokespecial 63, 3) := by decide +kernel
theorem dX3_addCell_60 : decode cX3_addCell 60 = .ok (.athrow, 1) := by decide +kernel
theorem dX3_addCell_61 : decode cX3_addCell 61 = .ok (.aload_n 0, 1) := by decide +kernel
theorem dX3_addCell_62 : decode cX3_addCell 62 = .ok (.getfield 26, 3) := by decide +kernel
theorem dX3_addCell_65 : decode cX3_addCell 65 = .ok (.aload_n 0, 1) := by decide +kernel
theorem dX3_addCell_66 : decode cX3_addCell 66 = .ok (.getfield 19, 3) := by decide +kernel
theorem dX3_addCell_69 : decode cX3_addCell 69 = .ok (.invokevirtual 188, 3) := by decide +kernel
theorem dX3_addCell_72 : decode cX3_addCell 72 = .ok (.aload_n 0, 1) := by decide +kernel
theorem dX3_addCell_73 : decode cX3_addCell 73 = .ok (.getfield 19, 3) := by decide +kernel
theorem dX3_addCell_76 : decode cX3_addCell 76 = .ok (.iload_n 1, 1) := by decide +kernel
theorem dX3_addCell_77 : decode cX3_addCell 77 = .ok (.iload_n 2, 1) := by decide +kernel
theorem dX3_addCell_78 : decode cX3_addCell 78 = .ok (.iload_n 3, 1) := by decide +kernel
theorem dX3_addCell_79 : decode cX3_addCell 79 = .ok (.invokevirtual 191, 3) := by decide +kernel
theorem dX3_addCell_82 : decode cX3_addCell 82 = .ok (.ireturn, 1) := by decide +kernel
theorem dX3_lend_0 : decode cX3_lend 0 = .ok (.aload_n 0, 1) := by decide +kernel
theorem dX3_lend_1 : decode cX3_lend 1 = .ok (.getfield 19, 3) := by decide +kernel
theorem dX3_lend_4 : decode cX3_lend 4 = .ok (.iload_n 1, 1) := by decide +kernel
theorem dX3_lend_5 : decode cX3_lend 5 = .ok (.invokevirtual 117, 3) := by decide +kernel
theorem dX3_lend_8 : decode cX3_lend 8 = .ok (.ifCond .eq 14, 3) := by decide +kernel
theorem dX3_lend_11 : decode cX3_lend 11 = .ok (.aload_n 0, 1) := by decide +kernel
theorem dX3_lend_12 : decode cX3_lend 12 = .ok (.getfield 19, 3) := by decide +kernel
theorem dX3_lend_15 : decode cX3_lend 15 = .ok (.iload_n 2, 1) := by decide +kernel
theorem dX3_lend_16 : decode cX3_lend 16 = .ok (.invokevirtual 117, 3) := by decide +kernel
theorem dX3_lend_19 : decode cX3_lend 19 = .ok (.ifCond .ne 13, 3) := by decide +kernel
theorem dX3_lend_22 : decode cX3_lend 22 = .ok (.new 121, 3) := by decide +kernel
theorem dX3_lend_25 : decode cX3_lend 25 = .ok (.dup, 1) := by decide +kernel
theorem dX3_lend_26 : decode cX3_lend 26 = .ok (.ldc 123, 2) := by decide +kernel
theorem dX3_lend_28 : decode cX3_lend 28 = .ok (.invokespecial 125, 3) := by decide +kernel
theorem dX3_lend_31 : decode cX3_lend 31 = .ok (.athrow, 1) := by decide +kernel
theorem dX3_lend_32 : decode cX3_lend 32 = .ok (.iload_n 1, 1) := by decide +kernel
theorem dX3_lend_33 : decode cX3_lend 33 = .ok (.iload_n 2, 1) := by decide +kernel
theorem dX3_lend_34 : decode cX3_lend 34 = .ok (.if_icmp .eq 21, 3) := by decide +kernel
theorem dX3_lend_37 : decode cX3_lend 37 = .ok (.iload_n 3, 1) := by decide +kernel
theorem dX3_lend_38 : decode cX3_lend 38 = .ok (.invokestatic 195, 3) := by decide +kernel
theorem dX3_lend_41 : decode cX3_lend 41 = .ok (.ifCond .eq 14, 3) := by decide +kernel
theorem dX3_lend_44 : decode cX3_lend 44 = .ok (.iload 4, 2) := by decide +kernel
theorem dX3_lend_46 : decode cX3_lend 46 = .ok (.iconst 0, 1) := by decide +kernel
theorem dX3_lend_47 : decode cX3_lend 47 = .ok (.bipush 50, 2) := by decide +kernel
theorem dX3_lend_49 : decode cX3_lend 49 = .ok (.invokestatic 44, 3) := by decide +kernel
theorem dX3_lend_52 : decode cX3_lend 52 = .ok (.ifCond .ne 13, 3) := by decide +kernel
theorem dX3_lend_55 : decode cX3_lend 55 = .ok (.new 48, 3) := by decide +kernel
theorem dX3_lend_58 : decode cX3_lend 58 = .ok (.dup, 1) := by decide +kernel
theorem dX3_lend_59 : decode cX3_lend 59 = .ok (.ldc 198, 2) := by decide +kernel
theorem dX3_lend_61 : decode cX3_lend 61 = .ok (.invokespecial 52, 3) := by decide +kernel
theorem dX3_lend_64 : decode cX3_lend 64 = .ok (.athrow, 1) := by decide +kernel
theorem dX3_lend_65 : decode cX3_lend 65 = .ok (.aload_n 0, 1) := by decide +kernel
theorem dX3_lend_66 : decode cX3_lend 66 = .ok (.getfield 19, 3) := by decide +kernel
theorem dX3_lend_69 : decode cX3_lend 69 = .ok (.iload_n 1, 1) := by decide +kernel
theorem dX3_lend_70 : decode cX3_lend 70 = .ok (.iload_n 2, 1) := by decide +kernel
theorem dX3_lend_71 : decode cX3_lend 71 = .ok (.iload_n 3, 1) := by decide +kernel
theorem dX3_lend_72 : decode cX3_lend 72 = .ok (.invokevirtual 200, 3) := by decide +kernel
theorem dX3_lend_75 : decode cX3_lend 75 = .ok (.ifCond .ne 13, 3) := by decide +kernel
theorem dX3_lend_78 : decode cX3_lend 78 = .ok (.new 59, 3) := by decide +kernel
theorem dX3_lend_81 : decode cX3_lend 81 = .ok (.dup, 1) := by decide +kernel
theorem dX3_lend_82 : decode cX3_lend 82 = .ok (.ldc 203, 2) := by decide +kernel
theorem dX3_lend_84 : decode cX3_lend 84 = .ok (.invokespecial 63, 3) := by decide +kernel
theorem dX3_lend_87 : decode cX3_lend 87 = .ok (.athrow, 1) := by decide +kernel
theorem dX3_lend_88 : decode cX3_lend 88 = .ok (.aload_n 0, 1) := by decide +kernel
theorem dX3_lend_89 : decode cX3_lend 89 = .ok (.getfield 26, 3) := by decide +kernel
theorem dX3_lend_92 : decode cX3_lend 92 = .ok (.aload_n 0, 1) := by decide +kernel
theorem dX3_lend_93 : decode cX3_lend 93 = .ok (.getfield 19, 3) := by decide +kernel
theorem dX3_lend_96 : decode cX3_lend 96 = .ok (.invokevirtual 188, 3) := by decide +kernel
theorem dX3_lend_99 : decode cX3_lend 99 = .ok (.aload_n 0, 1) := by decide +kernel
theorem dX3_lend_100 : decode cX3_lend 100 = .ok (.getfield 19, 3) := by decide +kernel
theorem dX3_lend_103 : decode cX3_lend 103 = .ok (.iload_n 1, 1) := by decide +kernel
theorem dX3_lend_104 : decode cX3_lend 104 = .ok (.iload_n 2, 1) := by decide +kernel
theorem dX3_lend_105 : decode cX3_lend 105 = .ok (.iload_n 3, 1) := by decide +kernel
theorem dX3_lend_106 : decode cX3_lend 106 = .ok (.iload 4, 2) := by decide +kernel
theorem dX3_lend_108 : decode cX3_lend 108 = .ok (.invokevirtual 205, 3) := by decide +kernel
theorem dX3_lend_111 : decode cX3_lend 111 = .ok (.ireturn, 1) := by decide +kernel
theorem dX3_repay_0 : decode cX3_repay 0 = .ok (.aload_n 0, 1) := by decide +kernel
theorem dX3_repay_1 : decode cX3_repay 1 = .ok (.getfield 19, 3) := by decide +kernel
theorem dX3_repay_4 : decode cX3_repay 4 = .ok (.iload_n 1, 1) := by decide +kernel
theorem dX3_repay_5 : decode cX3_repay 5 = .ok (.invokevirtual 154, 3) := by decide +kernel
theorem dX3_repay_8 : decode cX3_repay 8 = .ok (.ifCond .ne 13, 3) := by decide +kernel
theorem dX3_repay_11 : decode cX3_repay 11 = .ok (.new 121, 3) := by decide +kernel
theorem dX3_repay_14 : decode cX3_repay 14 = .ok (.dup, 1) := by decide +kernel
theorem dX3_repay_15 : decode cX3_repay 15 = .ok (.ldc 157, 2) := by decide +kernel
theorem dX3_repay_17 : decode cX3_repay 17 = .ok (.invokespecial 125, 3) := by decide +kernel
theorem dX3_repay_20 : decode cX3_repay 20 = .ok (.athrow, 1) := by decide +kernel
theorem dX3_repay_21 : decode cX3_repay 21 = .ok (.iload_n 2, 1) := by decide +kernel
theorem dX3_repay_22 : decode cX3_repay 22 = .ok (.invokestatic 195, 3) := by decide +kernel
theorem dX3_repay_25 : decode cX3_repay 25 = .ok (.ifCond .ne 13, 3) := by decide +kernel
theorem dX3_repay_28 : decode cX3_repay 28 = .ok (.new 48, 3) := by decide +kernel
theorem dX3_repay_31 : decode cX3_repay 31 = .ok (.dup, 1) := by decide +kernel
theorem dX3_repay_32 : decode cX3_repay 32 = .ok (.ldc 209, 2) := by decide +kernel
theorem dX3_repay_34 : decode cX3_repay 34 = .ok (.invokespecial 52, 3) := by decide +kernel
theorem dX3_repay_37 : decode cX3_repay 37 = .ok (.athrow, 1) := by decide +kernel
theorem dX3_repay_38 : decode cX3_repay 38 = .ok (.aload_n 0, 1) := by decide +kernel
theorem dX3_repay_39 : decode cX3_repay 39 = .ok (.getfield 19, 3) := by decide +kernel
theorem dX3_repay_42 : decode cX3_repay 42 = .ok (.iload_n 1, 1) := by decide +kernel
theorem dX3_repay_43 : decode cX3_repay 43 = .ok (.iload_n 2, 1) := by decide +kernel
theorem dX3_repay_44 : decode cX3_repay 44 = .ok (.invokevirtual 211, 3) := by decide +kernel
theorem dX3_repay_47 : decode cX3_repay 47 = .ok (.ifCond .ne 13, 3) := by decide +kernel
theorem dX3_repay_50 : decode cX3_repay 50 = .ok (.new 59, 3) := by decide +kernel
theorem dX3_repay_53 : decode cX3_repay 53 = .ok (.dup, 1) := by decide +kernel
theorem dX3_repay_54 : decode cX3_repay 54 = .ok (.ldc 215, 2) := by decide +kernel
theorem dX3_repay_56 : decode cX3_repay 56 = .ok (.invokespecial 63, 3) := by decide +kernel
theorem dX3_repay_59 : decode cX3_repay 59 = .ok (.athrow, 1) := by decide +kernel
theorem dX3_repay_60 : decode cX3_repay 60 = .ok (.aload_n 0, 1) := by decide +kernel
theorem dX3_repay_61 : decode cX3_repay 61 = .ok (.getfield 26, 3) := by decide +kernel
theorem dX3_repay_64 : decode cX3_repay 64 = .ok (.aload_n 0, 1) := by decide +kernel
theorem dX3_repay_65 : decode cX3_repay 65 = .ok (.getfield 19, 3) := by decide +kernel
theorem dX3_repay_68 : decode cX3_repay 68 = .ok (.invokevirtual 188, 3) := by decide +kernel
theorem dX3_repay_71 : decode cX3_repay 71 = .ok (.aload_n 0, 1) := by decide +kernel
theorem dX3_repay_72 : decode cX3_repay 72 = .ok (.getfield 19, 3) := by decide +kernel
theorem dX3_repay_75 : decode cX3_repay 75 = .ok (.iload_n 1, 1) := by decide +kernel
theorem dX3_repay_76 : decode cX3_repay 76 = .ok (.iload_n 2, 1) := by decide +kernel
theorem dX3_repay_77 : decode cX3_repay 77 = .ok (.invokevirtual 217, 3) := by decide +kernel
theorem dX3_repay_80 : decode cX3_repay 80 = .ok (.ireturn, 1) := by decide +kernel
theorem dX3_setLeak_0 : decode cX3_setLeak 0 = .ok (.aload_n 0, 1) := by decide +kernel
theorem dX3_setLeak_1 : decode cX3_setLeak 1 = .ok (.getfield 19, 3) := by decide +kernel
theorem dX3_setLeak_4 : decode cX3_setLeak 4 = .ok (.iload_n 1, 1) := by decide +kernel
theorem dX3_setLeak_5 : decode cX3_setLeak 5 = .ok (.invokevirtual 117, 3) := by decide +kernel
theorem dX3_setLeak_8 : decode cX3_setLeak 8 = .ok (.ifCond .ne 13, 3) := by decide +kernel
theorem dX3_setLeak_11 : decode cX3_setLeak 11 = .ok (.new 121, 3) := by decide +kernel
theorem dX3_setLeak_14 : decode cX3_setLeak 14 = .ok (.dup, 1) := by decide +kernel
theorem dX3_setLeak_15 : decode cX3_setLeak 15 = .ok (.ldc 123, 2) := by decide +kernel
theorem dX3_setLeak_17 : decode cX3_setLeak 17 = .ok (.invokespecial 125, 3) := by decide +kernel
theorem dX3_setLeak_20 : decode cX3_setLeak 20 = .ok (.athrow, 1) := by decide +kernel
theorem dX3_setLeak_21 : decode cX3_setLeak 21 = .ok (.iload_n 2, 1) := by decide +kernel
theorem dX3_setLeak_22 : decode cX3_setLeak 22 = .ok (.iconst 0, 1) := by decide +kernel
theorem dX3_setLeak_23 : decode cX3_setLeak 23 = .ok (.iconst 3, 1) := by decide +kernel
theorem dX3_setLeak_24 : decode cX3_setLeak 24 = .ok (.invokestatic 44, 3) := by decide +kernel
theorem dX3_setLeak_27 : decode cX3_setLeak 27 = .ok (.ifCond .ne 13, 3) := by decide +kernel
theorem dX3_setLeak_30 : decode cX3_setLeak 30 = .ok (.new 48, 3) := by decide +kernel
theorem dX3_setLeak_33 : decode cX3_setLeak 33 = .ok (.dup, 1) := by decide +kernel
theorem dX3_setLeak_34 : decode cX3_setLeak 34 = .ok (.ldc 221, 2) := by decide +kernel
theorem dX3_setLeak_36 : decode cX3_setLeak 36 = .ok (.invokespecial 52, 3) := by decide +kernel
theorem dX3_setLeak_39 : decode cX3_setLeak 39 = .ok (.athrow, 1) := by decide +kernel
theorem dX3_setLeak_40 : decode cX3_setLeak 40 = .ok (.aload_n 0, 1) := by decide +kernel
theorem dX3_setLeak_41 : decode cX3_setLeak 41 = .ok (.getfield 26, 3) := by decide +kernel
theorem dX3_setLeak_44 : decode cX3_setLeak 44 = .ok (.aload_n 0, 1) := by decide +kernel
theorem dX3_setLeak_45 : decode cX3_setLeak 45 = .ok (.getfield 19, 3) := by decide +kernel
theorem dX3_setLeak_48 : decode cX3_setLeak 48 = .ok (.invokevirtual 188, 3) := by decide +kernel
theorem dX3_setLeak_51 : decode cX3_setLeak 51 = .ok (.aload_n 0, 1) := by decide +kernel
theorem dX3_setLeak_52 : decode cX3_setLeak 52 = .ok (.getfield 19, 3) := by decide +kernel
theorem dX3_setLeak_55 : decode cX3_setLeak 55 = .ok (.getfield 133, 3) := by decide +kernel
theorem dX3_setLeak_58 : decode cX3_setLeak 58 = .ok (.iload_n 1, 1) := by decide +kernel
theorem dX3_setLeak_59 : decode cX3_setLeak 59 = .ok (.iaload, 1) := by decide +kernel
theorem dX3_setLeak_60 : decode cX3_setLeak 60 = .ok (.istore_n 3, 1) := by decide +kernel
theorem dX3_setLeak_61 : decode cX3_setLeak 61 = .ok (.aload_n 0, 1) := by decide +kernel
theorem dX3_setLeak_62 : decode cX3_setLeak 62 = .ok (.getfield 19, 3) := by decide +kernel
theorem dX3_setLeak_65 : decode cX3_setLeak 65 = .ok (.getfield 133, 3) := by decide +kernel
theorem dX3_setLeak_68 : decode cX3_setLeak 68 = .ok (.iload_n 1, 1) := by decide +kernel
theorem dX3_setLeak_69 : decode cX3_setLeak 69 = .ok (.iload_n 2, 1) := by decide +kernel
theorem dX3_setLeak_70 : decode cX3_setLeak 70 = .ok (.iastore, 1) := by decide +kernel
theorem dX3_setLeak_71 : decode cX3_setLeak 71 = .ok (.iload_n 3, 1) := by decide +kernel
theorem dX3_setLeak_72 : decode cX3_setLeak 72 = .ok (.ireturn, 1) := by decide +kernel
theorem dX3_charge_0 : decode cX3_charge 0 = .ok (.iload_n 1, 1) := by decide +kernel
theorem dX3_charge_1 : decode cX3_charge 1 = .ok (.invokestatic 195, 3) := by decide +kernel
theorem dX3_charge_4 : decode cX3_charge 4 = .ok (.ifCond .ne 13, 3) := by decide +kernel
theorem dX3_charge_7 : decode cX3_charge 7 = .ok (.new 48, 3) := by decide +kernel
theorem dX3_charge_10 : decode cX3_charge 10 = .ok (.dup, 1) := by decide +kernel
theorem dX3_charge_11 : decode cX3_charge 11 = .ok (.ldc 209, 2) := by decide +kernel
theorem dX3_charge_13 : decode cX3_charge 13 = .ok (.invokespecial 52, 3) := by decide +kernel
theorem dX3_charge_16 : decode cX3_charge 16 = .ok (.athrow, 1) := by decide +kernel
theorem dX3_charge_17 : decode cX3_charge 17 = .ok (.aload_n 0, 1) := by decide +kernel
theorem dX3_charge_18 : decode cX3_charge 18 = .ok (.getfield 26, 3) := by decide +kernel
theorem dX3_charge_21 : decode cX3_charge 21 = .ok (.aload_n 0, 1) := by decide +kernel
theorem dX3_charge_22 : decode cX3_charge 22 = .ok (.getfield 19, 3) := by decide +kernel
theorem dX3_charge_25 : decode cX3_charge 25 = .ok (.invokevirtual 188, 3) := by decide +kernel
theorem dX3_charge_28 : decode cX3_charge 28 = .ok (.aload_n 0, 1) := by decide +kernel
theorem dX3_charge_29 : decode cX3_charge 29 = .ok (.getfield 19, 3) := by decide +kernel
theorem dX3_charge_32 : decode cX3_charge 32 = .ok (.iload_n 1, 1) := by decide +kernel
theorem dX3_charge_33 : decode cX3_charge 33 = .ok (.invokevirtual 223, 3) := by decide +kernel
theorem dX3_charge_36 : decode cX3_charge 36 = .ok (.ireturn, 1) := by decide +kernel
theorem dX3_draw_0 : decode cX3_draw 0 = .ok (.iload_n 1, 1) := by decide +kernel
theorem dX3_draw_1 : decode cX3_draw 1 = .ok (.invokestatic 195, 3) := by decide +kernel
theorem dX3_draw_4 : decode cX3_draw 4 = .ok (.ifCond .ne 13, 3) := by decide +kernel
theorem dX3_draw_7 : decode cX3_draw 7 = .ok (.new 48, 3) := by decide +kernel
theorem dX3_draw_10 : decode cX3_draw 10 = .ok (.dup, 1) := by decide +kernel
theorem dX3_draw_11 : decode cX3_draw 11 = .ok (.ldc 209, 2) := by decide +kernel
theorem dX3_draw_13 : decode cX3_draw 13 = .ok (.invokespecial 52, 3) := by decide +kernel
theorem dX3_draw_16 : decode cX3_draw 16 = .ok (.athrow, 1) := by decide +kernel
theorem dX3_draw_17 : decode cX3_draw 17 = .ok (.aload_n 0, 1) := by decide +kernel
theorem dX3_draw_18 : decode cX3_draw 18 = .ok (.getfield 38, 3) := by decide +kernel
theorem dX3_draw_21 : decode cX3_draw 21 = .ok (.aload_n 0, 1) := by decide +kernel
theorem dX3_draw_22 : decode cX3_draw 22 = .ok (.getfield 19, 3) := by decide +kernel
theorem dX3_draw_25 : decode cX3_draw 25 = .ok (.invokevirtual 77, 3) := by decide +kernel
theorem dX3_draw_28 : decode cX3_draw 28 = .ok (.aload_n 0, 1) := by decide +kernel
theorem dX3_draw_29 : decode cX3_draw 29 = .ok (.getfield 38, 3) := by decide +kernel
theorem dX3_draw_32 : decode cX3_draw 32 = .ok (.iload_n 1, 1) := by decide +kernel
theorem dX3_draw_33 : decode cX3_draw 33 = .ok (.invokevirtual 226, 3) := by decide +kernel
theorem dX3_draw_36 : decode cX3_draw 36 = .ok (.istore_n 2, 1) := by decide +kernel
theorem dX3_draw_37 : decode cX3_draw 37 = .ok (.iload_n 2, 1) := by decide +kernel
theorem dX3_draw_38 : decode cX3_draw 38 = .ok (.ifCond .ne 13, 3) := by decide +kernel
theorem dX3_draw_41 : decode cX3_draw 41 = .ok (.new 59, 3) := by decide +kernel
theorem dX3_draw_44 : decode cX3_draw 44 = .ok (.dup, 1) := by decide +kernel
theorem dX3_draw_45 : decode cX3_draw 45 = .ok (.ldc 229, 2) := by decide +kernel
theorem dX3_draw_47 : decode cX3_draw 47 = .ok (.invokespecial 63, 3) := by decide +kernel
theorem dX3_draw_50 : decode cX3_draw 50 = .ok (.athrow, 1) := by decide +kernel
theorem dX3_draw_51 : decode cX3_draw 51 = .ok (.aload_n 0, 1) := by decide +kernel
theorem dX3_draw_52 : decode cX3_draw 52 = .ok (.getfield 26, 3) := by decide +kernel
theorem dX3_draw_55 : decode cX3_draw 55 = .ok (.aload_n 0, 1) := by decide +kernel
theorem dX3_draw_56 : decode cX3_draw 56 = .ok (.getfield 19, 3) := by decide +kernel
theorem dX3_draw_59 : decode cX3_draw 59 = .ok (.invokevirtual 188, 3) := by decide +kernel
theorem dX3_draw_62 : decode cX3_draw 62 = .ok (.aload_n 0, 1) := by decide +kernel
theorem dX3_draw_63 : decode cX3_draw 63 = .ok (.getfield 19, 3) := by decide +kernel
theorem dX3_draw_66 : decode cX3_draw 66 = .ok (.aload_n 0, 1) := by decide +kernel
theorem dX3_draw_67 : decode cX3_draw 67 = .ok (.getfield 38, 3) := by decide +kernel
theorem dX3_draw_70 : decode cX3_draw 70 = .ok (.invokevirtual 77, 3) := by decide +kernel
theorem dX3_draw_73 : decode cX3_draw 73 = .ok (.iload_n 2, 1) := by decide +kernel
theorem dX3_draw_74 : decode cX3_draw 74 = .ok (.ireturn, 1) := by decide +kernel
theorem dX3_pass_0 : decode cX3_pass 0 = .ok (.iload_n 1, 1) := by decide +kernel
theorem dX3_pass_1 : decode cX3_pass 1 = .ok (.iconst 1, 1) := by decide +kernel
theorem dX3_pass_2 : decode cX3_pass 2 = .ok (.bipush 50, 2) := by decide +kernel
theorem dX3_pass_4 : decode cX3_pass 4 = .ok (.invokestatic 44, 3) := by decide +kernel
theorem dX3_pass_7 : decode cX3_pass 7 = .ok (.ifCond .ne 13, 3) := by decide +kernel
theorem dX3_pass_10 : decode cX3_pass 10 = .ok (.new 48, 3) := by decide +kernel
theorem dX3_pass_13 : decode cX3_pass 13 = .ok (.dup, 1) := by decide +kernel
theorem dX3_pass_14 : decode cX3_pass 14 = .ok (.ldc 231, 2) := by decide +kernel
theorem dX3_pass_16 : decode cX3_pass 16 = .ok (.invokespecial 52, 3) := by decide +kernel
theorem dX3_pass_19 : decode cX3_pass 19 = .ok (.athrow, 1) := by decide +kernel
theorem dX3_pass_20 : decode cX3_pass 20 = .ok (.aload_n 0, 1) := by decide +kernel
theorem dX3_pass_21 : decode cX3_pass 21 = .ok (.getfield 26, 3) := by decide +kernel
theorem dX3_pass_24 : decode cX3_pass 24 = .ok (.aload_n 0, 1) := by decide +kernel
theorem dX3_pass_25 : decode cX3_pass 25 = .ok (.getfield 19, 3) := by decide +kernel
theorem dX3_pass_28 : decode cX3_pass 28 = .ok (.invokevirtual 188, 3) := by decide +kernel
theorem dX3_pass_31 : decode cX3_pass 31 = .ok (.aload_n 0, 1) := by decide +kernel
theorem dX3_pass_32 : decode cX3_pass 32 = .ok (.getfield 19, 3) := by decide +kernel
theorem dX3_pass_35 : decode cX3_pass 35 = .ok (.iload_n 1, 1) := by decide +kernel
theorem dX3_pass_36 : decode cX3_pass 36 = .ok (.invokevirtual 233, 3) := by decide +kernel
theorem dX3_pass_39 : decode cX3_pass 39 = .ok (.ireturn, 1) := by decide +kernel
theorem dX3_undo_0 : decode cX3_undo 0 = .ok (.aload_n 0, 1) := by decide +kernel
theorem dX3_undo_1 : decode cX3_undo 1 = .ok (.getfield 26, 3) := by decide +kernel
theorem dX3_undo_4 : decode cX3_undo 4 = .ok (.getfield 236, 3) := by decide +kernel
theorem dX3_undo_7 : decode cX3_undo 7 = .ok (.ifCond .ne 13, 3) := by decide +kernel
theorem dX3_undo_10 : decode cX3_undo 10 = .ok (.new 59, 3) := by decide +kernel
theorem dX3_undo_13 : decode cX3_undo 13 = .ok (.dup, 1) := by decide +kernel
theorem dX3_undo_14 : decode cX3_undo 14 = .ok (.ldc 239, 2) := by decide +kernel
theorem dX3_undo_16 : decode cX3_undo 16 = .ok (.invokespecial 63, 3) := by decide +kernel
theorem dX3_undo_19 : decode cX3_undo 19 = .ok (.athrow, 1) := by decide +kernel
theorem dX3_undo_20 : decode cX3_undo 20 = .ok (.aload_n 0, 1) := by decide +kernel
theorem dX3_undo_21 : decode cX3_undo 21 = .ok (.getfield 26, 3) := by decide +kernel
theorem dX3_undo_24 : decode cX3_undo 24 = .ok (.aload_n 0, 1) := by decide +kernel
theorem dX3_undo_25 : decode cX3_undo 25 = .ok (.getfield 19, 3) := by decide +kernel
theorem dX3_undo_28 : decode cX3_undo 28 = .ok (.invokevirtual 241, 3) := by decide +kernel
theorem dX3_undo_31 : decode cX3_undo 31 = .ok (.aload_n 0, 1) := by decide +kernel
theorem dX3_undo_32 : decode cX3_undo 32 = .ok (.getfield 26, 3) := by decide +kernel
theorem dX3_undo_35 : decode cX3_undo 35 = .ok (.getfield 236, 3) := by decide +kernel
theorem dX3_undo_38 : decode cX3_undo 38 = .ok (.ireturn, 1) := by decide +kernel
theorem dX3_holds_0 : decode cX3_holds 0 = .ok (.aload_n 0, 1) := by decide +kernel
theorem dX3_holds_1 : decode cX3_holds 1 = .ok (.getfield 19, 3) := by decide +kernel
theorem dX3_holds_4 : decode cX3_holds 4 = .ok (.iload_n 1, 1) := by decide +kernel
theorem dX3_holds_5 : decode cX3_holds 5 = .ok (.invokevirtual 117, 3) := by decide +kernel
theorem dX3_holds_8 : decode cX3_holds 8 = .ok (.ifCond .ne 13, 3) := by decide +kernel
theorem dX3_holds_11 : decode cX3_holds 11 = .ok (.new 121, 3) := by decide +kernel
theorem dX3_holds_14 : decode cX3_holds 14 = .ok (.dup, 1) := by decide +kernel
theorem dX3_holds_15 : decode cX3_holds 15 = .ok (.ldc 123, 2) := by decide +kernel
theorem dX3_holds_17 : decode cX3_holds 17 = .ok (.invokespecial 125, 3) := by decide +kernel
theorem dX3_holds_20 : decode cX3_holds 20 = .ok (.athrow, 1) := by decide +kernel
theorem dX3_holds_21 : decode cX3_holds 21 = .ok (.aload_n 0, 1) := by decide +kernel
theorem dX3_holds_22 : decode cX3_holds 22 = .ok (.getfield 38, 3) := by decide +kernel
theorem dX3_holds_25 : decode cX3_holds 25 = .ok (.aload_n 0, 1) := by decide +kernel
theorem dX3_holds_26 : decode cX3_holds 26 = .ok (.getfield 19, 3) := by decide +kernel
theorem dX3_holds_29 : decode cX3_holds 29 = .ok (.invokevirtual 77, 3) := by decide +kernel
theorem dX3_holds_32 : decode cX3_holds 32 = .ok (.iconst 0, 1) := by decide +kernel
theorem dX3_holds_33 : decode cX3_holds 33 = .ok (.istore_n 2, 1) := by decide +kernel
theorem dX3_holds_34 : decode cX3_holds 34 = .ok (.iload_n 2, 1) := by decide +kernel
theorem dX3_holds_35 : decode cX3_holds 35 = .ok (.bipush 100, 2) := by decide +kernel
theorem dX3_holds_37 : decode cX3_holds 37 = .ok (.if_icmp .gt 30, 3) := by decide +kernel
theorem dX3_holds_40 : decode cX3_holds 40 = .ok (.aload_n 0, 1) := by decide +kernel
theorem dX3_holds_41 : decode cX3_holds 41 = .ok (.getfield 38, 3) := by decide +kernel
theorem dX3_holds_44 : decode cX3_holds 44 = .ok (.iload_n 1, 1) := by decide +kernel
theorem dX3_holds_45 : decode cX3_holds 45 = .ok (.invokevirtual 244, 3) := by decide +kernel
theorem dX3_holds_48 : decode cX3_holds 48 = .ok (.ifCond .eq 5, 3) := by decide +kernel
theorem dX3_holds_51 : decode cX3_holds 51 = .ok (.iload_n 2, 1) := by decide +kernel
theorem dX3_holds_52 : decode cX3_holds 52 = .ok (.ireturn, 1) := by decide +kernel
theorem dX3_holds_53 : decode cX3_holds 53 = .ok (.aload_n 0, 1) := by decide +kernel
theorem dX3_holds_54 : decode cX3_holds 54 = .ok (.getfield 38, 3) := by decide +kernel
theorem dX3_holds_57 : decode cX3_holds 57 = .ok (.invokevirtual 247, 3) := by decide +kernel
theorem dX3_holds_60 : decode cX3_holds 60 = .ok (.pop, 1) := by decide +kernel
theorem dX3_holds_61 : decode cX3_holds 61 = .ok (.iinc 2 1, 3) := by decide +kernel
theorem dX3_holds_64 : decode cX3_holds 64 = .ok (.goto (-30), 3) := by decide +kernel
theorem dX3_holds_67 : decode cX3_holds 67 = .ok (.bipush (-9), 2) := by decide +kernel
theorem dX3_holds_69 : decode cX3_holds 69 = .ok (.ireturn, 1) := by decide +kernel
theorem dX3_draws_0 : decode cX3_draws 0 = .ok (.iload_n 1, 1) := by decide +kernel
theorem dX3_draws_1 : decode cX3_draws 1 = .ok (.invokestatic 195, 3) := by decide +kernel
theorem dX3_draws_4 : decode cX3_draws 4 = .ok (.ifCond .ne 13, 3) := by decide +kernel
theorem dX3_draws_7 : decode cX3_draws 7 = .ok (.new 48, 3) := by decide +kernel
theorem dX3_draws_10 : decode cX3_draws 10 = .ok (.dup, 1) := by decide +kernel
theorem dX3_draws_11 : decode cX3_draws 11 = .ok (.ldc 209, 2) := by decide +kernel
theorem dX3_draws_13 : decode cX3_draws 13 = .ok (.invokespecial 52, 3) := by decide +kernel
theorem dX3_draws_16 : decode cX3_draws 16 = .ok (.athrow, 1) := by decide +kernel
theorem dX3_draws_17 : decode cX3_draws 17 = .ok (.aload_n 0, 1) := by decide +kernel
theorem dX3_draws_18 : decode cX3_draws 18 = .ok (.getfield 38, 3) := by decide +kernel
theorem dX3_draws_21 : decode cX3_draws 21 = .ok (.aload_n 0, 1) := by decide +kernel
theorem dX3_draws_22 : decode cX3_draws 22 = .ok (.getfield 19, 3) := by decide +kernel
theorem dX3_draws_25 : decode cX3_draws 25 = .ok (.invokevirtual 77, 3) := by decide +kernel
theorem dX3_draws_28 : decode cX3_draws 28 = .ok (.iconst 0, 1) := by decide +kernel
theorem dX3_draws_29 : decode cX3_draws 29 = .ok (.istore_n 2, 1) := by decide +kernel
theorem dX3_draws_30 : decode cX3_draws 30 = .ok (.iload_n 2, 1) := by decide +kernel
theorem dX3_draws_31 : decode cX3_draws 31 = .ok (.sipush 792, 3) := by decide +kernel
theorem dX3_draws_34 : decode cX3_draws 34 = .ok (.if_icmp .ge 22, 3) := by decide +kernel
theorem dX3_draws_37 : decode cX3_draws 37 = .ok (.aload_n 0, 1) := by decide +kernel
theorem dX3_draws_38 : decode cX3_draws 38 = .ok (.getfield 38, 3) := by decide +kernel
theorem dX3_draws_41 : decode cX3_draws 41 = .ok (.iload_n 1, 1) := by decide +kernel
theorem dX3_draws_42 : decode cX3_draws 42 = .ok (.invokevirtual 226, 3) := by decide +kernel
theorem dX3_draws_45 : decode cX3_draws 45 = .ok (.ifCond .ne 5, 3) := by decide +kernel
theorem dX3_draws_48 : decode cX3_draws 48 = .ok (.iload_n 2, 1) := by decide +kernel
theorem dX3_draws_49 : decode cX3_draws 49 = .ok (.ireturn, 1) := by decide +kernel
theorem dX3_draws_50 : decode cX3_draws 50 = .ok (.iinc 2 1, 3) := by decide +kernel
theorem dX3_draws_53 : decode cX3_draws 53 = .ok (.goto (-23), 3) := by decide +kernel
theorem dX3_draws_56 : decode cX3_draws 56 = .ok (.sipush 792, 3) := by decide +kernel
theorem dX3_draws_59 : decode cX3_draws 59 = .ok (.ireturn, 1) := by decide +kernel
theorem dX3_most_0 : decode cX3_most 0 = .ok (.bipush 99, 2) := by decide +kernel
theorem dX3_most_2 : decode cX3_most 2 = .ok (.istore_n 1, 1) := by decide +kernel
