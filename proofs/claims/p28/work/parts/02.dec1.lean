theorem dX0_dropLoansOf_16 : decode cX0_dropLoansOf 16 = .ok (.iaload, 1) := by decide +kernel
theorem dX0_dropLoansOf_17 : decode cX0_dropLoansOf 17 = .ok (.iload_n 1, 1) := by decide +kernel
theorem dX0_dropLoansOf_18 : decode cX0_dropLoansOf 18 = .ok (.if_icmp .eq 13, 3) := by decide +kernel
theorem dX0_dropLoansOf_21 : decode cX0_dropLoansOf 21 = .ok (.aload_n 0, 1) := by decide +kernel
theorem dX0_dropLoansOf_22 : decode cX0_dropLoansOf 22 = .ok (.getfield 27, 3) := by decide +kernel
theorem dX0_dropLoansOf_25 : decode cX0_dropLoansOf 25 = .ok (.iload_n 2, 1) := by decide +kernel
theorem dX0_dropLoansOf_26 : decode cX0_dropLoansOf 26 = .ok (.iaload, 1) := by decide +kernel
theorem dX0_dropLoansOf_27 : decode cX0_dropLoansOf 27 = .ok (.iload_n 1, 1) := by decide +kernel
theorem dX0_dropLoansOf_28 : decode cX0_dropLoansOf 28 = .ok (.if_icmp .ne 23, 3) := by decide +kernel
theorem dX0_dropLoansOf_31 : decode cX0_dropLoansOf 31 = .ok (.aload_n 0, 1) := by decide +kernel
theorem dX0_dropLoansOf_32 : decode cX0_dropLoansOf 32 = .ok (.dup, 1) := by decide +kernel
theorem dX0_dropLoansOf_33 : decode cX0_dropLoansOf 33 = .ok (.getfield 61, 3) := by decide +kernel
theorem dX0_dropLoansOf_36 : decode cX0_dropLoansOf 36 = .ok (.aload_n 0, 1) := by decide +kernel
theorem dX0_dropLoansOf_37 : decode cX0_dropLoansOf 37 = .ok (.getfield 30, 3) := by decide +kernel
theorem dX0_dropLoansOf_40 : decode cX0_dropLoansOf 40 = .ok (.iload_n 2, 1) := by decide +kernel
theorem dX0_dropLoansOf_41 : decode cX0_dropLoansOf 41 = .ok (.iaload, 1) := by decide +kernel
theorem dX0_dropLoansOf_42 : decode cX0_dropLoansOf 42 = .ok (.iadd, 1) := by decide +kernel
theorem dX0_dropLoansOf_43 : decode cX0_dropLoansOf 43 = .ok (.putfield 61, 3) := by decide +kernel
theorem dX0_dropLoansOf_46 : decode cX0_dropLoansOf 46 = .ok (.aload_n 0, 1) := by decide +kernel
theorem dX0_dropLoansOf_47 : decode cX0_dropLoansOf 47 = .ok (.iload_n 2, 1) := by decide +kernel
theorem dX0_dropLoansOf_48 : decode cX0_dropLoansOf 48 = .ok (.invokevirtual 114, 3) := by decide +kernel
theorem dX0_dropLoansOf_51 : decode cX0_dropLoansOf 51 = .ok (.iinc 2 (-1), 3) := by decide +kernel
theorem dX0_dropLoansOf_54 : decode cX0_dropLoansOf 54 = .ok (.goto (-47), 3) := by decide +kernel
theorem dX0_dropLoansOf_57 : decode cX0_dropLoansOf 57 = .ok (.return_, 1) := by decide +kernel
theorem dX1_init_0 : decode cX1_init 0 = .ok (.aload_n 0, 1) := by decide +kernel
theorem dX1_init_1 : decode cX1_init 1 = .ok (.invokespecial 3, 3) := by decide +kernel
theorem dX1_init_4 : decode cX1_init 4 = .ok (.aload_n 0, 1) := by decide +kernel
theorem dX1_init_5 : decode cX1_init 5 = .ok (.bipush 14, 2) := by decide +kernel
theorem dX1_init_7 : decode cX1_init 7 = .ok (.anewarray 9, 3) := by decide +kernel
theorem dX1_init_10 : decode cX1_init 10 = .ok (.putfield 11, 3) := by decide +kernel
theorem dX1_init_13 : decode cX1_init 13 = .ok (.iconst 0, 1) := by decide +kernel
theorem dX1_init_14 : decode cX1_init 14 = .ok (.istore_n 1, 1) := by decide +kernel
theorem dX1_init_15 : decode cX1_init 15 = .ok (.iload_n 1, 1) := by decide +kernel
theorem dX1_init_16 : decode cX1_init 16 = .ok (.bipush 14, 2) := by decide +kernel
theorem dX1_init_18 : decode cX1_init 18 = .ok (.if_icmp .ge 22, 3) := by decide +kernel
theorem dX1_init_21 : decode cX1_init 21 = .ok (.aload_n 0, 1) := by decide +kernel
theorem dX1_init_22 : decode cX1_init 22 = .ok (.getfield 11, 3) := by decide +kernel
theorem dX1_init_25 : decode cX1_init 25 = .ok (.iload_n 1, 1) := by decide +kernel
theorem dX1_init_26 : decode cX1_init 26 = .ok (.new 9, 3) := by decide +kernel
theorem dX1_init_29 : decode cX1_init 29 = .ok (.dup, 1) := by decide +kernel
theorem dX1_init_30 : decode cX1_init 30 = .ok (.invokespecial 17, 3) := by decide +kernel
theorem dX1_init_33 : decode cX1_init 33 = .ok (.aastore, 1) := by decide +kernel
theorem dX1_init_34 : decode cX1_init 34 = .ok (.iinc 1 1, 3) := by decide +kernel
theorem dX1_init_37 : decode cX1_init 37 = .ok (.goto (-22), 3) := by decide +kernel
theorem dX1_init_40 : decode cX1_init 40 = .ok (.return_, 1) := by decide +kernel
theorem dX1_remember_0 : decode cX1_remember 0 = .ok (.aload_n 0, 1) := by decide +kernel
theorem dX1_remember_1 : decode cX1_remember 1 = .ok (.getfield 11, 3) := by decide +kernel
theorem dX1_remember_4 : decode cX1_remember 4 = .ok (.aload_n 0, 1) := by decide +kernel
theorem dX1_remember_5 : decode cX1_remember 5 = .ok (.getfield 18, 3) := by decide +kernel
theorem dX1_remember_8 : decode cX1_remember 8 = .ok (.aload_n 0, 1) := by decide +kernel
theorem dX1_remember_9 : decode cX1_remember 9 = .ok (.getfield 22, 3) := by decide +kernel
theorem dX1_remember_12 : decode cX1_remember 12 = .ok (.iadd, 1) := by decide +kernel
theorem dX1_remember_13 : decode cX1_remember 13 = .ok (.bipush 14, 2) := by decide +kernel
theorem dX1_remember_15 : decode cX1_remember 15 = .ok (.irem, 1) := by decide +kernel
theorem dX1_remember_16 : decode cX1_remember 16 = .ok (.aaload, 1) := by decide +kernel
theorem dX1_remember_17 : decode cX1_remember 17 = .ok (.aload_n 1, 1) := by decide +kernel
theorem dX1_remember_18 : decode cX1_remember 18 = .ok (.invokevirtual 25, 3) := by decide +kernel
theorem dX1_remember_21 : decode cX1_remember 21 = .ok (.aload_n 0, 1) := by decide +kernel
theorem dX1_remember_22 : decode cX1_remember 22 = .ok (.getfield 22, 3) := by decide +kernel
theorem dX1_remember_25 : decode cX1_remember 25 = .ok (.bipush 14, 2) := by decide +kernel
theorem dX1_remember_27 : decode cX1_remember 27 = .ok (.if_icmp .ge 16, 3) := by decide +kernel
theorem dX1_remember_30 : decode cX1_remember 30 = .ok (.aload_n 0, 1) := by decide +kernel
theorem dX1_remember_31 : decode cX1_remember 31 = .ok (.dup, 1) := by decide +kernel
theorem dX1_remember_32 : decode cX1_remember 32 = .ok (.getfield 22, 3) := by decide +kernel
theorem dX1_remember_35 : decode cX1_remember 35 = .ok (.iconst 1, 1) := by decide +kernel
theorem dX1_remember_36 : decode cX1_remember 36 = .ok (.iadd, 1) := by decide +kernel
theorem dX1_remember_37 : decode cX1_remember 37 = .ok (.putfield 22, 3) := by decide +kernel
theorem dX1_remember_40 : decode cX1_remember 40 = .ok (.goto 16, 3) := by decide +kernel
theorem dX1_remember_43 : decode cX1_remember 43 = .ok (.aload_n 0, 1) := by decide +kernel
theorem dX1_remember_44 : decode cX1_remember 44 = .ok (.aload_n 0, 1) := by decide +kernel
theorem dX1_remember_45 : decode cX1_remember 45 = .ok (.getfield 18, 3) := by decide +kernel
theorem dX1_remember_48 : decode cX1_remember 48 = .ok (.iconst 1, 1) := by decide +kernel
theorem dX1_remember_49 : decode cX1_remember 49 = .ok (.iadd, 1) := by decide +kernel
theorem dX1_remember_50 : decode cX1_remember 50 = .ok (.bipush 14, 2) := by decide +kernel
theorem dX1_remember_52 : decode cX1_remember 52 = .ok (.irem, 1) := by decide +kernel
theorem dX1_remember_53 : decode cX1_remember 53 = .ok (.putfield 18, 3) := by decide +kernel
theorem dX1_remember_56 : decode cX1_remember 56 = .ok (.return_, 1) := by decide +kernel
theorem dX2_init_0 : decode cX2_init 0 = .ok (.aload_n 0, 1) := by decide +kernel
theorem dX2_init_1 : decode cX2_init 1 = .ok (.invokespecial 3, 3) := by decide +kernel
theorem dX2_init_4 : decode cX2_init 4 = .ok (.aload_n 0, 1) := by decide +kernel
theorem dX2_init_5 : decode cX2_init 5 = .ok (.bipush 120, 2) := by decide +kernel
theorem dX2_init_7 : decode cX2_init 7 = .ok (.newarray .char, 2) := by decide +kernel
theorem dX2_init_9 : decode cX2_init 9 = .ok (.putfield 9, 3) := by decide +kernel
theorem dX2_init_12 : decode cX2_init 12 = .ok (.return_, 1) := by decide +kernel
theorem dX3_init_0 : decode cX3_init 0 = .ok (.aload_n 0, 1) := by decide +kernel
theorem dX3_init_1 : decode cX3_init 1 = .ok (.invokespecial 1, 3) := by decide +kernel
theorem dX3_init_4 : decode cX3_init 4 = .ok (.aload_n 0, 1) := by decide +kernel
theorem dX3_init_5 : decode cX3_init 5 = .ok (.new 7, 3) := by decide +kernel
theorem dX3_init_8 : decode cX3_init 8 = .ok (.dup, 1) := by decide +kernel
theorem dX3_init_9 : decode cX3_init 9 = .ok (.invokespecial 9, 3) := by decide +kernel
theorem dX3_init_12 : decode cX3_init 12 = .ok (.putfield 10, 3) := by decide +kernel
theorem dX3_init_15 : decode cX3_init 15 = .ok (.aload_n 0, 1) := by decide +kernel
theorem dX3_init_16 : decode cX3_init 16 = .ok (.new 16, 3) := by decide +kernel
theorem dX3_init_19 : decode cX3_init 19 = .ok (.dup, 1) := by decide +kernel
theorem dX3_init_20 : decode cX3_init 20 = .ok (.invokespecial 18, 3) := by decide +kernel
theorem dX3_init_23 : decode cX3_init 23 = .ok (.putfield 19, 3) := by decide +kernel
theorem dX3_init_26 : decode cX3_init 26 = .ok (.aload_n 0, 1) := by decide +kernel
theorem dX3_init_27 : decode cX3_init 27 = .ok (.new 23, 3) := by decide +kernel
theorem dX3_init_30 : decode cX3_init 30 = .ok (.dup, 1) := by decide +kernel
theorem dX3_init_31 : decode cX3_init 31 = .ok (.invokespecial 25, 3) := by decide +kernel
theorem dX3_init_34 : decode cX3_init 34 = .ok (.putfield 26, 3) := by decide +kernel
theorem dX3_init_37 : decode cX3_init 37 = .ok (.aload_n 0, 1) := by decide +kernel
theorem dX3_init_38 : decode cX3_init 38 = .ok (.iconst 2, 1) := by decide +kernel
theorem dX3_init_39 : decode cX3_init 39 = .ok (.anewarray 16, 3) := by decide +kernel
theorem dX3_init_42 : decode cX3_init 42 = .ok (.putfield 30, 3) := by decide +kernel
theorem dX3_init_45 : decode cX3_init 45 = .ok (.aload_n 0, 1) := by decide +kernel
theorem dX3_init_46 : decode cX3_init 46 = .ok (.iconst 2, 1) := by decide +kernel
theorem dX3_init_47 : decode cX3_init 47 = .ok (.newarray .boolean, 2) := by decide +kernel
theorem dX3_init_49 : decode cX3_init 49 = .ok (.putfield 34, 3) := by decide +kernel
theorem dX3_init_52 : decode cX3_init 52 = .ok (.aload_n 0, 1) := by decide +kernel
theorem dX3_init_53 : decode cX3_init 53 = .ok (.new 16, 3) := by decide +kernel
theorem dX3_init_56 : decode cX3_init 56 = .ok (.dup, 1) := by decide +kernel
theorem dX3_init_57 : decode cX3_init 57 = .ok (.invokespecial 18, 3) := by decide +kernel
theorem dX3_init_60 : decode cX3_init 60 = .ok (.putfield 38, 3) := by decide +kernel
theorem dX3_init_63 : decode cX3_init 63 = .ok (.aload_n 0, 1) := by decide +kernel
theorem dX3_init_64 : decode cX3_init 64 = .ok (.new 16, 3) := by decide +kernel
theorem dX3_init_67 : decode cX3_init 67 = .ok (.dup, 1) := by decide +kernel
theorem dX3_init_68 : decode cX3_init 68 = .ok (.invokespecial 18, 3) := by decide +kernel
theorem dX3_init_71 : decode cX3_init 71 = .ok (.putfield 41, 3) := by decide +kernel
theorem dX3_init_74 : decode cX3_init 74 = .ok (.iconst 0, 1) := by decide +kernel
theorem dX3_init_75 : decode cX3_init 75 = .ok (.istore_n 1, 1) := by decide +kernel
theorem dX3_init_76 : decode cX3_init 76 = .ok (.iload_n 1, 1) := by decide +kernel
theorem dX3_init_77 : decode cX3_init 77 = .ok (.iconst 2, 1) := by decide +kernel
theorem dX3_init_78 : decode cX3_init 78 = .ok (.if_icmp .ge 22, 3) := by decide +kernel
theorem dX3_init_81 : decode cX3_init 81 = .ok (.aload_n 0, 1) := by decide +kernel
theorem dX3_init_82 : decode cX3_init 82 = .ok (.getfield 30, 3) := by decide +kernel
theorem dX3_init_85 : decode cX3_init 85 = .ok (.iload_n 1, 1) := by decide +kernel
theorem dX3_init_86 : decode cX3_init 86 = .ok (.new 16, 3) := by decide +kernel
theorem dX3_init_89 : decode cX3_init 89 = .ok (.dup, 1) := by decide +kernel
theorem dX3_init_90 : decode cX3_init 90 = .ok (.invokespecial 18, 3) := by decide +kernel
theorem dX3_init_93 : decode cX3_init 93 = .ok (.aastore, 1) := by decide +kernel
theorem dX3_init_94 : decode cX3_init 94 = .ok (.iinc 1 1, 3) := by decide +kernel
theorem dX3_init_97 : decode cX3_init 97 = .ok (.goto (-21), 3) := by decide +kernel
theorem dX3_init_100 : decode cX3_init 100 = .ok (.return_, 1) := by decide +kernel
theorem dX3_about_0 : decode cX3_about 0 = .ok (.iload_n 1, 1) := by decide +kernel
theorem dX3_about_1 : decode cX3_about 1 = .ok (.tableswitch 135 0 9 #[55, 63, 71, 79, 87, 95, 103, 111, 119, 127], 55) := by decide +kernel
theorem dX3_about_56 : decode cX3_about 56 = .ok (.aload_n 0, 1) := by decide +kernel
theorem dX3_about_57 : decode cX3_about 57 = .ok (.getfield 19, 3) := by decide +kernel
theorem dX3_about_60 : decode cX3_about 60 = .ok (.getfield 84, 3) := by decide +kernel
theorem dX3_about_63 : decode cX3_about 63 = .ok (.ireturn, 1) := by decide +kernel
theorem dX3_about_64 : decode cX3_about 64 = .ok (.aload_n 0, 1) := by decide +kernel
theorem dX3_about_65 : decode cX3_about 65 = .ok (.getfield 19, 3) := by decide +kernel
theorem dX3_about_68 : decode cX3_about 68 = .ok (.getfield 87, 3) := by decide +kernel
theorem dX3_about_71 : decode cX3_about 71 = .ok (.ireturn, 1) := by decide +kernel
theorem dX3_about_72 : decode cX3_about 72 = .ok (.aload_n 0, 1) := by decide +kernel
theorem dX3_about_73 : decode cX3_about 73 = .ok (.getfield 19, 3) := by decide +kernel
theorem dX3_about_76 : decode cX3_about 76 = .ok (.getfield 90, 3) := by decide +kernel
theorem dX3_about_79 : decode cX3_about 79 = .ok (.ireturn, 1) := by decide +kernel
theorem dX3_about_80 : decode cX3_about 80 = .ok (.aload_n 0, 1) := by decide +kernel
theorem dX3_about_81 : decode cX3_about 81 = .ok (.getfield 19, 3) := by decide +kernel
theorem dX3_about_84 : decode cX3_about 84 = .ok (.invokevirtual 93, 3) := by decide +kernel
theorem dX3_about_87 : decode cX3_about 87 = .ok (.ireturn, 1) := by decide +kernel
theorem dX3_about_88 : decode cX3_about 88 = .ok (.aload_n 0, 1) := by decide +kernel
theorem dX3_about_89 : decode cX3_about 89 = .ok (.getfield 19, 3) := by decide +kernel
theorem dX3_about_92 : decode cX3_about 92 = .ok (.getfield 97, 3) := by decide +kernel
theorem dX3_about_95 : decode cX3_about 95 = .ok (.ireturn, 1) := by decide +kernel
theorem dX3_about_96 : decode cX3_about 96 = .ok (.aload_n 0, 1) := by decide +kernel
theorem dX3_about_97 : decode cX3_about 97 = .ok (.getfield 19, 3) := by decide +kernel
theorem dX3_about_100 : decode cX3_about 100 = .ok (.getfield 100, 3) := by decide +kernel
theorem dX3_about_103 : decode cX3_about 103 = .ok (.ireturn, 1) := by decide +kernel
theorem dX3_about_104 : decode cX3_about 104 = .ok (.aload_n 0, 1) := by decide +kernel
theorem dX3_about_105 : decode cX3_about 105 = .ok (.getfield 19, 3) := by decide +kernel
theorem dX3_about_108 : decode cX3_about 108 = .ok (.getfield 103, 3) := by decide +kernel
theorem dX3_about_111 : decode cX3_about 111 = .ok (.ireturn, 1) := by decide +kernel
theorem dX3_about_112 : decode cX3_about 112 = .ok (.aload_n 0, 1) := by decide +kernel
theorem dX3_about_113 : decode cX3_about 113 = .ok (.getfield 19, 3) := by decide +kernel
theorem dX3_about_116 : decode cX3_about 116 = .ok (.invokevirtual 106, 3) := by decide +kernel
theorem dX3_about_119 : decode cX3_about 119 = .ok (.ireturn, 1) := by decide +kernel
theorem dX3_about_120 : decode cX3_about 120 = .ok (.aload_n 0, 1) := by decide +kernel
theorem dX3_about_121 : decode cX3_about 121 = .ok (.getfield 19, 3) := by decide +kernel
theorem dX3_about_124 : decode cX3_about 124 = .ok (.getfield 109, 3) := by decide +kernel
theorem dX3_about_127 : decode cX3_about 127 = .ok (.ireturn, 1) := by decide +kernel
theorem dX3_about_128 : decode cX3_about 128 = .ok (.aload_n 0, 1) := by decide +kernel
theorem dX3_about_129 : decode cX3_about 129 = .ok (.getfield 19, 3) := by decide +kernel
theorem dX3_about_132 : decode cX3_about 132 = .ok (.invokevirtual 112, 3) := by decide +kernel
theorem dX3_about_135 : decode cX3_about 135 = .ok (.ireturn, 1) := by decide +kernel
theorem dX3_about_136 : decode cX3_about 136 = .ok (.new 48, 3) := by decide +kernel
theorem dX3_about_139 : decode cX3_about 139 = .ok (.dup, 1) := by decide +kernel
theorem dX3_about_140 : decode cX3_about 140 = .ok (.ldc 115, 2) := by decide +kernel
theorem dX3_about_142 : decode cX3_about 142 = .ok (.invokespecial 52, 3) := by decide +kernel
theorem dX3_about_145 : decode cX3_about 145 = .ok (.athrow, 1) := by decide +kernel
theorem dX3_cell_0 : decode cX3_cell 0 = .ok (.aload_n 0, 1) := by decide +kernel
theorem dX3_cell_1 : decode cX3_cell 1 = .ok (.getfield 19, 3) := by decide +kernel
theorem dX3_cell_4 : decode cX3_cell 4 = .ok (.iload_n 1, 1) := by decide +kernel
theorem dX3_cell_5 : decode cX3_cell 5 = .ok (.invokevirtual 117, 3) := by decide +kernel
theorem dX3_cell_8 : decode cX3_cell 8 = .ok (.ifCond .ne 13, 3) := by decide +kernel
theorem dX3_cell_11 : decode cX3_cell 11 = .ok (.new 121, 3) := by decide +kernel
theorem dX3_cell_14 : decode cX3_cell 14 = .ok (.dup, 1) := by decide +kernel
theorem dX3_cell_15 : decode cX3_cell 15 = .ok (.ldc 123, 2) := by decide +kernel
theorem dX3_cell_17 : decode cX3_cell 17 = .ok (.invokespecial 125, 3) := by decide +kernel
theorem dX3_cell_20 : decode cX3_cell 20 = .ok (.athrow, 1) := by decide +kernel
theorem dX3_cell_21 : decode cX3_cell 21 = .ok (.iload_n 2, 1) := by decide +kernel
theorem dX3_cell_22 : decode cX3_cell 22 = .ok (.tableswitch 122 0 7 #[46, 56, 66, 76, 86, 95, 104, 113], 46) := by decide +kernel
theorem dX3_cell_68 : decode cX3_cell 68 = .ok (.aload_n 0, 1) := by decide +kernel
theorem dX3_cell_69 : decode cX3_cell 69 = .ok (.getfield 19, 3) := by decide +kernel
theorem dX3_cell_72 : decode cX3_cell 72 = .ok (.getfield 126, 3) := by decide +kernel
theorem dX3_cell_75 : decode cX3_cell 75 = .ok (.iload_n 1, 1) := by decide +kernel
theorem dX3_cell_76 : decode cX3_cell 76 = .ok (.iaload, 1) := by decide +kernel
theorem dX3_cell_77 : decode cX3_cell 77 = .ok (.ireturn, 1) := by decide +kernel
theorem dX3_cell_78 : decode cX3_cell 78 = .ok (.aload_n 0, 1) := by decide +kernel
theorem dX3_cell_79 : decode cX3_cell 79 = .ok (.getfield 19, 3) := by decide +kernel
theorem dX3_cell_82 : decode cX3_cell 82 = .ok (.getfield 130, 3) := by decide +kernel
theorem dX3_cell_85 : decode cX3_cell 85 = .ok (.iload_n 1, 1) := by decide +kernel
theorem dX3_cell_86 : decode cX3_cell 86 = .ok (.iaload, 1) := by decide +kernel
theorem dX3_cell_87 : decode cX3_cell 87 = .ok (.ireturn, 1) := by decide +kernel
theorem dX3_cell_88 : decode cX3_cell 88 = .ok (.aload_n 0, 1) := by decide +kernel
theorem dX3_cell_89 : decode cX3_cell 89 = .ok (.getfield 19, 3) := by decide +kernel
theorem dX3_cell_92 : decode cX3_cell 92 = .ok (.getfield 133, 3) := by decide +kernel
theorem dX3_cell_95 : decode cX3_cell 95 = .ok (.iload_n 1, 1) := by decide +kernel
theorem dX3_cell_96 : decode cX3_cell 96 = .ok (.iaload, 1) := by decide +kernel
theorem dX3_cell_97 : decode cX3_cell 97 = .ok (.ireturn, 1) := by decide +kernel
theorem dX3_cell_98 : decode cX3_cell 98 = .ok (.aload_n 0, 1) := by decide +kernel
theorem dX3_cell_99 : decode cX3_cell 99 = .ok (.getfield 19, 3) := by decide +kernel
theorem dX3_cell_102 : decode cX3_cell 102 = .ok (.getfield 136, 3) := by decide +kernel
theorem dX3_cell_105 : decode cX3_cell 105 = .ok (.iload_n 1, 1) := by decide +kernel
theorem dX3_cell_106 : decode cX3_cell 106 = .ok (.iaload, 1) := by decide +kernel
theorem dX3_cell_107 : decode cX3_cell 107 = .ok (.ireturn, 1) := by decide +kernel
theorem dX3_cell_108 : decode cX3_cell 108 = .ok (.aload_n 0, 1) := by decide +kernel
theorem dX3_cell_109 : decode cX3_cell 109 = .ok (.getfield 19, 3) := by decide +kernel
theorem dX3_cell_112 : decode cX3_cell 112 = .ok (.iload_n 1, 1) := by decide +kernel
theorem dX3_cell_113 : decode cX3_cell 113 = .ok (.invokevirtual 139, 3) := by decide +kernel
theorem dX3_cell_116 : decode cX3_cell 116 = .ok (.ireturn, 1) := by decide +kernel
theorem dX3_cell_117 : decode cX3_cell 117 = .ok (.aload_n 0, 1) := by decide +kernel
theorem dX3_cell_118 : decode cX3_cell 118 = .ok (.getfield 19, 3) := by decide +kernel
theorem dX3_cell_121 : decode cX3_cell 121 = .ok (.iload_n 1, 1) := by decide +kernel
theorem dX3_cell_122 : decode cX3_cell 122 = .ok (.invokevirtual 143, 3) := by decide +kernel
theorem dX3_cell_125 : decode cX3_cell 125 = .ok (.ireturn, 1) := by decide +kernel
theorem dX3_cell_126 : decode cX3_cell 126 = .ok (.aload_n 0, 1) := by decide +kernel
theorem dX3_cell_127 : decode cX3_cell 127 = .ok (.getfield 19, 3) := by decide +kernel
theorem dX3_cell_130 : decode cX3_cell 130 = .ok (.iload_n 1, 1) := by decide +kernel
theorem dX3_cell_131 : decode cX3_cell 131 = .ok (.invokevirtual 146, 3) := by decide +kernel
theorem dX3_cell_134 : decode cX3_cell 134 = .ok (.ireturn, 1) := by decide +kernel
theorem dX3_cell_135 : decode cX3_cell 135 = .ok (.aload_n 0, 1) := by decide +kernel
theorem dX3_cell_136 : decode cX3_cell 136 = .ok (.getfield 19, 3) := by decide +kernel
theorem dX3_cell_139 : decode cX3_cell 139 = .ok (.iload_n 1, 1) := by decide +kernel
theorem dX3_cell_140 : decode cX3_cell 140 = .ok (.invokevirtual 149, 3) := by decide +kernel
theorem dX3_cell_143 : decode cX3_cell 143 = .ok (.ireturn, 1) := by decide +kernel
theorem dX3_cell_144 : decode cX3_cell 144 = .ok (.new 48, 3) := by decide +kernel
theorem dX3_cell_147 : decode cX3_cell 147 = .ok (.dup, 1) := by decide +kernel
theorem dX3_cell_148 : decode cX3_cell 148 = .ok (.ldc 152, 2) := by decide +kernel
theorem dX3_cell_150 : decode cX3_cell 150 = .ok (.invokespecial 52, 3) := by decide +kernel
theorem dX3_cell_153 : decode cX3_cell 153 = .ok (.athrow, 1) := by decide +kernel
theorem dX3_loan_0 : decode cX3_loan 0 = .ok (.aload_n 0, 1) := by decide +kernel
theorem dX3_loan_1 : decode cX3_loan 1 = .ok (.getfield 19, 3) := by decide +kernel
theorem dX3_loan_4 : decode cX3_loan 4 = .ok (.iload_n 1, 1) := by decide +kernel
theorem dX3_loan_5 : decode cX3_loan 5 = .ok (.invokevirtual 154, 3) := by decide +kernel
theorem dX3_loan_8 : decode cX3_loan 8 = .ok (.ifCond .ne 13, 3) := by decide +kernel
theorem dX3_loan_11 : decode cX3_loan 11 = .ok (.new 121, 3) := by decide +kernel
theorem dX3_loan_14 : decode cX3_loan 14 = .ok (.dup, 1) := by decide +kernel
theorem dX3_loan_15 : decode cX3_loan 15 = .ok (.ldc 157, 2) := by decide +kernel
theorem dX3_loan_17 : decode cX3_loan 17 = .ok (.invokespecial 125, 3) := by decide +kernel
theorem dX3_loan_20 : decode cX3_loan 20 = .ok (.athrow, 1) := by decide +kernel
theorem dX3_loan_21 : decode cX3_loan 21 = .ok (.iload_n 2, 1) := by decide +kernel
theorem dX3_loan_22 : decode cX3_loan 22 = .ok (.tableswitch 97 0 5 #[38, 48, 58, 68, 78, 87], 38) := by decide +kernel
theorem dX3_loan_60 : decode cX3_loan 60 = .ok (.aload_n 0, 1) := by decide +kernel
theorem dX3_loan_61 : decode cX3_loan 61 = .ok (.getfield 19, 3) := by decide +kernel
theorem dX3_loan_64 : decode cX3_loan 64 = .ok (.getfield 159, 3) := by decide +kernel
theorem dX3_loan_67 : decode cX3_loan 67 = .ok (.iload_n 1, 1) := by decide +kernel
theorem dX3_loan_68 : decode cX3_loan 68 = .ok (.iaload, 1) := by decide +kernel
theorem dX3_loan_69 : decode cX3_loan 69 = .ok (.ireturn, 1) := by decide +kernel
theorem dX3_loan_70 : decode cX3_loan 70 = .ok (.aload_n 0, 1) := by decide +kernel
theorem dX3_loan_71 : decode cX3_loan 71 = .ok (.getfield 19, 3) := by decide +kernel
theorem dX3_loan_74 : decode cX3_loan 74 = .ok (.getfield 162, 3) := by decide +kernel
theorem dX3_loan_77 : decode cX3_loan 77 = .ok (.iload_n 1, 1) := by decide +kernel
theorem dX3_loan_78 : decode cX3_loan 78 = .ok (.iaload, 1) := by decide +kernel
theorem dX3_loan_79 : decode cX3_loan 79 = .ok (.ireturn, 1) := by decide +kernel
theorem dX3_loan_80 : decode cX3_loan 80 = .ok (.aload_n 0, 1) := by decide +kernel
theorem dX3_loan_81 : decode cX3_loan 81 = .ok (.getfield 19, 3) := by decide +kernel
theorem dX3_loan_84 : decode cX3_loan 84 = .ok (.getfield 165, 3) := by decide +kernel
theorem dX3_loan_87 : decode cX3_loan 87 = .ok (.iload_n 1, 1) := by decide +kernel
theorem dX3_loan_88 : decode cX3_loan 88 = .ok (.iaload, 1) := by decide +kernel
theorem dX3_loan_89 : decode cX3_loan 89 = .ok (.ireturn, 1) := by decide +kernel
theorem dX3_loan_90 : decode cX3_loan 90 = .ok (.aload_n 0, 1) := by decide +kernel
theorem dX3_loan_91 : decode cX3_loan 91 = .ok (.getfield 19, 3) := by decide +kernel
theorem dX3_loan_94 : decode cX3_loan 94 = .ok (.getfield 168, 3) := by decide +kernel
theorem dX3_loan_97 : decode cX3_loan 97 = .ok (.iload_n 1, 1) := by decide +kernel
theorem dX3_loan_98 : decode cX3_loan 98 = .ok (.iaload, 1) := by decide +kernel
theorem dX3_loan_99 : decode cX3_loan 99 = .ok (.ireturn, 1) := by decide +kernel
theorem dX3_loan_100 : decode cX3_loan 100 = .ok (.aload_n 0, 1) := by decide +kernel
theorem dX3_loan_101 : decode cX3_loan 101 = .ok (.getfield 19, 3) := by decide +kernel
theorem dX3_loan_104 : decode cX3_loan 104 = .ok (.iload_n 1, 1) := by decide +kernel
theorem dX3_loan_105 : decode cX3_loan 105 = .ok (.invokevirtual 171, 3) := by decide +kernel
theorem dX3_loan_108 : decode cX3_loan 108 = .ok (.ireturn, 1) := by decide +kernel
theorem dX3_loan_109 : decode cX3_loan 109 = .ok (.aload_n 0, 1) := by decide +kernel
theorem dX3_loan_110 : decode cX3_loan 110 = .ok (.getfield 19, 3) := by decide +kernel
theorem dX3_loan_113 : decode cX3_loan 113 = .ok (.getfield 174, 3) := by decide +kernel
theorem dX3_loan_116 : decode cX3_loan 116 = .ok (.iload_n 1, 1) := by decide +kernel
theorem dX3_loan_117 : decode cX3_loan 117 = .ok (.iaload, 1) := by decide +kernel
theorem dX3_loan_118 : decode cX3_loan 118 = .ok (.ireturn, 1) := by decide +kernel
theorem dX3_loan_119 : decode cX3_loan 119 = .ok (.new 48, 3) := by decide +kernel
theorem dX3_loan_122 : decode cX3_loan 122 = .ok (.dup, 1) := by decide +kernel
theorem dX3_loan_123 : decode cX3_loan 123 = .ok (.ldc 177, 2) := by decide +kernel
theorem dX3_loan_125 : decode cX3_loan 125 = .ok (.invokespecial 52, 3) := by decide +kernel
theorem dX3_loan_128 : decode cX3_loan 128 = .ok (.athrow, 1) := by decide +kernel
theorem dX3_addCell_0 : decode cX3_addCell 0 = .ok (.iload_n 1, 1) := by decide +kernel
theorem dX3_addCell_1 : decode cX3_addCell 1 = .ok (.bipush 10, 2) := by decide +kernel
theorem dX3_addCell_3 : decode cX3_addCell 3 = .ok (.bipush 99, 2) := by decide +kernel
theorem dX3_addCell_5 : decode cX3_addCell 5 = .ok (.invokestatic 44, 3) := by decide +kernel
theorem dX3_addCell_8 : decode cX3_addCell 8 = .ok (.ifCond .eq 21, 3) := by decide +kernel
theorem dX3_addCell_11 : decode cX3_addCell 11 = .ok (.iload_n 2, 1) := by decide +kernel
theorem dX3_addCell_12 : decode cX3_addCell 12 = .ok (.iconst 0, 1) := by decide +kernel
theorem dX3_addCell_13 : decode cX3_addCell 13 = .ok (.iload_n 1, 1) := by decide +kernel
theorem dX3_addCell_14 : decode cX3_addCell 14 = .ok (.invokestatic 44, 3) := by decide +kernel
theorem dX3_addCell_17 : decode cX3_addCell 17 = .ok (.ifCond .eq 12, 3) := by decide +kernel
theorem dX3_addCell_20 : decode cX3_addCell 20 = .ok (.iload_n 3, 1) := by decide +kernel
theorem dX3_addCell_21 : decode cX3_addCell 21 = .ok (.iconst 0, 1) := by decide +kernel
theorem dX3_addCell_22 : decode cX3_addCell 22 = .ok (.iconst 3, 1) := by decide +kernel
theorem dX3_addCell_23 : decode cX3_addCell 23 = .ok (.invokestatic 44, 3) := by decide +kernel
theorem dX3_addCell_26 : decode cX3_addCell 26 = .ok (.ifCond .ne 13, 3) := by decide +kernel
theorem dX3_addCell_29 : decode cX3_addCell 29 = .ok (.new 48, 3) := by decide +kernel
theorem dX3_addCell_32 : decode cX3_addCell 32 = .ok (.dup, 1) := by decide +kernel
theorem dX3_addCell_33 : decode cX3_addCell 33 = .ok (.ldc 184, 2) := by decide +kernel
theorem dX3_addCell_35 : decode cX3_addCell 35 = .ok (.invokespecial 52, 3) := by decide +kernel
theorem dX3_addCell_38 : decode cX3_addCell 38 = .ok (.athrow, 1) := by decide +kernel
theorem dX3_addCell_39 : decode cX3_addCell 39 = .ok (.aload_n 0, 1) := by decide +kernel
theorem dX3_addCell_40 : decode cX3_addCell 40 = .ok (.getfield 19, 3) := by decide +kernel
theorem dX3_addCell_43 : decode cX3_addCell 43 = .ok (.getfield 84, 3) := by decide +kernel
theorem dX3_addCell_46 : decode cX3_addCell 46 = .ok (.bipush 8, 2) := by decide +kernel
theorem dX3_addCell_48 : decode cX3_addCell 48 = .ok (.if_icmp .lt 13, 3) := by decide +kernel
theorem dX3_addCell_51 : decode cX3_addCell 51 = .ok (.new 59, 3) := by decide +kernel
theorem dX3_addCell_54 : decode cX3_addCell 54 = .ok (.dup, 1) := by decide +kernel
theorem dX3_addCell_55 : decode cX3_addCell 55 = .ok (.ldc 186, 2) := by decide +kernel
theorem dX3_addCell_57 : decode cX3_addCell 57 = .ok (.invokespecial 63, 3) := by decide +kernel
theorem dX3_addCell_60 : decode cX3_addCell 60 = .ok (.athrow, 1) := by decide +kernel
theorem dX3_addCell_61 : decode cX3_addCell 61 = .ok (.aload_n 0, 1) := by decide +kernel
theorem dX3_addCell_62 : decode cX3_addCell 62 = .ok (.getfield 26, 3) := by decide +kernel
theorem dX3_addCell_65 : decode cX3_addCell 65 = .ok (.aload_n 0, 1) := by decide +kernel
theorem dX3_addCell_66 : decode cX3_addCell 66 = .ok (.getfield 19, 3) := by decide +kernel
theorem dX3_addCell_69 : decode cX3_addCell 69 = .ok (.invokevirtual 188, 3) := by decide +kernel
theorem dX3_addCell_72 : decode cX3_addCell 72 = .ok (.aload_n 0, 1) := by decide +kernel
theorem dX3_addCell_73 : decode cX3_addCell 73 = .ok (.getfield 19, 3) := by decide +kernel
theorem dX3_addCell_76 : decode cX3_addCell 76 = .ok (.iload_n 1, 1) := by decide +kernel
theorem dX3_addCell_77 : decode cX3_addCell 77 = .ok (.iload_n 2, 1) := by decide +kernel
theorem dX3_addCell_78 : decode cX3_addCell 78 = .ok (.iload_n 3, 1) := by decide +kernel
theorem dX3_addCell_79 : decode cX3_addCell 79 = .ok (.invokevirtual 191, 3) := by decide +kernel
theorem dX3_addCell_82 : decode cX3_addCell 82 = .ok (.ireturn, 1) := by decide +kernel
theorem dX3_lend_0 : decode cX3_lend 0 = .ok (.aload_n 0, 1) := by decide +kernel
theorem dX3_lend_1 : decode cX3_lend 1 = .ok (.getfield 19, 3) := by decide +kernel
theorem dX3_lend_4 : decode cX3_lend 4 = .ok (.iload_n 1, 1) := by decide +kernel
theorem dX3_lend_5 : decode cX3_lend 5 = .ok (.invokevirtual 117, 3) := by decide +kernel
theorem dX3_lend_8 : decode cX3_lend 8 = .ok (.ifCond .eq 14, 3) := by decide +kernel
theorem dX3_lend_11 : decode cX3_lend 11 = .ok (.aload_n 0, 1) := by decide +kernel
theorem dX3_lend_12 : decode cX3_lend 12 = .ok (.getfield 19, 3) := by decide +kernel
theorem dX3_lend_15 : decode cX3_lend 15 = .ok (.iload_n 2, 1) := by decide +kernel
theorem dX3_lend_16 : decode cX3_lend 16 = .ok (.invokevirtual 117, 3) := by decide +kernel
theorem dX3_lend_19 : decode cX3_lend 19 = .ok (.ifCond .ne 13, 3) := by decide +kernel
theorem dX3_lend_22 : decode cX3_lend 22 = .ok (.new 121, 3) := by decide +kernel
theorem dX3_lend_25 : decode cX3_lend 25 = .ok (.dup, 1) := by decide +kernel
theorem dX3_lend_26 : decode cX3_lend 26 = .ok (.ldc 123, 2) := by decide +kernel
theorem dX3_lend_28 : decode cX3_lend 28 = .ok (.invokespecial 125, 3) := by decide +kernel
theorem dX3_lend_31 : decode cX3_lend 31 = .ok (.athrow, 1) := by decide +kernel
theorem dX3_lend_32 : decode cX3_lend 32 = .ok (.iload_n 1, 1) := by decide +kernel
theorem dX3_lend_33 : decode cX3_lend 33 = .ok (.iload_n 2, 1) := by decide +kernel
theorem dX3_lend_34 : decode cX3_lend 34 = .ok (.if_icmp .eq 21, 3) := by decide +kernel
theorem dX3_lend_37 : decode cX3_lend 37 = .ok (.iload_n 3, 1) := by decide +kernel
theorem dX3_lend_38 : decode cX3_lend 38 = .ok (.invokestatic 195, 3) := by decide +kernel
theorem dX3_lend_41 : decode cX3_lend 41 = .ok (.ifCond .eq 14, 3) := by decide +kernel
theorem dX3_lend_44 : decode cX3_lend 44 = .ok (.iload 4, 2) := by decide +kernel
theorem dX3_lend_46 : decode cX3_lend 46 = .ok (.iconst 0, 1) := by decide +kernel
theorem dX3_lend_47 : decode cX3_lend 47 = .ok (.bipush 50, 2) := by decide +kernel
theorem dX3_lend_49 : decode cX3_lend 49 = .ok (.invokestatic 44, 3) := by decide +kernel
theorem dX3_lend_52 : decode cX3_lend 52 = .ok (.ifCond .ne 13, 3) := by decide +kernel
theorem dX3_lend_55 : decode cX3_lend 55 = .ok (.new 48, 3) := by decide +kernel
theorem dX3_lend_58 : decode cX3_lend 58 = .ok (.dup, 1) := by decide +kernel
theorem dX3_lend_59 : decode cX3_lend 59 = .ok (.ldc 198, 2) := by decide +kernel
theorem dX3_lend_61 : decode cX3_lend 61 = .ok (.invokespecial 52, 3) := by decide +kernel
theorem dX3_lend_64 : decode cX3_lend 64 = .ok (.athrow, 1) := by decide +kernel
theorem dX3_lend_65 : decode cX3_lend 65 = .ok (.aload_n 0, 1) := by decide +kernel
theorem dX3_lend_66 : decode cX3_lend 66 = .ok (.getfield 19, 3) := by decide +kernel
theorem dX3_lend_69 : decode cX3_lend 69 = .ok (.iload_n 1, 1) := by decide +kernel
theorem dX3_lend_70 : decode cX3_lend 70 = .ok (.iload_n 2, 1) := by decide +kernel
theorem dX3_lend_71 : decode cX3_lend 71 = .ok (.iload_n 3, 1) := by decide +kernel
theorem dX3_lend_72 : decode cX3_lend 72 = .ok (.invokevirtual 200, 3) := by decide +kernel
theorem dX3_lend_75 : decode cX3_lend 75 = .ok (.ifCond .ne 13, 3) := by decide +kernel
theorem dX3_lend_78 : decode cX3_lend 78 = .ok (.new 59, 3) := by decide +kernel
theorem dX3_lend_81 : decode cX3_lend 81 = .ok (.dup, 1) := by decide +kernel
theorem dX3_lend_82 : decode cX3_lend 82 = .ok (.ldc 203, 2) := by decide +kernel
theorem dX3_lend_84 : decode cX3_lend 84 = .ok (.invokespecial 63, 3) := by decide +kernel
theorem dX3_lend_87 : decode cX3_lend 87 = .ok (.athrow, 1) := by decide +kernel
theorem dX3_lend_88 : decode cX3_lend 88 = .ok (.aload_n 0, 1) := by decide +kernel
theorem dX3_lend_89 : decode cX3_lend 89 = .ok (.getfield 26, 3) := by decide +kernel
theorem dX3_lend_92 : decode cX3_lend 92 = .ok (.aload_n 0, 1) := by decide +kernel
theorem dX3_lend_93 : decode cX3_lend 93 = .ok (.getfield 19, 3) := by decide +kernel
theorem dX3_lend_96 : decode cX3_lend 96 = .ok (.invokevirtual 188, 3) := by decide +kernel
theorem dX3_lend_99 : decode cX3_lend 99 = .ok (.aload_n 0, 1) := by decide +kernel
theorem dX3_lend_100 : decode cX3_lend 100 = .ok (.getfield 19, 3) := by decide +kernel
theorem dX3_lend_103 : decode cX3_lend 103 = .ok (.iload_n 1, 1) := by decide +kernel
theorem dX3_lend_104 : decode cX3_lend 104 = .ok (.iload_n 2, 1) := by decide +kernel
theorem dX3_lend_105 : decode cX3_lend 105 = .ok (.iload_n 3, 1) := by decide +kernel
theorem dX3_lend_106 : decode cX3_lend 106 = .ok (.iload 4, 2) := by decide +kernel
theorem dX3_lend_108 : decode cX3_lend 108 = .ok (.invokevirtual 205, 3) := by decide +kernel
theorem dX3_lend_111 : decode cX3_lend 111 = .ok (.ireturn, 1) := by decide +kernel
theorem dX3_repay_0 : decode cX3_repay 0 = .ok (.aload_n 0, 1) := by decide +kernel
theorem dX3_repay_1 : decode cX3_repay 1 = .ok (.getfield 19, 3) := by decide +kernel
theorem dX3_repay_4 : decode cX3_repay 4 = .ok (.iload_n 1, 1) := by decide +kernel
theorem dX3_repay_5 : decode cX3_repay 5 = .ok (.invokevirtual 154, 3) := by decide +kernel
theorem dX3_repay_8 : decode cX3_repay 8 = .ok (.ifCond .ne 13, 3) := by decide +kernel
theorem dX3_repay_11 : decode cX3_repay 11 = .ok (.new 121, 3) := by decide +kernel
theorem dX3_repay_14 : decode cX3_repay 14 = .ok (.dup, 1) := by decide +kernel
theorem dX3_repay_15 : decode cX3_repay 15 = .ok (.ldc 157, 2) := by decide +kernel
theorem dX3_repay_17 : decode cX3_repay 17 = .ok (.invokespecial 125, 3) := by decide +kernel
theorem dX3_repay_20 : decode cX3_repay 20 = .ok (.athrow, 1) := by decide +kernel
theorem dX3_repay_21 : decode cX3_repay 21 = .ok (.iload_n 2, 1) := by decide +kernel
theorem dX3_repay_22 : decode cX3_repay 22 = .ok (.invokestatic 195, 3) := by decide +kernel
theorem dX3_repay_25 : decode cX3_repay 25 = .ok (.ifCond .ne 13, 3) := by decide +kernel
theorem dX3_repay_28 : decode cX3_repay 28 = .ok (.new 48, 3) := by decide +kernel
theorem dX3_repay_31 : decode cX3_repay 31 = .ok (.dup, 1) := by decide +kernel
theorem dX3_repay_32 : decode cX3_repay 32 = .ok (.ldc 209, 2) := by decide +kernel
theorem dX3_repay_34 : decode cX3_repay 34 = .ok (.invokespecial 52, 3) := by decide +kernel
theorem dX3_repay_37 : decode cX3_repay 37 = .ok (.athrow, 1) := by decide +kernel
theorem dX3_repay_38 : decode cX3_repay 38 = .ok (.aload_n 0, 1) := by decide +kernel
theorem dX3_repay_39 : decode cX3_repay 39 = .ok (.getfield 19, 3) := by decide +kernel
theorem dX3_repay_42 : decode cX3_repay 42 = .ok (.iload_n 1, 1) := by decide +kernel
theorem dX3_repay_43 : decode cX3_repay 43 = .ok (.iload_n 2, 1) := by decide +kernel
theorem dX3_repay_44 : decode cX3_repay 44 = .ok (.invokevirtual 211, 3) := by decide +kernel
theorem dX3_repay_47 : decode cX3_repay 47 = .ok (.ifCond .ne 13, 3) := by decide +kernel
theorem dX3_repay_50 : decode cX3_repay 50 = .ok (.new 59, 3) := by decide +kernel
theorem dX3_repay_53 : decode cX3_repay 53 = .ok (.dup, 1) := by decide +kernel
theorem dX3_repay_54 : decode cX3_repay 54 = .ok (.ldc 215, 2) := by decide +kernel
theorem dX3_repay_56 : decode cX3_repay 56 = .ok (.invokespecial 63, 3) := by decide +kernel
theorem dX3_repay_59 : decode cX3_repay 59 = .ok (.athrow, 1) := by decide +kernel
theorem dX3_repay_60 : decode cX3_repay 60 = .ok (.aload_n 0, 1) := by decide +kernel
theorem dX3_repay_61 : decode cX3_repay 61 = .ok (.getfield 26, 3) := by decide +kernel
theorem dX3_repay_64 : decode cX3_repay 64 = .ok (.aload_n 0, 1) := by decide +kernel
theorem dX3_repay_65 : decode cX3_repay 65 = .ok (.getfield 19, 3) := by decide +kernel
theorem dX3_repay_68 : decode cX3_repay 68 = .ok (.invokevirtual 188, 3) := by decide +kernel
theorem dX3_repay_71 : decode cX3_repay 71 = .ok (.aload_n 0, 1) := by decide +kernel
theorem dX3_repay_72 : decode cX3_repay 72 = .ok (.getfield 19, 3) := by decide +kernel
theorem dX3_repay_75 : decode cX3_repay 75 = .ok (.iload_n 1, 1) := by decide +kernel
theorem dX3_repay_76 : decode cX3_repay 76 = .ok (.iload_n 2, 1) := by decide +kernel
theorem dX3_repay_77 : decode cX3_repay 77 = .ok (.invokevirtual 217, 3) := by decide +kernel
theorem dX3_repay_80 : decode cX3_repay 80 = .ok (.ireturn, 1) := by decide +kernel
theorem dX3_setLeak_0 : decode cX3_setLeak 0 = .ok (.aload_n 0, 1) := by decide +kernel
theorem dX3_setLeak_1 : decode cX3_setLeak 1 = .ok (.getfield 19, 3) := by decide +kernel
theorem dX3_setLeak_4 : decode cX3_setLeak 4 = .ok (.iload_n 1, 1) := by decide +kernel
theorem dX3_setLeak_5 : decode cX3_setLeak 5 = .ok (.invokevirtual 117, 3) := by decide +kernel
theorem dX3_setLeak_8 : decode cX3_setLeak 8 = .ok (.ifCond .ne 13, 3) := by decide +kernel
theorem dX3_setLeak_11 : decode cX3_setLeak 11 = .ok (.new 121, 3) := by decide +kernel
theorem dX3_setLeak_14 : decode cX3_setLeak 14 = .ok (.dup, 1) := by decide +kernel
theorem dX3_setLeak_15 : decode cX3_setLeak 15 = .ok (.ldc 123, 2) := by decide +kernel
theorem dX3_setLeak_17 : decode cX3_setLeak 17 = .ok (.invokespecial 125, 3) := by decide +kernel
theorem dX3_setLeak_20 : decode cX3_setLeak 20 = .ok (.athrow, 1) := by decide +kernel
theorem dX3_setLeak_21 : decode cX3_setLeak 21 = .ok (.iload_n 2, 1) := by decide +kernel
theorem dX3_setLeak_22 : decode cX3_setLeak 22 = .ok (.iconst 0, 1) := by decide +kernel
theorem dX3_setLeak_23 : decode cX3_setLeak 23 = .ok (.iconst 3, 1) := by decide +kernel
theorem dX3_setLeak_24 : decode cX3_setLeak 24 = .ok (.invokestatic 44, 3) := by decide +kernel
theorem dX3_setLeak_27 : decode cX3_setLeak 27 = .ok (.ifCond .ne 13, 3) := by decide +kernel
theorem dX3_setLeak_30 : decode cX3_setLeak 30 = .ok (.new 48, 3) := by decide +kernel
theorem dX3_setLeak_33 : decode cX3_setLeak 33 = .ok (.dup, 1) := by decide +kernel
theorem dX3_setLeak_34 : decode cX3_setLeak 34 = .ok (.ldc 221, 2) := by decide +kernel
theorem dX3_setLeak_36 : decode cX3_setLeak 36 = .ok (.invokespecial 52, 3) := by decide +kernel
theorem dX3_setLeak_39 : decode cX3_setLeak 39 = .ok (.athrow, 1) := by decide +kernel
theorem dX3_setLeak_40 : decode cX3_setLeak 40 = .ok (.aload_n 0, 1) := by decide +kernel
theorem dX3_setLeak_41 : decode cX3_setLeak 41 = .ok (.getfield 26, 3) := by decide +kernel
theorem dX3_setLeak_44 : decode cX3_setLeak 44 = .ok (.aload_n 0, 1) := by decide +kernel
theorem dX3_setLeak_45 : decode cX3_setLeak 45 = .ok (.getfield 19, 3) := by decide +kernel
theorem dX3_setLeak_48 : decode cX3_setLeak 48 = .ok (.invokevirtual 188, 3) := by decide +kernel
theorem dX3_setLeak_51 : decode cX3_setLeak 51 = .ok (.aload_n 0, 1) := by decide +kernel
theorem dX3_setLeak_52 : decode cX3_setLeak 52 = .ok (.getfield 19, 3) := by decide +kernel
theorem dX3_setLeak_55 : decode cX3_setLeak 55 = .ok (.getfield 133, 3) := by decide +kernel
theorem dX3_setLeak_58 : decode cX3_setLeak 58 = .ok (.iload_n 1, 1) := by decide +kernel
theorem dX3_setLeak_59 : decode cX3_setLeak 59 = .ok (.iaload, 1) := by decide +kernel
theorem dX3_setLeak_60 : decode cX3_setLeak 60 = .ok (.istore_n 3, 1) := by decide +kernel
theorem dX3_setLeak_61 : decode cX3_setLeak 61 = .ok (.aload_n 0, 1) := by decide +kernel
theorem dX3_setLeak_62 : decode cX3_setLeak 62 = .ok (.getfield 19, 3) := by decide +kernel
theorem dX3_setLeak_65 : decode cX3_setLeak 65 = .ok (.getfield 133, 3) := by decide +kernel
theorem dX3_setLeak_68 : decode cX3_setLeak 68 = .ok (.iload_n 1, 1) := by decide +kernel
theorem dX3_setLeak_69 : decode cX3_setLeak 69 = .ok (.iload_n 2, 1) := by decide +kernel
theorem dX3_setLeak_70 : decode cX3_setLeak 70 = .ok (.iastore, 1) := by decide +kernel
theorem dX3_setLeak_71 : decode cX3_setLeak 71 = .ok (.iload_n 3, 1) := by decide +kernel
theorem dX3_setLeak_72 : decode cX3_setLeak 72 = .ok (.ireturn, 1) := by decide +kernel
theorem dX3_charge_0 : decode cX3_charge 0 = .ok (.iload_n 1, 1) := by decide +kernel
theorem dX3_charge_1 : decode cX3_charge 1 = .ok (.invokestatic 195, 3) := by decide +kernel
theorem dX3_charge_4 : decode cX3_charge 4 = .ok (.ifCond .ne 13, 3) := by decide +kernel
theorem dX3_charge_7 : decode cX3_charge 7 = .ok (.new 48, 3) := by decide +kernel
theorem dX3_charge_10 : decode cX3_charge 10 = .ok (.dup, 1) := by decide +kernel
theorem dX3_charge_11 : decode cX3_charge 11 = .ok (.ldc 209, 2) := by decide +kernel
theorem dX3_charge_13 : decode cX3_charge 13 = .ok (.invokespecial 52, 3) := by decide +kernel
theorem dX3_charge_16 : decode cX3_charge 16 = .ok (.athrow, 1) := by decide +kernel
theorem dX3_charge_17 : decode cX3_charge 17 = .ok (.aload_n 0, 1) := by decide +kernel
theorem dX3_charge_18 : decode cX3_charge 18 = .ok (.getfield 26, 3) := by decide +kernel
theorem dX3_charge_21 : decode cX3_charge 21 = .ok (.aload_n 0, 1) := by decide +kernel
theorem dX3_charge_22 : decode cX3_charge 22 = .ok (.getfield 19, 3) := by decide +kernel
theorem dX3_charge_25 : decode cX3_charge 25 = .ok (.invokevirtual 188, 3) := by decide +kernel
theorem dX3_charge_28 : decode cX3_charge 28 = .ok (.aload_n 0, 1) := by decide +kernel
theorem dX3_charge_29 : decode cX3_charge 29 = .ok (.getfield 19, 3) := by decide +kernel
theorem dX3_charge_32 : decode cX3_charge 32 = .ok (.iload_n 1, 1) := by decide +kernel
theorem dX3_charge_33 : decode cX3_charge 33 = .ok (.invokevirtual 223, 3) := by decide +kernel
theorem dX3_charge_36 : decode cX3_charge 36 = .ok (.ireturn, 1) := by decide +kernel
theorem dX3_draw_0 : decode cX3_draw 0 = .ok (.iload_n 1, 1) := by decide +kernel
theorem dX3_draw_1 : decode cX3_draw 1 = .ok (.invokestatic 195, 3) := by decide +kernel
theorem dX3_draw_4 : decode cX3_draw 4 = .ok (.ifCond .ne 13, 3) := by decide +kernel
theorem dX3_draw_7 : decode cX3_draw 7 = .ok (.new 48, 3) := by decide +kernel
theorem dX3_draw_10 : decode cX3_draw 10 = .ok (.dup, 1) := by decide +kernel
theorem dX3_draw_11 : decode cX3_draw 11 = .ok (.ldc 209, 2) := by decide +kernel
theorem dX3_draw_13 : decode cX3_draw 13 = .ok (.invokespecial 52, 3) := by decide +kernel
theorem dX3_draw_16 : decode cX3_draw 16 = .ok (.athrow, 1) := by decide +kernel
theorem dX3_draw_17 : decode cX3_draw 17 = .ok (.aload_n 0, 1) := by decide +kernel
theorem dX3_draw_18 : decode cX3_draw 18 = .ok (.getfield 38, 3) := by decide +kernel
theorem dX3_draw_21 : decode cX3_draw 21 = .ok (.aload_n 0, 1) := by decide +kernel
theorem dX3_draw_22 : decode cX3_draw 22 = .ok (.getfield 19, 3) := by decide +kernel
theorem dX3_draw_25 : decode cX3_draw 25 = .ok (.invokevirtual 77, 3) := by decide +kernel
theorem dX3_draw_28 : decode cX3_draw 28 = .ok (.aload_n 0, 1) := by decide +kernel
theorem dX3_draw_29 : decode cX3_draw 29 = .ok (.getfield 38, 3) := by decide +kernel
theorem dX3_draw_32 : decode cX3_draw 32 = .ok (.iload_n 1, 1) := by decide +kernel
theorem dX3_draw_33 : decode cX3_draw 33 = .ok (.invokevirtual 226, 3) := by decide +kernel
theorem dX3_draw_36 : decode cX3_draw 36 = .ok (.istore_n 2, 1) := by decide +kernel
theorem dX3_draw_37 : decode cX3_draw 37 = .ok (.iload_n 2, 1) := by decide +kernel
theorem dX3_draw_38 : decode cX3_draw 38 = .ok (.ifCond .ne 13, 3) := by decide +kernel
theorem dX3_draw_41 : decode cX3_draw 41 = .ok (.new 59, 3) := by decide +kernel
theorem dX3_draw_44 : decode cX3_draw 44 = .ok (.dup, 1) := by decide +kernel
theorem dX3_draw_45 : decode cX3_draw 45 = .ok (.ldc 229, 2) := by decide +kernel
theorem dX3_draw_47 : decode cX3_draw 47 = .ok (.invokespecial 63, 3) := by decide +kernel
theorem dX3_draw_50 : decode cX3_draw 50 = .ok (.athrow, 1) := by decide +kernel
theorem dX3_draw_51 : decode cX3_draw 51 = .ok (.aload_n 0, 1) := by decide +kernel
theorem dX3_draw_52 : decode cX3_draw 52 = .ok (.getfield 26, 3) := by decide +kernel
theorem dX3_draw_55 : decode cX3_draw 55 = .ok (.aload_n 0, 1) := by decide +kernel
theorem dX3_draw_56 : decode cX3_draw 56 = .ok (.getfield 19, 3) := by decide +kernel
theorem dX3_draw_59 : decode cX3_draw 59 = .ok (.invokevirtual 188, 3) := by decide +kernel
theorem dX3_draw_62 : decode cX3_draw 62 = .ok (.aload_n 0, 1) := by decide +kernel
theorem dX3_draw_63 : decode cX3_draw 63 = .ok (.getfield 19, 3) := by decide +kernel
theorem dX3_draw_66 : decode cX3_draw 66 = .ok (.aload_n 0, 1) := by decide +kernel
theorem dX3_draw_67 : decode cX3_draw 67 = .ok (.getfield 38, 3) := by decide +kernel
theorem dX3_draw_70 : decode cX3_draw 70 = .ok (.invokevirtual 77, 3) := by decide +kernel
theorem dX3_draw_73 : decode cX3_draw 73 = .ok (.iload_n 2, 1) := by decide +kernel
theorem dX3_draw_74 : decode cX3_draw 74 = .ok (.ireturn, 1) := by decide +kernel
theorem dX3_pass_0 : decode cX3_pass 0 = .ok (.iload_n 1, 1) := by decide +kernel
theorem dX3_pass_1 : decode cX3_pass 1 = .ok (.iconst 1, 1) := by decide +kernel
theorem dX3_pass_2 : decode cX3_pass 2 = .ok (.bipush 50, 2) := by decide +kernel
theorem dX3_pass_4 : decode cX3_pass 4 = .ok (.invokestatic 44, 3) := by decide +kernel
theorem dX3_pass_7 : decode cX3_pass 7 = .ok (.ifCond .ne 13, 3) := by decide +kernel
theorem dX3_pass_10 : decode cX3_pass 10 = .ok (.new 48, 3) := by decide +kernel
theorem dX3_pass_13 : decode cX3_pass 13 = .ok (.dup, 1) := by decide +kernel
theorem dX3_pass_14 : decode cX3_pass 14 = .ok (.ldc 231, 2) := by decide +kernel
theorem dX3_pass_16 : decode cX3_pass 16 = .ok (.invokespecial 52, 3) := by decide +kernel
theorem dX3_pass_19 : decode cX3_pass 19 = .ok (.athrow, 1) := by decide +kernel
theorem dX3_pass_20 : decode cX3_pass 20 = .ok (.aload_n 0, 1) := by decide +kernel
theorem dX3_pass_21 : decode cX3_pass 21 = .ok (.getfield 26, 3) := by decide +kernel
theorem dX3_pass_24 : decode cX3_pass 24 = .ok (.aload_n 0, 1) := by decide +kernel
theorem dX3_pass_25 : decode cX3_pass 25 = .ok (.getfield 19, 3) := by decide +kernel
theorem dX3_pass_28 : decode cX3_pass 28 = .ok (.invokevirtual 188, 3) := by decide +kernel
theorem dX3_pass_31 : decode cX3_pass 31 = .ok (.aload_n 0, 1) := by decide +kernel
theorem dX3_pass_32 : decode cX3_pass 32 = .ok (.getfield 19, 3) := by decide +kernel
theorem dX3_pass_35 : decode cX3_pass 35 = .ok (.iload_n 1, 1) := by decide +kernel
theorem dX3_pass_36 : decode cX3_pass 36 = .ok (.invokevirtual 233, 3) := by decide +kernel
theorem dX3_pass_39 : decode cX3_pass 39 = .ok (.ireturn, 1) := by decide +kernel
theorem dX3_isWithin_0 : decode cX3_isWithin 0 = .ok (.iload_n 0, 1) := by decide +kernel
theorem dX3_isWithin_1 : decode cX3_isWithin 1 = .ok (.iload_n 1, 1) := by decide +kernel
theorem dX3_isWithin_2 : decode cX3_isWithin 2 = .ok (.if_icmp .lt 12, 3) := by decide +kernel
theorem dX3_isWithin_5 : decode cX3_isWithin 5 = .ok (.iload_n 0, 1) := by decide +kernel
theorem dX3_isWithin_6 : decode cX3_isWithin 6 = .ok (.iload_n 2, 1) := by decide +kernel
theorem dX3_isWithin_7 : decode cX3_isWithin 7 = .ok (.if_icmp .gt 7, 3) := by decide +kernel
theorem dX3_isWithin_10 : decode cX3_isWithin 10 = .ok (.iconst 1, 1) := by decide +kernel
theorem dX3_isWithin_11 : decode cX3_isWithin 11 = .ok (.goto 4, 3) := by decide +kernel
theorem dX3_isWithin_14 : decode cX3_isWithin 14 = .ok (.iconst 0, 1) := by decide +kernel
theorem dX3_isWithin_15 : decode cX3_isWithin 15 = .ok (.ireturn, 1) := by decide +kernel
theorem dX3_isUnits_0 : decode cX3_isUnits 0 = .ok (.iload_n 0, 1) := by decide +kernel
theorem dX3_isUnits_1 : decode cX3_isUnits 1 = .ok (.iconst 1, 1) := by decide +kernel
theorem dX3_isUnits_2 : decode cX3_isUnits 2 = .ok (.bipush 99, 2) := by decide +kernel
theorem dX3_isUnits_4 : decode cX3_isUnits 4 = .ok (.invokestatic 44, 3) := by decide +kernel
theorem dX3_isUnits_7 : decode cX3_isUnits 7 = .ok (.ireturn, 1) := by decide +kernel
theorem dJ9_min_7cf53_0 : decode cJ9_min_7cf53 0 = .ok (.iload_n 0, 1) := by decide +kernel
theorem dJ9_min_7cf53_1 : decode cJ9_min_7cf53 1 = .ok (.iload_n 1, 1) := by decide +kernel
theorem dJ9_min_7cf53_2 : decode cJ9_min_7cf53 2 = .ok (.if_icmp .gt 7, 3) := by decide +kernel
theorem dJ9_min_7cf53_5 : decode cJ9_min_7cf53 5 = .ok (.iload_n 0, 1) := by decide +kernel
theorem dJ9_min_7cf53_6 : decode cJ9_min_7cf53 6 = .ok (.goto 4, 3) := by decide +kernel
theorem dJ9_min_7cf53_9 : decode cJ9_min_7cf53 9 = .ok (.iload_n 1, 1) := by decide +kernel
theorem dJ9_min_7cf53_10 : decode cJ9_min_7cf53 10 = .ok (.ireturn, 1) := by decide +kernel
theorem dL_cell_0 : decode cL_cell 0 = .ok (.iload_n 1, 1) := by decide +kernel
theorem dL_cell_1 : decode cL_cell 1 = .ok (.aload_n 0, 1) := by decide +kernel
theorem dL_cell_2 : decode cL_cell 2 = .ok (.arraylength, 1) := by decide +kernel
theorem dL_cell_3 : decode cL_cell 3 = .ok (.if_icmp .ge 9, 3) := by decide +kernel
theorem dL_cell_6 : decode cL_cell 6 = .ok (.aload_n 0, 1) := by decide +kernel
theorem dL_cell_7 : decode cL_cell 7 = .ok (.iload_n 1, 1) := by decide +kernel
theorem dL_cell_8 : decode cL_cell 8 = .ok (.iaload, 1) := by decide +kernel
theorem dL_cell_9 : decode cL_cell 9 = .ok (.goto 9, 3) := by decide +kernel
theorem dL_cell_12 : decode cL_cell 12 = .ok (.ldc 7, 2) := by decide +kernel
theorem dL_cell_14 : decode cL_cell 14 = .ok (.iload_n 1, 1) := by decide +kernel
theorem dL_cell_15 : decode cL_cell 15 = .ok (.iconst 1, 1) := by decide +kernel
theorem dL_cell_16 : decode cL_cell 16 = .ok (.iadd, 1) := by decide +kernel
theorem dL_cell_17 : decode cL_cell 17 = .ok (.imul, 1) := by decide +kernel
theorem dL_cell_18 : decode cL_cell 18 = .ok (.ireturn, 1) := by decide +kernel
theorem dL_low_0 : decode cL_low 0 = .ok (.iload_n 0, 1) := by decide +kernel
theorem dL_low_1 : decode cL_low 1 = .ok (.ldc 8, 2) := by decide +kernel
theorem dL_low_3 : decode cL_low 3 = .ok (.iand, 1) := by decide +kernel
theorem dL_low_4 : decode cL_low 4 = .ok (.iload_n 1, 1) := by decide +kernel
theorem dL_low_5 : decode cL_low 5 = .ok (.irem, 1) := by decide +kernel
theorem dL_low_6 : decode cL_low 6 = .ok (.ireturn, 1) := by decide +kernel
theorem dL_lend_0 : decode cL_lend 0 = .ok (.aload 5, 2) := by decide +kernel
theorem dL_lend_2 : decode cL_lend 2 = .ok (.iconst 0, 1) := by decide +kernel
theorem dL_lend_3 : decode cL_lend 3 = .ok (.aload_n 0, 1) := by decide +kernel
theorem dL_lend_4 : decode cL_lend 4 = .ok (.iload_n 1, 1) := by decide +kernel
theorem dL_lend_5 : decode cL_lend 5 = .ok (.iload_n 2, 1) := by decide +kernel
theorem dL_lend_6 : decode cL_lend 6 = .ok (.iload_n 3, 1) := by decide +kernel
theorem dL_lend_7 : decode cL_lend 7 = .ok (.iload 4, 2) := by decide +kernel
theorem dL_lend_9 : decode cL_lend 9 = .ok (.invokevirtual 9, 3) := by decide +kernel
theorem dL_lend_12 : decode cL_lend 12 = .ok (.iastore, 1) := by decide +kernel
theorem dL_lend_13 : decode cL_lend 13 = .ok (.goto 15, 3) := by decide +kernel
theorem dL_lend_16 : decode cL_lend 16 = .ok (.astore 6, 2) := by decide +kernel
theorem dL_lend_18 : decode cL_lend 18 = .ok (.iconst 1, 1) := by decide +kernel
theorem dL_lend_19 : decode cL_lend 19 = .ok (.ireturn, 1) := by decide +kernel
theorem dL_lend_20 : decode cL_lend 20 = .ok (.astore 6, 2) := by decide +kernel
theorem dL_lend_22 : decode cL_lend 22 = .ok (.iconst 2, 1) := by decide +kernel
theorem dL_lend_23 : decode cL_lend 23 = .ok (.ireturn, 1) := by decide +kernel
theorem dL_lend_24 : decode cL_lend 24 = .ok (.astore 6, 2) := by decide +kernel
theorem dL_lend_26 : decode cL_lend 26 = .ok (.iconst 3, 1) := by decide +kernel
theorem dL_lend_27 : decode cL_lend 27 = .ok (.ireturn, 1) := by decide +kernel
theorem dL_lend_28 : decode cL_lend 28 = .ok (.iconst 0, 1) := by decide +kernel
theorem dL_lend_29 : decode cL_lend 29 = .ok (.ireturn, 1) := by decide +kernel
theorem dL_repay_0 : decode cL_repay 0 = .ok (.aload_n 3, 1) := by decide +kernel
theorem dL_repay_1 : decode cL_repay 1 = .ok (.iconst 0, 1) := by decide +kernel
theorem dL_repay_2 : decode cL_repay 2 = .ok (.aload_n 0, 1) := by decide +kernel
theorem dL_repay_3 : decode cL_repay 3 = .ok (.iload_n 1, 1) := by decide +kernel
theorem dL_repay_4 : decode cL_repay 4 = .ok (.iload_n 2, 1) := by decide +kernel
theorem dL_repay_5 : decode cL_repay 5 = .ok (.invokevirtual 21, 3) := by decide +kernel
theorem dL_repay_8 : decode cL_repay 8 = .ok (.iastore, 1) := by decide +kernel
theorem dL_repay_9 : decode cL_repay 9 = .ok (.goto 15, 3) := by decide +kernel
theorem dL_repay_12 : decode cL_repay 12 = .ok (.astore 4, 2) := by decide +kernel
theorem dL_repay_14 : decode cL_repay 14 = .ok (.iconst 1, 1) := by decide +kernel
theorem dL_repay_15 : decode cL_repay 15 = .ok (.ireturn, 1) := by decide +kernel
theorem dL_repay_16 : decode cL_repay 16 = .ok (.astore 4, 2) := by decide +kernel
theorem dL_repay_18 : decode cL_repay 18 = .ok (.iconst 2, 1) := by decide +kernel
theorem dL_repay_19 : decode cL_repay 19 = .ok (.ireturn, 1) := by decide +kernel
theorem dL_repay_20 : decode cL_repay 20 = .ok (.astore 4, 2) := by decide +kernel
theorem dL_repay_22 : decode cL_repay 22 = .ok (.iconst 3, 1) := by decide +kernel
theorem dL_repay_23 : decode cL_repay 23 = .ok (.ireturn, 1) := by decide +kernel
theorem dL_repay_24 : decode cL_repay 24 = .ok (.iconst 0, 1) := by decide +kernel
theorem dL_repay_25 : decode cL_repay 25 = .ok (.ireturn, 1) := by decide +kernel
theorem dL_setLeak_0 : decode cL_setLeak 0 = .ok (.aload_n 3, 1) := by decide +kernel
theorem dL_setLeak_1 : decode cL_setLeak 1 = .ok (.iconst 0, 1) := by decide +kernel
theorem dL_setLeak_2 : decode cL_setLeak 2 = .ok (.aload_n 0, 1) := by decide +kernel
theorem dL_setLeak_3 : decode cL_setLeak 3 = .ok (.iload_n 1, 1) := by decide +kernel
theorem dL_setLeak_4 : decode cL_setLeak 4 = .ok (.iload_n 2, 1) := by decide +kernel
theorem dL_setLeak_5 : decode cL_setLeak 5 = .ok (.invokevirtual 25, 3) := by decide +kernel
theorem dL_setLeak_8 : decode cL_setLeak 8 = .ok (.iastore, 1) := by decide +kernel
theorem dL_setLeak_9 : decode cL_setLeak 9 = .ok (.goto 11, 3) := by decide +kernel
theorem dL_setLeak_12 : decode cL_setLeak 12 = .ok (.astore 4, 2) := by decide +kernel
theorem dL_setLeak_14 : decode cL_setLeak 14 = .ok (.iconst 1, 1) := by decide +kernel
theorem dL_setLeak_15 : decode cL_setLeak 15 = .ok (.ireturn, 1) := by decide +kernel
theorem dL_setLeak_16 : decode cL_setLeak 16 = .ok (.astore 4, 2) := by decide +kernel
theorem dL_setLeak_18 : decode cL_setLeak 18 = .ok (.iconst 2, 1) := by decide +kernel
theorem dL_setLeak_19 : decode cL_setLeak 19 = .ok (.ireturn, 1) := by decide +kernel
theorem dL_setLeak_20 : decode cL_setLeak 20 = .ok (.iconst 0, 1) := by decide +kernel
theorem dL_setLeak_21 : decode cL_setLeak 21 = .ok (.ireturn, 1) := by decide +kernel
theorem dL_charge_0 : decode cL_charge 0 = .ok (.aload_n 2, 1) := by decide +kernel
theorem dL_charge_1 : decode cL_charge 1 = .ok (.iconst 0, 1) := by decide +kernel
theorem dL_charge_2 : decode cL_charge 2 = .ok (.aload_n 0, 1) := by decide +kernel
theorem dL_charge_3 : decode cL_charge 3 = .ok (.iload_n 1, 1) := by decide +kernel
theorem dL_charge_4 : decode cL_charge 4 = .ok (.invokevirtual 28, 3) := by decide +kernel
theorem dL_charge_7 : decode cL_charge 7 = .ok (.iastore, 1) := by decide +kernel
theorem dL_charge_8 : decode cL_charge 8 = .ok (.goto 6, 3) := by decide +kernel
theorem dL_charge_11 : decode cL_charge 11 = .ok (.astore_n 3, 1) := by decide +kernel
theorem dL_charge_12 : decode cL_charge 12 = .ok (.iconst 1, 1) := by decide +kernel
theorem dL_charge_13 : decode cL_charge 13 = .ok (.ireturn, 1) := by decide +kernel
theorem dL_charge_14 : decode cL_charge 14 = .ok (.iconst 0, 1) := by decide +kernel
theorem dL_charge_15 : decode cL_charge 15 = .ok (.ireturn, 1) := by decide +kernel
theorem dL_draw_0 : decode cL_draw 0 = .ok (.aload_n 2, 1) := by decide +kernel
theorem dL_draw_1 : decode cL_draw 1 = .ok (.iconst 0, 1) := by decide +kernel
theorem dL_draw_2 : decode cL_draw 2 = .ok (.aload_n 0, 1) := by decide +kernel
theorem dL_draw_3 : decode cL_draw 3 = .ok (.iload_n 1, 1) := by decide +kernel
theorem dL_draw_4 : decode cL_draw 4 = .ok (.invokevirtual 32, 3) := by decide +kernel
theorem dL_draw_7 : decode cL_draw 7 = .ok (.iastore, 1) := by decide +kernel
theorem dL_draw_8 : decode cL_draw 8 = .ok (.goto 9, 3) := by decide +kernel
theorem dL_draw_11 : decode cL_draw 11 = .ok (.astore_n 3, 1) := by decide +kernel
theorem dL_draw_12 : decode cL_draw 12 = .ok (.iconst 1, 1) := by decide +kernel
theorem dL_draw_13 : decode cL_draw 13 = .ok (.ireturn, 1) := by decide +kernel
theorem dL_draw_14 : decode cL_draw 14 = .ok (.astore_n 3, 1) := by decide +kernel
theorem dL_draw_15 : decode cL_draw 15 = .ok (.iconst 2, 1) := by decide +kernel
theorem dL_draw_16 : decode cL_draw 16 = .ok (.ireturn, 1) := by decide +kernel
theorem dL_draw_17 : decode cL_draw 17 = .ok (.iconst 0, 1) := by decide +kernel
theorem dL_draw_18 : decode cL_draw 18 = .ok (.ireturn, 1) := by decide +kernel
theorem dL_pass_0 : decode cL_pass 0 = .ok (.aload_n 2, 1) := by decide +kernel
theorem dL_pass_1 : decode cL_pass 1 = .ok (.iconst 0, 1) := by decide +kernel
theorem dL_pass_2 : decode cL_pass 2 = .ok (.aload_n 0, 1) := by decide +kernel
theorem dL_pass_3 : decode cL_pass 3 = .ok (.iload_n 1, 1) := by decide +kernel
theorem dL_pass_4 : decode cL_pass 4 = .ok (.invokevirtual 35, 3) := by decide +kernel
theorem dL_pass_7 : decode cL_pass 7 = .ok (.iastore, 1) := by decide +kernel
theorem dL_pass_8 : decode cL_pass 8 = .ok (.goto 6, 3) := by decide +kernel
theorem dL_pass_11 : decode cL_pass 11 = .ok (.astore_n 3, 1) := by decide +kernel
theorem dL_pass_12 : decode cL_pass 12 = .ok (.iconst 1, 1) := by decide +kernel
theorem dL_pass_13 : decode cL_pass 13 = .ok (.ireturn, 1) := by decide +kernel
theorem dL_pass_14 : decode cL_pass 14 = .ok (.iconst 0, 1) := by decide +kernel
theorem dL_pass_15 : decode cL_pass 15 = .ok (.ireturn, 1) := by decide +kernel
theorem dL_addCell_0 : decode cL_addCell 0 = .ok (.aload 4, 2) := by decide +kernel
theorem dL_addCell_2 : decode cL_addCell 2 = .ok (.iconst 0, 1) := by decide +kernel
theorem dL_addCell_3 : decode cL_addCell 3 = .ok (.aload_n 0, 1) := by decide +kernel
theorem dL_addCell_4 : decode cL_addCell 4 = .ok (.iload_n 1, 1) := by decide +kernel
theorem dL_addCell_5 : decode cL_addCell 5 = .ok (.iload_n 2, 1) := by decide +kernel
theorem dL_addCell_6 : decode cL_addCell 6 = .ok (.iload_n 3, 1) := by decide +kernel
theorem dL_addCell_7 : decode cL_addCell 7 = .ok (.invokevirtual 38, 3) := by decide +kernel
theorem dL_addCell_10 : decode cL_addCell 10 = .ok (.iastore, 1) := by decide +kernel
theorem dL_addCell_11 : decode cL_addCell 11 = .ok (.goto 11, 3) := by decide +kernel
theorem dL_addCell_14 : decode cL_addCell 14 = .ok (.astore 5, 2) := by decide +kernel
theorem dL_addCell_16 : decode cL_addCell 16 = .ok (.iconst 1, 1) := by decide +kernel
theorem dL_addCell_17 : decode cL_addCell 17 = .ok (.ireturn, 1) := by decide +kernel
theorem dL_addCell_18 : decode cL_addCell 18 = .ok (.astore 5, 2) := by decide +kernel
theorem dL_addCell_20 : decode cL_addCell 20 = .ok (.iconst 2, 1) := by decide +kernel
theorem dL_addCell_21 : decode cL_addCell 21 = .ok (.ireturn, 1) := by decide +kernel
theorem dL_addCell_22 : decode cL_addCell 22 = .ok (.iconst 0, 1) := by decide +kernel
theorem dL_addCell_23 : decode cL_addCell 23 = .ok (.ireturn, 1) := by decide +kernel
theorem dL_lost_0 : decode cL_lost 0 = .ok (.iload_n 1, 1) := by decide +kernel
theorem dL_lost_1 : decode cL_lost 1 = .ok (.iload_n 2, 1) := by decide +kernel
theorem dL_lost_2 : decode cL_lost 2 = .ok (.if_icmp .le 14, 3) := by decide +kernel
theorem dL_lost_5 : decode cL_lost 5 = .ok (.iload_n 0, 1) := by decide +kernel
theorem dL_lost_6 : decode cL_lost 6 = .ok (.iload_n 1, 1) := by decide +kernel
theorem dL_lost_7 : decode cL_lost 7 = .ok (.iload_n 2, 1) := by decide +kernel
theorem dL_lost_8 : decode cL_lost 8 = .ok (.isub, 1) := by decide +kernel
theorem dL_lost_9 : decode cL_lost 9 = .ok (.imul, 1) := by decide +kernel
theorem dL_lost_10 : decode cL_lost 10 = .ok (.bipush 20, 2) := by decide +kernel
theorem dL_lost_12 : decode cL_lost 12 = .ok (.idiv, 1) := by decide +kernel
theorem dL_lost_13 : decode cL_lost 13 = .ok (.goto 11, 3) := by decide +kernel
theorem dL_lost_16 : decode cL_lost 16 = .ok (.iload_n 0, 1) := by decide +kernel
theorem dL_lost_17 : decode cL_lost 17 = .ok (.iload_n 2, 1) := by decide +kernel
theorem dL_lost_18 : decode cL_lost 18 = .ok (.iload_n 1, 1) := by decide +kernel
theorem dL_lost_19 : decode cL_lost 19 = .ok (.isub, 1) := by decide +kernel
theorem dL_lost_20 : decode cL_lost 20 = .ok (.imul, 1) := by decide +kernel
theorem dL_lost_21 : decode cL_lost 21 = .ok (.bipush 20, 2) := by decide +kernel
theorem dL_lost_23 : decode cL_lost 23 = .ok (.idiv, 1) := by decide +kernel
theorem dL_lost_24 : decode cL_lost 24 = .ok (.ireturn, 1) := by decide +kernel
theorem dL_goes_0 : decode cL_goes 0 = .ok (.iload_n 2, 1) := by decide +kernel
theorem dL_goes_1 : decode cL_goes 1 = .ok (.iload_n 2, 1) := by decide +kernel
theorem dL_goes_2 : decode cL_goes 2 = .ok (.iload_n 3, 1) := by decide +kernel
theorem dL_goes_3 : decode cL_goes 3 = .ok (.iload 4, 2) := by decide +kernel
theorem dL_goes_5 : decode cL_goes 5 = .ok (.invokestatic 42, 3) := by decide +kernel
theorem dL_goes_8 : decode cL_goes 8 = .ok (.isub, 1) := by decide +kernel
theorem dL_goes_9 : decode cL_goes 9 = .ok (.istore 5, 2) := by decide +kernel
theorem dL_goes_11 : decode cL_goes 11 = .ok (.aload_n 1, 1) := by decide +kernel
theorem dL_goes_12 : decode cL_goes 12 = .ok (.iconst 5, 1) := by decide +kernel
theorem dL_goes_13 : decode cL_goes 13 = .ok (.iload_n 3, 1) := by decide +kernel
theorem dL_goes_14 : decode cL_goes 14 = .ok (.imul, 1) := by decide +kernel
theorem dL_goes_15 : decode cL_goes 15 = .ok (.iconst 1, 1) := by decide +kernel
theorem dL_goes_16 : decode cL_goes 16 = .ok (.iadd, 1) := by decide +kernel
theorem dL_goes_17 : decode cL_goes 17 = .ok (.dup2, 1) := by decide +kernel
theorem dL_goes_18 : decode cL_goes 18 = .ok (.iaload, 1) := by decide +kernel
theorem dL_goes_19 : decode cL_goes 19 = .ok (.iload_n 2, 1) := by decide +kernel
theorem dL_goes_20 : decode cL_goes 20 = .ok (.isub, 1) := by decide +kernel
theorem dL_goes_21 : decode cL_goes 21 = .ok (.iastore, 1) := by decide +kernel
theorem dL_goes_22 : decode cL_goes 22 = .ok (.aload_n 1, 1) := by decide +kernel
theorem dL_goes_23 : decode cL_goes 23 = .ok (.iconst 5, 1) := by decide +kernel
theorem dL_goes_24 : decode cL_goes 24 = .ok (.iload 4, 2) := by decide +kernel
theorem dL_goes_26 : decode cL_goes 26 = .ok (.imul, 1) := by decide +kernel
theorem dL_goes_27 : decode cL_goes 27 = .ok (.iconst 1, 1) := by decide +kernel
theorem dL_goes_28 : decode cL_goes 28 = .ok (.iadd, 1) := by decide +kernel
theorem dL_goes_29 : decode cL_goes 29 = .ok (.dup2, 1) := by decide +kernel
theorem dL_goes_30 : decode cL_goes 30 = .ok (.iaload, 1) := by decide +kernel
theorem dL_goes_31 : decode cL_goes 31 = .ok (.iload 5, 2) := by decide +kernel
theorem dL_goes_33 : decode cL_goes 33 = .ok (.iadd, 1) := by decide +kernel
theorem dL_goes_34 : decode cL_goes 34 = .ok (.iastore, 1) := by decide +kernel
theorem dL_goes_35 : decode cL_goes 35 = .ok (.aload_n 0, 1) := by decide +kernel
theorem dL_goes_36 : decode cL_goes 36 = .ok (.iconst 5, 1) := by decide +kernel
theorem dL_goes_37 : decode cL_goes 37 = .ok (.dup2, 1) := by decide +kernel
theorem dL_goes_38 : decode cL_goes 38 = .ok (.iaload, 1) := by decide +kernel
theorem dL_goes_39 : decode cL_goes 39 = .ok (.iload_n 2, 1) := by decide +kernel
theorem dL_goes_40 : decode cL_goes 40 = .ok (.iload 5, 2) := by decide +kernel
theorem dL_goes_42 : decode cL_goes 42 = .ok (.isub, 1) := by decide +kernel
theorem dL_goes_43 : decode cL_goes 43 = .ok (.iadd, 1) := by decide +kernel
theorem dL_goes_44 : decode cL_goes 44 = .ok (.iastore, 1) := by decide +kernel
theorem dL_goes_45 : decode cL_goes 45 = .ok (.iload 5, 2) := by decide +kernel
theorem dL_goes_47 : decode cL_goes 47 = .ok (.ireturn, 1) := by decide +kernel
theorem dL_lends_0 : decode cL_lends 0 = .ok (.iconst 5, 1) := by decide +kernel
theorem dL_lends_1 : decode cL_lends 1 = .ok (.aload_n 0, 1) := by decide +kernel
theorem dL_lends_2 : decode cL_lends 2 = .ok (.iconst 2, 1) := by decide +kernel
theorem dL_lends_3 : decode cL_lends 3 = .ok (.iaload, 1) := by decide +kernel
theorem dL_lends_4 : decode cL_lends 4 = .ok (.imul, 1) := by decide +kernel
theorem dL_lends_5 : decode cL_lends 5 = .ok (.istore 7, 2) := by decide +kernel
theorem dL_lends_7 : decode cL_lends 7 = .ok (.aload_n 2, 1) := by decide +kernel
theorem dL_lends_8 : decode cL_lends 8 = .ok (.iload 7, 2) := by decide +kernel
theorem dL_lends_10 : decode cL_lends 10 = .ok (.iload_n 3, 1) := by decide +kernel
theorem dL_lends_11 : decode cL_lends 11 = .ok (.iastore, 1) := by decide +kernel
theorem dL_lends_12 : decode cL_lends 12 = .ok (.aload_n 2, 1) := by decide +kernel
theorem dL_lends_13 : decode cL_lends 13 = .ok (.iload 7, 2) := by decide +kernel
theorem dL_lends_15 : decode cL_lends 15 = .ok (.iconst 1, 1) := by decide +kernel
theorem dL_lends_16 : decode cL_lends 16 = .ok (.iadd, 1) := by decide +kernel
theorem dL_lends_17 : decode cL_lends 17 = .ok (.iload 4, 2) := by decide +kernel
theorem dL_lends_19 : decode cL_lends 19 = .ok (.iastore, 1) := by decide +kernel
theorem dL_lends_20 : decode cL_lends 20 = .ok (.aload_n 2, 1) := by decide +kernel
theorem dL_lends_21 : decode cL_lends 21 = .ok (.iload 7, 2) := by decide +kernel
theorem dL_lends_23 : decode cL_lends 23 = .ok (.iconst 2, 1) := by decide +kernel
theorem dL_lends_24 : decode cL_lends 24 = .ok (.iadd, 1) := by decide +kernel
theorem dL_lends_25 : decode cL_lends 25 = .ok (.iload 5, 2) := by decide +kernel
theorem dL_lends_27 : decode cL_lends 27 = .ok (.iastore, 1) := by decide +kernel
theorem dL_lends_28 : decode cL_lends 28 = .ok (.aload_n 2, 1) := by decide +kernel
theorem dL_lends_29 : decode cL_lends 29 = .ok (.iload 7, 2) := by decide +kernel
theorem dL_lends_31 : decode cL_lends 31 = .ok (.iconst 3, 1) := by decide +kernel
theorem dL_lends_32 : decode cL_lends 32 = .ok (.iadd, 1) := by decide +kernel
theorem dL_lends_33 : decode cL_lends 33 = .ok (.iload 6, 2) := by decide +kernel
theorem dL_lends_35 : decode cL_lends 35 = .ok (.iastore, 1) := by decide +kernel
theorem dL_lends_36 : decode cL_lends 36 = .ok (.aload_n 2, 1) := by decide +kernel
theorem dL_lends_37 : decode cL_lends 37 = .ok (.iload 7, 2) := by decide +kernel
theorem dL_lends_39 : decode cL_lends 39 = .ok (.iconst 4, 1) := by decide +kernel
theorem dL_lends_40 : decode cL_lends 40 = .ok (.iadd, 1) := by decide +kernel
theorem dL_lends_41 : decode cL_lends 41 = .ok (.aload_n 0, 1) := by decide +kernel
theorem dL_lends_42 : decode cL_lends 42 = .ok (.aload_n 1, 1) := by decide +kernel
theorem dL_lends_43 : decode cL_lends 43 = .ok (.iload 5, 2) := by decide +kernel
theorem dL_lends_45 : decode cL_lends 45 = .ok (.iload_n 3, 1) := by decide +kernel
theorem dL_lends_46 : decode cL_lends 46 = .ok (.iload 4, 2) := by decide +kernel
theorem dL_lends_48 : decode cL_lends 48 = .ok (.invokestatic 47, 3) := by decide +kernel
theorem dL_lends_51 : decode cL_lends 51 = .ok (.iastore, 1) := by decide +kernel
theorem dL_lends_52 : decode cL_lends 52 = .ok (.aload_n 0, 1) := by decide +kernel
theorem dL_lends_53 : decode cL_lends 53 = .ok (.iconst 2, 1) := by decide +kernel
theorem dL_lends_54 : decode cL_lends 54 = .ok (.dup2, 1) := by decide +kernel
theorem dL_lends_55 : decode cL_lends 55 = .ok (.iaload, 1) := by decide +kernel
theorem dL_lends_56 : decode cL_lends 56 = .ok (.iconst 1, 1) := by decide +kernel
theorem dL_lends_57 : decode cL_lends 57 = .ok (.iadd, 1) := by decide +kernel
theorem dL_lends_58 : decode cL_lends 58 = .ok (.iastore, 1) := by decide +kernel
theorem dL_lends_59 : decode cL_lends 59 = .ok (.aload_n 2, 1) := by decide +kernel
theorem dL_lends_60 : decode cL_lends 60 = .ok (.iload 7, 2) := by decide +kernel
theorem dL_lends_62 : decode cL_lends 62 = .ok (.iconst 4, 1) := by decide +kernel
theorem dL_lends_63 : decode cL_lends 63 = .ok (.iadd, 1) := by decide +kernel
theorem dL_lends_64 : decode cL_lends 64 = .ok (.iaload, 1) := by decide +kernel
theorem dL_lends_65 : decode cL_lends 65 = .ok (.ireturn, 1) := by decide +kernel
theorem dL_clears_0 : decode cL_clears 0 = .ok (.iconst 0, 1) := by decide +kernel
theorem dL_clears_1 : decode cL_clears 1 = .ok (.istore_n 2, 1) := by decide +kernel
theorem dL_clears_2 : decode cL_clears 2 = .ok (.iconst 0, 1) := by decide +kernel
theorem dL_clears_3 : decode cL_clears 3 = .ok (.istore_n 3, 1) := by decide +kernel
theorem dL_clears_4 : decode cL_clears 4 = .ok (.iload_n 3, 1) := by decide +kernel
theorem dL_clears_5 : decode cL_clears 5 = .ok (.aload_n 0, 1) := by decide +kernel
theorem dL_clears_6 : decode cL_clears 6 = .ok (.iconst 2, 1) := by decide +kernel
theorem dL_clears_7 : decode cL_clears 7 = .ok (.iaload, 1) := by decide +kernel
theorem dL_clears_8 : decode cL_clears 8 = .ok (.if_icmp .ge 53, 3) := by decide +kernel
theorem dL_clears_11 : decode cL_clears 11 = .ok (.aload_n 1, 1) := by decide +kernel
theorem dL_clears_12 : decode cL_clears 12 = .ok (.iconst 5, 1) := by decide +kernel
theorem dL_clears_13 : decode cL_clears 13 = .ok (.iload_n 3, 1) := by decide +kernel
theorem dL_clears_14 : decode cL_clears 14 = .ok (.imul, 1) := by decide +kernel
theorem dL_clears_15 : decode cL_clears 15 = .ok (.iconst 2, 1) := by decide +kernel
theorem dL_clears_16 : decode cL_clears 16 = .ok (.iadd, 1) := by decide +kernel
theorem dL_clears_17 : decode cL_clears 17 = .ok (.iaload, 1) := by decide +kernel
theorem dL_clears_18 : decode cL_clears 18 = .ok (.ifCond .le 37, 3) := by decide +kernel
theorem dL_clears_21 : decode cL_clears 21 = .ok (.iconst 0, 1) := by decide +kernel
theorem dL_clears_22 : decode cL_clears 22 = .ok (.istore 4, 2) := by decide +kernel
theorem dL_clears_24 : decode cL_clears 24 = .ok (.iload 4, 2) := by decide +kernel
theorem dL_clears_26 : decode cL_clears 26 = .ok (.iconst 5, 1) := by decide +kernel
theorem dL_clears_27 : decode cL_clears 27 = .ok (.if_icmp .ge 25, 3) := by decide +kernel
theorem dL_clears_30 : decode cL_clears 30 = .ok (.aload_n 1, 1) := by decide +kernel
theorem dL_clears_31 : decode cL_clears 31 = .ok (.iconst 5, 1) := by decide +kernel
theorem dL_clears_32 : decode cL_clears 32 = .ok (.iload_n 2, 1) := by decide +kernel
theorem dL_clears_33 : decode cL_clears 33 = .ok (.imul, 1) := by decide +kernel
theorem dL_clears_34 : decode cL_clears 34 = .ok (.iload 4, 2) := by decide +kernel
theorem dL_clears_36 : decode cL_clears 36 = .ok (.iadd, 1) := by decide +kernel
theorem dL_clears_37 : decode cL_clears 37 = .ok (.aload_n 1, 1) := by decide +kernel
theorem dL_clears_38 : decode cL_clears 38 = .ok (.iconst 5, 1) := by decide +kernel
theorem dL_clears_39 : decode cL_clears 39 = .ok (.iload_n 3, 1) := by decide +kernel
theorem dL_clears_40 : decode cL_clears 40 = .ok (.imul, 1) := by decide +kernel
theorem dL_clears_41 : decode cL_clears 41 = .ok (.iload 4, 2) := by decide +kernel
theorem dL_clears_43 : decode cL_clears 43 = .ok (.iadd, 1) := by decide +kernel
theorem dL_clears_44 : decode cL_clears 44 = .ok (.iaload, 1) := by decide +kernel
theorem dL_clears_45 : decode cL_clears 45 = .ok (.iastore, 1) := by decide +kernel
theorem dL_clears_46 : decode cL_clears 46 = .ok (.iinc 4 1, 3) := by decide +kernel
theorem dL_clears_49 : decode cL_clears 49 = .ok (.goto (-25), 3) := by decide +kernel
theorem dL_clears_52 : decode cL_clears 52 = .ok (.iinc 2 1, 3) := by decide +kernel
theorem dL_clears_55 : decode cL_clears 55 = .ok (.iinc 3 1, 3) := by decide +kernel
theorem dL_clears_58 : decode cL_clears 58 = .ok (.goto (-54), 3) := by decide +kernel
theorem dL_clears_61 : decode cL_clears 61 = .ok (.aload_n 0, 1) := by decide +kernel
theorem dL_clears_62 : decode cL_clears 62 = .ok (.iconst 2, 1) := by decide +kernel
theorem dL_clears_63 : decode cL_clears 63 = .ok (.iload_n 2, 1) := by decide +kernel
theorem dL_clears_64 : decode cL_clears 64 = .ok (.iastore, 1) := by decide +kernel
theorem dL_clears_65 : decode cL_clears 65 = .ok (.return_, 1) := by decide +kernel
theorem dL_interest_0 : decode cL_interest 0 = .ok (.aload_n 0, 1) := by decide +kernel
theorem dL_interest_1 : decode cL_interest 1 = .ok (.iconst 5, 1) := by decide +kernel
theorem dL_interest_2 : decode cL_interest 2 = .ok (.iload_n 1, 1) := by decide +kernel
theorem dL_interest_3 : decode cL_interest 3 = .ok (.imul, 1) := by decide +kernel
theorem dL_interest_4 : decode cL_interest 4 = .ok (.iconst 2, 1) := by decide +kernel
theorem dL_interest_5 : decode cL_interest 5 = .ok (.iadd, 1) := by decide +kernel
theorem dL_interest_6 : decode cL_interest 6 = .ok (.iaload, 1) := by decide +kernel
theorem dL_interest_7 : decode cL_interest 7 = .ok (.aload_n 0, 1) := by decide +kernel
theorem dL_interest_8 : decode cL_interest 8 = .ok (.iconst 5, 1) := by decide +kernel
theorem dL_interest_9 : decode cL_interest 9 = .ok (.iload_n 1, 1) := by decide +kernel
theorem dL_interest_10 : decode cL_interest 10 = .ok (.imul, 1) := by decide +kernel
theorem dL_interest_11 : decode cL_interest 11 = .ok (.iconst 3, 1) := by decide +kernel
theorem dL_interest_12 : decode cL_interest 12 = .ok (.iadd, 1) := by decide +kernel
theorem dL_interest_13 : decode cL_interest 13 = .ok (.iaload, 1) := by decide +kernel
theorem dL_interest_14 : decode cL_interest 14 = .ok (.imul, 1) := by decide +kernel
theorem dL_interest_15 : decode cL_interest 15 = .ok (.istore_n 2, 1) := by decide +kernel
theorem dL_interest_16 : decode cL_interest 16 = .ok (.iload_n 2, 1) := by decide +kernel
theorem dL_interest_17 : decode cL_interest 17 = .ok (.bipush 100, 2) := by decide +kernel
theorem dL_interest_19 : decode cL_interest 19 = .ok (.irem, 1) := by decide +kernel
theorem dL_interest_20 : decode cL_interest 20 = .ok (.ifCond .ne 10, 3) := by decide +kernel
theorem dL_interest_23 : decode cL_interest 23 = .ok (.iload_n 2, 1) := by decide +kernel
theorem dL_interest_24 : decode cL_interest 24 = .ok (.bipush 100, 2) := by decide +kernel
theorem dL_interest_26 : decode cL_interest 26 = .ok (.idiv, 1) := by decide +kernel
theorem dL_interest_27 : decode cL_interest 27 = .ok (.goto 9, 3) := by decide +kernel
theorem dL_interest_30 : decode cL_interest 30 = .ok (.iload_n 2, 1) := by decide +kernel
theorem dL_interest_31 : decode cL_interest 31 = .ok (.bipush 100, 2) := by decide +kernel
theorem dL_interest_33 : decode cL_interest 33 = .ok (.idiv, 1) := by decide +kernel
theorem dL_interest_34 : decode cL_interest 34 = .ok (.iconst 1, 1) := by decide +kernel
theorem dL_interest_35 : decode cL_interest 35 = .ok (.iadd, 1) := by decide +kernel
theorem dL_interest_36 : decode cL_interest 36 = .ok (.ireturn, 1) := by decide +kernel
theorem dL_owed_0 : decode cL_owed 0 = .ok (.iconst 0, 1) := by decide +kernel
theorem dL_owed_1 : decode cL_owed 1 = .ok (.istore 4, 2) := by decide +kernel
theorem dL_owed_3 : decode cL_owed 3 = .ok (.iconst 0, 1) := by decide +kernel
theorem dL_owed_4 : decode cL_owed 4 = .ok (.istore 5, 2) := by decide +kernel
theorem dL_owed_6 : decode cL_owed 6 = .ok (.iload 5, 2) := by decide +kernel
theorem dL_owed_8 : decode cL_owed 8 = .ok (.aload_n 0, 1) := by decide +kernel
theorem dL_owed_9 : decode cL_owed 9 = .ok (.iconst 2, 1) := by decide +kernel
theorem dL_owed_10 : decode cL_owed 10 = .ok (.iaload, 1) := by decide +kernel
theorem dL_owed_11 : decode cL_owed 11 = .ok (.if_icmp .ge 38, 3) := by decide +kernel
theorem dL_owed_14 : decode cL_owed 14 = .ok (.iload 4, 2) := by decide +kernel
theorem dL_owed_16 : decode cL_owed 16 = .ok (.aload_n 1, 1) := by decide +kernel
theorem dL_owed_17 : decode cL_owed 17 = .ok (.iconst 5, 1) := by decide +kernel
theorem dL_owed_18 : decode cL_owed 18 = .ok (.iload 5, 2) := by decide +kernel
theorem dL_owed_20 : decode cL_owed 20 = .ok (.imul, 1) := by decide +kernel
theorem dL_owed_21 : decode cL_owed 21 = .ok (.iload_n 3, 1) := by decide +kernel
theorem dL_owed_22 : decode cL_owed 22 = .ok (.iadd, 1) := by decide +kernel
theorem dL_owed_23 : decode cL_owed 23 = .ok (.iaload, 1) := by decide +kernel
theorem dL_owed_24 : decode cL_owed 24 = .ok (.iload_n 2, 1) := by decide +kernel
theorem dL_owed_25 : decode cL_owed 25 = .ok (.if_icmp .ne 14, 3) := by decide +kernel
theorem dL_owed_28 : decode cL_owed 28 = .ok (.aload_n 1, 1) := by decide +kernel
theorem dL_owed_29 : decode cL_owed 29 = .ok (.iconst 5, 1) := by decide +kernel
theorem dL_owed_30 : decode cL_owed 30 = .ok (.iload 5, 2) := by decide +kernel
theorem dL_owed_32 : decode cL_owed 32 = .ok (.imul, 1) := by decide +kernel
theorem dL_owed_33 : decode cL_owed 33 = .ok (.iconst 2, 1) := by decide +kernel
theorem dL_owed_34 : decode cL_owed 34 = .ok (.iadd, 1) := by decide +kernel
theorem dL_owed_35 : decode cL_owed 35 = .ok (.iaload, 1) := by decide +kernel
theorem dL_owed_36 : decode cL_owed 36 = .ok (.goto 4, 3) := by decide +kernel
theorem dL_owed_39 : decode cL_owed 39 = .ok (.iconst 0, 1) := by decide +kernel
theorem dL_owed_40 : decode cL_owed 40 = .ok (.iadd, 1) := by decide +kernel
theorem dL_owed_41 : decode cL_owed 41 = .ok (.istore 4, 2) := by decide +kernel
theorem dL_owed_43 : decode cL_owed 43 = .ok (.iinc 5 1, 3) := by decide +kernel
theorem dL_owed_46 : decode cL_owed 46 = .ok (.goto (-40), 3) := by decide +kernel
theorem dL_owed_49 : decode cL_owed 49 = .ok (.iload 4, 2) := by decide +kernel
theorem dL_owed_51 : decode cL_owed 51 = .ok (.ireturn, 1) := by decide +kernel
theorem dL_breaks_0 : decode cL_breaks 0 = .ok (.aload_n 1, 1) := by decide +kernel
theorem dL_breaks_1 : decode cL_breaks 1 = .ok (.iconst 5, 1) := by decide +kernel
theorem dL_breaks_2 : decode cL_breaks 2 = .ok (.iload_n 3, 1) := by decide +kernel
theorem dL_breaks_3 : decode cL_breaks 3 = .ok (.imul, 1) := by decide +kernel
theorem dL_breaks_4 : decode cL_breaks 4 = .ok (.iconst 1, 1) := by decide +kernel
theorem dL_breaks_5 : decode cL_breaks 5 = .ok (.iadd, 1) := by decide +kernel
theorem dL_breaks_6 : decode cL_breaks 6 = .ok (.iaload, 1) := by decide +kernel
theorem dL_breaks_7 : decode cL_breaks 7 = .ok (.istore 4, 2) := by decide +kernel
theorem dL_breaks_9 : decode cL_breaks 9 = .ok (.aload_n 0, 1) := by decide +kernel
theorem dL_breaks_10 : decode cL_breaks 10 = .ok (.aload_n 2, 1) := by decide +kernel
theorem dL_breaks_11 : decode cL_breaks 11 = .ok (.iload_n 3, 1) := by decide +kernel
theorem dL_breaks_12 : decode cL_breaks 12 = .ok (.iconst 1, 1) := by decide +kernel
theorem dL_breaks_13 : decode cL_breaks 13 = .ok (.invokestatic 51, 3) := by decide +kernel
theorem dL_breaks_16 : decode cL_breaks 16 = .ok (.istore 5, 2) := by decide +kernel
theorem dL_breaks_18 : decode cL_breaks 18 = .ok (.iconst 0, 1) := by decide +kernel
theorem dL_breaks_19 : decode cL_breaks 19 = .ok (.istore 6, 2) := by decide +kernel
theorem dL_breaks_21 : decode cL_breaks 21 = .ok (.iconst 0, 1) := by decide +kernel
theorem dL_breaks_22 : decode cL_breaks 22 = .ok (.istore 7, 2) := by decide +kernel
theorem dL_breaks_24 : decode cL_breaks 24 = .ok (.iload 7, 2) := by decide +kernel
theorem dL_breaks_26 : decode cL_breaks 26 = .ok (.aload_n 0, 1) := by decide +kernel
theorem dL_breaks_27 : decode cL_breaks 27 = .ok (.iconst 2, 1) := by decide +kernel
theorem dL_breaks_28 : decode cL_breaks 28 = .ok (.iaload, 1) := by decide +kernel
theorem dL_breaks_29 : decode cL_breaks 29 = .ok (.if_icmp .ge 99, 3) := by decide +kernel
theorem dL_breaks_32 : decode cL_breaks 32 = .ok (.aload_n 2, 1) := by decide +kernel
theorem dL_breaks_33 : decode cL_breaks 33 = .ok (.iconst 5, 1) := by decide +kernel
theorem dL_breaks_34 : decode cL_breaks 34 = .ok (.iload 7, 2) := by decide +kernel
theorem dL_breaks_36 : decode cL_breaks 36 = .ok (.imul, 1) := by decide +kernel
theorem dL_breaks_37 : decode cL_breaks 37 = .ok (.iconst 1, 1) := by decide +kernel
theorem dL_breaks_38 : decode cL_breaks 38 = .ok (.iadd, 1) := by decide +kernel
theorem dL_breaks_39 : decode cL_breaks 39 = .ok (.iaload, 1) := by decide +kernel
theorem dL_breaks_40 : decode cL_breaks 40 = .ok (.iload_n 3, 1) := by decide +kernel
theorem dL_breaks_41 : decode cL_breaks 41 = .ok (.if_icmp .ne 81, 3) := by decide +kernel
theorem dL_breaks_44 : decode cL_breaks 44 = .ok (.iconst 5, 1) := by decide +kernel
theorem dL_breaks_45 : decode cL_breaks 45 = .ok (.aload_n 2, 1) := by decide +kernel
theorem dL_breaks_46 : decode cL_breaks 46 = .ok (.iconst 5, 1) := by decide +kernel
theorem dL_breaks_47 : decode cL_breaks 47 = .ok (.iload 7, 2) := by decide +kernel
theorem dL_breaks_49 : decode cL_breaks 49 = .ok (.imul, 1) := by decide +kernel
theorem dL_breaks_50 : decode cL_breaks 50 = .ok (.iaload, 1) := by decide +kernel
theorem dL_breaks_51 : decode cL_breaks 51 = .ok (.imul, 1) := by decide +kernel
theorem dL_breaks_52 : decode cL_breaks 52 = .ok (.istore 8, 2) := by decide +kernel
theorem dL_breaks_54 : decode cL_breaks 54 = .ok (.iload 4, 2) := by decide +kernel
theorem dL_breaks_56 : decode cL_breaks 56 = .ok (.aload_n 2, 1) := by decide +kernel
theorem dL_breaks_57 : decode cL_breaks 57 = .ok (.iconst 5, 1) := by decide +kernel
theorem dL_breaks_58 : decode cL_breaks 58 = .ok (.iload 7, 2) := by decide +kernel
theorem dL_breaks_60 : decode cL_breaks 60 = .ok (.imul, 1) := by decide +kernel
theorem dL_breaks_61 : decode cL_breaks 61 = .ok (.iconst 2, 1) := by decide +kernel
theorem dL_breaks_62 : decode cL_breaks 62 = .ok (.iadd, 1) := by decide +kernel
theorem dL_breaks_63 : decode cL_breaks 63 = .ok (.iaload, 1) := by decide +kernel
theorem dL_breaks_64 : decode cL_breaks 64 = .ok (.imul, 1) := by decide +kernel
theorem dL_breaks_65 : decode cL_breaks 65 = .ok (.iload 5, 2) := by decide +kernel
theorem dL_breaks_67 : decode cL_breaks 67 = .ok (.idiv, 1) := by decide +kernel
theorem dL_breaks_68 : decode cL_breaks 68 = .ok (.istore 9, 2) := by decide +kernel
theorem dL_breaks_70 : decode cL_breaks 70 = .ok (.aload_n 1, 1) := by decide +kernel
theorem dL_breaks_71 : decode cL_breaks 71 = .ok (.iload 8, 2) := by decide +kernel
theorem dL_breaks_73 : decode cL_breaks 73 = .ok (.iaload, 1) := by decide +kernel
theorem dL_breaks_74 : decode cL_breaks 74 = .ok (.aload_n 1, 1) := by decide +kernel
theorem dL_breaks_75 : decode cL_breaks 75 = .ok (.iload 8, 2) := by decide +kernel
theorem dL_breaks_77 : decode cL_breaks 77 = .ok (.iconst 1, 1) := by decide +kernel
theorem dL_breaks_78 : decode cL_breaks 78 = .ok (.iadd, 1) := by decide +kernel
theorem dL_breaks_79 : decode cL_breaks 79 = .ok (.iaload, 1) := by decide +kernel
theorem dL_breaks_80 : decode cL_breaks 80 = .ok (.isub, 1) := by decide +kernel
theorem dL_breaks_81 : decode cL_breaks 81 = .ok (.iload 9, 2) := by decide +kernel
theorem dL_breaks_83 : decode cL_breaks 83 = .ok (.if_icmp .ge 17, 3) := by decide +kernel
theorem dL_breaks_86 : decode cL_breaks 86 = .ok (.aload_n 1, 1) := by decide +kernel
theorem dL_breaks_87 : decode cL_breaks 87 = .ok (.iload 8, 2) := by decide +kernel
theorem dL_breaks_89 : decode cL_breaks 89 = .ok (.iaload, 1) := by decide +kernel
theorem dL_breaks_90 : decode cL_breaks 90 = .ok (.aload_n 1, 1) := by decide +kernel
theorem dL_breaks_91 : decode cL_breaks 91 = .ok (.iload 8, 2) := by decide +kernel
theorem dL_breaks_93 : decode cL_breaks 93 = .ok (.iconst 1, 1) := by decide +kernel
theorem dL_breaks_94 : decode cL_breaks 94 = .ok (.iadd, 1) := by decide +kernel
theorem dL_breaks_95 : decode cL_breaks 95 = .ok (.iaload, 1) := by decide +kernel
theorem dL_breaks_96 : decode cL_breaks 96 = .ok (.isub, 1) := by decide +kernel
theorem dL_breaks_97 : decode cL_breaks 97 = .ok (.goto 5, 3) := by decide +kernel
theorem dL_breaks_100 : decode cL_breaks 100 = .ok (.iload 9, 2) := by decide +kernel
theorem dL_breaks_102 : decode cL_breaks 102 = .ok (.istore 10, 2) := by decide +kernel
theorem dL_breaks_104 : decode cL_breaks 104 = .ok (.aload_n 1, 1) := by decide +kernel
theorem dL_breaks_105 : decode cL_breaks 105 = .ok (.iload 8, 2) := by decide +kernel
theorem dL_breaks_107 : decode cL_breaks 107 = .ok (.iconst 1, 1) := by decide +kernel
theorem dL_breaks_108 : decode cL_breaks 108 = .ok (.iadd, 1) := by decide +kernel
theorem dL_breaks_109 : decode cL_breaks 109 = .ok (.dup2, 1) := by decide +kernel
theorem dL_breaks_110 : decode cL_breaks 110 = .ok (.iaload, 1) := by decide +kernel
theorem dL_breaks_111 : decode cL_breaks 111 = .ok (.iload 10, 2) := by decide +kernel
theorem dL_breaks_113 : decode cL_breaks 113 = .ok (.iadd, 1) := by decide +kernel
theorem dL_breaks_114 : decode cL_breaks 114 = .ok (.iastore, 1) := by decide +kernel
theorem dL_breaks_115 : decode cL_breaks 115 = .ok (.iload 6, 2) := by decide +kernel
theorem dL_breaks_117 : decode cL_breaks 117 = .ok (.iload 10, 2) := by decide +kernel
theorem dL_breaks_119 : decode cL_breaks 119 = .ok (.iadd, 1) := by decide +kernel
theorem dL_breaks_120 : decode cL_breaks 120 = .ok (.istore 6, 2) := by decide +kernel
theorem dL_breaks_122 : decode cL_breaks 122 = .ok (.iinc 7 1, 3) := by decide +kernel
theorem dL_breaks_125 : decode cL_breaks 125 = .ok (.goto (-101), 3) := by decide +kernel
theorem dL_breaks_128 : decode cL_breaks 128 = .ok (.iconst 0, 1) := by decide +kernel
theorem dL_breaks_129 : decode cL_breaks 129 = .ok (.istore 7, 2) := by decide +kernel
theorem dL_breaks_131 : decode cL_breaks 131 = .ok (.iload 7, 2) := by decide +kernel
theorem dL_breaks_133 : decode cL_breaks 133 = .ok (.aload_n 0, 1) := by decide +kernel
theorem dL_breaks_134 : decode cL_breaks 134 = .ok (.iconst 2, 1) := by decide +kernel
theorem dL_breaks_135 : decode cL_breaks 135 = .ok (.iaload, 1) := by decide +kernel
theorem dL_breaks_136 : decode cL_breaks 136 = .ok (.if_icmp .ge 55, 3) := by decide +kernel
theorem dL_breaks_139 : decode cL_breaks 139 = .ok (.aload_n 2, 1) := by decide +kernel
theorem dL_breaks_140 : decode cL_breaks 140 = .ok (.iconst 5, 1) := by decide +kernel
theorem dL_breaks_141 : decode cL_breaks 141 = .ok (.iload 7, 2) := by decide +kernel
theorem dL_breaks_143 : decode cL_breaks 143 = .ok (.imul, 1) := by decide +kernel
theorem dL_breaks_144 : decode cL_breaks 144 = .ok (.iaload, 1) := by decide +kernel
theorem dL_breaks_145 : decode cL_breaks 145 = .ok (.iload_n 3, 1) := by decide +kernel
theorem dL_breaks_146 : decode cL_breaks 146 = .ok (.if_icmp .eq 15, 3) := by decide +kernel
theorem dL_breaks_149 : decode cL_breaks 149 = .ok (.aload_n 2, 1) := by decide +kernel
theorem dL_breaks_150 : decode cL_breaks 150 = .ok (.iconst 5, 1) := by decide +kernel
theorem dL_breaks_151 : decode cL_breaks 151 = .ok (.iload 7, 2) := by decide +kernel
theorem dL_breaks_153 : decode cL_breaks 153 = .ok (.imul, 1) := by decide +kernel
theorem dL_breaks_154 : decode cL_breaks 154 = .ok (.iconst 1, 1) := by decide +kernel
theorem dL_breaks_155 : decode cL_breaks 155 = .ok (.iadd, 1) := by decide +kernel
theorem dL_breaks_156 : decode cL_breaks 156 = .ok (.iaload, 1) := by decide +kernel
theorem dL_breaks_157 : decode cL_breaks 157 = .ok (.iload_n 3, 1) := by decide +kernel
theorem dL_breaks_158 : decode cL_breaks 158 = .ok (.if_icmp .ne 27, 3) := by decide +kernel
theorem dL_breaks_161 : decode cL_breaks 161 = .ok (.aload_n 0, 1) := by decide +kernel
theorem dL_breaks_162 : decode cL_breaks 162 = .ok (.bipush 6, 2) := by decide +kernel
theorem dL_breaks_164 : decode cL_breaks 164 = .ok (.dup2, 1) := by decide +kernel
theorem dL_breaks_165 : decode cL_breaks 165 = .ok (.iaload, 1) := by decide +kernel
theorem dL_breaks_166 : decode cL_breaks 166 = .ok (.aload_n 2, 1) := by decide +kernel
theorem dL_breaks_167 : decode cL_breaks 167 = .ok (.iconst 5, 1) := by decide +kernel
theorem dL_breaks_168 : decode cL_breaks 168 = .ok (.iload 7, 2) := by decide +kernel
theorem dL_breaks_170 : decode cL_breaks 170 = .ok (.imul, 1) := by decide +kernel
theorem dL_breaks_171 : decode cL_breaks 171 = .ok (.iconst 2, 1) := by decide +kernel
theorem dL_breaks_172 : decode cL_breaks 172 = .ok (.iadd, 1) := by decide +kernel
theorem dL_breaks_173 : decode cL_breaks 173 = .ok (.iaload, 1) := by decide +kernel
theorem dL_breaks_174 : decode cL_breaks 174 = .ok (.iadd, 1) := by decide +kernel
theorem dL_breaks_175 : decode cL_breaks 175 = .ok (.iastore, 1) := by decide +kernel
theorem dL_breaks_176 : decode cL_breaks 176 = .ok (.aload_n 2, 1) := by decide +kernel
theorem dL_breaks_177 : decode cL_breaks 177 = .ok (.iconst 5, 1) := by decide +kernel
theorem dL_breaks_178 : decode cL_breaks 178 = .ok (.iload 7, 2) := by decide +kernel
theorem dL_breaks_180 : decode cL_breaks 180 = .ok (.imul, 1) := by decide +kernel
theorem dL_breaks_181 : decode cL_breaks 181 = .ok (.iconst 2, 1) := by decide +kernel
theorem dL_breaks_182 : decode cL_breaks 182 = .ok (.iadd, 1) := by decide +kernel
theorem dL_breaks_183 : decode cL_breaks 183 = .ok (.iconst 0, 1) := by decide +kernel
theorem dL_breaks_184 : decode cL_breaks 184 = .ok (.iastore, 1) := by decide +kernel
theorem dL_breaks_185 : decode cL_breaks 185 = .ok (.iinc 7 1, 3) := by decide +kernel
theorem dL_breaks_188 : decode cL_breaks 188 = .ok (.goto (-57), 3) := by decide +kernel
theorem dL_breaks_191 : decode cL_breaks 191 = .ok (.aload_n 0, 1) := by decide +kernel
theorem dL_breaks_192 : decode cL_breaks 192 = .ok (.aload_n 2, 1) := by decide +kernel
theorem dL_breaks_193 : decode cL_breaks 193 = .ok (.invokestatic 55, 3) := by decide +kernel
theorem dL_breaks_196 : decode cL_breaks 196 = .ok (.aload_n 0, 1) := by decide +kernel
theorem dL_breaks_197 : decode cL_breaks 197 = .ok (.iconst 5, 1) := by decide +kernel
theorem dL_breaks_198 : decode cL_breaks 198 = .ok (.dup2, 1) := by decide +kernel
theorem dL_breaks_199 : decode cL_breaks 199 = .ok (.iaload, 1) := by decide +kernel
theorem dL_breaks_200 : decode cL_breaks 200 = .ok (.iload 4, 2) := by decide +kernel
theorem dL_breaks_202 : decode cL_breaks 202 = .ok (.iload 6, 2) := by decide +kernel
theorem dL_breaks_204 : decode cL_breaks 204 = .ok (.isub, 1) := by decide +kernel
theorem dL_breaks_205 : decode cL_breaks 205 = .ok (.iadd, 1) := by decide +kernel
theorem dL_breaks_206 : decode cL_breaks 206 = .ok (.iastore, 1) := by decide +kernel
theorem dL_breaks_207 : decode cL_breaks 207 = .ok (.aload_n 1, 1) := by decide +kernel
theorem dL_breaks_208 : decode cL_breaks 208 = .ok (.iconst 5, 1) := by decide +kernel
theorem dL_breaks_209 : decode cL_breaks 209 = .ok (.iload_n 3, 1) := by decide +kernel
theorem dL_breaks_210 : decode cL_breaks 210 = .ok (.imul, 1) := by decide +kernel
theorem dL_breaks_211 : decode cL_breaks 211 = .ok (.iconst 1, 1) := by decide +kernel
theorem dL_breaks_212 : decode cL_breaks 212 = .ok (.iadd, 1) := by decide +kernel
theorem dL_breaks_213 : decode cL_breaks 213 = .ok (.iconst 0, 1) := by decide +kernel
theorem dL_breaks_214 : decode cL_breaks 214 = .ok (.iastore, 1) := by decide +kernel
theorem dL_breaks_215 : decode cL_breaks 215 = .ok (.aload_n 1, 1) := by decide +kernel
theorem dL_breaks_216 : decode cL_breaks 216 = .ok (.iconst 5, 1) := by decide +kernel
theorem dL_breaks_217 : decode cL_breaks 217 = .ok (.iload_n 3, 1) := by decide +kernel
theorem dL_breaks_218 : decode cL_breaks 218 = .ok (.imul, 1) := by decide +kernel
theorem dL_breaks_219 : decode cL_breaks 219 = .ok (.iconst 4, 1) := by decide +kernel
theorem dL_breaks_220 : decode cL_breaks 220 = .ok (.iadd, 1) := by decide +kernel
theorem dL_breaks_221 : decode cL_breaks 221 = .ok (.iconst 1, 1) := by decide +kernel
theorem dL_breaks_222 : decode cL_breaks 222 = .ok (.iastore, 1) := by decide +kernel
theorem dL_breaks_223 : decode cL_breaks 223 = .ok (.return_, 1) := by decide +kernel
theorem dL_round_0 : decode cL_round 0 = .ok (.iconst 0, 1) := by decide +kernel
theorem dL_round_1 : decode cL_round 1 = .ok (.istore_n 3, 1) := by decide +kernel
theorem dL_round_2 : decode cL_round 2 = .ok (.iload_n 3, 1) := by decide +kernel
theorem dL_round_3 : decode cL_round 3 = .ok (.aload_n 0, 1) := by decide +kernel
theorem dL_round_4 : decode cL_round 4 = .ok (.iconst 1, 1) := by decide +kernel
theorem dL_round_5 : decode cL_round 5 = .ok (.iaload, 1) := by decide +kernel
theorem dL_round_6 : decode cL_round 6 = .ok (.if_icmp .ge 65, 3) := by decide +kernel
theorem dL_round_9 : decode cL_round 9 = .ok (.aload_n 1, 1) := by decide +kernel
theorem dL_round_10 : decode cL_round 10 = .ok (.iconst 5, 1) := by decide +kernel
theorem dL_round_11 : decode cL_round 11 = .ok (.iload_n 3, 1) := by decide +kernel
theorem dL_round_12 : decode cL_round 12 = .ok (.imul, 1) := by decide +kernel
theorem dL_round_13 : decode cL_round 13 = .ok (.iconst 1, 1) := by decide +kernel
theorem dL_round_14 : decode cL_round 14 = .ok (.iadd, 1) := by decide +kernel
theorem dL_round_15 : decode cL_round 15 = .ok (.iaload, 1) := by decide +kernel
theorem dL_round_16 : decode cL_round 16 = .ok (.aload_n 1, 1) := by decide +kernel
theorem dL_round_17 : decode cL_round 17 = .ok (.iconst 5, 1) := by decide +kernel
theorem dL_round_18 : decode cL_round 18 = .ok (.iload_n 3, 1) := by decide +kernel
theorem dL_round_19 : decode cL_round 19 = .ok (.imul, 1) := by decide +kernel
theorem dL_round_20 : decode cL_round 20 = .ok (.iconst 2, 1) := by decide +kernel
theorem dL_round_21 : decode cL_round 21 = .ok (.iadd, 1) := by decide +kernel
theorem dL_round_22 : decode cL_round 22 = .ok (.iaload, 1) := by decide +kernel
theorem dL_round_23 : decode cL_round 23 = .ok (.if_icmp .le 13, 3) := by decide +kernel
theorem dL_round_26 : decode cL_round 26 = .ok (.aload_n 1, 1) := by decide +kernel
theorem dL_round_27 : decode cL_round 27 = .ok (.iconst 5, 1) := by decide +kernel
theorem dL_round_28 : decode cL_round 28 = .ok (.iload_n 3, 1) := by decide +kernel
theorem dL_round_29 : decode cL_round 29 = .ok (.imul, 1) := by decide +kernel
theorem dL_round_30 : decode cL_round 30 = .ok (.iconst 2, 1) := by decide +kernel
theorem dL_round_31 : decode cL_round 31 = .ok (.iadd, 1) := by decide +kernel
theorem dL_round_32 : decode cL_round 32 = .ok (.iaload, 1) := by decide +kernel
theorem dL_round_33 : decode cL_round 33 = .ok (.goto 10, 3) := by decide +kernel
theorem dL_round_36 : decode cL_round 36 = .ok (.aload_n 1, 1) := by decide +kernel
theorem dL_round_37 : decode cL_round 37 = .ok (.iconst 5, 1) := by decide +kernel
theorem dL_round_38 : decode cL_round 38 = .ok (.iload_n 3, 1) := by decide +kernel
theorem dL_round_39 : decode cL_round 39 = .ok (.imul, 1) := by decide +kernel
theorem dL_round_40 : decode cL_round 40 = .ok (.iconst 1, 1) := by decide +kernel
theorem dL_round_41 : decode cL_round 41 = .ok (.iadd, 1) := by decide +kernel
theorem dL_round_42 : decode cL_round 42 = .ok (.iaload, 1) := by decide +kernel
theorem dL_round_43 : decode cL_round 43 = .ok (.istore 4, 2) := by decide +kernel
theorem dL_round_45 : decode cL_round 45 = .ok (.aload_n 1, 1) := by decide +kernel
theorem dL_round_46 : decode cL_round 46 = .ok (.iconst 5, 1) := by decide +kernel
theorem dL_round_47 : decode cL_round 47 = .ok (.iload_n 3, 1) := by decide +kernel
theorem dL_round_48 : decode cL_round 48 = .ok (.imul, 1) := by decide +kernel
theorem dL_round_49 : decode cL_round 49 = .ok (.iconst 1, 1) := by decide +kernel
theorem dL_round_50 : decode cL_round 50 = .ok (.iadd, 1) := by decide +kernel
theorem dL_round_51 : decode cL_round 51 = .ok (.dup2, 1) := by decide +kernel
theorem dL_round_52 : decode cL_round 52 = .ok (.iaload, 1) := by decide +kernel
theorem dL_round_53 : decode cL_round 53 = .ok (.iload 4, 2) := by decide +kernel
theorem dL_round_55 : decode cL_round 55 = .ok (.isub, 1) := by decide +kernel
theorem dL_round_56 : decode cL_round 56 = .ok (.iastore, 1) := by decide +kernel
theorem dL_round_57 : decode cL_round 57 = .ok (.aload_n 0, 1) := by decide +kernel
theorem dL_round_58 : decode cL_round 58 = .ok (.iconst 5, 1) := by decide +kernel
theorem dL_round_59 : decode cL_round 59 = .ok (.dup2, 1) := by decide +kernel
theorem dL_round_60 : decode cL_round 60 = .ok (.iaload, 1) := by decide +kernel
theorem dL_round_61 : decode cL_round 61 = .ok (.iload 4, 2) := by decide +kernel
theorem dL_round_63 : decode cL_round 63 = .ok (.iadd, 1) := by decide +kernel
theorem dL_round_64 : decode cL_round 64 = .ok (.iastore, 1) := by decide +kernel
theorem dL_round_65 : decode cL_round 65 = .ok (.iinc 3 1, 3) := by decide +kernel
theorem dL_round_68 : decode cL_round 68 = .ok (.goto (-66), 3) := by decide +kernel
theorem dL_round_71 : decode cL_round 71 = .ok (.iconst 0, 1) := by decide +kernel
theorem dL_round_72 : decode cL_round 72 = .ok (.istore_n 3, 1) := by decide +kernel
theorem dL_round_73 : decode cL_round 73 = .ok (.iconst 0, 1) := by decide +kernel
theorem dL_round_74 : decode cL_round 74 = .ok (.istore 4, 2) := by decide +kernel
theorem dL_round_76 : decode cL_round 76 = .ok (.iload 4, 2) := by decide +kernel
theorem dL_round_78 : decode cL_round 78 = .ok (.aload_n 0, 1) := by decide +kernel
theorem dL_round_79 : decode cL_round 79 = .ok (.iconst 2, 1) := by decide +kernel
theorem dL_round_80 : decode cL_round 80 = .ok (.iaload, 1) := by decide +kernel
theorem dL_round_81 : decode cL_round 81 = .ok (.if_icmp .ge 100, 3) := by decide +kernel
theorem dL_round_84 : decode cL_round 84 = .ok (.iconst 5, 1) := by decide +kernel
theorem dL_round_85 : decode cL_round 85 = .ok (.aload_n 2, 1) := by decide +kernel
theorem dL_round_86 : decode cL_round 86 = .ok (.iconst 5, 1) := by decide +kernel
theorem dL_round_87 : decode cL_round 87 = .ok (.iload 4, 2) := by decide +kernel
theorem dL_round_89 : decode cL_round 89 = .ok (.imul, 1) := by decide +kernel
theorem dL_round_90 : decode cL_round 90 = .ok (.iconst 1, 1) := by decide +kernel
theorem dL_round_91 : decode cL_round 91 = .ok (.iadd, 1) := by decide +kernel
theorem dL_round_92 : decode cL_round 92 = .ok (.iaload, 1) := by decide +kernel
theorem dL_round_93 : decode cL_round 93 = .ok (.imul, 1) := by decide +kernel
theorem dL_round_94 : decode cL_round 94 = .ok (.istore 5, 2) := by decide +kernel
theorem dL_round_96 : decode cL_round 96 = .ok (.aload_n 2, 1) := by decide +kernel
theorem dL_round_97 : decode cL_round 97 = .ok (.iload 4, 2) := by decide +kernel
theorem dL_round_99 : decode cL_round 99 = .ok (.invokestatic 59, 3) := by decide +kernel
theorem dL_round_102 : decode cL_round 102 = .ok (.istore 6, 2) := by decide +kernel
theorem dL_round_104 : decode cL_round 104 = .ok (.iload_n 3, 1) := by decide +kernel
theorem dL_round_105 : decode cL_round 105 = .ok (.aload_n 1, 1) := by decide +kernel
theorem dL_round_106 : decode cL_round 106 = .ok (.iload 5, 2) := by decide +kernel
theorem dL_round_108 : decode cL_round 108 = .ok (.iconst 1, 1) := by decide +kernel
theorem dL_round_109 : decode cL_round 109 = .ok (.iadd, 1) := by decide +kernel
theorem dL_round_110 : decode cL_round 110 = .ok (.iaload, 1) := by decide +kernel
theorem dL_round_111 : decode cL_round 111 = .ok (.iload 6, 2) := by decide +kernel
theorem dL_round_113 : decode cL_round 113 = .ok (.if_icmp .ge 16, 3) := by decide +kernel
theorem dL_round_116 : decode cL_round 116 = .ok (.iconst 1, 1) := by decide +kernel
theorem dL_round_117 : decode cL_round 117 = .ok (.aload_n 2, 1) := by decide +kernel
theorem dL_round_118 : decode cL_round 118 = .ok (.iconst 5, 1) := by decide +kernel
theorem dL_round_119 : decode cL_round 119 = .ok (.iload 4, 2) := by decide +kernel
theorem dL_round_121 : decode cL_round 121 = .ok (.imul, 1) := by decide +kernel
theorem dL_round_122 : decode cL_round 122 = .ok (.iconst 1, 1) := by decide +kernel
theorem dL_round_123 : decode cL_round 123 = .ok (.iadd, 1) := by decide +kernel
theorem dL_round_124 : decode cL_round 124 = .ok (.iaload, 1) := by decide +kernel
theorem dL_round_125 : decode cL_round 125 = .ok (.ishl, 1) := by decide +kernel
theorem dL_round_126 : decode cL_round 126 = .ok (.goto 4, 3) := by decide +kernel
theorem dL_round_129 : decode cL_round 129 = .ok (.iconst 0, 1) := by decide +kernel
theorem dL_round_130 : decode cL_round 130 = .ok (.ior, 1) := by decide +kernel
theorem dL_round_131 : decode cL_round 131 = .ok (.istore_n 3, 1) := by decide +kernel
theorem dL_round_132 : decode cL_round 132 = .ok (.aload_n 1, 1) := by decide +kernel
theorem dL_round_133 : decode cL_round 133 = .ok (.iload 5, 2) := by decide +kernel
theorem dL_round_135 : decode cL_round 135 = .ok (.iconst 1, 1) := by decide +kernel
theorem dL_round_136 : decode cL_round 136 = .ok (.iadd, 1) := by decide +kernel
theorem dL_round_137 : decode cL_round 137 = .ok (.iaload, 1) := by decide +kernel
theorem dL_round_138 : decode cL_round 138 = .ok (.iload 6, 2) := by decide +kernel
theorem dL_round_140 : decode cL_round 140 = .ok (.if_icmp .ge 12, 3) := by decide +kernel
theorem dL_round_143 : decode cL_round 143 = .ok (.aload_n 1, 1) := by decide +kernel
theorem dL_round_144 : decode cL_round 144 = .ok (.iload 5, 2) := by decide +kernel
theorem dL_round_146 : decode cL_round 146 = .ok (.iconst 1, 1) := by decide +kernel
theorem dL_round_147 : decode cL_round 147 = .ok (.iadd, 1) := by decide +kernel
theorem dL_round_148 : decode cL_round 148 = .ok (.iaload, 1) := by decide +kernel
theorem dL_round_149 : decode cL_round 149 = .ok (.goto 5, 3) := by decide +kernel
theorem dL_round_152 : decode cL_round 152 = .ok (.iload 6, 2) := by decide +kernel
theorem dL_round_154 : decode cL_round 154 = .ok (.istore 6, 2) := by decide +kernel
theorem dL_round_156 : decode cL_round 156 = .ok (.aload_n 1, 1) := by decide +kernel
theorem dL_round_157 : decode cL_round 157 = .ok (.iload 5, 2) := by decide +kernel
theorem dL_round_159 : decode cL_round 159 = .ok (.iconst 1, 1) := by decide +kernel
theorem dL_round_160 : decode cL_round 160 = .ok (.iadd, 1) := by decide +kernel
theorem dL_round_161 : decode cL_round 161 = .ok (.dup2, 1) := by decide +kernel
theorem dL_round_162 : decode cL_round 162 = .ok (.iaload, 1) := by decide +kernel
theorem dL_round_163 : decode cL_round 163 = .ok (.iload 6, 2) := by decide +kernel
theorem dL_round_165 : decode cL_round 165 = .ok (.isub, 1) := by decide +kernel
theorem dL_round_166 : decode cL_round 166 = .ok (.iastore, 1) := by decide +kernel
theorem dL_round_167 : decode cL_round 167 = .ok (.aload_n 0, 1) := by decide +kernel
theorem dL_round_168 : decode cL_round 168 = .ok (.iconst 5, 1) := by decide +kernel
theorem dL_round_169 : decode cL_round 169 = .ok (.dup2, 1) := by decide +kernel
theorem dL_round_170 : decode cL_round 170 = .ok (.iaload, 1) := by decide +kernel
theorem dL_round_171 : decode cL_round 171 = .ok (.iload 6, 2) := by decide +kernel
theorem dL_round_173 : decode cL_round 173 = .ok (.iadd, 1) := by decide +kernel
theorem dL_round_174 : decode cL_round 174 = .ok (.iastore, 1) := by decide +kernel
theorem dL_round_175 : decode cL_round 175 = .ok (.iinc 4 1, 3) := by decide +kernel
theorem dL_round_178 : decode cL_round 178 = .ok (.goto (-102), 3) := by decide +kernel
theorem dL_round_181 : decode cL_round 181 = .ok (.iconst 0, 1) := by decide +kernel
theorem dL_round_182 : decode cL_round 182 = .ok (.istore 4, 2) := by decide +kernel
theorem dL_round_184 : decode cL_round 184 = .ok (.iconst 0, 1) := by decide +kernel
theorem dL_round_185 : decode cL_round 185 = .ok (.istore 5, 2) := by decide +kernel
theorem dL_round_187 : decode cL_round 187 = .ok (.iload 5, 2) := by decide +kernel
theorem dL_round_189 : decode cL_round 189 = .ok (.aload_n 0, 1) := by decide +kernel
theorem dL_round_190 : decode cL_round 190 = .ok (.iconst 1, 1) := by decide +kernel
theorem dL_round_191 : decode cL_round 191 = .ok (.iaload, 1) := by decide +kernel
theorem dL_round_192 : decode cL_round 192 = .ok (.if_icmp .ge 81, 3) := by decide +kernel
theorem dL_round_195 : decode cL_round 195 = .ok (.aload_n 1, 1) := by decide +kernel
theorem dL_round_196 : decode cL_round 196 = .ok (.iconst 5, 1) := by decide +kernel
theorem dL_round_197 : decode cL_round 197 = .ok (.iload 5, 2) := by decide +kernel
theorem dL_round_199 : decode cL_round 199 = .ok (.imul, 1) := by decide +kernel
theorem dL_round_200 : decode cL_round 200 = .ok (.iconst 4, 1) := by decide +kernel
theorem dL_round_201 : decode cL_round 201 = .ok (.iadd, 1) := by decide +kernel
theorem dL_round_202 : decode cL_round 202 = .ok (.iaload, 1) := by decide +kernel
theorem dL_round_203 : decode cL_round 203 = .ok (.ifCond .ne 64, 3) := by decide +kernel
theorem dL_round_206 : decode cL_round 206 = .ok (.aload_n 1, 1) := by decide +kernel
theorem dL_round_207 : decode cL_round 207 = .ok (.iconst 5, 1) := by decide +kernel
theorem dL_round_208 : decode cL_round 208 = .ok (.iload 5, 2) := by decide +kernel
theorem dL_round_210 : decode cL_round 210 = .ok (.imul, 1) := by decide +kernel
theorem dL_round_211 : decode cL_round 211 = .ok (.iconst 3, 1) := by decide +kernel
theorem dL_round_212 : decode cL_round 212 = .ok (.iadd, 1) := by decide +kernel
theorem dL_round_213 : decode cL_round 213 = .ok (.iload_n 3, 1) := by decide +kernel
theorem dL_round_214 : decode cL_round 214 = .ok (.iload 5, 2) := by decide +kernel
theorem dL_round_216 : decode cL_round 216 = .ok (.ishr, 1) := by decide +kernel
theorem dL_round_217 : decode cL_round 217 = .ok (.iconst 1, 1) := by decide +kernel
theorem dL_round_218 : decode cL_round 218 = .ok (.iand, 1) := by decide +kernel
theorem dL_round_219 : decode cL_round 219 = .ok (.iconst 1, 1) := by decide +kernel
