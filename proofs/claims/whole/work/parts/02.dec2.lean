theorem dX3_most_3 : decode cX3_most 3 = .ok (.iload_n 1, 1) := by decide +kernel
theorem dX3_most_4 : decode cX3_most 4 = .ok (.iconst 1, 1) := by decide +kernel
theorem dX3_most_5 : decode cX3_most 5 = .ok (.if_icmp .lt 33, 3) := by decide +kernel
theorem dX3_most_8 : decode cX3_most 8 = .ok (.aload_n 0, 1) := by decide +kernel
theorem dX3_most_9 : decode cX3_most 9 = .ok (.getfield 38, 3) := by decide +kernel
theorem dX3_most_12 : decode cX3_most 12 = .ok (.aload_n 0, 1) := by decide +kernel
theorem dX3_most_13 : decode cX3_most 13 = .ok (.getfield 19, 3) := by decide +kernel
theorem dX3_most_16 : decode cX3_most 16 = .ok (.invokevirtual 77, 3) := by decide +kernel
theorem dX3_most_19 : decode cX3_most 19 = .ok (.aload_n 0, 1) := by decide +kernel
theorem dX3_most_20 : decode cX3_most 20 = .ok (.getfield 38, 3) := by decide +kernel
theorem dX3_most_23 : decode cX3_most 23 = .ok (.iload_n 1, 1) := by decide +kernel
theorem dX3_most_24 : decode cX3_most 24 = .ok (.invokevirtual 226, 3) := by decide +kernel
theorem dX3_most_27 : decode cX3_most 27 = .ok (.ifCond .le 5, 3) := by decide +kernel
theorem dX3_most_30 : decode cX3_most 30 = .ok (.iload_n 1, 1) := by decide +kernel
theorem dX3_most_31 : decode cX3_most 31 = .ok (.ireturn, 1) := by decide +kernel
theorem dX3_most_32 : decode cX3_most 32 = .ok (.iinc 1 (-1), 3) := by decide +kernel
theorem dX3_most_35 : decode cX3_most 35 = .ok (.goto (-32), 3) := by decide +kernel
theorem dX3_most_38 : decode cX3_most 38 = .ok (.iconst 0, 1) := by decide +kernel
theorem dX3_most_39 : decode cX3_most 39 = .ok (.ireturn, 1) := by decide +kernel
theorem dX3_bestLender_0 : decode cX3_bestLender 0 = .ok (.aload_n 0, 1) := by decide +kernel
theorem dX3_bestLender_1 : decode cX3_bestLender 1 = .ok (.getfield 19, 3) := by decide +kernel
theorem dX3_bestLender_4 : decode cX3_bestLender 4 = .ok (.iload_n 1, 1) := by decide +kernel
theorem dX3_bestLender_5 : decode cX3_bestLender 5 = .ok (.invokevirtual 117, 3) := by decide +kernel
theorem dX3_bestLender_8 : decode cX3_bestLender 8 = .ok (.ifCond .ne 13, 3) := by decide +kernel
theorem dX3_bestLender_11 : decode cX3_bestLender 11 = .ok (.new 121, 3) := by decide +kernel
theorem dX3_bestLender_14 : decode cX3_bestLender 14 = .ok (.dup, 1) := by decide +kernel
theorem dX3_bestLender_15 : decode cX3_bestLender 15 = .ok (.ldc 123, 2) := by decide +kernel
theorem dX3_bestLender_17 : decode cX3_bestLender 17 = .ok (.invokespecial 125, 3) := by decide +kernel
theorem dX3_bestLender_20 : decode cX3_bestLender 20 = .ok (.athrow, 1) := by decide +kernel
theorem dX3_bestLender_21 : decode cX3_bestLender 21 = .ok (.iload_n 2, 1) := by decide +kernel
theorem dX3_bestLender_22 : decode cX3_bestLender 22 = .ok (.invokestatic 195, 3) := by decide +kernel
theorem dX3_bestLender_25 : decode cX3_bestLender 25 = .ok (.ifCond .ne 13, 3) := by decide +kernel
theorem dX3_bestLender_28 : decode cX3_bestLender 28 = .ok (.new 48, 3) := by decide +kernel
theorem dX3_bestLender_31 : decode cX3_bestLender 31 = .ok (.dup, 1) := by decide +kernel
theorem dX3_bestLender_32 : decode cX3_bestLender 32 = .ok (.ldc 209, 2) := by decide +kernel
theorem dX3_bestLender_34 : decode cX3_bestLender 34 = .ok (.invokespecial 52, 3) := by decide +kernel
theorem dX3_bestLender_37 : decode cX3_bestLender 37 = .ok (.athrow, 1) := by decide +kernel
theorem dX3_bestLender_38 : decode cX3_bestLender 38 = .ok (.aload_n 0, 1) := by decide +kernel
theorem dX3_bestLender_39 : decode cX3_bestLender 39 = .ok (.getfield 19, 3) := by decide +kernel
theorem dX3_bestLender_42 : decode cX3_bestLender 42 = .ok (.iload_n 1, 1) := by decide +kernel
theorem dX3_bestLender_43 : decode cX3_bestLender 43 = .ok (.iload_n 2, 1) := by decide +kernel
theorem dX3_bestLender_44 : decode cX3_bestLender 44 = .ok (.invokevirtual 250, 3) := by decide +kernel
theorem dX3_bestLender_47 : decode cX3_bestLender 47 = .ok (.ireturn, 1) := by decide +kernel
theorem dX3_costs_0 : decode cX3_costs 0 = .ok (.aload_n 0, 1) := by decide +kernel
theorem dX3_costs_1 : decode cX3_costs 1 = .ok (.getfield 19, 3) := by decide +kernel
theorem dX3_costs_4 : decode cX3_costs 4 = .ok (.iload_n 1, 1) := by decide +kernel
theorem dX3_costs_5 : decode cX3_costs 5 = .ok (.invokevirtual 154, 3) := by decide +kernel
theorem dX3_costs_8 : decode cX3_costs 8 = .ok (.ifCond .ne 13, 3) := by decide +kernel
theorem dX3_costs_11 : decode cX3_costs 11 = .ok (.new 121, 3) := by decide +kernel
theorem dX3_costs_14 : decode cX3_costs 14 = .ok (.dup, 1) := by decide +kernel
theorem dX3_costs_15 : decode cX3_costs 15 = .ok (.ldc 157, 2) := by decide +kernel
theorem dX3_costs_17 : decode cX3_costs 17 = .ok (.invokespecial 125, 3) := by decide +kernel
theorem dX3_costs_20 : decode cX3_costs 20 = .ok (.athrow, 1) := by decide +kernel
theorem dX3_costs_21 : decode cX3_costs 21 = .ok (.iload_n 2, 1) := by decide +kernel
theorem dX3_costs_22 : decode cX3_costs 22 = .ok (.iconst 1, 1) := by decide +kernel
theorem dX3_costs_23 : decode cX3_costs 23 = .ok (.bipush 50, 2) := by decide +kernel
theorem dX3_costs_25 : decode cX3_costs 25 = .ok (.invokestatic 44, 3) := by decide +kernel
theorem dX3_costs_28 : decode cX3_costs 28 = .ok (.ifCond .ne 13, 3) := by decide +kernel
theorem dX3_costs_31 : decode cX3_costs 31 = .ok (.new 48, 3) := by decide +kernel
theorem dX3_costs_34 : decode cX3_costs 34 = .ok (.dup, 1) := by decide +kernel
theorem dX3_costs_35 : decode cX3_costs 35 = .ok (.ldc 231, 2) := by decide +kernel
theorem dX3_costs_37 : decode cX3_costs 37 = .ok (.invokespecial 52, 3) := by decide +kernel
theorem dX3_costs_40 : decode cX3_costs 40 = .ok (.athrow, 1) := by decide +kernel
theorem dX3_costs_41 : decode cX3_costs 41 = .ok (.aload_n 0, 1) := by decide +kernel
theorem dX3_costs_42 : decode cX3_costs 42 = .ok (.getfield 38, 3) := by decide +kernel
theorem dX3_costs_45 : decode cX3_costs 45 = .ok (.aload_n 0, 1) := by decide +kernel
theorem dX3_costs_46 : decode cX3_costs 46 = .ok (.getfield 19, 3) := by decide +kernel
theorem dX3_costs_49 : decode cX3_costs 49 = .ok (.invokevirtual 77, 3) := by decide +kernel
theorem dX3_costs_52 : decode cX3_costs 52 = .ok (.aload_n 0, 1) := by decide +kernel
theorem dX3_costs_53 : decode cX3_costs 53 = .ok (.getfield 38, 3) := by decide +kernel
theorem dX3_costs_56 : decode cX3_costs 56 = .ok (.iload_n 1, 1) := by decide +kernel
theorem dX3_costs_57 : decode cX3_costs 57 = .ok (.putfield 253, 3) := by decide +kernel
theorem dX3_costs_60 : decode cX3_costs 60 = .ok (.aload_n 0, 1) := by decide +kernel
theorem dX3_costs_61 : decode cX3_costs 61 = .ok (.getfield 38, 3) := by decide +kernel
theorem dX3_costs_64 : decode cX3_costs 64 = .ok (.iload_n 2, 1) := by decide +kernel
theorem dX3_costs_65 : decode cX3_costs 65 = .ok (.invokevirtual 233, 3) := by decide +kernel
theorem dX3_costs_68 : decode cX3_costs 68 = .ok (.pop, 1) := by decide +kernel
theorem dX3_costs_69 : decode cX3_costs 69 = .ok (.aload_n 0, 1) := by decide +kernel
theorem dX3_costs_70 : decode cX3_costs 70 = .ok (.getfield 38, 3) := by decide +kernel
theorem dX3_costs_73 : decode cX3_costs 73 = .ok (.getfield 256, 3) := by decide +kernel
theorem dX3_costs_76 : decode cX3_costs 76 = .ok (.ireturn, 1) := by decide +kernel
theorem dX3_runScript_0 : decode cX3_runScript 0 = .ok (.iload_n 1, 1) := by decide +kernel
theorem dX3_runScript_1 : decode cX3_runScript 1 = .ok (.iconst 1, 1) := by decide +kernel
theorem dX3_runScript_2 : decode cX3_runScript 2 = .ok (.iconst 3, 1) := by decide +kernel
theorem dX3_runScript_3 : decode cX3_runScript 3 = .ok (.invokestatic 44, 3) := by decide +kernel
theorem dX3_runScript_6 : decode cX3_runScript 6 = .ok (.ifCond .ne 14, 3) := by decide +kernel
theorem dX3_runScript_9 : decode cX3_runScript 9 = .ok (.new 48, 3) := by decide +kernel
theorem dX3_runScript_12 : decode cX3_runScript 12 = .ok (.dup, 1) := by decide +kernel
theorem dX3_runScript_13 : decode cX3_runScript 13 = .ok (.ldc_w 259, 3) := by decide +kernel
theorem dX3_runScript_16 : decode cX3_runScript 16 = .ok (.invokespecial 52, 3) := by decide +kernel
theorem dX3_runScript_19 : decode cX3_runScript 19 = .ok (.athrow, 1) := by decide +kernel
theorem dX3_runScript_20 : decode cX3_runScript 20 = .ok (.lload_n 2, 1) := by decide +kernel
theorem dX3_runScript_21 : decode cX3_runScript 21 = .ok (.lconst 0, 1) := by decide +kernel
theorem dX3_runScript_22 : decode cX3_runScript 22 = .ok (.lcmp, 1) := by decide +kernel
theorem dX3_runScript_23 : decode cX3_runScript 23 = .ok (.ifCond .lt 13, 3) := by decide +kernel
theorem dX3_runScript_26 : decode cX3_runScript 26 = .ok (.lload_n 2, 1) := by decide +kernel
theorem dX3_runScript_27 : decode cX3_runScript 27 = .ok (.iload_n 1, 1) := by decide +kernel
theorem dX3_runScript_28 : decode cX3_runScript 28 = .ok (.invokestatic 261, 3) := by decide +kernel
theorem dX3_runScript_31 : decode cX3_runScript 31 = .ok (.lconst 0, 1) := by decide +kernel
theorem dX3_runScript_32 : decode cX3_runScript 32 = .ok (.lcmp, 1) := by decide +kernel
theorem dX3_runScript_33 : decode cX3_runScript 33 = .ok (.ifCond .le 14, 3) := by decide +kernel
theorem dX3_runScript_36 : decode cX3_runScript 36 = .ok (.new 48, 3) := by decide +kernel
theorem dX3_runScript_39 : decode cX3_runScript 39 = .ok (.dup, 1) := by decide +kernel
theorem dX3_runScript_40 : decode cX3_runScript 40 = .ok (.ldc_w 265, 3) := by decide +kernel
theorem dX3_runScript_43 : decode cX3_runScript 43 = .ok (.invokespecial 52, 3) := by decide +kernel
theorem dX3_runScript_46 : decode cX3_runScript 46 = .ok (.athrow, 1) := by decide +kernel
theorem dX3_runScript_47 : decode cX3_runScript 47 = .ok (.aload_n 0, 1) := by decide +kernel
theorem dX3_runScript_48 : decode cX3_runScript 48 = .ok (.getfield 38, 3) := by decide +kernel
theorem dX3_runScript_51 : decode cX3_runScript 51 = .ok (.aload_n 0, 1) := by decide +kernel
theorem dX3_runScript_52 : decode cX3_runScript 52 = .ok (.getfield 19, 3) := by decide +kernel
theorem dX3_runScript_55 : decode cX3_runScript 55 = .ok (.invokevirtual 77, 3) := by decide +kernel
theorem dX3_runScript_58 : decode cX3_runScript 58 = .ok (.iconst 0, 1) := by decide +kernel
theorem dX3_runScript_59 : decode cX3_runScript 59 = .ok (.istore 4, 2) := by decide +kernel
theorem dX3_runScript_61 : decode cX3_runScript 61 = .ok (.iload 4, 2) := by decide +kernel
theorem dX3_runScript_63 : decode cX3_runScript 63 = .ok (.iload_n 1, 1) := by decide +kernel
theorem dX3_runScript_64 : decode cX3_runScript 64 = .ok (.if_icmp .ge 41, 3) := by decide +kernel
theorem dX3_runScript_67 : decode cX3_runScript 67 = .ok (.lload_n 2, 1) := by decide +kernel
theorem dX3_runScript_68 : decode cX3_runScript 68 = .ok (.iload_n 1, 1) := by decide +kernel
theorem dX3_runScript_69 : decode cX3_runScript 69 = .ok (.iconst 1, 1) := by decide +kernel
theorem dX3_runScript_70 : decode cX3_runScript 70 = .ok (.isub, 1) := by decide +kernel
theorem dX3_runScript_71 : decode cX3_runScript 71 = .ok (.iload 4, 2) := by decide +kernel
theorem dX3_runScript_73 : decode cX3_runScript 73 = .ok (.isub, 1) := by decide +kernel
theorem dX3_runScript_74 : decode cX3_runScript 74 = .ok (.invokestatic 261, 3) := by decide +kernel
theorem dX3_runScript_77 : decode cX3_runScript 77 = .ok (.lstore 5, 2) := by decide +kernel
theorem dX3_runScript_79 : decode cX3_runScript 79 = .ok (.aload_n 0, 1) := by decide +kernel
theorem dX3_runScript_80 : decode cX3_runScript 80 = .ok (.getfield 38, 3) := by decide +kernel
theorem dX3_runScript_83 : decode cX3_runScript 83 = .ok (.lload 5, 2) := by decide +kernel
theorem dX3_runScript_85 : decode cX3_runScript 85 = .ok (.ldc2_w 267, 3) := by decide +kernel
theorem dX3_runScript_88 : decode cX3_runScript 88 = .ok (.lrem, 1) := by decide +kernel
theorem dX3_runScript_89 : decode cX3_runScript 89 = .ok (.l2i, 1) := by decide +kernel
theorem dX3_runScript_90 : decode cX3_runScript 90 = .ok (.invokestatic 269, 3) := by decide +kernel
theorem dX3_runScript_93 : decode cX3_runScript 93 = .ok (.ifCond .ne 6, 3) := by decide +kernel
theorem dX3_runScript_96 : decode cX3_runScript 96 = .ok (.iload 4, 2) := by decide +kernel
theorem dX3_runScript_98 : decode cX3_runScript 98 = .ok (.ireturn, 1) := by decide +kernel
theorem dX3_runScript_99 : decode cX3_runScript 99 = .ok (.iinc 4 1, 3) := by decide +kernel
theorem dX3_runScript_102 : decode cX3_runScript 102 = .ok (.goto (-41), 3) := by decide +kernel
theorem dX3_runScript_105 : decode cX3_runScript 105 = .ok (.bipush (-9), 2) := by decide +kernel
theorem dX3_runScript_107 : decode cX3_runScript 107 = .ok (.ireturn, 1) := by decide +kernel
theorem dX3_simulate_0 : decode cX3_simulate 0 = .ok (.iload_n 3, 1) := by decide +kernel
theorem dX3_simulate_1 : decode cX3_simulate 1 = .ok (.iconst 1, 1) := by decide +kernel
theorem dX3_simulate_2 : decode cX3_simulate 2 = .ok (.bipush 99, 2) := by decide +kernel
theorem dX3_simulate_4 : decode cX3_simulate 4 = .ok (.invokestatic 44, 3) := by decide +kernel
theorem dX3_simulate_7 : decode cX3_simulate 7 = .ok (.ifCond .ne 14, 3) := by decide +kernel
theorem dX3_simulate_10 : decode cX3_simulate 10 = .ok (.new 48, 3) := by decide +kernel
theorem dX3_simulate_13 : decode cX3_simulate 13 = .ok (.dup, 1) := by decide +kernel
theorem dX3_simulate_14 : decode cX3_simulate 14 = .ok (.ldc_w 273, 3) := by decide +kernel
theorem dX3_simulate_17 : decode cX3_simulate 17 = .ok (.invokespecial 52, 3) := by decide +kernel
theorem dX3_simulate_20 : decode cX3_simulate 20 = .ok (.athrow, 1) := by decide +kernel
theorem dX3_simulate_21 : decode cX3_simulate 21 = .ok (.aload_n 0, 1) := by decide +kernel
theorem dX3_simulate_22 : decode cX3_simulate 22 = .ok (.getfield 38, 3) := by decide +kernel
theorem dX3_simulate_25 : decode cX3_simulate 25 = .ok (.aload_n 0, 1) := by decide +kernel
theorem dX3_simulate_26 : decode cX3_simulate 26 = .ok (.getfield 19, 3) := by decide +kernel
theorem dX3_simulate_29 : decode cX3_simulate 29 = .ok (.invokevirtual 77, 3) := by decide +kernel
theorem dX3_simulate_32 : decode cX3_simulate 32 = .ok (.lload_n 1, 1) := by decide +kernel
theorem dX3_simulate_33 : decode cX3_simulate 33 = .ok (.lstore 4, 2) := by decide +kernel
theorem dX3_simulate_35 : decode cX3_simulate 35 = .ok (.iconst 0, 1) := by decide +kernel
theorem dX3_simulate_36 : decode cX3_simulate 36 = .ok (.istore 6, 2) := by decide +kernel
theorem dX3_simulate_38 : decode cX3_simulate 38 = .ok (.iconst 0, 1) := by decide +kernel
theorem dX3_simulate_39 : decode cX3_simulate 39 = .ok (.istore 7, 2) := by decide +kernel
theorem dX3_simulate_41 : decode cX3_simulate 41 = .ok (.iload 7, 2) := by decide +kernel
theorem dX3_simulate_43 : decode cX3_simulate 43 = .ok (.iload_n 3, 1) := by decide +kernel
theorem dX3_simulate_44 : decode cX3_simulate 44 = .ok (.if_icmp .ge 89, 3) := by decide +kernel
theorem dX3_simulate_47 : decode cX3_simulate 47 = .ok (.lload 4, 2) := by decide +kernel
theorem dX3_simulate_49 : decode cX3_simulate 49 = .ok (.ldc2_w 275, 3) := by decide +kernel
theorem dX3_simulate_52 : decode cX3_simulate 52 = .ok (.lmul, 1) := by decide +kernel
theorem dX3_simulate_53 : decode cX3_simulate 53 = .ok (.ldc2_w 277, 3) := by decide +kernel
theorem dX3_simulate_56 : decode cX3_simulate 56 = .ok (.ladd, 1) := by decide +kernel
theorem dX3_simulate_57 : decode cX3_simulate 57 = .ok (.lstore 4, 2) := by decide +kernel
theorem dX3_simulate_59 : decode cX3_simulate 59 = .ok (.lload 4, 2) := by decide +kernel
theorem dX3_simulate_61 : decode cX3_simulate 61 = .ok (.bipush 33, 2) := by decide +kernel
theorem dX3_simulate_63 : decode cX3_simulate 63 = .ok (.lushr, 1) := by decide +kernel
theorem dX3_simulate_64 : decode cX3_simulate 64 = .ok (.l2i, 1) := by decide +kernel
theorem dX3_simulate_65 : decode cX3_simulate 65 = .ok (.istore 8, 2) := by decide +kernel
theorem dX3_simulate_67 : decode cX3_simulate 67 = .ok (.iconst 1, 1) := by decide +kernel
theorem dX3_simulate_68 : decode cX3_simulate 68 = .ok (.iload 8, 2) := by decide +kernel
theorem dX3_simulate_70 : decode cX3_simulate 70 = .ok (.iconst 4, 1) := by decide +kernel
theorem dX3_simulate_71 : decode cX3_simulate 71 = .ok (.idiv, 1) := by decide +kernel
theorem dX3_simulate_72 : decode cX3_simulate 72 = .ok (.bipush 9, 2) := by decide +kernel
theorem dX3_simulate_74 : decode cX3_simulate 74 = .ok (.irem, 1) := by decide +kernel
theorem dX3_simulate_75 : decode cX3_simulate 75 = .ok (.iadd, 1) := by decide +kernel
theorem dX3_simulate_76 : decode cX3_simulate 76 = .ok (.istore 9, 2) := by decide +kernel
theorem dX3_simulate_78 : decode cX3_simulate 78 = .ok (.iload 8, 2) := by decide +kernel
theorem dX3_simulate_80 : decode cX3_simulate 80 = .ok (.iconst 4, 1) := by decide +kernel
theorem dX3_simulate_81 : decode cX3_simulate 81 = .ok (.irem, 1) := by decide +kernel
theorem dX3_simulate_82 : decode cX3_simulate 82 = .ok (.ifCond .ne 16, 3) := by decide +kernel
theorem dX3_simulate_85 : decode cX3_simulate 85 = .ok (.aload_n 0, 1) := by decide +kernel
theorem dX3_simulate_86 : decode cX3_simulate 86 = .ok (.getfield 38, 3) := by decide +kernel
theorem dX3_simulate_89 : decode cX3_simulate 89 = .ok (.iload 9, 2) := by decide +kernel
theorem dX3_simulate_91 : decode cX3_simulate 91 = .ok (.invokevirtual 223, 3) := by decide +kernel
theorem dX3_simulate_94 : decode cX3_simulate 94 = .ok (.pop, 1) := by decide +kernel
theorem dX3_simulate_95 : decode cX3_simulate 95 = .ok (.goto 17, 3) := by decide +kernel
theorem dX3_simulate_98 : decode cX3_simulate 98 = .ok (.iload 8, 2) := by decide +kernel
theorem dX3_simulate_100 : decode cX3_simulate 100 = .ok (.iconst 4, 1) := by decide +kernel
theorem dX3_simulate_101 : decode cX3_simulate 101 = .ok (.irem, 1) := by decide +kernel
theorem dX3_simulate_102 : decode cX3_simulate 102 = .ok (.iconst 3, 1) := by decide +kernel
theorem dX3_simulate_103 : decode cX3_simulate 103 = .ok (.if_icmp .eq 9, 3) := by decide +kernel
theorem dX3_simulate_106 : decode cX3_simulate 106 = .ok (.aload_n 0, 1) := by decide +kernel
theorem dX3_simulate_107 : decode cX3_simulate 107 = .ok (.iload 9, 2) := by decide +kernel
theorem dX3_simulate_109 : decode cX3_simulate 109 = .ok (.invokevirtual 279, 3) := by decide +kernel
theorem dX3_simulate_112 : decode cX3_simulate 112 = .ok (.iload 6, 2) := by decide +kernel
theorem dX3_simulate_114 : decode cX3_simulate 114 = .ok (.aload_n 0, 1) := by decide +kernel
theorem dX3_simulate_115 : decode cX3_simulate 115 = .ok (.getfield 38, 3) := by decide +kernel
theorem dX3_simulate_118 : decode cX3_simulate 118 = .ok (.invokevirtual 247, 3) := by decide +kernel
theorem dX3_simulate_121 : decode cX3_simulate 121 = .ok (.invokestatic 283, 3) := by decide +kernel
theorem dX3_simulate_124 : decode cX3_simulate 124 = .ok (.iadd, 1) := by decide +kernel
theorem dX3_simulate_125 : decode cX3_simulate 125 = .ok (.istore 6, 2) := by decide +kernel
theorem dX3_simulate_127 : decode cX3_simulate 127 = .ok (.iinc 7 1, 3) := by decide +kernel
theorem dX3_simulate_130 : decode cX3_simulate 130 = .ok (.goto (-89), 3) := by decide +kernel
theorem dX3_simulate_133 : decode cX3_simulate 133 = .ok (.ldc_w 288, 3) := by decide +kernel
theorem dX3_simulate_136 : decode cX3_simulate 136 = .ok (.iload 6, 2) := by decide +kernel
theorem dX3_simulate_138 : decode cX3_simulate 138 = .ok (.imul, 1) := by decide +kernel
theorem dX3_simulate_139 : decode cX3_simulate 139 = .ok (.aload_n 0, 1) := by decide +kernel
theorem dX3_simulate_140 : decode cX3_simulate 140 = .ok (.getfield 38, 3) := by decide +kernel
theorem dX3_simulate_143 : decode cX3_simulate 143 = .ok (.getfield 100, 3) := by decide +kernel
theorem dX3_simulate_146 : decode cX3_simulate 146 = .ok (.aload_n 0, 1) := by decide +kernel
theorem dX3_simulate_147 : decode cX3_simulate 147 = .ok (.getfield 19, 3) := by decide +kernel
theorem dX3_simulate_150 : decode cX3_simulate 150 = .ok (.getfield 100, 3) := by decide +kernel
theorem dX3_simulate_153 : decode cX3_simulate 153 = .ok (.isub, 1) := by decide +kernel
theorem dX3_simulate_154 : decode cX3_simulate 154 = .ok (.iadd, 1) := by decide +kernel
theorem dX3_simulate_155 : decode cX3_simulate 155 = .ok (.ireturn, 1) := by decide +kernel
theorem dX3_save_0 : decode cX3_save 0 = .ok (.iload_n 1, 1) := by decide +kernel
theorem dX3_save_1 : decode cX3_save 1 = .ok (.iconst 0, 1) := by decide +kernel
theorem dX3_save_2 : decode cX3_save 2 = .ok (.iconst 1, 1) := by decide +kernel
theorem dX3_save_3 : decode cX3_save 3 = .ok (.invokestatic 44, 3) := by decide +kernel
theorem dX3_save_6 : decode cX3_save 6 = .ok (.ifCond .ne 14, 3) := by decide +kernel
theorem dX3_save_9 : decode cX3_save 9 = .ok (.new 121, 3) := by decide +kernel
theorem dX3_save_12 : decode cX3_save 12 = .ok (.dup, 1) := by decide +kernel
theorem dX3_save_13 : decode cX3_save 13 = .ok (.ldc_w 289, 3) := by decide +kernel
theorem dX3_save_16 : decode cX3_save 16 = .ok (.invokespecial 125, 3) := by decide +kernel
theorem dX3_save_19 : decode cX3_save 19 = .ok (.athrow, 1) := by decide +kernel
theorem dX3_save_20 : decode cX3_save 20 = .ok (.aload_n 0, 1) := by decide +kernel
theorem dX3_save_21 : decode cX3_save 21 = .ok (.getfield 30, 3) := by decide +kernel
theorem dX3_save_24 : decode cX3_save 24 = .ok (.iload_n 1, 1) := by decide +kernel
theorem dX3_save_25 : decode cX3_save 25 = .ok (.aaload, 1) := by decide +kernel
theorem dX3_save_26 : decode cX3_save 26 = .ok (.aload_n 0, 1) := by decide +kernel
theorem dX3_save_27 : decode cX3_save 27 = .ok (.getfield 19, 3) := by decide +kernel
theorem dX3_save_30 : decode cX3_save 30 = .ok (.invokevirtual 77, 3) := by decide +kernel
theorem dX3_save_33 : decode cX3_save 33 = .ok (.aload_n 0, 1) := by decide +kernel
theorem dX3_save_34 : decode cX3_save 34 = .ok (.getfield 34, 3) := by decide +kernel
theorem dX3_save_37 : decode cX3_save 37 = .ok (.iload_n 1, 1) := by decide +kernel
theorem dX3_save_38 : decode cX3_save 38 = .ok (.iconst 1, 1) := by decide +kernel
theorem dX3_save_39 : decode cX3_save 39 = .ok (.bastore, 1) := by decide +kernel
theorem dX3_save_40 : decode cX3_save 40 = .ok (.aload_n 0, 1) := by decide +kernel
theorem dX3_save_41 : decode cX3_save 41 = .ok (.getfield 19, 3) := by decide +kernel
theorem dX3_save_44 : decode cX3_save 44 = .ok (.invokevirtual 93, 3) := by decide +kernel
theorem dX3_save_47 : decode cX3_save 47 = .ok (.ireturn, 1) := by decide +kernel
theorem dX3_restore_0 : decode cX3_restore 0 = .ok (.iload_n 1, 1) := by decide +kernel
theorem dX3_restore_1 : decode cX3_restore 1 = .ok (.iconst 0, 1) := by decide +kernel
theorem dX3_restore_2 : decode cX3_restore 2 = .ok (.iconst 1, 1) := by decide +kernel
theorem dX3_restore_3 : decode cX3_restore 3 = .ok (.invokestatic 44, 3) := by decide +kernel
theorem dX3_restore_6 : decode cX3_restore 6 = .ok (.ifCond .ne 14, 3) := by decide +kernel
theorem dX3_restore_9 : decode cX3_restore 9 = .ok (.new 121, 3) := by decide +kernel
theorem dX3_restore_12 : decode cX3_restore 12 = .ok (.dup, 1) := by decide +kernel
theorem dX3_restore_13 : decode cX3_restore 13 = .ok (.ldc_w 289, 3) := by decide +kernel
theorem dX3_restore_16 : decode cX3_restore 16 = .ok (.invokespecial 125, 3) := by decide +kernel
theorem dX3_restore_19 : decode cX3_restore 19 = .ok (.athrow, 1) := by decide +kernel
theorem dX3_restore_20 : decode cX3_restore 20 = .ok (.aload_n 0, 1) := by decide +kernel
theorem dX3_restore_21 : decode cX3_restore 21 = .ok (.getfield 34, 3) := by decide +kernel
theorem dX3_restore_24 : decode cX3_restore 24 = .ok (.iload_n 1, 1) := by decide +kernel
theorem dX3_restore_25 : decode cX3_restore 25 = .ok (.baload, 1) := by decide +kernel
theorem dX3_restore_26 : decode cX3_restore 26 = .ok (.ifCond .ne 14, 3) := by decide +kernel
theorem dX3_restore_29 : decode cX3_restore 29 = .ok (.new 59, 3) := by decide +kernel
theorem dX3_restore_32 : decode cX3_restore 32 = .ok (.dup, 1) := by decide +kernel
theorem dX3_restore_33 : decode cX3_restore 33 = .ok (.ldc_w 291, 3) := by decide +kernel
theorem dX3_restore_36 : decode cX3_restore 36 = .ok (.invokespecial 63, 3) := by decide +kernel
theorem dX3_restore_39 : decode cX3_restore 39 = .ok (.athrow, 1) := by decide +kernel
theorem dX3_restore_40 : decode cX3_restore 40 = .ok (.aload_n 0, 1) := by decide +kernel
theorem dX3_restore_41 : decode cX3_restore 41 = .ok (.getfield 19, 3) := by decide +kernel
theorem dX3_restore_44 : decode cX3_restore 44 = .ok (.aload_n 0, 1) := by decide +kernel
theorem dX3_restore_45 : decode cX3_restore 45 = .ok (.getfield 30, 3) := by decide +kernel
theorem dX3_restore_48 : decode cX3_restore 48 = .ok (.iload_n 1, 1) := by decide +kernel
theorem dX3_restore_49 : decode cX3_restore 49 = .ok (.aaload, 1) := by decide +kernel
theorem dX3_restore_50 : decode cX3_restore 50 = .ok (.invokevirtual 77, 3) := by decide +kernel
theorem dX3_restore_53 : decode cX3_restore 53 = .ok (.aload_n 0, 1) := by decide +kernel
theorem dX3_restore_54 : decode cX3_restore 54 = .ok (.getfield 26, 3) := by decide +kernel
theorem dX3_restore_57 : decode cX3_restore 57 = .ok (.invokevirtual 81, 3) := by decide +kernel
theorem dX3_restore_60 : decode cX3_restore 60 = .ok (.aload_n 0, 1) := by decide +kernel
theorem dX3_restore_61 : decode cX3_restore 61 = .ok (.getfield 19, 3) := by decide +kernel
theorem dX3_restore_64 : decode cX3_restore 64 = .ok (.invokevirtual 93, 3) := by decide +kernel
theorem dX3_restore_67 : decode cX3_restore 67 = .ok (.ireturn, 1) := by decide +kernel
theorem dX3_isWithin_0 : decode cX3_isWithin 0 = .ok (.iload_n 0, 1) := by decide +kernel
theorem dX3_isWithin_1 : decode cX3_isWithin 1 = .ok (.iload_n 1, 1) := by decide +kernel
theorem dX3_isWithin_2 : decode cX3_isWithin 2 = .ok (.if_icmp .lt 12, 3) := by decide +kernel
theorem dX3_isWithin_5 : decode cX3_isWithin 5 = .ok (.iload_n 0, 1) := by decide +kernel
theorem dX3_isWithin_6 : decode cX3_isWithin 6 = .ok (.iload_n 2, 1) := by decide +kernel
theorem dX3_isWithin_7 : decode cX3_isWithin 7 = .ok (.if_icmp .gt 7, 3) := by decide +kernel
theorem dX3_isWithin_10 : decode cX3_isWithin 10 = .ok (.iconst 1, 1) := by decide +kernel
theorem dX3_isWithin_11 : decode cX3_isWithin 11 = .ok (.goto 4, 3) := by decide +kernel
theorem dX3_isWithin_14 : decode cX3_isWithin 14 = .ok (.iconst 0, 1) := by decide +kernel
theorem dX3_isWithin_15 : decode cX3_isWithin 15 = .ok (.ireturn, 1) := by decide +kernel
theorem dX3_isUnits_0 : decode cX3_isUnits 0 = .ok (.iload_n 0, 1) := by decide +kernel
theorem dX3_isUnits_1 : decode cX3_isUnits 1 = .ok (.iconst 1, 1) := by decide +kernel
theorem dX3_isUnits_2 : decode cX3_isUnits 2 = .ok (.bipush 99, 2) := by decide +kernel
theorem dX3_isUnits_4 : decode cX3_isUnits 4 = .ok (.invokestatic 44, 3) := by decide +kernel
theorem dX3_isUnits_7 : decode cX3_isUnits 7 = .ok (.ireturn, 1) := by decide +kernel
theorem dX3_withoutLastGroups_0 : decode cX3_withoutLastGroups 0 = .ok (.lload_n 0, 1) := by decide +kernel
theorem dX3_withoutLastGroups_1 : decode cX3_withoutLastGroups 1 = .ok (.lstore_n 3, 1) := by decide +kernel
theorem dX3_withoutLastGroups_2 : decode cX3_withoutLastGroups 2 = .ok (.iconst 0, 1) := by decide +kernel
theorem dX3_withoutLastGroups_3 : decode cX3_withoutLastGroups 3 = .ok (.istore 5, 2) := by decide +kernel
theorem dX3_withoutLastGroups_5 : decode cX3_withoutLastGroups 5 = .ok (.iload 5, 2) := by decide +kernel
theorem dX3_withoutLastGroups_7 : decode cX3_withoutLastGroups 7 = .ok (.iload_n 2, 1) := by decide +kernel
theorem dX3_withoutLastGroups_8 : decode cX3_withoutLastGroups 8 = .ok (.if_icmp .ge 15, 3) := by decide +kernel
theorem dX3_withoutLastGroups_11 : decode cX3_withoutLastGroups 11 = .ok (.lload_n 3, 1) := by decide +kernel
theorem dX3_withoutLastGroups_12 : decode cX3_withoutLastGroups 12 = .ok (.ldc2_w 267, 3) := by decide +kernel
theorem dX3_withoutLastGroups_15 : decode cX3_withoutLastGroups 15 = .ok (.ldiv, 1) := by decide +kernel
theorem dX3_withoutLastGroups_16 : decode cX3_withoutLastGroups 16 = .ok (.lstore_n 3, 1) := by decide +kernel
theorem dX3_withoutLastGroups_17 : decode cX3_withoutLastGroups 17 = .ok (.iinc 5 1, 3) := by decide +kernel
theorem dX3_withoutLastGroups_20 : decode cX3_withoutLastGroups 20 = .ok (.goto (-15), 3) := by decide +kernel
theorem dX3_withoutLastGroups_23 : decode cX3_withoutLastGroups 23 = .ok (.lload_n 3, 1) := by decide +kernel
theorem dX3_withoutLastGroups_24 : decode cX3_withoutLastGroups 24 = .ok (.lreturn, 1) := by decide +kernel
theorem dX3_giveIfPossible_0 : decode cX3_giveIfPossible 0 = .ok (.aload_n 0, 1) := by decide +kernel
theorem dX3_giveIfPossible_1 : decode cX3_giveIfPossible 1 = .ok (.getfield 41, 3) := by decide +kernel
theorem dX3_giveIfPossible_4 : decode cX3_giveIfPossible 4 = .ok (.aload_n 0, 1) := by decide +kernel
theorem dX3_giveIfPossible_5 : decode cX3_giveIfPossible 5 = .ok (.getfield 38, 3) := by decide +kernel
theorem dX3_giveIfPossible_8 : decode cX3_giveIfPossible 8 = .ok (.invokevirtual 77, 3) := by decide +kernel
theorem dX3_giveIfPossible_11 : decode cX3_giveIfPossible 11 = .ok (.aload_n 0, 1) := by decide +kernel
theorem dX3_giveIfPossible_12 : decode cX3_giveIfPossible 12 = .ok (.getfield 38, 3) := by decide +kernel
theorem dX3_giveIfPossible_15 : decode cX3_giveIfPossible 15 = .ok (.iload_n 1, 1) := by decide +kernel
theorem dX3_giveIfPossible_16 : decode cX3_giveIfPossible 16 = .ok (.invokevirtual 226, 3) := by decide +kernel
theorem dX3_giveIfPossible_19 : decode cX3_giveIfPossible 19 = .ok (.ifCond .ne 14, 3) := by decide +kernel
theorem dX3_giveIfPossible_22 : decode cX3_giveIfPossible 22 = .ok (.aload_n 0, 1) := by decide +kernel
theorem dX3_giveIfPossible_23 : decode cX3_giveIfPossible 23 = .ok (.getfield 38, 3) := by decide +kernel
theorem dX3_giveIfPossible_26 : decode cX3_giveIfPossible 26 = .ok (.aload_n 0, 1) := by decide +kernel
theorem dX3_giveIfPossible_27 : decode cX3_giveIfPossible 27 = .ok (.getfield 41, 3) := by decide +kernel
theorem dX3_giveIfPossible_30 : decode cX3_giveIfPossible 30 = .ok (.invokevirtual 77, 3) := by decide +kernel
theorem dX3_giveIfPossible_33 : decode cX3_giveIfPossible 33 = .ok (.return_, 1) := by decide +kernel
theorem dX3_succeeds_0 : decode cX3_succeeds 0 = .ok (.iload_n 1, 1) := by decide +kernel
theorem dX3_succeeds_1 : decode cX3_succeeds 1 = .ok (.sipush 1000, 3) := by decide +kernel
theorem dX3_succeeds_4 : decode cX3_succeeds 4 = .ok (.idiv, 1) := by decide +kernel
theorem dX3_succeeds_5 : decode cX3_succeeds 5 = .ok (.bipush 10, 2) := by decide +kernel
theorem dX3_succeeds_7 : decode cX3_succeeds 7 = .ok (.irem, 1) := by decide +kernel
theorem dX3_succeeds_8 : decode cX3_succeeds 8 = .ok (.istore_n 2, 1) := by decide +kernel
theorem dX3_succeeds_9 : decode cX3_succeeds 9 = .ok (.iload_n 1, 1) := by decide +kernel
theorem dX3_succeeds_10 : decode cX3_succeeds 10 = .ok (.bipush 100, 2) := by decide +kernel
theorem dX3_succeeds_12 : decode cX3_succeeds 12 = .ok (.idiv, 1) := by decide +kernel
theorem dX3_succeeds_13 : decode cX3_succeeds 13 = .ok (.bipush 10, 2) := by decide +kernel
theorem dX3_succeeds_15 : decode cX3_succeeds 15 = .ok (.irem, 1) := by decide +kernel
theorem dX3_succeeds_16 : decode cX3_succeeds 16 = .ok (.istore_n 3, 1) := by decide +kernel
theorem dX3_succeeds_17 : decode cX3_succeeds 17 = .ok (.iload_n 1, 1) := by decide +kernel
theorem dX3_succeeds_18 : decode cX3_succeeds 18 = .ok (.bipush 10, 2) := by decide +kernel
theorem dX3_succeeds_20 : decode cX3_succeeds 20 = .ok (.idiv, 1) := by decide +kernel
theorem dX3_succeeds_21 : decode cX3_succeeds 21 = .ok (.bipush 10, 2) := by decide +kernel
theorem dX3_succeeds_23 : decode cX3_succeeds 23 = .ok (.irem, 1) := by decide +kernel
theorem dX3_succeeds_24 : decode cX3_succeeds 24 = .ok (.istore 4, 2) := by decide +kernel
theorem dX3_succeeds_26 : decode cX3_succeeds 26 = .ok (.iload_n 1, 1) := by decide +kernel
theorem dX3_succeeds_27 : decode cX3_succeeds 27 = .ok (.bipush 100, 2) := by decide +kernel
theorem dX3_succeeds_29 : decode cX3_succeeds 29 = .ok (.irem, 1) := by decide +kernel
theorem dX3_succeeds_30 : decode cX3_succeeds 30 = .ok (.istore 5, 2) := by decide +kernel
theorem dX3_succeeds_32 : decode cX3_succeeds 32 = .ok (.iload_n 2, 1) := by decide +kernel
theorem dX3_succeeds_33 : decode cX3_succeeds 33 = .ok (.ifCond .ne 11, 3) := by decide +kernel
theorem dX3_succeeds_36 : decode cX3_succeeds 36 = .ok (.iload_n 3, 1) := by decide +kernel
theorem dX3_succeeds_37 : decode cX3_succeeds 37 = .ok (.ifCond .ne 7, 3) := by decide +kernel
theorem dX3_succeeds_40 : decode cX3_succeeds 40 = .ok (.iconst 1, 1) := by decide +kernel
theorem dX3_succeeds_41 : decode cX3_succeeds 41 = .ok (.goto 4, 3) := by decide +kernel
theorem dX3_succeeds_44 : decode cX3_succeeds 44 = .ok (.iconst 0, 1) := by decide +kernel
theorem dX3_succeeds_45 : decode cX3_succeeds 45 = .ok (.istore 6, 2) := by decide +kernel
theorem dX3_succeeds_47 : decode cX3_succeeds 47 = .ok (.iload_n 1, 1) := by decide +kernel
theorem dX3_succeeds_48 : decode cX3_succeeds 48 = .ok (.sipush 10000, 3) := by decide +kernel
theorem dX3_succeeds_51 : decode cX3_succeeds 51 = .ok (.idiv, 1) := by decide +kernel
theorem dX3_succeeds_52 : decode cX3_succeeds 52 = .ok (.tableswitch 315 1 9 #[52, 81, 113, 143, 171, 204, 232, 265, 287], 52) := by decide +kernel
theorem dX3_succeeds_104 : decode cX3_succeeds 104 = .ok (.iload 5, 2) := by decide +kernel
theorem dX3_succeeds_106 : decode cX3_succeeds 106 = .ok (.invokestatic 195, 3) := by decide +kernel
theorem dX3_succeeds_109 : decode cX3_succeeds 109 = .ok (.ifCond .eq 22, 3) := by decide +kernel
theorem dX3_succeeds_112 : decode cX3_succeeds 112 = .ok (.aload_n 0, 1) := by decide +kernel
theorem dX3_succeeds_113 : decode cX3_succeeds 113 = .ok (.iload_n 2, 1) := by decide +kernel
theorem dX3_succeeds_114 : decode cX3_succeeds 114 = .ok (.iload_n 3, 1) := by decide +kernel
theorem dX3_succeeds_115 : decode cX3_succeeds 115 = .ok (.iload 5, 2) := by decide +kernel
theorem dX3_succeeds_117 : decode cX3_succeeds 117 = .ok (.bipush 10, 2) := by decide +kernel
theorem dX3_succeeds_119 : decode cX3_succeeds 119 = .ok (.invokevirtual 205, 3) := by decide +kernel
theorem dX3_succeeds_122 : decode cX3_succeeds 122 = .ok (.bipush (-9), 2) := by decide +kernel
theorem dX3_succeeds_124 : decode cX3_succeeds 124 = .ok (.if_icmp .eq 7, 3) := by decide +kernel
theorem dX3_succeeds_127 : decode cX3_succeeds 127 = .ok (.iconst 1, 1) := by decide +kernel
theorem dX3_succeeds_128 : decode cX3_succeeds 128 = .ok (.goto 4, 3) := by decide +kernel
theorem dX3_succeeds_131 : decode cX3_succeeds 131 = .ok (.iconst 0, 1) := by decide +kernel
theorem dX3_succeeds_132 : decode cX3_succeeds 132 = .ok (.ireturn, 1) := by decide +kernel
theorem dX3_succeeds_133 : decode cX3_succeeds 133 = .ok (.iload 5, 2) := by decide +kernel
theorem dX3_succeeds_135 : decode cX3_succeeds 135 = .ok (.invokestatic 195, 3) := by decide +kernel
theorem dX3_succeeds_138 : decode cX3_succeeds 138 = .ok (.ifCond .eq 25, 3) := by decide +kernel
theorem dX3_succeeds_141 : decode cX3_succeeds 141 = .ok (.aload_n 0, 1) := by decide +kernel
theorem dX3_succeeds_142 : decode cX3_succeeds 142 = .ok (.iload_n 1, 1) := by decide +kernel
theorem dX3_succeeds_143 : decode cX3_succeeds 143 = .ok (.bipush 100, 2) := by decide +kernel
theorem dX3_succeeds_145 : decode cX3_succeeds 145 = .ok (.idiv, 1) := by decide +kernel
theorem dX3_succeeds_146 : decode cX3_succeeds 146 = .ok (.bipush 100, 2) := by decide +kernel
theorem dX3_succeeds_148 : decode cX3_succeeds 148 = .ok (.irem, 1) := by decide +kernel
theorem dX3_succeeds_149 : decode cX3_succeeds 149 = .ok (.iload 5, 2) := by decide +kernel
theorem dX3_succeeds_151 : decode cX3_succeeds 151 = .ok (.invokevirtual 217, 3) := by decide +kernel
theorem dX3_succeeds_154 : decode cX3_succeeds 154 = .ok (.bipush (-9), 2) := by decide +kernel
theorem dX3_succeeds_156 : decode cX3_succeeds 156 = .ok (.if_icmp .eq 7, 3) := by decide +kernel
theorem dX3_succeeds_159 : decode cX3_succeeds 159 = .ok (.iconst 1, 1) := by decide +kernel
theorem dX3_succeeds_160 : decode cX3_succeeds 160 = .ok (.goto 4, 3) := by decide +kernel
theorem dX3_succeeds_163 : decode cX3_succeeds 163 = .ok (.iconst 0, 1) := by decide +kernel
theorem dX3_succeeds_164 : decode cX3_succeeds 164 = .ok (.ireturn, 1) := by decide +kernel
theorem dX3_succeeds_165 : decode cX3_succeeds 165 = .ok (.iload 6, 2) := by decide +kernel
theorem dX3_succeeds_167 : decode cX3_succeeds 167 = .ok (.ifCond .eq 26, 3) := by decide +kernel
theorem dX3_succeeds_170 : decode cX3_succeeds 170 = .ok (.iload 5, 2) := by decide +kernel
theorem dX3_succeeds_172 : decode cX3_succeeds 172 = .ok (.invokestatic 195, 3) := by decide +kernel
theorem dX3_succeeds_175 : decode cX3_succeeds 175 = .ok (.ifCond .eq 18, 3) := by decide +kernel
theorem dX3_succeeds_178 : decode cX3_succeeds 178 = .ok (.aload_n 0, 1) := by decide +kernel
theorem dX3_succeeds_179 : decode cX3_succeeds 179 = .ok (.iload 5, 2) := by decide +kernel
theorem dX3_succeeds_181 : decode cX3_succeeds 181 = .ok (.invokevirtual 223, 3) := by decide +kernel
theorem dX3_succeeds_184 : decode cX3_succeeds 184 = .ok (.bipush (-9), 2) := by decide +kernel
theorem dX3_succeeds_186 : decode cX3_succeeds 186 = .ok (.if_icmp .eq 7, 3) := by decide +kernel
theorem dX3_succeeds_189 : decode cX3_succeeds 189 = .ok (.iconst 1, 1) := by decide +kernel
theorem dX3_succeeds_190 : decode cX3_succeeds 190 = .ok (.goto 4, 3) := by decide +kernel
theorem dX3_succeeds_193 : decode cX3_succeeds 193 = .ok (.iconst 0, 1) := by decide +kernel
theorem dX3_succeeds_194 : decode cX3_succeeds 194 = .ok (.ireturn, 1) := by decide +kernel
theorem dX3_succeeds_195 : decode cX3_succeeds 195 = .ok (.iload 6, 2) := by decide +kernel
theorem dX3_succeeds_197 : decode cX3_succeeds 197 = .ok (.ifCond .eq 24, 3) := by decide +kernel
theorem dX3_succeeds_200 : decode cX3_succeeds 200 = .ok (.iload 5, 2) := by decide +kernel
theorem dX3_succeeds_202 : decode cX3_succeeds 202 = .ok (.invokestatic 195, 3) := by decide +kernel
theorem dX3_succeeds_205 : decode cX3_succeeds 205 = .ok (.ifCond .eq 16, 3) := by decide +kernel
theorem dX3_succeeds_208 : decode cX3_succeeds 208 = .ok (.aload_n 0, 1) := by decide +kernel
theorem dX3_succeeds_209 : decode cX3_succeeds 209 = .ok (.iload 5, 2) := by decide +kernel
theorem dX3_succeeds_211 : decode cX3_succeeds 211 = .ok (.invokevirtual 226, 3) := by decide +kernel
theorem dX3_succeeds_214 : decode cX3_succeeds 214 = .ok (.ifCond .le 7, 3) := by decide +kernel
theorem dX3_succeeds_217 : decode cX3_succeeds 217 = .ok (.iconst 1, 1) := by decide +kernel
theorem dX3_succeeds_218 : decode cX3_succeeds 218 = .ok (.goto 4, 3) := by decide +kernel
theorem dX3_succeeds_221 : decode cX3_succeeds 221 = .ok (.iconst 0, 1) := by decide +kernel
theorem dX3_succeeds_222 : decode cX3_succeeds 222 = .ok (.ireturn, 1) := by decide +kernel
theorem dX3_succeeds_223 : decode cX3_succeeds 223 = .ok (.iload 6, 2) := by decide +kernel
theorem dX3_succeeds_225 : decode cX3_succeeds 225 = .ok (.ifCond .eq 29, 3) := by decide +kernel
theorem dX3_succeeds_228 : decode cX3_succeeds 228 = .ok (.iload 5, 2) := by decide +kernel
theorem dX3_succeeds_230 : decode cX3_succeeds 230 = .ok (.iconst 1, 1) := by decide +kernel
theorem dX3_succeeds_231 : decode cX3_succeeds 231 = .ok (.bipush 50, 2) := by decide +kernel
theorem dX3_succeeds_233 : decode cX3_succeeds 233 = .ok (.invokestatic 44, 3) := by decide +kernel
theorem dX3_succeeds_236 : decode cX3_succeeds 236 = .ok (.ifCond .eq 18, 3) := by decide +kernel
theorem dX3_succeeds_239 : decode cX3_succeeds 239 = .ok (.aload_n 0, 1) := by decide +kernel
theorem dX3_succeeds_240 : decode cX3_succeeds 240 = .ok (.iload 5, 2) := by decide +kernel
theorem dX3_succeeds_242 : decode cX3_succeeds 242 = .ok (.invokevirtual 233, 3) := by decide +kernel
theorem dX3_succeeds_245 : decode cX3_succeeds 245 = .ok (.bipush (-9), 2) := by decide +kernel
theorem dX3_succeeds_247 : decode cX3_succeeds 247 = .ok (.if_icmp .eq 7, 3) := by decide +kernel
theorem dX3_succeeds_250 : decode cX3_succeeds 250 = .ok (.iconst 1, 1) := by decide +kernel
theorem dX3_succeeds_251 : decode cX3_succeeds 251 = .ok (.goto 4, 3) := by decide +kernel
theorem dX3_succeeds_254 : decode cX3_succeeds 254 = .ok (.iconst 0, 1) := by decide +kernel
theorem dX3_succeeds_255 : decode cX3_succeeds 255 = .ok (.ireturn, 1) := by decide +kernel
theorem dX3_succeeds_256 : decode cX3_succeeds 256 = .ok (.iload_n 3, 1) := by decide +kernel
theorem dX3_succeeds_257 : decode cX3_succeeds 257 = .ok (.ifCond .ne 25, 3) := by decide +kernel
theorem dX3_succeeds_260 : decode cX3_succeeds 260 = .ok (.aload_n 0, 1) := by decide +kernel
theorem dX3_succeeds_261 : decode cX3_succeeds 261 = .ok (.iload_n 2, 1) := by decide +kernel
theorem dX3_succeeds_262 : decode cX3_succeeds 262 = .ok (.invokevirtual 117, 3) := by decide +kernel
theorem dX3_succeeds_265 : decode cX3_succeeds 265 = .ok (.ifCond .eq 17, 3) := by decide +kernel
theorem dX3_succeeds_268 : decode cX3_succeeds 268 = .ok (.aload_n 0, 1) := by decide +kernel
theorem dX3_succeeds_269 : decode cX3_succeeds 269 = .ok (.iload_n 2, 1) := by decide +kernel
theorem dX3_succeeds_270 : decode cX3_succeeds 270 = .ok (.invokevirtual 293, 3) := by decide +kernel
theorem dX3_succeeds_273 : decode cX3_succeeds 273 = .ok (.iload 5, 2) := by decide +kernel
theorem dX3_succeeds_275 : decode cX3_succeeds 275 = .ok (.if_icmp .lt 7, 3) := by decide +kernel
theorem dX3_succeeds_278 : decode cX3_succeeds 278 = .ok (.iconst 1, 1) := by decide +kernel
theorem dX3_succeeds_279 : decode cX3_succeeds 279 = .ok (.goto 4, 3) := by decide +kernel
theorem dX3_succeeds_282 : decode cX3_succeeds 282 = .ok (.iconst 0, 1) := by decide +kernel
theorem dX3_succeeds_283 : decode cX3_succeeds 283 = .ok (.ireturn, 1) := by decide +kernel
theorem dX3_succeeds_284 : decode cX3_succeeds 284 = .ok (.iload_n 3, 1) := by decide +kernel
theorem dX3_succeeds_285 : decode cX3_succeeds 285 = .ok (.ifCond .ne 30, 3) := by decide +kernel
theorem dX3_succeeds_288 : decode cX3_succeeds 288 = .ok (.iload 4, 2) := by decide +kernel
theorem dX3_succeeds_290 : decode cX3_succeeds 290 = .ok (.ifCond .ne 25, 3) := by decide +kernel
theorem dX3_succeeds_293 : decode cX3_succeeds 293 = .ok (.aload_n 0, 1) := by decide +kernel
theorem dX3_succeeds_294 : decode cX3_succeeds 294 = .ok (.iload_n 2, 1) := by decide +kernel
theorem dX3_succeeds_295 : decode cX3_succeeds 295 = .ok (.invokevirtual 117, 3) := by decide +kernel
theorem dX3_succeeds_298 : decode cX3_succeeds 298 = .ok (.ifCond .eq 17, 3) := by decide +kernel
theorem dX3_succeeds_301 : decode cX3_succeeds 301 = .ok (.aload_n 0, 1) := by decide +kernel
theorem dX3_succeeds_302 : decode cX3_succeeds 302 = .ok (.iload_n 2, 1) := by decide +kernel
theorem dX3_succeeds_303 : decode cX3_succeeds 303 = .ok (.invokevirtual 149, 3) := by decide +kernel
theorem dX3_succeeds_306 : decode cX3_succeeds 306 = .ok (.iload 5, 2) := by decide +kernel
theorem dX3_succeeds_308 : decode cX3_succeeds 308 = .ok (.if_icmp .ne 7, 3) := by decide +kernel
theorem dX3_succeeds_311 : decode cX3_succeeds 311 = .ok (.iconst 1, 1) := by decide +kernel
theorem dX3_succeeds_312 : decode cX3_succeeds 312 = .ok (.goto 4, 3) := by decide +kernel
theorem dX3_succeeds_315 : decode cX3_succeeds 315 = .ok (.iconst 0, 1) := by decide +kernel
theorem dX3_succeeds_316 : decode cX3_succeeds 316 = .ok (.ireturn, 1) := by decide +kernel
theorem dX3_succeeds_317 : decode cX3_succeeds 317 = .ok (.iload_n 2, 1) := by decide +kernel
theorem dX3_succeeds_318 : decode cX3_succeeds 318 = .ok (.ifCond .ne 19, 3) := by decide +kernel
theorem dX3_succeeds_321 : decode cX3_succeeds 321 = .ok (.aload_n 0, 1) := by decide +kernel
theorem dX3_succeeds_322 : decode cX3_succeeds 322 = .ok (.invokevirtual 106, 3) := by decide +kernel
theorem dX3_succeeds_325 : decode cX3_succeeds 325 = .ok (.iload_n 1, 1) := by decide +kernel
theorem dX3_succeeds_326 : decode cX3_succeeds 326 = .ok (.sipush 1000, 3) := by decide +kernel
theorem dX3_succeeds_329 : decode cX3_succeeds 329 = .ok (.irem, 1) := by decide +kernel
theorem dX3_succeeds_330 : decode cX3_succeeds 330 = .ok (.if_icmp .gt 7, 3) := by decide +kernel
theorem dX3_succeeds_333 : decode cX3_succeeds 333 = .ok (.iconst 1, 1) := by decide +kernel
theorem dX3_succeeds_334 : decode cX3_succeeds 334 = .ok (.goto 4, 3) := by decide +kernel
theorem dX3_succeeds_337 : decode cX3_succeeds 337 = .ok (.iconst 0, 1) := by decide +kernel
theorem dX3_succeeds_338 : decode cX3_succeeds 338 = .ok (.ireturn, 1) := by decide +kernel
theorem dX3_succeeds_339 : decode cX3_succeeds 339 = .ok (.iload 6, 2) := by decide +kernel
theorem dX3_succeeds_341 : decode cX3_succeeds 341 = .ok (.ifCond .eq 24, 3) := by decide +kernel
theorem dX3_succeeds_344 : decode cX3_succeeds 344 = .ok (.iload 4, 2) := by decide +kernel
theorem dX3_succeeds_346 : decode cX3_succeeds 346 = .ok (.ifCond .ne 19, 3) := by decide +kernel
theorem dX3_succeeds_349 : decode cX3_succeeds 349 = .ok (.aload_n 0, 1) := by decide +kernel
theorem dX3_succeeds_350 : decode cX3_succeeds 350 = .ok (.invokevirtual 112, 3) := by decide +kernel
theorem dX3_succeeds_353 : decode cX3_succeeds 353 = .ok (.invokestatic 283, 3) := by decide +kernel
theorem dX3_succeeds_356 : decode cX3_succeeds 356 = .ok (.iload 5, 2) := by decide +kernel
theorem dX3_succeeds_358 : decode cX3_succeeds 358 = .ok (.if_icmp .gt 7, 3) := by decide +kernel
theorem dX3_succeeds_361 : decode cX3_succeeds 361 = .ok (.iconst 1, 1) := by decide +kernel
theorem dX3_succeeds_362 : decode cX3_succeeds 362 = .ok (.goto 4, 3) := by decide +kernel
theorem dX3_succeeds_365 : decode cX3_succeeds 365 = .ok (.iconst 0, 1) := by decide +kernel
theorem dX3_succeeds_366 : decode cX3_succeeds 366 = .ok (.ireturn, 1) := by decide +kernel
theorem dX3_succeeds_367 : decode cX3_succeeds 367 = .ok (.iconst 0, 1) := by decide +kernel
theorem dX3_succeeds_368 : decode cX3_succeeds 368 = .ok (.ireturn, 1) := by decide +kernel
theorem dX4_init_0 : decode cX4_init 0 = .ok (.aload_n 0, 1) := by decide +kernel
theorem dX4_init_1 : decode cX4_init 1 = .ok (.invokespecial 1, 3) := by decide +kernel
theorem dX4_init_4 : decode cX4_init 4 = .ok (.aload_n 0, 1) := by decide +kernel
theorem dX4_init_5 : decode cX4_init 5 = .ok (.bipush 107, 2) := by decide +kernel
theorem dX4_init_7 : decode cX4_init 7 = .ok (.newarray .int, 2) := by decide +kernel
theorem dX4_init_9 : decode cX4_init 9 = .ok (.putfield 7, 3) := by decide +kernel
theorem dX4_init_12 : decode cX4_init 12 = .ok (.aload_n 0, 1) := by decide +kernel
theorem dX4_init_13 : decode cX4_init 13 = .ok (.bipush 107, 2) := by decide +kernel
theorem dX4_init_15 : decode cX4_init 15 = .ok (.newarray .int, 2) := by decide +kernel
theorem dX4_init_17 : decode cX4_init 17 = .ok (.putfield 13, 3) := by decide +kernel
theorem dX4_init_20 : decode cX4_init 20 = .ok (.aload_n 0, 1) := by decide +kernel
theorem dX4_init_21 : decode cX4_init 21 = .ok (.sipush 214, 3) := by decide +kernel
theorem dX4_init_24 : decode cX4_init 24 = .ok (.newarray .int, 2) := by decide +kernel
theorem dX4_init_26 : decode cX4_init 26 = .ok (.putfield 16, 3) := by decide +kernel
theorem dX4_init_29 : decode cX4_init 29 = .ok (.aload_n 0, 1) := by decide +kernel
theorem dX4_init_30 : decode cX4_init 30 = .ok (.iconst 2, 1) := by decide +kernel
theorem dX4_init_31 : decode cX4_init 31 = .ok (.newarray .boolean, 2) := by decide +kernel
theorem dX4_init_33 : decode cX4_init 33 = .ok (.putfield 19, 3) := by decide +kernel
theorem dX4_init_36 : decode cX4_init 36 = .ok (.aload_n 0, 1) := by decide +kernel
theorem dX4_init_37 : decode cX4_init 37 = .ok (.sipush 1498, 3) := by decide +kernel
theorem dX4_init_40 : decode cX4_init 40 = .ok (.newarray .int, 2) := by decide +kernel
theorem dX4_init_42 : decode cX4_init 42 = .ok (.putfield 23, 3) := by decide +kernel
theorem dX4_init_45 : decode cX4_init 45 = .ok (.aload_n 0, 1) := by decide +kernel
theorem dX4_init_46 : decode cX4_init 46 = .ok (.bipush 120, 2) := by decide +kernel
theorem dX4_init_48 : decode cX4_init 48 = .ok (.newarray .int, 2) := by decide +kernel
theorem dX4_init_50 : decode cX4_init 50 = .ok (.putfield 26, 3) := by decide +kernel
theorem dX4_init_53 : decode cX4_init 53 = .ok (.aload_n 0, 1) := by decide +kernel
theorem dX4_init_54 : decode cX4_init 54 = .ok (.bipush 8, 2) := by decide +kernel
theorem dX4_init_56 : decode cX4_init 56 = .ok (.newarray .boolean, 2) := by decide +kernel
theorem dX4_init_58 : decode cX4_init 58 = .ok (.putfield 29, 3) := by decide +kernel
theorem dX4_init_61 : decode cX4_init 61 = .ok (.aload_n 0, 1) := by decide +kernel
theorem dX4_init_62 : decode cX4_init 62 = .ok (.bipush 107, 2) := by decide +kernel
theorem dX4_init_64 : decode cX4_init 64 = .ok (.newarray .int, 2) := by decide +kernel
theorem dX4_init_66 : decode cX4_init 66 = .ok (.putfield 32, 3) := by decide +kernel
theorem dX4_init_69 : decode cX4_init 69 = .ok (.return_, 1) := by decide +kernel
theorem dX4_thrown_0 : decode cX4_thrown 0 = .ok (.aload_n 0, 1) := by decide +kernel
theorem dX4_thrown_1 : decode cX4_thrown 1 = .ok (.getfield 35, 3) := by decide +kernel
theorem dX4_thrown_4 : decode cX4_thrown 4 = .ok (.ireturn, 1) := by decide +kernel
theorem dX4_in_0 : decode cX4_in 0 = .ok (.iload_n 0, 1) := by decide +kernel
theorem dX4_in_1 : decode cX4_in 1 = .ok (.iload_n 1, 1) := by decide +kernel
theorem dX4_in_2 : decode cX4_in 2 = .ok (.if_icmp .lt 12, 3) := by decide +kernel
theorem dX4_in_5 : decode cX4_in 5 = .ok (.iload_n 0, 1) := by decide +kernel
theorem dX4_in_6 : decode cX4_in 6 = .ok (.iload_n 2, 1) := by decide +kernel
theorem dX4_in_7 : decode cX4_in 7 = .ok (.if_icmp .gt 7, 3) := by decide +kernel
theorem dX4_in_10 : decode cX4_in 10 = .ok (.iconst 1, 1) := by decide +kernel
theorem dX4_in_11 : decode cX4_in 11 = .ok (.goto 4, 3) := by decide +kernel
theorem dX4_in_14 : decode cX4_in 14 = .ok (.iconst 0, 1) := by decide +kernel
theorem dX4_in_15 : decode cX4_in 15 = .ok (.ireturn, 1) := by decide +kernel
theorem dX4_of_0 : decode cX4_of 0 = .ok (.aload_n 0, 1) := by decide +kernel
theorem dX4_of_1 : decode cX4_of 1 = .ok (.getfield 7, 3) := by decide +kernel
theorem dX4_of_4 : decode cX4_of 4 = .ok (.bipush 7, 2) := by decide +kernel
theorem dX4_of_6 : decode cX4_of 6 = .ok (.iconst 5, 1) := by decide +kernel
theorem dX4_of_7 : decode cX4_of 7 = .ok (.iload_n 1, 1) := by decide +kernel
theorem dX4_of_8 : decode cX4_of 8 = .ok (.imul, 1) := by decide +kernel
theorem dX4_of_9 : decode cX4_of 9 = .ok (.iadd, 1) := by decide +kernel
theorem dX4_of_10 : decode cX4_of 10 = .ok (.iload_n 2, 1) := by decide +kernel
theorem dX4_of_11 : decode cX4_of 11 = .ok (.iadd, 1) := by decide +kernel
theorem dX4_of_12 : decode cX4_of 12 = .ok (.iaload, 1) := by decide +kernel
theorem dX4_of_13 : decode cX4_of 13 = .ok (.ireturn, 1) := by decide +kernel
theorem dX4_more_0 : decode cX4_more 0 = .ok (.aload_n 0, 1) := by decide +kernel
theorem dX4_more_1 : decode cX4_more 1 = .ok (.getfield 7, 3) := by decide +kernel
theorem dX4_more_4 : decode cX4_more 4 = .ok (.bipush 7, 2) := by decide +kernel
theorem dX4_more_6 : decode cX4_more 6 = .ok (.iconst 5, 1) := by decide +kernel
theorem dX4_more_7 : decode cX4_more 7 = .ok (.iload_n 1, 1) := by decide +kernel
theorem dX4_more_8 : decode cX4_more 8 = .ok (.imul, 1) := by decide +kernel
theorem dX4_more_9 : decode cX4_more 9 = .ok (.iadd, 1) := by decide +kernel
theorem dX4_more_10 : decode cX4_more 10 = .ok (.iload_n 2, 1) := by decide +kernel
theorem dX4_more_11 : decode cX4_more 11 = .ok (.iadd, 1) := by decide +kernel
theorem dX4_more_12 : decode cX4_more 12 = .ok (.dup2, 1) := by decide +kernel
theorem dX4_more_13 : decode cX4_more 13 = .ok (.iaload, 1) := by decide +kernel
theorem dX4_more_14 : decode cX4_more 14 = .ok (.iload_n 3, 1) := by decide +kernel
theorem dX4_more_15 : decode cX4_more 15 = .ok (.iadd, 1) := by decide +kernel
theorem dX4_more_16 : decode cX4_more 16 = .ok (.iastore, 1) := by decide +kernel
theorem dX4_more_17 : decode cX4_more 17 = .ok (.return_, 1) := by decide +kernel
theorem dX4_ofLoan_0 : decode cX4_ofLoan 0 = .ok (.aload_n 0, 1) := by decide +kernel
theorem dX4_ofLoan_1 : decode cX4_ofLoan 1 = .ok (.getfield 7, 3) := by decide +kernel
theorem dX4_ofLoan_4 : decode cX4_ofLoan 4 = .ok (.bipush 47, 2) := by decide +kernel
theorem dX4_ofLoan_6 : decode cX4_ofLoan 6 = .ok (.iconst 5, 1) := by decide +kernel
theorem dX4_ofLoan_7 : decode cX4_ofLoan 7 = .ok (.iload_n 1, 1) := by decide +kernel
theorem dX4_ofLoan_8 : decode cX4_ofLoan 8 = .ok (.imul, 1) := by decide +kernel
theorem dX4_ofLoan_9 : decode cX4_ofLoan 9 = .ok (.iadd, 1) := by decide +kernel
theorem dX4_ofLoan_10 : decode cX4_ofLoan 10 = .ok (.iload_n 2, 1) := by decide +kernel
theorem dX4_ofLoan_11 : decode cX4_ofLoan 11 = .ok (.iadd, 1) := by decide +kernel
theorem dX4_ofLoan_12 : decode cX4_ofLoan 12 = .ok (.iaload, 1) := by decide +kernel
theorem dX4_ofLoan_13 : decode cX4_ofLoan 13 = .ok (.ireturn, 1) := by decide +kernel
theorem dX4_isCell_0 : decode cX4_isCell 0 = .ok (.iload_n 1, 1) := by decide +kernel
theorem dX4_isCell_1 : decode cX4_isCell 1 = .ok (.iconst 0, 1) := by decide +kernel
theorem dX4_isCell_2 : decode cX4_isCell 2 = .ok (.aload_n 0, 1) := by decide +kernel
theorem dX4_isCell_3 : decode cX4_isCell 3 = .ok (.getfield 7, 3) := by decide +kernel
theorem dX4_isCell_6 : decode cX4_isCell 6 = .ok (.iconst 1, 1) := by decide +kernel
theorem dX4_isCell_7 : decode cX4_isCell 7 = .ok (.iaload, 1) := by decide +kernel
theorem dX4_isCell_8 : decode cX4_isCell 8 = .ok (.iconst 1, 1) := by decide +kernel
theorem dX4_isCell_9 : decode cX4_isCell 9 = .ok (.isub, 1) := by decide +kernel
theorem dX4_isCell_10 : decode cX4_isCell 10 = .ok (.invokestatic 39, 3) := by decide +kernel
theorem dX4_isCell_13 : decode cX4_isCell 13 = .ok (.ireturn, 1) := by decide +kernel
theorem dX4_isLoan_0 : decode cX4_isLoan 0 = .ok (.iload_n 1, 1) := by decide +kernel
theorem dX4_isLoan_1 : decode cX4_isLoan 1 = .ok (.iconst 0, 1) := by decide +kernel
theorem dX4_isLoan_2 : decode cX4_isLoan 2 = .ok (.aload_n 0, 1) := by decide +kernel
theorem dX4_isLoan_3 : decode cX4_isLoan 3 = .ok (.getfield 7, 3) := by decide +kernel
theorem dX4_isLoan_6 : decode cX4_isLoan 6 = .ok (.iconst 2, 1) := by decide +kernel
theorem dX4_isLoan_7 : decode cX4_isLoan 7 = .ok (.iaload, 1) := by decide +kernel
theorem dX4_isLoan_8 : decode cX4_isLoan 8 = .ok (.iconst 1, 1) := by decide +kernel
theorem dX4_isLoan_9 : decode cX4_isLoan 9 = .ok (.isub, 1) := by decide +kernel
theorem dX4_isLoan_10 : decode cX4_isLoan 10 = .ok (.invokestatic 39, 3) := by decide +kernel
theorem dX4_isLoan_13 : decode cX4_isLoan 13 = .ok (.ireturn, 1) := by decide +kernel
theorem dX4_isSound_0 : decode cX4_isSound 0 = .ok (.aload_n 0, 1) := by decide +kernel
theorem dX4_isSound_1 : decode cX4_isSound 1 = .ok (.iload_n 1, 1) := by decide +kernel
theorem dX4_isSound_2 : decode cX4_isSound 2 = .ok (.iconst 4, 1) := by decide +kernel
theorem dX4_isSound_3 : decode cX4_isSound 3 = .ok (.invokevirtual 43, 3) := by decide +kernel
theorem dX4_isSound_6 : decode cX4_isSound 6 = .ok (.ifCond .ne 7, 3) := by decide +kernel
theorem dX4_isSound_9 : decode cX4_isSound 9 = .ok (.iconst 1, 1) := by decide +kernel
theorem dX4_isSound_10 : decode cX4_isSound 10 = .ok (.goto 4, 3) := by decide +kernel
theorem dX4_isSound_13 : decode cX4_isSound 13 = .ok (.iconst 0, 1) := by decide +kernel
theorem dX4_isSound_14 : decode cX4_isSound 14 = .ok (.ireturn, 1) := by decide +kernel
theorem dX4_layPut_0 : decode cX4_layPut 0 = .ok (.iconst 0, 1) := by decide +kernel
theorem dX4_layPut_1 : decode cX4_layPut 1 = .ok (.istore_n 1, 1) := by decide +kernel
theorem dX4_layPut_2 : decode cX4_layPut 2 = .ok (.iload_n 1, 1) := by decide +kernel
theorem dX4_layPut_3 : decode cX4_layPut 3 = .ok (.bipush 107, 2) := by decide +kernel
theorem dX4_layPut_5 : decode cX4_layPut 5 = .ok (.if_icmp .ge 21, 3) := by decide +kernel
theorem dX4_layPut_8 : decode cX4_layPut 8 = .ok (.aload_n 0, 1) := by decide +kernel
theorem dX4_layPut_9 : decode cX4_layPut 9 = .ok (.getfield 13, 3) := by decide +kernel
theorem dX4_layPut_12 : decode cX4_layPut 12 = .ok (.iload_n 1, 1) := by decide +kernel
theorem dX4_layPut_13 : decode cX4_layPut 13 = .ok (.aload_n 0, 1) := by decide +kernel
theorem dX4_layPut_14 : decode cX4_layPut 14 = .ok (.getfield 7, 3) := by decide +kernel
theorem dX4_layPut_17 : decode cX4_layPut 17 = .ok (.iload_n 1, 1) := by decide +kernel
theorem dX4_layPut_18 : decode cX4_layPut 18 = .ok (.iaload, 1) := by decide +kernel
theorem dX4_layPut_19 : decode cX4_layPut 19 = .ok (.iastore, 1) := by decide +kernel
theorem dX4_layPut_20 : decode cX4_layPut 20 = .ok (.iinc 1 1, 3) := by decide +kernel
theorem dX4_layPut_23 : decode cX4_layPut 23 = .ok (.goto (-21), 3) := by decide +kernel
theorem dX4_layPut_26 : decode cX4_layPut 26 = .ok (.return_, 1) := by decide +kernel
theorem dX4_putBack_0 : decode cX4_putBack 0 = .ok (.iconst 0, 1) := by decide +kernel
theorem dX4_putBack_1 : decode cX4_putBack 1 = .ok (.istore_n 1, 1) := by decide +kernel
theorem dX4_putBack_2 : decode cX4_putBack 2 = .ok (.iload_n 1, 1) := by decide +kernel
theorem dX4_putBack_3 : decode cX4_putBack 3 = .ok (.bipush 107, 2) := by decide +kernel
theorem dX4_putBack_5 : decode cX4_putBack 5 = .ok (.if_icmp .ge 21, 3) := by decide +kernel
theorem dX4_putBack_8 : decode cX4_putBack 8 = .ok (.aload_n 0, 1) := by decide +kernel
theorem dX4_putBack_9 : decode cX4_putBack 9 = .ok (.getfield 7, 3) := by decide +kernel
theorem dX4_putBack_12 : decode cX4_putBack 12 = .ok (.iload_n 1, 1) := by decide +kernel
theorem dX4_putBack_13 : decode cX4_putBack 13 = .ok (.aload_n 0, 1) := by decide +kernel
theorem dX4_putBack_14 : decode cX4_putBack 14 = .ok (.getfield 13, 3) := by decide +kernel
theorem dX4_putBack_17 : decode cX4_putBack 17 = .ok (.iload_n 1, 1) := by decide +kernel
theorem dX4_putBack_18 : decode cX4_putBack 18 = .ok (.iaload, 1) := by decide +kernel
theorem dX4_putBack_19 : decode cX4_putBack 19 = .ok (.iastore, 1) := by decide +kernel
theorem dX4_putBack_20 : decode cX4_putBack 20 = .ok (.iinc 1 1, 3) := by decide +kernel
theorem dX4_putBack_23 : decode cX4_putBack 23 = .ok (.goto (-21), 3) := by decide +kernel
theorem dX4_putBack_26 : decode cX4_putBack 26 = .ok (.return_, 1) := by decide +kernel
theorem dX4_remember_0 : decode cX4_remember 0 = .ok (.aload_n 0, 1) := by decide +kernel
theorem dX4_remember_1 : decode cX4_remember 1 = .ok (.getfield 47, 3) := by decide +kernel
theorem dX4_remember_4 : decode cX4_remember 4 = .ok (.bipush 14, 2) := by decide +kernel
theorem dX4_remember_6 : decode cX4_remember 6 = .ok (.if_icmp .ne 43, 3) := by decide +kernel
theorem dX4_remember_9 : decode cX4_remember 9 = .ok (.iconst 0, 1) := by decide +kernel
theorem dX4_remember_10 : decode cX4_remember 10 = .ok (.istore_n 1, 1) := by decide +kernel
theorem dX4_remember_11 : decode cX4_remember 11 = .ok (.iload_n 1, 1) := by decide +kernel
theorem dX4_remember_12 : decode cX4_remember 12 = .ok (.sipush 1391, 3) := by decide +kernel
theorem dX4_remember_15 : decode cX4_remember 15 = .ok (.if_icmp .ge 24, 3) := by decide +kernel
theorem dX4_remember_18 : decode cX4_remember 18 = .ok (.aload_n 0, 1) := by decide +kernel
theorem dX4_remember_19 : decode cX4_remember 19 = .ok (.getfield 23, 3) := by decide +kernel
theorem dX4_remember_22 : decode cX4_remember 22 = .ok (.iload_n 1, 1) := by decide +kernel
theorem dX4_remember_23 : decode cX4_remember 23 = .ok (.aload_n 0, 1) := by decide +kernel
theorem dX4_remember_24 : decode cX4_remember 24 = .ok (.getfield 23, 3) := by decide +kernel
theorem dX4_remember_27 : decode cX4_remember 27 = .ok (.iload_n 1, 1) := by decide +kernel
theorem dX4_remember_28 : decode cX4_remember 28 = .ok (.bipush 107, 2) := by decide +kernel
theorem dX4_remember_30 : decode cX4_remember 30 = .ok (.iadd, 1) := by decide +kernel
theorem dX4_remember_31 : decode cX4_remember 31 = .ok (.iaload, 1) := by decide +kernel
theorem dX4_remember_32 : decode cX4_remember 32 = .ok (.iastore, 1) := by decide +kernel
theorem dX4_remember_33 : decode cX4_remember 33 = .ok (.iinc 1 1, 3) := by decide +kernel
theorem dX4_remember_36 : decode cX4_remember 36 = .ok (.goto (-25), 3) := by decide +kernel
theorem dX4_remember_39 : decode cX4_remember 39 = .ok (.aload_n 0, 1) := by decide +kernel
theorem dX4_remember_40 : decode cX4_remember 40 = .ok (.dup, 1) := by decide +kernel
theorem dX4_remember_41 : decode cX4_remember 41 = .ok (.getfield 47, 3) := by decide +kernel
theorem dX4_remember_44 : decode cX4_remember 44 = .ok (.iconst 1, 1) := by decide +kernel
theorem dX4_remember_45 : decode cX4_remember 45 = .ok (.isub, 1) := by decide +kernel
theorem dX4_remember_46 : decode cX4_remember 46 = .ok (.putfield 47, 3) := by decide +kernel
theorem dX4_remember_49 : decode cX4_remember 49 = .ok (.iconst 0, 1) := by decide +kernel
theorem dX4_remember_50 : decode cX4_remember 50 = .ok (.istore_n 1, 1) := by decide +kernel
theorem dX4_remember_51 : decode cX4_remember 51 = .ok (.iload_n 1, 1) := by decide +kernel
theorem dX4_remember_52 : decode cX4_remember 52 = .ok (.bipush 107, 2) := by decide +kernel
theorem dX4_remember_54 : decode cX4_remember 54 = .ok (.if_icmp .ge 29, 3) := by decide +kernel
theorem dX4_remember_57 : decode cX4_remember 57 = .ok (.aload_n 0, 1) := by decide +kernel
theorem dX4_remember_58 : decode cX4_remember 58 = .ok (.getfield 23, 3) := by decide +kernel
theorem dX4_remember_61 : decode cX4_remember 61 = .ok (.bipush 107, 2) := by decide +kernel
theorem dX4_remember_63 : decode cX4_remember 63 = .ok (.aload_n 0, 1) := by decide +kernel
theorem dX4_remember_64 : decode cX4_remember 64 = .ok (.getfield 47, 3) := by decide +kernel
theorem dX4_remember_67 : decode cX4_remember 67 = .ok (.imul, 1) := by decide +kernel
theorem dX4_remember_68 : decode cX4_remember 68 = .ok (.iload_n 1, 1) := by decide +kernel
theorem dX4_remember_69 : decode cX4_remember 69 = .ok (.iadd, 1) := by decide +kernel
theorem dX4_remember_70 : decode cX4_remember 70 = .ok (.aload_n 0, 1) := by decide +kernel
theorem dX4_remember_71 : decode cX4_remember 71 = .ok (.getfield 7, 3) := by decide +kernel
theorem dX4_remember_74 : decode cX4_remember 74 = .ok (.iload_n 1, 1) := by decide +kernel
theorem dX4_remember_75 : decode cX4_remember 75 = .ok (.iaload, 1) := by decide +kernel
theorem dX4_remember_76 : decode cX4_remember 76 = .ok (.iastore, 1) := by decide +kernel
theorem dX4_remember_77 : decode cX4_remember 77 = .ok (.iinc 1 1, 3) := by decide +kernel
theorem dX4_remember_80 : decode cX4_remember 80 = .ok (.goto (-29), 3) := by decide +kernel
theorem dX4_remember_83 : decode cX4_remember 83 = .ok (.aload_n 0, 1) := by decide +kernel
theorem dX4_remember_84 : decode cX4_remember 84 = .ok (.dup, 1) := by decide +kernel
theorem dX4_remember_85 : decode cX4_remember 85 = .ok (.getfield 47, 3) := by decide +kernel
theorem dX4_remember_88 : decode cX4_remember 88 = .ok (.iconst 1, 1) := by decide +kernel
theorem dX4_remember_89 : decode cX4_remember 89 = .ok (.iadd, 1) := by decide +kernel
theorem dX4_remember_90 : decode cX4_remember 90 = .ok (.putfield 47, 3) := by decide +kernel
theorem dX4_remember_93 : decode cX4_remember 93 = .ok (.return_, 1) := by decide +kernel
theorem dX4_arrives_0 : decode cX4_arrives 0 = .ok (.iload_n 1, 1) := by decide +kernel
theorem dX4_arrives_1 : decode cX4_arrives 1 = .ok (.iload_n 2, 1) := by decide +kernel
theorem dX4_arrives_2 : decode cX4_arrives 2 = .ok (.if_icmp .le 9, 3) := by decide +kernel
theorem dX4_arrives_5 : decode cX4_arrives 5 = .ok (.iload_n 1, 1) := by decide +kernel
theorem dX4_arrives_6 : decode cX4_arrives 6 = .ok (.iload_n 2, 1) := by decide +kernel
theorem dX4_arrives_7 : decode cX4_arrives 7 = .ok (.isub, 1) := by decide +kernel
theorem dX4_arrives_8 : decode cX4_arrives 8 = .ok (.goto 6, 3) := by decide +kernel
theorem dX4_arrives_11 : decode cX4_arrives 11 = .ok (.iload_n 2, 1) := by decide +kernel
theorem dX4_arrives_12 : decode cX4_arrives 12 = .ok (.iload_n 1, 1) := by decide +kernel
theorem dX4_arrives_13 : decode cX4_arrives 13 = .ok (.isub, 1) := by decide +kernel
theorem dX4_arrives_14 : decode cX4_arrives 14 = .ok (.istore_n 3, 1) := by decide +kernel
theorem dX4_arrives_15 : decode cX4_arrives 15 = .ok (.iload_n 0, 1) := by decide +kernel
theorem dX4_arrives_16 : decode cX4_arrives 16 = .ok (.iload_n 0, 1) := by decide +kernel
theorem dX4_arrives_17 : decode cX4_arrives 17 = .ok (.iload_n 3, 1) := by decide +kernel
theorem dX4_arrives_18 : decode cX4_arrives 18 = .ok (.imul, 1) := by decide +kernel
theorem dX4_arrives_19 : decode cX4_arrives 19 = .ok (.bipush 20, 2) := by decide +kernel
theorem dX4_arrives_21 : decode cX4_arrives 21 = .ok (.idiv, 1) := by decide +kernel
theorem dX4_arrives_22 : decode cX4_arrives 22 = .ok (.isub, 1) := by decide +kernel
theorem dX4_arrives_23 : decode cX4_arrives 23 = .ok (.ireturn, 1) := by decide +kernel
theorem dX4_isTooMuch_0 : decode cX4_isTooMuch 0 = .ok (.aload_n 0, 1) := by decide +kernel
theorem dX4_isTooMuch_1 : decode cX4_isTooMuch 1 = .ok (.iload_n 3, 1) := by decide +kernel
theorem dX4_isTooMuch_2 : decode cX4_isTooMuch 2 = .ok (.iconst 1, 1) := by decide +kernel
theorem dX4_isTooMuch_3 : decode cX4_isTooMuch 3 = .ok (.invokevirtual 43, 3) := by decide +kernel
theorem dX4_isTooMuch_6 : decode cX4_isTooMuch 6 = .ok (.iload_n 1, 1) := by decide +kernel
theorem dX4_isTooMuch_7 : decode cX4_isTooMuch 7 = .ok (.iload_n 2, 1) := by decide +kernel
theorem dX4_isTooMuch_8 : decode cX4_isTooMuch 8 = .ok (.iload_n 3, 1) := by decide +kernel
theorem dX4_isTooMuch_9 : decode cX4_isTooMuch 9 = .ok (.invokestatic 50, 3) := by decide +kernel
theorem dX4_isTooMuch_12 : decode cX4_isTooMuch 12 = .ok (.iadd, 1) := by decide +kernel
theorem dX4_isTooMuch_13 : decode cX4_isTooMuch 13 = .ok (.aload_n 0, 1) := by decide +kernel
theorem dX4_isTooMuch_14 : decode cX4_isTooMuch 14 = .ok (.iload_n 3, 1) := by decide +kernel
theorem dX4_isTooMuch_15 : decode cX4_isTooMuch 15 = .ok (.iconst 0, 1) := by decide +kernel
theorem dX4_isTooMuch_16 : decode cX4_isTooMuch 16 = .ok (.invokevirtual 43, 3) := by decide +kernel
theorem dX4_isTooMuch_19 : decode cX4_isTooMuch 19 = .ok (.if_icmp .le 7, 3) := by decide +kernel
theorem dX4_isTooMuch_22 : decode cX4_isTooMuch 22 = .ok (.iconst 1, 1) := by decide +kernel
theorem dX4_isTooMuch_23 : decode cX4_isTooMuch 23 = .ok (.goto 4, 3) := by decide +kernel
theorem dX4_isTooMuch_26 : decode cX4_isTooMuch 26 = .ok (.iconst 0, 1) := by decide +kernel
theorem dX4_isTooMuch_27 : decode cX4_isTooMuch 27 = .ok (.ireturn, 1) := by decide +kernel
theorem dX4_shuttle_0 : decode cX4_shuttle 0 = .ok (.iload_n 1, 1) := by decide +kernel
theorem dX4_shuttle_1 : decode cX4_shuttle 1 = .ok (.iload_n 2, 1) := by decide +kernel
theorem dX4_shuttle_2 : decode cX4_shuttle 2 = .ok (.iload_n 3, 1) := by decide +kernel
theorem dX4_shuttle_3 : decode cX4_shuttle 3 = .ok (.invokestatic 50, 3) := by decide +kernel
theorem dX4_shuttle_6 : decode cX4_shuttle 6 = .ok (.istore 4, 2) := by decide +kernel
theorem dX4_shuttle_8 : decode cX4_shuttle 8 = .ok (.aload_n 0, 1) := by decide +kernel
theorem dX4_shuttle_9 : decode cX4_shuttle 9 = .ok (.iload_n 2, 1) := by decide +kernel
theorem dX4_shuttle_10 : decode cX4_shuttle 10 = .ok (.iconst 1, 1) := by decide +kernel
theorem dX4_shuttle_11 : decode cX4_shuttle 11 = .ok (.iload_n 1, 1) := by decide +kernel
theorem dX4_shuttle_12 : decode cX4_shuttle 12 = .ok (.ineg, 1) := by decide +kernel
theorem dX4_shuttle_13 : decode cX4_shuttle 13 = .ok (.invokevirtual 54, 3) := by decide +kernel
theorem dX4_shuttle_16 : decode cX4_shuttle 16 = .ok (.aload_n 0, 1) := by decide +kernel
theorem dX4_shuttle_17 : decode cX4_shuttle 17 = .ok (.iload_n 3, 1) := by decide +kernel
theorem dX4_shuttle_18 : decode cX4_shuttle 18 = .ok (.iconst 1, 1) := by decide +kernel
theorem dX4_shuttle_19 : decode cX4_shuttle 19 = .ok (.iload 4, 2) := by decide +kernel
theorem dX4_shuttle_21 : decode cX4_shuttle 21 = .ok (.invokevirtual 54, 3) := by decide +kernel
theorem dX4_shuttle_24 : decode cX4_shuttle 24 = .ok (.aload_n 0, 1) := by decide +kernel
theorem dX4_shuttle_25 : decode cX4_shuttle 25 = .ok (.getfield 7, 3) := by decide +kernel
theorem dX4_shuttle_28 : decode cX4_shuttle 28 = .ok (.iconst 5, 1) := by decide +kernel
theorem dX4_shuttle_29 : decode cX4_shuttle 29 = .ok (.dup2, 1) := by decide +kernel
theorem dX4_shuttle_30 : decode cX4_shuttle 30 = .ok (.iaload, 1) := by decide +kernel
theorem dX4_shuttle_31 : decode cX4_shuttle 31 = .ok (.iload_n 1, 1) := by decide +kernel
theorem dX4_shuttle_32 : decode cX4_shuttle 32 = .ok (.iload 4, 2) := by decide +kernel
theorem dX4_shuttle_34 : decode cX4_shuttle 34 = .ok (.isub, 1) := by decide +kernel
theorem dX4_shuttle_35 : decode cX4_shuttle 35 = .ok (.iadd, 1) := by decide +kernel
theorem dX4_shuttle_36 : decode cX4_shuttle 36 = .ok (.iastore, 1) := by decide +kernel
theorem dX4_shuttle_37 : decode cX4_shuttle 37 = .ok (.iload 4, 2) := by decide +kernel
theorem dX4_shuttle_39 : decode cX4_shuttle 39 = .ok (.ireturn, 1) := by decide +kernel
theorem dX4_makeLoan_0 : decode cX4_makeLoan 0 = .ok (.bipush 47, 2) := by decide +kernel
theorem dX4_makeLoan_2 : decode cX4_makeLoan 2 = .ok (.iconst 5, 1) := by decide +kernel
theorem dX4_makeLoan_3 : decode cX4_makeLoan 3 = .ok (.aload_n 0, 1) := by decide +kernel
theorem dX4_makeLoan_4 : decode cX4_makeLoan 4 = .ok (.getfield 7, 3) := by decide +kernel
theorem dX4_makeLoan_7 : decode cX4_makeLoan 7 = .ok (.iconst 2, 1) := by decide +kernel
theorem dX4_makeLoan_8 : decode cX4_makeLoan 8 = .ok (.iaload, 1) := by decide +kernel
theorem dX4_makeLoan_9 : decode cX4_makeLoan 9 = .ok (.imul, 1) := by decide +kernel
theorem dX4_makeLoan_10 : decode cX4_makeLoan 10 = .ok (.iadd, 1) := by decide +kernel
theorem dX4_makeLoan_11 : decode cX4_makeLoan 11 = .ok (.istore 5, 2) := by decide +kernel
theorem dX4_makeLoan_13 : decode cX4_makeLoan 13 = .ok (.aload_n 0, 1) := by decide +kernel
theorem dX4_makeLoan_14 : decode cX4_makeLoan 14 = .ok (.getfield 7, 3) := by decide +kernel
theorem dX4_makeLoan_17 : decode cX4_makeLoan 17 = .ok (.iload 5, 2) := by decide +kernel
theorem dX4_makeLoan_19 : decode cX4_makeLoan 19 = .ok (.iload_n 1, 1) := by decide +kernel
theorem dX4_makeLoan_20 : decode cX4_makeLoan 20 = .ok (.iastore, 1) := by decide +kernel
theorem dX4_makeLoan_21 : decode cX4_makeLoan 21 = .ok (.aload_n 0, 1) := by decide +kernel
theorem dX4_makeLoan_22 : decode cX4_makeLoan 22 = .ok (.getfield 7, 3) := by decide +kernel
theorem dX4_makeLoan_25 : decode cX4_makeLoan 25 = .ok (.iload 5, 2) := by decide +kernel
theorem dX4_makeLoan_27 : decode cX4_makeLoan 27 = .ok (.iconst 1, 1) := by decide +kernel
theorem dX4_makeLoan_28 : decode cX4_makeLoan 28 = .ok (.iadd, 1) := by decide +kernel
theorem dX4_makeLoan_29 : decode cX4_makeLoan 29 = .ok (.iload_n 2, 1) := by decide +kernel
theorem dX4_makeLoan_30 : decode cX4_makeLoan 30 = .ok (.iastore, 1) := by decide +kernel
theorem dX4_makeLoan_31 : decode cX4_makeLoan 31 = .ok (.aload_n 0, 1) := by decide +kernel
theorem dX4_makeLoan_32 : decode cX4_makeLoan 32 = .ok (.getfield 7, 3) := by decide +kernel
theorem dX4_makeLoan_35 : decode cX4_makeLoan 35 = .ok (.iload 5, 2) := by decide +kernel
theorem dX4_makeLoan_37 : decode cX4_makeLoan 37 = .ok (.iconst 2, 1) := by decide +kernel
theorem dX4_makeLoan_38 : decode cX4_makeLoan 38 = .ok (.iadd, 1) := by decide +kernel
theorem dX4_makeLoan_39 : decode cX4_makeLoan 39 = .ok (.iload_n 3, 1) := by decide +kernel
theorem dX4_makeLoan_40 : decode cX4_makeLoan 40 = .ok (.iastore, 1) := by decide +kernel
theorem dX4_makeLoan_41 : decode cX4_makeLoan 41 = .ok (.aload_n 0, 1) := by decide +kernel
theorem dX4_makeLoan_42 : decode cX4_makeLoan 42 = .ok (.getfield 7, 3) := by decide +kernel
theorem dX4_makeLoan_45 : decode cX4_makeLoan 45 = .ok (.iload 5, 2) := by decide +kernel
theorem dX4_makeLoan_47 : decode cX4_makeLoan 47 = .ok (.iconst 3, 1) := by decide +kernel
theorem dX4_makeLoan_48 : decode cX4_makeLoan 48 = .ok (.iadd, 1) := by decide +kernel
theorem dX4_makeLoan_49 : decode cX4_makeLoan 49 = .ok (.iload 4, 2) := by decide +kernel
theorem dX4_makeLoan_51 : decode cX4_makeLoan 51 = .ok (.iastore, 1) := by decide +kernel
theorem dX4_makeLoan_52 : decode cX4_makeLoan 52 = .ok (.aload_n 0, 1) := by decide +kernel
theorem dX4_makeLoan_53 : decode cX4_makeLoan 53 = .ok (.getfield 7, 3) := by decide +kernel
theorem dX4_makeLoan_56 : decode cX4_makeLoan 56 = .ok (.iload 5, 2) := by decide +kernel
theorem dX4_makeLoan_58 : decode cX4_makeLoan 58 = .ok (.iconst 4, 1) := by decide +kernel
theorem dX4_makeLoan_59 : decode cX4_makeLoan 59 = .ok (.iadd, 1) := by decide +kernel
theorem dX4_makeLoan_60 : decode cX4_makeLoan 60 = .ok (.aload_n 0, 1) := by decide +kernel
theorem dX4_makeLoan_61 : decode cX4_makeLoan 61 = .ok (.iload_n 3, 1) := by decide +kernel
theorem dX4_makeLoan_62 : decode cX4_makeLoan 62 = .ok (.iload_n 1, 1) := by decide +kernel
theorem dX4_makeLoan_63 : decode cX4_makeLoan 63 = .ok (.iload_n 2, 1) := by decide +kernel
theorem dX4_makeLoan_64 : decode cX4_makeLoan 64 = .ok (.invokevirtual 58, 3) := by decide +kernel
theorem dX4_makeLoan_67 : decode cX4_makeLoan 67 = .ok (.iastore, 1) := by decide +kernel
theorem dX4_makeLoan_68 : decode cX4_makeLoan 68 = .ok (.aload_n 0, 1) := by decide +kernel
theorem dX4_makeLoan_69 : decode cX4_makeLoan 69 = .ok (.getfield 7, 3) := by decide +kernel
theorem dX4_makeLoan_72 : decode cX4_makeLoan 72 = .ok (.iconst 2, 1) := by decide +kernel
theorem dX4_makeLoan_73 : decode cX4_makeLoan 73 = .ok (.dup2, 1) := by decide +kernel
theorem dX4_makeLoan_74 : decode cX4_makeLoan 74 = .ok (.iaload, 1) := by decide +kernel
theorem dX4_makeLoan_75 : decode cX4_makeLoan 75 = .ok (.iconst 1, 1) := by decide +kernel
theorem dX4_makeLoan_76 : decode cX4_makeLoan 76 = .ok (.iadd, 1) := by decide +kernel
theorem dX4_makeLoan_77 : decode cX4_makeLoan 77 = .ok (.iastore, 1) := by decide +kernel
theorem dX4_makeLoan_78 : decode cX4_makeLoan 78 = .ok (.aload_n 0, 1) := by decide +kernel
theorem dX4_makeLoan_79 : decode cX4_makeLoan 79 = .ok (.getfield 7, 3) := by decide +kernel
theorem dX4_makeLoan_82 : decode cX4_makeLoan 82 = .ok (.iload 5, 2) := by decide +kernel
theorem dX4_makeLoan_84 : decode cX4_makeLoan 84 = .ok (.iconst 4, 1) := by decide +kernel
theorem dX4_makeLoan_85 : decode cX4_makeLoan 85 = .ok (.iadd, 1) := by decide +kernel
theorem dX4_makeLoan_86 : decode cX4_makeLoan 86 = .ok (.iaload, 1) := by decide +kernel
theorem dX4_makeLoan_87 : decode cX4_makeLoan 87 = .ok (.ireturn, 1) := by decide +kernel
theorem dX4_removeLoan_0 : decode cX4_removeLoan 0 = .ok (.bipush 47, 2) := by decide +kernel
theorem dX4_removeLoan_2 : decode cX4_removeLoan 2 = .ok (.iconst 5, 1) := by decide +kernel
theorem dX4_removeLoan_3 : decode cX4_removeLoan 3 = .ok (.iload_n 1, 1) := by decide +kernel
theorem dX4_removeLoan_4 : decode cX4_removeLoan 4 = .ok (.imul, 1) := by decide +kernel
theorem dX4_removeLoan_5 : decode cX4_removeLoan 5 = .ok (.iadd, 1) := by decide +kernel
theorem dX4_removeLoan_6 : decode cX4_removeLoan 6 = .ok (.istore_n 2, 1) := by decide +kernel
theorem dX4_removeLoan_7 : decode cX4_removeLoan 7 = .ok (.iload_n 2, 1) := by decide +kernel
theorem dX4_removeLoan_8 : decode cX4_removeLoan 8 = .ok (.bipush 47, 2) := by decide +kernel
theorem dX4_removeLoan_10 : decode cX4_removeLoan 10 = .ok (.iconst 5, 1) := by decide +kernel
theorem dX4_removeLoan_11 : decode cX4_removeLoan 11 = .ok (.aload_n 0, 1) := by decide +kernel
theorem dX4_removeLoan_12 : decode cX4_removeLoan 12 = .ok (.getfield 7, 3) := by decide +kernel
theorem dX4_removeLoan_15 : decode cX4_removeLoan 15 = .ok (.iconst 2, 1) := by decide +kernel
theorem dX4_removeLoan_16 : decode cX4_removeLoan 16 = .ok (.iaload, 1) := by decide +kernel
theorem dX4_removeLoan_17 : decode cX4_removeLoan 17 = .ok (.imul, 1) := by decide +kernel
theorem dX4_removeLoan_18 : decode cX4_removeLoan 18 = .ok (.iadd, 1) := by decide +kernel
theorem dX4_removeLoan_19 : decode cX4_removeLoan 19 = .ok (.iconst 5, 1) := by decide +kernel
theorem dX4_removeLoan_20 : decode cX4_removeLoan 20 = .ok (.isub, 1) := by decide +kernel
theorem dX4_removeLoan_21 : decode cX4_removeLoan 21 = .ok (.if_icmp .ge 23, 3) := by decide +kernel
theorem dX4_removeLoan_24 : decode cX4_removeLoan 24 = .ok (.aload_n 0, 1) := by decide +kernel
theorem dX4_removeLoan_25 : decode cX4_removeLoan 25 = .ok (.getfield 7, 3) := by decide +kernel
theorem dX4_removeLoan_28 : decode cX4_removeLoan 28 = .ok (.iload_n 2, 1) := by decide +kernel
theorem dX4_removeLoan_29 : decode cX4_removeLoan 29 = .ok (.aload_n 0, 1) := by decide +kernel
theorem dX4_removeLoan_30 : decode cX4_removeLoan 30 = .ok (.getfield 7, 3) := by decide +kernel
theorem dX4_removeLoan_33 : decode cX4_removeLoan 33 = .ok (.iload_n 2, 1) := by decide +kernel
theorem dX4_removeLoan_34 : decode cX4_removeLoan 34 = .ok (.iconst 5, 1) := by decide +kernel
theorem dX4_removeLoan_35 : decode cX4_removeLoan 35 = .ok (.iadd, 1) := by decide +kernel
theorem dX4_removeLoan_36 : decode cX4_removeLoan 36 = .ok (.iaload, 1) := by decide +kernel
theorem dX4_removeLoan_37 : decode cX4_removeLoan 37 = .ok (.iastore, 1) := by decide +kernel
theorem dX4_removeLoan_38 : decode cX4_removeLoan 38 = .ok (.iinc 2 1, 3) := by decide +kernel
theorem dX4_removeLoan_41 : decode cX4_removeLoan 41 = .ok (.goto (-34), 3) := by decide +kernel
theorem dX4_removeLoan_44 : decode cX4_removeLoan 44 = .ok (.aload_n 0, 1) := by decide +kernel
theorem dX4_removeLoan_45 : decode cX4_removeLoan 45 = .ok (.getfield 7, 3) := by decide +kernel
theorem dX4_removeLoan_48 : decode cX4_removeLoan 48 = .ok (.iconst 2, 1) := by decide +kernel
theorem dX4_removeLoan_49 : decode cX4_removeLoan 49 = .ok (.dup2, 1) := by decide +kernel
theorem dX4_removeLoan_50 : decode cX4_removeLoan 50 = .ok (.iaload, 1) := by decide +kernel
theorem dX4_removeLoan_51 : decode cX4_removeLoan 51 = .ok (.iconst 1, 1) := by decide +kernel
theorem dX4_removeLoan_52 : decode cX4_removeLoan 52 = .ok (.isub, 1) := by decide +kernel
theorem dX4_removeLoan_53 : decode cX4_removeLoan 53 = .ok (.iastore, 1) := by decide +kernel
theorem dX4_removeLoan_54 : decode cX4_removeLoan 54 = .ok (.aload_n 0, 1) := by decide +kernel
theorem dX4_removeLoan_55 : decode cX4_removeLoan 55 = .ok (.aload_n 0, 1) := by decide +kernel
theorem dX4_removeLoan_56 : decode cX4_removeLoan 56 = .ok (.getfield 61, 3) := by decide +kernel
theorem dX4_removeLoan_59 : decode cX4_removeLoan 59 = .ok (.iload_n 1, 1) := by decide +kernel
theorem dX4_removeLoan_60 : decode cX4_removeLoan 60 = .ok (.if_icmp .ne 8, 3) := by decide +kernel
theorem dX4_removeLoan_63 : decode cX4_removeLoan 63 = .ok (.bipush (-9), 2) := by decide +kernel
theorem dX4_removeLoan_65 : decode cX4_removeLoan 65 = .ok (.goto 24, 3) := by decide +kernel
theorem dX4_removeLoan_68 : decode cX4_removeLoan 68 = .ok (.aload_n 0, 1) := by decide +kernel
theorem dX4_removeLoan_69 : decode cX4_removeLoan 69 = .ok (.getfield 61, 3) := by decide +kernel
theorem dX4_removeLoan_72 : decode cX4_removeLoan 72 = .ok (.iload_n 1, 1) := by decide +kernel
theorem dX4_removeLoan_73 : decode cX4_removeLoan 73 = .ok (.if_icmp .le 12, 3) := by decide +kernel
theorem dX4_removeLoan_76 : decode cX4_removeLoan 76 = .ok (.aload_n 0, 1) := by decide +kernel
theorem dX4_removeLoan_77 : decode cX4_removeLoan 77 = .ok (.getfield 61, 3) := by decide +kernel
theorem dX4_removeLoan_80 : decode cX4_removeLoan 80 = .ok (.iconst 1, 1) := by decide +kernel
theorem dX4_removeLoan_81 : decode cX4_removeLoan 81 = .ok (.isub, 1) := by decide +kernel
theorem dX4_removeLoan_82 : decode cX4_removeLoan 82 = .ok (.goto 7, 3) := by decide +kernel
theorem dX4_removeLoan_85 : decode cX4_removeLoan 85 = .ok (.aload_n 0, 1) := by decide +kernel
theorem dX4_removeLoan_86 : decode cX4_removeLoan 86 = .ok (.getfield 61, 3) := by decide +kernel
theorem dX4_removeLoan_89 : decode cX4_removeLoan 89 = .ok (.putfield 61, 3) := by decide +kernel
theorem dX4_removeLoan_92 : decode cX4_removeLoan 92 = .ok (.return_, 1) := by decide +kernel
theorem dX4_interest_0 : decode cX4_interest 0 = .ok (.aload_n 0, 1) := by decide +kernel
theorem dX4_interest_1 : decode cX4_interest 1 = .ok (.iload_n 1, 1) := by decide +kernel
theorem dX4_interest_2 : decode cX4_interest 2 = .ok (.iconst 2, 1) := by decide +kernel
theorem dX4_interest_3 : decode cX4_interest 3 = .ok (.invokevirtual 64, 3) := by decide +kernel
theorem dX4_interest_6 : decode cX4_interest 6 = .ok (.aload_n 0, 1) := by decide +kernel
theorem dX4_interest_7 : decode cX4_interest 7 = .ok (.iload_n 1, 1) := by decide +kernel
theorem dX4_interest_8 : decode cX4_interest 8 = .ok (.iconst 3, 1) := by decide +kernel
theorem dX4_interest_9 : decode cX4_interest 9 = .ok (.invokevirtual 64, 3) := by decide +kernel
theorem dX4_interest_12 : decode cX4_interest 12 = .ok (.imul, 1) := by decide +kernel
theorem dX4_interest_13 : decode cX4_interest 13 = .ok (.bipush 99, 2) := by decide +kernel
theorem dX4_interest_15 : decode cX4_interest 15 = .ok (.iadd, 1) := by decide +kernel
theorem dX4_interest_16 : decode cX4_interest 16 = .ok (.bipush 100, 2) := by decide +kernel
theorem dX4_interest_18 : decode cX4_interest 18 = .ok (.idiv, 1) := by decide +kernel
theorem dX4_interest_19 : decode cX4_interest 19 = .ok (.ireturn, 1) := by decide +kernel
theorem dX4_owedBy_0 : decode cX4_owedBy 0 = .ok (.iconst 0, 1) := by decide +kernel
theorem dX4_owedBy_1 : decode cX4_owedBy 1 = .ok (.istore_n 3, 1) := by decide +kernel
theorem dX4_owedBy_2 : decode cX4_owedBy 2 = .ok (.iconst 0, 1) := by decide +kernel
theorem dX4_owedBy_3 : decode cX4_owedBy 3 = .ok (.istore 4, 2) := by decide +kernel
theorem dX4_owedBy_5 : decode cX4_owedBy 5 = .ok (.iload 4, 2) := by decide +kernel
theorem dX4_owedBy_7 : decode cX4_owedBy 7 = .ok (.aload_n 0, 1) := by decide +kernel
theorem dX4_owedBy_8 : decode cX4_owedBy 8 = .ok (.getfield 7, 3) := by decide +kernel
theorem dX4_owedBy_11 : decode cX4_owedBy 11 = .ok (.iconst 2, 1) := by decide +kernel
theorem dX4_owedBy_12 : decode cX4_owedBy 12 = .ok (.iaload, 1) := by decide +kernel
theorem dX4_owedBy_13 : decode cX4_owedBy 13 = .ok (.if_icmp .ge 34, 3) := by decide +kernel
theorem dX4_owedBy_16 : decode cX4_owedBy 16 = .ok (.iload_n 3, 1) := by decide +kernel
theorem dX4_owedBy_17 : decode cX4_owedBy 17 = .ok (.aload_n 0, 1) := by decide +kernel
theorem dX4_owedBy_18 : decode cX4_owedBy 18 = .ok (.iload 4, 2) := by decide +kernel
theorem dX4_owedBy_20 : decode cX4_owedBy 20 = .ok (.iload_n 2, 1) := by decide +kernel
theorem dX4_owedBy_21 : decode cX4_owedBy 21 = .ok (.invokevirtual 64, 3) := by decide +kernel
theorem dX4_owedBy_24 : decode cX4_owedBy 24 = .ok (.iload_n 1, 1) := by decide +kernel
theorem dX4_owedBy_25 : decode cX4_owedBy 25 = .ok (.if_icmp .ne 13, 3) := by decide +kernel
theorem dX4_owedBy_28 : decode cX4_owedBy 28 = .ok (.aload_n 0, 1) := by decide +kernel
theorem dX4_owedBy_29 : decode cX4_owedBy 29 = .ok (.iload 4, 2) := by decide +kernel
theorem dX4_owedBy_31 : decode cX4_owedBy 31 = .ok (.iconst 2, 1) := by decide +kernel
theorem dX4_owedBy_32 : decode cX4_owedBy 32 = .ok (.invokevirtual 64, 3) := by decide +kernel
theorem dX4_owedBy_35 : decode cX4_owedBy 35 = .ok (.goto 4, 3) := by decide +kernel
theorem dX4_owedBy_38 : decode cX4_owedBy 38 = .ok (.iconst 0, 1) := by decide +kernel
theorem dX4_owedBy_39 : decode cX4_owedBy 39 = .ok (.iadd, 1) := by decide +kernel
theorem dX4_owedBy_40 : decode cX4_owedBy 40 = .ok (.istore_n 3, 1) := by decide +kernel
theorem dX4_owedBy_41 : decode cX4_owedBy 41 = .ok (.iinc 4 1, 3) := by decide +kernel
theorem dX4_owedBy_44 : decode cX4_owedBy 44 = .ok (.goto (-39), 3) := by decide +kernel
theorem dX4_owedBy_47 : decode cX4_owedBy 47 = .ok (.iload_n 3, 1) := by decide +kernel
theorem dX4_owedBy_48 : decode cX4_owedBy 48 = .ok (.ireturn, 1) := by decide +kernel
theorem dX4_burnInterest_0 : decode cX4_burnInterest 0 = .ok (.iconst 0, 1) := by decide +kernel
theorem dX4_burnInterest_1 : decode cX4_burnInterest 1 = .ok (.istore_n 1, 1) := by decide +kernel
theorem dX4_burnInterest_2 : decode cX4_burnInterest 2 = .ok (.iload_n 1, 1) := by decide +kernel
theorem dX4_burnInterest_3 : decode cX4_burnInterest 3 = .ok (.bipush 8, 2) := by decide +kernel
theorem dX4_burnInterest_5 : decode cX4_burnInterest 5 = .ok (.if_icmp .ge 16, 3) := by decide +kernel
theorem dX4_burnInterest_8 : decode cX4_burnInterest 8 = .ok (.aload_n 0, 1) := by decide +kernel
theorem dX4_burnInterest_9 : decode cX4_burnInterest 9 = .ok (.getfield 29, 3) := by decide +kernel
theorem dX4_burnInterest_12 : decode cX4_burnInterest 12 = .ok (.iload_n 1, 1) := by decide +kernel
theorem dX4_burnInterest_13 : decode cX4_burnInterest 13 = .ok (.iconst 0, 1) := by decide +kernel
theorem dX4_burnInterest_14 : decode cX4_burnInterest 14 = .ok (.bastore, 1) := by decide +kernel
theorem dX4_burnInterest_15 : decode cX4_burnInterest 15 = .ok (.iinc 1 1, 3) := by decide +kernel
theorem dX4_burnInterest_18 : decode cX4_burnInterest 18 = .ok (.goto (-16), 3) := by decide +kernel
theorem dX4_burnInterest_21 : decode cX4_burnInterest 21 = .ok (.iconst 0, 1) := by decide +kernel
theorem dX4_burnInterest_22 : decode cX4_burnInterest 22 = .ok (.istore_n 1, 1) := by decide +kernel
theorem dX4_burnInterest_23 : decode cX4_burnInterest 23 = .ok (.iload_n 1, 1) := by decide +kernel
theorem dX4_burnInterest_24 : decode cX4_burnInterest 24 = .ok (.aload_n 0, 1) := by decide +kernel
theorem dX4_burnInterest_25 : decode cX4_burnInterest 25 = .ok (.getfield 7, 3) := by decide +kernel
theorem dX4_burnInterest_28 : decode cX4_burnInterest 28 = .ok (.iconst 2, 1) := by decide +kernel
theorem dX4_burnInterest_29 : decode cX4_burnInterest 29 = .ok (.iaload, 1) := by decide +kernel
theorem dX4_burnInterest_30 : decode cX4_burnInterest 30 = .ok (.if_icmp .ge 113, 3) := by decide +kernel
theorem dX4_burnInterest_33 : decode cX4_burnInterest 33 = .ok (.aload_n 0, 1) := by decide +kernel
theorem dX4_burnInterest_34 : decode cX4_burnInterest 34 = .ok (.iload_n 1, 1) := by decide +kernel
theorem dX4_burnInterest_35 : decode cX4_burnInterest 35 = .ok (.iconst 1, 1) := by decide +kernel
theorem dX4_burnInterest_36 : decode cX4_burnInterest 36 = .ok (.invokevirtual 64, 3) := by decide +kernel
theorem dX4_burnInterest_39 : decode cX4_burnInterest 39 = .ok (.istore_n 2, 1) := by decide +kernel
theorem dX4_burnInterest_40 : decode cX4_burnInterest 40 = .ok (.aload_n 0, 1) := by decide +kernel
theorem dX4_burnInterest_41 : decode cX4_burnInterest 41 = .ok (.iload_n 1, 1) := by decide +kernel
theorem dX4_burnInterest_42 : decode cX4_burnInterest 42 = .ok (.invokevirtual 67, 3) := by decide +kernel
theorem dX4_burnInterest_45 : decode cX4_burnInterest 45 = .ok (.istore_n 3, 1) := by decide +kernel
theorem dX4_burnInterest_46 : decode cX4_burnInterest 46 = .ok (.aload_n 0, 1) := by decide +kernel
theorem dX4_burnInterest_47 : decode cX4_burnInterest 47 = .ok (.iload_n 2, 1) := by decide +kernel
theorem dX4_burnInterest_48 : decode cX4_burnInterest 48 = .ok (.iconst 1, 1) := by decide +kernel
theorem dX4_burnInterest_49 : decode cX4_burnInterest 49 = .ok (.invokevirtual 43, 3) := by decide +kernel
theorem dX4_burnInterest_52 : decode cX4_burnInterest 52 = .ok (.iload_n 3, 1) := by decide +kernel
theorem dX4_burnInterest_53 : decode cX4_burnInterest 53 = .ok (.if_icmp .ge 12, 3) := by decide +kernel
theorem dX4_burnInterest_56 : decode cX4_burnInterest 56 = .ok (.aload_n 0, 1) := by decide +kernel
theorem dX4_burnInterest_57 : decode cX4_burnInterest 57 = .ok (.iload_n 2, 1) := by decide +kernel
theorem dX4_burnInterest_58 : decode cX4_burnInterest 58 = .ok (.iconst 1, 1) := by decide +kernel
theorem dX4_burnInterest_59 : decode cX4_burnInterest 59 = .ok (.invokevirtual 43, 3) := by decide +kernel
theorem dX4_burnInterest_62 : decode cX4_burnInterest 62 = .ok (.goto 4, 3) := by decide +kernel
theorem dX4_burnInterest_65 : decode cX4_burnInterest 65 = .ok (.iload_n 3, 1) := by decide +kernel
theorem dX4_burnInterest_66 : decode cX4_burnInterest 66 = .ok (.istore 4, 2) := by decide +kernel
theorem dX4_burnInterest_68 : decode cX4_burnInterest 68 = .ok (.aload_n 0, 1) := by decide +kernel
theorem dX4_burnInterest_69 : decode cX4_burnInterest 69 = .ok (.getfield 29, 3) := by decide +kernel
theorem dX4_burnInterest_72 : decode cX4_burnInterest 72 = .ok (.iload_n 2, 1) := by decide +kernel
theorem dX4_burnInterest_73 : decode cX4_burnInterest 73 = .ok (.aload_n 0, 1) := by decide +kernel
theorem dX4_burnInterest_74 : decode cX4_burnInterest 74 = .ok (.getfield 29, 3) := by decide +kernel
theorem dX4_burnInterest_77 : decode cX4_burnInterest 77 = .ok (.iload_n 2, 1) := by decide +kernel
theorem dX4_burnInterest_78 : decode cX4_burnInterest 78 = .ok (.baload, 1) := by decide +kernel
theorem dX4_burnInterest_79 : decode cX4_burnInterest 79 = .ok (.ifCond .ne 9, 3) := by decide +kernel
theorem dX4_burnInterest_82 : decode cX4_burnInterest 82 = .ok (.iload 4, 2) := by decide +kernel
theorem dX4_burnInterest_84 : decode cX4_burnInterest 84 = .ok (.iload_n 3, 1) := by decide +kernel
theorem dX4_burnInterest_85 : decode cX4_burnInterest 85 = .ok (.if_icmp .ge 7, 3) := by decide +kernel
theorem dX4_burnInterest_88 : decode cX4_burnInterest 88 = .ok (.iconst 1, 1) := by decide +kernel
theorem dX4_burnInterest_89 : decode cX4_burnInterest 89 = .ok (.goto 4, 3) := by decide +kernel
theorem dX4_burnInterest_92 : decode cX4_burnInterest 92 = .ok (.iconst 0, 1) := by decide +kernel
theorem dX4_burnInterest_93 : decode cX4_burnInterest 93 = .ok (.bastore, 1) := by decide +kernel
theorem dX4_burnInterest_94 : decode cX4_burnInterest 94 = .ok (.aload_n 0, 1) := by decide +kernel
theorem dX4_burnInterest_95 : decode cX4_burnInterest 95 = .ok (.iload_n 2, 1) := by decide +kernel
theorem dX4_burnInterest_96 : decode cX4_burnInterest 96 = .ok (.iconst 1, 1) := by decide +kernel
theorem dX4_burnInterest_97 : decode cX4_burnInterest 97 = .ok (.iload 4, 2) := by decide +kernel
theorem dX4_burnInterest_99 : decode cX4_burnInterest 99 = .ok (.ineg, 1) := by decide +kernel
theorem dX4_burnInterest_100 : decode cX4_burnInterest 100 = .ok (.invokevirtual 54, 3) := by decide +kernel
theorem dX4_burnInterest_103 : decode cX4_burnInterest 103 = .ok (.aload_n 0, 1) := by decide +kernel
theorem dX4_burnInterest_104 : decode cX4_burnInterest 104 = .ok (.getfield 7, 3) := by decide +kernel
theorem dX4_burnInterest_107 : decode cX4_burnInterest 107 = .ok (.iconst 5, 1) := by decide +kernel
theorem dX4_burnInterest_108 : decode cX4_burnInterest 108 = .ok (.dup2, 1) := by decide +kernel
theorem dX4_burnInterest_109 : decode cX4_burnInterest 109 = .ok (.iaload, 1) := by decide +kernel
theorem dX4_burnInterest_110 : decode cX4_burnInterest 110 = .ok (.iload 4, 2) := by decide +kernel
theorem dX4_burnInterest_112 : decode cX4_burnInterest 112 = .ok (.iadd, 1) := by decide +kernel
theorem dX4_burnInterest_113 : decode cX4_burnInterest 113 = .ok (.iastore, 1) := by decide +kernel
theorem dX4_burnInterest_114 : decode cX4_burnInterest 114 = .ok (.aload_n 0, 1) := by decide +kernel
theorem dX4_burnInterest_115 : decode cX4_burnInterest 115 = .ok (.dup, 1) := by decide +kernel
theorem dX4_burnInterest_116 : decode cX4_burnInterest 116 = .ok (.getfield 71, 3) := by decide +kernel
theorem dX4_burnInterest_119 : decode cX4_burnInterest 119 = .ok (.iload_n 1, 1) := by decide +kernel
theorem dX4_burnInterest_120 : decode cX4_burnInterest 120 = .ok (.aload_n 0, 1) := by decide +kernel
theorem dX4_burnInterest_121 : decode cX4_burnInterest 121 = .ok (.getfield 61, 3) := by decide +kernel
theorem dX4_burnInterest_124 : decode cX4_burnInterest 124 = .ok (.if_icmp .ne 8, 3) := by decide +kernel
theorem dX4_burnInterest_127 : decode cX4_burnInterest 127 = .ok (.iload 4, 2) := by decide +kernel
theorem dX4_burnInterest_129 : decode cX4_burnInterest 129 = .ok (.goto 4, 3) := by decide +kernel
theorem dX4_burnInterest_132 : decode cX4_burnInterest 132 = .ok (.iconst 0, 1) := by decide +kernel
theorem dX4_burnInterest_133 : decode cX4_burnInterest 133 = .ok (.iadd, 1) := by decide +kernel
theorem dX4_burnInterest_134 : decode cX4_burnInterest 134 = .ok (.putfield 71, 3) := by decide +kernel
theorem dX4_burnInterest_137 : decode cX4_burnInterest 137 = .ok (.iinc 1 1, 3) := by decide +kernel
theorem dX4_burnInterest_140 : decode cX4_burnInterest 140 = .ok (.goto (-117), 3) := by decide +kernel
theorem dX4_burnInterest_143 : decode cX4_burnInterest 143 = .ok (.return_, 1) := by decide +kernel
theorem dX4_breaks_0 : decode cX4_breaks 0 = .ok (.aload_n 0, 1) := by decide +kernel
theorem dX4_breaks_1 : decode cX4_breaks 1 = .ok (.iload_n 1, 1) := by decide +kernel
theorem dX4_breaks_2 : decode cX4_breaks 2 = .ok (.iconst 1, 1) := by decide +kernel
theorem dX4_breaks_3 : decode cX4_breaks 3 = .ok (.invokevirtual 43, 3) := by decide +kernel
theorem dX4_breaks_6 : decode cX4_breaks 6 = .ok (.istore_n 2, 1) := by decide +kernel
theorem dX4_breaks_7 : decode cX4_breaks 7 = .ok (.aload_n 0, 1) := by decide +kernel
theorem dX4_breaks_8 : decode cX4_breaks 8 = .ok (.iload_n 1, 1) := by decide +kernel
theorem dX4_breaks_9 : decode cX4_breaks 9 = .ok (.iconst 1, 1) := by decide +kernel
theorem dX4_breaks_10 : decode cX4_breaks 10 = .ok (.invokevirtual 74, 3) := by decide +kernel
theorem dX4_breaks_13 : decode cX4_breaks 13 = .ok (.istore_n 3, 1) := by decide +kernel
theorem dX4_breaks_14 : decode cX4_breaks 14 = .ok (.iload_n 2, 1) := by decide +kernel
theorem dX4_breaks_15 : decode cX4_breaks 15 = .ok (.istore 4, 2) := by decide +kernel
theorem dX4_breaks_17 : decode cX4_breaks 17 = .ok (.iconst 0, 1) := by decide +kernel
theorem dX4_breaks_18 : decode cX4_breaks 18 = .ok (.istore 5, 2) := by decide +kernel
theorem dX4_breaks_20 : decode cX4_breaks 20 = .ok (.iload 5, 2) := by decide +kernel
theorem dX4_breaks_22 : decode cX4_breaks 22 = .ok (.aload_n 0, 1) := by decide +kernel
theorem dX4_breaks_23 : decode cX4_breaks 23 = .ok (.getfield 7, 3) := by decide +kernel
theorem dX4_breaks_26 : decode cX4_breaks 26 = .ok (.iconst 2, 1) := by decide +kernel
theorem dX4_breaks_27 : decode cX4_breaks 27 = .ok (.iaload, 1) := by decide +kernel
theorem dX4_breaks_28 : decode cX4_breaks 28 = .ok (.if_icmp .ge 112, 3) := by decide +kernel
theorem dX4_breaks_31 : decode cX4_breaks 31 = .ok (.aload_n 0, 1) := by decide +kernel
theorem dX4_breaks_32 : decode cX4_breaks 32 = .ok (.iload 5, 2) := by decide +kernel
theorem dX4_breaks_34 : decode cX4_breaks 34 = .ok (.iconst 1, 1) := by decide +kernel
theorem dX4_breaks_35 : decode cX4_breaks 35 = .ok (.invokevirtual 64, 3) := by decide +kernel
theorem dX4_breaks_38 : decode cX4_breaks 38 = .ok (.iload_n 1, 1) := by decide +kernel
theorem dX4_breaks_39 : decode cX4_breaks 39 = .ok (.if_icmp .ne 95, 3) := by decide +kernel
theorem dX4_breaks_42 : decode cX4_breaks 42 = .ok (.aload_n 0, 1) := by decide +kernel
theorem dX4_breaks_43 : decode cX4_breaks 43 = .ok (.iload 5, 2) := by decide +kernel
theorem dX4_breaks_45 : decode cX4_breaks 45 = .ok (.iconst 0, 1) := by decide +kernel
theorem dX4_breaks_46 : decode cX4_breaks 46 = .ok (.invokevirtual 64, 3) := by decide +kernel
theorem dX4_breaks_49 : decode cX4_breaks 49 = .ok (.istore 6, 2) := by decide +kernel
theorem dX4_breaks_51 : decode cX4_breaks 51 = .ok (.iload_n 2, 1) := by decide +kernel
theorem dX4_breaks_52 : decode cX4_breaks 52 = .ok (.aload_n 0, 1) := by decide +kernel
theorem dX4_breaks_53 : decode cX4_breaks 53 = .ok (.iload 5, 2) := by decide +kernel
theorem dX4_breaks_55 : decode cX4_breaks 55 = .ok (.iconst 2, 1) := by decide +kernel
theorem dX4_breaks_56 : decode cX4_breaks 56 = .ok (.invokevirtual 64, 3) := by decide +kernel
theorem dX4_breaks_59 : decode cX4_breaks 59 = .ok (.imul, 1) := by decide +kernel
theorem dX4_breaks_60 : decode cX4_breaks 60 = .ok (.iload_n 3, 1) := by decide +kernel
theorem dX4_breaks_61 : decode cX4_breaks 61 = .ok (.idiv, 1) := by decide +kernel
theorem dX4_breaks_62 : decode cX4_breaks 62 = .ok (.istore 7, 2) := by decide +kernel
theorem dX4_breaks_64 : decode cX4_breaks 64 = .ok (.aload_n 0, 1) := by decide +kernel
theorem dX4_breaks_65 : decode cX4_breaks 65 = .ok (.iload 6, 2) := by decide +kernel
theorem dX4_breaks_67 : decode cX4_breaks 67 = .ok (.iconst 0, 1) := by decide +kernel
theorem dX4_breaks_68 : decode cX4_breaks 68 = .ok (.invokevirtual 43, 3) := by decide +kernel
theorem dX4_breaks_71 : decode cX4_breaks 71 = .ok (.aload_n 0, 1) := by decide +kernel
theorem dX4_breaks_72 : decode cX4_breaks 72 = .ok (.iload 6, 2) := by decide +kernel
theorem dX4_breaks_74 : decode cX4_breaks 74 = .ok (.iconst 1, 1) := by decide +kernel
theorem dX4_breaks_75 : decode cX4_breaks 75 = .ok (.invokevirtual 43, 3) := by decide +kernel
theorem dX4_breaks_78 : decode cX4_breaks 78 = .ok (.isub, 1) := by decide +kernel
theorem dX4_breaks_79 : decode cX4_breaks 79 = .ok (.istore 8, 2) := by decide +kernel
theorem dX4_breaks_81 : decode cX4_breaks 81 = .ok (.iload 4, 2) := by decide +kernel
theorem dX4_breaks_83 : decode cX4_breaks 83 = .ok (.iload 7, 2) := by decide +kernel
theorem dX4_breaks_85 : decode cX4_breaks 85 = .ok (.isub, 1) := by decide +kernel
theorem dX4_breaks_86 : decode cX4_breaks 86 = .ok (.istore 4, 2) := by decide +kernel
theorem dX4_breaks_88 : decode cX4_breaks 88 = .ok (.aload_n 0, 1) := by decide +kernel
theorem dX4_breaks_89 : decode cX4_breaks 89 = .ok (.iload 6, 2) := by decide +kernel
theorem dX4_breaks_91 : decode cX4_breaks 91 = .ok (.iconst 1, 1) := by decide +kernel
theorem dX4_breaks_92 : decode cX4_breaks 92 = .ok (.iload 7, 2) := by decide +kernel
theorem dX4_breaks_94 : decode cX4_breaks 94 = .ok (.iload 8, 2) := by decide +kernel
theorem dX4_breaks_96 : decode cX4_breaks 96 = .ok (.if_icmp .ge 8, 3) := by decide +kernel
theorem dX4_breaks_99 : decode cX4_breaks 99 = .ok (.iload 7, 2) := by decide +kernel
theorem dX4_breaks_101 : decode cX4_breaks 101 = .ok (.goto 5, 3) := by decide +kernel
theorem dX4_breaks_104 : decode cX4_breaks 104 = .ok (.iload 8, 2) := by decide +kernel
theorem dX4_breaks_106 : decode cX4_breaks 106 = .ok (.invokevirtual 54, 3) := by decide +kernel
theorem dX4_breaks_109 : decode cX4_breaks 109 = .ok (.aload_n 0, 1) := by decide +kernel
theorem dX4_breaks_110 : decode cX4_breaks 110 = .ok (.getfield 7, 3) := by decide +kernel
theorem dX4_breaks_113 : decode cX4_breaks 113 = .ok (.iconst 5, 1) := by decide +kernel
theorem dX4_breaks_114 : decode cX4_breaks 114 = .ok (.dup2, 1) := by decide +kernel
theorem dX4_breaks_115 : decode cX4_breaks 115 = .ok (.iaload, 1) := by decide +kernel
theorem dX4_breaks_116 : decode cX4_breaks 116 = .ok (.iload 7, 2) := by decide +kernel
theorem dX4_breaks_118 : decode cX4_breaks 118 = .ok (.iload 8, 2) := by decide +kernel
theorem dX4_breaks_120 : decode cX4_breaks 120 = .ok (.if_icmp .ge 7, 3) := by decide +kernel
theorem dX4_breaks_123 : decode cX4_breaks 123 = .ok (.iconst 0, 1) := by decide +kernel
theorem dX4_breaks_124 : decode cX4_breaks 124 = .ok (.goto 8, 3) := by decide +kernel
theorem dX4_breaks_127 : decode cX4_breaks 127 = .ok (.iload 7, 2) := by decide +kernel
theorem dX4_breaks_129 : decode cX4_breaks 129 = .ok (.iload 8, 2) := by decide +kernel
theorem dX4_breaks_131 : decode cX4_breaks 131 = .ok (.isub, 1) := by decide +kernel
theorem dX4_breaks_132 : decode cX4_breaks 132 = .ok (.iadd, 1) := by decide +kernel
theorem dX4_breaks_133 : decode cX4_breaks 133 = .ok (.iastore, 1) := by decide +kernel
theorem dX4_breaks_134 : decode cX4_breaks 134 = .ok (.iinc 5 1, 3) := by decide +kernel
theorem dX4_breaks_137 : decode cX4_breaks 137 = .ok (.goto (-117), 3) := by decide +kernel
theorem dX4_breaks_140 : decode cX4_breaks 140 = .ok (.aload_n 0, 1) := by decide +kernel
theorem dX4_breaks_141 : decode cX4_breaks 141 = .ok (.getfield 7, 3) := by decide +kernel
theorem dX4_breaks_144 : decode cX4_breaks 144 = .ok (.iconst 5, 1) := by decide +kernel
theorem dX4_breaks_145 : decode cX4_breaks 145 = .ok (.dup2, 1) := by decide +kernel
theorem dX4_breaks_146 : decode cX4_breaks 146 = .ok (.iaload, 1) := by decide +kernel
theorem dX4_breaks_147 : decode cX4_breaks 147 = .ok (.iload 4, 2) := by decide +kernel
theorem dX4_breaks_149 : decode cX4_breaks 149 = .ok (.iadd, 1) := by decide +kernel
theorem dX4_breaks_150 : decode cX4_breaks 150 = .ok (.iastore, 1) := by decide +kernel
theorem dX4_breaks_151 : decode cX4_breaks 151 = .ok (.aload_n 0, 1) := by decide +kernel
theorem dX4_breaks_152 : decode cX4_breaks 152 = .ok (.iload_n 1, 1) := by decide +kernel
theorem dX4_breaks_153 : decode cX4_breaks 153 = .ok (.iconst 1, 1) := by decide +kernel
theorem dX4_breaks_154 : decode cX4_breaks 154 = .ok (.iload_n 2, 1) := by decide +kernel
theorem dX4_breaks_155 : decode cX4_breaks 155 = .ok (.ineg, 1) := by decide +kernel
theorem dX4_breaks_156 : decode cX4_breaks 156 = .ok (.invokevirtual 54, 3) := by decide +kernel
theorem dX4_breaks_159 : decode cX4_breaks 159 = .ok (.aload_n 0, 1) := by decide +kernel
theorem dX4_breaks_160 : decode cX4_breaks 160 = .ok (.iload_n 1, 1) := by decide +kernel
theorem dX4_breaks_161 : decode cX4_breaks 161 = .ok (.iconst 4, 1) := by decide +kernel
theorem dX4_breaks_162 : decode cX4_breaks 162 = .ok (.iconst 1, 1) := by decide +kernel
theorem dX4_breaks_163 : decode cX4_breaks 163 = .ok (.invokevirtual 54, 3) := by decide +kernel
theorem dX4_breaks_166 : decode cX4_breaks 166 = .ok (.aload_n 0, 1) := by decide +kernel
theorem dX4_breaks_167 : decode cX4_breaks 167 = .ok (.getfield 7, 3) := by decide +kernel
theorem dX4_breaks_170 : decode cX4_breaks 170 = .ok (.iconst 2, 1) := by decide +kernel
theorem dX4_breaks_171 : decode cX4_breaks 171 = .ok (.iaload, 1) := by decide +kernel
theorem dX4_breaks_172 : decode cX4_breaks 172 = .ok (.iconst 1, 1) := by decide +kernel
theorem dX4_breaks_173 : decode cX4_breaks 173 = .ok (.isub, 1) := by decide +kernel
theorem dX4_breaks_174 : decode cX4_breaks 174 = .ok (.istore 5, 2) := by decide +kernel
theorem dX4_breaks_176 : decode cX4_breaks 176 = .ok (.iload 5, 2) := by decide +kernel
theorem dX4_breaks_178 : decode cX4_breaks 178 = .ok (.ifCond .lt 54, 3) := by decide +kernel
theorem dX4_breaks_181 : decode cX4_breaks 181 = .ok (.aload_n 0, 1) := by decide +kernel
theorem dX4_breaks_182 : decode cX4_breaks 182 = .ok (.iload 5, 2) := by decide +kernel
theorem dX4_breaks_184 : decode cX4_breaks 184 = .ok (.iconst 1, 1) := by decide +kernel
theorem dX4_breaks_185 : decode cX4_breaks 185 = .ok (.invokevirtual 64, 3) := by decide +kernel
theorem dX4_breaks_188 : decode cX4_breaks 188 = .ok (.iload_n 1, 1) := by decide +kernel
theorem dX4_breaks_189 : decode cX4_breaks 189 = .ok (.if_icmp .eq 14, 3) := by decide +kernel
theorem dX4_breaks_192 : decode cX4_breaks 192 = .ok (.aload_n 0, 1) := by decide +kernel
theorem dX4_breaks_193 : decode cX4_breaks 193 = .ok (.iload 5, 2) := by decide +kernel
theorem dX4_breaks_195 : decode cX4_breaks 195 = .ok (.iconst 0, 1) := by decide +kernel
theorem dX4_breaks_196 : decode cX4_breaks 196 = .ok (.invokevirtual 64, 3) := by decide +kernel
theorem dX4_breaks_199 : decode cX4_breaks 199 = .ok (.iload_n 1, 1) := by decide +kernel
theorem dX4_breaks_200 : decode cX4_breaks 200 = .ok (.if_icmp .ne 26, 3) := by decide +kernel
theorem dX4_breaks_203 : decode cX4_breaks 203 = .ok (.aload_n 0, 1) := by decide +kernel
theorem dX4_breaks_204 : decode cX4_breaks 204 = .ok (.getfield 7, 3) := by decide +kernel
theorem dX4_breaks_207 : decode cX4_breaks 207 = .ok (.bipush 6, 2) := by decide +kernel
theorem dX4_breaks_209 : decode cX4_breaks 209 = .ok (.dup2, 1) := by decide +kernel
theorem dX4_breaks_210 : decode cX4_breaks 210 = .ok (.iaload, 1) := by decide +kernel
theorem dX4_breaks_211 : decode cX4_breaks 211 = .ok (.aload_n 0, 1) := by decide +kernel
theorem dX4_breaks_212 : decode cX4_breaks 212 = .ok (.iload 5, 2) := by decide +kernel
theorem dX4_breaks_214 : decode cX4_breaks 214 = .ok (.iconst 2, 1) := by decide +kernel
theorem dX4_breaks_215 : decode cX4_breaks 215 = .ok (.invokevirtual 64, 3) := by decide +kernel
theorem dX4_breaks_218 : decode cX4_breaks 218 = .ok (.iadd, 1) := by decide +kernel
theorem dX4_breaks_219 : decode cX4_breaks 219 = .ok (.iastore, 1) := by decide +kernel
theorem dX4_breaks_220 : decode cX4_breaks 220 = .ok (.aload_n 0, 1) := by decide +kernel
theorem dX4_breaks_221 : decode cX4_breaks 221 = .ok (.iload 5, 2) := by decide +kernel
theorem dX4_breaks_223 : decode cX4_breaks 223 = .ok (.invokevirtual 77, 3) := by decide +kernel
theorem dX4_breaks_226 : decode cX4_breaks 226 = .ok (.iinc 5 (-1), 3) := by decide +kernel
theorem dX4_breaks_229 : decode cX4_breaks 229 = .ok (.goto (-53), 3) := by decide +kernel
theorem dX4_breaks_232 : decode cX4_breaks 232 = .ok (.return_, 1) := by decide +kernel
theorem dX4_round_0 : decode cX4_round 0 = .ok (.iconst 0, 1) := by decide +kernel
theorem dX4_round_1 : decode cX4_round 1 = .ok (.istore_n 1, 1) := by decide +kernel
theorem dX4_round_2 : decode cX4_round 2 = .ok (.iload_n 1, 1) := by decide +kernel
theorem dX4_round_3 : decode cX4_round 3 = .ok (.aload_n 0, 1) := by decide +kernel
theorem dX4_round_4 : decode cX4_round 4 = .ok (.getfield 7, 3) := by decide +kernel
theorem dX4_round_7 : decode cX4_round 7 = .ok (.iconst 1, 1) := by decide +kernel
theorem dX4_round_8 : decode cX4_round 8 = .ok (.iaload, 1) := by decide +kernel
theorem dX4_round_9 : decode cX4_round 9 = .ok (.if_icmp .ge 58, 3) := by decide +kernel
theorem dX4_round_12 : decode cX4_round 12 = .ok (.aload_n 0, 1) := by decide +kernel
theorem dX4_round_13 : decode cX4_round 13 = .ok (.iload_n 1, 1) := by decide +kernel
theorem dX4_round_14 : decode cX4_round 14 = .ok (.iconst 1, 1) := by decide +kernel
theorem dX4_round_15 : decode cX4_round 15 = .ok (.invokevirtual 43, 3) := by decide +kernel
theorem dX4_round_18 : decode cX4_round 18 = .ok (.aload_n 0, 1) := by decide +kernel
theorem dX4_round_19 : decode cX4_round 19 = .ok (.iload_n 1, 1) := by decide +kernel
theorem dX4_round_20 : decode cX4_round 20 = .ok (.iconst 2, 1) := by decide +kernel
theorem dX4_round_21 : decode cX4_round 21 = .ok (.invokevirtual 43, 3) := by decide +kernel
theorem dX4_round_24 : decode cX4_round 24 = .ok (.if_icmp .ge 12, 3) := by decide +kernel
theorem dX4_round_27 : decode cX4_round 27 = .ok (.aload_n 0, 1) := by decide +kernel
theorem dX4_round_28 : decode cX4_round 28 = .ok (.iload_n 1, 1) := by decide +kernel
theorem dX4_round_29 : decode cX4_round 29 = .ok (.iconst 1, 1) := by decide +kernel
theorem dX4_round_30 : decode cX4_round 30 = .ok (.invokevirtual 43, 3) := by decide +kernel
theorem dX4_round_33 : decode cX4_round 33 = .ok (.goto 9, 3) := by decide +kernel
theorem dX4_round_36 : decode cX4_round 36 = .ok (.aload_n 0, 1) := by decide +kernel
theorem dX4_round_37 : decode cX4_round 37 = .ok (.iload_n 1, 1) := by decide +kernel
theorem dX4_round_38 : decode cX4_round 38 = .ok (.iconst 2, 1) := by decide +kernel
theorem dX4_round_39 : decode cX4_round 39 = .ok (.invokevirtual 43, 3) := by decide +kernel
theorem dX4_round_42 : decode cX4_round 42 = .ok (.istore_n 2, 1) := by decide +kernel
theorem dX4_round_43 : decode cX4_round 43 = .ok (.aload_n 0, 1) := by decide +kernel
theorem dX4_round_44 : decode cX4_round 44 = .ok (.iload_n 1, 1) := by decide +kernel
theorem dX4_round_45 : decode cX4_round 45 = .ok (.iconst 1, 1) := by decide +kernel
theorem dX4_round_46 : decode cX4_round 46 = .ok (.iload_n 2, 1) := by decide +kernel
theorem dX4_round_47 : decode cX4_round 47 = .ok (.ineg, 1) := by decide +kernel
theorem dX4_round_48 : decode cX4_round 48 = .ok (.invokevirtual 54, 3) := by decide +kernel
theorem dX4_round_51 : decode cX4_round 51 = .ok (.aload_n 0, 1) := by decide +kernel
theorem dX4_round_52 : decode cX4_round 52 = .ok (.getfield 7, 3) := by decide +kernel
theorem dX4_round_55 : decode cX4_round 55 = .ok (.iconst 5, 1) := by decide +kernel
theorem dX4_round_56 : decode cX4_round 56 = .ok (.dup2, 1) := by decide +kernel
theorem dX4_round_57 : decode cX4_round 57 = .ok (.iaload, 1) := by decide +kernel
theorem dX4_round_58 : decode cX4_round 58 = .ok (.iload_n 2, 1) := by decide +kernel
theorem dX4_round_59 : decode cX4_round 59 = .ok (.iadd, 1) := by decide +kernel
theorem dX4_round_60 : decode cX4_round 60 = .ok (.iastore, 1) := by decide +kernel
theorem dX4_round_61 : decode cX4_round 61 = .ok (.iinc 1 1, 3) := by decide +kernel
theorem dX4_round_64 : decode cX4_round 64 = .ok (.goto (-62), 3) := by decide +kernel
theorem dX4_round_67 : decode cX4_round 67 = .ok (.aload_n 0, 1) := by decide +kernel
theorem dX4_round_68 : decode cX4_round 68 = .ok (.invokevirtual 81, 3) := by decide +kernel
theorem dX4_round_71 : decode cX4_round 71 = .ok (.iconst 0, 1) := by decide +kernel
theorem dX4_round_72 : decode cX4_round 72 = .ok (.istore_n 1, 1) := by decide +kernel
theorem dX4_round_73 : decode cX4_round 73 = .ok (.iconst 0, 1) := by decide +kernel
theorem dX4_round_74 : decode cX4_round 74 = .ok (.istore_n 2, 1) := by decide +kernel
theorem dX4_round_75 : decode cX4_round 75 = .ok (.iload_n 2, 1) := by decide +kernel
theorem dX4_round_76 : decode cX4_round 76 = .ok (.aload_n 0, 1) := by decide +kernel
theorem dX4_round_77 : decode cX4_round 77 = .ok (.getfield 7, 3) := by decide +kernel
theorem dX4_round_80 : decode cX4_round 80 = .ok (.iconst 1, 1) := by decide +kernel
theorem dX4_round_81 : decode cX4_round 81 = .ok (.iaload, 1) := by decide +kernel
theorem dX4_round_82 : decode cX4_round 82 = .ok (.if_icmp .ge 64, 3) := by decide +kernel
theorem dX4_round_85 : decode cX4_round 85 = .ok (.aload_n 0, 1) := by decide +kernel
theorem dX4_round_86 : decode cX4_round 86 = .ok (.iload_n 2, 1) := by decide +kernel
theorem dX4_round_87 : decode cX4_round 87 = .ok (.invokevirtual 84, 3) := by decide +kernel
theorem dX4_round_90 : decode cX4_round 90 = .ok (.ifCond .eq 50, 3) := by decide +kernel
theorem dX4_round_93 : decode cX4_round 93 = .ok (.aload_n 0, 1) := by decide +kernel
theorem dX4_round_94 : decode cX4_round 94 = .ok (.iload_n 2, 1) := by decide +kernel
theorem dX4_round_95 : decode cX4_round 95 = .ok (.iconst 3, 1) := by decide +kernel
theorem dX4_round_96 : decode cX4_round 96 = .ok (.aload_n 0, 1) := by decide +kernel
theorem dX4_round_97 : decode cX4_round 97 = .ok (.getfield 29, 3) := by decide +kernel
theorem dX4_round_100 : decode cX4_round 100 = .ok (.iload_n 2, 1) := by decide +kernel
theorem dX4_round_101 : decode cX4_round 101 = .ok (.baload, 1) := by decide +kernel
theorem dX4_round_102 : decode cX4_round 102 = .ok (.ifCond .eq 7, 3) := by decide +kernel
theorem dX4_round_105 : decode cX4_round 105 = .ok (.iconst 1, 1) := by decide +kernel
theorem dX4_round_106 : decode cX4_round 106 = .ok (.goto 10, 3) := by decide +kernel
theorem dX4_round_109 : decode cX4_round 109 = .ok (.aload_n 0, 1) := by decide +kernel
theorem dX4_round_110 : decode cX4_round 110 = .ok (.iload_n 2, 1) := by decide +kernel
theorem dX4_round_111 : decode cX4_round 111 = .ok (.iconst 3, 1) := by decide +kernel
theorem dX4_round_112 : decode cX4_round 112 = .ok (.invokevirtual 43, 3) := by decide +kernel
theorem dX4_round_115 : decode cX4_round 115 = .ok (.ineg, 1) := by decide +kernel
theorem dX4_round_116 : decode cX4_round 116 = .ok (.invokevirtual 54, 3) := by decide +kernel
theorem dX4_round_119 : decode cX4_round 119 = .ok (.aload_n 0, 1) := by decide +kernel
theorem dX4_round_120 : decode cX4_round 120 = .ok (.iload_n 2, 1) := by decide +kernel
theorem dX4_round_121 : decode cX4_round 121 = .ok (.iconst 3, 1) := by decide +kernel
theorem dX4_round_122 : decode cX4_round 122 = .ok (.invokevirtual 43, 3) := by decide +kernel
theorem dX4_round_125 : decode cX4_round 125 = .ok (.iconst 3, 1) := by decide +kernel
theorem dX4_round_126 : decode cX4_round 126 = .ok (.if_icmp .ne 14, 3) := by decide +kernel
theorem dX4_round_129 : decode cX4_round 129 = .ok (.aload_n 0, 1) := by decide +kernel
theorem dX4_round_130 : decode cX4_round 130 = .ok (.iload_n 2, 1) := by decide +kernel
theorem dX4_round_131 : decode cX4_round 131 = .ok (.invokevirtual 88, 3) := by decide +kernel
theorem dX4_round_134 : decode cX4_round 134 = .ok (.iload_n 1, 1) := by decide +kernel
theorem dX4_round_135 : decode cX4_round 135 = .ok (.iconst 1, 1) := by decide +kernel
theorem dX4_round_136 : decode cX4_round 136 = .ok (.iload_n 2, 1) := by decide +kernel
theorem dX4_round_137 : decode cX4_round 137 = .ok (.ishl, 1) := by decide +kernel
theorem dX4_round_138 : decode cX4_round 138 = .ok (.ior, 1) := by decide +kernel
theorem dX4_round_139 : decode cX4_round 139 = .ok (.istore_n 1, 1) := by decide +kernel
theorem dX4_round_140 : decode cX4_round 140 = .ok (.iinc 2 1, 3) := by decide +kernel
theorem dX4_round_143 : decode cX4_round 143 = .ok (.goto (-68), 3) := by decide +kernel
theorem dX4_round_146 : decode cX4_round 146 = .ok (.aload_n 0, 1) := by decide +kernel
theorem dX4_round_147 : decode cX4_round 147 = .ok (.getfield 7, 3) := by decide +kernel
theorem dX4_round_150 : decode cX4_round 150 = .ok (.iconst 0, 1) := by decide +kernel
theorem dX4_round_151 : decode cX4_round 151 = .ok (.dup2, 1) := by decide +kernel
theorem dX4_round_152 : decode cX4_round 152 = .ok (.iaload, 1) := by decide +kernel
theorem dX4_round_153 : decode cX4_round 153 = .ok (.iconst 1, 1) := by decide +kernel
theorem dX4_round_154 : decode cX4_round 154 = .ok (.iadd, 1) := by decide +kernel
theorem dX4_round_155 : decode cX4_round 155 = .ok (.iastore, 1) := by decide +kernel
theorem dX4_round_156 : decode cX4_round 156 = .ok (.iload_n 1, 1) := by decide +kernel
theorem dX4_round_157 : decode cX4_round 157 = .ok (.ireturn, 1) := by decide +kernel
theorem dX4_rounds_0 : decode cX4_rounds 0 = .ok (.iconst 0, 1) := by decide +kernel
theorem dX4_rounds_1 : decode cX4_rounds 1 = .ok (.istore_n 2, 1) := by decide +kernel
theorem dX4_rounds_2 : decode cX4_rounds 2 = .ok (.iconst 0, 1) := by decide +kernel
