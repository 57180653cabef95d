theorem dX4_rounds_3 : decode cX4_rounds 3 = .ok (.istore_n 3, 1) := by decide +kernel
theorem dX4_rounds_4 : decode cX4_rounds 4 = .ok (.iload_n 3, 1) := by decide +kernel
theorem dX4_rounds_5 : decode cX4_rounds 5 = .ok (.iload_n 1, 1) := by decide +kernel
theorem dX4_rounds_6 : decode cX4_rounds 6 = .ok (.if_icmp .ge 16, 3) := by decide +kernel
theorem dX4_rounds_9 : decode cX4_rounds 9 = .ok (.iload_n 2, 1) := by decide +kernel
theorem dX4_rounds_10 : decode cX4_rounds 10 = .ok (.aload_n 0, 1) := by decide +kernel
theorem dX4_rounds_11 : decode cX4_rounds 11 = .ok (.invokevirtual 91, 3) := by decide +kernel
theorem dX4_rounds_14 : decode cX4_rounds 14 = .ok (.ior, 1) := by decide +kernel
theorem dX4_rounds_15 : decode cX4_rounds 15 = .ok (.istore_n 2, 1) := by decide +kernel
theorem dX4_rounds_16 : decode cX4_rounds 16 = .ok (.iinc 3 1, 3) := by decide +kernel
theorem dX4_rounds_19 : decode cX4_rounds 19 = .ok (.goto (-15), 3) := by decide +kernel
theorem dX4_rounds_22 : decode cX4_rounds 22 = .ok (.iload_n 2, 1) := by decide +kernel
theorem dX4_rounds_23 : decode cX4_rounds 23 = .ok (.ireturn, 1) := by decide +kernel
theorem dX4_charges_0 : decode cX4_charges 0 = .ok (.iconst 0, 1) := by decide +kernel
theorem dX4_charges_1 : decode cX4_charges 1 = .ok (.istore_n 2, 1) := by decide +kernel
theorem dX4_charges_2 : decode cX4_charges 2 = .ok (.iconst 0, 1) := by decide +kernel
theorem dX4_charges_3 : decode cX4_charges 3 = .ok (.istore_n 3, 1) := by decide +kernel
theorem dX4_charges_4 : decode cX4_charges 4 = .ok (.iload_n 3, 1) := by decide +kernel
theorem dX4_charges_5 : decode cX4_charges 5 = .ok (.aload_n 0, 1) := by decide +kernel
theorem dX4_charges_6 : decode cX4_charges 6 = .ok (.getfield 7, 3) := by decide +kernel
theorem dX4_charges_9 : decode cX4_charges 9 = .ok (.iconst 1, 1) := by decide +kernel
theorem dX4_charges_10 : decode cX4_charges 10 = .ok (.iaload, 1) := by decide +kernel
theorem dX4_charges_11 : decode cX4_charges 11 = .ok (.if_icmp .ge 77, 3) := by decide +kernel
theorem dX4_charges_14 : decode cX4_charges 14 = .ok (.aload_n 0, 1) := by decide +kernel
theorem dX4_charges_15 : decode cX4_charges 15 = .ok (.iload_n 3, 1) := by decide +kernel
theorem dX4_charges_16 : decode cX4_charges 16 = .ok (.invokevirtual 84, 3) := by decide +kernel
theorem dX4_charges_19 : decode cX4_charges 19 = .ok (.ifCond .eq 63, 3) := by decide +kernel
theorem dX4_charges_22 : decode cX4_charges 22 = .ok (.aload_n 0, 1) := by decide +kernel
theorem dX4_charges_23 : decode cX4_charges 23 = .ok (.iload_n 3, 1) := by decide +kernel
theorem dX4_charges_24 : decode cX4_charges 24 = .ok (.iconst 0, 1) := by decide +kernel
theorem dX4_charges_25 : decode cX4_charges 25 = .ok (.invokevirtual 43, 3) := by decide +kernel
theorem dX4_charges_28 : decode cX4_charges 28 = .ok (.aload_n 0, 1) := by decide +kernel
theorem dX4_charges_29 : decode cX4_charges 29 = .ok (.iload_n 3, 1) := by decide +kernel
theorem dX4_charges_30 : decode cX4_charges 30 = .ok (.iconst 1, 1) := by decide +kernel
theorem dX4_charges_31 : decode cX4_charges 31 = .ok (.invokevirtual 43, 3) := by decide +kernel
theorem dX4_charges_34 : decode cX4_charges 34 = .ok (.isub, 1) := by decide +kernel
theorem dX4_charges_35 : decode cX4_charges 35 = .ok (.istore 4, 2) := by decide +kernel
theorem dX4_charges_37 : decode cX4_charges 37 = .ok (.aload_n 0, 1) := by decide +kernel
theorem dX4_charges_38 : decode cX4_charges 38 = .ok (.iload_n 3, 1) := by decide +kernel
theorem dX4_charges_39 : decode cX4_charges 39 = .ok (.iconst 1, 1) := by decide +kernel
theorem dX4_charges_40 : decode cX4_charges 40 = .ok (.iload_n 1, 1) := by decide +kernel
theorem dX4_charges_41 : decode cX4_charges 41 = .ok (.iload 4, 2) := by decide +kernel
theorem dX4_charges_43 : decode cX4_charges 43 = .ok (.if_icmp .ge 7, 3) := by decide +kernel
theorem dX4_charges_46 : decode cX4_charges 46 = .ok (.iload_n 1, 1) := by decide +kernel
theorem dX4_charges_47 : decode cX4_charges 47 = .ok (.goto 5, 3) := by decide +kernel
theorem dX4_charges_50 : decode cX4_charges 50 = .ok (.iload 4, 2) := by decide +kernel
theorem dX4_charges_52 : decode cX4_charges 52 = .ok (.invokevirtual 54, 3) := by decide +kernel
theorem dX4_charges_55 : decode cX4_charges 55 = .ok (.iload_n 2, 1) := by decide +kernel
theorem dX4_charges_56 : decode cX4_charges 56 = .ok (.iload_n 1, 1) := by decide +kernel
theorem dX4_charges_57 : decode cX4_charges 57 = .ok (.iload 4, 2) := by decide +kernel
theorem dX4_charges_59 : decode cX4_charges 59 = .ok (.if_icmp .ge 7, 3) := by decide +kernel
theorem dX4_charges_62 : decode cX4_charges 62 = .ok (.iconst 0, 1) := by decide +kernel
theorem dX4_charges_63 : decode cX4_charges 63 = .ok (.goto 7, 3) := by decide +kernel
theorem dX4_charges_66 : decode cX4_charges 66 = .ok (.iload_n 1, 1) := by decide +kernel
theorem dX4_charges_67 : decode cX4_charges 67 = .ok (.iload 4, 2) := by decide +kernel
theorem dX4_charges_69 : decode cX4_charges 69 = .ok (.isub, 1) := by decide +kernel
theorem dX4_charges_70 : decode cX4_charges 70 = .ok (.iadd, 1) := by decide +kernel
theorem dX4_charges_71 : decode cX4_charges 71 = .ok (.istore_n 2, 1) := by decide +kernel
theorem dX4_charges_72 : decode cX4_charges 72 = .ok (.aload_n 0, 1) := by decide +kernel
theorem dX4_charges_73 : decode cX4_charges 73 = .ok (.getfield 7, 3) := by decide +kernel
theorem dX4_charges_76 : decode cX4_charges 76 = .ok (.iconst 3, 1) := by decide +kernel
theorem dX4_charges_77 : decode cX4_charges 77 = .ok (.dup2, 1) := by decide +kernel
theorem dX4_charges_78 : decode cX4_charges 78 = .ok (.iaload, 1) := by decide +kernel
theorem dX4_charges_79 : decode cX4_charges 79 = .ok (.iload_n 1, 1) := by decide +kernel
theorem dX4_charges_80 : decode cX4_charges 80 = .ok (.iadd, 1) := by decide +kernel
theorem dX4_charges_81 : decode cX4_charges 81 = .ok (.iastore, 1) := by decide +kernel
theorem dX4_charges_82 : decode cX4_charges 82 = .ok (.iinc 3 1, 3) := by decide +kernel
theorem dX4_charges_85 : decode cX4_charges 85 = .ok (.goto (-81), 3) := by decide +kernel
theorem dX4_charges_88 : decode cX4_charges 88 = .ok (.aload_n 0, 1) := by decide +kernel
theorem dX4_charges_89 : decode cX4_charges 89 = .ok (.getfield 7, 3) := by decide +kernel
theorem dX4_charges_92 : decode cX4_charges 92 = .ok (.iconst 5, 1) := by decide +kernel
theorem dX4_charges_93 : decode cX4_charges 93 = .ok (.dup2, 1) := by decide +kernel
theorem dX4_charges_94 : decode cX4_charges 94 = .ok (.iaload, 1) := by decide +kernel
theorem dX4_charges_95 : decode cX4_charges 95 = .ok (.iload_n 2, 1) := by decide +kernel
theorem dX4_charges_96 : decode cX4_charges 96 = .ok (.iadd, 1) := by decide +kernel
theorem dX4_charges_97 : decode cX4_charges 97 = .ok (.iastore, 1) := by decide +kernel
theorem dX4_charges_98 : decode cX4_charges 98 = .ok (.iload_n 2, 1) := by decide +kernel
theorem dX4_charges_99 : decode cX4_charges 99 = .ok (.ireturn, 1) := by decide +kernel
theorem dX4_size_0 : decode cX4_size 0 = .ok (.iload_n 0, 1) := by decide +kernel
theorem dX4_size_1 : decode cX4_size 1 = .ok (.istore_n 3, 1) := by decide +kernel
theorem dX4_size_2 : decode cX4_size 2 = .ok (.iload_n 3, 1) := by decide +kernel
theorem dX4_size_3 : decode cX4_size 3 = .ok (.iload_n 1, 1) := by decide +kernel
theorem dX4_size_4 : decode cX4_size 4 = .ok (.iload_n 2, 1) := by decide +kernel
theorem dX4_size_5 : decode cX4_size 5 = .ok (.invokestatic 50, 3) := by decide +kernel
theorem dX4_size_8 : decode cX4_size 8 = .ok (.iload_n 0, 1) := by decide +kernel
theorem dX4_size_9 : decode cX4_size 9 = .ok (.if_icmp .ge 9, 3) := by decide +kernel
theorem dX4_size_12 : decode cX4_size 12 = .ok (.iinc 3 1, 3) := by decide +kernel
theorem dX4_size_15 : decode cX4_size 15 = .ok (.goto (-13), 3) := by decide +kernel
theorem dX4_size_18 : decode cX4_size 18 = .ok (.iload_n 3, 1) := by decide +kernel
theorem dX4_size_19 : decode cX4_size 19 = .ok (.ireturn, 1) := by decide +kernel
theorem dX4_richest_0 : decode cX4_richest 0 = .ok (.bipush (-9), 2) := by decide +kernel
theorem dX4_richest_2 : decode cX4_richest 2 = .ok (.istore_n 2, 1) := by decide +kernel
theorem dX4_richest_3 : decode cX4_richest 3 = .ok (.iconst 0, 1) := by decide +kernel
theorem dX4_richest_4 : decode cX4_richest 4 = .ok (.istore_n 3, 1) := by decide +kernel
theorem dX4_richest_5 : decode cX4_richest 5 = .ok (.iload_n 3, 1) := by decide +kernel
theorem dX4_richest_6 : decode cX4_richest 6 = .ok (.aload_n 0, 1) := by decide +kernel
theorem dX4_richest_7 : decode cX4_richest 7 = .ok (.getfield 7, 3) := by decide +kernel
theorem dX4_richest_10 : decode cX4_richest 10 = .ok (.iconst 1, 1) := by decide +kernel
theorem dX4_richest_11 : decode cX4_richest 11 = .ok (.iaload, 1) := by decide +kernel
theorem dX4_richest_12 : decode cX4_richest 12 = .ok (.if_icmp .ge 49, 3) := by decide +kernel
theorem dX4_richest_15 : decode cX4_richest 15 = .ok (.iload_n 3, 1) := by decide +kernel
theorem dX4_richest_16 : decode cX4_richest 16 = .ok (.iload_n 1, 1) := by decide +kernel
theorem dX4_richest_17 : decode cX4_richest 17 = .ok (.if_icmp .eq 36, 3) := by decide +kernel
theorem dX4_richest_20 : decode cX4_richest 20 = .ok (.aload_n 0, 1) := by decide +kernel
theorem dX4_richest_21 : decode cX4_richest 21 = .ok (.iload_n 3, 1) := by decide +kernel
theorem dX4_richest_22 : decode cX4_richest 22 = .ok (.invokevirtual 84, 3) := by decide +kernel
theorem dX4_richest_25 : decode cX4_richest 25 = .ok (.ifCond .eq 28, 3) := by decide +kernel
theorem dX4_richest_28 : decode cX4_richest 28 = .ok (.iload_n 2, 1) := by decide +kernel
theorem dX4_richest_29 : decode cX4_richest 29 = .ok (.bipush (-9), 2) := by decide +kernel
theorem dX4_richest_31 : decode cX4_richest 31 = .ok (.if_icmp .eq 18, 3) := by decide +kernel
theorem dX4_richest_34 : decode cX4_richest 34 = .ok (.aload_n 0, 1) := by decide +kernel
theorem dX4_richest_35 : decode cX4_richest 35 = .ok (.iload_n 3, 1) := by decide +kernel
theorem dX4_richest_36 : decode cX4_richest 36 = .ok (.iconst 1, 1) := by decide +kernel
theorem dX4_richest_37 : decode cX4_richest 37 = .ok (.invokevirtual 43, 3) := by decide +kernel
theorem dX4_richest_40 : decode cX4_richest 40 = .ok (.aload_n 0, 1) := by decide +kernel
theorem dX4_richest_41 : decode cX4_richest 41 = .ok (.iload_n 2, 1) := by decide +kernel
theorem dX4_richest_42 : decode cX4_richest 42 = .ok (.iconst 1, 1) := by decide +kernel
theorem dX4_richest_43 : decode cX4_richest 43 = .ok (.invokevirtual 43, 3) := by decide +kernel
theorem dX4_richest_46 : decode cX4_richest 46 = .ok (.if_icmp .le 7, 3) := by decide +kernel
theorem dX4_richest_49 : decode cX4_richest 49 = .ok (.iload_n 3, 1) := by decide +kernel
theorem dX4_richest_50 : decode cX4_richest 50 = .ok (.goto 4, 3) := by decide +kernel
theorem dX4_richest_53 : decode cX4_richest 53 = .ok (.iload_n 2, 1) := by decide +kernel
theorem dX4_richest_54 : decode cX4_richest 54 = .ok (.istore_n 2, 1) := by decide +kernel
theorem dX4_richest_55 : decode cX4_richest 55 = .ok (.iinc 3 1, 3) := by decide +kernel
theorem dX4_richest_58 : decode cX4_richest 58 = .ok (.goto (-53), 3) := by decide +kernel
theorem dX4_richest_61 : decode cX4_richest 61 = .ok (.iload_n 2, 1) := by decide +kernel
theorem dX4_richest_62 : decode cX4_richest 62 = .ok (.ireturn, 1) := by decide +kernel
theorem dX4_borrows_0 : decode cX4_borrows 0 = .ok (.aload_n 0, 1) := by decide +kernel
theorem dX4_borrows_1 : decode cX4_borrows 1 = .ok (.iload_n 1, 1) := by decide +kernel
theorem dX4_borrows_2 : decode cX4_borrows 2 = .ok (.invokevirtual 95, 3) := by decide +kernel
theorem dX4_borrows_5 : decode cX4_borrows 5 = .ok (.istore_n 3, 1) := by decide +kernel
theorem dX4_borrows_6 : decode cX4_borrows 6 = .ok (.iload_n 3, 1) := by decide +kernel
theorem dX4_borrows_7 : decode cX4_borrows 7 = .ok (.bipush (-9), 2) := by decide +kernel
theorem dX4_borrows_9 : decode cX4_borrows 9 = .ok (.if_icmp .eq 24, 3) := by decide +kernel
theorem dX4_borrows_12 : decode cX4_borrows 12 = .ok (.aload_n 0, 1) := by decide +kernel
theorem dX4_borrows_13 : decode cX4_borrows 13 = .ok (.iload_n 1, 1) := by decide +kernel
theorem dX4_borrows_14 : decode cX4_borrows 14 = .ok (.iconst 0, 1) := by decide +kernel
theorem dX4_borrows_15 : decode cX4_borrows 15 = .ok (.invokevirtual 43, 3) := by decide +kernel
theorem dX4_borrows_18 : decode cX4_borrows 18 = .ok (.iload_n 2, 1) := by decide +kernel
theorem dX4_borrows_19 : decode cX4_borrows 19 = .ok (.if_icmp .lt 14, 3) := by decide +kernel
theorem dX4_borrows_22 : decode cX4_borrows 22 = .ok (.aload_n 0, 1) := by decide +kernel
theorem dX4_borrows_23 : decode cX4_borrows 23 = .ok (.getfield 7, 3) := by decide +kernel
theorem dX4_borrows_26 : decode cX4_borrows 26 = .ok (.iconst 2, 1) := by decide +kernel
theorem dX4_borrows_27 : decode cX4_borrows 27 = .ok (.iaload, 1) := by decide +kernel
theorem dX4_borrows_28 : decode cX4_borrows 28 = .ok (.bipush 12, 2) := by decide +kernel
theorem dX4_borrows_30 : decode cX4_borrows 30 = .ok (.if_icmp .ne 5, 3) := by decide +kernel
theorem dX4_borrows_33 : decode cX4_borrows 33 = .ok (.iconst 0, 1) := by decide +kernel
theorem dX4_borrows_34 : decode cX4_borrows 34 = .ok (.ireturn, 1) := by decide +kernel
theorem dX4_borrows_35 : decode cX4_borrows 35 = .ok (.iload_n 2, 1) := by decide +kernel
theorem dX4_borrows_36 : decode cX4_borrows 36 = .ok (.aload_n 0, 1) := by decide +kernel
theorem dX4_borrows_37 : decode cX4_borrows 37 = .ok (.iload_n 1, 1) := by decide +kernel
theorem dX4_borrows_38 : decode cX4_borrows 38 = .ok (.iconst 1, 1) := by decide +kernel
theorem dX4_borrows_39 : decode cX4_borrows 39 = .ok (.invokevirtual 43, 3) := by decide +kernel
theorem dX4_borrows_42 : decode cX4_borrows 42 = .ok (.isub, 1) := by decide +kernel
theorem dX4_borrows_43 : decode cX4_borrows 43 = .ok (.iload_n 3, 1) := by decide +kernel
theorem dX4_borrows_44 : decode cX4_borrows 44 = .ok (.iload_n 1, 1) := by decide +kernel
theorem dX4_borrows_45 : decode cX4_borrows 45 = .ok (.invokestatic 98, 3) := by decide +kernel
theorem dX4_borrows_48 : decode cX4_borrows 48 = .ok (.istore 4, 2) := by decide +kernel
theorem dX4_borrows_50 : decode cX4_borrows 50 = .ok (.aload_n 0, 1) := by decide +kernel
theorem dX4_borrows_51 : decode cX4_borrows 51 = .ok (.iload_n 3, 1) := by decide +kernel
theorem dX4_borrows_52 : decode cX4_borrows 52 = .ok (.iconst 1, 1) := by decide +kernel
theorem dX4_borrows_53 : decode cX4_borrows 53 = .ok (.invokevirtual 43, 3) := by decide +kernel
theorem dX4_borrows_56 : decode cX4_borrows 56 = .ok (.iload 4, 2) := by decide +kernel
theorem dX4_borrows_58 : decode cX4_borrows 58 = .ok (.isub, 1) := by decide +kernel
theorem dX4_borrows_59 : decode cX4_borrows 59 = .ok (.iload_n 2, 1) := by decide +kernel
theorem dX4_borrows_60 : decode cX4_borrows 60 = .ok (.if_icmp .ge 5, 3) := by decide +kernel
theorem dX4_borrows_63 : decode cX4_borrows 63 = .ok (.iconst 0, 1) := by decide +kernel
theorem dX4_borrows_64 : decode cX4_borrows 64 = .ok (.ireturn, 1) := by decide +kernel
theorem dX4_borrows_65 : decode cX4_borrows 65 = .ok (.aload_n 0, 1) := by decide +kernel
theorem dX4_borrows_66 : decode cX4_borrows 66 = .ok (.iload_n 3, 1) := by decide +kernel
theorem dX4_borrows_67 : decode cX4_borrows 67 = .ok (.iload_n 1, 1) := by decide +kernel
theorem dX4_borrows_68 : decode cX4_borrows 68 = .ok (.iload 4, 2) := by decide +kernel
theorem dX4_borrows_70 : decode cX4_borrows 70 = .ok (.bipush 10, 2) := by decide +kernel
theorem dX4_borrows_72 : decode cX4_borrows 72 = .ok (.invokevirtual 101, 3) := by decide +kernel
theorem dX4_borrows_75 : decode cX4_borrows 75 = .ok (.ifCond .lt 7, 3) := by decide +kernel
theorem dX4_borrows_78 : decode cX4_borrows 78 = .ok (.iconst 1, 1) := by decide +kernel
theorem dX4_borrows_79 : decode cX4_borrows 79 = .ok (.goto 4, 3) := by decide +kernel
theorem dX4_borrows_82 : decode cX4_borrows 82 = .ok (.iconst 0, 1) := by decide +kernel
theorem dX4_borrows_83 : decode cX4_borrows 83 = .ok (.ireturn, 1) := by decide +kernel
theorem dX4_draws0_0 : decode cX4_draws0 0 = .ok (.iconst 0, 1) := by decide +kernel
theorem dX4_draws0_1 : decode cX4_draws0 1 = .ok (.istore_n 2, 1) := by decide +kernel
theorem dX4_draws0_2 : decode cX4_draws0 2 = .ok (.iconst 0, 1) := by decide +kernel
theorem dX4_draws0_3 : decode cX4_draws0 3 = .ok (.istore_n 3, 1) := by decide +kernel
theorem dX4_draws0_4 : decode cX4_draws0 4 = .ok (.iload_n 3, 1) := by decide +kernel
theorem dX4_draws0_5 : decode cX4_draws0 5 = .ok (.aload_n 0, 1) := by decide +kernel
theorem dX4_draws0_6 : decode cX4_draws0 6 = .ok (.getfield 7, 3) := by decide +kernel
theorem dX4_draws0_9 : decode cX4_draws0 9 = .ok (.iconst 1, 1) := by decide +kernel
theorem dX4_draws0_10 : decode cX4_draws0 10 = .ok (.iaload, 1) := by decide +kernel
theorem dX4_draws0_11 : decode cX4_draws0 11 = .ok (.if_icmp .ge 41, 3) := by decide +kernel
theorem dX4_draws0_14 : decode cX4_draws0 14 = .ok (.aload_n 0, 1) := by decide +kernel
theorem dX4_draws0_15 : decode cX4_draws0 15 = .ok (.iload_n 3, 1) := by decide +kernel
theorem dX4_draws0_16 : decode cX4_draws0 16 = .ok (.invokevirtual 84, 3) := by decide +kernel
theorem dX4_draws0_19 : decode cX4_draws0 19 = .ok (.ifCond .eq 27, 3) := by decide +kernel
theorem dX4_draws0_22 : decode cX4_draws0 22 = .ok (.iinc 2 1, 3) := by decide +kernel
theorem dX4_draws0_25 : decode cX4_draws0 25 = .ok (.aload_n 0, 1) := by decide +kernel
theorem dX4_draws0_26 : decode cX4_draws0 26 = .ok (.iload_n 3, 1) := by decide +kernel
theorem dX4_draws0_27 : decode cX4_draws0 27 = .ok (.iconst 1, 1) := by decide +kernel
theorem dX4_draws0_28 : decode cX4_draws0 28 = .ok (.invokevirtual 43, 3) := by decide +kernel
theorem dX4_draws0_31 : decode cX4_draws0 31 = .ok (.iload_n 1, 1) := by decide +kernel
theorem dX4_draws0_32 : decode cX4_draws0 32 = .ok (.if_icmp .ge 14, 3) := by decide +kernel
theorem dX4_draws0_35 : decode cX4_draws0 35 = .ok (.aload_n 0, 1) := by decide +kernel
theorem dX4_draws0_36 : decode cX4_draws0 36 = .ok (.iload_n 3, 1) := by decide +kernel
theorem dX4_draws0_37 : decode cX4_draws0 37 = .ok (.iload_n 1, 1) := by decide +kernel
theorem dX4_draws0_38 : decode cX4_draws0 38 = .ok (.invokevirtual 105, 3) := by decide +kernel
theorem dX4_draws0_41 : decode cX4_draws0 41 = .ok (.ifCond .ne 5, 3) := by decide +kernel
theorem dX4_draws0_44 : decode cX4_draws0 44 = .ok (.iconst 0, 1) := by decide +kernel
theorem dX4_draws0_45 : decode cX4_draws0 45 = .ok (.ireturn, 1) := by decide +kernel
theorem dX4_draws0_46 : decode cX4_draws0 46 = .ok (.iinc 3 1, 3) := by decide +kernel
theorem dX4_draws0_49 : decode cX4_draws0 49 = .ok (.goto (-45), 3) := by decide +kernel
theorem dX4_draws0_52 : decode cX4_draws0 52 = .ok (.iconst 0, 1) := by decide +kernel
theorem dX4_draws0_53 : decode cX4_draws0 53 = .ok (.istore_n 3, 1) := by decide +kernel
theorem dX4_draws0_54 : decode cX4_draws0 54 = .ok (.iload_n 3, 1) := by decide +kernel
theorem dX4_draws0_55 : decode cX4_draws0 55 = .ok (.aload_n 0, 1) := by decide +kernel
theorem dX4_draws0_56 : decode cX4_draws0 56 = .ok (.getfield 7, 3) := by decide +kernel
theorem dX4_draws0_59 : decode cX4_draws0 59 = .ok (.iconst 1, 1) := by decide +kernel
theorem dX4_draws0_60 : decode cX4_draws0 60 = .ok (.iaload, 1) := by decide +kernel
theorem dX4_draws0_61 : decode cX4_draws0 61 = .ok (.if_icmp .ge 29, 3) := by decide +kernel
theorem dX4_draws0_64 : decode cX4_draws0 64 = .ok (.aload_n 0, 1) := by decide +kernel
theorem dX4_draws0_65 : decode cX4_draws0 65 = .ok (.iload_n 3, 1) := by decide +kernel
theorem dX4_draws0_66 : decode cX4_draws0 66 = .ok (.iconst 1, 1) := by decide +kernel
theorem dX4_draws0_67 : decode cX4_draws0 67 = .ok (.aload_n 0, 1) := by decide +kernel
theorem dX4_draws0_68 : decode cX4_draws0 68 = .ok (.iload_n 3, 1) := by decide +kernel
theorem dX4_draws0_69 : decode cX4_draws0 69 = .ok (.invokevirtual 84, 3) := by decide +kernel
theorem dX4_draws0_72 : decode cX4_draws0 72 = .ok (.ifCond .eq 8, 3) := by decide +kernel
theorem dX4_draws0_75 : decode cX4_draws0 75 = .ok (.iload_n 1, 1) := by decide +kernel
theorem dX4_draws0_76 : decode cX4_draws0 76 = .ok (.ineg, 1) := by decide +kernel
theorem dX4_draws0_77 : decode cX4_draws0 77 = .ok (.goto 4, 3) := by decide +kernel
theorem dX4_draws0_80 : decode cX4_draws0 80 = .ok (.iconst 0, 1) := by decide +kernel
theorem dX4_draws0_81 : decode cX4_draws0 81 = .ok (.invokevirtual 54, 3) := by decide +kernel
theorem dX4_draws0_84 : decode cX4_draws0 84 = .ok (.iinc 3 1, 3) := by decide +kernel
theorem dX4_draws0_87 : decode cX4_draws0 87 = .ok (.goto (-33), 3) := by decide +kernel
theorem dX4_draws0_90 : decode cX4_draws0 90 = .ok (.aload_n 0, 1) := by decide +kernel
theorem dX4_draws0_91 : decode cX4_draws0 91 = .ok (.getfield 7, 3) := by decide +kernel
theorem dX4_draws0_94 : decode cX4_draws0 94 = .ok (.iconst 4, 1) := by decide +kernel
theorem dX4_draws0_95 : decode cX4_draws0 95 = .ok (.dup2, 1) := by decide +kernel
theorem dX4_draws0_96 : decode cX4_draws0 96 = .ok (.iaload, 1) := by decide +kernel
theorem dX4_draws0_97 : decode cX4_draws0 97 = .ok (.iload_n 1, 1) := by decide +kernel
theorem dX4_draws0_98 : decode cX4_draws0 98 = .ok (.iload_n 2, 1) := by decide +kernel
theorem dX4_draws0_99 : decode cX4_draws0 99 = .ok (.imul, 1) := by decide +kernel
theorem dX4_draws0_100 : decode cX4_draws0 100 = .ok (.iadd, 1) := by decide +kernel
theorem dX4_draws0_101 : decode cX4_draws0 101 = .ok (.iastore, 1) := by decide +kernel
theorem dX4_draws0_102 : decode cX4_draws0 102 = .ok (.iload_n 1, 1) := by decide +kernel
theorem dX4_draws0_103 : decode cX4_draws0 103 = .ok (.iload_n 2, 1) := by decide +kernel
theorem dX4_draws0_104 : decode cX4_draws0 104 = .ok (.imul, 1) := by decide +kernel
theorem dX4_draws0_105 : decode cX4_draws0 105 = .ok (.ireturn, 1) := by decide +kernel
theorem dX4_drawn_0 : decode cX4_drawn 0 = .ok (.iconst 0, 1) := by decide +kernel
theorem dX4_drawn_1 : decode cX4_drawn 1 = .ok (.istore_n 2, 1) := by decide +kernel
theorem dX4_drawn_2 : decode cX4_drawn 2 = .ok (.iload_n 2, 1) := by decide +kernel
theorem dX4_drawn_3 : decode cX4_drawn 3 = .ok (.bipush 107, 2) := by decide +kernel
theorem dX4_drawn_5 : decode cX4_drawn 5 = .ok (.if_icmp .ge 21, 3) := by decide +kernel
theorem dX4_drawn_8 : decode cX4_drawn 8 = .ok (.aload_n 0, 1) := by decide +kernel
theorem dX4_drawn_9 : decode cX4_drawn 9 = .ok (.getfield 32, 3) := by decide +kernel
theorem dX4_drawn_12 : decode cX4_drawn 12 = .ok (.iload_n 2, 1) := by decide +kernel
theorem dX4_drawn_13 : decode cX4_drawn 13 = .ok (.aload_n 0, 1) := by decide +kernel
theorem dX4_drawn_14 : decode cX4_drawn 14 = .ok (.getfield 7, 3) := by decide +kernel
theorem dX4_drawn_17 : decode cX4_drawn 17 = .ok (.iload_n 2, 1) := by decide +kernel
theorem dX4_drawn_18 : decode cX4_drawn 18 = .ok (.iaload, 1) := by decide +kernel
theorem dX4_drawn_19 : decode cX4_drawn 19 = .ok (.iastore, 1) := by decide +kernel
theorem dX4_drawn_20 : decode cX4_drawn 20 = .ok (.iinc 2 1, 3) := by decide +kernel
theorem dX4_drawn_23 : decode cX4_drawn 23 = .ok (.goto (-21), 3) := by decide +kernel
theorem dX4_drawn_26 : decode cX4_drawn 26 = .ok (.aload_n 0, 1) := by decide +kernel
theorem dX4_drawn_27 : decode cX4_drawn 27 = .ok (.iload_n 1, 1) := by decide +kernel
theorem dX4_drawn_28 : decode cX4_drawn 28 = .ok (.invokevirtual 109, 3) := by decide +kernel
theorem dX4_drawn_31 : decode cX4_drawn 31 = .ok (.istore_n 2, 1) := by decide +kernel
theorem dX4_drawn_32 : decode cX4_drawn 32 = .ok (.iconst 0, 1) := by decide +kernel
theorem dX4_drawn_33 : decode cX4_drawn 33 = .ok (.istore_n 3, 1) := by decide +kernel
theorem dX4_drawn_34 : decode cX4_drawn 34 = .ok (.iload_n 3, 1) := by decide +kernel
theorem dX4_drawn_35 : decode cX4_drawn 35 = .ok (.bipush 107, 2) := by decide +kernel
theorem dX4_drawn_37 : decode cX4_drawn 37 = .ok (.if_icmp .ge 25, 3) := by decide +kernel
theorem dX4_drawn_40 : decode cX4_drawn 40 = .ok (.iload_n 2, 1) := by decide +kernel
theorem dX4_drawn_41 : decode cX4_drawn 41 = .ok (.ifCond .ne 21, 3) := by decide +kernel
theorem dX4_drawn_44 : decode cX4_drawn 44 = .ok (.aload_n 0, 1) := by decide +kernel
theorem dX4_drawn_45 : decode cX4_drawn 45 = .ok (.getfield 7, 3) := by decide +kernel
theorem dX4_drawn_48 : decode cX4_drawn 48 = .ok (.iload_n 3, 1) := by decide +kernel
theorem dX4_drawn_49 : decode cX4_drawn 49 = .ok (.aload_n 0, 1) := by decide +kernel
theorem dX4_drawn_50 : decode cX4_drawn 50 = .ok (.getfield 32, 3) := by decide +kernel
theorem dX4_drawn_53 : decode cX4_drawn 53 = .ok (.iload_n 3, 1) := by decide +kernel
theorem dX4_drawn_54 : decode cX4_drawn 54 = .ok (.iaload, 1) := by decide +kernel
theorem dX4_drawn_55 : decode cX4_drawn 55 = .ok (.iastore, 1) := by decide +kernel
theorem dX4_drawn_56 : decode cX4_drawn 56 = .ok (.iinc 3 1, 3) := by decide +kernel
theorem dX4_drawn_59 : decode cX4_drawn 59 = .ok (.goto (-25), 3) := by decide +kernel
theorem dX4_drawn_62 : decode cX4_drawn 62 = .ok (.iload_n 2, 1) := by decide +kernel
theorem dX4_drawn_63 : decode cX4_drawn 63 = .ok (.ireturn, 1) := by decide +kernel
theorem dX4_allCharge_0 : decode cX4_allCharge 0 = .ok (.iconst 0, 1) := by decide +kernel
theorem dX4_allCharge_1 : decode cX4_allCharge 1 = .ok (.istore_n 1, 1) := by decide +kernel
theorem dX4_allCharge_2 : decode cX4_allCharge 2 = .ok (.iconst 0, 1) := by decide +kernel
theorem dX4_allCharge_3 : decode cX4_allCharge 3 = .ok (.istore_n 2, 1) := by decide +kernel
theorem dX4_allCharge_4 : decode cX4_allCharge 4 = .ok (.iload_n 2, 1) := by decide +kernel
theorem dX4_allCharge_5 : decode cX4_allCharge 5 = .ok (.aload_n 0, 1) := by decide +kernel
theorem dX4_allCharge_6 : decode cX4_allCharge 6 = .ok (.getfield 7, 3) := by decide +kernel
theorem dX4_allCharge_9 : decode cX4_allCharge 9 = .ok (.iconst 1, 1) := by decide +kernel
theorem dX4_allCharge_10 : decode cX4_allCharge 10 = .ok (.iaload, 1) := by decide +kernel
theorem dX4_allCharge_11 : decode cX4_allCharge 11 = .ok (.if_icmp .ge 18, 3) := by decide +kernel
theorem dX4_allCharge_14 : decode cX4_allCharge 14 = .ok (.iload_n 1, 1) := by decide +kernel
theorem dX4_allCharge_15 : decode cX4_allCharge 15 = .ok (.aload_n 0, 1) := by decide +kernel
theorem dX4_allCharge_16 : decode cX4_allCharge 16 = .ok (.iload_n 2, 1) := by decide +kernel
theorem dX4_allCharge_17 : decode cX4_allCharge 17 = .ok (.iconst 1, 1) := by decide +kernel
theorem dX4_allCharge_18 : decode cX4_allCharge 18 = .ok (.invokevirtual 43, 3) := by decide +kernel
theorem dX4_allCharge_21 : decode cX4_allCharge 21 = .ok (.iadd, 1) := by decide +kernel
theorem dX4_allCharge_22 : decode cX4_allCharge 22 = .ok (.istore_n 1, 1) := by decide +kernel
theorem dX4_allCharge_23 : decode cX4_allCharge 23 = .ok (.iinc 2 1, 3) := by decide +kernel
theorem dX4_allCharge_26 : decode cX4_allCharge 26 = .ok (.goto (-22), 3) := by decide +kernel
theorem dX4_allCharge_29 : decode cX4_allCharge 29 = .ok (.iload_n 1, 1) := by decide +kernel
theorem dX4_allCharge_30 : decode cX4_allCharge 30 = .ok (.ireturn, 1) := by decide +kernel
theorem dX4_append_0 : decode cX4_append 0 = .ok (.aload_n 0, 1) := by decide +kernel
theorem dX4_append_1 : decode cX4_append 1 = .ok (.iload_n 1, 1) := by decide +kernel
theorem dX4_append_2 : decode cX4_append 2 = .ok (.iconst 0, 1) := by decide +kernel
theorem dX4_append_3 : decode cX4_append 3 = .ok (.sipush 255, 3) := by decide +kernel
theorem dX4_append_6 : decode cX4_append 6 = .ok (.invokestatic 39, 3) := by decide +kernel
theorem dX4_append_9 : decode cX4_append 9 = .ok (.ifCond .ne 7, 3) := by decide +kernel
theorem dX4_append_12 : decode cX4_append 12 = .ok (.iconst 1, 1) := by decide +kernel
theorem dX4_append_13 : decode cX4_append 13 = .ok (.goto 17, 3) := by decide +kernel
theorem dX4_append_16 : decode cX4_append 16 = .ok (.aload_n 0, 1) := by decide +kernel
theorem dX4_append_17 : decode cX4_append 17 = .ok (.getfield 112, 3) := by decide +kernel
theorem dX4_append_20 : decode cX4_append 20 = .ok (.bipush 120, 2) := by decide +kernel
theorem dX4_append_22 : decode cX4_append 22 = .ok (.if_icmp .ne 7, 3) := by decide +kernel
theorem dX4_append_25 : decode cX4_append 25 = .ok (.iconst 2, 1) := by decide +kernel
theorem dX4_append_26 : decode cX4_append 26 = .ok (.goto 4, 3) := by decide +kernel
theorem dX4_append_29 : decode cX4_append 29 = .ok (.iconst 0, 1) := by decide +kernel
theorem dX4_append_30 : decode cX4_append 30 = .ok (.putfield 35, 3) := by decide +kernel
theorem dX4_append_33 : decode cX4_append 33 = .ok (.aload_n 0, 1) := by decide +kernel
theorem dX4_append_34 : decode cX4_append 34 = .ok (.getfield 35, 3) := by decide +kernel
theorem dX4_append_37 : decode cX4_append 37 = .ok (.ifCond .le 5, 3) := by decide +kernel
theorem dX4_append_40 : decode cX4_append 40 = .ok (.iconst 0, 1) := by decide +kernel
theorem dX4_append_41 : decode cX4_append 41 = .ok (.ireturn, 1) := by decide +kernel
theorem dX4_append_42 : decode cX4_append 42 = .ok (.aload_n 0, 1) := by decide +kernel
theorem dX4_append_43 : decode cX4_append 43 = .ok (.getfield 26, 3) := by decide +kernel
theorem dX4_append_46 : decode cX4_append 46 = .ok (.aload_n 0, 1) := by decide +kernel
theorem dX4_append_47 : decode cX4_append 47 = .ok (.getfield 112, 3) := by decide +kernel
theorem dX4_append_50 : decode cX4_append 50 = .ok (.iload_n 1, 1) := by decide +kernel
theorem dX4_append_51 : decode cX4_append 51 = .ok (.iastore, 1) := by decide +kernel
theorem dX4_append_52 : decode cX4_append 52 = .ok (.aload_n 0, 1) := by decide +kernel
theorem dX4_append_53 : decode cX4_append 53 = .ok (.dup, 1) := by decide +kernel
theorem dX4_append_54 : decode cX4_append 54 = .ok (.getfield 112, 3) := by decide +kernel
theorem dX4_append_57 : decode cX4_append 57 = .ok (.iconst 1, 1) := by decide +kernel
theorem dX4_append_58 : decode cX4_append 58 = .ok (.iadd, 1) := by decide +kernel
theorem dX4_append_59 : decode cX4_append 59 = .ok (.putfield 112, 3) := by decide +kernel
theorem dX4_append_62 : decode cX4_append 62 = .ok (.aload_n 0, 1) := by decide +kernel
theorem dX4_append_63 : decode cX4_append 63 = .ok (.getfield 112, 3) := by decide +kernel
theorem dX4_append_66 : decode cX4_append 66 = .ok (.ireturn, 1) := by decide +kernel
theorem dX4_clearText_0 : decode cX4_clearText 0 = .ok (.aload_n 0, 1) := by decide +kernel
theorem dX4_clearText_1 : decode cX4_clearText 1 = .ok (.iconst 0, 1) := by decide +kernel
theorem dX4_clearText_2 : decode cX4_clearText 2 = .ok (.putfield 35, 3) := by decide +kernel
theorem dX4_clearText_5 : decode cX4_clearText 5 = .ok (.aload_n 0, 1) := by decide +kernel
theorem dX4_clearText_6 : decode cX4_clearText 6 = .ok (.getfield 112, 3) := by decide +kernel
theorem dX4_clearText_9 : decode cX4_clearText 9 = .ok (.istore_n 1, 1) := by decide +kernel
theorem dX4_clearText_10 : decode cX4_clearText 10 = .ok (.aload_n 0, 1) := by decide +kernel
theorem dX4_clearText_11 : decode cX4_clearText 11 = .ok (.iconst 0, 1) := by decide +kernel
theorem dX4_clearText_12 : decode cX4_clearText 12 = .ok (.putfield 112, 3) := by decide +kernel
theorem dX4_clearText_15 : decode cX4_clearText 15 = .ok (.iload_n 1, 1) := by decide +kernel
theorem dX4_clearText_16 : decode cX4_clearText 16 = .ok (.ireturn, 1) := by decide +kernel
theorem dX4_look_0 : decode cX4_look 0 = .ok (.aload_n 0, 1) := by decide +kernel
theorem dX4_look_1 : decode cX4_look 1 = .ok (.getfield 115, 3) := by decide +kernel
theorem dX4_look_4 : decode cX4_look 4 = .ok (.aload_n 0, 1) := by decide +kernel
theorem dX4_look_5 : decode cX4_look 5 = .ok (.getfield 112, 3) := by decide +kernel
theorem dX4_look_8 : decode cX4_look 8 = .ok (.if_icmp .ge 15, 3) := by decide +kernel
theorem dX4_look_11 : decode cX4_look 11 = .ok (.aload_n 0, 1) := by decide +kernel
theorem dX4_look_12 : decode cX4_look 12 = .ok (.getfield 26, 3) := by decide +kernel
theorem dX4_look_15 : decode cX4_look 15 = .ok (.aload_n 0, 1) := by decide +kernel
theorem dX4_look_16 : decode cX4_look 16 = .ok (.getfield 115, 3) := by decide +kernel
theorem dX4_look_19 : decode cX4_look 19 = .ok (.iaload, 1) := by decide +kernel
theorem dX4_look_20 : decode cX4_look 20 = .ok (.goto 4, 3) := by decide +kernel
theorem dX4_look_23 : decode cX4_look 23 = .ok (.iconst (-1), 1) := by decide +kernel
theorem dX4_look_24 : decode cX4_look 24 = .ok (.ireturn, 1) := by decide +kernel
theorem dX4_must_0 : decode cX4_must 0 = .ok (.aload_n 0, 1) := by decide +kernel
theorem dX4_must_1 : decode cX4_must 1 = .ok (.aload_n 0, 1) := by decide +kernel
theorem dX4_must_2 : decode cX4_must 2 = .ok (.getfield 118, 3) := by decide +kernel
theorem dX4_must_5 : decode cX4_must 5 = .ok (.ifCond .ne 7, 3) := by decide +kernel
theorem dX4_must_8 : decode cX4_must 8 = .ok (.iload_n 1, 1) := by decide +kernel
theorem dX4_must_9 : decode cX4_must 9 = .ok (.ifCond .ne 7, 3) := by decide +kernel
theorem dX4_must_12 : decode cX4_must 12 = .ok (.iconst 1, 1) := by decide +kernel
theorem dX4_must_13 : decode cX4_must 13 = .ok (.goto 4, 3) := by decide +kernel
theorem dX4_must_16 : decode cX4_must 16 = .ok (.iconst 0, 1) := by decide +kernel
theorem dX4_must_17 : decode cX4_must 17 = .ok (.putfield 118, 3) := by decide +kernel
theorem dX4_must_20 : decode cX4_must 20 = .ok (.aload_n 0, 1) := by decide +kernel
theorem dX4_must_21 : decode cX4_must 21 = .ok (.dup, 1) := by decide +kernel
theorem dX4_must_22 : decode cX4_must 22 = .ok (.getfield 115, 3) := by decide +kernel
theorem dX4_must_25 : decode cX4_must 25 = .ok (.aload_n 0, 1) := by decide +kernel
theorem dX4_must_26 : decode cX4_must 26 = .ok (.getfield 118, 3) := by decide +kernel
theorem dX4_must_29 : decode cX4_must 29 = .ok (.ifCond .eq 7, 3) := by decide +kernel
theorem dX4_must_32 : decode cX4_must 32 = .ok (.iconst 0, 1) := by decide +kernel
theorem dX4_must_33 : decode cX4_must 33 = .ok (.goto 4, 3) := by decide +kernel
theorem dX4_must_36 : decode cX4_must 36 = .ok (.iconst 1, 1) := by decide +kernel
theorem dX4_must_37 : decode cX4_must 37 = .ok (.iadd, 1) := by decide +kernel
theorem dX4_must_38 : decode cX4_must 38 = .ok (.putfield 115, 3) := by decide +kernel
theorem dX4_must_41 : decode cX4_must 41 = .ok (.return_, 1) := by decide +kernel
theorem dX4_number_0 : decode cX4_number 0 = .ok (.iconst 0, 1) := by decide +kernel
theorem dX4_number_1 : decode cX4_number 1 = .ok (.istore 4, 2) := by decide +kernel
theorem dX4_number_3 : decode cX4_number 3 = .ok (.iload_n 1, 1) := by decide +kernel
theorem dX4_number_4 : decode cX4_number 4 = .ok (.iconst 2, 1) := by decide +kernel
theorem dX4_number_5 : decode cX4_number 5 = .ok (.if_icmp .ne 8, 3) := by decide +kernel
theorem dX4_number_8 : decode cX4_number 8 = .ok (.bipush 10, 2) := by decide +kernel
theorem dX4_number_10 : decode cX4_number 10 = .ok (.goto 4, 3) := by decide +kernel
theorem dX4_number_13 : decode cX4_number 13 = .ok (.iconst 1, 1) := by decide +kernel
theorem dX4_number_14 : decode cX4_number 14 = .ok (.istore 5, 2) := by decide +kernel
theorem dX4_number_16 : decode cX4_number 16 = .ok (.iload 5, 2) := by decide +kernel
theorem dX4_number_18 : decode cX4_number 18 = .ok (.ifCond .le 103, 3) := by decide +kernel
theorem dX4_number_21 : decode cX4_number 21 = .ok (.aload_n 0, 1) := by decide +kernel
theorem dX4_number_22 : decode cX4_number 22 = .ok (.getfield 118, 3) := by decide +kernel
theorem dX4_number_25 : decode cX4_number 25 = .ok (.ifCond .ne 96, 3) := by decide +kernel
theorem dX4_number_28 : decode cX4_number 28 = .ok (.aload_n 0, 1) := by decide +kernel
theorem dX4_number_29 : decode cX4_number 29 = .ok (.invokevirtual 122, 3) := by decide +kernel
theorem dX4_number_32 : decode cX4_number 32 = .ok (.bipush 48, 2) := by decide +kernel
theorem dX4_number_34 : decode cX4_number 34 = .ok (.isub, 1) := by decide +kernel
theorem dX4_number_35 : decode cX4_number 35 = .ok (.istore 6, 2) := by decide +kernel
theorem dX4_number_37 : decode cX4_number 37 = .ok (.bipush 10, 2) := by decide +kernel
theorem dX4_number_39 : decode cX4_number 39 = .ok (.iload 4, 2) := by decide +kernel
theorem dX4_number_41 : decode cX4_number 41 = .ok (.imul, 1) := by decide +kernel
theorem dX4_number_42 : decode cX4_number 42 = .ok (.iload 6, 2) := by decide +kernel
theorem dX4_number_44 : decode cX4_number 44 = .ok (.iadd, 1) := by decide +kernel
theorem dX4_number_45 : decode cX4_number 45 = .ok (.iload 5, 2) := by decide +kernel
theorem dX4_number_47 : decode cX4_number 47 = .ok (.imul, 1) := by decide +kernel
theorem dX4_number_48 : decode cX4_number 48 = .ok (.istore 7, 2) := by decide +kernel
theorem dX4_number_50 : decode cX4_number 50 = .ok (.iload 6, 2) := by decide +kernel
theorem dX4_number_52 : decode cX4_number 52 = .ok (.iconst 0, 1) := by decide +kernel
theorem dX4_number_53 : decode cX4_number 53 = .ok (.bipush 9, 2) := by decide +kernel
theorem dX4_number_55 : decode cX4_number 55 = .ok (.invokestatic 39, 3) := by decide +kernel
theorem dX4_number_58 : decode cX4_number 58 = .ok (.ifCond .eq 24, 3) := by decide +kernel
theorem dX4_number_61 : decode cX4_number 61 = .ok (.iload 7, 2) := by decide +kernel
theorem dX4_number_63 : decode cX4_number 63 = .ok (.iload_n 3, 1) := by decide +kernel
theorem dX4_number_64 : decode cX4_number 64 = .ok (.if_icmp .gt 18, 3) := by decide +kernel
theorem dX4_number_67 : decode cX4_number 67 = .ok (.iload 7, 2) := by decide +kernel
theorem dX4_number_69 : decode cX4_number 69 = .ok (.iload 5, 2) := by decide +kernel
theorem dX4_number_71 : decode cX4_number 71 = .ok (.iadd, 1) := by decide +kernel
theorem dX4_number_72 : decode cX4_number 72 = .ok (.iconst 1, 1) := by decide +kernel
theorem dX4_number_73 : decode cX4_number 73 = .ok (.isub, 1) := by decide +kernel
theorem dX4_number_74 : decode cX4_number 74 = .ok (.iload_n 2, 1) := by decide +kernel
theorem dX4_number_75 : decode cX4_number 75 = .ok (.if_icmp .lt 7, 3) := by decide +kernel
theorem dX4_number_78 : decode cX4_number 78 = .ok (.iconst 1, 1) := by decide +kernel
theorem dX4_number_79 : decode cX4_number 79 = .ok (.goto 4, 3) := by decide +kernel
theorem dX4_number_82 : decode cX4_number 82 = .ok (.iconst 0, 1) := by decide +kernel
theorem dX4_number_83 : decode cX4_number 83 = .ok (.istore 8, 2) := by decide +kernel
theorem dX4_number_85 : decode cX4_number 85 = .ok (.aload_n 0, 1) := by decide +kernel
theorem dX4_number_86 : decode cX4_number 86 = .ok (.iload 8, 2) := by decide +kernel
theorem dX4_number_88 : decode cX4_number 88 = .ok (.invokevirtual 125, 3) := by decide +kernel
theorem dX4_number_91 : decode cX4_number 91 = .ok (.iload 8, 2) := by decide +kernel
theorem dX4_number_93 : decode cX4_number 93 = .ok (.ifCond .eq 14, 3) := by decide +kernel
theorem dX4_number_96 : decode cX4_number 96 = .ok (.bipush 10, 2) := by decide +kernel
theorem dX4_number_98 : decode cX4_number 98 = .ok (.iload 4, 2) := by decide +kernel
theorem dX4_number_100 : decode cX4_number 100 = .ok (.imul, 1) := by decide +kernel
theorem dX4_number_101 : decode cX4_number 101 = .ok (.iload 6, 2) := by decide +kernel
theorem dX4_number_103 : decode cX4_number 103 = .ok (.iadd, 1) := by decide +kernel
theorem dX4_number_104 : decode cX4_number 104 = .ok (.goto 5, 3) := by decide +kernel
theorem dX4_number_107 : decode cX4_number 107 = .ok (.iload 4, 2) := by decide +kernel
theorem dX4_number_109 : decode cX4_number 109 = .ok (.istore 4, 2) := by decide +kernel
theorem dX4_number_111 : decode cX4_number 111 = .ok (.iload 5, 2) := by decide +kernel
theorem dX4_number_113 : decode cX4_number 113 = .ok (.bipush 10, 2) := by decide +kernel
theorem dX4_number_115 : decode cX4_number 115 = .ok (.idiv, 1) := by decide +kernel
theorem dX4_number_116 : decode cX4_number 116 = .ok (.istore 5, 2) := by decide +kernel
theorem dX4_number_118 : decode cX4_number 118 = .ok (.goto (-102), 3) := by decide +kernel
theorem dX4_number_121 : decode cX4_number 121 = .ok (.iload 4, 2) := by decide +kernel
theorem dX4_number_123 : decode cX4_number 123 = .ok (.ireturn, 1) := by decide +kernel
theorem dX4_newCell_0 : decode cX4_newCell 0 = .ok (.bipush 7, 2) := by decide +kernel
theorem dX4_newCell_2 : decode cX4_newCell 2 = .ok (.iconst 5, 1) := by decide +kernel
theorem dX4_newCell_3 : decode cX4_newCell 3 = .ok (.aload_n 0, 1) := by decide +kernel
theorem dX4_newCell_4 : decode cX4_newCell 4 = .ok (.getfield 7, 3) := by decide +kernel
theorem dX4_newCell_7 : decode cX4_newCell 7 = .ok (.iconst 1, 1) := by decide +kernel
theorem dX4_newCell_8 : decode cX4_newCell 8 = .ok (.iaload, 1) := by decide +kernel
theorem dX4_newCell_9 : decode cX4_newCell 9 = .ok (.imul, 1) := by decide +kernel
theorem dX4_newCell_10 : decode cX4_newCell 10 = .ok (.iadd, 1) := by decide +kernel
theorem dX4_newCell_11 : decode cX4_newCell 11 = .ok (.istore 4, 2) := by decide +kernel
theorem dX4_newCell_13 : decode cX4_newCell 13 = .ok (.iconst 0, 1) := by decide +kernel
theorem dX4_newCell_14 : decode cX4_newCell 14 = .ok (.istore 5, 2) := by decide +kernel
theorem dX4_newCell_16 : decode cX4_newCell 16 = .ok (.iload 5, 2) := by decide +kernel
theorem dX4_newCell_18 : decode cX4_newCell 18 = .ok (.iconst 5, 1) := by decide +kernel
theorem dX4_newCell_19 : decode cX4_newCell 19 = .ok (.if_icmp .ge 49, 3) := by decide +kernel
theorem dX4_newCell_22 : decode cX4_newCell 22 = .ok (.aload_n 0, 1) := by decide +kernel
theorem dX4_newCell_23 : decode cX4_newCell 23 = .ok (.getfield 7, 3) := by decide +kernel
theorem dX4_newCell_26 : decode cX4_newCell 26 = .ok (.iload 4, 2) := by decide +kernel
theorem dX4_newCell_28 : decode cX4_newCell 28 = .ok (.iload 5, 2) := by decide +kernel
theorem dX4_newCell_30 : decode cX4_newCell 30 = .ok (.iadd, 1) := by decide +kernel
theorem dX4_newCell_31 : decode cX4_newCell 31 = .ok (.iload 5, 2) := by decide +kernel
theorem dX4_newCell_33 : decode cX4_newCell 33 = .ok (.ifCond .ne 7, 3) := by decide +kernel
theorem dX4_newCell_36 : decode cX4_newCell 36 = .ok (.iload_n 1, 1) := by decide +kernel
theorem dX4_newCell_37 : decode cX4_newCell 37 = .ok (.goto 24, 3) := by decide +kernel
theorem dX4_newCell_40 : decode cX4_newCell 40 = .ok (.iload 5, 2) := by decide +kernel
theorem dX4_newCell_42 : decode cX4_newCell 42 = .ok (.iconst 1, 1) := by decide +kernel
theorem dX4_newCell_43 : decode cX4_newCell 43 = .ok (.if_icmp .ne 7, 3) := by decide +kernel
theorem dX4_newCell_46 : decode cX4_newCell 46 = .ok (.iload_n 2, 1) := by decide +kernel
theorem dX4_newCell_47 : decode cX4_newCell 47 = .ok (.goto 14, 3) := by decide +kernel
theorem dX4_newCell_50 : decode cX4_newCell 50 = .ok (.iload 5, 2) := by decide +kernel
theorem dX4_newCell_52 : decode cX4_newCell 52 = .ok (.iconst 2, 1) := by decide +kernel
theorem dX4_newCell_53 : decode cX4_newCell 53 = .ok (.if_icmp .ne 7, 3) := by decide +kernel
theorem dX4_newCell_56 : decode cX4_newCell 56 = .ok (.iload_n 3, 1) := by decide +kernel
theorem dX4_newCell_57 : decode cX4_newCell 57 = .ok (.goto 4, 3) := by decide +kernel
theorem dX4_newCell_60 : decode cX4_newCell 60 = .ok (.iconst 0, 1) := by decide +kernel
theorem dX4_newCell_61 : decode cX4_newCell 61 = .ok (.iastore, 1) := by decide +kernel
theorem dX4_newCell_62 : decode cX4_newCell 62 = .ok (.iinc 5 1, 3) := by decide +kernel
theorem dX4_newCell_65 : decode cX4_newCell 65 = .ok (.goto (-49), 3) := by decide +kernel
theorem dX4_newCell_68 : decode cX4_newCell 68 = .ok (.aload_n 0, 1) := by decide +kernel
theorem dX4_newCell_69 : decode cX4_newCell 69 = .ok (.getfield 7, 3) := by decide +kernel
theorem dX4_newCell_72 : decode cX4_newCell 72 = .ok (.iconst 1, 1) := by decide +kernel
theorem dX4_newCell_73 : decode cX4_newCell 73 = .ok (.dup2, 1) := by decide +kernel
theorem dX4_newCell_74 : decode cX4_newCell 74 = .ok (.iaload, 1) := by decide +kernel
theorem dX4_newCell_75 : decode cX4_newCell 75 = .ok (.iconst 1, 1) := by decide +kernel
theorem dX4_newCell_76 : decode cX4_newCell 76 = .ok (.iadd, 1) := by decide +kernel
theorem dX4_newCell_77 : decode cX4_newCell 77 = .ok (.iastore, 1) := by decide +kernel
theorem dX4_newCell_78 : decode cX4_newCell 78 = .ok (.aload_n 0, 1) := by decide +kernel
theorem dX4_newCell_79 : decode cX4_newCell 79 = .ok (.getfield 7, 3) := by decide +kernel
theorem dX4_newCell_82 : decode cX4_newCell 82 = .ok (.iconst 3, 1) := by decide +kernel
theorem dX4_newCell_83 : decode cX4_newCell 83 = .ok (.dup2, 1) := by decide +kernel
theorem dX4_newCell_84 : decode cX4_newCell 84 = .ok (.iaload, 1) := by decide +kernel
theorem dX4_newCell_85 : decode cX4_newCell 85 = .ok (.iload_n 2, 1) := by decide +kernel
theorem dX4_newCell_86 : decode cX4_newCell 86 = .ok (.iadd, 1) := by decide +kernel
theorem dX4_newCell_87 : decode cX4_newCell 87 = .ok (.iastore, 1) := by decide +kernel
theorem dX4_newCell_88 : decode cX4_newCell 88 = .ok (.aload_n 0, 1) := by decide +kernel
theorem dX4_newCell_89 : decode cX4_newCell 89 = .ok (.getfield 7, 3) := by decide +kernel
theorem dX4_newCell_92 : decode cX4_newCell 92 = .ok (.iconst 1, 1) := by decide +kernel
theorem dX4_newCell_93 : decode cX4_newCell 93 = .ok (.iaload, 1) := by decide +kernel
theorem dX4_newCell_94 : decode cX4_newCell 94 = .ok (.iconst 1, 1) := by decide +kernel
theorem dX4_newCell_95 : decode cX4_newCell 95 = .ok (.isub, 1) := by decide +kernel
theorem dX4_newCell_96 : decode cX4_newCell 96 = .ok (.ireturn, 1) := by decide +kernel
theorem dX4_readCell_0 : decode cX4_readCell 0 = .ok (.aload_n 0, 1) := by decide +kernel
theorem dX4_readCell_1 : decode cX4_readCell 1 = .ok (.aload_n 0, 1) := by decide +kernel
theorem dX4_readCell_2 : decode cX4_readCell 2 = .ok (.getfield 7, 3) := by decide +kernel
theorem dX4_readCell_5 : decode cX4_readCell 5 = .ok (.iconst 1, 1) := by decide +kernel
theorem dX4_readCell_6 : decode cX4_readCell 6 = .ok (.iaload, 1) := by decide +kernel
theorem dX4_readCell_7 : decode cX4_readCell 7 = .ok (.bipush 8, 2) := by decide +kernel
theorem dX4_readCell_9 : decode cX4_readCell 9 = .ok (.if_icmp .ge 7, 3) := by decide +kernel
theorem dX4_readCell_12 : decode cX4_readCell 12 = .ok (.iconst 1, 1) := by decide +kernel
theorem dX4_readCell_13 : decode cX4_readCell 13 = .ok (.goto 4, 3) := by decide +kernel
theorem dX4_readCell_16 : decode cX4_readCell 16 = .ok (.iconst 0, 1) := by decide +kernel
theorem dX4_readCell_17 : decode cX4_readCell 17 = .ok (.invokevirtual 125, 3) := by decide +kernel
theorem dX4_readCell_20 : decode cX4_readCell 20 = .ok (.aload_n 0, 1) := by decide +kernel
theorem dX4_readCell_21 : decode cX4_readCell 21 = .ok (.iconst 2, 1) := by decide +kernel
theorem dX4_readCell_22 : decode cX4_readCell 22 = .ok (.bipush 10, 2) := by decide +kernel
theorem dX4_readCell_24 : decode cX4_readCell 24 = .ok (.bipush 99, 2) := by decide +kernel
theorem dX4_readCell_26 : decode cX4_readCell 26 = .ok (.invokevirtual 129, 3) := by decide +kernel
theorem dX4_readCell_29 : decode cX4_readCell 29 = .ok (.istore_n 1, 1) := by decide +kernel
theorem dX4_readCell_30 : decode cX4_readCell 30 = .ok (.aload_n 0, 1) := by decide +kernel
theorem dX4_readCell_31 : decode cX4_readCell 31 = .ok (.iconst 2, 1) := by decide +kernel
theorem dX4_readCell_32 : decode cX4_readCell 32 = .ok (.iconst 0, 1) := by decide +kernel
theorem dX4_readCell_33 : decode cX4_readCell 33 = .ok (.iload_n 1, 1) := by decide +kernel
theorem dX4_readCell_34 : decode cX4_readCell 34 = .ok (.invokevirtual 129, 3) := by decide +kernel
theorem dX4_readCell_37 : decode cX4_readCell 37 = .ok (.istore_n 2, 1) := by decide +kernel
theorem dX4_readCell_38 : decode cX4_readCell 38 = .ok (.aload_n 0, 1) := by decide +kernel
theorem dX4_readCell_39 : decode cX4_readCell 39 = .ok (.iconst 1, 1) := by decide +kernel
theorem dX4_readCell_40 : decode cX4_readCell 40 = .ok (.iconst 0, 1) := by decide +kernel
theorem dX4_readCell_41 : decode cX4_readCell 41 = .ok (.iconst 3, 1) := by decide +kernel
theorem dX4_readCell_42 : decode cX4_readCell 42 = .ok (.invokevirtual 129, 3) := by decide +kernel
theorem dX4_readCell_45 : decode cX4_readCell 45 = .ok (.istore_n 3, 1) := by decide +kernel
theorem dX4_readCell_46 : decode cX4_readCell 46 = .ok (.aload_n 0, 1) := by decide +kernel
theorem dX4_readCell_47 : decode cX4_readCell 47 = .ok (.getfield 118, 3) := by decide +kernel
theorem dX4_readCell_50 : decode cX4_readCell 50 = .ok (.ifCond .ne 11, 3) := by decide +kernel
theorem dX4_readCell_53 : decode cX4_readCell 53 = .ok (.aload_n 0, 1) := by decide +kernel
theorem dX4_readCell_54 : decode cX4_readCell 54 = .ok (.iload_n 1, 1) := by decide +kernel
theorem dX4_readCell_55 : decode cX4_readCell 55 = .ok (.iload_n 2, 1) := by decide +kernel
theorem dX4_readCell_56 : decode cX4_readCell 56 = .ok (.iload_n 3, 1) := by decide +kernel
theorem dX4_readCell_57 : decode cX4_readCell 57 = .ok (.invokevirtual 132, 3) := by decide +kernel
theorem dX4_readCell_60 : decode cX4_readCell 60 = .ok (.pop, 1) := by decide +kernel
theorem dX4_readCell_61 : decode cX4_readCell 61 = .ok (.return_, 1) := by decide +kernel
theorem dX4_cellHere_0 : decode cX4_cellHere 0 = .ok (.aload_n 0, 1) := by decide +kernel
theorem dX4_cellHere_1 : decode cX4_cellHere 1 = .ok (.invokevirtual 122, 3) := by decide +kernel
theorem dX4_cellHere_4 : decode cX4_cellHere 4 = .ok (.bipush 48, 2) := by decide +kernel
theorem dX4_cellHere_6 : decode cX4_cellHere 6 = .ok (.isub, 1) := by decide +kernel
theorem dX4_cellHere_7 : decode cX4_cellHere 7 = .ok (.istore_n 2, 1) := by decide +kernel
theorem dX4_cellHere_8 : decode cX4_cellHere 8 = .ok (.aload_n 0, 1) := by decide +kernel
theorem dX4_cellHere_9 : decode cX4_cellHere 9 = .ok (.aload_n 0, 1) := by decide +kernel
theorem dX4_cellHere_10 : decode cX4_cellHere 10 = .ok (.iload_n 2, 1) := by decide +kernel
theorem dX4_cellHere_11 : decode cX4_cellHere 11 = .ok (.invokevirtual 135, 3) := by decide +kernel
theorem dX4_cellHere_14 : decode cX4_cellHere 14 = .ok (.ifCond .eq 27, 3) := by decide +kernel
theorem dX4_cellHere_17 : decode cX4_cellHere 17 = .ok (.iload_n 2, 1) := by decide +kernel
theorem dX4_cellHere_18 : decode cX4_cellHere 18 = .ok (.iload_n 1, 1) := by decide +kernel
theorem dX4_cellHere_19 : decode cX4_cellHere 19 = .ok (.if_icmp .eq 22, 3) := by decide +kernel
theorem dX4_cellHere_22 : decode cX4_cellHere 22 = .ok (.iload_n 1, 1) := by decide +kernel
theorem dX4_cellHere_23 : decode cX4_cellHere 23 = .ok (.bipush (-9), 2) := by decide +kernel
theorem dX4_cellHere_25 : decode cX4_cellHere 25 = .ok (.if_icmp .ne 12, 3) := by decide +kernel
theorem dX4_cellHere_28 : decode cX4_cellHere 28 = .ok (.aload_n 0, 1) := by decide +kernel
theorem dX4_cellHere_29 : decode cX4_cellHere 29 = .ok (.iload_n 2, 1) := by decide +kernel
theorem dX4_cellHere_30 : decode cX4_cellHere 30 = .ok (.iconst 1, 1) := by decide +kernel
theorem dX4_cellHere_31 : decode cX4_cellHere 31 = .ok (.invokevirtual 43, 3) := by decide +kernel
theorem dX4_cellHere_34 : decode cX4_cellHere 34 = .ok (.ifCond .le 7, 3) := by decide +kernel
theorem dX4_cellHere_37 : decode cX4_cellHere 37 = .ok (.iconst 1, 1) := by decide +kernel
theorem dX4_cellHere_38 : decode cX4_cellHere 38 = .ok (.goto 4, 3) := by decide +kernel
theorem dX4_cellHere_41 : decode cX4_cellHere 41 = .ok (.iconst 0, 1) := by decide +kernel
theorem dX4_cellHere_42 : decode cX4_cellHere 42 = .ok (.invokevirtual 125, 3) := by decide +kernel
theorem dX4_cellHere_45 : decode cX4_cellHere 45 = .ok (.iload_n 2, 1) := by decide +kernel
theorem dX4_cellHere_46 : decode cX4_cellHere 46 = .ok (.ireturn, 1) := by decide +kernel
theorem dX4_readLoan_0 : decode cX4_readLoan 0 = .ok (.aload_n 0, 1) := by decide +kernel
theorem dX4_readLoan_1 : decode cX4_readLoan 1 = .ok (.getfield 115, 3) := by decide +kernel
theorem dX4_readLoan_4 : decode cX4_readLoan 4 = .ok (.istore_n 1, 1) := by decide +kernel
theorem dX4_readLoan_5 : decode cX4_readLoan 5 = .ok (.aload_n 0, 1) := by decide +kernel
theorem dX4_readLoan_6 : decode cX4_readLoan 6 = .ok (.aload_n 0, 1) := by decide +kernel
theorem dX4_readLoan_7 : decode cX4_readLoan 7 = .ok (.getfield 7, 3) := by decide +kernel
theorem dX4_readLoan_10 : decode cX4_readLoan 10 = .ok (.iconst 1, 1) := by decide +kernel
theorem dX4_readLoan_11 : decode cX4_readLoan 11 = .ok (.iaload, 1) := by decide +kernel
theorem dX4_readLoan_12 : decode cX4_readLoan 12 = .ok (.iconst 1, 1) := by decide +kernel
theorem dX4_readLoan_13 : decode cX4_readLoan 13 = .ok (.if_icmp .le 18, 3) := by decide +kernel
theorem dX4_readLoan_16 : decode cX4_readLoan 16 = .ok (.aload_n 0, 1) := by decide +kernel
theorem dX4_readLoan_17 : decode cX4_readLoan 17 = .ok (.getfield 7, 3) := by decide +kernel
theorem dX4_readLoan_20 : decode cX4_readLoan 20 = .ok (.iconst 2, 1) := by decide +kernel
theorem dX4_readLoan_21 : decode cX4_readLoan 21 = .ok (.iaload, 1) := by decide +kernel
theorem dX4_readLoan_22 : decode cX4_readLoan 22 = .ok (.bipush 12, 2) := by decide +kernel
theorem dX4_readLoan_24 : decode cX4_readLoan 24 = .ok (.if_icmp .ge 7, 3) := by decide +kernel
theorem dX4_readLoan_27 : decode cX4_readLoan 27 = .ok (.iconst 1, 1) := by decide +kernel
theorem dX4_readLoan_28 : decode cX4_readLoan 28 = .ok (.goto 4, 3) := by decide +kernel
theorem dX4_readLoan_31 : decode cX4_readLoan 31 = .ok (.iconst 0, 1) := by decide +kernel
theorem dX4_readLoan_32 : decode cX4_readLoan 32 = .ok (.invokevirtual 125, 3) := by decide +kernel
theorem dX4_readLoan_35 : decode cX4_readLoan 35 = .ok (.aload_n 0, 1) := by decide +kernel
theorem dX4_readLoan_36 : decode cX4_readLoan 36 = .ok (.bipush (-9), 2) := by decide +kernel
theorem dX4_readLoan_38 : decode cX4_readLoan 38 = .ok (.invokevirtual 138, 3) := by decide +kernel
theorem dX4_readLoan_41 : decode cX4_readLoan 41 = .ok (.istore_n 2, 1) := by decide +kernel
theorem dX4_readLoan_42 : decode cX4_readLoan 42 = .ok (.aload_n 0, 1) := by decide +kernel
theorem dX4_readLoan_43 : decode cX4_readLoan 43 = .ok (.iload_n 2, 1) := by decide +kernel
theorem dX4_readLoan_44 : decode cX4_readLoan 44 = .ok (.invokevirtual 138, 3) := by decide +kernel
theorem dX4_readLoan_47 : decode cX4_readLoan 47 = .ok (.istore_n 3, 1) := by decide +kernel
theorem dX4_readLoan_48 : decode cX4_readLoan 48 = .ok (.aload_n 0, 1) := by decide +kernel
theorem dX4_readLoan_49 : decode cX4_readLoan 49 = .ok (.getfield 118, 3) := by decide +kernel
theorem dX4_readLoan_52 : decode cX4_readLoan 52 = .ok (.ifCond .eq 7, 3) := by decide +kernel
theorem dX4_readLoan_55 : decode cX4_readLoan 55 = .ok (.iconst 0, 1) := by decide +kernel
theorem dX4_readLoan_56 : decode cX4_readLoan 56 = .ok (.goto 15, 3) := by decide +kernel
theorem dX4_readLoan_59 : decode cX4_readLoan 59 = .ok (.aload_n 0, 1) := by decide +kernel
theorem dX4_readLoan_60 : decode cX4_readLoan 60 = .ok (.iconst 2, 1) := by decide +kernel
theorem dX4_readLoan_61 : decode cX4_readLoan 61 = .ok (.iconst 1, 1) := by decide +kernel
theorem dX4_readLoan_62 : decode cX4_readLoan 62 = .ok (.aload_n 0, 1) := by decide +kernel
theorem dX4_readLoan_63 : decode cX4_readLoan 63 = .ok (.iload_n 2, 1) := by decide +kernel
theorem dX4_readLoan_64 : decode cX4_readLoan 64 = .ok (.iconst 1, 1) := by decide +kernel
theorem dX4_readLoan_65 : decode cX4_readLoan 65 = .ok (.invokevirtual 43, 3) := by decide +kernel
theorem dX4_readLoan_68 : decode cX4_readLoan 68 = .ok (.invokevirtual 129, 3) := by decide +kernel
theorem dX4_readLoan_71 : decode cX4_readLoan 71 = .ok (.istore 4, 2) := by decide +kernel
theorem dX4_readLoan_73 : decode cX4_readLoan 73 = .ok (.aload_n 0, 1) := by decide +kernel
theorem dX4_readLoan_74 : decode cX4_readLoan 74 = .ok (.iconst 2, 1) := by decide +kernel
theorem dX4_readLoan_75 : decode cX4_readLoan 75 = .ok (.iconst 0, 1) := by decide +kernel
theorem dX4_readLoan_76 : decode cX4_readLoan 76 = .ok (.bipush 50, 2) := by decide +kernel
theorem dX4_readLoan_78 : decode cX4_readLoan 78 = .ok (.invokevirtual 129, 3) := by decide +kernel
theorem dX4_readLoan_81 : decode cX4_readLoan 81 = .ok (.istore 5, 2) := by decide +kernel
theorem dX4_readLoan_83 : decode cX4_readLoan 83 = .ok (.aload_n 0, 1) := by decide +kernel
theorem dX4_readLoan_84 : decode cX4_readLoan 84 = .ok (.getfield 118, 3) := by decide +kernel
theorem dX4_readLoan_87 : decode cX4_readLoan 87 = .ok (.ifCond .eq 4, 3) := by decide +kernel
theorem dX4_readLoan_90 : decode cX4_readLoan 90 = .ok (.return_, 1) := by decide +kernel
theorem dX4_readLoan_91 : decode cX4_readLoan 91 = .ok (.aload_n 0, 1) := by decide +kernel
theorem dX4_readLoan_92 : decode cX4_readLoan 92 = .ok (.iload 4, 2) := by decide +kernel
theorem dX4_readLoan_94 : decode cX4_readLoan 94 = .ok (.iload_n 2, 1) := by decide +kernel
theorem dX4_readLoan_95 : decode cX4_readLoan 95 = .ok (.iload_n 3, 1) := by decide +kernel
theorem dX4_readLoan_96 : decode cX4_readLoan 96 = .ok (.invokevirtual 141, 3) := by decide +kernel
theorem dX4_readLoan_99 : decode cX4_readLoan 99 = .ok (.ifCond .eq 14, 3) := by decide +kernel
theorem dX4_readLoan_102 : decode cX4_readLoan 102 = .ok (.aload_n 0, 1) := by decide +kernel
theorem dX4_readLoan_103 : decode cX4_readLoan 103 = .ok (.iconst 1, 1) := by decide +kernel
theorem dX4_readLoan_104 : decode cX4_readLoan 104 = .ok (.putfield 118, 3) := by decide +kernel
theorem dX4_readLoan_107 : decode cX4_readLoan 107 = .ok (.aload_n 0, 1) := by decide +kernel
theorem dX4_readLoan_108 : decode cX4_readLoan 108 = .ok (.iload_n 1, 1) := by decide +kernel
theorem dX4_readLoan_109 : decode cX4_readLoan 109 = .ok (.putfield 115, 3) := by decide +kernel
theorem dX4_readLoan_112 : decode cX4_readLoan 112 = .ok (.return_, 1) := by decide +kernel
theorem dX4_readLoan_113 : decode cX4_readLoan 113 = .ok (.aload_n 0, 1) := by decide +kernel
theorem dX4_readLoan_114 : decode cX4_readLoan 114 = .ok (.iload_n 2, 1) := by decide +kernel
theorem dX4_readLoan_115 : decode cX4_readLoan 115 = .ok (.iload_n 3, 1) := by decide +kernel
theorem dX4_readLoan_116 : decode cX4_readLoan 116 = .ok (.iload 4, 2) := by decide +kernel
theorem dX4_readLoan_118 : decode cX4_readLoan 118 = .ok (.iload 5, 2) := by decide +kernel
theorem dX4_readLoan_120 : decode cX4_readLoan 120 = .ok (.invokevirtual 101, 3) := by decide +kernel
theorem dX4_readLoan_123 : decode cX4_readLoan 123 = .ok (.pop, 1) := by decide +kernel
theorem dX4_readLoan_124 : decode cX4_readLoan 124 = .ok (.return_, 1) := by decide +kernel
theorem dX4_isBattery_0 : decode cX4_isBattery 0 = .ok (.iconst 0, 1) := by decide +kernel
theorem dX4_isBattery_1 : decode cX4_isBattery 1 = .ok (.istore_n 1, 1) := by decide +kernel
theorem dX4_isBattery_2 : decode cX4_isBattery 2 = .ok (.iload_n 1, 1) := by decide +kernel
theorem dX4_isBattery_3 : decode cX4_isBattery 3 = .ok (.bipush 107, 2) := by decide +kernel
theorem dX4_isBattery_5 : decode cX4_isBattery 5 = .ok (.if_icmp .ge 16, 3) := by decide +kernel
theorem dX4_isBattery_8 : decode cX4_isBattery 8 = .ok (.aload_n 0, 1) := by decide +kernel
theorem dX4_isBattery_9 : decode cX4_isBattery 9 = .ok (.getfield 7, 3) := by decide +kernel
theorem dX4_isBattery_12 : decode cX4_isBattery 12 = .ok (.iload_n 1, 1) := by decide +kernel
theorem dX4_isBattery_13 : decode cX4_isBattery 13 = .ok (.iconst 0, 1) := by decide +kernel
theorem dX4_isBattery_14 : decode cX4_isBattery 14 = .ok (.iastore, 1) := by decide +kernel
theorem dX4_isBattery_15 : decode cX4_isBattery 15 = .ok (.iinc 1 1, 3) := by decide +kernel
theorem dX4_isBattery_18 : decode cX4_isBattery 18 = .ok (.goto (-16), 3) := by decide +kernel
theorem dX4_isBattery_21 : decode cX4_isBattery 21 = .ok (.aload_n 0, 1) := by decide +kernel
theorem dX4_isBattery_22 : decode cX4_isBattery 22 = .ok (.iconst 0, 1) := by decide +kernel
theorem dX4_isBattery_23 : decode cX4_isBattery 23 = .ok (.putfield 115, 3) := by decide +kernel
theorem dX4_isBattery_26 : decode cX4_isBattery 26 = .ok (.aload_n 0, 1) := by decide +kernel
theorem dX4_isBattery_27 : decode cX4_isBattery 27 = .ok (.iconst 0, 1) := by decide +kernel
theorem dX4_isBattery_28 : decode cX4_isBattery 28 = .ok (.putfield 118, 3) := by decide +kernel
theorem dX4_isBattery_31 : decode cX4_isBattery 31 = .ok (.aload_n 0, 1) := by decide +kernel
theorem dX4_isBattery_32 : decode cX4_isBattery 32 = .ok (.aload_n 0, 1) := by decide +kernel
theorem dX4_isBattery_33 : decode cX4_isBattery 33 = .ok (.invokevirtual 122, 3) := by decide +kernel
theorem dX4_isBattery_36 : decode cX4_isBattery 36 = .ok (.bipush 66, 2) := by decide +kernel
theorem dX4_isBattery_38 : decode cX4_isBattery 38 = .ok (.if_icmp .ne 7, 3) := by decide +kernel
theorem dX4_isBattery_41 : decode cX4_isBattery 41 = .ok (.iconst 1, 1) := by decide +kernel
theorem dX4_isBattery_42 : decode cX4_isBattery 42 = .ok (.goto 4, 3) := by decide +kernel
theorem dX4_isBattery_45 : decode cX4_isBattery 45 = .ok (.iconst 0, 1) := by decide +kernel
theorem dX4_isBattery_46 : decode cX4_isBattery 46 = .ok (.invokevirtual 125, 3) := by decide +kernel
theorem dX4_isBattery_49 : decode cX4_isBattery 49 = .ok (.aload_n 0, 1) := by decide +kernel
theorem dX4_isBattery_50 : decode cX4_isBattery 50 = .ok (.getfield 118, 3) := by decide +kernel
theorem dX4_isBattery_53 : decode cX4_isBattery 53 = .ok (.ifCond .ne 54, 3) := by decide +kernel
theorem dX4_isBattery_56 : decode cX4_isBattery 56 = .ok (.aload_n 0, 1) := by decide +kernel
theorem dX4_isBattery_57 : decode cX4_isBattery 57 = .ok (.getfield 115, 3) := by decide +kernel
theorem dX4_isBattery_60 : decode cX4_isBattery 60 = .ok (.aload_n 0, 1) := by decide +kernel
theorem dX4_isBattery_61 : decode cX4_isBattery 61 = .ok (.getfield 112, 3) := by decide +kernel
theorem dX4_isBattery_64 : decode cX4_isBattery 64 = .ok (.if_icmp .ge 43, 3) := by decide +kernel
theorem dX4_isBattery_67 : decode cX4_isBattery 67 = .ok (.aload_n 0, 1) := by decide +kernel
theorem dX4_isBattery_68 : decode cX4_isBattery 68 = .ok (.invokevirtual 122, 3) := by decide +kernel
theorem dX4_isBattery_71 : decode cX4_isBattery 71 = .ok (.bipush 99, 2) := by decide +kernel
theorem dX4_isBattery_73 : decode cX4_isBattery 73 = .ok (.if_icmp .ne 10, 3) := by decide +kernel
theorem dX4_isBattery_76 : decode cX4_isBattery 76 = .ok (.aload_n 0, 1) := by decide +kernel
theorem dX4_isBattery_77 : decode cX4_isBattery 77 = .ok (.invokevirtual 144, 3) := by decide +kernel
theorem dX4_isBattery_80 : decode cX4_isBattery 80 = .ok (.goto (-31), 3) := by decide +kernel
theorem dX4_isBattery_83 : decode cX4_isBattery 83 = .ok (.aload_n 0, 1) := by decide +kernel
theorem dX4_isBattery_84 : decode cX4_isBattery 84 = .ok (.invokevirtual 122, 3) := by decide +kernel
theorem dX4_isBattery_87 : decode cX4_isBattery 87 = .ok (.bipush 108, 2) := by decide +kernel
theorem dX4_isBattery_89 : decode cX4_isBattery 89 = .ok (.if_icmp .ne 10, 3) := by decide +kernel
theorem dX4_isBattery_92 : decode cX4_isBattery 92 = .ok (.aload_n 0, 1) := by decide +kernel
theorem dX4_isBattery_93 : decode cX4_isBattery 93 = .ok (.invokevirtual 147, 3) := by decide +kernel
theorem dX4_isBattery_96 : decode cX4_isBattery 96 = .ok (.goto (-47), 3) := by decide +kernel
theorem dX4_isBattery_99 : decode cX4_isBattery 99 = .ok (.aload_n 0, 1) := by decide +kernel
theorem dX4_isBattery_100 : decode cX4_isBattery 100 = .ok (.iconst 0, 1) := by decide +kernel
theorem dX4_isBattery_101 : decode cX4_isBattery 101 = .ok (.invokevirtual 125, 3) := by decide +kernel
theorem dX4_isBattery_104 : decode cX4_isBattery 104 = .ok (.goto (-55), 3) := by decide +kernel
theorem dX4_isBattery_107 : decode cX4_isBattery 107 = .ok (.aload_n 0, 1) := by decide +kernel
theorem dX4_isBattery_108 : decode cX4_isBattery 108 = .ok (.getfield 118, 3) := by decide +kernel
theorem dX4_isBattery_111 : decode cX4_isBattery 111 = .ok (.ifCond .ne 7, 3) := by decide +kernel
theorem dX4_isBattery_114 : decode cX4_isBattery 114 = .ok (.iconst 1, 1) := by decide +kernel
theorem dX4_isBattery_115 : decode cX4_isBattery 115 = .ok (.goto 4, 3) := by decide +kernel
theorem dX4_isBattery_118 : decode cX4_isBattery 118 = .ok (.iconst 0, 1) := by decide +kernel
theorem dX4_isBattery_119 : decode cX4_isBattery 119 = .ok (.ireturn, 1) := by decide +kernel
theorem dX4_errorPosition_0 : decode cX4_errorPosition 0 = .ok (.aload_n 0, 1) := by decide +kernel
theorem dX4_errorPosition_1 : decode cX4_errorPosition 1 = .ok (.iconst 0, 1) := by decide +kernel
theorem dX4_errorPosition_2 : decode cX4_errorPosition 2 = .ok (.putfield 35, 3) := by decide +kernel
theorem dX4_errorPosition_5 : decode cX4_errorPosition 5 = .ok (.aload_n 0, 1) := by decide +kernel
theorem dX4_errorPosition_6 : decode cX4_errorPosition 6 = .ok (.invokevirtual 150, 3) := by decide +kernel
theorem dX4_errorPosition_9 : decode cX4_errorPosition 9 = .ok (.aload_n 0, 1) := by decide +kernel
theorem dX4_errorPosition_10 : decode cX4_errorPosition 10 = .ok (.invokevirtual 153, 3) := by decide +kernel
theorem dX4_errorPosition_13 : decode cX4_errorPosition 13 = .ok (.istore_n 1, 1) := by decide +kernel
theorem dX4_errorPosition_14 : decode cX4_errorPosition 14 = .ok (.aload_n 0, 1) := by decide +kernel
theorem dX4_errorPosition_15 : decode cX4_errorPosition 15 = .ok (.invokevirtual 157, 3) := by decide +kernel
theorem dX4_errorPosition_18 : decode cX4_errorPosition 18 = .ok (.iload_n 1, 1) := by decide +kernel
theorem dX4_errorPosition_19 : decode cX4_errorPosition 19 = .ok (.ifCond .eq 8, 3) := by decide +kernel
theorem dX4_errorPosition_22 : decode cX4_errorPosition 22 = .ok (.bipush (-9), 2) := by decide +kernel
theorem dX4_errorPosition_24 : decode cX4_errorPosition 24 = .ok (.goto 7, 3) := by decide +kernel
theorem dX4_errorPosition_27 : decode cX4_errorPosition 27 = .ok (.aload_n 0, 1) := by decide +kernel
theorem dX4_errorPosition_28 : decode cX4_errorPosition 28 = .ok (.getfield 115, 3) := by decide +kernel
theorem dX4_errorPosition_31 : decode cX4_errorPosition 31 = .ok (.ireturn, 1) := by decide +kernel
theorem dX4_load_0 : decode cX4_load 0 = .ok (.aload_n 0, 1) := by decide +kernel
theorem dX4_load_1 : decode cX4_load 1 = .ok (.invokevirtual 150, 3) := by decide +kernel
theorem dX4_load_4 : decode cX4_load 4 = .ok (.aload_n 0, 1) := by decide +kernel
theorem dX4_load_5 : decode cX4_load 5 = .ok (.aload_n 0, 1) := by decide +kernel
theorem dX4_load_6 : decode cX4_load 6 = .ok (.invokevirtual 153, 3) := by decide +kernel
theorem dX4_load_9 : decode cX4_load 9 = .ok (.ifCond .eq 7, 3) := by decide +kernel
theorem dX4_load_12 : decode cX4_load 12 = .ok (.iconst 0, 1) := by decide +kernel
theorem dX4_load_13 : decode cX4_load 13 = .ok (.goto 4, 3) := by decide +kernel
theorem dX4_load_16 : decode cX4_load 16 = .ok (.iconst 1, 1) := by decide +kernel
theorem dX4_load_17 : decode cX4_load 17 = .ok (.putfield 35, 3) := by decide +kernel
theorem dX4_load_20 : decode cX4_load 20 = .ok (.aload_n 0, 1) := by decide +kernel
theorem dX4_load_21 : decode cX4_load 21 = .ok (.getfield 35, 3) := by decide +kernel
theorem dX4_load_24 : decode cX4_load 24 = .ok (.ifCond .le 9, 3) := by decide +kernel
theorem dX4_load_27 : decode cX4_load 27 = .ok (.aload_n 0, 1) := by decide +kernel
theorem dX4_load_28 : decode cX4_load 28 = .ok (.invokevirtual 157, 3) := by decide +kernel
theorem dX4_load_31 : decode cX4_load 31 = .ok (.iconst 0, 1) := by decide +kernel
theorem dX4_load_32 : decode cX4_load 32 = .ok (.ireturn, 1) := by decide +kernel
theorem dX4_load_33 : decode cX4_load 33 = .ok (.aload_n 0, 1) := by decide +kernel
theorem dX4_load_34 : decode cX4_load 34 = .ok (.iconst 0, 1) := by decide +kernel
theorem dX4_load_35 : decode cX4_load 35 = .ok (.putfield 47, 3) := by decide +kernel
theorem dX4_load_38 : decode cX4_load 38 = .ok (.aload_n 0, 1) := by decide +kernel
theorem dX4_load_39 : decode cX4_load 39 = .ok (.getfield 19, 3) := by decide +kernel
theorem dX4_load_42 : decode cX4_load 42 = .ok (.iconst 0, 1) := by decide +kernel
theorem dX4_load_43 : decode cX4_load 43 = .ok (.iconst 0, 1) := by decide +kernel
theorem dX4_load_44 : decode cX4_load 44 = .ok (.bastore, 1) := by decide +kernel
theorem dX4_load_45 : decode cX4_load 45 = .ok (.aload_n 0, 1) := by decide +kernel
theorem dX4_load_46 : decode cX4_load 46 = .ok (.getfield 19, 3) := by decide +kernel
theorem dX4_load_49 : decode cX4_load 49 = .ok (.iconst 1, 1) := by decide +kernel
theorem dX4_load_50 : decode cX4_load 50 = .ok (.iconst 0, 1) := by decide +kernel
theorem dX4_load_51 : decode cX4_load 51 = .ok (.bastore, 1) := by decide +kernel
theorem dX4_load_52 : decode cX4_load 52 = .ok (.aload_n 0, 1) := by decide +kernel
theorem dX4_load_53 : decode cX4_load 53 = .ok (.getfield 7, 3) := by decide +kernel
theorem dX4_load_56 : decode cX4_load 56 = .ok (.iconst 1, 1) := by decide +kernel
theorem dX4_load_57 : decode cX4_load 57 = .ok (.iaload, 1) := by decide +kernel
theorem dX4_load_58 : decode cX4_load 58 = .ok (.ireturn, 1) := by decide +kernel
theorem dX4_bankrupts_0 : decode cX4_bankrupts 0 = .ok (.iconst 0, 1) := by decide +kernel
theorem dX4_bankrupts_1 : decode cX4_bankrupts 1 = .ok (.istore_n 1, 1) := by decide +kernel
theorem dX4_bankrupts_2 : decode cX4_bankrupts 2 = .ok (.iconst 0, 1) := by decide +kernel
theorem dX4_bankrupts_3 : decode cX4_bankrupts 3 = .ok (.istore_n 2, 1) := by decide +kernel
theorem dX4_bankrupts_4 : decode cX4_bankrupts 4 = .ok (.iload_n 2, 1) := by decide +kernel
theorem dX4_bankrupts_5 : decode cX4_bankrupts 5 = .ok (.aload_n 0, 1) := by decide +kernel
theorem dX4_bankrupts_6 : decode cX4_bankrupts 6 = .ok (.getfield 7, 3) := by decide +kernel
theorem dX4_bankrupts_9 : decode cX4_bankrupts 9 = .ok (.iconst 1, 1) := by decide +kernel
theorem dX4_bankrupts_10 : decode cX4_bankrupts 10 = .ok (.iaload, 1) := by decide +kernel
theorem dX4_bankrupts_11 : decode cX4_bankrupts 11 = .ok (.if_icmp .ge 27, 3) := by decide +kernel
theorem dX4_bankrupts_14 : decode cX4_bankrupts 14 = .ok (.iload_n 1, 1) := by decide +kernel
theorem dX4_bankrupts_15 : decode cX4_bankrupts 15 = .ok (.aload_n 0, 1) := by decide +kernel
theorem dX4_bankrupts_16 : decode cX4_bankrupts 16 = .ok (.iload_n 2, 1) := by decide +kernel
theorem dX4_bankrupts_17 : decode cX4_bankrupts 17 = .ok (.invokevirtual 84, 3) := by decide +kernel
theorem dX4_bankrupts_20 : decode cX4_bankrupts 20 = .ok (.ifCond .eq 7, 3) := by decide +kernel
theorem dX4_bankrupts_23 : decode cX4_bankrupts 23 = .ok (.iconst 0, 1) := by decide +kernel
theorem dX4_bankrupts_24 : decode cX4_bankrupts 24 = .ok (.goto 6, 3) := by decide +kernel
theorem dX4_bankrupts_27 : decode cX4_bankrupts 27 = .ok (.iconst 1, 1) := by decide +kernel
theorem dX4_bankrupts_28 : decode cX4_bankrupts 28 = .ok (.iload_n 2, 1) := by decide +kernel
theorem dX4_bankrupts_29 : decode cX4_bankrupts 29 = .ok (.ishl, 1) := by decide +kernel
theorem dX4_bankrupts_30 : decode cX4_bankrupts 30 = .ok (.ior, 1) := by decide +kernel
theorem dX4_bankrupts_31 : decode cX4_bankrupts 31 = .ok (.istore_n 1, 1) := by decide +kernel
theorem dX4_bankrupts_32 : decode cX4_bankrupts 32 = .ok (.iinc 2 1, 3) := by decide +kernel
theorem dX4_bankrupts_35 : decode cX4_bankrupts 35 = .ok (.goto (-31), 3) := by decide +kernel
theorem dX4_bankrupts_38 : decode cX4_bankrupts 38 = .ok (.iload_n 1, 1) := by decide +kernel
theorem dX4_bankrupts_39 : decode cX4_bankrupts 39 = .ok (.ireturn, 1) := by decide +kernel
theorem dX4_allOwed_0 : decode cX4_allOwed 0 = .ok (.iconst 0, 1) := by decide +kernel
theorem dX4_allOwed_1 : decode cX4_allOwed 1 = .ok (.istore_n 1, 1) := by decide +kernel
theorem dX4_allOwed_2 : decode cX4_allOwed 2 = .ok (.iconst 0, 1) := by decide +kernel
theorem dX4_allOwed_3 : decode cX4_allOwed 3 = .ok (.istore_n 2, 1) := by decide +kernel
theorem dX4_allOwed_4 : decode cX4_allOwed 4 = .ok (.iload_n 2, 1) := by decide +kernel
theorem dX4_allOwed_5 : decode cX4_allOwed 5 = .ok (.aload_n 0, 1) := by decide +kernel
theorem dX4_allOwed_6 : decode cX4_allOwed 6 = .ok (.getfield 7, 3) := by decide +kernel
theorem dX4_allOwed_9 : decode cX4_allOwed 9 = .ok (.iconst 2, 1) := by decide +kernel
theorem dX4_allOwed_10 : decode cX4_allOwed 10 = .ok (.iaload, 1) := by decide +kernel
theorem dX4_allOwed_11 : decode cX4_allOwed 11 = .ok (.if_icmp .ge 18, 3) := by decide +kernel
theorem dX4_allOwed_14 : decode cX4_allOwed 14 = .ok (.iload_n 1, 1) := by decide +kernel
theorem dX4_allOwed_15 : decode cX4_allOwed 15 = .ok (.aload_n 0, 1) := by decide +kernel
theorem dX4_allOwed_16 : decode cX4_allOwed 16 = .ok (.iload_n 2, 1) := by decide +kernel
theorem dX4_allOwed_17 : decode cX4_allOwed 17 = .ok (.iconst 2, 1) := by decide +kernel
theorem dX4_allOwed_18 : decode cX4_allOwed 18 = .ok (.invokevirtual 64, 3) := by decide +kernel
theorem dX4_allOwed_21 : decode cX4_allOwed 21 = .ok (.iadd, 1) := by decide +kernel
theorem dX4_allOwed_22 : decode cX4_allOwed 22 = .ok (.istore_n 1, 1) := by decide +kernel
theorem dX4_allOwed_23 : decode cX4_allOwed 23 = .ok (.iinc 2 1, 3) := by decide +kernel
theorem dX4_allOwed_26 : decode cX4_allOwed 26 = .ok (.goto (-22), 3) := by decide +kernel
theorem dX4_allOwed_29 : decode cX4_allOwed 29 = .ok (.iload_n 1, 1) := by decide +kernel
theorem dX4_allOwed_30 : decode cX4_allOwed 30 = .ok (.ireturn, 1) := by decide +kernel
theorem dX4_about_0 : decode cX4_about 0 = .ok (.aload_n 0, 1) := by decide +kernel
theorem dX4_about_1 : decode cX4_about 1 = .ok (.iload_n 1, 1) := by decide +kernel
theorem dX4_about_2 : decode cX4_about 2 = .ok (.iconst 0, 1) := by decide +kernel
theorem dX4_about_3 : decode cX4_about 3 = .ok (.bipush 9, 2) := by decide +kernel
theorem dX4_about_5 : decode cX4_about 5 = .ok (.invokestatic 39, 3) := by decide +kernel
theorem dX4_about_8 : decode cX4_about 8 = .ok (.ifCond .eq 7, 3) := by decide +kernel
theorem dX4_about_11 : decode cX4_about 11 = .ok (.iconst 0, 1) := by decide +kernel
theorem dX4_about_12 : decode cX4_about 12 = .ok (.goto 4, 3) := by decide +kernel
theorem dX4_about_15 : decode cX4_about 15 = .ok (.iconst 1, 1) := by decide +kernel
theorem dX4_about_16 : decode cX4_about 16 = .ok (.putfield 35, 3) := by decide +kernel
theorem dX4_about_19 : decode cX4_about 19 = .ok (.iload_n 1, 1) := by decide +kernel
theorem dX4_about_20 : decode cX4_about 20 = .ok (.tableswitch 121 0 9 #[56, 63, 70, 77, 82, 89, 96, 103, 108, 116], 56) := by decide +kernel
theorem dX4_about_76 : decode cX4_about 76 = .ok (.aload_n 0, 1) := by decide +kernel
theorem dX4_about_77 : decode cX4_about 77 = .ok (.getfield 7, 3) := by decide +kernel
theorem dX4_about_80 : decode cX4_about 80 = .ok (.iconst 1, 1) := by decide +kernel
theorem dX4_about_81 : decode cX4_about 81 = .ok (.iaload, 1) := by decide +kernel
theorem dX4_about_82 : decode cX4_about 82 = .ok (.ireturn, 1) := by decide +kernel
theorem dX4_about_83 : decode cX4_about 83 = .ok (.aload_n 0, 1) := by decide +kernel
theorem dX4_about_84 : decode cX4_about 84 = .ok (.getfield 7, 3) := by decide +kernel
theorem dX4_about_87 : decode cX4_about 87 = .ok (.iconst 2, 1) := by decide +kernel
theorem dX4_about_88 : decode cX4_about 88 = .ok (.iaload, 1) := by decide +kernel
theorem dX4_about_89 : decode cX4_about 89 = .ok (.ireturn, 1) := by decide +kernel
theorem dX4_about_90 : decode cX4_about 90 = .ok (.aload_n 0, 1) := by decide +kernel
theorem dX4_about_91 : decode cX4_about 91 = .ok (.getfield 7, 3) := by decide +kernel
theorem dX4_about_94 : decode cX4_about 94 = .ok (.iconst 0, 1) := by decide +kernel
theorem dX4_about_95 : decode cX4_about 95 = .ok (.iaload, 1) := by decide +kernel
theorem dX4_about_96 : decode cX4_about 96 = .ok (.ireturn, 1) := by decide +kernel
theorem dX4_about_97 : decode cX4_about 97 = .ok (.aload_n 0, 1) := by decide +kernel
theorem dX4_about_98 : decode cX4_about 98 = .ok (.invokevirtual 160, 3) := by decide +kernel
theorem dX4_about_101 : decode cX4_about 101 = .ok (.ireturn, 1) := by decide +kernel
theorem dX4_about_102 : decode cX4_about 102 = .ok (.aload_n 0, 1) := by decide +kernel
theorem dX4_about_103 : decode cX4_about 103 = .ok (.getfield 7, 3) := by decide +kernel
theorem dX4_about_106 : decode cX4_about 106 = .ok (.iconst 3, 1) := by decide +kernel
theorem dX4_about_107 : decode cX4_about 107 = .ok (.iaload, 1) := by decide +kernel
theorem dX4_about_108 : decode cX4_about 108 = .ok (.ireturn, 1) := by decide +kernel
theorem dX4_about_109 : decode cX4_about 109 = .ok (.aload_n 0, 1) := by decide +kernel
theorem dX4_about_110 : decode cX4_about 110 = .ok (.getfield 7, 3) := by decide +kernel
theorem dX4_about_113 : decode cX4_about 113 = .ok (.iconst 4, 1) := by decide +kernel
theorem dX4_about_114 : decode cX4_about 114 = .ok (.iaload, 1) := by decide +kernel
theorem dX4_about_115 : decode cX4_about 115 = .ok (.ireturn, 1) := by decide +kernel
theorem dX4_about_116 : decode cX4_about 116 = .ok (.aload_n 0, 1) := by decide +kernel
theorem dX4_about_117 : decode cX4_about 117 = .ok (.getfield 7, 3) := by decide +kernel
theorem dX4_about_120 : decode cX4_about 120 = .ok (.iconst 5, 1) := by decide +kernel
theorem dX4_about_121 : decode cX4_about 121 = .ok (.iaload, 1) := by decide +kernel
theorem dX4_about_122 : decode cX4_about 122 = .ok (.ireturn, 1) := by decide +kernel
theorem dX4_about_123 : decode cX4_about 123 = .ok (.aload_n 0, 1) := by decide +kernel
theorem dX4_about_124 : decode cX4_about 124 = .ok (.invokevirtual 163, 3) := by decide +kernel
theorem dX4_about_127 : decode cX4_about 127 = .ok (.ireturn, 1) := by decide +kernel
theorem dX4_about_128 : decode cX4_about 128 = .ok (.aload_n 0, 1) := by decide +kernel
theorem dX4_about_129 : decode cX4_about 129 = .ok (.getfield 7, 3) := by decide +kernel
theorem dX4_about_132 : decode cX4_about 132 = .ok (.bipush 6, 2) := by decide +kernel
theorem dX4_about_134 : decode cX4_about 134 = .ok (.iaload, 1) := by decide +kernel
theorem dX4_about_135 : decode cX4_about 135 = .ok (.ireturn, 1) := by decide +kernel
theorem dX4_about_136 : decode cX4_about 136 = .ok (.aload_n 0, 1) := by decide +kernel
theorem dX4_about_137 : decode cX4_about 137 = .ok (.invokevirtual 166, 3) := by decide +kernel
theorem dX4_about_140 : decode cX4_about 140 = .ok (.ireturn, 1) := by decide +kernel
theorem dX4_about_141 : decode cX4_about 141 = .ok (.iconst 0, 1) := by decide +kernel
theorem dX4_about_142 : decode cX4_about 142 = .ok (.ireturn, 1) := by decide +kernel
theorem dX4_interestOf_0 : decode cX4_interestOf 0 = .ok (.iconst 0, 1) := by decide +kernel
theorem dX4_interestOf_1 : decode cX4_interestOf 1 = .ok (.istore_n 2, 1) := by decide +kernel
theorem dX4_interestOf_2 : decode cX4_interestOf 2 = .ok (.iconst 0, 1) := by decide +kernel
theorem dX4_interestOf_3 : decode cX4_interestOf 3 = .ok (.istore_n 3, 1) := by decide +kernel
theorem dX4_interestOf_4 : decode cX4_interestOf 4 = .ok (.iload_n 3, 1) := by decide +kernel
theorem dX4_interestOf_5 : decode cX4_interestOf 5 = .ok (.aload_n 0, 1) := by decide +kernel
theorem dX4_interestOf_6 : decode cX4_interestOf 6 = .ok (.getfield 7, 3) := by decide +kernel
theorem dX4_interestOf_9 : decode cX4_interestOf 9 = .ok (.iconst 2, 1) := by decide +kernel
theorem dX4_interestOf_10 : decode cX4_interestOf 10 = .ok (.iaload, 1) := by decide +kernel
theorem dX4_interestOf_11 : decode cX4_interestOf 11 = .ok (.if_icmp .ge 31, 3) := by decide +kernel
theorem dX4_interestOf_14 : decode cX4_interestOf 14 = .ok (.iload_n 2, 1) := by decide +kernel
theorem dX4_interestOf_15 : decode cX4_interestOf 15 = .ok (.aload_n 0, 1) := by decide +kernel
theorem dX4_interestOf_16 : decode cX4_interestOf 16 = .ok (.iload_n 3, 1) := by decide +kernel
theorem dX4_interestOf_17 : decode cX4_interestOf 17 = .ok (.iconst 1, 1) := by decide +kernel
theorem dX4_interestOf_18 : decode cX4_interestOf 18 = .ok (.invokevirtual 64, 3) := by decide +kernel
theorem dX4_interestOf_21 : decode cX4_interestOf 21 = .ok (.iload_n 1, 1) := by decide +kernel
theorem dX4_interestOf_22 : decode cX4_interestOf 22 = .ok (.if_icmp .ne 11, 3) := by decide +kernel
theorem dX4_interestOf_25 : decode cX4_interestOf 25 = .ok (.aload_n 0, 1) := by decide +kernel
theorem dX4_interestOf_26 : decode cX4_interestOf 26 = .ok (.iload_n 3, 1) := by decide +kernel
theorem dX4_interestOf_27 : decode cX4_interestOf 27 = .ok (.invokevirtual 67, 3) := by decide +kernel
theorem dX4_interestOf_30 : decode cX4_interestOf 30 = .ok (.goto 4, 3) := by decide +kernel
theorem dX4_interestOf_33 : decode cX4_interestOf 33 = .ok (.iconst 0, 1) := by decide +kernel
theorem dX4_interestOf_34 : decode cX4_interestOf 34 = .ok (.iadd, 1) := by decide +kernel
theorem dX4_interestOf_35 : decode cX4_interestOf 35 = .ok (.istore_n 2, 1) := by decide +kernel
theorem dX4_interestOf_36 : decode cX4_interestOf 36 = .ok (.iinc 3 1, 3) := by decide +kernel
theorem dX4_interestOf_39 : decode cX4_interestOf 39 = .ok (.goto (-35), 3) := by decide +kernel
theorem dX4_interestOf_42 : decode cX4_interestOf 42 = .ok (.iload_n 2, 1) := by decide +kernel
theorem dX4_interestOf_43 : decode cX4_interestOf 43 = .ok (.ireturn, 1) := by decide +kernel
theorem dX4_kindOf_0 : decode cX4_kindOf 0 = .ok (.aload_n 0, 1) := by decide +kernel
theorem dX4_kindOf_1 : decode cX4_kindOf 1 = .ok (.iload_n 1, 1) := by decide +kernel
theorem dX4_kindOf_2 : decode cX4_kindOf 2 = .ok (.invokevirtual 84, 3) := by decide +kernel
theorem dX4_kindOf_5 : decode cX4_kindOf 5 = .ok (.ifCond .ne 7, 3) := by decide +kernel
theorem dX4_kindOf_8 : decode cX4_kindOf 8 = .ok (.iconst 3, 1) := by decide +kernel
theorem dX4_kindOf_9 : decode cX4_kindOf 9 = .ok (.goto 30, 3) := by decide +kernel
theorem dX4_kindOf_12 : decode cX4_kindOf 12 = .ok (.aload_n 0, 1) := by decide +kernel
theorem dX4_kindOf_13 : decode cX4_kindOf 13 = .ok (.iload_n 1, 1) := by decide +kernel
theorem dX4_kindOf_14 : decode cX4_kindOf 14 = .ok (.iconst 3, 1) := by decide +kernel
theorem dX4_kindOf_15 : decode cX4_kindOf 15 = .ok (.invokevirtual 43, 3) := by decide +kernel
theorem dX4_kindOf_18 : decode cX4_kindOf 18 = .ok (.ifCond .le 7, 3) := by decide +kernel
theorem dX4_kindOf_21 : decode cX4_kindOf 21 = .ok (.iconst 2, 1) := by decide +kernel
theorem dX4_kindOf_22 : decode cX4_kindOf 22 = .ok (.goto 17, 3) := by decide +kernel
theorem dX4_kindOf_25 : decode cX4_kindOf 25 = .ok (.aload_n 0, 1) := by decide +kernel
theorem dX4_kindOf_26 : decode cX4_kindOf 26 = .ok (.iload_n 1, 1) := by decide +kernel
theorem dX4_kindOf_27 : decode cX4_kindOf 27 = .ok (.iconst 1, 1) := by decide +kernel
theorem dX4_kindOf_28 : decode cX4_kindOf 28 = .ok (.invokevirtual 74, 3) := by decide +kernel
theorem dX4_kindOf_31 : decode cX4_kindOf 31 = .ok (.ifCond .le 7, 3) := by decide +kernel
theorem dX4_kindOf_34 : decode cX4_kindOf 34 = .ok (.iconst 1, 1) := by decide +kernel
theorem dX4_kindOf_35 : decode cX4_kindOf 35 = .ok (.goto 4, 3) := by decide +kernel
theorem dX4_kindOf_38 : decode cX4_kindOf 38 = .ok (.iconst 0, 1) := by decide +kernel
theorem dX4_kindOf_39 : decode cX4_kindOf 39 = .ok (.ireturn, 1) := by decide +kernel
theorem dX4_cell_0 : decode cX4_cell 0 = .ok (.aload_n 0, 1) := by decide +kernel
theorem dX4_cell_1 : decode cX4_cell 1 = .ok (.aload_n 0, 1) := by decide +kernel
theorem dX4_cell_2 : decode cX4_cell 2 = .ok (.iload_n 1, 1) := by decide +kernel
theorem dX4_cell_3 : decode cX4_cell 3 = .ok (.invokevirtual 135, 3) := by decide +kernel
theorem dX4_cell_6 : decode cX4_cell 6 = .ok (.ifCond .ne 7, 3) := by decide +kernel
theorem dX4_cell_9 : decode cX4_cell 9 = .ok (.iconst 1, 1) := by decide +kernel
theorem dX4_cell_10 : decode cX4_cell 10 = .ok (.goto 18, 3) := by decide +kernel
theorem dX4_cell_13 : decode cX4_cell 13 = .ok (.iload_n 2, 1) := by decide +kernel
theorem dX4_cell_14 : decode cX4_cell 14 = .ok (.iconst 0, 1) := by decide +kernel
theorem dX4_cell_15 : decode cX4_cell 15 = .ok (.bipush 7, 2) := by decide +kernel
theorem dX4_cell_17 : decode cX4_cell 17 = .ok (.invokestatic 39, 3) := by decide +kernel
theorem dX4_cell_20 : decode cX4_cell 20 = .ok (.ifCond .ne 7, 3) := by decide +kernel
theorem dX4_cell_23 : decode cX4_cell 23 = .ok (.iconst 2, 1) := by decide +kernel
theorem dX4_cell_24 : decode cX4_cell 24 = .ok (.goto 4, 3) := by decide +kernel
theorem dX4_cell_27 : decode cX4_cell 27 = .ok (.iconst 0, 1) := by decide +kernel
theorem dX4_cell_28 : decode cX4_cell 28 = .ok (.putfield 35, 3) := by decide +kernel
theorem dX4_cell_31 : decode cX4_cell 31 = .ok (.aload_n 0, 1) := by decide +kernel
theorem dX4_cell_32 : decode cX4_cell 32 = .ok (.getfield 35, 3) := by decide +kernel
theorem dX4_cell_35 : decode cX4_cell 35 = .ok (.ifCond .le 5, 3) := by decide +kernel
theorem dX4_cell_38 : decode cX4_cell 38 = .ok (.iconst 0, 1) := by decide +kernel
theorem dX4_cell_39 : decode cX4_cell 39 = .ok (.ireturn, 1) := by decide +kernel
theorem dX4_cell_40 : decode cX4_cell 40 = .ok (.iload_n 2, 1) := by decide +kernel
theorem dX4_cell_41 : decode cX4_cell 41 = .ok (.tableswitch 57 4 7 #[31, 38, 45, 51], 31) := by decide +kernel
theorem dX4_cell_72 : decode cX4_cell 72 = .ok (.aload_n 0, 1) := by decide +kernel
theorem dX4_cell_73 : decode cX4_cell 73 = .ok (.iload_n 1, 1) := by decide +kernel
theorem dX4_cell_74 : decode cX4_cell 74 = .ok (.iconst 1, 1) := by decide +kernel
theorem dX4_cell_75 : decode cX4_cell 75 = .ok (.invokevirtual 74, 3) := by decide +kernel
theorem dX4_cell_78 : decode cX4_cell 78 = .ok (.ireturn, 1) := by decide +kernel
theorem dX4_cell_79 : decode cX4_cell 79 = .ok (.aload_n 0, 1) := by decide +kernel
theorem dX4_cell_80 : decode cX4_cell 80 = .ok (.iload_n 1, 1) := by decide +kernel
theorem dX4_cell_81 : decode cX4_cell 81 = .ok (.iconst 0, 1) := by decide +kernel
theorem dX4_cell_82 : decode cX4_cell 82 = .ok (.invokevirtual 74, 3) := by decide +kernel
theorem dX4_cell_85 : decode cX4_cell 85 = .ok (.ireturn, 1) := by decide +kernel
theorem dX4_cell_86 : decode cX4_cell 86 = .ok (.aload_n 0, 1) := by decide +kernel
theorem dX4_cell_87 : decode cX4_cell 87 = .ok (.iload_n 1, 1) := by decide +kernel
theorem dX4_cell_88 : decode cX4_cell 88 = .ok (.invokevirtual 169, 3) := by decide +kernel
theorem dX4_cell_91 : decode cX4_cell 91 = .ok (.ireturn, 1) := by decide +kernel
theorem dX4_cell_92 : decode cX4_cell 92 = .ok (.aload_n 0, 1) := by decide +kernel
theorem dX4_cell_93 : decode cX4_cell 93 = .ok (.iload_n 1, 1) := by decide +kernel
theorem dX4_cell_94 : decode cX4_cell 94 = .ok (.invokevirtual 172, 3) := by decide +kernel
theorem dX4_cell_97 : decode cX4_cell 97 = .ok (.ireturn, 1) := by decide +kernel
theorem dX4_cell_98 : decode cX4_cell 98 = .ok (.aload_n 0, 1) := by decide +kernel
theorem dX4_cell_99 : decode cX4_cell 99 = .ok (.iload_n 1, 1) := by decide +kernel
theorem dX4_cell_100 : decode cX4_cell 100 = .ok (.iload_n 2, 1) := by decide +kernel
theorem dX4_cell_101 : decode cX4_cell 101 = .ok (.invokevirtual 43, 3) := by decide +kernel
theorem dX4_cell_104 : decode cX4_cell 104 = .ok (.ireturn, 1) := by decide +kernel
theorem dX4_loan_0 : decode cX4_loan 0 = .ok (.aload_n 0, 1) := by decide +kernel
theorem dX4_loan_1 : decode cX4_loan 1 = .ok (.aload_n 0, 1) := by decide +kernel
theorem dX4_loan_2 : decode cX4_loan 2 = .ok (.iload_n 1, 1) := by decide +kernel
theorem dX4_loan_3 : decode cX4_loan 3 = .ok (.invokevirtual 175, 3) := by decide +kernel
theorem dX4_loan_6 : decode cX4_loan 6 = .ok (.ifCond .ne 7, 3) := by decide +kernel
theorem dX4_loan_9 : decode cX4_loan 9 = .ok (.iconst 1, 1) := by decide +kernel
theorem dX4_loan_10 : decode cX4_loan 10 = .ok (.goto 17, 3) := by decide +kernel
theorem dX4_loan_13 : decode cX4_loan 13 = .ok (.iload_n 2, 1) := by decide +kernel
theorem dX4_loan_14 : decode cX4_loan 14 = .ok (.iconst 0, 1) := by decide +kernel
theorem dX4_loan_15 : decode cX4_loan 15 = .ok (.iconst 5, 1) := by decide +kernel
theorem dX4_loan_16 : decode cX4_loan 16 = .ok (.invokestatic 39, 3) := by decide +kernel
theorem dX4_loan_19 : decode cX4_loan 19 = .ok (.ifCond .ne 7, 3) := by decide +kernel
theorem dX4_loan_22 : decode cX4_loan 22 = .ok (.iconst 2, 1) := by decide +kernel
theorem dX4_loan_23 : decode cX4_loan 23 = .ok (.goto 4, 3) := by decide +kernel
theorem dX4_loan_26 : decode cX4_loan 26 = .ok (.iconst 0, 1) := by decide +kernel
theorem dX4_loan_27 : decode cX4_loan 27 = .ok (.putfield 35, 3) := by decide +kernel
theorem dX4_loan_30 : decode cX4_loan 30 = .ok (.aload_n 0, 1) := by decide +kernel
theorem dX4_loan_31 : decode cX4_loan 31 = .ok (.getfield 35, 3) := by decide +kernel
theorem dX4_loan_34 : decode cX4_loan 34 = .ok (.ifCond .le 5, 3) := by decide +kernel
theorem dX4_loan_37 : decode cX4_loan 37 = .ok (.iconst 0, 1) := by decide +kernel
theorem dX4_loan_38 : decode cX4_loan 38 = .ok (.ireturn, 1) := by decide +kernel
theorem dX4_loan_39 : decode cX4_loan 39 = .ok (.iload_n 2, 1) := by decide +kernel
theorem dX4_loan_40 : decode cX4_loan 40 = .ok (.iconst 4, 1) := by decide +kernel
theorem dX4_loan_41 : decode cX4_loan 41 = .ok (.if_icmp .ge 12, 3) := by decide +kernel
theorem dX4_loan_44 : decode cX4_loan 44 = .ok (.aload_n 0, 1) := by decide +kernel
theorem dX4_loan_45 : decode cX4_loan 45 = .ok (.iload_n 1, 1) := by decide +kernel
theorem dX4_loan_46 : decode cX4_loan 46 = .ok (.iload_n 2, 1) := by decide +kernel
theorem dX4_loan_47 : decode cX4_loan 47 = .ok (.invokevirtual 64, 3) := by decide +kernel
theorem dX4_loan_50 : decode cX4_loan 50 = .ok (.goto 22, 3) := by decide +kernel
theorem dX4_loan_53 : decode cX4_loan 53 = .ok (.iload_n 2, 1) := by decide +kernel
theorem dX4_loan_54 : decode cX4_loan 54 = .ok (.iconst 4, 1) := by decide +kernel
theorem dX4_loan_55 : decode cX4_loan 55 = .ok (.if_icmp .ne 11, 3) := by decide +kernel
theorem dX4_loan_58 : decode cX4_loan 58 = .ok (.aload_n 0, 1) := by decide +kernel
theorem dX4_loan_59 : decode cX4_loan 59 = .ok (.iload_n 1, 1) := by decide +kernel
theorem dX4_loan_60 : decode cX4_loan 60 = .ok (.invokevirtual 67, 3) := by decide +kernel
theorem dX4_loan_63 : decode cX4_loan 63 = .ok (.goto 9, 3) := by decide +kernel
theorem dX4_loan_66 : decode cX4_loan 66 = .ok (.aload_n 0, 1) := by decide +kernel
theorem dX4_loan_67 : decode cX4_loan 67 = .ok (.iload_n 1, 1) := by decide +kernel
theorem dX4_loan_68 : decode cX4_loan 68 = .ok (.iconst 4, 1) := by decide +kernel
theorem dX4_loan_69 : decode cX4_loan 69 = .ok (.invokevirtual 64, 3) := by decide +kernel
theorem dX4_loan_72 : decode cX4_loan 72 = .ok (.ireturn, 1) := by decide +kernel
theorem dX4_order_0 : decode cX4_order 0 = .ok (.aload_n 0, 1) := by decide +kernel
theorem dX4_order_1 : decode cX4_order 1 = .ok (.iload_n 1, 1) := by decide +kernel
theorem dX4_order_2 : decode cX4_order 2 = .ok (.ifCond .ge 7, 3) := by decide +kernel
theorem dX4_order_5 : decode cX4_order 5 = .ok (.iconst 1, 1) := by decide +kernel
theorem dX4_order_6 : decode cX4_order 6 = .ok (.goto 4, 3) := by decide +kernel
theorem dX4_order_9 : decode cX4_order 9 = .ok (.iconst 0, 1) := by decide +kernel
theorem dX4_order_10 : decode cX4_order 10 = .ok (.putfield 35, 3) := by decide +kernel
theorem dX4_order_13 : decode cX4_order 13 = .ok (.aload_n 0, 1) := by decide +kernel
theorem dX4_order_14 : decode cX4_order 14 = .ok (.getfield 35, 3) := by decide +kernel
theorem dX4_order_17 : decode cX4_order 17 = .ok (.ifCond .le 5, 3) := by decide +kernel
theorem dX4_order_20 : decode cX4_order 20 = .ok (.iconst 0, 1) := by decide +kernel
theorem dX4_order_21 : decode cX4_order 21 = .ok (.ireturn, 1) := by decide +kernel
theorem dX4_order_22 : decode cX4_order 22 = .ok (.iconst 0, 1) := by decide +kernel
theorem dX4_order_23 : decode cX4_order 23 = .ok (.istore_n 2, 1) := by decide +kernel
theorem dX4_order_24 : decode cX4_order 24 = .ok (.iload_n 2, 1) := by decide +kernel
theorem dX4_order_25 : decode cX4_order 25 = .ok (.aload_n 0, 1) := by decide +kernel
theorem dX4_order_26 : decode cX4_order 26 = .ok (.getfield 7, 3) := by decide +kernel
theorem dX4_order_29 : decode cX4_order 29 = .ok (.iconst 1, 1) := by decide +kernel
theorem dX4_order_30 : decode cX4_order 30 = .ok (.iaload, 1) := by decide +kernel
theorem dX4_order_31 : decode cX4_order 31 = .ok (.if_icmp .ge 101, 3) := by decide +kernel
theorem dX4_order_34 : decode cX4_order 34 = .ok (.iconst 0, 1) := by decide +kernel
theorem dX4_order_35 : decode cX4_order 35 = .ok (.istore_n 3, 1) := by decide +kernel
theorem dX4_order_36 : decode cX4_order 36 = .ok (.iconst 0, 1) := by decide +kernel
theorem dX4_order_37 : decode cX4_order 37 = .ok (.istore 4, 2) := by decide +kernel
theorem dX4_order_39 : decode cX4_order 39 = .ok (.iload 4, 2) := by decide +kernel
theorem dX4_order_41 : decode cX4_order 41 = .ok (.aload_n 0, 1) := by decide +kernel
theorem dX4_order_42 : decode cX4_order 42 = .ok (.getfield 7, 3) := by decide +kernel
theorem dX4_order_45 : decode cX4_order 45 = .ok (.iconst 1, 1) := by decide +kernel
theorem dX4_order_46 : decode cX4_order 46 = .ok (.iaload, 1) := by decide +kernel
theorem dX4_order_47 : decode cX4_order 47 = .ok (.if_icmp .ge 64, 3) := by decide +kernel
theorem dX4_order_50 : decode cX4_order 50 = .ok (.iload_n 3, 1) := by decide +kernel
theorem dX4_order_51 : decode cX4_order 51 = .ok (.aload_n 0, 1) := by decide +kernel
theorem dX4_order_52 : decode cX4_order 52 = .ok (.iload 4, 2) := by decide +kernel
theorem dX4_order_54 : decode cX4_order 54 = .ok (.invokevirtual 84, 3) := by decide +kernel
theorem dX4_order_57 : decode cX4_order 57 = .ok (.ifCond .eq 45, 3) := by decide +kernel
theorem dX4_order_60 : decode cX4_order 60 = .ok (.aload_n 0, 1) := by decide +kernel
theorem dX4_order_61 : decode cX4_order 61 = .ok (.iload 4, 2) := by decide +kernel
theorem dX4_order_63 : decode cX4_order 63 = .ok (.iconst 1, 1) := by decide +kernel
theorem dX4_order_64 : decode cX4_order 64 = .ok (.invokevirtual 43, 3) := by decide +kernel
theorem dX4_order_67 : decode cX4_order 67 = .ok (.aload_n 0, 1) := by decide +kernel
theorem dX4_order_68 : decode cX4_order 68 = .ok (.iload_n 2, 1) := by decide +kernel
theorem dX4_order_69 : decode cX4_order 69 = .ok (.iconst 1, 1) := by decide +kernel
theorem dX4_order_70 : decode cX4_order 70 = .ok (.invokevirtual 43, 3) := by decide +kernel
theorem dX4_order_73 : decode cX4_order 73 = .ok (.if_icmp .gt 25, 3) := by decide +kernel
theorem dX4_order_76 : decode cX4_order 76 = .ok (.aload_n 0, 1) := by decide +kernel
theorem dX4_order_77 : decode cX4_order 77 = .ok (.iload 4, 2) := by decide +kernel
theorem dX4_order_79 : decode cX4_order 79 = .ok (.iconst 1, 1) := by decide +kernel
theorem dX4_order_80 : decode cX4_order 80 = .ok (.invokevirtual 43, 3) := by decide +kernel
theorem dX4_order_83 : decode cX4_order 83 = .ok (.aload_n 0, 1) := by decide +kernel
theorem dX4_order_84 : decode cX4_order 84 = .ok (.iload_n 2, 1) := by decide +kernel
theorem dX4_order_85 : decode cX4_order 85 = .ok (.iconst 1, 1) := by decide +kernel
theorem dX4_order_86 : decode cX4_order 86 = .ok (.invokevirtual 43, 3) := by decide +kernel
theorem dX4_order_89 : decode cX4_order 89 = .ok (.if_icmp .ne 13, 3) := by decide +kernel
theorem dX4_order_92 : decode cX4_order 92 = .ok (.iload 4, 2) := by decide +kernel
theorem dX4_order_94 : decode cX4_order 94 = .ok (.iload_n 2, 1) := by decide +kernel
theorem dX4_order_95 : decode cX4_order 95 = .ok (.if_icmp .ge 7, 3) := by decide +kernel
theorem dX4_order_98 : decode cX4_order 98 = .ok (.iconst 1, 1) := by decide +kernel
theorem dX4_order_99 : decode cX4_order 99 = .ok (.goto 4, 3) := by decide +kernel
theorem dX4_order_102 : decode cX4_order 102 = .ok (.iconst 0, 1) := by decide +kernel
theorem dX4_order_103 : decode cX4_order 103 = .ok (.iadd, 1) := by decide +kernel
theorem dX4_order_104 : decode cX4_order 104 = .ok (.istore_n 3, 1) := by decide +kernel
theorem dX4_order_105 : decode cX4_order 105 = .ok (.iinc 4 1, 3) := by decide +kernel
theorem dX4_order_108 : decode cX4_order 108 = .ok (.goto (-69), 3) := by decide +kernel
theorem dX4_order_111 : decode cX4_order 111 = .ok (.aload_n 0, 1) := by decide +kernel
theorem dX4_order_112 : decode cX4_order 112 = .ok (.iload_n 2, 1) := by decide +kernel
theorem dX4_order_113 : decode cX4_order 113 = .ok (.invokevirtual 84, 3) := by decide +kernel
theorem dX4_order_116 : decode cX4_order 116 = .ok (.ifCond .eq 10, 3) := by decide +kernel
theorem dX4_order_119 : decode cX4_order 119 = .ok (.iload_n 3, 1) := by decide +kernel
theorem dX4_order_120 : decode cX4_order 120 = .ok (.iload_n 1, 1) := by decide +kernel
theorem dX4_order_121 : decode cX4_order 121 = .ok (.if_icmp .ne 5, 3) := by decide +kernel
theorem dX4_order_124 : decode cX4_order 124 = .ok (.iload_n 2, 1) := by decide +kernel
theorem dX4_order_125 : decode cX4_order 125 = .ok (.ireturn, 1) := by decide +kernel
theorem dX4_order_126 : decode cX4_order 126 = .ok (.iinc 2 1, 3) := by decide +kernel
theorem dX4_order_129 : decode cX4_order 129 = .ok (.goto (-105), 3) := by decide +kernel
theorem dX4_order_132 : decode cX4_order 132 = .ok (.bipush (-9), 2) := by decide +kernel
theorem dX4_order_134 : decode cX4_order 134 = .ok (.ireturn, 1) := by decide +kernel
theorem dX4_addCell_0 : decode cX4_addCell 0 = .ok (.aload_n 0, 1) := by decide +kernel
theorem dX4_addCell_1 : decode cX4_addCell 1 = .ok (.iload_n 1, 1) := by decide +kernel
theorem dX4_addCell_2 : decode cX4_addCell 2 = .ok (.bipush 10, 2) := by decide +kernel
theorem dX4_addCell_4 : decode cX4_addCell 4 = .ok (.bipush 99, 2) := by decide +kernel
theorem dX4_addCell_6 : decode cX4_addCell 6 = .ok (.invokestatic 39, 3) := by decide +kernel
theorem dX4_addCell_9 : decode cX4_addCell 9 = .ok (.ifCond .eq 21, 3) := by decide +kernel
theorem dX4_addCell_12 : decode cX4_addCell 12 = .ok (.iload_n 2, 1) := by decide +kernel
theorem dX4_addCell_13 : decode cX4_addCell 13 = .ok (.iconst 0, 1) := by decide +kernel
theorem dX4_addCell_14 : decode cX4_addCell 14 = .ok (.iload_n 1, 1) := by decide +kernel
theorem dX4_addCell_15 : decode cX4_addCell 15 = .ok (.invokestatic 39, 3) := by decide +kernel
theorem dX4_addCell_18 : decode cX4_addCell 18 = .ok (.ifCond .eq 12, 3) := by decide +kernel
theorem dX4_addCell_21 : decode cX4_addCell 21 = .ok (.iload_n 3, 1) := by decide +kernel
theorem dX4_addCell_22 : decode cX4_addCell 22 = .ok (.iconst 0, 1) := by decide +kernel
theorem dX4_addCell_23 : decode cX4_addCell 23 = .ok (.iconst 3, 1) := by decide +kernel
theorem dX4_addCell_24 : decode cX4_addCell 24 = .ok (.invokestatic 39, 3) := by decide +kernel
theorem dX4_addCell_27 : decode cX4_addCell 27 = .ok (.ifCond .ne 7, 3) := by decide +kernel
theorem dX4_addCell_30 : decode cX4_addCell 30 = .ok (.iconst 1, 1) := by decide +kernel
theorem dX4_addCell_31 : decode cX4_addCell 31 = .ok (.goto 19, 3) := by decide +kernel
theorem dX4_addCell_34 : decode cX4_addCell 34 = .ok (.aload_n 0, 1) := by decide +kernel
theorem dX4_addCell_35 : decode cX4_addCell 35 = .ok (.getfield 7, 3) := by decide +kernel
theorem dX4_addCell_38 : decode cX4_addCell 38 = .ok (.iconst 1, 1) := by decide +kernel
theorem dX4_addCell_39 : decode cX4_addCell 39 = .ok (.iaload, 1) := by decide +kernel
theorem dX4_addCell_40 : decode cX4_addCell 40 = .ok (.bipush 8, 2) := by decide +kernel
theorem dX4_addCell_42 : decode cX4_addCell 42 = .ok (.if_icmp .ne 7, 3) := by decide +kernel
theorem dX4_addCell_45 : decode cX4_addCell 45 = .ok (.iconst 2, 1) := by decide +kernel
theorem dX4_addCell_46 : decode cX4_addCell 46 = .ok (.goto 4, 3) := by decide +kernel
theorem dX4_addCell_49 : decode cX4_addCell 49 = .ok (.iconst 0, 1) := by decide +kernel
theorem dX4_addCell_50 : decode cX4_addCell 50 = .ok (.putfield 35, 3) := by decide +kernel
theorem dX4_addCell_53 : decode cX4_addCell 53 = .ok (.aload_n 0, 1) := by decide +kernel
theorem dX4_addCell_54 : decode cX4_addCell 54 = .ok (.getfield 35, 3) := by decide +kernel
theorem dX4_addCell_57 : decode cX4_addCell 57 = .ok (.ifCond .le 5, 3) := by decide +kernel
theorem dX4_addCell_60 : decode cX4_addCell 60 = .ok (.iconst 0, 1) := by decide +kernel
theorem dX4_addCell_61 : decode cX4_addCell 61 = .ok (.ireturn, 1) := by decide +kernel
theorem dX4_addCell_62 : decode cX4_addCell 62 = .ok (.aload_n 0, 1) := by decide +kernel
theorem dX4_addCell_63 : decode cX4_addCell 63 = .ok (.invokevirtual 178, 3) := by decide +kernel
theorem dX4_addCell_66 : decode cX4_addCell 66 = .ok (.aload_n 0, 1) := by decide +kernel
theorem dX4_addCell_67 : decode cX4_addCell 67 = .ok (.iload_n 1, 1) := by decide +kernel
theorem dX4_addCell_68 : decode cX4_addCell 68 = .ok (.iload_n 2, 1) := by decide +kernel
theorem dX4_addCell_69 : decode cX4_addCell 69 = .ok (.iload_n 3, 1) := by decide +kernel
theorem dX4_addCell_70 : decode cX4_addCell 70 = .ok (.invokevirtual 132, 3) := by decide +kernel
theorem dX4_addCell_73 : decode cX4_addCell 73 = .ok (.ireturn, 1) := by decide +kernel
theorem dX4_whyNoLend_0 : decode cX4_whyNoLend 0 = .ok (.aload_n 0, 1) := by decide +kernel
theorem dX4_whyNoLend_1 : decode cX4_whyNoLend 1 = .ok (.iload_n 1, 1) := by decide +kernel
theorem dX4_whyNoLend_2 : decode cX4_whyNoLend 2 = .ok (.invokevirtual 135, 3) := by decide +kernel
theorem dX4_whyNoLend_5 : decode cX4_whyNoLend 5 = .ok (.ifCond .eq 11, 3) := by decide +kernel
theorem dX4_whyNoLend_8 : decode cX4_whyNoLend 8 = .ok (.aload_n 0, 1) := by decide +kernel
theorem dX4_whyNoLend_9 : decode cX4_whyNoLend 9 = .ok (.iload_n 2, 1) := by decide +kernel
theorem dX4_whyNoLend_10 : decode cX4_whyNoLend 10 = .ok (.invokevirtual 135, 3) := by decide +kernel
theorem dX4_whyNoLend_13 : decode cX4_whyNoLend 13 = .ok (.ifCond .ne 5, 3) := by decide +kernel
theorem dX4_whyNoLend_16 : decode cX4_whyNoLend 16 = .ok (.iconst 1, 1) := by decide +kernel
theorem dX4_whyNoLend_17 : decode cX4_whyNoLend 17 = .ok (.ireturn, 1) := by decide +kernel
theorem dX4_whyNoLend_18 : decode cX4_whyNoLend 18 = .ok (.iload_n 1, 1) := by decide +kernel
theorem dX4_whyNoLend_19 : decode cX4_whyNoLend 19 = .ok (.iload_n 2, 1) := by decide +kernel
theorem dX4_whyNoLend_20 : decode cX4_whyNoLend 20 = .ok (.if_icmp .eq 24, 3) := by decide +kernel
theorem dX4_whyNoLend_23 : decode cX4_whyNoLend 23 = .ok (.iload_n 3, 1) := by decide +kernel
theorem dX4_whyNoLend_24 : decode cX4_whyNoLend 24 = .ok (.iconst 1, 1) := by decide +kernel
theorem dX4_whyNoLend_25 : decode cX4_whyNoLend 25 = .ok (.bipush 99, 2) := by decide +kernel
theorem dX4_whyNoLend_27 : decode cX4_whyNoLend 27 = .ok (.invokestatic 39, 3) := by decide +kernel
theorem dX4_whyNoLend_30 : decode cX4_whyNoLend 30 = .ok (.ifCond .eq 14, 3) := by decide +kernel
theorem dX4_whyNoLend_33 : decode cX4_whyNoLend 33 = .ok (.iload 4, 2) := by decide +kernel
theorem dX4_whyNoLend_35 : decode cX4_whyNoLend 35 = .ok (.iconst 0, 1) := by decide +kernel
theorem dX4_whyNoLend_36 : decode cX4_whyNoLend 36 = .ok (.bipush 50, 2) := by decide +kernel
theorem dX4_whyNoLend_38 : decode cX4_whyNoLend 38 = .ok (.invokestatic 39, 3) := by decide +kernel
theorem dX4_whyNoLend_41 : decode cX4_whyNoLend 41 = .ok (.ifCond .ne 5, 3) := by decide +kernel
theorem dX4_whyNoLend_44 : decode cX4_whyNoLend 44 = .ok (.iconst 2, 1) := by decide +kernel
theorem dX4_whyNoLend_45 : decode cX4_whyNoLend 45 = .ok (.ireturn, 1) := by decide +kernel
theorem dX4_whyNoLend_46 : decode cX4_whyNoLend 46 = .ok (.aload_n 0, 1) := by decide +kernel
theorem dX4_whyNoLend_47 : decode cX4_whyNoLend 47 = .ok (.iload_n 1, 1) := by decide +kernel
theorem dX4_whyNoLend_48 : decode cX4_whyNoLend 48 = .ok (.invokevirtual 84, 3) := by decide +kernel
theorem dX4_whyNoLend_51 : decode cX4_whyNoLend 51 = .ok (.ifCond .eq 42, 3) := by decide +kernel
theorem dX4_whyNoLend_54 : decode cX4_whyNoLend 54 = .ok (.aload_n 0, 1) := by decide +kernel
theorem dX4_whyNoLend_55 : decode cX4_whyNoLend 55 = .ok (.iload_n 2, 1) := by decide +kernel
theorem dX4_whyNoLend_56 : decode cX4_whyNoLend 56 = .ok (.invokevirtual 84, 3) := by decide +kernel
theorem dX4_whyNoLend_59 : decode cX4_whyNoLend 59 = .ok (.ifCond .eq 34, 3) := by decide +kernel
theorem dX4_whyNoLend_62 : decode cX4_whyNoLend 62 = .ok (.aload_n 0, 1) := by decide +kernel
theorem dX4_whyNoLend_63 : decode cX4_whyNoLend 63 = .ok (.iload_n 1, 1) := by decide +kernel
theorem dX4_whyNoLend_64 : decode cX4_whyNoLend 64 = .ok (.iconst 1, 1) := by decide +kernel
theorem dX4_whyNoLend_65 : decode cX4_whyNoLend 65 = .ok (.invokevirtual 43, 3) := by decide +kernel
theorem dX4_whyNoLend_68 : decode cX4_whyNoLend 68 = .ok (.iload_n 3, 1) := by decide +kernel
theorem dX4_whyNoLend_69 : decode cX4_whyNoLend 69 = .ok (.if_icmp .lt 24, 3) := by decide +kernel
theorem dX4_whyNoLend_72 : decode cX4_whyNoLend 72 = .ok (.aload_n 0, 1) := by decide +kernel
theorem dX4_whyNoLend_73 : decode cX4_whyNoLend 73 = .ok (.iload_n 3, 1) := by decide +kernel
theorem dX4_whyNoLend_74 : decode cX4_whyNoLend 74 = .ok (.iload_n 1, 1) := by decide +kernel
theorem dX4_whyNoLend_75 : decode cX4_whyNoLend 75 = .ok (.iload_n 2, 1) := by decide +kernel
theorem dX4_whyNoLend_76 : decode cX4_whyNoLend 76 = .ok (.invokevirtual 141, 3) := by decide +kernel
theorem dX4_whyNoLend_79 : decode cX4_whyNoLend 79 = .ok (.ifCond .ne 14, 3) := by decide +kernel
theorem dX4_whyNoLend_82 : decode cX4_whyNoLend 82 = .ok (.aload_n 0, 1) := by decide +kernel
theorem dX4_whyNoLend_83 : decode cX4_whyNoLend 83 = .ok (.getfield 7, 3) := by decide +kernel
theorem dX4_whyNoLend_86 : decode cX4_whyNoLend 86 = .ok (.iconst 2, 1) := by decide +kernel
theorem dX4_whyNoLend_87 : decode cX4_whyNoLend 87 = .ok (.iaload, 1) := by decide +kernel
theorem dX4_whyNoLend_88 : decode cX4_whyNoLend 88 = .ok (.bipush 12, 2) := by decide +kernel
theorem dX4_whyNoLend_90 : decode cX4_whyNoLend 90 = .ok (.if_icmp .ne 7, 3) := by decide +kernel
theorem dX4_whyNoLend_93 : decode cX4_whyNoLend 93 = .ok (.iconst 3, 1) := by decide +kernel
theorem dX4_whyNoLend_94 : decode cX4_whyNoLend 94 = .ok (.goto 4, 3) := by decide +kernel
theorem dX4_whyNoLend_97 : decode cX4_whyNoLend 97 = .ok (.iconst 0, 1) := by decide +kernel
theorem dX4_whyNoLend_98 : decode cX4_whyNoLend 98 = .ok (.ireturn, 1) := by decide +kernel
theorem dX4_lend_0 : decode cX4_lend 0 = .ok (.aload_n 0, 1) := by decide +kernel
theorem dX4_lend_1 : decode cX4_lend 1 = .ok (.aload_n 0, 1) := by decide +kernel
theorem dX4_lend_2 : decode cX4_lend 2 = .ok (.iload_n 1, 1) := by decide +kernel
theorem dX4_lend_3 : decode cX4_lend 3 = .ok (.iload_n 2, 1) := by decide +kernel
theorem dX4_lend_4 : decode cX4_lend 4 = .ok (.iload_n 3, 1) := by decide +kernel
theorem dX4_lend_5 : decode cX4_lend 5 = .ok (.iload 4, 2) := by decide +kernel
theorem dX4_lend_7 : decode cX4_lend 7 = .ok (.invokevirtual 181, 3) := by decide +kernel
theorem dX4_lend_10 : decode cX4_lend 10 = .ok (.putfield 35, 3) := by decide +kernel
theorem dX4_lend_13 : decode cX4_lend 13 = .ok (.aload_n 0, 1) := by decide +kernel
theorem dX4_lend_14 : decode cX4_lend 14 = .ok (.getfield 35, 3) := by decide +kernel
theorem dX4_lend_17 : decode cX4_lend 17 = .ok (.ifCond .le 5, 3) := by decide +kernel
theorem dX4_lend_20 : decode cX4_lend 20 = .ok (.iconst 0, 1) := by decide +kernel
theorem dX4_lend_21 : decode cX4_lend 21 = .ok (.ireturn, 1) := by decide +kernel
theorem dX4_lend_22 : decode cX4_lend 22 = .ok (.aload_n 0, 1) := by decide +kernel
theorem dX4_lend_23 : decode cX4_lend 23 = .ok (.invokevirtual 178, 3) := by decide +kernel
theorem dX4_lend_26 : decode cX4_lend 26 = .ok (.aload_n 0, 1) := by decide +kernel
theorem dX4_lend_27 : decode cX4_lend 27 = .ok (.iload_n 1, 1) := by decide +kernel
theorem dX4_lend_28 : decode cX4_lend 28 = .ok (.iload_n 2, 1) := by decide +kernel
theorem dX4_lend_29 : decode cX4_lend 29 = .ok (.iload_n 3, 1) := by decide +kernel
theorem dX4_lend_30 : decode cX4_lend 30 = .ok (.iload 4, 2) := by decide +kernel
theorem dX4_lend_32 : decode cX4_lend 32 = .ok (.invokevirtual 101, 3) := by decide +kernel
theorem dX4_lend_35 : decode cX4_lend 35 = .ok (.ireturn, 1) := by decide +kernel
theorem dX4_whyNoRepay_0 : decode cX4_whyNoRepay 0 = .ok (.aload_n 0, 1) := by decide +kernel
theorem dX4_whyNoRepay_1 : decode cX4_whyNoRepay 1 = .ok (.iload_n 1, 1) := by decide +kernel
theorem dX4_whyNoRepay_2 : decode cX4_whyNoRepay 2 = .ok (.invokevirtual 175, 3) := by decide +kernel
theorem dX4_whyNoRepay_5 : decode cX4_whyNoRepay 5 = .ok (.ifCond .ne 5, 3) := by decide +kernel
theorem dX4_whyNoRepay_8 : decode cX4_whyNoRepay 8 = .ok (.iconst 1, 1) := by decide +kernel
theorem dX4_whyNoRepay_9 : decode cX4_whyNoRepay 9 = .ok (.ireturn, 1) := by decide +kernel
theorem dX4_whyNoRepay_10 : decode cX4_whyNoRepay 10 = .ok (.iload_n 2, 1) := by decide +kernel
theorem dX4_whyNoRepay_11 : decode cX4_whyNoRepay 11 = .ok (.iconst 1, 1) := by decide +kernel
theorem dX4_whyNoRepay_12 : decode cX4_whyNoRepay 12 = .ok (.bipush 99, 2) := by decide +kernel
theorem dX4_whyNoRepay_14 : decode cX4_whyNoRepay 14 = .ok (.invokestatic 39, 3) := by decide +kernel
theorem dX4_whyNoRepay_17 : decode cX4_whyNoRepay 17 = .ok (.ifCond .ne 5, 3) := by decide +kernel
theorem dX4_whyNoRepay_20 : decode cX4_whyNoRepay 20 = .ok (.iconst 2, 1) := by decide +kernel
theorem dX4_whyNoRepay_21 : decode cX4_whyNoRepay 21 = .ok (.ireturn, 1) := by decide +kernel
theorem dX4_whyNoRepay_22 : decode cX4_whyNoRepay 22 = .ok (.aload_n 0, 1) := by decide +kernel
theorem dX4_whyNoRepay_23 : decode cX4_whyNoRepay 23 = .ok (.iload_n 1, 1) := by decide +kernel
theorem dX4_whyNoRepay_24 : decode cX4_whyNoRepay 24 = .ok (.iconst 1, 1) := by decide +kernel
theorem dX4_whyNoRepay_25 : decode cX4_whyNoRepay 25 = .ok (.invokevirtual 64, 3) := by decide +kernel
theorem dX4_whyNoRepay_28 : decode cX4_whyNoRepay 28 = .ok (.istore_n 3, 1) := by decide +kernel
theorem dX4_whyNoRepay_29 : decode cX4_whyNoRepay 29 = .ok (.aload_n 0, 1) := by decide +kernel
theorem dX4_whyNoRepay_30 : decode cX4_whyNoRepay 30 = .ok (.iload_n 1, 1) := by decide +kernel
theorem dX4_whyNoRepay_31 : decode cX4_whyNoRepay 31 = .ok (.iconst 2, 1) := by decide +kernel
theorem dX4_whyNoRepay_32 : decode cX4_whyNoRepay 32 = .ok (.invokevirtual 64, 3) := by decide +kernel
theorem dX4_whyNoRepay_35 : decode cX4_whyNoRepay 35 = .ok (.iload_n 2, 1) := by decide +kernel
theorem dX4_whyNoRepay_36 : decode cX4_whyNoRepay 36 = .ok (.if_icmp .lt 28, 3) := by decide +kernel
theorem dX4_whyNoRepay_39 : decode cX4_whyNoRepay 39 = .ok (.aload_n 0, 1) := by decide +kernel
theorem dX4_whyNoRepay_40 : decode cX4_whyNoRepay 40 = .ok (.iload_n 3, 1) := by decide +kernel
theorem dX4_whyNoRepay_41 : decode cX4_whyNoRepay 41 = .ok (.iconst 1, 1) := by decide +kernel
theorem dX4_whyNoRepay_42 : decode cX4_whyNoRepay 42 = .ok (.invokevirtual 43, 3) := by decide +kernel
theorem dX4_whyNoRepay_45 : decode cX4_whyNoRepay 45 = .ok (.iload_n 2, 1) := by decide +kernel
theorem dX4_whyNoRepay_46 : decode cX4_whyNoRepay 46 = .ok (.if_icmp .lt 18, 3) := by decide +kernel
theorem dX4_whyNoRepay_49 : decode cX4_whyNoRepay 49 = .ok (.aload_n 0, 1) := by decide +kernel
theorem dX4_whyNoRepay_50 : decode cX4_whyNoRepay 50 = .ok (.iload_n 2, 1) := by decide +kernel
theorem dX4_whyNoRepay_51 : decode cX4_whyNoRepay 51 = .ok (.iload_n 3, 1) := by decide +kernel
theorem dX4_whyNoRepay_52 : decode cX4_whyNoRepay 52 = .ok (.aload_n 0, 1) := by decide +kernel
theorem dX4_whyNoRepay_53 : decode cX4_whyNoRepay 53 = .ok (.iload_n 1, 1) := by decide +kernel
theorem dX4_whyNoRepay_54 : decode cX4_whyNoRepay 54 = .ok (.iconst 0, 1) := by decide +kernel
theorem dX4_whyNoRepay_55 : decode cX4_whyNoRepay 55 = .ok (.invokevirtual 64, 3) := by decide +kernel
theorem dX4_whyNoRepay_58 : decode cX4_whyNoRepay 58 = .ok (.invokevirtual 141, 3) := by decide +kernel
theorem dX4_whyNoRepay_61 : decode cX4_whyNoRepay 61 = .ok (.ifCond .eq 7, 3) := by decide +kernel
theorem dX4_whyNoRepay_64 : decode cX4_whyNoRepay 64 = .ok (.iconst 3, 1) := by decide +kernel
theorem dX4_whyNoRepay_65 : decode cX4_whyNoRepay 65 = .ok (.goto 4, 3) := by decide +kernel
theorem dX4_whyNoRepay_68 : decode cX4_whyNoRepay 68 = .ok (.iconst 0, 1) := by decide +kernel
theorem dX4_whyNoRepay_69 : decode cX4_whyNoRepay 69 = .ok (.ireturn, 1) := by decide +kernel
theorem dX4_repays_0 : decode cX4_repays 0 = .ok (.aload_n 0, 1) := by decide +kernel
theorem dX4_repays_1 : decode cX4_repays 1 = .ok (.iload_n 2, 1) := by decide +kernel
theorem dX4_repays_2 : decode cX4_repays 2 = .ok (.aload_n 0, 1) := by decide +kernel
theorem dX4_repays_3 : decode cX4_repays 3 = .ok (.iload_n 1, 1) := by decide +kernel
theorem dX4_repays_4 : decode cX4_repays 4 = .ok (.iconst 1, 1) := by decide +kernel
theorem dX4_repays_5 : decode cX4_repays 5 = .ok (.invokevirtual 64, 3) := by decide +kernel
theorem dX4_repays_8 : decode cX4_repays 8 = .ok (.aload_n 0, 1) := by decide +kernel
theorem dX4_repays_9 : decode cX4_repays 9 = .ok (.iload_n 1, 1) := by decide +kernel
