theorem dX4_repays_10 : decode cX4_repays 10 = .ok (.iconst 0, 1) := by decide +kernel
theorem dX4_repays_11 : decode cX4_repays 11 = .ok (.invokevirtual 64, 3) := by decide +kernel
theorem dX4_repays_14 : decode cX4_repays 14 = .ok (.invokevirtual 58, 3) := by decide +kernel
theorem dX4_repays_17 : decode cX4_repays 17 = .ok (.pop, 1) := by decide +kernel
theorem dX4_repays_18 : decode cX4_repays 18 = .ok (.aload_n 0, 1) := by decide +kernel
theorem dX4_repays_19 : decode cX4_repays 19 = .ok (.getfield 7, 3) := by decide +kernel
theorem dX4_repays_22 : decode cX4_repays 22 = .ok (.bipush 47, 2) := by decide +kernel
theorem dX4_repays_24 : decode cX4_repays 24 = .ok (.iconst 5, 1) := by decide +kernel
theorem dX4_repays_25 : decode cX4_repays 25 = .ok (.iload_n 1, 1) := by decide +kernel
theorem dX4_repays_26 : decode cX4_repays 26 = .ok (.imul, 1) := by decide +kernel
theorem dX4_repays_27 : decode cX4_repays 27 = .ok (.iadd, 1) := by decide +kernel
theorem dX4_repays_28 : decode cX4_repays 28 = .ok (.iconst 2, 1) := by decide +kernel
theorem dX4_repays_29 : decode cX4_repays 29 = .ok (.iadd, 1) := by decide +kernel
theorem dX4_repays_30 : decode cX4_repays 30 = .ok (.dup2, 1) := by decide +kernel
theorem dX4_repays_31 : decode cX4_repays 31 = .ok (.iaload, 1) := by decide +kernel
theorem dX4_repays_32 : decode cX4_repays 32 = .ok (.iload_n 2, 1) := by decide +kernel
theorem dX4_repays_33 : decode cX4_repays 33 = .ok (.isub, 1) := by decide +kernel
theorem dX4_repays_34 : decode cX4_repays 34 = .ok (.iastore, 1) := by decide +kernel
theorem dX4_repays_35 : decode cX4_repays 35 = .ok (.aload_n 0, 1) := by decide +kernel
theorem dX4_repays_36 : decode cX4_repays 36 = .ok (.iload_n 1, 1) := by decide +kernel
theorem dX4_repays_37 : decode cX4_repays 37 = .ok (.iconst 2, 1) := by decide +kernel
theorem dX4_repays_38 : decode cX4_repays 38 = .ok (.invokevirtual 64, 3) := by decide +kernel
theorem dX4_repays_41 : decode cX4_repays 41 = .ok (.istore_n 3, 1) := by decide +kernel
theorem dX4_repays_42 : decode cX4_repays 42 = .ok (.iload_n 3, 1) := by decide +kernel
theorem dX4_repays_43 : decode cX4_repays 43 = .ok (.ifCond .ne 8, 3) := by decide +kernel
theorem dX4_repays_46 : decode cX4_repays 46 = .ok (.aload_n 0, 1) := by decide +kernel
theorem dX4_repays_47 : decode cX4_repays 47 = .ok (.iload_n 1, 1) := by decide +kernel
theorem dX4_repays_48 : decode cX4_repays 48 = .ok (.invokevirtual 77, 3) := by decide +kernel
theorem dX4_repays_51 : decode cX4_repays 51 = .ok (.iload_n 3, 1) := by decide +kernel
theorem dX4_repays_52 : decode cX4_repays 52 = .ok (.ireturn, 1) := by decide +kernel
theorem dX4_repay_0 : decode cX4_repay 0 = .ok (.aload_n 0, 1) := by decide +kernel
theorem dX4_repay_1 : decode cX4_repay 1 = .ok (.aload_n 0, 1) := by decide +kernel
theorem dX4_repay_2 : decode cX4_repay 2 = .ok (.iload_n 1, 1) := by decide +kernel
theorem dX4_repay_3 : decode cX4_repay 3 = .ok (.iload_n 2, 1) := by decide +kernel
theorem dX4_repay_4 : decode cX4_repay 4 = .ok (.invokevirtual 184, 3) := by decide +kernel
theorem dX4_repay_7 : decode cX4_repay 7 = .ok (.putfield 35, 3) := by decide +kernel
theorem dX4_repay_10 : decode cX4_repay 10 = .ok (.aload_n 0, 1) := by decide +kernel
theorem dX4_repay_11 : decode cX4_repay 11 = .ok (.getfield 35, 3) := by decide +kernel
theorem dX4_repay_14 : decode cX4_repay 14 = .ok (.ifCond .le 5, 3) := by decide +kernel
theorem dX4_repay_17 : decode cX4_repay 17 = .ok (.iconst 0, 1) := by decide +kernel
theorem dX4_repay_18 : decode cX4_repay 18 = .ok (.ireturn, 1) := by decide +kernel
theorem dX4_repay_19 : decode cX4_repay 19 = .ok (.aload_n 0, 1) := by decide +kernel
theorem dX4_repay_20 : decode cX4_repay 20 = .ok (.invokevirtual 178, 3) := by decide +kernel
theorem dX4_repay_23 : decode cX4_repay 23 = .ok (.aload_n 0, 1) := by decide +kernel
theorem dX4_repay_24 : decode cX4_repay 24 = .ok (.iload_n 1, 1) := by decide +kernel
theorem dX4_repay_25 : decode cX4_repay 25 = .ok (.iload_n 2, 1) := by decide +kernel
theorem dX4_repay_26 : decode cX4_repay 26 = .ok (.invokevirtual 187, 3) := by decide +kernel
theorem dX4_repay_29 : decode cX4_repay 29 = .ok (.ireturn, 1) := by decide +kernel
theorem dX4_setLeak_0 : decode cX4_setLeak 0 = .ok (.aload_n 0, 1) := by decide +kernel
theorem dX4_setLeak_1 : decode cX4_setLeak 1 = .ok (.aload_n 0, 1) := by decide +kernel
theorem dX4_setLeak_2 : decode cX4_setLeak 2 = .ok (.iload_n 1, 1) := by decide +kernel
theorem dX4_setLeak_3 : decode cX4_setLeak 3 = .ok (.invokevirtual 135, 3) := by decide +kernel
theorem dX4_setLeak_6 : decode cX4_setLeak 6 = .ok (.ifCond .ne 7, 3) := by decide +kernel
theorem dX4_setLeak_9 : decode cX4_setLeak 9 = .ok (.iconst 1, 1) := by decide +kernel
theorem dX4_setLeak_10 : decode cX4_setLeak 10 = .ok (.goto 17, 3) := by decide +kernel
theorem dX4_setLeak_13 : decode cX4_setLeak 13 = .ok (.iload_n 2, 1) := by decide +kernel
theorem dX4_setLeak_14 : decode cX4_setLeak 14 = .ok (.iconst 0, 1) := by decide +kernel
theorem dX4_setLeak_15 : decode cX4_setLeak 15 = .ok (.iconst 3, 1) := by decide +kernel
theorem dX4_setLeak_16 : decode cX4_setLeak 16 = .ok (.invokestatic 39, 3) := by decide +kernel
theorem dX4_setLeak_19 : decode cX4_setLeak 19 = .ok (.ifCond .ne 7, 3) := by decide +kernel
theorem dX4_setLeak_22 : decode cX4_setLeak 22 = .ok (.iconst 2, 1) := by decide +kernel
theorem dX4_setLeak_23 : decode cX4_setLeak 23 = .ok (.goto 4, 3) := by decide +kernel
theorem dX4_setLeak_26 : decode cX4_setLeak 26 = .ok (.iconst 0, 1) := by decide +kernel
theorem dX4_setLeak_27 : decode cX4_setLeak 27 = .ok (.putfield 35, 3) := by decide +kernel
theorem dX4_setLeak_30 : decode cX4_setLeak 30 = .ok (.aload_n 0, 1) := by decide +kernel
theorem dX4_setLeak_31 : decode cX4_setLeak 31 = .ok (.getfield 35, 3) := by decide +kernel
theorem dX4_setLeak_34 : decode cX4_setLeak 34 = .ok (.ifCond .le 5, 3) := by decide +kernel
theorem dX4_setLeak_37 : decode cX4_setLeak 37 = .ok (.iconst 0, 1) := by decide +kernel
theorem dX4_setLeak_38 : decode cX4_setLeak 38 = .ok (.ireturn, 1) := by decide +kernel
theorem dX4_setLeak_39 : decode cX4_setLeak 39 = .ok (.aload_n 0, 1) := by decide +kernel
theorem dX4_setLeak_40 : decode cX4_setLeak 40 = .ok (.invokevirtual 178, 3) := by decide +kernel
theorem dX4_setLeak_43 : decode cX4_setLeak 43 = .ok (.aload_n 0, 1) := by decide +kernel
theorem dX4_setLeak_44 : decode cX4_setLeak 44 = .ok (.iload_n 1, 1) := by decide +kernel
theorem dX4_setLeak_45 : decode cX4_setLeak 45 = .ok (.iconst 2, 1) := by decide +kernel
theorem dX4_setLeak_46 : decode cX4_setLeak 46 = .ok (.invokevirtual 43, 3) := by decide +kernel
theorem dX4_setLeak_49 : decode cX4_setLeak 49 = .ok (.istore_n 3, 1) := by decide +kernel
theorem dX4_setLeak_50 : decode cX4_setLeak 50 = .ok (.aload_n 0, 1) := by decide +kernel
theorem dX4_setLeak_51 : decode cX4_setLeak 51 = .ok (.iload_n 1, 1) := by decide +kernel
theorem dX4_setLeak_52 : decode cX4_setLeak 52 = .ok (.iconst 2, 1) := by decide +kernel
theorem dX4_setLeak_53 : decode cX4_setLeak 53 = .ok (.iload_n 2, 1) := by decide +kernel
theorem dX4_setLeak_54 : decode cX4_setLeak 54 = .ok (.iload_n 3, 1) := by decide +kernel
theorem dX4_setLeak_55 : decode cX4_setLeak 55 = .ok (.isub, 1) := by decide +kernel
theorem dX4_setLeak_56 : decode cX4_setLeak 56 = .ok (.invokevirtual 54, 3) := by decide +kernel
theorem dX4_setLeak_59 : decode cX4_setLeak 59 = .ok (.iload_n 3, 1) := by decide +kernel
theorem dX4_setLeak_60 : decode cX4_setLeak 60 = .ok (.ireturn, 1) := by decide +kernel
theorem dX4_charge_0 : decode cX4_charge 0 = .ok (.aload_n 0, 1) := by decide +kernel
theorem dX4_charge_1 : decode cX4_charge 1 = .ok (.iload_n 1, 1) := by decide +kernel
theorem dX4_charge_2 : decode cX4_charge 2 = .ok (.iconst 1, 1) := by decide +kernel
theorem dX4_charge_3 : decode cX4_charge 3 = .ok (.bipush 99, 2) := by decide +kernel
theorem dX4_charge_5 : decode cX4_charge 5 = .ok (.invokestatic 39, 3) := by decide +kernel
theorem dX4_charge_8 : decode cX4_charge 8 = .ok (.ifCond .eq 7, 3) := by decide +kernel
theorem dX4_charge_11 : decode cX4_charge 11 = .ok (.iconst 0, 1) := by decide +kernel
theorem dX4_charge_12 : decode cX4_charge 12 = .ok (.goto 4, 3) := by decide +kernel
theorem dX4_charge_15 : decode cX4_charge 15 = .ok (.iconst 1, 1) := by decide +kernel
theorem dX4_charge_16 : decode cX4_charge 16 = .ok (.putfield 35, 3) := by decide +kernel
theorem dX4_charge_19 : decode cX4_charge 19 = .ok (.aload_n 0, 1) := by decide +kernel
theorem dX4_charge_20 : decode cX4_charge 20 = .ok (.getfield 35, 3) := by decide +kernel
theorem dX4_charge_23 : decode cX4_charge 23 = .ok (.ifCond .le 5, 3) := by decide +kernel
theorem dX4_charge_26 : decode cX4_charge 26 = .ok (.iconst 0, 1) := by decide +kernel
theorem dX4_charge_27 : decode cX4_charge 27 = .ok (.ireturn, 1) := by decide +kernel
theorem dX4_charge_28 : decode cX4_charge 28 = .ok (.aload_n 0, 1) := by decide +kernel
theorem dX4_charge_29 : decode cX4_charge 29 = .ok (.invokevirtual 178, 3) := by decide +kernel
theorem dX4_charge_32 : decode cX4_charge 32 = .ok (.aload_n 0, 1) := by decide +kernel
theorem dX4_charge_33 : decode cX4_charge 33 = .ok (.iload_n 1, 1) := by decide +kernel
theorem dX4_charge_34 : decode cX4_charge 34 = .ok (.invokevirtual 190, 3) := by decide +kernel
theorem dX4_charge_37 : decode cX4_charge 37 = .ok (.ireturn, 1) := by decide +kernel
theorem dX4_draw_0 : decode cX4_draw 0 = .ok (.aload_n 0, 1) := by decide +kernel
theorem dX4_draw_1 : decode cX4_draw 1 = .ok (.iload_n 1, 1) := by decide +kernel
theorem dX4_draw_2 : decode cX4_draw 2 = .ok (.iconst 1, 1) := by decide +kernel
theorem dX4_draw_3 : decode cX4_draw 3 = .ok (.bipush 99, 2) := by decide +kernel
theorem dX4_draw_5 : decode cX4_draw 5 = .ok (.invokestatic 39, 3) := by decide +kernel
theorem dX4_draw_8 : decode cX4_draw 8 = .ok (.ifCond .eq 7, 3) := by decide +kernel
theorem dX4_draw_11 : decode cX4_draw 11 = .ok (.iconst 0, 1) := by decide +kernel
theorem dX4_draw_12 : decode cX4_draw 12 = .ok (.goto 4, 3) := by decide +kernel
theorem dX4_draw_15 : decode cX4_draw 15 = .ok (.iconst 1, 1) := by decide +kernel
theorem dX4_draw_16 : decode cX4_draw 16 = .ok (.putfield 35, 3) := by decide +kernel
theorem dX4_draw_19 : decode cX4_draw 19 = .ok (.aload_n 0, 1) := by decide +kernel
theorem dX4_draw_20 : decode cX4_draw 20 = .ok (.getfield 35, 3) := by decide +kernel
theorem dX4_draw_23 : decode cX4_draw 23 = .ok (.ifCond .le 5, 3) := by decide +kernel
theorem dX4_draw_26 : decode cX4_draw 26 = .ok (.iconst 0, 1) := by decide +kernel
theorem dX4_draw_27 : decode cX4_draw 27 = .ok (.ireturn, 1) := by decide +kernel
theorem dX4_draw_28 : decode cX4_draw 28 = .ok (.aload_n 0, 1) := by decide +kernel
theorem dX4_draw_29 : decode cX4_draw 29 = .ok (.invokevirtual 150, 3) := by decide +kernel
theorem dX4_draw_32 : decode cX4_draw 32 = .ok (.aload_n 0, 1) := by decide +kernel
theorem dX4_draw_33 : decode cX4_draw 33 = .ok (.iload_n 1, 1) := by decide +kernel
theorem dX4_draw_34 : decode cX4_draw 34 = .ok (.invokevirtual 193, 3) := by decide +kernel
theorem dX4_draw_37 : decode cX4_draw 37 = .ok (.istore_n 2, 1) := by decide +kernel
theorem dX4_draw_38 : decode cX4_draw 38 = .ok (.aload_n 0, 1) := by decide +kernel
theorem dX4_draw_39 : decode cX4_draw 39 = .ok (.iload_n 2, 1) := by decide +kernel
theorem dX4_draw_40 : decode cX4_draw 40 = .ok (.ifCond .ne 7, 3) := by decide +kernel
theorem dX4_draw_43 : decode cX4_draw 43 = .ok (.iconst 2, 1) := by decide +kernel
theorem dX4_draw_44 : decode cX4_draw 44 = .ok (.goto 4, 3) := by decide +kernel
theorem dX4_draw_47 : decode cX4_draw 47 = .ok (.iconst 0, 1) := by decide +kernel
theorem dX4_draw_48 : decode cX4_draw 48 = .ok (.putfield 35, 3) := by decide +kernel
theorem dX4_draw_51 : decode cX4_draw 51 = .ok (.aload_n 0, 1) := by decide +kernel
theorem dX4_draw_52 : decode cX4_draw 52 = .ok (.getfield 35, 3) := by decide +kernel
theorem dX4_draw_55 : decode cX4_draw 55 = .ok (.ifCond .le 5, 3) := by decide +kernel
theorem dX4_draw_58 : decode cX4_draw 58 = .ok (.iconst 0, 1) := by decide +kernel
theorem dX4_draw_59 : decode cX4_draw 59 = .ok (.ireturn, 1) := by decide +kernel
theorem dX4_draw_60 : decode cX4_draw 60 = .ok (.iconst 0, 1) := by decide +kernel
theorem dX4_draw_61 : decode cX4_draw 61 = .ok (.istore_n 3, 1) := by decide +kernel
theorem dX4_draw_62 : decode cX4_draw 62 = .ok (.iload_n 3, 1) := by decide +kernel
theorem dX4_draw_63 : decode cX4_draw 63 = .ok (.bipush 107, 2) := by decide +kernel
theorem dX4_draw_65 : decode cX4_draw 65 = .ok (.if_icmp .ge 21, 3) := by decide +kernel
theorem dX4_draw_68 : decode cX4_draw 68 = .ok (.aload_n 0, 1) := by decide +kernel
theorem dX4_draw_69 : decode cX4_draw 69 = .ok (.getfield 32, 3) := by decide +kernel
theorem dX4_draw_72 : decode cX4_draw 72 = .ok (.iload_n 3, 1) := by decide +kernel
theorem dX4_draw_73 : decode cX4_draw 73 = .ok (.aload_n 0, 1) := by decide +kernel
theorem dX4_draw_74 : decode cX4_draw 74 = .ok (.getfield 7, 3) := by decide +kernel
theorem dX4_draw_77 : decode cX4_draw 77 = .ok (.iload_n 3, 1) := by decide +kernel
theorem dX4_draw_78 : decode cX4_draw 78 = .ok (.iaload, 1) := by decide +kernel
theorem dX4_draw_79 : decode cX4_draw 79 = .ok (.iastore, 1) := by decide +kernel
theorem dX4_draw_80 : decode cX4_draw 80 = .ok (.iinc 3 1, 3) := by decide +kernel
theorem dX4_draw_83 : decode cX4_draw 83 = .ok (.goto (-21), 3) := by decide +kernel
theorem dX4_draw_86 : decode cX4_draw 86 = .ok (.aload_n 0, 1) := by decide +kernel
theorem dX4_draw_87 : decode cX4_draw 87 = .ok (.invokevirtual 157, 3) := by decide +kernel
theorem dX4_draw_90 : decode cX4_draw 90 = .ok (.aload_n 0, 1) := by decide +kernel
theorem dX4_draw_91 : decode cX4_draw 91 = .ok (.invokevirtual 178, 3) := by decide +kernel
theorem dX4_draw_94 : decode cX4_draw 94 = .ok (.iconst 0, 1) := by decide +kernel
theorem dX4_draw_95 : decode cX4_draw 95 = .ok (.istore_n 3, 1) := by decide +kernel
theorem dX4_draw_96 : decode cX4_draw 96 = .ok (.iload_n 3, 1) := by decide +kernel
theorem dX4_draw_97 : decode cX4_draw 97 = .ok (.bipush 107, 2) := by decide +kernel
theorem dX4_draw_99 : decode cX4_draw 99 = .ok (.if_icmp .ge 21, 3) := by decide +kernel
theorem dX4_draw_102 : decode cX4_draw 102 = .ok (.aload_n 0, 1) := by decide +kernel
theorem dX4_draw_103 : decode cX4_draw 103 = .ok (.getfield 7, 3) := by decide +kernel
theorem dX4_draw_106 : decode cX4_draw 106 = .ok (.iload_n 3, 1) := by decide +kernel
theorem dX4_draw_107 : decode cX4_draw 107 = .ok (.aload_n 0, 1) := by decide +kernel
theorem dX4_draw_108 : decode cX4_draw 108 = .ok (.getfield 32, 3) := by decide +kernel
theorem dX4_draw_111 : decode cX4_draw 111 = .ok (.iload_n 3, 1) := by decide +kernel
theorem dX4_draw_112 : decode cX4_draw 112 = .ok (.iaload, 1) := by decide +kernel
theorem dX4_draw_113 : decode cX4_draw 113 = .ok (.iastore, 1) := by decide +kernel
theorem dX4_draw_114 : decode cX4_draw 114 = .ok (.iinc 3 1, 3) := by decide +kernel
theorem dX4_draw_117 : decode cX4_draw 117 = .ok (.goto (-21), 3) := by decide +kernel
theorem dX4_draw_120 : decode cX4_draw 120 = .ok (.iload_n 2, 1) := by decide +kernel
theorem dX4_draw_121 : decode cX4_draw 121 = .ok (.ireturn, 1) := by decide +kernel
theorem dX4_pass_0 : decode cX4_pass 0 = .ok (.aload_n 0, 1) := by decide +kernel
theorem dX4_pass_1 : decode cX4_pass 1 = .ok (.iload_n 1, 1) := by decide +kernel
theorem dX4_pass_2 : decode cX4_pass 2 = .ok (.iconst 1, 1) := by decide +kernel
theorem dX4_pass_3 : decode cX4_pass 3 = .ok (.bipush 50, 2) := by decide +kernel
theorem dX4_pass_5 : decode cX4_pass 5 = .ok (.invokestatic 39, 3) := by decide +kernel
theorem dX4_pass_8 : decode cX4_pass 8 = .ok (.ifCond .eq 7, 3) := by decide +kernel
theorem dX4_pass_11 : decode cX4_pass 11 = .ok (.iconst 0, 1) := by decide +kernel
theorem dX4_pass_12 : decode cX4_pass 12 = .ok (.goto 4, 3) := by decide +kernel
theorem dX4_pass_15 : decode cX4_pass 15 = .ok (.iconst 1, 1) := by decide +kernel
theorem dX4_pass_16 : decode cX4_pass 16 = .ok (.putfield 35, 3) := by decide +kernel
theorem dX4_pass_19 : decode cX4_pass 19 = .ok (.aload_n 0, 1) := by decide +kernel
theorem dX4_pass_20 : decode cX4_pass 20 = .ok (.getfield 35, 3) := by decide +kernel
theorem dX4_pass_23 : decode cX4_pass 23 = .ok (.ifCond .le 5, 3) := by decide +kernel
theorem dX4_pass_26 : decode cX4_pass 26 = .ok (.iconst 0, 1) := by decide +kernel
theorem dX4_pass_27 : decode cX4_pass 27 = .ok (.ireturn, 1) := by decide +kernel
theorem dX4_pass_28 : decode cX4_pass 28 = .ok (.aload_n 0, 1) := by decide +kernel
theorem dX4_pass_29 : decode cX4_pass 29 = .ok (.invokevirtual 178, 3) := by decide +kernel
theorem dX4_pass_32 : decode cX4_pass 32 = .ok (.aload_n 0, 1) := by decide +kernel
theorem dX4_pass_33 : decode cX4_pass 33 = .ok (.iload_n 1, 1) := by decide +kernel
theorem dX4_pass_34 : decode cX4_pass 34 = .ok (.invokevirtual 196, 3) := by decide +kernel
theorem dX4_pass_37 : decode cX4_pass 37 = .ok (.ireturn, 1) := by decide +kernel
theorem dX4_undo_0 : decode cX4_undo 0 = .ok (.aload_n 0, 1) := by decide +kernel
theorem dX4_undo_1 : decode cX4_undo 1 = .ok (.aload_n 0, 1) := by decide +kernel
theorem dX4_undo_2 : decode cX4_undo 2 = .ok (.getfield 47, 3) := by decide +kernel
theorem dX4_undo_5 : decode cX4_undo 5 = .ok (.ifCond .ne 7, 3) := by decide +kernel
theorem dX4_undo_8 : decode cX4_undo 8 = .ok (.iconst 1, 1) := by decide +kernel
theorem dX4_undo_9 : decode cX4_undo 9 = .ok (.goto 4, 3) := by decide +kernel
theorem dX4_undo_12 : decode cX4_undo 12 = .ok (.iconst 0, 1) := by decide +kernel
theorem dX4_undo_13 : decode cX4_undo 13 = .ok (.putfield 35, 3) := by decide +kernel
theorem dX4_undo_16 : decode cX4_undo 16 = .ok (.aload_n 0, 1) := by decide +kernel
theorem dX4_undo_17 : decode cX4_undo 17 = .ok (.getfield 35, 3) := by decide +kernel
theorem dX4_undo_20 : decode cX4_undo 20 = .ok (.ifCond .le 5, 3) := by decide +kernel
theorem dX4_undo_23 : decode cX4_undo 23 = .ok (.iconst 0, 1) := by decide +kernel
theorem dX4_undo_24 : decode cX4_undo 24 = .ok (.ireturn, 1) := by decide +kernel
theorem dX4_undo_25 : decode cX4_undo 25 = .ok (.aload_n 0, 1) := by decide +kernel
theorem dX4_undo_26 : decode cX4_undo 26 = .ok (.dup, 1) := by decide +kernel
theorem dX4_undo_27 : decode cX4_undo 27 = .ok (.getfield 47, 3) := by decide +kernel
theorem dX4_undo_30 : decode cX4_undo 30 = .ok (.iconst 1, 1) := by decide +kernel
theorem dX4_undo_31 : decode cX4_undo 31 = .ok (.isub, 1) := by decide +kernel
theorem dX4_undo_32 : decode cX4_undo 32 = .ok (.putfield 47, 3) := by decide +kernel
theorem dX4_undo_35 : decode cX4_undo 35 = .ok (.iconst 0, 1) := by decide +kernel
theorem dX4_undo_36 : decode cX4_undo 36 = .ok (.istore_n 1, 1) := by decide +kernel
theorem dX4_undo_37 : decode cX4_undo 37 = .ok (.iload_n 1, 1) := by decide +kernel
theorem dX4_undo_38 : decode cX4_undo 38 = .ok (.bipush 107, 2) := by decide +kernel
theorem dX4_undo_40 : decode cX4_undo 40 = .ok (.if_icmp .ge 29, 3) := by decide +kernel
theorem dX4_undo_43 : decode cX4_undo 43 = .ok (.aload_n 0, 1) := by decide +kernel
theorem dX4_undo_44 : decode cX4_undo 44 = .ok (.getfield 7, 3) := by decide +kernel
theorem dX4_undo_47 : decode cX4_undo 47 = .ok (.iload_n 1, 1) := by decide +kernel
theorem dX4_undo_48 : decode cX4_undo 48 = .ok (.aload_n 0, 1) := by decide +kernel
theorem dX4_undo_49 : decode cX4_undo 49 = .ok (.getfield 23, 3) := by decide +kernel
theorem dX4_undo_52 : decode cX4_undo 52 = .ok (.bipush 107, 2) := by decide +kernel
theorem dX4_undo_54 : decode cX4_undo 54 = .ok (.aload_n 0, 1) := by decide +kernel
theorem dX4_undo_55 : decode cX4_undo 55 = .ok (.getfield 47, 3) := by decide +kernel
theorem dX4_undo_58 : decode cX4_undo 58 = .ok (.imul, 1) := by decide +kernel
theorem dX4_undo_59 : decode cX4_undo 59 = .ok (.iload_n 1, 1) := by decide +kernel
theorem dX4_undo_60 : decode cX4_undo 60 = .ok (.iadd, 1) := by decide +kernel
theorem dX4_undo_61 : decode cX4_undo 61 = .ok (.iaload, 1) := by decide +kernel
theorem dX4_undo_62 : decode cX4_undo 62 = .ok (.iastore, 1) := by decide +kernel
theorem dX4_undo_63 : decode cX4_undo 63 = .ok (.iinc 1 1, 3) := by decide +kernel
theorem dX4_undo_66 : decode cX4_undo 66 = .ok (.goto (-29), 3) := by decide +kernel
theorem dX4_undo_69 : decode cX4_undo 69 = .ok (.aload_n 0, 1) := by decide +kernel
theorem dX4_undo_70 : decode cX4_undo 70 = .ok (.getfield 47, 3) := by decide +kernel
theorem dX4_undo_73 : decode cX4_undo 73 = .ok (.ireturn, 1) := by decide +kernel
theorem dX4_holds_0 : decode cX4_holds 0 = .ok (.aload_n 0, 1) := by decide +kernel
theorem dX4_holds_1 : decode cX4_holds 1 = .ok (.aload_n 0, 1) := by decide +kernel
theorem dX4_holds_2 : decode cX4_holds 2 = .ok (.iload_n 1, 1) := by decide +kernel
theorem dX4_holds_3 : decode cX4_holds 3 = .ok (.invokevirtual 135, 3) := by decide +kernel
theorem dX4_holds_6 : decode cX4_holds 6 = .ok (.ifCond .eq 7, 3) := by decide +kernel
theorem dX4_holds_9 : decode cX4_holds 9 = .ok (.iconst 0, 1) := by decide +kernel
theorem dX4_holds_10 : decode cX4_holds 10 = .ok (.goto 4, 3) := by decide +kernel
theorem dX4_holds_13 : decode cX4_holds 13 = .ok (.iconst 1, 1) := by decide +kernel
theorem dX4_holds_14 : decode cX4_holds 14 = .ok (.putfield 35, 3) := by decide +kernel
theorem dX4_holds_17 : decode cX4_holds 17 = .ok (.aload_n 0, 1) := by decide +kernel
theorem dX4_holds_18 : decode cX4_holds 18 = .ok (.getfield 35, 3) := by decide +kernel
theorem dX4_holds_21 : decode cX4_holds 21 = .ok (.ifCond .le 5, 3) := by decide +kernel
theorem dX4_holds_24 : decode cX4_holds 24 = .ok (.iconst 0, 1) := by decide +kernel
theorem dX4_holds_25 : decode cX4_holds 25 = .ok (.ireturn, 1) := by decide +kernel
theorem dX4_holds_26 : decode cX4_holds 26 = .ok (.aload_n 0, 1) := by decide +kernel
theorem dX4_holds_27 : decode cX4_holds 27 = .ok (.invokevirtual 150, 3) := by decide +kernel
theorem dX4_holds_30 : decode cX4_holds 30 = .ok (.iconst 0, 1) := by decide +kernel
theorem dX4_holds_31 : decode cX4_holds 31 = .ok (.istore_n 2, 1) := by decide +kernel
theorem dX4_holds_32 : decode cX4_holds 32 = .ok (.iload_n 2, 1) := by decide +kernel
theorem dX4_holds_33 : decode cX4_holds 33 = .ok (.bipush 100, 2) := by decide +kernel
theorem dX4_holds_35 : decode cX4_holds 35 = .ok (.if_icmp .ge 22, 3) := by decide +kernel
theorem dX4_holds_38 : decode cX4_holds 38 = .ok (.aload_n 0, 1) := by decide +kernel
theorem dX4_holds_39 : decode cX4_holds 39 = .ok (.iload_n 1, 1) := by decide +kernel
theorem dX4_holds_40 : decode cX4_holds 40 = .ok (.invokevirtual 84, 3) := by decide +kernel
theorem dX4_holds_43 : decode cX4_holds 43 = .ok (.ifCond .eq 14, 3) := by decide +kernel
theorem dX4_holds_46 : decode cX4_holds 46 = .ok (.aload_n 0, 1) := by decide +kernel
theorem dX4_holds_47 : decode cX4_holds 47 = .ok (.invokevirtual 91, 3) := by decide +kernel
theorem dX4_holds_50 : decode cX4_holds 50 = .ok (.pop, 1) := by decide +kernel
theorem dX4_holds_51 : decode cX4_holds 51 = .ok (.iinc 2 1, 3) := by decide +kernel
theorem dX4_holds_54 : decode cX4_holds 54 = .ok (.goto (-22), 3) := by decide +kernel
theorem dX4_holds_57 : decode cX4_holds 57 = .ok (.aload_n 0, 1) := by decide +kernel
theorem dX4_holds_58 : decode cX4_holds 58 = .ok (.iload_n 1, 1) := by decide +kernel
theorem dX4_holds_59 : decode cX4_holds 59 = .ok (.invokevirtual 84, 3) := by decide +kernel
theorem dX4_holds_62 : decode cX4_holds 62 = .ok (.istore_n 3, 1) := by decide +kernel
theorem dX4_holds_63 : decode cX4_holds 63 = .ok (.aload_n 0, 1) := by decide +kernel
theorem dX4_holds_64 : decode cX4_holds 64 = .ok (.invokevirtual 157, 3) := by decide +kernel
theorem dX4_holds_67 : decode cX4_holds 67 = .ok (.iload_n 3, 1) := by decide +kernel
theorem dX4_holds_68 : decode cX4_holds 68 = .ok (.ifCond .eq 8, 3) := by decide +kernel
theorem dX4_holds_71 : decode cX4_holds 71 = .ok (.bipush (-9), 2) := by decide +kernel
theorem dX4_holds_73 : decode cX4_holds 73 = .ok (.goto 4, 3) := by decide +kernel
theorem dX4_holds_76 : decode cX4_holds 76 = .ok (.iload_n 2, 1) := by decide +kernel
theorem dX4_holds_77 : decode cX4_holds 77 = .ok (.ireturn, 1) := by decide +kernel
theorem dX4_draws_0 : decode cX4_draws 0 = .ok (.aload_n 0, 1) := by decide +kernel
theorem dX4_draws_1 : decode cX4_draws 1 = .ok (.iload_n 1, 1) := by decide +kernel
theorem dX4_draws_2 : decode cX4_draws 2 = .ok (.iconst 1, 1) := by decide +kernel
theorem dX4_draws_3 : decode cX4_draws 3 = .ok (.bipush 99, 2) := by decide +kernel
theorem dX4_draws_5 : decode cX4_draws 5 = .ok (.invokestatic 39, 3) := by decide +kernel
theorem dX4_draws_8 : decode cX4_draws 8 = .ok (.ifCond .eq 7, 3) := by decide +kernel
theorem dX4_draws_11 : decode cX4_draws 11 = .ok (.iconst 0, 1) := by decide +kernel
theorem dX4_draws_12 : decode cX4_draws 12 = .ok (.goto 4, 3) := by decide +kernel
theorem dX4_draws_15 : decode cX4_draws 15 = .ok (.iconst 1, 1) := by decide +kernel
theorem dX4_draws_16 : decode cX4_draws 16 = .ok (.putfield 35, 3) := by decide +kernel
theorem dX4_draws_19 : decode cX4_draws 19 = .ok (.aload_n 0, 1) := by decide +kernel
theorem dX4_draws_20 : decode cX4_draws 20 = .ok (.getfield 35, 3) := by decide +kernel
theorem dX4_draws_23 : decode cX4_draws 23 = .ok (.ifCond .le 5, 3) := by decide +kernel
theorem dX4_draws_26 : decode cX4_draws 26 = .ok (.iconst 0, 1) := by decide +kernel
theorem dX4_draws_27 : decode cX4_draws 27 = .ok (.ireturn, 1) := by decide +kernel
theorem dX4_draws_28 : decode cX4_draws 28 = .ok (.aload_n 0, 1) := by decide +kernel
theorem dX4_draws_29 : decode cX4_draws 29 = .ok (.invokevirtual 150, 3) := by decide +kernel
theorem dX4_draws_32 : decode cX4_draws 32 = .ok (.iconst 0, 1) := by decide +kernel
theorem dX4_draws_33 : decode cX4_draws 33 = .ok (.istore_n 2, 1) := by decide +kernel
theorem dX4_draws_34 : decode cX4_draws 34 = .ok (.aload_n 0, 1) := by decide +kernel
theorem dX4_draws_35 : decode cX4_draws 35 = .ok (.iload_n 1, 1) := by decide +kernel
theorem dX4_draws_36 : decode cX4_draws 36 = .ok (.invokevirtual 193, 3) := by decide +kernel
theorem dX4_draws_39 : decode cX4_draws 39 = .ok (.ifCond .le 9, 3) := by decide +kernel
theorem dX4_draws_42 : decode cX4_draws 42 = .ok (.iinc 2 1, 3) := by decide +kernel
theorem dX4_draws_45 : decode cX4_draws 45 = .ok (.goto (-11), 3) := by decide +kernel
theorem dX4_draws_48 : decode cX4_draws 48 = .ok (.aload_n 0, 1) := by decide +kernel
theorem dX4_draws_49 : decode cX4_draws 49 = .ok (.invokevirtual 157, 3) := by decide +kernel
theorem dX4_draws_52 : decode cX4_draws 52 = .ok (.iload_n 2, 1) := by decide +kernel
theorem dX4_draws_53 : decode cX4_draws 53 = .ok (.ireturn, 1) := by decide +kernel
theorem dX4_most_0 : decode cX4_most 0 = .ok (.aload_n 0, 1) := by decide +kernel
theorem dX4_most_1 : decode cX4_most 1 = .ok (.iconst 0, 1) := by decide +kernel
theorem dX4_most_2 : decode cX4_most 2 = .ok (.putfield 35, 3) := by decide +kernel
theorem dX4_most_5 : decode cX4_most 5 = .ok (.iconst 0, 1) := by decide +kernel
theorem dX4_most_6 : decode cX4_most 6 = .ok (.istore_n 1, 1) := by decide +kernel
theorem dX4_most_7 : decode cX4_most 7 = .ok (.aload_n 0, 1) := by decide +kernel
theorem dX4_most_8 : decode cX4_most 8 = .ok (.invokevirtual 150, 3) := by decide +kernel
theorem dX4_most_11 : decode cX4_most 11 = .ok (.iconst 1, 1) := by decide +kernel
theorem dX4_most_12 : decode cX4_most 12 = .ok (.istore_n 2, 1) := by decide +kernel
theorem dX4_most_13 : decode cX4_most 13 = .ok (.iload_n 2, 1) := by decide +kernel
theorem dX4_most_14 : decode cX4_most 14 = .ok (.bipush 100, 2) := by decide +kernel
theorem dX4_most_16 : decode cX4_most 16 = .ok (.if_icmp .ge 27, 3) := by decide +kernel
theorem dX4_most_19 : decode cX4_most 19 = .ok (.aload_n 0, 1) := by decide +kernel
theorem dX4_most_20 : decode cX4_most 20 = .ok (.iload_n 2, 1) := by decide +kernel
theorem dX4_most_21 : decode cX4_most 21 = .ok (.invokevirtual 193, 3) := by decide +kernel
theorem dX4_most_24 : decode cX4_most 24 = .ok (.ifCond .le 7, 3) := by decide +kernel
theorem dX4_most_27 : decode cX4_most 27 = .ok (.iload_n 2, 1) := by decide +kernel
theorem dX4_most_28 : decode cX4_most 28 = .ok (.goto 4, 3) := by decide +kernel
theorem dX4_most_31 : decode cX4_most 31 = .ok (.iload_n 1, 1) := by decide +kernel
theorem dX4_most_32 : decode cX4_most 32 = .ok (.istore_n 1, 1) := by decide +kernel
theorem dX4_most_33 : decode cX4_most 33 = .ok (.aload_n 0, 1) := by decide +kernel
theorem dX4_most_34 : decode cX4_most 34 = .ok (.invokevirtual 157, 3) := by decide +kernel
theorem dX4_most_37 : decode cX4_most 37 = .ok (.iinc 2 1, 3) := by decide +kernel
theorem dX4_most_40 : decode cX4_most 40 = .ok (.goto (-27), 3) := by decide +kernel
theorem dX4_most_43 : decode cX4_most 43 = .ok (.iload_n 1, 1) := by decide +kernel
theorem dX4_most_44 : decode cX4_most 44 = .ok (.ireturn, 1) := by decide +kernel
theorem dX4_bestLender_0 : decode cX4_bestLender 0 = .ok (.aload_n 0, 1) := by decide +kernel
theorem dX4_bestLender_1 : decode cX4_bestLender 1 = .ok (.aload_n 0, 1) := by decide +kernel
theorem dX4_bestLender_2 : decode cX4_bestLender 2 = .ok (.iload_n 1, 1) := by decide +kernel
theorem dX4_bestLender_3 : decode cX4_bestLender 3 = .ok (.invokevirtual 135, 3) := by decide +kernel
theorem dX4_bestLender_6 : decode cX4_bestLender 6 = .ok (.ifCond .ne 7, 3) := by decide +kernel
theorem dX4_bestLender_9 : decode cX4_bestLender 9 = .ok (.iconst 1, 1) := by decide +kernel
theorem dX4_bestLender_10 : decode cX4_bestLender 10 = .ok (.goto 18, 3) := by decide +kernel
theorem dX4_bestLender_13 : decode cX4_bestLender 13 = .ok (.iload_n 2, 1) := by decide +kernel
theorem dX4_bestLender_14 : decode cX4_bestLender 14 = .ok (.iconst 1, 1) := by decide +kernel
theorem dX4_bestLender_15 : decode cX4_bestLender 15 = .ok (.bipush 99, 2) := by decide +kernel
theorem dX4_bestLender_17 : decode cX4_bestLender 17 = .ok (.invokestatic 39, 3) := by decide +kernel
theorem dX4_bestLender_20 : decode cX4_bestLender 20 = .ok (.ifCond .ne 7, 3) := by decide +kernel
theorem dX4_bestLender_23 : decode cX4_bestLender 23 = .ok (.iconst 2, 1) := by decide +kernel
theorem dX4_bestLender_24 : decode cX4_bestLender 24 = .ok (.goto 4, 3) := by decide +kernel
theorem dX4_bestLender_27 : decode cX4_bestLender 27 = .ok (.iconst 0, 1) := by decide +kernel
theorem dX4_bestLender_28 : decode cX4_bestLender 28 = .ok (.putfield 35, 3) := by decide +kernel
theorem dX4_bestLender_31 : decode cX4_bestLender 31 = .ok (.aload_n 0, 1) := by decide +kernel
theorem dX4_bestLender_32 : decode cX4_bestLender 32 = .ok (.getfield 35, 3) := by decide +kernel
theorem dX4_bestLender_35 : decode cX4_bestLender 35 = .ok (.ifCond .le 5, 3) := by decide +kernel
theorem dX4_bestLender_38 : decode cX4_bestLender 38 = .ok (.iconst 0, 1) := by decide +kernel
theorem dX4_bestLender_39 : decode cX4_bestLender 39 = .ok (.ireturn, 1) := by decide +kernel
theorem dX4_bestLender_40 : decode cX4_bestLender 40 = .ok (.bipush (-9), 2) := by decide +kernel
theorem dX4_bestLender_42 : decode cX4_bestLender 42 = .ok (.istore_n 3, 1) := by decide +kernel
theorem dX4_bestLender_43 : decode cX4_bestLender 43 = .ok (.iconst 0, 1) := by decide +kernel
theorem dX4_bestLender_44 : decode cX4_bestLender 44 = .ok (.istore 4, 2) := by decide +kernel
theorem dX4_bestLender_46 : decode cX4_bestLender 46 = .ok (.iconst 0, 1) := by decide +kernel
theorem dX4_bestLender_47 : decode cX4_bestLender 47 = .ok (.istore 5, 2) := by decide +kernel
theorem dX4_bestLender_49 : decode cX4_bestLender 49 = .ok (.iload 5, 2) := by decide +kernel
theorem dX4_bestLender_51 : decode cX4_bestLender 51 = .ok (.aload_n 0, 1) := by decide +kernel
theorem dX4_bestLender_52 : decode cX4_bestLender 52 = .ok (.getfield 7, 3) := by decide +kernel
theorem dX4_bestLender_55 : decode cX4_bestLender 55 = .ok (.iconst 1, 1) := by decide +kernel
theorem dX4_bestLender_56 : decode cX4_bestLender 56 = .ok (.iaload, 1) := by decide +kernel
theorem dX4_bestLender_57 : decode cX4_bestLender 57 = .ok (.if_icmp .ge 125, 3) := by decide +kernel
theorem dX4_bestLender_60 : decode cX4_bestLender 60 = .ok (.aload_n 0, 1) := by decide +kernel
theorem dX4_bestLender_61 : decode cX4_bestLender 61 = .ok (.iload_n 1, 1) := by decide +kernel
theorem dX4_bestLender_62 : decode cX4_bestLender 62 = .ok (.invokevirtual 84, 3) := by decide +kernel
theorem dX4_bestLender_65 : decode cX4_bestLender 65 = .ok (.ifCond .eq 117, 3) := by decide +kernel
theorem dX4_bestLender_68 : decode cX4_bestLender 68 = .ok (.aload_n 0, 1) := by decide +kernel
theorem dX4_bestLender_69 : decode cX4_bestLender 69 = .ok (.iload_n 1, 1) := by decide +kernel
theorem dX4_bestLender_70 : decode cX4_bestLender 70 = .ok (.iconst 1, 1) := by decide +kernel
theorem dX4_bestLender_71 : decode cX4_bestLender 71 = .ok (.invokevirtual 43, 3) := by decide +kernel
theorem dX4_bestLender_74 : decode cX4_bestLender 74 = .ok (.iload_n 2, 1) := by decide +kernel
theorem dX4_bestLender_75 : decode cX4_bestLender 75 = .ok (.iadd, 1) := by decide +kernel
theorem dX4_bestLender_76 : decode cX4_bestLender 76 = .ok (.aload_n 0, 1) := by decide +kernel
theorem dX4_bestLender_77 : decode cX4_bestLender 77 = .ok (.iload_n 1, 1) := by decide +kernel
theorem dX4_bestLender_78 : decode cX4_bestLender 78 = .ok (.iconst 0, 1) := by decide +kernel
theorem dX4_bestLender_79 : decode cX4_bestLender 79 = .ok (.invokevirtual 43, 3) := by decide +kernel
theorem dX4_bestLender_82 : decode cX4_bestLender 82 = .ok (.if_icmp .gt 100, 3) := by decide +kernel
theorem dX4_bestLender_85 : decode cX4_bestLender 85 = .ok (.iload_n 2, 1) := by decide +kernel
theorem dX4_bestLender_86 : decode cX4_bestLender 86 = .ok (.iload 5, 2) := by decide +kernel
theorem dX4_bestLender_88 : decode cX4_bestLender 88 = .ok (.iload_n 1, 1) := by decide +kernel
theorem dX4_bestLender_89 : decode cX4_bestLender 89 = .ok (.invokestatic 98, 3) := by decide +kernel
theorem dX4_bestLender_92 : decode cX4_bestLender 92 = .ok (.istore 6, 2) := by decide +kernel
theorem dX4_bestLender_94 : decode cX4_bestLender 94 = .ok (.iload 5, 2) := by decide +kernel
theorem dX4_bestLender_96 : decode cX4_bestLender 96 = .ok (.iload_n 1, 1) := by decide +kernel
theorem dX4_bestLender_97 : decode cX4_bestLender 97 = .ok (.if_icmp .eq 28, 3) := by decide +kernel
theorem dX4_bestLender_100 : decode cX4_bestLender 100 = .ok (.aload_n 0, 1) := by decide +kernel
theorem dX4_bestLender_101 : decode cX4_bestLender 101 = .ok (.iload 5, 2) := by decide +kernel
theorem dX4_bestLender_103 : decode cX4_bestLender 103 = .ok (.invokevirtual 84, 3) := by decide +kernel
theorem dX4_bestLender_106 : decode cX4_bestLender 106 = .ok (.ifCond .eq 19, 3) := by decide +kernel
theorem dX4_bestLender_109 : decode cX4_bestLender 109 = .ok (.aload_n 0, 1) := by decide +kernel
theorem dX4_bestLender_110 : decode cX4_bestLender 110 = .ok (.iload 5, 2) := by decide +kernel
theorem dX4_bestLender_112 : decode cX4_bestLender 112 = .ok (.iconst 1, 1) := by decide +kernel
theorem dX4_bestLender_113 : decode cX4_bestLender 113 = .ok (.invokevirtual 43, 3) := by decide +kernel
theorem dX4_bestLender_116 : decode cX4_bestLender 116 = .ok (.iload 6, 2) := by decide +kernel
theorem dX4_bestLender_118 : decode cX4_bestLender 118 = .ok (.if_icmp .lt 7, 3) := by decide +kernel
theorem dX4_bestLender_121 : decode cX4_bestLender 121 = .ok (.iconst 1, 1) := by decide +kernel
theorem dX4_bestLender_122 : decode cX4_bestLender 122 = .ok (.goto 4, 3) := by decide +kernel
theorem dX4_bestLender_125 : decode cX4_bestLender 125 = .ok (.iconst 0, 1) := by decide +kernel
theorem dX4_bestLender_126 : decode cX4_bestLender 126 = .ok (.istore 7, 2) := by decide +kernel
theorem dX4_bestLender_128 : decode cX4_bestLender 128 = .ok (.iload 7, 2) := by decide +kernel
theorem dX4_bestLender_130 : decode cX4_bestLender 130 = .ok (.ifCond .eq 46, 3) := by decide +kernel
theorem dX4_bestLender_133 : decode cX4_bestLender 133 = .ok (.iload_n 3, 1) := by decide +kernel
theorem dX4_bestLender_134 : decode cX4_bestLender 134 = .ok (.bipush (-9), 2) := by decide +kernel
theorem dX4_bestLender_136 : decode cX4_bestLender 136 = .ok (.if_icmp .eq 33, 3) := by decide +kernel
theorem dX4_bestLender_139 : decode cX4_bestLender 139 = .ok (.iload 6, 2) := by decide +kernel
theorem dX4_bestLender_141 : decode cX4_bestLender 141 = .ok (.iload 4, 2) := by decide +kernel
theorem dX4_bestLender_143 : decode cX4_bestLender 143 = .ok (.if_icmp .lt 26, 3) := by decide +kernel
theorem dX4_bestLender_146 : decode cX4_bestLender 146 = .ok (.iload 6, 2) := by decide +kernel
theorem dX4_bestLender_148 : decode cX4_bestLender 148 = .ok (.iload 4, 2) := by decide +kernel
theorem dX4_bestLender_150 : decode cX4_bestLender 150 = .ok (.if_icmp .ne 26, 3) := by decide +kernel
theorem dX4_bestLender_153 : decode cX4_bestLender 153 = .ok (.aload_n 0, 1) := by decide +kernel
theorem dX4_bestLender_154 : decode cX4_bestLender 154 = .ok (.iload 5, 2) := by decide +kernel
theorem dX4_bestLender_156 : decode cX4_bestLender 156 = .ok (.iconst 1, 1) := by decide +kernel
theorem dX4_bestLender_157 : decode cX4_bestLender 157 = .ok (.invokevirtual 43, 3) := by decide +kernel
theorem dX4_bestLender_160 : decode cX4_bestLender 160 = .ok (.aload_n 0, 1) := by decide +kernel
theorem dX4_bestLender_161 : decode cX4_bestLender 161 = .ok (.iload_n 3, 1) := by decide +kernel
theorem dX4_bestLender_162 : decode cX4_bestLender 162 = .ok (.iconst 1, 1) := by decide +kernel
theorem dX4_bestLender_163 : decode cX4_bestLender 163 = .ok (.invokevirtual 43, 3) := by decide +kernel
theorem dX4_bestLender_166 : decode cX4_bestLender 166 = .ok (.if_icmp .le 10, 3) := by decide +kernel
theorem dX4_bestLender_169 : decode cX4_bestLender 169 = .ok (.iload 5, 2) := by decide +kernel
theorem dX4_bestLender_171 : decode cX4_bestLender 171 = .ok (.istore_n 3, 1) := by decide +kernel
theorem dX4_bestLender_172 : decode cX4_bestLender 172 = .ok (.iload 6, 2) := by decide +kernel
theorem dX4_bestLender_174 : decode cX4_bestLender 174 = .ok (.istore 4, 2) := by decide +kernel
theorem dX4_bestLender_176 : decode cX4_bestLender 176 = .ok (.iinc 5 1, 3) := by decide +kernel
theorem dX4_bestLender_179 : decode cX4_bestLender 179 = .ok (.goto (-130), 3) := by decide +kernel
theorem dX4_bestLender_182 : decode cX4_bestLender 182 = .ok (.iload_n 3, 1) := by decide +kernel
theorem dX4_bestLender_183 : decode cX4_bestLender 183 = .ok (.ireturn, 1) := by decide +kernel
theorem dX4_costs_0 : decode cX4_costs 0 = .ok (.aload_n 0, 1) := by decide +kernel
theorem dX4_costs_1 : decode cX4_costs 1 = .ok (.aload_n 0, 1) := by decide +kernel
theorem dX4_costs_2 : decode cX4_costs 2 = .ok (.iload_n 1, 1) := by decide +kernel
theorem dX4_costs_3 : decode cX4_costs 3 = .ok (.invokevirtual 175, 3) := by decide +kernel
theorem dX4_costs_6 : decode cX4_costs 6 = .ok (.ifCond .ne 7, 3) := by decide +kernel
theorem dX4_costs_9 : decode cX4_costs 9 = .ok (.iconst 1, 1) := by decide +kernel
theorem dX4_costs_10 : decode cX4_costs 10 = .ok (.goto 18, 3) := by decide +kernel
theorem dX4_costs_13 : decode cX4_costs 13 = .ok (.iload_n 2, 1) := by decide +kernel
theorem dX4_costs_14 : decode cX4_costs 14 = .ok (.iconst 1, 1) := by decide +kernel
theorem dX4_costs_15 : decode cX4_costs 15 = .ok (.bipush 50, 2) := by decide +kernel
theorem dX4_costs_17 : decode cX4_costs 17 = .ok (.invokestatic 39, 3) := by decide +kernel
theorem dX4_costs_20 : decode cX4_costs 20 = .ok (.ifCond .ne 7, 3) := by decide +kernel
theorem dX4_costs_23 : decode cX4_costs 23 = .ok (.iconst 2, 1) := by decide +kernel
theorem dX4_costs_24 : decode cX4_costs 24 = .ok (.goto 4, 3) := by decide +kernel
theorem dX4_costs_27 : decode cX4_costs 27 = .ok (.iconst 0, 1) := by decide +kernel
theorem dX4_costs_28 : decode cX4_costs 28 = .ok (.putfield 35, 3) := by decide +kernel
theorem dX4_costs_31 : decode cX4_costs 31 = .ok (.aload_n 0, 1) := by decide +kernel
theorem dX4_costs_32 : decode cX4_costs 32 = .ok (.getfield 35, 3) := by decide +kernel
theorem dX4_costs_35 : decode cX4_costs 35 = .ok (.ifCond .le 5, 3) := by decide +kernel
theorem dX4_costs_38 : decode cX4_costs 38 = .ok (.iconst 0, 1) := by decide +kernel
theorem dX4_costs_39 : decode cX4_costs 39 = .ok (.ireturn, 1) := by decide +kernel
theorem dX4_costs_40 : decode cX4_costs 40 = .ok (.aload_n 0, 1) := by decide +kernel
theorem dX4_costs_41 : decode cX4_costs 41 = .ok (.invokevirtual 150, 3) := by decide +kernel
theorem dX4_costs_44 : decode cX4_costs 44 = .ok (.aload_n 0, 1) := by decide +kernel
theorem dX4_costs_45 : decode cX4_costs 45 = .ok (.iload_n 1, 1) := by decide +kernel
theorem dX4_costs_46 : decode cX4_costs 46 = .ok (.putfield 61, 3) := by decide +kernel
theorem dX4_costs_49 : decode cX4_costs 49 = .ok (.aload_n 0, 1) := by decide +kernel
theorem dX4_costs_50 : decode cX4_costs 50 = .ok (.iconst 0, 1) := by decide +kernel
theorem dX4_costs_51 : decode cX4_costs 51 = .ok (.putfield 71, 3) := by decide +kernel
theorem dX4_costs_54 : decode cX4_costs 54 = .ok (.aload_n 0, 1) := by decide +kernel
theorem dX4_costs_55 : decode cX4_costs 55 = .ok (.iload_n 2, 1) := by decide +kernel
theorem dX4_costs_56 : decode cX4_costs 56 = .ok (.invokevirtual 196, 3) := by decide +kernel
theorem dX4_costs_59 : decode cX4_costs 59 = .ok (.pop, 1) := by decide +kernel
theorem dX4_costs_60 : decode cX4_costs 60 = .ok (.aload_n 0, 1) := by decide +kernel
theorem dX4_costs_61 : decode cX4_costs 61 = .ok (.bipush (-9), 2) := by decide +kernel
theorem dX4_costs_63 : decode cX4_costs 63 = .ok (.putfield 61, 3) := by decide +kernel
theorem dX4_costs_66 : decode cX4_costs 66 = .ok (.aload_n 0, 1) := by decide +kernel
theorem dX4_costs_67 : decode cX4_costs 67 = .ok (.invokevirtual 157, 3) := by decide +kernel
theorem dX4_costs_70 : decode cX4_costs 70 = .ok (.aload_n 0, 1) := by decide +kernel
theorem dX4_costs_71 : decode cX4_costs 71 = .ok (.getfield 71, 3) := by decide +kernel
theorem dX4_costs_74 : decode cX4_costs 74 = .ok (.ireturn, 1) := by decide +kernel
theorem dX4_isLent_0 : decode cX4_isLent 0 = .ok (.aload_n 0, 1) := by decide +kernel
theorem dX4_isLent_1 : decode cX4_isLent 1 = .ok (.iload_n 1, 1) := by decide +kernel
theorem dX4_isLent_2 : decode cX4_isLent 2 = .ok (.iload_n 2, 1) := by decide +kernel
theorem dX4_isLent_3 : decode cX4_isLent 3 = .ok (.iload_n 3, 1) := by decide +kernel
theorem dX4_isLent_4 : decode cX4_isLent 4 = .ok (.bipush 10, 2) := by decide +kernel
theorem dX4_isLent_6 : decode cX4_isLent 6 = .ok (.invokevirtual 181, 3) := by decide +kernel
theorem dX4_isLent_9 : decode cX4_isLent 9 = .ok (.ifCond .ne 7, 3) := by decide +kernel
theorem dX4_isLent_12 : decode cX4_isLent 12 = .ok (.iconst 1, 1) := by decide +kernel
theorem dX4_isLent_13 : decode cX4_isLent 13 = .ok (.goto 4, 3) := by decide +kernel
theorem dX4_isLent_16 : decode cX4_isLent 16 = .ok (.iconst 0, 1) := by decide +kernel
theorem dX4_isLent_17 : decode cX4_isLent 17 = .ok (.istore 4, 2) := by decide +kernel
theorem dX4_isLent_19 : decode cX4_isLent 19 = .ok (.iload 4, 2) := by decide +kernel
theorem dX4_isLent_21 : decode cX4_isLent 21 = .ok (.ifCond .eq 13, 3) := by decide +kernel
theorem dX4_isLent_24 : decode cX4_isLent 24 = .ok (.aload_n 0, 1) := by decide +kernel
theorem dX4_isLent_25 : decode cX4_isLent 25 = .ok (.iload_n 1, 1) := by decide +kernel
theorem dX4_isLent_26 : decode cX4_isLent 26 = .ok (.iload_n 2, 1) := by decide +kernel
theorem dX4_isLent_27 : decode cX4_isLent 27 = .ok (.iload_n 3, 1) := by decide +kernel
theorem dX4_isLent_28 : decode cX4_isLent 28 = .ok (.bipush 10, 2) := by decide +kernel
theorem dX4_isLent_30 : decode cX4_isLent 30 = .ok (.invokevirtual 101, 3) := by decide +kernel
theorem dX4_isLent_33 : decode cX4_isLent 33 = .ok (.pop, 1) := by decide +kernel
theorem dX4_isLent_34 : decode cX4_isLent 34 = .ok (.iload 4, 2) := by decide +kernel
theorem dX4_isLent_36 : decode cX4_isLent 36 = .ok (.ireturn, 1) := by decide +kernel
theorem dX4_isRepaid_0 : decode cX4_isRepaid 0 = .ok (.aload_n 0, 1) := by decide +kernel
theorem dX4_isRepaid_1 : decode cX4_isRepaid 1 = .ok (.iload_n 1, 1) := by decide +kernel
theorem dX4_isRepaid_2 : decode cX4_isRepaid 2 = .ok (.iload_n 2, 1) := by decide +kernel
theorem dX4_isRepaid_3 : decode cX4_isRepaid 3 = .ok (.invokevirtual 184, 3) := by decide +kernel
theorem dX4_isRepaid_6 : decode cX4_isRepaid 6 = .ok (.ifCond .ne 7, 3) := by decide +kernel
theorem dX4_isRepaid_9 : decode cX4_isRepaid 9 = .ok (.iconst 1, 1) := by decide +kernel
theorem dX4_isRepaid_10 : decode cX4_isRepaid 10 = .ok (.goto 4, 3) := by decide +kernel
theorem dX4_isRepaid_13 : decode cX4_isRepaid 13 = .ok (.iconst 0, 1) := by decide +kernel
theorem dX4_isRepaid_14 : decode cX4_isRepaid 14 = .ok (.istore_n 3, 1) := by decide +kernel
theorem dX4_isRepaid_15 : decode cX4_isRepaid 15 = .ok (.iload_n 3, 1) := by decide +kernel
theorem dX4_isRepaid_16 : decode cX4_isRepaid 16 = .ok (.ifCond .eq 10, 3) := by decide +kernel
theorem dX4_isRepaid_19 : decode cX4_isRepaid 19 = .ok (.aload_n 0, 1) := by decide +kernel
theorem dX4_isRepaid_20 : decode cX4_isRepaid 20 = .ok (.iload_n 1, 1) := by decide +kernel
theorem dX4_isRepaid_21 : decode cX4_isRepaid 21 = .ok (.iload_n 2, 1) := by decide +kernel
theorem dX4_isRepaid_22 : decode cX4_isRepaid 22 = .ok (.invokevirtual 187, 3) := by decide +kernel
theorem dX4_isRepaid_25 : decode cX4_isRepaid 25 = .ok (.pop, 1) := by decide +kernel
theorem dX4_isRepaid_26 : decode cX4_isRepaid 26 = .ok (.iload_n 3, 1) := by decide +kernel
theorem dX4_isRepaid_27 : decode cX4_isRepaid 27 = .ok (.ireturn, 1) := by decide +kernel
theorem dX4_isCharged_0 : decode cX4_isCharged 0 = .ok (.iload_n 1, 1) := by decide +kernel
theorem dX4_isCharged_1 : decode cX4_isCharged 1 = .ok (.ifCond .le 9, 3) := by decide +kernel
theorem dX4_isCharged_4 : decode cX4_isCharged 4 = .ok (.aload_n 0, 1) := by decide +kernel
theorem dX4_isCharged_5 : decode cX4_isCharged 5 = .ok (.iload_n 1, 1) := by decide +kernel
theorem dX4_isCharged_6 : decode cX4_isCharged 6 = .ok (.invokevirtual 190, 3) := by decide +kernel
theorem dX4_isCharged_9 : decode cX4_isCharged 9 = .ok (.pop, 1) := by decide +kernel
theorem dX4_isCharged_10 : decode cX4_isCharged 10 = .ok (.iload_n 1, 1) := by decide +kernel
theorem dX4_isCharged_11 : decode cX4_isCharged 11 = .ok (.ifCond .le 7, 3) := by decide +kernel
theorem dX4_isCharged_14 : decode cX4_isCharged 14 = .ok (.iconst 1, 1) := by decide +kernel
theorem dX4_isCharged_15 : decode cX4_isCharged 15 = .ok (.goto 4, 3) := by decide +kernel
theorem dX4_isCharged_18 : decode cX4_isCharged 18 = .ok (.iconst 0, 1) := by decide +kernel
theorem dX4_isCharged_19 : decode cX4_isCharged 19 = .ok (.ireturn, 1) := by decide +kernel
theorem dX4_isPassed_0 : decode cX4_isPassed 0 = .ok (.iload_n 1, 1) := by decide +kernel
theorem dX4_isPassed_1 : decode cX4_isPassed 1 = .ok (.iconst 1, 1) := by decide +kernel
theorem dX4_isPassed_2 : decode cX4_isPassed 2 = .ok (.bipush 50, 2) := by decide +kernel
theorem dX4_isPassed_4 : decode cX4_isPassed 4 = .ok (.invokestatic 39, 3) := by decide +kernel
theorem dX4_isPassed_7 : decode cX4_isPassed 7 = .ok (.istore_n 2, 1) := by decide +kernel
theorem dX4_isPassed_8 : decode cX4_isPassed 8 = .ok (.aload_n 0, 1) := by decide +kernel
theorem dX4_isPassed_9 : decode cX4_isPassed 9 = .ok (.iload_n 2, 1) := by decide +kernel
theorem dX4_isPassed_10 : decode cX4_isPassed 10 = .ok (.ifCond .eq 7, 3) := by decide +kernel
theorem dX4_isPassed_13 : decode cX4_isPassed 13 = .ok (.iload_n 1, 1) := by decide +kernel
theorem dX4_isPassed_14 : decode cX4_isPassed 14 = .ok (.goto 4, 3) := by decide +kernel
theorem dX4_isPassed_17 : decode cX4_isPassed 17 = .ok (.iconst 0, 1) := by decide +kernel
theorem dX4_isPassed_18 : decode cX4_isPassed 18 = .ok (.invokevirtual 196, 3) := by decide +kernel
theorem dX4_isPassed_21 : decode cX4_isPassed 21 = .ok (.pop, 1) := by decide +kernel
theorem dX4_isPassed_22 : decode cX4_isPassed 22 = .ok (.iload_n 2, 1) := by decide +kernel
theorem dX4_isPassed_23 : decode cX4_isPassed 23 = .ok (.ireturn, 1) := by decide +kernel
theorem dX4_bits_0 : decode cX4_bits 0 = .ok (.iconst 0, 1) := by decide +kernel
theorem dX4_bits_1 : decode cX4_bits 1 = .ok (.istore_n 1, 1) := by decide +kernel
theorem dX4_bits_2 : decode cX4_bits 2 = .ok (.iconst 0, 1) := by decide +kernel
theorem dX4_bits_3 : decode cX4_bits 3 = .ok (.istore_n 2, 1) := by decide +kernel
theorem dX4_bits_4 : decode cX4_bits 4 = .ok (.iload_n 2, 1) := by decide +kernel
theorem dX4_bits_5 : decode cX4_bits 5 = .ok (.bipush 8, 2) := by decide +kernel
theorem dX4_bits_7 : decode cX4_bits 7 = .ok (.if_icmp .ge 17, 3) := by decide +kernel
theorem dX4_bits_10 : decode cX4_bits 10 = .ok (.iload_n 1, 1) := by decide +kernel
theorem dX4_bits_11 : decode cX4_bits 11 = .ok (.iload_n 0, 1) := by decide +kernel
theorem dX4_bits_12 : decode cX4_bits 12 = .ok (.iload_n 2, 1) := by decide +kernel
theorem dX4_bits_13 : decode cX4_bits 13 = .ok (.ishr, 1) := by decide +kernel
theorem dX4_bits_14 : decode cX4_bits 14 = .ok (.iconst 1, 1) := by decide +kernel
theorem dX4_bits_15 : decode cX4_bits 15 = .ok (.iand, 1) := by decide +kernel
theorem dX4_bits_16 : decode cX4_bits 16 = .ok (.iadd, 1) := by decide +kernel
theorem dX4_bits_17 : decode cX4_bits 17 = .ok (.istore_n 1, 1) := by decide +kernel
theorem dX4_bits_18 : decode cX4_bits 18 = .ok (.iinc 2 1, 3) := by decide +kernel
theorem dX4_bits_21 : decode cX4_bits 21 = .ok (.goto (-17), 3) := by decide +kernel
theorem dX4_bits_24 : decode cX4_bits 24 = .ok (.iload_n 1, 1) := by decide +kernel
theorem dX4_bits_25 : decode cX4_bits 25 = .ok (.ireturn, 1) := by decide +kernel
theorem dX4_succeeds_0 : decode cX4_succeeds 0 = .ok (.iload_n 1, 1) := by decide +kernel
theorem dX4_succeeds_1 : decode cX4_succeeds 1 = .ok (.sipush 1000, 3) := by decide +kernel
theorem dX4_succeeds_4 : decode cX4_succeeds 4 = .ok (.idiv, 1) := by decide +kernel
theorem dX4_succeeds_5 : decode cX4_succeeds 5 = .ok (.bipush 10, 2) := by decide +kernel
theorem dX4_succeeds_7 : decode cX4_succeeds 7 = .ok (.irem, 1) := by decide +kernel
theorem dX4_succeeds_8 : decode cX4_succeeds 8 = .ok (.istore_n 2, 1) := by decide +kernel
theorem dX4_succeeds_9 : decode cX4_succeeds 9 = .ok (.iload_n 1, 1) := by decide +kernel
theorem dX4_succeeds_10 : decode cX4_succeeds 10 = .ok (.bipush 100, 2) := by decide +kernel
theorem dX4_succeeds_12 : decode cX4_succeeds 12 = .ok (.idiv, 1) := by decide +kernel
theorem dX4_succeeds_13 : decode cX4_succeeds 13 = .ok (.bipush 10, 2) := by decide +kernel
theorem dX4_succeeds_15 : decode cX4_succeeds 15 = .ok (.irem, 1) := by decide +kernel
theorem dX4_succeeds_16 : decode cX4_succeeds 16 = .ok (.istore_n 3, 1) := by decide +kernel
theorem dX4_succeeds_17 : decode cX4_succeeds 17 = .ok (.iload_n 1, 1) := by decide +kernel
theorem dX4_succeeds_18 : decode cX4_succeeds 18 = .ok (.bipush 100, 2) := by decide +kernel
theorem dX4_succeeds_20 : decode cX4_succeeds 20 = .ok (.irem, 1) := by decide +kernel
theorem dX4_succeeds_21 : decode cX4_succeeds 21 = .ok (.istore 4, 2) := by decide +kernel
theorem dX4_succeeds_23 : decode cX4_succeeds 23 = .ok (.iload_n 1, 1) := by decide +kernel
theorem dX4_succeeds_24 : decode cX4_succeeds 24 = .ok (.sipush 10000, 3) := by decide +kernel
theorem dX4_succeeds_27 : decode cX4_succeeds 27 = .ok (.idiv, 1) := by decide +kernel
theorem dX4_succeeds_28 : decode cX4_succeeds 28 = .ok (.tableswitch 259 1 9 #[52, 61, 74, 95, 121, 142, 171, 206, 228], 52) := by decide +kernel
theorem dX4_succeeds_80 : decode cX4_succeeds 80 = .ok (.aload_n 0, 1) := by decide +kernel
theorem dX4_succeeds_81 : decode cX4_succeeds 81 = .ok (.iload_n 2, 1) := by decide +kernel
theorem dX4_succeeds_82 : decode cX4_succeeds 82 = .ok (.iload_n 3, 1) := by decide +kernel
theorem dX4_succeeds_83 : decode cX4_succeeds 83 = .ok (.iload 4, 2) := by decide +kernel
theorem dX4_succeeds_85 : decode cX4_succeeds 85 = .ok (.invokevirtual 199, 3) := by decide +kernel
theorem dX4_succeeds_88 : decode cX4_succeeds 88 = .ok (.ireturn, 1) := by decide +kernel
theorem dX4_succeeds_89 : decode cX4_succeeds 89 = .ok (.aload_n 0, 1) := by decide +kernel
theorem dX4_succeeds_90 : decode cX4_succeeds 90 = .ok (.bipush 10, 2) := by decide +kernel
theorem dX4_succeeds_92 : decode cX4_succeeds 92 = .ok (.iload_n 2, 1) := by decide +kernel
theorem dX4_succeeds_93 : decode cX4_succeeds 93 = .ok (.imul, 1) := by decide +kernel
theorem dX4_succeeds_94 : decode cX4_succeeds 94 = .ok (.iload_n 3, 1) := by decide +kernel
theorem dX4_succeeds_95 : decode cX4_succeeds 95 = .ok (.iadd, 1) := by decide +kernel
theorem dX4_succeeds_96 : decode cX4_succeeds 96 = .ok (.iload 4, 2) := by decide +kernel
theorem dX4_succeeds_98 : decode cX4_succeeds 98 = .ok (.invokevirtual 202, 3) := by decide +kernel
theorem dX4_succeeds_101 : decode cX4_succeeds 101 = .ok (.ireturn, 1) := by decide +kernel
theorem dX4_succeeds_102 : decode cX4_succeeds 102 = .ok (.iload_n 2, 1) := by decide +kernel
theorem dX4_succeeds_103 : decode cX4_succeeds 103 = .ok (.iload_n 3, 1) := by decide +kernel
theorem dX4_succeeds_104 : decode cX4_succeeds 104 = .ok (.iadd, 1) := by decide +kernel
theorem dX4_succeeds_105 : decode cX4_succeeds 105 = .ok (.ifCond .ne 16, 3) := by decide +kernel
theorem dX4_succeeds_108 : decode cX4_succeeds 108 = .ok (.aload_n 0, 1) := by decide +kernel
theorem dX4_succeeds_109 : decode cX4_succeeds 109 = .ok (.iload 4, 2) := by decide +kernel
theorem dX4_succeeds_111 : decode cX4_succeeds 111 = .ok (.invokevirtual 205, 3) := by decide +kernel
theorem dX4_succeeds_114 : decode cX4_succeeds 114 = .ok (.ifCond .eq 7, 3) := by decide +kernel
theorem dX4_succeeds_117 : decode cX4_succeeds 117 = .ok (.iconst 1, 1) := by decide +kernel
theorem dX4_succeeds_118 : decode cX4_succeeds 118 = .ok (.goto 4, 3) := by decide +kernel
theorem dX4_succeeds_121 : decode cX4_succeeds 121 = .ok (.iconst 0, 1) := by decide +kernel
theorem dX4_succeeds_122 : decode cX4_succeeds 122 = .ok (.ireturn, 1) := by decide +kernel
theorem dX4_succeeds_123 : decode cX4_succeeds 123 = .ok (.iload_n 2, 1) := by decide +kernel
theorem dX4_succeeds_124 : decode cX4_succeeds 124 = .ok (.iload_n 3, 1) := by decide +kernel
theorem dX4_succeeds_125 : decode cX4_succeeds 125 = .ok (.iadd, 1) := by decide +kernel
theorem dX4_succeeds_126 : decode cX4_succeeds 126 = .ok (.ifCond .ne 21, 3) := by decide +kernel
theorem dX4_succeeds_129 : decode cX4_succeeds 129 = .ok (.iload 4, 2) := by decide +kernel
theorem dX4_succeeds_131 : decode cX4_succeeds 131 = .ok (.ifCond .le 16, 3) := by decide +kernel
theorem dX4_succeeds_134 : decode cX4_succeeds 134 = .ok (.aload_n 0, 1) := by decide +kernel
theorem dX4_succeeds_135 : decode cX4_succeeds 135 = .ok (.iload 4, 2) := by decide +kernel
theorem dX4_succeeds_137 : decode cX4_succeeds 137 = .ok (.invokevirtual 193, 3) := by decide +kernel
theorem dX4_succeeds_140 : decode cX4_succeeds 140 = .ok (.ifCond .le 7, 3) := by decide +kernel
theorem dX4_succeeds_143 : decode cX4_succeeds 143 = .ok (.iconst 1, 1) := by decide +kernel
theorem dX4_succeeds_144 : decode cX4_succeeds 144 = .ok (.goto 4, 3) := by decide +kernel
theorem dX4_succeeds_147 : decode cX4_succeeds 147 = .ok (.iconst 0, 1) := by decide +kernel
theorem dX4_succeeds_148 : decode cX4_succeeds 148 = .ok (.ireturn, 1) := by decide +kernel
theorem dX4_succeeds_149 : decode cX4_succeeds 149 = .ok (.iload_n 2, 1) := by decide +kernel
theorem dX4_succeeds_150 : decode cX4_succeeds 150 = .ok (.iload_n 3, 1) := by decide +kernel
theorem dX4_succeeds_151 : decode cX4_succeeds 151 = .ok (.iadd, 1) := by decide +kernel
theorem dX4_succeeds_152 : decode cX4_succeeds 152 = .ok (.ifCond .ne 16, 3) := by decide +kernel
theorem dX4_succeeds_155 : decode cX4_succeeds 155 = .ok (.aload_n 0, 1) := by decide +kernel
theorem dX4_succeeds_156 : decode cX4_succeeds 156 = .ok (.iload 4, 2) := by decide +kernel
theorem dX4_succeeds_158 : decode cX4_succeeds 158 = .ok (.invokevirtual 208, 3) := by decide +kernel
theorem dX4_succeeds_161 : decode cX4_succeeds 161 = .ok (.ifCond .eq 7, 3) := by decide +kernel
theorem dX4_succeeds_164 : decode cX4_succeeds 164 = .ok (.iconst 1, 1) := by decide +kernel
theorem dX4_succeeds_165 : decode cX4_succeeds 165 = .ok (.goto 4, 3) := by decide +kernel
theorem dX4_succeeds_168 : decode cX4_succeeds 168 = .ok (.iconst 0, 1) := by decide +kernel
theorem dX4_succeeds_169 : decode cX4_succeeds 169 = .ok (.ireturn, 1) := by decide +kernel
theorem dX4_succeeds_170 : decode cX4_succeeds 170 = .ok (.iload_n 3, 1) := by decide +kernel
theorem dX4_succeeds_171 : decode cX4_succeeds 171 = .ok (.ifCond .ne 26, 3) := by decide +kernel
theorem dX4_succeeds_174 : decode cX4_succeeds 174 = .ok (.aload_n 0, 1) := by decide +kernel
theorem dX4_succeeds_175 : decode cX4_succeeds 175 = .ok (.iload_n 2, 1) := by decide +kernel
theorem dX4_succeeds_176 : decode cX4_succeeds 176 = .ok (.invokevirtual 135, 3) := by decide +kernel
theorem dX4_succeeds_179 : decode cX4_succeeds 179 = .ok (.ifCond .eq 18, 3) := by decide +kernel
theorem dX4_succeeds_182 : decode cX4_succeeds 182 = .ok (.aload_n 0, 1) := by decide +kernel
theorem dX4_succeeds_183 : decode cX4_succeeds 183 = .ok (.iload_n 2, 1) := by decide +kernel
theorem dX4_succeeds_184 : decode cX4_succeeds 184 = .ok (.iconst 1, 1) := by decide +kernel
theorem dX4_succeeds_185 : decode cX4_succeeds 185 = .ok (.invokevirtual 43, 3) := by decide +kernel
theorem dX4_succeeds_188 : decode cX4_succeeds 188 = .ok (.iload 4, 2) := by decide +kernel
theorem dX4_succeeds_190 : decode cX4_succeeds 190 = .ok (.if_icmp .lt 7, 3) := by decide +kernel
theorem dX4_succeeds_193 : decode cX4_succeeds 193 = .ok (.iconst 1, 1) := by decide +kernel
theorem dX4_succeeds_194 : decode cX4_succeeds 194 = .ok (.goto 4, 3) := by decide +kernel
theorem dX4_succeeds_197 : decode cX4_succeeds 197 = .ok (.iconst 0, 1) := by decide +kernel
theorem dX4_succeeds_198 : decode cX4_succeeds 198 = .ok (.ireturn, 1) := by decide +kernel
theorem dX4_succeeds_199 : decode cX4_succeeds 199 = .ok (.iload_n 3, 1) := by decide +kernel
theorem dX4_succeeds_200 : decode cX4_succeeds 200 = .ok (.ifCond .ne 32, 3) := by decide +kernel
theorem dX4_succeeds_203 : decode cX4_succeeds 203 = .ok (.iload 4, 2) := by decide +kernel
theorem dX4_succeeds_205 : decode cX4_succeeds 205 = .ok (.bipush 10, 2) := by decide +kernel
theorem dX4_succeeds_207 : decode cX4_succeeds 207 = .ok (.if_icmp .ge 25, 3) := by decide +kernel
theorem dX4_succeeds_210 : decode cX4_succeeds 210 = .ok (.aload_n 0, 1) := by decide +kernel
theorem dX4_succeeds_211 : decode cX4_succeeds 211 = .ok (.iload_n 2, 1) := by decide +kernel
theorem dX4_succeeds_212 : decode cX4_succeeds 212 = .ok (.invokevirtual 135, 3) := by decide +kernel
theorem dX4_succeeds_215 : decode cX4_succeeds 215 = .ok (.ifCond .eq 17, 3) := by decide +kernel
theorem dX4_succeeds_218 : decode cX4_succeeds 218 = .ok (.aload_n 0, 1) := by decide +kernel
theorem dX4_succeeds_219 : decode cX4_succeeds 219 = .ok (.iload_n 2, 1) := by decide +kernel
theorem dX4_succeeds_220 : decode cX4_succeeds 220 = .ok (.invokevirtual 172, 3) := by decide +kernel
theorem dX4_succeeds_223 : decode cX4_succeeds 223 = .ok (.iload 4, 2) := by decide +kernel
theorem dX4_succeeds_225 : decode cX4_succeeds 225 = .ok (.if_icmp .ne 7, 3) := by decide +kernel
theorem dX4_succeeds_228 : decode cX4_succeeds 228 = .ok (.iconst 1, 1) := by decide +kernel
theorem dX4_succeeds_229 : decode cX4_succeeds 229 = .ok (.goto 4, 3) := by decide +kernel
theorem dX4_succeeds_232 : decode cX4_succeeds 232 = .ok (.iconst 0, 1) := by decide +kernel
theorem dX4_succeeds_233 : decode cX4_succeeds 233 = .ok (.ireturn, 1) := by decide +kernel
theorem dX4_succeeds_234 : decode cX4_succeeds 234 = .ok (.iload_n 2, 1) := by decide +kernel
theorem dX4_succeeds_235 : decode cX4_succeeds 235 = .ok (.ifCond .ne 19, 3) := by decide +kernel
theorem dX4_succeeds_238 : decode cX4_succeeds 238 = .ok (.aload_n 0, 1) := by decide +kernel
theorem dX4_succeeds_239 : decode cX4_succeeds 239 = .ok (.invokevirtual 163, 3) := by decide +kernel
theorem dX4_succeeds_242 : decode cX4_succeeds 242 = .ok (.iload_n 1, 1) := by decide +kernel
theorem dX4_succeeds_243 : decode cX4_succeeds 243 = .ok (.sipush 1000, 3) := by decide +kernel
theorem dX4_succeeds_246 : decode cX4_succeeds 246 = .ok (.irem, 1) := by decide +kernel
theorem dX4_succeeds_247 : decode cX4_succeeds 247 = .ok (.if_icmp .gt 7, 3) := by decide +kernel
theorem dX4_succeeds_250 : decode cX4_succeeds 250 = .ok (.iconst 1, 1) := by decide +kernel
theorem dX4_succeeds_251 : decode cX4_succeeds 251 = .ok (.goto 4, 3) := by decide +kernel
theorem dX4_succeeds_254 : decode cX4_succeeds 254 = .ok (.iconst 0, 1) := by decide +kernel
theorem dX4_succeeds_255 : decode cX4_succeeds 255 = .ok (.ireturn, 1) := by decide +kernel
theorem dX4_succeeds_256 : decode cX4_succeeds 256 = .ok (.iload_n 2, 1) := by decide +kernel
theorem dX4_succeeds_257 : decode cX4_succeeds 257 = .ok (.iload_n 3, 1) := by decide +kernel
theorem dX4_succeeds_258 : decode cX4_succeeds 258 = .ok (.iadd, 1) := by decide +kernel
theorem dX4_succeeds_259 : decode cX4_succeeds 259 = .ok (.ifCond .ne 26, 3) := by decide +kernel
theorem dX4_succeeds_262 : decode cX4_succeeds 262 = .ok (.iload 4, 2) := by decide +kernel
theorem dX4_succeeds_264 : decode cX4_succeeds 264 = .ok (.bipush 10, 2) := by decide +kernel
theorem dX4_succeeds_266 : decode cX4_succeeds 266 = .ok (.if_icmp .ge 19, 3) := by decide +kernel
theorem dX4_succeeds_269 : decode cX4_succeeds 269 = .ok (.aload_n 0, 1) := by decide +kernel
theorem dX4_succeeds_270 : decode cX4_succeeds 270 = .ok (.invokevirtual 166, 3) := by decide +kernel
theorem dX4_succeeds_273 : decode cX4_succeeds 273 = .ok (.invokestatic 211, 3) := by decide +kernel
theorem dX4_succeeds_276 : decode cX4_succeeds 276 = .ok (.iload 4, 2) := by decide +kernel
theorem dX4_succeeds_278 : decode cX4_succeeds 278 = .ok (.if_icmp .gt 7, 3) := by decide +kernel
theorem dX4_succeeds_281 : decode cX4_succeeds 281 = .ok (.iconst 1, 1) := by decide +kernel
theorem dX4_succeeds_282 : decode cX4_succeeds 282 = .ok (.goto 4, 3) := by decide +kernel
theorem dX4_succeeds_285 : decode cX4_succeeds 285 = .ok (.iconst 0, 1) := by decide +kernel
theorem dX4_succeeds_286 : decode cX4_succeeds 286 = .ok (.ireturn, 1) := by decide +kernel
theorem dX4_succeeds_287 : decode cX4_succeeds 287 = .ok (.iconst 0, 1) := by decide +kernel
theorem dX4_succeeds_288 : decode cX4_succeeds 288 = .ok (.ireturn, 1) := by decide +kernel
theorem dX4_runScript_0 : decode cX4_runScript 0 = .ok (.iload_n 1, 1) := by decide +kernel
theorem dX4_runScript_1 : decode cX4_runScript 1 = .ok (.iconst 1, 1) := by decide +kernel
theorem dX4_runScript_2 : decode cX4_runScript 2 = .ok (.if_icmp .ne 9, 3) := by decide +kernel
theorem dX4_runScript_5 : decode cX4_runScript 5 = .ok (.ldc2_w 214, 3) := by decide +kernel
theorem dX4_runScript_8 : decode cX4_runScript 8 = .ok (.goto 17, 3) := by decide +kernel
theorem dX4_runScript_11 : decode cX4_runScript 11 = .ok (.iload_n 1, 1) := by decide +kernel
theorem dX4_runScript_12 : decode cX4_runScript 12 = .ok (.iconst 2, 1) := by decide +kernel
theorem dX4_runScript_13 : decode cX4_runScript 13 = .ok (.if_icmp .ne 9, 3) := by decide +kernel
theorem dX4_runScript_16 : decode cX4_runScript 16 = .ok (.ldc2_w 216, 3) := by decide +kernel
theorem dX4_runScript_19 : decode cX4_runScript 19 = .ok (.goto 6, 3) := by decide +kernel
theorem dX4_runScript_22 : decode cX4_runScript 22 = .ok (.ldc2_w 218, 3) := by decide +kernel
theorem dX4_runScript_25 : decode cX4_runScript 25 = .ok (.lstore 4, 2) := by decide +kernel
theorem dX4_runScript_27 : decode cX4_runScript 27 = .ok (.aload_n 0, 1) := by decide +kernel
theorem dX4_runScript_28 : decode cX4_runScript 28 = .ok (.iload_n 1, 1) := by decide +kernel
theorem dX4_runScript_29 : decode cX4_runScript 29 = .ok (.iconst 1, 1) := by decide +kernel
theorem dX4_runScript_30 : decode cX4_runScript 30 = .ok (.iconst 3, 1) := by decide +kernel
theorem dX4_runScript_31 : decode cX4_runScript 31 = .ok (.invokestatic 39, 3) := by decide +kernel
theorem dX4_runScript_34 : decode cX4_runScript 34 = .ok (.ifCond .eq 20, 3) := by decide +kernel
theorem dX4_runScript_37 : decode cX4_runScript 37 = .ok (.lload_n 2, 1) := by decide +kernel
theorem dX4_runScript_38 : decode cX4_runScript 38 = .ok (.lconst 0, 1) := by decide +kernel
theorem dX4_runScript_39 : decode cX4_runScript 39 = .ok (.lcmp, 1) := by decide +kernel
theorem dX4_runScript_40 : decode cX4_runScript 40 = .ok (.ifCond .lt 14, 3) := by decide +kernel
theorem dX4_runScript_43 : decode cX4_runScript 43 = .ok (.lload_n 2, 1) := by decide +kernel
theorem dX4_runScript_44 : decode cX4_runScript 44 = .ok (.lload 4, 2) := by decide +kernel
theorem dX4_runScript_46 : decode cX4_runScript 46 = .ok (.lcmp, 1) := by decide +kernel
theorem dX4_runScript_47 : decode cX4_runScript 47 = .ok (.ifCond .ge 7, 3) := by decide +kernel
theorem dX4_runScript_50 : decode cX4_runScript 50 = .ok (.iconst 0, 1) := by decide +kernel
theorem dX4_runScript_51 : decode cX4_runScript 51 = .ok (.goto 4, 3) := by decide +kernel
theorem dX4_runScript_54 : decode cX4_runScript 54 = .ok (.iconst 1, 1) := by decide +kernel
theorem dX4_runScript_55 : decode cX4_runScript 55 = .ok (.putfield 35, 3) := by decide +kernel
theorem dX4_runScript_58 : decode cX4_runScript 58 = .ok (.aload_n 0, 1) := by decide +kernel
theorem dX4_runScript_59 : decode cX4_runScript 59 = .ok (.getfield 35, 3) := by decide +kernel
theorem dX4_runScript_62 : decode cX4_runScript 62 = .ok (.ifCond .le 5, 3) := by decide +kernel
theorem dX4_runScript_65 : decode cX4_runScript 65 = .ok (.iconst 0, 1) := by decide +kernel
theorem dX4_runScript_66 : decode cX4_runScript 66 = .ok (.ireturn, 1) := by decide +kernel
theorem dX4_runScript_67 : decode cX4_runScript 67 = .ok (.aload_n 0, 1) := by decide +kernel
theorem dX4_runScript_68 : decode cX4_runScript 68 = .ok (.invokevirtual 150, 3) := by decide +kernel
theorem dX4_runScript_71 : decode cX4_runScript 71 = .ok (.bipush (-9), 2) := by decide +kernel
theorem dX4_runScript_73 : decode cX4_runScript 73 = .ok (.istore 6, 2) := by decide +kernel
theorem dX4_runScript_75 : decode cX4_runScript 75 = .ok (.lload 4, 2) := by decide +kernel
theorem dX4_runScript_77 : decode cX4_runScript 77 = .ok (.ldc2_w 214, 3) := by decide +kernel
theorem dX4_runScript_80 : decode cX4_runScript 80 = .ok (.ldiv, 1) := by decide +kernel
theorem dX4_runScript_81 : decode cX4_runScript 81 = .ok (.lstore 7, 2) := by decide +kernel
theorem dX4_runScript_83 : decode cX4_runScript 83 = .ok (.iconst 0, 1) := by decide +kernel
theorem dX4_runScript_84 : decode cX4_runScript 84 = .ok (.istore 9, 2) := by decide +kernel
theorem dX4_runScript_86 : decode cX4_runScript 86 = .ok (.iload 9, 2) := by decide +kernel
theorem dX4_runScript_88 : decode cX4_runScript 88 = .ok (.iload_n 1, 1) := by decide +kernel
theorem dX4_runScript_89 : decode cX4_runScript 89 = .ok (.if_icmp .ge 49, 3) := by decide +kernel
theorem dX4_runScript_92 : decode cX4_runScript 92 = .ok (.iload 6, 2) := by decide +kernel
theorem dX4_runScript_94 : decode cX4_runScript 94 = .ok (.bipush (-9), 2) := by decide +kernel
theorem dX4_runScript_96 : decode cX4_runScript 96 = .ok (.if_icmp .ne 42, 3) := by decide +kernel
theorem dX4_runScript_99 : decode cX4_runScript 99 = .ok (.aload_n 0, 1) := by decide +kernel
theorem dX4_runScript_100 : decode cX4_runScript 100 = .ok (.lload_n 2, 1) := by decide +kernel
theorem dX4_runScript_101 : decode cX4_runScript 101 = .ok (.lload 7, 2) := by decide +kernel
theorem dX4_runScript_103 : decode cX4_runScript 103 = .ok (.ldiv, 1) := by decide +kernel
theorem dX4_runScript_104 : decode cX4_runScript 104 = .ok (.ldc2_w 214, 3) := by decide +kernel
theorem dX4_runScript_107 : decode cX4_runScript 107 = .ok (.lrem, 1) := by decide +kernel
theorem dX4_runScript_108 : decode cX4_runScript 108 = .ok (.l2i, 1) := by decide +kernel
theorem dX4_runScript_109 : decode cX4_runScript 109 = .ok (.invokevirtual 220, 3) := by decide +kernel
theorem dX4_runScript_112 : decode cX4_runScript 112 = .ok (.ifCond .eq 8, 3) := by decide +kernel
theorem dX4_runScript_115 : decode cX4_runScript 115 = .ok (.bipush (-9), 2) := by decide +kernel
theorem dX4_runScript_117 : decode cX4_runScript 117 = .ok (.goto 5, 3) := by decide +kernel
theorem dX4_runScript_120 : decode cX4_runScript 120 = .ok (.iload 9, 2) := by decide +kernel
theorem dX4_runScript_122 : decode cX4_runScript 122 = .ok (.istore 6, 2) := by decide +kernel
theorem dX4_runScript_124 : decode cX4_runScript 124 = .ok (.lload 7, 2) := by decide +kernel
theorem dX4_runScript_126 : decode cX4_runScript 126 = .ok (.ldc2_w 214, 3) := by decide +kernel
theorem dX4_runScript_129 : decode cX4_runScript 129 = .ok (.ldiv, 1) := by decide +kernel
theorem dX4_runScript_130 : decode cX4_runScript 130 = .ok (.lstore 7, 2) := by decide +kernel
theorem dX4_runScript_132 : decode cX4_runScript 132 = .ok (.iinc 9 1, 3) := by decide +kernel
theorem dX4_runScript_135 : decode cX4_runScript 135 = .ok (.goto (-49), 3) := by decide +kernel
theorem dX4_runScript_138 : decode cX4_runScript 138 = .ok (.aload_n 0, 1) := by decide +kernel
theorem dX4_runScript_139 : decode cX4_runScript 139 = .ok (.invokevirtual 157, 3) := by decide +kernel
theorem dX4_runScript_142 : decode cX4_runScript 142 = .ok (.iload 6, 2) := by decide +kernel
theorem dX4_runScript_144 : decode cX4_runScript 144 = .ok (.ireturn, 1) := by decide +kernel
theorem dX4_simulate_0 : decode cX4_simulate 0 = .ok (.aload_n 0, 1) := by decide +kernel
theorem dX4_simulate_1 : decode cX4_simulate 1 = .ok (.iload_n 3, 1) := by decide +kernel
theorem dX4_simulate_2 : decode cX4_simulate 2 = .ok (.iconst 1, 1) := by decide +kernel
theorem dX4_simulate_3 : decode cX4_simulate 3 = .ok (.bipush 99, 2) := by decide +kernel
theorem dX4_simulate_5 : decode cX4_simulate 5 = .ok (.invokestatic 39, 3) := by decide +kernel
theorem dX4_simulate_8 : decode cX4_simulate 8 = .ok (.ifCond .eq 7, 3) := by decide +kernel
theorem dX4_simulate_11 : decode cX4_simulate 11 = .ok (.iconst 0, 1) := by decide +kernel
theorem dX4_simulate_12 : decode cX4_simulate 12 = .ok (.goto 4, 3) := by decide +kernel
theorem dX4_simulate_15 : decode cX4_simulate 15 = .ok (.iconst 1, 1) := by decide +kernel
theorem dX4_simulate_16 : decode cX4_simulate 16 = .ok (.putfield 35, 3) := by decide +kernel
theorem dX4_simulate_19 : decode cX4_simulate 19 = .ok (.aload_n 0, 1) := by decide +kernel
theorem dX4_simulate_20 : decode cX4_simulate 20 = .ok (.getfield 35, 3) := by decide +kernel
theorem dX4_simulate_23 : decode cX4_simulate 23 = .ok (.ifCond .le 5, 3) := by decide +kernel
theorem dX4_simulate_26 : decode cX4_simulate 26 = .ok (.iconst 0, 1) := by decide +kernel
theorem dX4_simulate_27 : decode cX4_simulate 27 = .ok (.ireturn, 1) := by decide +kernel
theorem dX4_simulate_28 : decode cX4_simulate 28 = .ok (.aload_n 0, 1) := by decide +kernel
theorem dX4_simulate_29 : decode cX4_simulate 29 = .ok (.invokevirtual 150, 3) := by decide +kernel
theorem dX4_simulate_32 : decode cX4_simulate 32 = .ok (.aload_n 0, 1) := by decide +kernel
theorem dX4_simulate_33 : decode cX4_simulate 33 = .ok (.getfield 7, 3) := by decide +kernel
theorem dX4_simulate_36 : decode cX4_simulate 36 = .ok (.iconst 4, 1) := by decide +kernel
theorem dX4_simulate_37 : decode cX4_simulate 37 = .ok (.iaload, 1) := by decide +kernel
theorem dX4_simulate_38 : decode cX4_simulate 38 = .ok (.istore 4, 2) := by decide +kernel
theorem dX4_simulate_40 : decode cX4_simulate 40 = .ok (.iconst 0, 1) := by decide +kernel
theorem dX4_simulate_41 : decode cX4_simulate 41 = .ok (.istore 5, 2) := by decide +kernel
theorem dX4_simulate_43 : decode cX4_simulate 43 = .ok (.lload_n 1, 1) := by decide +kernel
theorem dX4_simulate_44 : decode cX4_simulate 44 = .ok (.lstore 6, 2) := by decide +kernel
theorem dX4_simulate_46 : decode cX4_simulate 46 = .ok (.iconst 0, 1) := by decide +kernel
theorem dX4_simulate_47 : decode cX4_simulate 47 = .ok (.istore 8, 2) := by decide +kernel
theorem dX4_simulate_49 : decode cX4_simulate 49 = .ok (.iload 8, 2) := by decide +kernel
theorem dX4_simulate_51 : decode cX4_simulate 51 = .ok (.iload_n 3, 1) := by decide +kernel
theorem dX4_simulate_52 : decode cX4_simulate 52 = .ok (.if_icmp .ge 81, 3) := by decide +kernel
theorem dX4_simulate_55 : decode cX4_simulate 55 = .ok (.lload 6, 2) := by decide +kernel
theorem dX4_simulate_57 : decode cX4_simulate 57 = .ok (.ldc2_w 223, 3) := by decide +kernel
theorem dX4_simulate_60 : decode cX4_simulate 60 = .ok (.lmul, 1) := by decide +kernel
theorem dX4_simulate_61 : decode cX4_simulate 61 = .ok (.ldc2_w 225, 3) := by decide +kernel
theorem dX4_simulate_64 : decode cX4_simulate 64 = .ok (.ladd, 1) := by decide +kernel
theorem dX4_simulate_65 : decode cX4_simulate 65 = .ok (.lstore 6, 2) := by decide +kernel
theorem dX4_simulate_67 : decode cX4_simulate 67 = .ok (.lload 6, 2) := by decide +kernel
theorem dX4_simulate_69 : decode cX4_simulate 69 = .ok (.bipush 33, 2) := by decide +kernel
theorem dX4_simulate_71 : decode cX4_simulate 71 = .ok (.lushr, 1) := by decide +kernel
theorem dX4_simulate_72 : decode cX4_simulate 72 = .ok (.l2i, 1) := by decide +kernel
theorem dX4_simulate_73 : decode cX4_simulate 73 = .ok (.istore 9, 2) := by decide +kernel
theorem dX4_simulate_75 : decode cX4_simulate 75 = .ok (.iconst 1, 1) := by decide +kernel
theorem dX4_simulate_76 : decode cX4_simulate 76 = .ok (.iload 9, 2) := by decide +kernel
theorem dX4_simulate_78 : decode cX4_simulate 78 = .ok (.iconst 4, 1) := by decide +kernel
theorem dX4_simulate_79 : decode cX4_simulate 79 = .ok (.idiv, 1) := by decide +kernel
theorem dX4_simulate_80 : decode cX4_simulate 80 = .ok (.bipush 9, 2) := by decide +kernel
theorem dX4_simulate_82 : decode cX4_simulate 82 = .ok (.irem, 1) := by decide +kernel
theorem dX4_simulate_83 : decode cX4_simulate 83 = .ok (.iadd, 1) := by decide +kernel
theorem dX4_simulate_84 : decode cX4_simulate 84 = .ok (.istore 10, 2) := by decide +kernel
theorem dX4_simulate_86 : decode cX4_simulate 86 = .ok (.iload 9, 2) := by decide +kernel
theorem dX4_simulate_88 : decode cX4_simulate 88 = .ok (.iconst 4, 1) := by decide +kernel
theorem dX4_simulate_89 : decode cX4_simulate 89 = .ok (.irem, 1) := by decide +kernel
theorem dX4_simulate_90 : decode cX4_simulate 90 = .ok (.ifCond .ne 13, 3) := by decide +kernel
theorem dX4_simulate_93 : decode cX4_simulate 93 = .ok (.aload_n 0, 1) := by decide +kernel
theorem dX4_simulate_94 : decode cX4_simulate 94 = .ok (.iload 10, 2) := by decide +kernel
theorem dX4_simulate_96 : decode cX4_simulate 96 = .ok (.invokevirtual 190, 3) := by decide +kernel
theorem dX4_simulate_99 : decode cX4_simulate 99 = .ok (.pop, 1) := by decide +kernel
theorem dX4_simulate_100 : decode cX4_simulate 100 = .ok (.goto 18, 3) := by decide +kernel
theorem dX4_simulate_103 : decode cX4_simulate 103 = .ok (.iload 9, 2) := by decide +kernel
theorem dX4_simulate_105 : decode cX4_simulate 105 = .ok (.iconst 4, 1) := by decide +kernel
theorem dX4_simulate_106 : decode cX4_simulate 106 = .ok (.irem, 1) := by decide +kernel
theorem dX4_simulate_107 : decode cX4_simulate 107 = .ok (.iconst 3, 1) := by decide +kernel
theorem dX4_simulate_108 : decode cX4_simulate 108 = .ok (.if_icmp .ge 10, 3) := by decide +kernel
theorem dX4_simulate_111 : decode cX4_simulate 111 = .ok (.aload_n 0, 1) := by decide +kernel
theorem dX4_simulate_112 : decode cX4_simulate 112 = .ok (.iload 10, 2) := by decide +kernel
theorem dX4_simulate_114 : decode cX4_simulate 114 = .ok (.invokevirtual 193, 3) := by decide +kernel
theorem dX4_simulate_117 : decode cX4_simulate 117 = .ok (.pop, 1) := by decide +kernel
theorem dX4_simulate_118 : decode cX4_simulate 118 = .ok (.iload 5, 2) := by decide +kernel
theorem dX4_simulate_120 : decode cX4_simulate 120 = .ok (.aload_n 0, 1) := by decide +kernel
theorem dX4_simulate_121 : decode cX4_simulate 121 = .ok (.invokevirtual 91, 3) := by decide +kernel
theorem dX4_simulate_124 : decode cX4_simulate 124 = .ok (.ior, 1) := by decide +kernel
theorem dX4_simulate_125 : decode cX4_simulate 125 = .ok (.istore 5, 2) := by decide +kernel
theorem dX4_simulate_127 : decode cX4_simulate 127 = .ok (.iinc 8 1, 3) := by decide +kernel
theorem dX4_simulate_130 : decode cX4_simulate 130 = .ok (.goto (-81), 3) := by decide +kernel
theorem dX4_simulate_133 : decode cX4_simulate 133 = .ok (.aload_n 0, 1) := by decide +kernel
theorem dX4_simulate_134 : decode cX4_simulate 134 = .ok (.getfield 7, 3) := by decide +kernel
theorem dX4_simulate_137 : decode cX4_simulate 137 = .ok (.iconst 4, 1) := by decide +kernel
theorem dX4_simulate_138 : decode cX4_simulate 138 = .ok (.iaload, 1) := by decide +kernel
theorem dX4_simulate_139 : decode cX4_simulate 139 = .ok (.iload 4, 2) := by decide +kernel
theorem dX4_simulate_141 : decode cX4_simulate 141 = .ok (.isub, 1) := by decide +kernel
theorem dX4_simulate_142 : decode cX4_simulate 142 = .ok (.istore 4, 2) := by decide +kernel
theorem dX4_simulate_144 : decode cX4_simulate 144 = .ok (.aload_n 0, 1) := by decide +kernel
theorem dX4_simulate_145 : decode cX4_simulate 145 = .ok (.invokevirtual 157, 3) := by decide +kernel
theorem dX4_simulate_148 : decode cX4_simulate 148 = .ok (.ldc 227, 2) := by decide +kernel
theorem dX4_simulate_150 : decode cX4_simulate 150 = .ok (.iload 5, 2) := by decide +kernel
theorem dX4_simulate_152 : decode cX4_simulate 152 = .ok (.invokestatic 211, 3) := by decide +kernel
theorem dX4_simulate_155 : decode cX4_simulate 155 = .ok (.imul, 1) := by decide +kernel
theorem dX4_simulate_156 : decode cX4_simulate 156 = .ok (.iload 4, 2) := by decide +kernel
theorem dX4_simulate_158 : decode cX4_simulate 158 = .ok (.iadd, 1) := by decide +kernel
theorem dX4_simulate_159 : decode cX4_simulate 159 = .ok (.ireturn, 1) := by decide +kernel
theorem dX4_save_0 : decode cX4_save 0 = .ok (.aload_n 0, 1) := by decide +kernel
theorem dX4_save_1 : decode cX4_save 1 = .ok (.iload_n 1, 1) := by decide +kernel
theorem dX4_save_2 : decode cX4_save 2 = .ok (.iconst 0, 1) := by decide +kernel
theorem dX4_save_3 : decode cX4_save 3 = .ok (.iconst 1, 1) := by decide +kernel
theorem dX4_save_4 : decode cX4_save 4 = .ok (.invokestatic 39, 3) := by decide +kernel
theorem dX4_save_7 : decode cX4_save 7 = .ok (.ifCond .eq 7, 3) := by decide +kernel
theorem dX4_save_10 : decode cX4_save 10 = .ok (.iconst 0, 1) := by decide +kernel
theorem dX4_save_11 : decode cX4_save 11 = .ok (.goto 4, 3) := by decide +kernel
theorem dX4_save_14 : decode cX4_save 14 = .ok (.iconst 1, 1) := by decide +kernel
theorem dX4_save_15 : decode cX4_save 15 = .ok (.putfield 35, 3) := by decide +kernel
theorem dX4_save_18 : decode cX4_save 18 = .ok (.aload_n 0, 1) := by decide +kernel
theorem dX4_save_19 : decode cX4_save 19 = .ok (.getfield 35, 3) := by decide +kernel
theorem dX4_save_22 : decode cX4_save 22 = .ok (.ifCond .le 5, 3) := by decide +kernel
theorem dX4_save_25 : decode cX4_save 25 = .ok (.iconst 0, 1) := by decide +kernel
theorem dX4_save_26 : decode cX4_save 26 = .ok (.ireturn, 1) := by decide +kernel
theorem dX4_save_27 : decode cX4_save 27 = .ok (.iconst 0, 1) := by decide +kernel
theorem dX4_save_28 : decode cX4_save 28 = .ok (.istore_n 2, 1) := by decide +kernel
theorem dX4_save_29 : decode cX4_save 29 = .ok (.iload_n 2, 1) := by decide +kernel
theorem dX4_save_30 : decode cX4_save 30 = .ok (.bipush 107, 2) := by decide +kernel
theorem dX4_save_32 : decode cX4_save 32 = .ok (.if_icmp .ge 26, 3) := by decide +kernel
theorem dX4_save_35 : decode cX4_save 35 = .ok (.aload_n 0, 1) := by decide +kernel
theorem dX4_save_36 : decode cX4_save 36 = .ok (.getfield 16, 3) := by decide +kernel
theorem dX4_save_39 : decode cX4_save 39 = .ok (.bipush 107, 2) := by decide +kernel
theorem dX4_save_41 : decode cX4_save 41 = .ok (.iload_n 1, 1) := by decide +kernel
theorem dX4_save_42 : decode cX4_save 42 = .ok (.imul, 1) := by decide +kernel
theorem dX4_save_43 : decode cX4_save 43 = .ok (.iload_n 2, 1) := by decide +kernel
theorem dX4_save_44 : decode cX4_save 44 = .ok (.iadd, 1) := by decide +kernel
theorem dX4_save_45 : decode cX4_save 45 = .ok (.aload_n 0, 1) := by decide +kernel
theorem dX4_save_46 : decode cX4_save 46 = .ok (.getfield 7, 3) := by decide +kernel
theorem dX4_save_49 : decode cX4_save 49 = .ok (.iload_n 2, 1) := by decide +kernel
theorem dX4_save_50 : decode cX4_save 50 = .ok (.iaload, 1) := by decide +kernel
theorem dX4_save_51 : decode cX4_save 51 = .ok (.iastore, 1) := by decide +kernel
theorem dX4_save_52 : decode cX4_save 52 = .ok (.iinc 2 1, 3) := by decide +kernel
theorem dX4_save_55 : decode cX4_save 55 = .ok (.goto (-26), 3) := by decide +kernel
theorem dX4_save_58 : decode cX4_save 58 = .ok (.aload_n 0, 1) := by decide +kernel
theorem dX4_save_59 : decode cX4_save 59 = .ok (.getfield 19, 3) := by decide +kernel
theorem dX4_save_62 : decode cX4_save 62 = .ok (.iload_n 1, 1) := by decide +kernel
theorem dX4_save_63 : decode cX4_save 63 = .ok (.iconst 1, 1) := by decide +kernel
theorem dX4_save_64 : decode cX4_save 64 = .ok (.bastore, 1) := by decide +kernel
theorem dX4_save_65 : decode cX4_save 65 = .ok (.aload_n 0, 1) := by decide +kernel
theorem dX4_save_66 : decode cX4_save 66 = .ok (.invokevirtual 160, 3) := by decide +kernel
theorem dX4_save_69 : decode cX4_save 69 = .ok (.ireturn, 1) := by decide +kernel
theorem dX4_restore_0 : decode cX4_restore 0 = .ok (.aload_n 0, 1) := by decide +kernel
theorem dX4_restore_1 : decode cX4_restore 1 = .ok (.iload_n 1, 1) := by decide +kernel
theorem dX4_restore_2 : decode cX4_restore 2 = .ok (.iconst 0, 1) := by decide +kernel
theorem dX4_restore_3 : decode cX4_restore 3 = .ok (.iconst 1, 1) := by decide +kernel
theorem dX4_restore_4 : decode cX4_restore 4 = .ok (.invokestatic 39, 3) := by decide +kernel
theorem dX4_restore_7 : decode cX4_restore 7 = .ok (.ifCond .ne 7, 3) := by decide +kernel
theorem dX4_restore_10 : decode cX4_restore 10 = .ok (.iconst 1, 1) := by decide +kernel
theorem dX4_restore_11 : decode cX4_restore 11 = .ok (.goto 17, 3) := by decide +kernel
theorem dX4_restore_14 : decode cX4_restore 14 = .ok (.aload_n 0, 1) := by decide +kernel
theorem dX4_restore_15 : decode cX4_restore 15 = .ok (.getfield 19, 3) := by decide +kernel
theorem dX4_restore_18 : decode cX4_restore 18 = .ok (.iload_n 1, 1) := by decide +kernel
theorem dX4_restore_19 : decode cX4_restore 19 = .ok (.baload, 1) := by decide +kernel
theorem dX4_restore_20 : decode cX4_restore 20 = .ok (.ifCond .ne 7, 3) := by decide +kernel
theorem dX4_restore_23 : decode cX4_restore 23 = .ok (.iconst 2, 1) := by decide +kernel
theorem dX4_restore_24 : decode cX4_restore 24 = .ok (.goto 4, 3) := by decide +kernel
theorem dX4_restore_27 : decode cX4_restore 27 = .ok (.iconst 0, 1) := by decide +kernel
theorem dX4_restore_28 : decode cX4_restore 28 = .ok (.putfield 35, 3) := by decide +kernel
theorem dX4_restore_31 : decode cX4_restore 31 = .ok (.aload_n 0, 1) := by decide +kernel
theorem dX4_restore_32 : decode cX4_restore 32 = .ok (.getfield 35, 3) := by decide +kernel
theorem dX4_restore_35 : decode cX4_restore 35 = .ok (.ifCond .le 5, 3) := by decide +kernel
theorem dX4_restore_38 : decode cX4_restore 38 = .ok (.iconst 0, 1) := by decide +kernel
theorem dX4_restore_39 : decode cX4_restore 39 = .ok (.ireturn, 1) := by decide +kernel
theorem dX4_restore_40 : decode cX4_restore 40 = .ok (.iconst 0, 1) := by decide +kernel
theorem dX4_restore_41 : decode cX4_restore 41 = .ok (.istore_n 2, 1) := by decide +kernel
theorem dX4_restore_42 : decode cX4_restore 42 = .ok (.iload_n 2, 1) := by decide +kernel
theorem dX4_restore_43 : decode cX4_restore 43 = .ok (.bipush 107, 2) := by decide +kernel
theorem dX4_restore_45 : decode cX4_restore 45 = .ok (.if_icmp .ge 26, 3) := by decide +kernel
theorem dX4_restore_48 : decode cX4_restore 48 = .ok (.aload_n 0, 1) := by decide +kernel
theorem dX4_restore_49 : decode cX4_restore 49 = .ok (.getfield 7, 3) := by decide +kernel
theorem dX4_restore_52 : decode cX4_restore 52 = .ok (.iload_n 2, 1) := by decide +kernel
theorem dX4_restore_53 : decode cX4_restore 53 = .ok (.aload_n 0, 1) := by decide +kernel
theorem dX4_restore_54 : decode cX4_restore 54 = .ok (.getfield 16, 3) := by decide +kernel
theorem dX4_restore_57 : decode cX4_restore 57 = .ok (.bipush 107, 2) := by decide +kernel
theorem dX4_restore_59 : decode cX4_restore 59 = .ok (.iload_n 1, 1) := by decide +kernel
theorem dX4_restore_60 : decode cX4_restore 60 = .ok (.imul, 1) := by decide +kernel
theorem dX4_restore_61 : decode cX4_restore 61 = .ok (.iload_n 2, 1) := by decide +kernel
theorem dX4_restore_62 : decode cX4_restore 62 = .ok (.iadd, 1) := by decide +kernel
theorem dX4_restore_63 : decode cX4_restore 63 = .ok (.iaload, 1) := by decide +kernel
theorem dX4_restore_64 : decode cX4_restore 64 = .ok (.iastore, 1) := by decide +kernel
theorem dX4_restore_65 : decode cX4_restore 65 = .ok (.iinc 2 1, 3) := by decide +kernel
theorem dX4_restore_68 : decode cX4_restore 68 = .ok (.goto (-26), 3) := by decide +kernel
theorem dX4_restore_71 : decode cX4_restore 71 = .ok (.aload_n 0, 1) := by decide +kernel
theorem dX4_restore_72 : decode cX4_restore 72 = .ok (.iconst 0, 1) := by decide +kernel
theorem dX4_restore_73 : decode cX4_restore 73 = .ok (.putfield 47, 3) := by decide +kernel
theorem dX4_restore_76 : decode cX4_restore 76 = .ok (.aload_n 0, 1) := by decide +kernel
theorem dX4_restore_77 : decode cX4_restore 77 = .ok (.invokevirtual 160, 3) := by decide +kernel
theorem dX4_restore_80 : decode cX4_restore 80 = .ok (.ireturn, 1) := by decide +kernel
theorem dJ6_bitCount_0f7a4_0 : decode cJ6_bitCount_0f7a4 0 = .ok (.iload_n 0, 1) := by decide +kernel
theorem dJ6_bitCount_0f7a4_1 : decode cJ6_bitCount_0f7a4 1 = .ok (.iload_n 0, 1) := by decide +kernel
theorem dJ6_bitCount_0f7a4_2 : decode cJ6_bitCount_0f7a4 2 = .ok (.iconst 1, 1) := by decide +kernel
theorem dJ6_bitCount_0f7a4_3 : decode cJ6_bitCount_0f7a4 3 = .ok (.iushr, 1) := by decide +kernel
theorem dJ6_bitCount_0f7a4_4 : decode cJ6_bitCount_0f7a4 4 = .ok (.ldc_w 265, 3) := by decide +kernel
theorem dJ6_bitCount_0f7a4_7 : decode cJ6_bitCount_0f7a4 7 = .ok (.iand, 1) := by decide +kernel
theorem dJ6_bitCount_0f7a4_8 : decode cJ6_bitCount_0f7a4 8 = .ok (.isub, 1) := by decide +kernel
theorem dJ6_bitCount_0f7a4_9 : decode cJ6_bitCount_0f7a4 9 = .ok (.istore_n 0, 1) := by decide +kernel
theorem dJ6_bitCount_0f7a4_10 : decode cJ6_bitCount_0f7a4 10 = .ok (.iload_n 0, 1) := by decide +kernel
theorem dJ6_bitCount_0f7a4_11 : decode cJ6_bitCount_0f7a4 11 = .ok (.ldc_w 266, 3) := by decide +kernel
theorem dJ6_bitCount_0f7a4_14 : decode cJ6_bitCount_0f7a4 14 = .ok (.iand, 1) := by decide +kernel
theorem dJ6_bitCount_0f7a4_15 : decode cJ6_bitCount_0f7a4 15 = .ok (.iload_n 0, 1) := by decide +kernel
theorem dJ6_bitCount_0f7a4_16 : decode cJ6_bitCount_0f7a4 16 = .ok (.iconst 2, 1) := by decide +kernel
theorem dJ6_bitCount_0f7a4_17 : decode cJ6_bitCount_0f7a4 17 = .ok (.iushr, 1) := by decide +kernel
theorem dJ6_bitCount_0f7a4_18 : decode cJ6_bitCount_0f7a4 18 = .ok (.ldc_w 266, 3) := by decide +kernel
theorem dJ6_bitCount_0f7a4_21 : decode cJ6_bitCount_0f7a4 21 = .ok (.iand, 1) := by decide +kernel
theorem dJ6_bitCount_0f7a4_22 : decode cJ6_bitCount_0f7a4 22 = .ok (.iadd, 1) := by decide +kernel
theorem dJ6_bitCount_0f7a4_23 : decode cJ6_bitCount_0f7a4 23 = .ok (.istore_n 0, 1) := by decide +kernel
theorem dJ6_bitCount_0f7a4_24 : decode cJ6_bitCount_0f7a4 24 = .ok (.iload_n 0, 1) := by decide +kernel
theorem dJ6_bitCount_0f7a4_25 : decode cJ6_bitCount_0f7a4 25 = .ok (.iload_n 0, 1) := by decide +kernel
theorem dJ6_bitCount_0f7a4_26 : decode cJ6_bitCount_0f7a4 26 = .ok (.iconst 4, 1) := by decide +kernel
theorem dJ6_bitCount_0f7a4_27 : decode cJ6_bitCount_0f7a4 27 = .ok (.iushr, 1) := by decide +kernel
theorem dJ6_bitCount_0f7a4_28 : decode cJ6_bitCount_0f7a4 28 = .ok (.iadd, 1) := by decide +kernel
theorem dJ6_bitCount_0f7a4_29 : decode cJ6_bitCount_0f7a4 29 = .ok (.ldc_w 267, 3) := by decide +kernel
theorem dJ6_bitCount_0f7a4_32 : decode cJ6_bitCount_0f7a4 32 = .ok (.iand, 1) := by decide +kernel
theorem dJ6_bitCount_0f7a4_33 : decode cJ6_bitCount_0f7a4 33 = .ok (.istore_n 0, 1) := by decide +kernel
theorem dJ6_bitCount_0f7a4_34 : decode cJ6_bitCount_0f7a4 34 = .ok (.iload_n 0, 1) := by decide +kernel
theorem dJ6_bitCount_0f7a4_35 : decode cJ6_bitCount_0f7a4 35 = .ok (.iload_n 0, 1) := by decide +kernel
theorem dJ6_bitCount_0f7a4_36 : decode cJ6_bitCount_0f7a4 36 = .ok (.bipush 8, 2) := by decide +kernel
theorem dJ6_bitCount_0f7a4_38 : decode cJ6_bitCount_0f7a4 38 = .ok (.iushr, 1) := by decide +kernel
theorem dJ6_bitCount_0f7a4_39 : decode cJ6_bitCount_0f7a4 39 = .ok (.iadd, 1) := by decide +kernel
theorem dJ6_bitCount_0f7a4_40 : decode cJ6_bitCount_0f7a4 40 = .ok (.istore_n 0, 1) := by decide +kernel
theorem dJ6_bitCount_0f7a4_41 : decode cJ6_bitCount_0f7a4 41 = .ok (.iload_n 0, 1) := by decide +kernel
theorem dJ6_bitCount_0f7a4_42 : decode cJ6_bitCount_0f7a4 42 = .ok (.iload_n 0, 1) := by decide +kernel
theorem dJ6_bitCount_0f7a4_43 : decode cJ6_bitCount_0f7a4 43 = .ok (.bipush 16, 2) := by decide +kernel
theorem dJ6_bitCount_0f7a4_45 : decode cJ6_bitCount_0f7a4 45 = .ok (.iushr, 1) := by decide +kernel
theorem dJ6_bitCount_0f7a4_46 : decode cJ6_bitCount_0f7a4 46 = .ok (.iadd, 1) := by decide +kernel
theorem dJ6_bitCount_0f7a4_47 : decode cJ6_bitCount_0f7a4 47 = .ok (.istore_n 0, 1) := by decide +kernel
theorem dJ6_bitCount_0f7a4_48 : decode cJ6_bitCount_0f7a4 48 = .ok (.iload_n 0, 1) := by decide +kernel
theorem dJ6_bitCount_0f7a4_49 : decode cJ6_bitCount_0f7a4 49 = .ok (.bipush 63, 2) := by decide +kernel
theorem dJ6_bitCount_0f7a4_51 : decode cJ6_bitCount_0f7a4 51 = .ok (.iand, 1) := by decide +kernel
theorem dJ6_bitCount_0f7a4_52 : decode cJ6_bitCount_0f7a4 52 = .ok (.ireturn, 1) := by decide +kernel
theorem dJ9_min_7cf53_0 : decode cJ9_min_7cf53 0 = .ok (.iload_n 0, 1) := by decide +kernel
theorem dJ9_min_7cf53_1 : decode cJ9_min_7cf53 1 = .ok (.iload_n 1, 1) := by decide +kernel
theorem dJ9_min_7cf53_2 : decode cJ9_min_7cf53 2 = .ok (.if_icmp .gt 7, 3) := by decide +kernel
theorem dJ9_min_7cf53_5 : decode cJ9_min_7cf53 5 = .ok (.iload_n 0, 1) := by decide +kernel
theorem dJ9_min_7cf53_6 : decode cJ9_min_7cf53 6 = .ok (.goto 4, 3) := by decide +kernel
theorem dJ9_min_7cf53_9 : decode cJ9_min_7cf53 9 = .ok (.iload_n 1, 1) := by decide +kernel
theorem dJ9_min_7cf53_10 : decode cJ9_min_7cf53 10 = .ok (.ireturn, 1) := by decide +kernel
theorem dL_append_0 : decode cL_append 0 = .ok (.aload_n 2, 1) := by decide +kernel
theorem dL_append_1 : decode cL_append 1 = .ok (.iconst 0, 1) := by decide +kernel
theorem dL_append_2 : decode cL_append 2 = .ok (.aload_n 0, 1) := by decide +kernel
theorem dL_append_3 : decode cL_append 3 = .ok (.iload_n 1, 1) := by decide +kernel
theorem dL_append_4 : decode cL_append 4 = .ok (.invokevirtual 7, 3) := by decide +kernel
theorem dL_append_7 : decode cL_append 7 = .ok (.i2l, 1) := by decide +kernel
theorem dL_append_8 : decode cL_append 8 = .ok (.lastore, 1) := by decide +kernel
theorem dL_append_9 : decode cL_append 9 = .ok (.goto 9, 3) := by decide +kernel
theorem dL_append_12 : decode cL_append 12 = .ok (.astore_n 3, 1) := by decide +kernel
theorem dL_append_13 : decode cL_append 13 = .ok (.iconst 1, 1) := by decide +kernel
theorem dL_append_14 : decode cL_append 14 = .ok (.ireturn, 1) := by decide +kernel
theorem dL_append_15 : decode cL_append 15 = .ok (.astore_n 3, 1) := by decide +kernel
theorem dL_append_16 : decode cL_append 16 = .ok (.iconst 2, 1) := by decide +kernel
theorem dL_append_17 : decode cL_append 17 = .ok (.ireturn, 1) := by decide +kernel
theorem dL_append_18 : decode cL_append 18 = .ok (.iconst 0, 1) := by decide +kernel
theorem dL_append_19 : decode cL_append 19 = .ok (.ireturn, 1) := by decide +kernel
theorem dL_load_0 : decode cL_load 0 = .ok (.aload_n 1, 1) := by decide +kernel
theorem dL_load_1 : decode cL_load 1 = .ok (.iconst 0, 1) := by decide +kernel
theorem dL_load_2 : decode cL_load 2 = .ok (.aload_n 0, 1) := by decide +kernel
theorem dL_load_3 : decode cL_load 3 = .ok (.invokevirtual 17, 3) := by decide +kernel
theorem dL_load_6 : decode cL_load 6 = .ok (.i2l, 1) := by decide +kernel
theorem dL_load_7 : decode cL_load 7 = .ok (.lastore, 1) := by decide +kernel
theorem dL_load_8 : decode cL_load 8 = .ok (.goto 6, 3) := by decide +kernel
theorem dL_load_11 : decode cL_load 11 = .ok (.astore_n 2, 1) := by decide +kernel
theorem dL_load_12 : decode cL_load 12 = .ok (.iconst 1, 1) := by decide +kernel
theorem dL_load_13 : decode cL_load 13 = .ok (.ireturn, 1) := by decide +kernel
theorem dL_load_14 : decode cL_load 14 = .ok (.iconst 0, 1) := by decide +kernel
theorem dL_load_15 : decode cL_load 15 = .ok (.ireturn, 1) := by decide +kernel
theorem dL_about_0 : decode cL_about 0 = .ok (.aload_n 2, 1) := by decide +kernel
theorem dL_about_1 : decode cL_about 1 = .ok (.iconst 0, 1) := by decide +kernel
theorem dL_about_2 : decode cL_about 2 = .ok (.aload_n 0, 1) := by decide +kernel
theorem dL_about_3 : decode cL_about 3 = .ok (.iload_n 1, 1) := by decide +kernel
theorem dL_about_4 : decode cL_about 4 = .ok (.invokevirtual 21, 3) := by decide +kernel
theorem dL_about_7 : decode cL_about 7 = .ok (.i2l, 1) := by decide +kernel
theorem dL_about_8 : decode cL_about 8 = .ok (.lastore, 1) := by decide +kernel
theorem dL_about_9 : decode cL_about 9 = .ok (.goto 6, 3) := by decide +kernel
theorem dL_about_12 : decode cL_about 12 = .ok (.astore_n 3, 1) := by decide +kernel
theorem dL_about_13 : decode cL_about 13 = .ok (.iconst 1, 1) := by decide +kernel
theorem dL_about_14 : decode cL_about 14 = .ok (.ireturn, 1) := by decide +kernel
theorem dL_about_15 : decode cL_about 15 = .ok (.iconst 0, 1) := by decide +kernel
theorem dL_about_16 : decode cL_about 16 = .ok (.ireturn, 1) := by decide +kernel
theorem dL_cell_0 : decode cL_cell 0 = .ok (.aload_n 3, 1) := by decide +kernel
theorem dL_cell_1 : decode cL_cell 1 = .ok (.iconst 0, 1) := by decide +kernel
theorem dL_cell_2 : decode cL_cell 2 = .ok (.aload_n 0, 1) := by decide +kernel
theorem dL_cell_3 : decode cL_cell 3 = .ok (.iload_n 1, 1) := by decide +kernel
theorem dL_cell_4 : decode cL_cell 4 = .ok (.iload_n 2, 1) := by decide +kernel
theorem dL_cell_5 : decode cL_cell 5 = .ok (.invokevirtual 24, 3) := by decide +kernel
theorem dL_cell_8 : decode cL_cell 8 = .ok (.i2l, 1) := by decide +kernel
theorem dL_cell_9 : decode cL_cell 9 = .ok (.lastore, 1) := by decide +kernel
theorem dL_cell_10 : decode cL_cell 10 = .ok (.goto 11, 3) := by decide +kernel
theorem dL_cell_13 : decode cL_cell 13 = .ok (.astore 4, 2) := by decide +kernel
theorem dL_cell_15 : decode cL_cell 15 = .ok (.iconst 1, 1) := by decide +kernel
theorem dL_cell_16 : decode cL_cell 16 = .ok (.ireturn, 1) := by decide +kernel
theorem dL_cell_17 : decode cL_cell 17 = .ok (.astore 4, 2) := by decide +kernel
theorem dL_cell_19 : decode cL_cell 19 = .ok (.iconst 2, 1) := by decide +kernel
theorem dL_cell_20 : decode cL_cell 20 = .ok (.ireturn, 1) := by decide +kernel
theorem dL_cell_21 : decode cL_cell 21 = .ok (.iconst 0, 1) := by decide +kernel
theorem dL_cell_22 : decode cL_cell 22 = .ok (.ireturn, 1) := by decide +kernel
theorem dL_loan_0 : decode cL_loan 0 = .ok (.aload_n 3, 1) := by decide +kernel
theorem dL_loan_1 : decode cL_loan 1 = .ok (.iconst 0, 1) := by decide +kernel
theorem dL_loan_2 : decode cL_loan 2 = .ok (.aload_n 0, 1) := by decide +kernel
theorem dL_loan_3 : decode cL_loan 3 = .ok (.iload_n 1, 1) := by decide +kernel
theorem dL_loan_4 : decode cL_loan 4 = .ok (.iload_n 2, 1) := by decide +kernel
theorem dL_loan_5 : decode cL_loan 5 = .ok (.invokevirtual 30, 3) := by decide +kernel
theorem dL_loan_8 : decode cL_loan 8 = .ok (.i2l, 1) := by decide +kernel
theorem dL_loan_9 : decode cL_loan 9 = .ok (.lastore, 1) := by decide +kernel
theorem dL_loan_10 : decode cL_loan 10 = .ok (.goto 11, 3) := by decide +kernel
theorem dL_loan_13 : decode cL_loan 13 = .ok (.astore 4, 2) := by decide +kernel
theorem dL_loan_15 : decode cL_loan 15 = .ok (.iconst 1, 1) := by decide +kernel
theorem dL_loan_16 : decode cL_loan 16 = .ok (.ireturn, 1) := by decide +kernel
theorem dL_loan_17 : decode cL_loan 17 = .ok (.astore 4, 2) := by decide +kernel
theorem dL_loan_19 : decode cL_loan 19 = .ok (.iconst 2, 1) := by decide +kernel
theorem dL_loan_20 : decode cL_loan 20 = .ok (.ireturn, 1) := by decide +kernel
theorem dL_loan_21 : decode cL_loan 21 = .ok (.iconst 0, 1) := by decide +kernel
theorem dL_loan_22 : decode cL_loan 22 = .ok (.ireturn, 1) := by decide +kernel
theorem dL_order_0 : decode cL_order 0 = .ok (.aload_n 2, 1) := by decide +kernel
theorem dL_order_1 : decode cL_order 1 = .ok (.iconst 0, 1) := by decide +kernel
theorem dL_order_2 : decode cL_order 2 = .ok (.aload_n 0, 1) := by decide +kernel
theorem dL_order_3 : decode cL_order 3 = .ok (.iload_n 1, 1) := by decide +kernel
theorem dL_order_4 : decode cL_order 4 = .ok (.invokevirtual 33, 3) := by decide +kernel
theorem dL_order_7 : decode cL_order 7 = .ok (.i2l, 1) := by decide +kernel
theorem dL_order_8 : decode cL_order 8 = .ok (.lastore, 1) := by decide +kernel
theorem dL_order_9 : decode cL_order 9 = .ok (.goto 6, 3) := by decide +kernel
theorem dL_order_12 : decode cL_order 12 = .ok (.astore_n 3, 1) := by decide +kernel
theorem dL_order_13 : decode cL_order 13 = .ok (.iconst 1, 1) := by decide +kernel
theorem dL_order_14 : decode cL_order 14 = .ok (.ireturn, 1) := by decide +kernel
theorem dL_order_15 : decode cL_order 15 = .ok (.iconst 0, 1) := by decide +kernel
theorem dL_order_16 : decode cL_order 16 = .ok (.ireturn, 1) := by decide +kernel
theorem dL_addCell_0 : decode cL_addCell 0 = .ok (.aload 4, 2) := by decide +kernel
theorem dL_addCell_2 : decode cL_addCell 2 = .ok (.iconst 0, 1) := by decide +kernel
theorem dL_addCell_3 : decode cL_addCell 3 = .ok (.aload_n 0, 1) := by decide +kernel
theorem dL_addCell_4 : decode cL_addCell 4 = .ok (.iload_n 1, 1) := by decide +kernel
theorem dL_addCell_5 : decode cL_addCell 5 = .ok (.iload_n 2, 1) := by decide +kernel
theorem dL_addCell_6 : decode cL_addCell 6 = .ok (.iload_n 3, 1) := by decide +kernel
theorem dL_addCell_7 : decode cL_addCell 7 = .ok (.invokevirtual 36, 3) := by decide +kernel
theorem dL_addCell_10 : decode cL_addCell 10 = .ok (.i2l, 1) := by decide +kernel
theorem dL_addCell_11 : decode cL_addCell 11 = .ok (.lastore, 1) := by decide +kernel
theorem dL_addCell_12 : decode cL_addCell 12 = .ok (.goto 11, 3) := by decide +kernel
theorem dL_addCell_15 : decode cL_addCell 15 = .ok (.astore 5, 2) := by decide +kernel
theorem dL_addCell_17 : decode cL_addCell 17 = .ok (.iconst 1, 1) := by decide +kernel
theorem dL_addCell_18 : decode cL_addCell 18 = .ok (.ireturn, 1) := by decide +kernel
theorem dL_addCell_19 : decode cL_addCell 19 = .ok (.astore 5, 2) := by decide +kernel
theorem dL_addCell_21 : decode cL_addCell 21 = .ok (.iconst 2, 1) := by decide +kernel
theorem dL_addCell_22 : decode cL_addCell 22 = .ok (.ireturn, 1) := by decide +kernel
theorem dL_addCell_23 : decode cL_addCell 23 = .ok (.iconst 0, 1) := by decide +kernel
theorem dL_addCell_24 : decode cL_addCell 24 = .ok (.ireturn, 1) := by decide +kernel
theorem dL_lend_0 : decode cL_lend 0 = .ok (.aload 5, 2) := by decide +kernel
theorem dL_lend_2 : decode cL_lend 2 = .ok (.iconst 0, 1) := by decide +kernel
theorem dL_lend_3 : decode cL_lend 3 = .ok (.aload_n 0, 1) := by decide +kernel
theorem dL_lend_4 : decode cL_lend 4 = .ok (.iload_n 1, 1) := by decide +kernel
theorem dL_lend_5 : decode cL_lend 5 = .ok (.iload_n 2, 1) := by decide +kernel
theorem dL_lend_6 : decode cL_lend 6 = .ok (.iload_n 3, 1) := by decide +kernel
theorem dL_lend_7 : decode cL_lend 7 = .ok (.iload 4, 2) := by decide +kernel
theorem dL_lend_9 : decode cL_lend 9 = .ok (.invokevirtual 40, 3) := by decide +kernel
theorem dL_lend_12 : decode cL_lend 12 = .ok (.i2l, 1) := by decide +kernel
theorem dL_lend_13 : decode cL_lend 13 = .ok (.lastore, 1) := by decide +kernel
theorem dL_lend_14 : decode cL_lend 14 = .ok (.goto 15, 3) := by decide +kernel
theorem dL_lend_17 : decode cL_lend 17 = .ok (.astore 6, 2) := by decide +kernel
theorem dL_lend_19 : decode cL_lend 19 = .ok (.iconst 1, 1) := by decide +kernel
theorem dL_lend_20 : decode cL_lend 20 = .ok (.ireturn, 1) := by decide +kernel
theorem dL_lend_21 : decode cL_lend 21 = .ok (.astore 6, 2) := by decide +kernel
theorem dL_lend_23 : decode cL_lend 23 = .ok (.iconst 2, 1) := by decide +kernel
theorem dL_lend_24 : decode cL_lend 24 = .ok (.ireturn, 1) := by decide +kernel
theorem dL_lend_25 : decode cL_lend 25 = .ok (.astore 6, 2) := by decide +kernel
theorem dL_lend_27 : decode cL_lend 27 = .ok (.iconst 3, 1) := by decide +kernel
theorem dL_lend_28 : decode cL_lend 28 = .ok (.ireturn, 1) := by decide +kernel
theorem dL_lend_29 : decode cL_lend 29 = .ok (.iconst 0, 1) := by decide +kernel
theorem dL_lend_30 : decode cL_lend 30 = .ok (.ireturn, 1) := by decide +kernel
theorem dL_repay_0 : decode cL_repay 0 = .ok (.aload_n 3, 1) := by decide +kernel
theorem dL_repay_1 : decode cL_repay 1 = .ok (.iconst 0, 1) := by decide +kernel
theorem dL_repay_2 : decode cL_repay 2 = .ok (.aload_n 0, 1) := by decide +kernel
theorem dL_repay_3 : decode cL_repay 3 = .ok (.iload_n 1, 1) := by decide +kernel
theorem dL_repay_4 : decode cL_repay 4 = .ok (.iload_n 2, 1) := by decide +kernel
theorem dL_repay_5 : decode cL_repay 5 = .ok (.invokevirtual 44, 3) := by decide +kernel
theorem dL_repay_8 : decode cL_repay 8 = .ok (.i2l, 1) := by decide +kernel
theorem dL_repay_9 : decode cL_repay 9 = .ok (.lastore, 1) := by decide +kernel
theorem dL_repay_10 : decode cL_repay 10 = .ok (.goto 15, 3) := by decide +kernel
theorem dL_repay_13 : decode cL_repay 13 = .ok (.astore 4, 2) := by decide +kernel
theorem dL_repay_15 : decode cL_repay 15 = .ok (.iconst 1, 1) := by decide +kernel
theorem dL_repay_16 : decode cL_repay 16 = .ok (.ireturn, 1) := by decide +kernel
theorem dL_repay_17 : decode cL_repay 17 = .ok (.astore 4, 2) := by decide +kernel
theorem dL_repay_19 : decode cL_repay 19 = .ok (.iconst 2, 1) := by decide +kernel
theorem dL_repay_20 : decode cL_repay 20 = .ok (.ireturn, 1) := by decide +kernel
theorem dL_repay_21 : decode cL_repay 21 = .ok (.astore 4, 2) := by decide +kernel
theorem dL_repay_23 : decode cL_repay 23 = .ok (.iconst 3, 1) := by decide +kernel
theorem dL_repay_24 : decode cL_repay 24 = .ok (.ireturn, 1) := by decide +kernel
theorem dL_repay_25 : decode cL_repay 25 = .ok (.iconst 0, 1) := by decide +kernel
theorem dL_repay_26 : decode cL_repay 26 = .ok (.ireturn, 1) := by decide +kernel
theorem dL_setLeak_0 : decode cL_setLeak 0 = .ok (.aload_n 3, 1) := by decide +kernel
theorem dL_setLeak_1 : decode cL_setLeak 1 = .ok (.iconst 0, 1) := by decide +kernel
theorem dL_setLeak_2 : decode cL_setLeak 2 = .ok (.aload_n 0, 1) := by decide +kernel
theorem dL_setLeak_3 : decode cL_setLeak 3 = .ok (.iload_n 1, 1) := by decide +kernel
theorem dL_setLeak_4 : decode cL_setLeak 4 = .ok (.iload_n 2, 1) := by decide +kernel
theorem dL_setLeak_5 : decode cL_setLeak 5 = .ok (.invokevirtual 47, 3) := by decide +kernel
theorem dL_setLeak_8 : decode cL_setLeak 8 = .ok (.i2l, 1) := by decide +kernel
theorem dL_setLeak_9 : decode cL_setLeak 9 = .ok (.lastore, 1) := by decide +kernel
theorem dL_setLeak_10 : decode cL_setLeak 10 = .ok (.goto 11, 3) := by decide +kernel
theorem dL_setLeak_13 : decode cL_setLeak 13 = .ok (.astore 4, 2) := by decide +kernel
theorem dL_setLeak_15 : decode cL_setLeak 15 = .ok (.iconst 1, 1) := by decide +kernel
theorem dL_setLeak_16 : decode cL_setLeak 16 = .ok (.ireturn, 1) := by decide +kernel
theorem dL_setLeak_17 : decode cL_setLeak 17 = .ok (.astore 4, 2) := by decide +kernel
theorem dL_setLeak_19 : decode cL_setLeak 19 = .ok (.iconst 2, 1) := by decide +kernel
theorem dL_setLeak_20 : decode cL_setLeak 20 = .ok (.ireturn, 1) := by decide +kernel
theorem dL_setLeak_21 : decode cL_setLeak 21 = .ok (.iconst 0, 1) := by decide +kernel
theorem dL_setLeak_22 : decode cL_setLeak 22 = .ok (.ireturn, 1) := by decide +kernel
theorem dL_charge_0 : decode cL_charge 0 = .ok (.aload_n 2, 1) := by decide +kernel
theorem dL_charge_1 : decode cL_charge 1 = .ok (.iconst 0, 1) := by decide +kernel
theorem dL_charge_2 : decode cL_charge 2 = .ok (.aload_n 0, 1) := by decide +kernel
theorem dL_charge_3 : decode cL_charge 3 = .ok (.iload_n 1, 1) := by decide +kernel
theorem dL_charge_4 : decode cL_charge 4 = .ok (.invokevirtual 50, 3) := by decide +kernel
theorem dL_charge_7 : decode cL_charge 7 = .ok (.i2l, 1) := by decide +kernel
theorem dL_charge_8 : decode cL_charge 8 = .ok (.lastore, 1) := by decide +kernel
theorem dL_charge_9 : decode cL_charge 9 = .ok (.goto 6, 3) := by decide +kernel
theorem dL_charge_12 : decode cL_charge 12 = .ok (.astore_n 3, 1) := by decide +kernel
theorem dL_charge_13 : decode cL_charge 13 = .ok (.iconst 1, 1) := by decide +kernel
theorem dL_charge_14 : decode cL_charge 14 = .ok (.ireturn, 1) := by decide +kernel
theorem dL_charge_15 : decode cL_charge 15 = .ok (.iconst 0, 1) := by decide +kernel
theorem dL_charge_16 : decode cL_charge 16 = .ok (.ireturn, 1) := by decide +kernel
theorem dL_draw_0 : decode cL_draw 0 = .ok (.aload_n 2, 1) := by decide +kernel
theorem dL_draw_1 : decode cL_draw 1 = .ok (.iconst 0, 1) := by decide +kernel
theorem dL_draw_2 : decode cL_draw 2 = .ok (.aload_n 0, 1) := by decide +kernel
theorem dL_draw_3 : decode cL_draw 3 = .ok (.iload_n 1, 1) := by decide +kernel
theorem dL_draw_4 : decode cL_draw 4 = .ok (.invokevirtual 53, 3) := by decide +kernel
theorem dL_draw_7 : decode cL_draw 7 = .ok (.i2l, 1) := by decide +kernel
theorem dL_draw_8 : decode cL_draw 8 = .ok (.lastore, 1) := by decide +kernel
theorem dL_draw_9 : decode cL_draw 9 = .ok (.goto 9, 3) := by decide +kernel
theorem dL_draw_12 : decode cL_draw 12 = .ok (.astore_n 3, 1) := by decide +kernel
theorem dL_draw_13 : decode cL_draw 13 = .ok (.iconst 1, 1) := by decide +kernel
theorem dL_draw_14 : decode cL_draw 14 = .ok (.ireturn, 1) := by decide +kernel
theorem dL_draw_15 : decode cL_draw 15 = .ok (.astore_n 3, 1) := by decide +kernel
theorem dL_draw_16 : decode cL_draw 16 = .ok (.iconst 2, 1) := by decide +kernel
theorem dL_draw_17 : decode cL_draw 17 = .ok (.ireturn, 1) := by decide +kernel
theorem dL_draw_18 : decode cL_draw 18 = .ok (.iconst 0, 1) := by decide +kernel
theorem dL_draw_19 : decode cL_draw 19 = .ok (.ireturn, 1) := by decide +kernel
theorem dL_pass_0 : decode cL_pass 0 = .ok (.aload_n 2, 1) := by decide +kernel
theorem dL_pass_1 : decode cL_pass 1 = .ok (.iconst 0, 1) := by decide +kernel
theorem dL_pass_2 : decode cL_pass 2 = .ok (.aload_n 0, 1) := by decide +kernel
theorem dL_pass_3 : decode cL_pass 3 = .ok (.iload_n 1, 1) := by decide +kernel
theorem dL_pass_4 : decode cL_pass 4 = .ok (.invokevirtual 56, 3) := by decide +kernel
theorem dL_pass_7 : decode cL_pass 7 = .ok (.i2l, 1) := by decide +kernel
theorem dL_pass_8 : decode cL_pass 8 = .ok (.lastore, 1) := by decide +kernel
theorem dL_pass_9 : decode cL_pass 9 = .ok (.goto 6, 3) := by decide +kernel
theorem dL_pass_12 : decode cL_pass 12 = .ok (.astore_n 3, 1) := by decide +kernel
theorem dL_pass_13 : decode cL_pass 13 = .ok (.iconst 1, 1) := by decide +kernel
theorem dL_pass_14 : decode cL_pass 14 = .ok (.ireturn, 1) := by decide +kernel
theorem dL_pass_15 : decode cL_pass 15 = .ok (.iconst 0, 1) := by decide +kernel
theorem dL_pass_16 : decode cL_pass 16 = .ok (.ireturn, 1) := by decide +kernel
theorem dL_undo_0 : decode cL_undo 0 = .ok (.aload_n 1, 1) := by decide +kernel
theorem dL_undo_1 : decode cL_undo 1 = .ok (.iconst 0, 1) := by decide +kernel
theorem dL_undo_2 : decode cL_undo 2 = .ok (.aload_n 0, 1) := by decide +kernel
theorem dL_undo_3 : decode cL_undo 3 = .ok (.invokevirtual 59, 3) := by decide +kernel
theorem dL_undo_6 : decode cL_undo 6 = .ok (.i2l, 1) := by decide +kernel
theorem dL_undo_7 : decode cL_undo 7 = .ok (.lastore, 1) := by decide +kernel
theorem dL_undo_8 : decode cL_undo 8 = .ok (.goto 6, 3) := by decide +kernel
theorem dL_undo_11 : decode cL_undo 11 = .ok (.astore_n 2, 1) := by decide +kernel
theorem dL_undo_12 : decode cL_undo 12 = .ok (.iconst 1, 1) := by decide +kernel
theorem dL_undo_13 : decode cL_undo 13 = .ok (.ireturn, 1) := by decide +kernel
theorem dL_undo_14 : decode cL_undo 14 = .ok (.iconst 0, 1) := by decide +kernel
theorem dL_undo_15 : decode cL_undo 15 = .ok (.ireturn, 1) := by decide +kernel
theorem dL_holds_0 : decode cL_holds 0 = .ok (.aload_n 2, 1) := by decide +kernel
theorem dL_holds_1 : decode cL_holds 1 = .ok (.iconst 0, 1) := by decide +kernel
theorem dL_holds_2 : decode cL_holds 2 = .ok (.aload_n 0, 1) := by decide +kernel
theorem dL_holds_3 : decode cL_holds 3 = .ok (.iload_n 1, 1) := by decide +kernel
theorem dL_holds_4 : decode cL_holds 4 = .ok (.invokevirtual 62, 3) := by decide +kernel
theorem dL_holds_7 : decode cL_holds 7 = .ok (.i2l, 1) := by decide +kernel
theorem dL_holds_8 : decode cL_holds 8 = .ok (.lastore, 1) := by decide +kernel
theorem dL_holds_9 : decode cL_holds 9 = .ok (.goto 6, 3) := by decide +kernel
theorem dL_holds_12 : decode cL_holds 12 = .ok (.astore_n 3, 1) := by decide +kernel
theorem dL_holds_13 : decode cL_holds 13 = .ok (.iconst 1, 1) := by decide +kernel
theorem dL_holds_14 : decode cL_holds 14 = .ok (.ireturn, 1) := by decide +kernel
theorem dL_holds_15 : decode cL_holds 15 = .ok (.iconst 0, 1) := by decide +kernel
theorem dL_holds_16 : decode cL_holds 16 = .ok (.ireturn, 1) := by decide +kernel
theorem dL_draws_0 : decode cL_draws 0 = .ok (.aload_n 2, 1) := by decide +kernel
theorem dL_draws_1 : decode cL_draws 1 = .ok (.iconst 0, 1) := by decide +kernel
theorem dL_draws_2 : decode cL_draws 2 = .ok (.aload_n 0, 1) := by decide +kernel
theorem dL_draws_3 : decode cL_draws 3 = .ok (.iload_n 1, 1) := by decide +kernel
theorem dL_draws_4 : decode cL_draws 4 = .ok (.invokevirtual 65, 3) := by decide +kernel
theorem dL_draws_7 : decode cL_draws 7 = .ok (.i2l, 1) := by decide +kernel
theorem dL_draws_8 : decode cL_draws 8 = .ok (.lastore, 1) := by decide +kernel
theorem dL_draws_9 : decode cL_draws 9 = .ok (.goto 6, 3) := by decide +kernel
theorem dL_draws_12 : decode cL_draws 12 = .ok (.astore_n 3, 1) := by decide +kernel
theorem dL_draws_13 : decode cL_draws 13 = .ok (.iconst 1, 1) := by decide +kernel
theorem dL_draws_14 : decode cL_draws 14 = .ok (.ireturn, 1) := by decide +kernel
theorem dL_draws_15 : decode cL_draws 15 = .ok (.iconst 0, 1) := by decide +kernel
theorem dL_draws_16 : decode cL_draws 16 = .ok (.ireturn, 1) := by decide +kernel
theorem dL_bestLender_0 : decode cL_bestLender 0 = .ok (.aload_n 3, 1) := by decide +kernel
theorem dL_bestLender_1 : decode cL_bestLender 1 = .ok (.iconst 0, 1) := by decide +kernel
theorem dL_bestLender_2 : decode cL_bestLender 2 = .ok (.aload_n 0, 1) := by decide +kernel
theorem dL_bestLender_3 : decode cL_bestLender 3 = .ok (.iload_n 1, 1) := by decide +kernel
theorem dL_bestLender_4 : decode cL_bestLender 4 = .ok (.iload_n 2, 1) := by decide +kernel
