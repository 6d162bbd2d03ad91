theorem dX4_beginsStep_22 : decode cX4_beginsStep 22 = .ok (.isub, 1) := by decide +kernel
theorem dX4_beginsStep_23 : decode cX4_beginsStep 23 = .ok (.iaload, 1) := by decide +kernel
theorem dX4_beginsStep_24 : decode cX4_beginsStep 24 = .ok (.invokestatic 35, 3) := by decide +kernel
theorem dX4_beginsStep_27 : decode cX4_beginsStep 27 = .ok (.ifCond .ne 7, 3) := by decide +kernel
theorem dX4_beginsStep_30 : decode cX4_beginsStep 30 = .ok (.iconst 1, 1) := by decide +kernel
theorem dX4_beginsStep_31 : decode cX4_beginsStep 31 = .ok (.goto 4, 3) := by decide +kernel
theorem dX4_beginsStep_34 : decode cX4_beginsStep 34 = .ok (.iconst 0, 1) := by decide +kernel
theorem dX4_beginsStep_35 : decode cX4_beginsStep 35 = .ok (.ireturn, 1) := by decide +kernel
theorem dX4_countSteps_0 : decode cX4_countSteps 0 = .ok (.iconst 0, 1) := by decide +kernel
theorem dX4_countSteps_1 : decode cX4_countSteps 1 = .ok (.istore_n 1, 1) := by decide +kernel
theorem dX4_countSteps_2 : decode cX4_countSteps 2 = .ok (.iconst 0, 1) := by decide +kernel
theorem dX4_countSteps_3 : decode cX4_countSteps 3 = .ok (.istore_n 2, 1) := by decide +kernel
theorem dX4_countSteps_4 : decode cX4_countSteps 4 = .ok (.iload_n 2, 1) := by decide +kernel
theorem dX4_countSteps_5 : decode cX4_countSteps 5 = .ok (.aload_n 0, 1) := by decide +kernel
theorem dX4_countSteps_6 : decode cX4_countSteps 6 = .ok (.getfield 15, 3) := by decide +kernel
theorem dX4_countSteps_9 : decode cX4_countSteps 9 = .ok (.if_icmp .ge 25, 3) := by decide +kernel
theorem dX4_countSteps_12 : decode cX4_countSteps 12 = .ok (.iload_n 1, 1) := by decide +kernel
theorem dX4_countSteps_13 : decode cX4_countSteps 13 = .ok (.aload_n 0, 1) := by decide +kernel
theorem dX4_countSteps_14 : decode cX4_countSteps 14 = .ok (.iload_n 2, 1) := by decide +kernel
theorem dX4_countSteps_15 : decode cX4_countSteps 15 = .ok (.invokevirtual 48, 3) := by decide +kernel
theorem dX4_countSteps_18 : decode cX4_countSteps 18 = .ok (.ifCond .eq 7, 3) := by decide +kernel
theorem dX4_countSteps_21 : decode cX4_countSteps 21 = .ok (.iconst 1, 1) := by decide +kernel
theorem dX4_countSteps_22 : decode cX4_countSteps 22 = .ok (.goto 4, 3) := by decide +kernel
theorem dX4_countSteps_25 : decode cX4_countSteps 25 = .ok (.iconst 0, 1) := by decide +kernel
theorem dX4_countSteps_26 : decode cX4_countSteps 26 = .ok (.iadd, 1) := by decide +kernel
theorem dX4_countSteps_27 : decode cX4_countSteps 27 = .ok (.istore_n 1, 1) := by decide +kernel
theorem dX4_countSteps_28 : decode cX4_countSteps 28 = .ok (.iinc 2 1, 3) := by decide +kernel
theorem dX4_countSteps_31 : decode cX4_countSteps 31 = .ok (.goto (-27), 3) := by decide +kernel
theorem dX4_countSteps_34 : decode cX4_countSteps 34 = .ok (.iload_n 1, 1) := by decide +kernel
theorem dX4_countSteps_35 : decode cX4_countSteps 35 = .ok (.ireturn, 1) := by decide +kernel
theorem dX4_findStep_0 : decode cX4_findStep 0 = .ok (.iconst 0, 1) := by decide +kernel
theorem dX4_findStep_1 : decode cX4_findStep 1 = .ok (.istore_n 2, 1) := by decide +kernel
theorem dX4_findStep_2 : decode cX4_findStep 2 = .ok (.iconst 0, 1) := by decide +kernel
theorem dX4_findStep_3 : decode cX4_findStep 3 = .ok (.istore_n 3, 1) := by decide +kernel
theorem dX4_findStep_4 : decode cX4_findStep 4 = .ok (.iload_n 3, 1) := by decide +kernel
theorem dX4_findStep_5 : decode cX4_findStep 5 = .ok (.aload_n 0, 1) := by decide +kernel
theorem dX4_findStep_6 : decode cX4_findStep 6 = .ok (.getfield 15, 3) := by decide +kernel
theorem dX4_findStep_9 : decode cX4_findStep 9 = .ok (.if_icmp .ge 27, 3) := by decide +kernel
theorem dX4_findStep_12 : decode cX4_findStep 12 = .ok (.aload_n 0, 1) := by decide +kernel
theorem dX4_findStep_13 : decode cX4_findStep 13 = .ok (.iload_n 3, 1) := by decide +kernel
theorem dX4_findStep_14 : decode cX4_findStep 14 = .ok (.invokevirtual 48, 3) := by decide +kernel
theorem dX4_findStep_17 : decode cX4_findStep 17 = .ok (.ifCond .eq 13, 3) := by decide +kernel
theorem dX4_findStep_20 : decode cX4_findStep 20 = .ok (.iload_n 2, 1) := by decide +kernel
theorem dX4_findStep_21 : decode cX4_findStep 21 = .ok (.iload_n 1, 1) := by decide +kernel
theorem dX4_findStep_22 : decode cX4_findStep 22 = .ok (.if_icmp .ne 5, 3) := by decide +kernel
theorem dX4_findStep_25 : decode cX4_findStep 25 = .ok (.iload_n 3, 1) := by decide +kernel
theorem dX4_findStep_26 : decode cX4_findStep 26 = .ok (.ireturn, 1) := by decide +kernel
theorem dX4_findStep_27 : decode cX4_findStep 27 = .ok (.iinc 2 1, 3) := by decide +kernel
theorem dX4_findStep_30 : decode cX4_findStep 30 = .ok (.iinc 3 1, 3) := by decide +kernel
theorem dX4_findStep_33 : decode cX4_findStep 33 = .ok (.goto (-29), 3) := by decide +kernel
theorem dX4_findStep_36 : decode cX4_findStep 36 = .ok (.iconst (-1), 1) := by decide +kernel
theorem dX4_findStep_37 : decode cX4_findStep 37 = .ok (.ireturn, 1) := by decide +kernel
theorem dX4_endOfStep_0 : decode cX4_endOfStep 0 = .ok (.iload_n 1, 1) := by decide +kernel
theorem dX4_endOfStep_1 : decode cX4_endOfStep 1 = .ok (.iconst 1, 1) := by decide +kernel
theorem dX4_endOfStep_2 : decode cX4_endOfStep 2 = .ok (.iadd, 1) := by decide +kernel
theorem dX4_endOfStep_3 : decode cX4_endOfStep 3 = .ok (.istore_n 2, 1) := by decide +kernel
theorem dX4_endOfStep_4 : decode cX4_endOfStep 4 = .ok (.iload_n 2, 1) := by decide +kernel
theorem dX4_endOfStep_5 : decode cX4_endOfStep 5 = .ok (.aload_n 0, 1) := by decide +kernel
theorem dX4_endOfStep_6 : decode cX4_endOfStep 6 = .ok (.getfield 15, 3) := by decide +kernel
theorem dX4_endOfStep_9 : decode cX4_endOfStep 9 = .ok (.if_icmp .ge 17, 3) := by decide +kernel
theorem dX4_endOfStep_12 : decode cX4_endOfStep 12 = .ok (.aload_n 0, 1) := by decide +kernel
theorem dX4_endOfStep_13 : decode cX4_endOfStep 13 = .ok (.iload_n 2, 1) := by decide +kernel
theorem dX4_endOfStep_14 : decode cX4_endOfStep 14 = .ok (.invokevirtual 48, 3) := by decide +kernel
theorem dX4_endOfStep_17 : decode cX4_endOfStep 17 = .ok (.ifCond .ne 9, 3) := by decide +kernel
theorem dX4_endOfStep_20 : decode cX4_endOfStep 20 = .ok (.iinc 2 1, 3) := by decide +kernel
theorem dX4_endOfStep_23 : decode cX4_endOfStep 23 = .ok (.goto (-19), 3) := by decide +kernel
theorem dX4_endOfStep_26 : decode cX4_endOfStep 26 = .ok (.iload_n 2, 1) := by decide +kernel
theorem dX4_endOfStep_27 : decode cX4_endOfStep 27 = .ok (.ireturn, 1) := by decide +kernel
theorem dX4_ask_0 : decode cX4_ask 0 = .ok (.aload_n 0, 1) := by decide +kernel
theorem dX4_ask_1 : decode cX4_ask 1 = .ok (.iload_n 1, 1) := by decide +kernel
theorem dX4_ask_2 : decode cX4_ask 2 = .ok (.invokevirtual 51, 3) := by decide +kernel
theorem dX4_ask_5 : decode cX4_ask 5 = .ok (.istore_n 3, 1) := by decide +kernel
theorem dX4_ask_6 : decode cX4_ask 6 = .ok (.iload_n 3, 1) := by decide +kernel
theorem dX4_ask_7 : decode cX4_ask 7 = .ok (.iconst (-1), 1) := by decide +kernel
theorem dX4_ask_8 : decode cX4_ask 8 = .ok (.if_icmp .eq 7, 3) := by decide +kernel
theorem dX4_ask_11 : decode cX4_ask 11 = .ok (.iload_n 2, 1) := by decide +kernel
theorem dX4_ask_12 : decode cX4_ask 12 = .ok (.ifCond .ge 5, 3) := by decide +kernel
theorem dX4_ask_15 : decode cX4_ask 15 = .ok (.iconst (-1), 1) := by decide +kernel
theorem dX4_ask_16 : decode cX4_ask 16 = .ok (.ireturn, 1) := by decide +kernel
theorem dX4_ask_17 : decode cX4_ask 17 = .ok (.aload_n 0, 1) := by decide +kernel
theorem dX4_ask_18 : decode cX4_ask 18 = .ok (.getfield 9, 3) := by decide +kernel
theorem dX4_ask_21 : decode cX4_ask 21 = .ok (.iload_n 3, 1) := by decide +kernel
theorem dX4_ask_22 : decode cX4_ask 22 = .ok (.iaload, 1) := by decide +kernel
theorem dX4_ask_23 : decode cX4_ask 23 = .ok (.istore 4, 2) := by decide +kernel
theorem dX4_ask_25 : decode cX4_ask 25 = .ok (.iload 4, 2) := by decide +kernel
theorem dX4_ask_27 : decode cX4_ask 27 = .ok (.invokestatic 35, 3) := by decide +kernel
theorem dX4_ask_30 : decode cX4_ask 30 = .ok (.ifCond .eq 15, 3) := by decide +kernel
theorem dX4_ask_33 : decode cX4_ask 33 = .ok (.aload_n 0, 1) := by decide +kernel
theorem dX4_ask_34 : decode cX4_ask 34 = .ok (.iload_n 3, 1) := by decide +kernel
theorem dX4_ask_35 : decode cX4_ask 35 = .ok (.aload_n 0, 1) := by decide +kernel
theorem dX4_ask_36 : decode cX4_ask 36 = .ok (.iload_n 3, 1) := by decide +kernel
theorem dX4_ask_37 : decode cX4_ask 37 = .ok (.invokevirtual 55, 3) := by decide +kernel
theorem dX4_ask_40 : decode cX4_ask 40 = .ok (.iload_n 2, 1) := by decide +kernel
theorem dX4_ask_41 : decode cX4_ask 41 = .ok (.invokevirtual 58, 3) := by decide +kernel
theorem dX4_ask_44 : decode cX4_ask 44 = .ok (.ireturn, 1) := by decide +kernel
theorem dX4_ask_45 : decode cX4_ask 45 = .ok (.iload_n 2, 1) := by decide +kernel
theorem dX4_ask_46 : decode cX4_ask 46 = .ok (.ifCond .ne 14, 3) := by decide +kernel
theorem dX4_ask_49 : decode cX4_ask 49 = .ok (.iload 4, 2) := by decide +kernel
theorem dX4_ask_51 : decode cX4_ask 51 = .ok (.ifCond .ge 7, 3) := by decide +kernel
theorem dX4_ask_54 : decode cX4_ask 54 = .ok (.iconst 2, 1) := by decide +kernel
theorem dX4_ask_55 : decode cX4_ask 55 = .ok (.goto 4, 3) := by decide +kernel
theorem dX4_ask_58 : decode cX4_ask 58 = .ok (.iconst 0, 1) := by decide +kernel
theorem dX4_ask_59 : decode cX4_ask 59 = .ok (.ireturn, 1) := by decide +kernel
theorem dX4_ask_60 : decode cX4_ask 60 = .ok (.iload_n 2, 1) := by decide +kernel
theorem dX4_ask_61 : decode cX4_ask 61 = .ok (.iconst 1, 1) := by decide +kernel
theorem dX4_ask_62 : decode cX4_ask 62 = .ok (.if_icmp .le 7, 3) := by decide +kernel
theorem dX4_ask_65 : decode cX4_ask 65 = .ok (.iconst (-1), 1) := by decide +kernel
theorem dX4_ask_66 : decode cX4_ask 66 = .ok (.goto 19, 3) := by decide +kernel
theorem dX4_ask_69 : decode cX4_ask 69 = .ok (.iload 4, 2) := by decide +kernel
theorem dX4_ask_71 : decode cX4_ask 71 = .ok (.ifCond .ge 9, 3) := by decide +kernel
theorem dX4_ask_74 : decode cX4_ask 74 = .ok (.iload 4, 2) := by decide +kernel
theorem dX4_ask_76 : decode cX4_ask 76 = .ok (.ineg, 1) := by decide +kernel
theorem dX4_ask_77 : decode cX4_ask 77 = .ok (.goto 8, 3) := by decide +kernel
theorem dX4_ask_80 : decode cX4_ask 80 = .ok (.iload 4, 2) := by decide +kernel
theorem dX4_ask_82 : decode cX4_ask 82 = .ok (.bipush 31, 2) := by decide +kernel
theorem dX4_ask_84 : decode cX4_ask 84 = .ok (.isub, 1) := by decide +kernel
theorem dX4_ask_85 : decode cX4_ask 85 = .ok (.ireturn, 1) := by decide +kernel
theorem dX4_askPut_0 : decode cX4_askPut 0 = .ok (.iload_n 3, 1) := by decide +kernel
theorem dX4_askPut_1 : decode cX4_askPut 1 = .ok (.ifCond .ne 5, 3) := by decide +kernel
theorem dX4_askPut_4 : decode cX4_askPut 4 = .ok (.iconst 1, 1) := by decide +kernel
theorem dX4_askPut_5 : decode cX4_askPut 5 = .ok (.ireturn, 1) := by decide +kernel
theorem dX4_askPut_6 : decode cX4_askPut 6 = .ok (.iload_n 3, 1) := by decide +kernel
theorem dX4_askPut_7 : decode cX4_askPut 7 = .ok (.iconst 1, 1) := by decide +kernel
theorem dX4_askPut_8 : decode cX4_askPut 8 = .ok (.if_icmp .ne 7, 3) := by decide +kernel
theorem dX4_askPut_11 : decode cX4_askPut 11 = .ok (.iload_n 2, 1) := by decide +kernel
theorem dX4_askPut_12 : decode cX4_askPut 12 = .ok (.iload_n 1, 1) := by decide +kernel
theorem dX4_askPut_13 : decode cX4_askPut 13 = .ok (.isub, 1) := by decide +kernel
theorem dX4_askPut_14 : decode cX4_askPut 14 = .ok (.ireturn, 1) := by decide +kernel
theorem dX4_askPut_15 : decode cX4_askPut 15 = .ok (.iload_n 3, 1) := by decide +kernel
theorem dX4_askPut_16 : decode cX4_askPut 16 = .ok (.iconst 2, 1) := by decide +kernel
theorem dX4_askPut_17 : decode cX4_askPut 17 = .ok (.isub, 1) := by decide +kernel
theorem dX4_askPut_18 : decode cX4_askPut 18 = .ok (.iload_n 2, 1) := by decide +kernel
theorem dX4_askPut_19 : decode cX4_askPut 19 = .ok (.iload_n 1, 1) := by decide +kernel
theorem dX4_askPut_20 : decode cX4_askPut 20 = .ok (.isub, 1) := by decide +kernel
theorem dX4_askPut_21 : decode cX4_askPut 21 = .ok (.if_icmp .ge 16, 3) := by decide +kernel
theorem dX4_askPut_24 : decode cX4_askPut 24 = .ok (.aload_n 0, 1) := by decide +kernel
theorem dX4_askPut_25 : decode cX4_askPut 25 = .ok (.getfield 9, 3) := by decide +kernel
theorem dX4_askPut_28 : decode cX4_askPut 28 = .ok (.iload_n 1, 1) := by decide +kernel
theorem dX4_askPut_29 : decode cX4_askPut 29 = .ok (.iload_n 3, 1) := by decide +kernel
theorem dX4_askPut_30 : decode cX4_askPut 30 = .ok (.iadd, 1) := by decide +kernel
theorem dX4_askPut_31 : decode cX4_askPut 31 = .ok (.iconst 2, 1) := by decide +kernel
theorem dX4_askPut_32 : decode cX4_askPut 32 = .ok (.isub, 1) := by decide +kernel
theorem dX4_askPut_33 : decode cX4_askPut 33 = .ok (.iaload, 1) := by decide +kernel
theorem dX4_askPut_34 : decode cX4_askPut 34 = .ok (.goto 4, 3) := by decide +kernel
theorem dX4_askPut_37 : decode cX4_askPut 37 = .ok (.iconst (-1), 1) := by decide +kernel
theorem dX4_askPut_38 : decode cX4_askPut 38 = .ok (.ireturn, 1) := by decide +kernel
theorem dX4_carry_0 : decode cX4_carry 0 = .ok (.iconst 0, 1) := by decide +kernel
theorem dX4_carry_1 : decode cX4_carry 1 = .ok (.istore_n 3, 1) := by decide +kernel
theorem dX4_carry_2 : decode cX4_carry 2 = .ok (.iload_n 1, 1) := by decide +kernel
theorem dX4_carry_3 : decode cX4_carry 3 = .ok (.istore 4, 2) := by decide +kernel
theorem dX4_carry_5 : decode cX4_carry 5 = .ok (.iconst 0, 1) := by decide +kernel
theorem dX4_carry_6 : decode cX4_carry 6 = .ok (.istore 5, 2) := by decide +kernel
theorem dX4_carry_8 : decode cX4_carry 8 = .ok (.iload 5, 2) := by decide +kernel
theorem dX4_carry_10 : decode cX4_carry 10 = .ok (.aload_n 0, 1) := by decide +kernel
theorem dX4_carry_11 : decode cX4_carry 11 = .ok (.getfield 15, 3) := by decide +kernel
theorem dX4_carry_14 : decode cX4_carry 14 = .ok (.if_icmp .ge 88, 3) := by decide +kernel
theorem dX4_carry_17 : decode cX4_carry 17 = .ok (.iload_n 3, 1) := by decide +kernel
theorem dX4_carry_18 : decode cX4_carry 18 = .ok (.iload_n 1, 1) := by decide +kernel
theorem dX4_carry_19 : decode cX4_carry 19 = .ok (.if_icmp .gt 83, 3) := by decide +kernel
theorem dX4_carry_22 : decode cX4_carry 22 = .ok (.aload_n 0, 1) := by decide +kernel
theorem dX4_carry_23 : decode cX4_carry 23 = .ok (.getfield 9, 3) := by decide +kernel
theorem dX4_carry_26 : decode cX4_carry 26 = .ok (.iload 5, 2) := by decide +kernel
theorem dX4_carry_28 : decode cX4_carry 28 = .ok (.iaload, 1) := by decide +kernel
theorem dX4_carry_29 : decode cX4_carry 29 = .ok (.istore 6, 2) := by decide +kernel
theorem dX4_carry_31 : decode cX4_carry 31 = .ok (.iload 6, 2) := by decide +kernel
theorem dX4_carry_33 : decode cX4_carry 33 = .ok (.invokestatic 35, 3) := by decide +kernel
theorem dX4_carry_36 : decode cX4_carry 36 = .ok (.ifCond .eq 25, 3) := by decide +kernel
theorem dX4_carry_39 : decode cX4_carry 39 = .ok (.iload 4, 2) := by decide +kernel
theorem dX4_carry_41 : decode cX4_carry 41 = .ok (.iload_n 3, 1) := by decide +kernel
theorem dX4_carry_42 : decode cX4_carry 42 = .ok (.iload_n 1, 1) := by decide +kernel
theorem dX4_carry_43 : decode cX4_carry 43 = .ok (.if_icmp .lt 7, 3) := by decide +kernel
theorem dX4_carry_46 : decode cX4_carry 46 = .ok (.iload_n 2, 1) := by decide +kernel
theorem dX4_carry_47 : decode cX4_carry 47 = .ok (.ifCond .eq 7, 3) := by decide +kernel
theorem dX4_carry_50 : decode cX4_carry 50 = .ok (.iconst 1, 1) := by decide +kernel
theorem dX4_carry_51 : decode cX4_carry 51 = .ok (.goto 4, 3) := by decide +kernel
theorem dX4_carry_54 : decode cX4_carry 54 = .ok (.iconst 0, 1) := by decide +kernel
theorem dX4_carry_55 : decode cX4_carry 55 = .ok (.iadd, 1) := by decide +kernel
theorem dX4_carry_56 : decode cX4_carry 56 = .ok (.istore 4, 2) := by decide +kernel
theorem dX4_carry_58 : decode cX4_carry 58 = .ok (.goto 38, 3) := by decide +kernel
theorem dX4_carry_61 : decode cX4_carry 61 = .ok (.iload 6, 2) := by decide +kernel
theorem dX4_carry_63 : decode cX4_carry 63 = .ok (.ifCond .ge 25, 3) := by decide +kernel
theorem dX4_carry_66 : decode cX4_carry 66 = .ok (.iload 4, 2) := by decide +kernel
theorem dX4_carry_68 : decode cX4_carry 68 = .ok (.iload 6, 2) := by decide +kernel
theorem dX4_carry_70 : decode cX4_carry 70 = .ok (.ineg, 1) := by decide +kernel
theorem dX4_carry_71 : decode cX4_carry 71 = .ok (.iload_n 1, 1) := by decide +kernel
theorem dX4_carry_72 : decode cX4_carry 72 = .ok (.iload_n 3, 1) := by decide +kernel
theorem dX4_carry_73 : decode cX4_carry 73 = .ok (.isub, 1) := by decide +kernel
theorem dX4_carry_74 : decode cX4_carry 74 = .ok (.invokestatic 62, 3) := by decide +kernel
theorem dX4_carry_77 : decode cX4_carry 77 = .ok (.isub, 1) := by decide +kernel
theorem dX4_carry_78 : decode cX4_carry 78 = .ok (.istore 4, 2) := by decide +kernel
theorem dX4_carry_80 : decode cX4_carry 80 = .ok (.iload_n 3, 1) := by decide +kernel
theorem dX4_carry_81 : decode cX4_carry 81 = .ok (.iload 6, 2) := by decide +kernel
theorem dX4_carry_83 : decode cX4_carry 83 = .ok (.isub, 1) := by decide +kernel
theorem dX4_carry_84 : decode cX4_carry 84 = .ok (.istore_n 3, 1) := by decide +kernel
theorem dX4_carry_85 : decode cX4_carry 85 = .ok (.goto 11, 3) := by decide +kernel
theorem dX4_carry_88 : decode cX4_carry 88 = .ok (.iload_n 3, 1) := by decide +kernel
theorem dX4_carry_89 : decode cX4_carry 89 = .ok (.iload 6, 2) := by decide +kernel
theorem dX4_carry_91 : decode cX4_carry 91 = .ok (.bipush 31, 2) := by decide +kernel
theorem dX4_carry_93 : decode cX4_carry 93 = .ok (.isub, 1) := by decide +kernel
theorem dX4_carry_94 : decode cX4_carry 94 = .ok (.iadd, 1) := by decide +kernel
theorem dX4_carry_95 : decode cX4_carry 95 = .ok (.istore_n 3, 1) := by decide +kernel
theorem dX4_carry_96 : decode cX4_carry 96 = .ok (.iinc 5 1, 3) := by decide +kernel
theorem dX4_carry_99 : decode cX4_carry 99 = .ok (.goto (-91), 3) := by decide +kernel
theorem dX4_carry_102 : decode cX4_carry 102 = .ok (.iload 4, 2) := by decide +kernel
theorem dX4_carry_104 : decode cX4_carry 104 = .ok (.ireturn, 1) := by decide +kernel
theorem dX5_init_0 : decode cX5_init 0 = .ok (.aload_n 0, 1) := by decide +kernel
theorem dX5_init_1 : decode cX5_init 1 = .ok (.invokespecial 3, 3) := by decide +kernel
theorem dX5_init_4 : decode cX5_init 4 = .ok (.aload_n 0, 1) := by decide +kernel
theorem dX5_init_5 : decode cX5_init 5 = .ok (.new 9, 3) := by decide +kernel
theorem dX5_init_8 : decode cX5_init 8 = .ok (.dup, 1) := by decide +kernel
theorem dX5_init_9 : decode cX5_init 9 = .ok (.invokespecial 11, 3) := by decide +kernel
theorem dX5_init_12 : decode cX5_init 12 = .ok (.putfield 12, 3) := by decide +kernel
theorem dX5_init_15 : decode cX5_init 15 = .ok (.aload_n 0, 1) := by decide +kernel
theorem dX5_init_16 : decode cX5_init 16 = .ok (.iconst 0, 1) := by decide +kernel
theorem dX5_init_17 : decode cX5_init 17 = .ok (.putfield 18, 3) := by decide +kernel
theorem dX5_init_20 : decode cX5_init 20 = .ok (.aload_n 0, 1) := by decide +kernel
theorem dX5_init_21 : decode cX5_init 21 = .ok (.iconst 0, 1) := by decide +kernel
theorem dX5_init_22 : decode cX5_init 22 = .ok (.putfield 22, 3) := by decide +kernel
theorem dX5_init_25 : decode cX5_init 25 = .ok (.aload_n 0, 1) := by decide +kernel
theorem dX5_init_26 : decode cX5_init 26 = .ok (.iconst 0, 1) := by decide +kernel
theorem dX5_init_27 : decode cX5_init 27 = .ok (.putfield 25, 3) := by decide +kernel
theorem dX5_init_30 : decode cX5_init 30 = .ok (.return_, 1) := by decide +kernel
theorem dX5_open_0 : decode cX5_open 0 = .ok (.aload_n 0, 1) := by decide +kernel
theorem dX5_open_1 : decode cX5_open 1 = .ok (.aload_n 1, 1) := by decide +kernel
theorem dX5_open_2 : decode cX5_open 2 = .ok (.putfield 12, 3) := by decide +kernel
theorem dX5_open_5 : decode cX5_open 5 = .ok (.aload_n 0, 1) := by decide +kernel
theorem dX5_open_6 : decode cX5_open 6 = .ok (.iconst (-1), 1) := by decide +kernel
theorem dX5_open_7 : decode cX5_open 7 = .ok (.putfield 18, 3) := by decide +kernel
theorem dX5_open_10 : decode cX5_open 10 = .ok (.aload_n 0, 1) := by decide +kernel
theorem dX5_open_11 : decode cX5_open 11 = .ok (.iconst 0, 1) := by decide +kernel
theorem dX5_open_12 : decode cX5_open 12 = .ok (.putfield 25, 3) := by decide +kernel
theorem dX5_open_15 : decode cX5_open 15 = .ok (.aload_n 0, 1) := by decide +kernel
theorem dX5_open_16 : decode cX5_open 16 = .ok (.iconst 0, 1) := by decide +kernel
theorem dX5_open_17 : decode cX5_open 17 = .ok (.invokevirtual 28, 3) := by decide +kernel
theorem dX5_open_20 : decode cX5_open 20 = .ok (.return_, 1) := by decide +kernel
theorem dX5_isAtPut_0 : decode cX5_isAtPut 0 = .ok (.aload_n 0, 1) := by decide +kernel
theorem dX5_isAtPut_1 : decode cX5_isAtPut 1 = .ok (.getfield 22, 3) := by decide +kernel
theorem dX5_isAtPut_4 : decode cX5_isAtPut 4 = .ok (.ifCond .le 16, 3) := by decide +kernel
theorem dX5_isAtPut_7 : decode cX5_isAtPut 7 = .ok (.aload_n 0, 1) := by decide +kernel
theorem dX5_isAtPut_8 : decode cX5_isAtPut 8 = .ok (.getfield 22, 3) := by decide +kernel
theorem dX5_isAtPut_11 : decode cX5_isAtPut 11 = .ok (.bipush 31, 2) := by decide +kernel
theorem dX5_isAtPut_13 : decode cX5_isAtPut 13 = .ok (.if_icmp .gt 7, 3) := by decide +kernel
theorem dX5_isAtPut_16 : decode cX5_isAtPut 16 = .ok (.iconst 1, 1) := by decide +kernel
theorem dX5_isAtPut_17 : decode cX5_isAtPut 17 = .ok (.goto 4, 3) := by decide +kernel
theorem dX5_isAtPut_20 : decode cX5_isAtPut 20 = .ok (.iconst 0, 1) := by decide +kernel
theorem dX5_isAtPut_21 : decode cX5_isAtPut 21 = .ok (.ireturn, 1) := by decide +kernel
theorem dX5_isAtCut_0 : decode cX5_isAtCut 0 = .ok (.aload_n 0, 1) := by decide +kernel
theorem dX5_isAtCut_1 : decode cX5_isAtCut 1 = .ok (.getfield 22, 3) := by decide +kernel
theorem dX5_isAtCut_4 : decode cX5_isAtCut 4 = .ok (.ifCond .ge 7, 3) := by decide +kernel
theorem dX5_isAtCut_7 : decode cX5_isAtCut 7 = .ok (.iconst 1, 1) := by decide +kernel
theorem dX5_isAtCut_8 : decode cX5_isAtCut 8 = .ok (.goto 4, 3) := by decide +kernel
theorem dX5_isAtCut_11 : decode cX5_isAtCut 11 = .ok (.iconst 0, 1) := by decide +kernel
theorem dX5_isAtCut_12 : decode cX5_isAtCut 12 = .ok (.ireturn, 1) := by decide +kernel
theorem dX5_pass_0 : decode cX5_pass 0 = .ok (.aload_n 0, 1) := by decide +kernel
theorem dX5_pass_1 : decode cX5_pass 1 = .ok (.dup, 1) := by decide +kernel
theorem dX5_pass_2 : decode cX5_pass 2 = .ok (.getfield 25, 3) := by decide +kernel
theorem dX5_pass_5 : decode cX5_pass 5 = .ok (.iload_n 1, 1) := by decide +kernel
theorem dX5_pass_6 : decode cX5_pass 6 = .ok (.isub, 1) := by decide +kernel
theorem dX5_pass_7 : decode cX5_pass 7 = .ok (.putfield 25, 3) := by decide +kernel
theorem dX5_pass_10 : decode cX5_pass 10 = .ok (.aload_n 0, 1) := by decide +kernel
theorem dX5_pass_11 : decode cX5_pass 11 = .ok (.getfield 25, 3) := by decide +kernel
theorem dX5_pass_14 : decode cX5_pass 14 = .ok (.ifCond .gt 115, 3) := by decide +kernel
theorem dX5_pass_17 : decode cX5_pass 17 = .ok (.aload_n 0, 1) := by decide +kernel
theorem dX5_pass_18 : decode cX5_pass 18 = .ok (.dup, 1) := by decide +kernel
theorem dX5_pass_19 : decode cX5_pass 19 = .ok (.getfield 18, 3) := by decide +kernel
theorem dX5_pass_22 : decode cX5_pass 22 = .ok (.aload_n 0, 1) := by decide +kernel
theorem dX5_pass_23 : decode cX5_pass 23 = .ok (.getfield 18, 3) := by decide +kernel
theorem dX5_pass_26 : decode cX5_pass 26 = .ok (.aload_n 0, 1) := by decide +kernel
theorem dX5_pass_27 : decode cX5_pass 27 = .ok (.getfield 12, 3) := by decide +kernel
theorem dX5_pass_30 : decode cX5_pass 30 = .ok (.getfield 32, 3) := by decide +kernel
theorem dX5_pass_33 : decode cX5_pass 33 = .ok (.if_icmp .ge 7, 3) := by decide +kernel
theorem dX5_pass_36 : decode cX5_pass 36 = .ok (.iconst 1, 1) := by decide +kernel
theorem dX5_pass_37 : decode cX5_pass 37 = .ok (.goto 4, 3) := by decide +kernel
theorem dX5_pass_40 : decode cX5_pass 40 = .ok (.iconst 0, 1) := by decide +kernel
theorem dX5_pass_41 : decode cX5_pass 41 = .ok (.iadd, 1) := by decide +kernel
theorem dX5_pass_42 : decode cX5_pass 42 = .ok (.putfield 18, 3) := by decide +kernel
theorem dX5_pass_45 : decode cX5_pass 45 = .ok (.aload_n 0, 1) := by decide +kernel
theorem dX5_pass_46 : decode cX5_pass 46 = .ok (.aload_n 0, 1) := by decide +kernel
theorem dX5_pass_47 : decode cX5_pass 47 = .ok (.getfield 18, 3) := by decide +kernel
theorem dX5_pass_50 : decode cX5_pass 50 = .ok (.aload_n 0, 1) := by decide +kernel
theorem dX5_pass_51 : decode cX5_pass 51 = .ok (.getfield 12, 3) := by decide +kernel
theorem dX5_pass_54 : decode cX5_pass 54 = .ok (.getfield 32, 3) := by decide +kernel
theorem dX5_pass_57 : decode cX5_pass 57 = .ok (.if_icmp .ge 18, 3) := by decide +kernel
theorem dX5_pass_60 : decode cX5_pass 60 = .ok (.aload_n 0, 1) := by decide +kernel
theorem dX5_pass_61 : decode cX5_pass 61 = .ok (.getfield 12, 3) := by decide +kernel
theorem dX5_pass_64 : decode cX5_pass 64 = .ok (.getfield 35, 3) := by decide +kernel
theorem dX5_pass_67 : decode cX5_pass 67 = .ok (.aload_n 0, 1) := by decide +kernel
theorem dX5_pass_68 : decode cX5_pass 68 = .ok (.getfield 18, 3) := by decide +kernel
theorem dX5_pass_71 : decode cX5_pass 71 = .ok (.iaload, 1) := by decide +kernel
theorem dX5_pass_72 : decode cX5_pass 72 = .ok (.goto 4, 3) := by decide +kernel
theorem dX5_pass_75 : decode cX5_pass 75 = .ok (.iconst 0, 1) := by decide +kernel
theorem dX5_pass_76 : decode cX5_pass 76 = .ok (.putfield 22, 3) := by decide +kernel
theorem dX5_pass_79 : decode cX5_pass 79 = .ok (.aload_n 0, 1) := by decide +kernel
theorem dX5_pass_80 : decode cX5_pass 80 = .ok (.aload_n 0, 1) := by decide +kernel
theorem dX5_pass_81 : decode cX5_pass 81 = .ok (.getfield 22, 3) := by decide +kernel
theorem dX5_pass_84 : decode cX5_pass 84 = .ok (.ifCond .ge 11, 3) := by decide +kernel
theorem dX5_pass_87 : decode cX5_pass 87 = .ok (.aload_n 0, 1) := by decide +kernel
theorem dX5_pass_88 : decode cX5_pass 88 = .ok (.getfield 22, 3) := by decide +kernel
theorem dX5_pass_91 : decode cX5_pass 91 = .ok (.ineg, 1) := by decide +kernel
theorem dX5_pass_92 : decode cX5_pass 92 = .ok (.goto 34, 3) := by decide +kernel
theorem dX5_pass_95 : decode cX5_pass 95 = .ok (.aload_n 0, 1) := by decide +kernel
theorem dX5_pass_96 : decode cX5_pass 96 = .ok (.getfield 22, 3) := by decide +kernel
theorem dX5_pass_99 : decode cX5_pass 99 = .ok (.bipush 31, 2) := by decide +kernel
theorem dX5_pass_101 : decode cX5_pass 101 = .ok (.if_icmp .le 13, 3) := by decide +kernel
theorem dX5_pass_104 : decode cX5_pass 104 = .ok (.aload_n 0, 1) := by decide +kernel
theorem dX5_pass_105 : decode cX5_pass 105 = .ok (.getfield 22, 3) := by decide +kernel
theorem dX5_pass_108 : decode cX5_pass 108 = .ok (.bipush 31, 2) := by decide +kernel
theorem dX5_pass_110 : decode cX5_pass 110 = .ok (.isub, 1) := by decide +kernel
theorem dX5_pass_111 : decode cX5_pass 111 = .ok (.goto 15, 3) := by decide +kernel
theorem dX5_pass_114 : decode cX5_pass 114 = .ok (.aload_n 0, 1) := by decide +kernel
theorem dX5_pass_115 : decode cX5_pass 115 = .ok (.getfield 22, 3) := by decide +kernel
theorem dX5_pass_118 : decode cX5_pass 118 = .ok (.ifCond .le 7, 3) := by decide +kernel
theorem dX5_pass_121 : decode cX5_pass 121 = .ok (.iconst 1, 1) := by decide +kernel
theorem dX5_pass_122 : decode cX5_pass 122 = .ok (.goto 4, 3) := by decide +kernel
theorem dX5_pass_125 : decode cX5_pass 125 = .ok (.iconst 0, 1) := by decide +kernel
theorem dX5_pass_126 : decode cX5_pass 126 = .ok (.putfield 25, 3) := by decide +kernel
theorem dX5_pass_129 : decode cX5_pass 129 = .ok (.return_, 1) := by decide +kernel
theorem dX6_init_0 : decode cX6_init 0 = .ok (.aload_n 0, 1) := by decide +kernel
theorem dX6_init_1 : decode cX6_init 1 = .ok (.invokespecial 3, 3) := by decide +kernel
theorem dX6_init_4 : decode cX6_init 4 = .ok (.aload_n 0, 1) := by decide +kernel
theorem dX6_init_5 : decode cX6_init 5 = .ok (.new 9, 3) := by decide +kernel
theorem dX6_init_8 : decode cX6_init 8 = .ok (.dup, 1) := by decide +kernel
theorem dX6_init_9 : decode cX6_init 9 = .ok (.invokespecial 11, 3) := by decide +kernel
theorem dX6_init_12 : decode cX6_init 12 = .ok (.putfield 12, 3) := by decide +kernel
theorem dX6_init_15 : decode cX6_init 15 = .ok (.aload_n 0, 1) := by decide +kernel
theorem dX6_init_16 : decode cX6_init 16 = .ok (.bipush 100, 2) := by decide +kernel
theorem dX6_init_18 : decode cX6_init 18 = .ok (.anewarray 18, 3) := by decide +kernel
theorem dX6_init_21 : decode cX6_init 21 = .ok (.putfield 20, 3) := by decide +kernel
theorem dX6_init_24 : decode cX6_init 24 = .ok (.aload_n 0, 1) := by decide +kernel
theorem dX6_init_25 : decode cX6_init 25 = .ok (.bipush 100, 2) := by decide +kernel
theorem dX6_init_27 : decode cX6_init 27 = .ok (.newarray .int, 2) := by decide +kernel
theorem dX6_init_29 : decode cX6_init 29 = .ok (.putfield 24, 3) := by decide +kernel
theorem dX6_init_32 : decode cX6_init 32 = .ok (.iconst 0, 1) := by decide +kernel
theorem dX6_init_33 : decode cX6_init 33 = .ok (.istore_n 1, 1) := by decide +kernel
theorem dX6_init_34 : decode cX6_init 34 = .ok (.iload_n 1, 1) := by decide +kernel
theorem dX6_init_35 : decode cX6_init 35 = .ok (.aload_n 0, 1) := by decide +kernel
theorem dX6_init_36 : decode cX6_init 36 = .ok (.getfield 20, 3) := by decide +kernel
theorem dX6_init_39 : decode cX6_init 39 = .ok (.arraylength, 1) := by decide +kernel
theorem dX6_init_40 : decode cX6_init 40 = .ok (.if_icmp .ge 22, 3) := by decide +kernel
theorem dX6_init_43 : decode cX6_init 43 = .ok (.aload_n 0, 1) := by decide +kernel
theorem dX6_init_44 : decode cX6_init 44 = .ok (.getfield 20, 3) := by decide +kernel
theorem dX6_init_47 : decode cX6_init 47 = .ok (.iload_n 1, 1) := by decide +kernel
theorem dX6_init_48 : decode cX6_init 48 = .ok (.new 18, 3) := by decide +kernel
theorem dX6_init_51 : decode cX6_init 51 = .ok (.dup, 1) := by decide +kernel
theorem dX6_init_52 : decode cX6_init 52 = .ok (.invokespecial 28, 3) := by decide +kernel
theorem dX6_init_55 : decode cX6_init 55 = .ok (.aastore, 1) := by decide +kernel
theorem dX6_init_56 : decode cX6_init 56 = .ok (.iinc 1 1, 3) := by decide +kernel
theorem dX6_init_59 : decode cX6_init 59 = .ok (.goto (-25), 3) := by decide +kernel
theorem dX6_init_62 : decode cX6_init 62 = .ok (.return_, 1) := by decide +kernel
theorem dX7_init_0 : decode cX7_init 0 = .ok (.aload_n 0, 1) := by decide +kernel
theorem dX7_init_1 : decode cX7_init 1 = .ok (.invokespecial 3, 3) := by decide +kernel
theorem dX7_init_4 : decode cX7_init 4 = .ok (.aload_n 0, 1) := by decide +kernel
theorem dX7_init_5 : decode cX7_init 5 = .ok (.sipush 240, 3) := by decide +kernel
theorem dX7_init_8 : decode cX7_init 8 = .ok (.newarray .int, 2) := by decide +kernel
theorem dX7_init_10 : decode cX7_init 10 = .ok (.putfield 9, 3) := by decide +kernel
theorem dX7_init_13 : decode cX7_init 13 = .ok (.aload_n 0, 1) := by decide +kernel
theorem dX7_init_14 : decode cX7_init 14 = .ok (.iconst 0, 1) := by decide +kernel
theorem dX7_init_15 : decode cX7_init 15 = .ok (.putfield 15, 3) := by decide +kernel
theorem dX7_init_18 : decode cX7_init 18 = .ok (.return_, 1) := by decide +kernel
theorem dX7_copy_0 : decode cX7_copy 0 = .ok (.aload_n 1, 1) := by decide +kernel
theorem dX7_copy_1 : decode cX7_copy 1 = .ok (.getfield 9, 3) := by decide +kernel
theorem dX7_copy_4 : decode cX7_copy 4 = .ok (.iconst 0, 1) := by decide +kernel
theorem dX7_copy_5 : decode cX7_copy 5 = .ok (.aload_n 0, 1) := by decide +kernel
theorem dX7_copy_6 : decode cX7_copy 6 = .ok (.getfield 9, 3) := by decide +kernel
theorem dX7_copy_9 : decode cX7_copy 9 = .ok (.iconst 0, 1) := by decide +kernel
theorem dX7_copy_10 : decode cX7_copy 10 = .ok (.aload_n 1, 1) := by decide +kernel
theorem dX7_copy_11 : decode cX7_copy 11 = .ok (.getfield 15, 3) := by decide +kernel
theorem dX7_copy_14 : decode cX7_copy 14 = .ok (.invokestatic 19, 3) := by decide +kernel
theorem dX7_copy_17 : decode cX7_copy 17 = .ok (.aload_n 0, 1) := by decide +kernel
theorem dX7_copy_18 : decode cX7_copy 18 = .ok (.aload_n 1, 1) := by decide +kernel
theorem dX7_copy_19 : decode cX7_copy 19 = .ok (.getfield 15, 3) := by decide +kernel
theorem dX7_copy_22 : decode cX7_copy 22 = .ok (.putfield 15, 3) := by decide +kernel
theorem dX7_copy_25 : decode cX7_copy 25 = .ok (.return_, 1) := by decide +kernel
theorem dX7_copyLetters_0 : decode cX7_copyLetters 0 = .ok (.aload_n 0, 1) := by decide +kernel
theorem dX7_copyLetters_1 : decode cX7_copyLetters 1 = .ok (.iload_n 2, 1) := by decide +kernel
theorem dX7_copyLetters_2 : decode cX7_copyLetters 2 = .ok (.aload_n 1, 1) := by decide +kernel
theorem dX7_copyLetters_3 : decode cX7_copyLetters 3 = .ok (.arraylength, 1) := by decide +kernel
theorem dX7_copyLetters_4 : decode cX7_copyLetters 4 = .ok (.aload_n 0, 1) := by decide +kernel
theorem dX7_copyLetters_5 : decode cX7_copyLetters 5 = .ok (.getfield 9, 3) := by decide +kernel
theorem dX7_copyLetters_8 : decode cX7_copyLetters 8 = .ok (.arraylength, 1) := by decide +kernel
theorem dX7_copyLetters_9 : decode cX7_copyLetters 9 = .ok (.invokestatic 25, 3) := by decide +kernel
theorem dX7_copyLetters_12 : decode cX7_copyLetters 12 = .ok (.invokestatic 25, 3) := by decide +kernel
theorem dX7_copyLetters_15 : decode cX7_copyLetters 15 = .ok (.putfield 15, 3) := by decide +kernel
theorem dX7_copyLetters_18 : decode cX7_copyLetters 18 = .ok (.aload_n 1, 1) := by decide +kernel
theorem dX7_copyLetters_19 : decode cX7_copyLetters 19 = .ok (.iconst 0, 1) := by decide +kernel
theorem dX7_copyLetters_20 : decode cX7_copyLetters 20 = .ok (.aload_n 0, 1) := by decide +kernel
theorem dX7_copyLetters_21 : decode cX7_copyLetters 21 = .ok (.getfield 9, 3) := by decide +kernel
theorem dX7_copyLetters_24 : decode cX7_copyLetters 24 = .ok (.iconst 0, 1) := by decide +kernel
theorem dX7_copyLetters_25 : decode cX7_copyLetters 25 = .ok (.aload_n 0, 1) := by decide +kernel
theorem dX7_copyLetters_26 : decode cX7_copyLetters 26 = .ok (.getfield 15, 3) := by decide +kernel
theorem dX7_copyLetters_29 : decode cX7_copyLetters 29 = .ok (.invokestatic 19, 3) := by decide +kernel
theorem dX7_copyLetters_32 : decode cX7_copyLetters 32 = .ok (.return_, 1) := by decide +kernel
theorem dX7_hasPlace_0 : decode cX7_hasPlace 0 = .ok (.iload_n 1, 1) := by decide +kernel
theorem dX7_hasPlace_1 : decode cX7_hasPlace 1 = .ok (.ifCond .lt 15, 3) := by decide +kernel
theorem dX7_hasPlace_4 : decode cX7_hasPlace 4 = .ok (.iload_n 1, 1) := by decide +kernel
theorem dX7_hasPlace_5 : decode cX7_hasPlace 5 = .ok (.aload_n 0, 1) := by decide +kernel
theorem dX7_hasPlace_6 : decode cX7_hasPlace 6 = .ok (.getfield 15, 3) := by decide +kernel
theorem dX7_hasPlace_9 : decode cX7_hasPlace 9 = .ok (.if_icmp .ge 7, 3) := by decide +kernel
theorem dX7_hasPlace_12 : decode cX7_hasPlace 12 = .ok (.iconst 1, 1) := by decide +kernel
theorem dX7_hasPlace_13 : decode cX7_hasPlace 13 = .ok (.goto 4, 3) := by decide +kernel
theorem dX7_hasPlace_16 : decode cX7_hasPlace 16 = .ok (.iconst 0, 1) := by decide +kernel
theorem dX7_hasPlace_17 : decode cX7_hasPlace 17 = .ok (.ireturn, 1) := by decide +kernel
theorem dX7_letterAt_0 : decode cX7_letterAt 0 = .ok (.aload_n 0, 1) := by decide +kernel
theorem dX7_letterAt_1 : decode cX7_letterAt 1 = .ok (.iload_n 1, 1) := by decide +kernel
theorem dX7_letterAt_2 : decode cX7_letterAt 2 = .ok (.invokevirtual 31, 3) := by decide +kernel
theorem dX7_letterAt_5 : decode cX7_letterAt 5 = .ok (.ifCond .eq 15, 3) := by decide +kernel
theorem dX7_letterAt_8 : decode cX7_letterAt 8 = .ok (.aload_n 0, 1) := by decide +kernel
theorem dX7_letterAt_9 : decode cX7_letterAt 9 = .ok (.getfield 9, 3) := by decide +kernel
theorem dX7_letterAt_12 : decode cX7_letterAt 12 = .ok (.iload_n 1, 1) := by decide +kernel
theorem dX7_letterAt_13 : decode cX7_letterAt 13 = .ok (.iaload, 1) := by decide +kernel
theorem dX7_letterAt_14 : decode cX7_letterAt 14 = .ok (.bipush 31, 2) := by decide +kernel
theorem dX7_letterAt_16 : decode cX7_letterAt 16 = .ok (.iand, 1) := by decide +kernel
theorem dX7_letterAt_17 : decode cX7_letterAt 17 = .ok (.goto 4, 3) := by decide +kernel
theorem dX7_letterAt_20 : decode cX7_letterAt 20 = .ok (.iconst 0, 1) := by decide +kernel
theorem dX7_letterAt_21 : decode cX7_letterAt 21 = .ok (.ireturn, 1) := by decide +kernel
theorem dX7_writerOf_0 : decode cX7_writerOf 0 = .ok (.aload_n 0, 1) := by decide +kernel
theorem dX7_writerOf_1 : decode cX7_writerOf 1 = .ok (.iload_n 1, 1) := by decide +kernel
theorem dX7_writerOf_2 : decode cX7_writerOf 2 = .ok (.invokevirtual 31, 3) := by decide +kernel
theorem dX7_writerOf_5 : decode cX7_writerOf 5 = .ok (.ifCond .eq 14, 3) := by decide +kernel
theorem dX7_writerOf_8 : decode cX7_writerOf 8 = .ok (.aload_n 0, 1) := by decide +kernel
theorem dX7_writerOf_9 : decode cX7_writerOf 9 = .ok (.getfield 9, 3) := by decide +kernel
theorem dX7_writerOf_12 : decode cX7_writerOf 12 = .ok (.iload_n 1, 1) := by decide +kernel
theorem dX7_writerOf_13 : decode cX7_writerOf 13 = .ok (.iaload, 1) := by decide +kernel
theorem dX7_writerOf_14 : decode cX7_writerOf 14 = .ok (.iconst 5, 1) := by decide +kernel
theorem dX7_writerOf_15 : decode cX7_writerOf 15 = .ok (.ishr, 1) := by decide +kernel
theorem dX7_writerOf_16 : decode cX7_writerOf 16 = .ok (.goto 4, 3) := by decide +kernel
theorem dX7_writerOf_19 : decode cX7_writerOf 19 = .ok (.iconst 0, 1) := by decide +kernel
theorem dX7_writerOf_20 : decode cX7_writerOf 20 = .ok (.ireturn, 1) := by decide +kernel
theorem dX7_ask_0 : decode cX7_ask 0 = .ok (.iload_n 1, 1) := by decide +kernel
theorem dX7_ask_1 : decode cX7_ask 1 = .ok (.iconst (-1), 1) := by decide +kernel
theorem dX7_ask_2 : decode cX7_ask 2 = .ok (.if_icmp .ne 8, 3) := by decide +kernel
theorem dX7_ask_5 : decode cX7_ask 5 = .ok (.aload_n 0, 1) := by decide +kernel
theorem dX7_ask_6 : decode cX7_ask 6 = .ok (.getfield 15, 3) := by decide +kernel
theorem dX7_ask_9 : decode cX7_ask 9 = .ok (.ireturn, 1) := by decide +kernel
theorem dX7_ask_10 : decode cX7_ask 10 = .ok (.aload_n 0, 1) := by decide +kernel
theorem dX7_ask_11 : decode cX7_ask 11 = .ok (.iload_n 1, 1) := by decide +kernel
theorem dX7_ask_12 : decode cX7_ask 12 = .ok (.invokevirtual 31, 3) := by decide +kernel
theorem dX7_ask_15 : decode cX7_ask 15 = .ok (.ifCond .eq 11, 3) := by decide +kernel
theorem dX7_ask_18 : decode cX7_ask 18 = .ok (.aload_n 0, 1) := by decide +kernel
theorem dX7_ask_19 : decode cX7_ask 19 = .ok (.iload_n 1, 1) := by decide +kernel
theorem dX7_ask_20 : decode cX7_ask 20 = .ok (.invokevirtual 35, 3) := by decide +kernel
theorem dX7_ask_23 : decode cX7_ask 23 = .ok (.goto 4, 3) := by decide +kernel
theorem dX7_ask_26 : decode cX7_ask 26 = .ok (.iconst (-1), 1) := by decide +kernel
theorem dX7_ask_27 : decode cX7_ask 27 = .ok (.ireturn, 1) := by decide +kernel
theorem dX7_isLike_0 : decode cX7_isLike 0 = .ok (.aload_n 0, 1) := by decide +kernel
theorem dX7_isLike_1 : decode cX7_isLike 1 = .ok (.getfield 15, 3) := by decide +kernel
theorem dX7_isLike_4 : decode cX7_isLike 4 = .ok (.aload_n 1, 1) := by decide +kernel
theorem dX7_isLike_5 : decode cX7_isLike 5 = .ok (.getfield 15, 3) := by decide +kernel
theorem dX7_isLike_8 : decode cX7_isLike 8 = .ok (.if_icmp .ne 7, 3) := by decide +kernel
theorem dX7_isLike_11 : decode cX7_isLike 11 = .ok (.iconst 1, 1) := by decide +kernel
theorem dX7_isLike_12 : decode cX7_isLike 12 = .ok (.goto 4, 3) := by decide +kernel
theorem dX7_isLike_15 : decode cX7_isLike 15 = .ok (.iconst 0, 1) := by decide +kernel
theorem dX7_isLike_16 : decode cX7_isLike 16 = .ok (.istore_n 2, 1) := by decide +kernel
theorem dX7_isLike_17 : decode cX7_isLike 17 = .ok (.iconst 0, 1) := by decide +kernel
theorem dX7_isLike_18 : decode cX7_isLike 18 = .ok (.istore_n 3, 1) := by decide +kernel
theorem dX7_isLike_19 : decode cX7_isLike 19 = .ok (.iload_n 3, 1) := by decide +kernel
theorem dX7_isLike_20 : decode cX7_isLike 20 = .ok (.aload_n 0, 1) := by decide +kernel
theorem dX7_isLike_21 : decode cX7_isLike 21 = .ok (.getfield 15, 3) := by decide +kernel
theorem dX7_isLike_24 : decode cX7_isLike 24 = .ok (.if_icmp .ge 32, 3) := by decide +kernel
theorem dX7_isLike_27 : decode cX7_isLike 27 = .ok (.iload_n 2, 1) := by decide +kernel
theorem dX7_isLike_28 : decode cX7_isLike 28 = .ok (.ifCond .eq 28, 3) := by decide +kernel
theorem dX7_isLike_31 : decode cX7_isLike 31 = .ok (.aload_n 0, 1) := by decide +kernel
theorem dX7_isLike_32 : decode cX7_isLike 32 = .ok (.iload_n 3, 1) := by decide +kernel
theorem dX7_isLike_33 : decode cX7_isLike 33 = .ok (.invokevirtual 35, 3) := by decide +kernel
theorem dX7_isLike_36 : decode cX7_isLike 36 = .ok (.aload_n 1, 1) := by decide +kernel
theorem dX7_isLike_37 : decode cX7_isLike 37 = .ok (.iload_n 3, 1) := by decide +kernel
theorem dX7_isLike_38 : decode cX7_isLike 38 = .ok (.invokevirtual 35, 3) := by decide +kernel
theorem dX7_isLike_41 : decode cX7_isLike 41 = .ok (.if_icmp .ne 7, 3) := by decide +kernel
theorem dX7_isLike_44 : decode cX7_isLike 44 = .ok (.iconst 1, 1) := by decide +kernel
theorem dX7_isLike_45 : decode cX7_isLike 45 = .ok (.goto 4, 3) := by decide +kernel
theorem dX7_isLike_48 : decode cX7_isLike 48 = .ok (.iconst 0, 1) := by decide +kernel
theorem dX7_isLike_49 : decode cX7_isLike 49 = .ok (.istore_n 2, 1) := by decide +kernel
theorem dX7_isLike_50 : decode cX7_isLike 50 = .ok (.iinc 3 1, 3) := by decide +kernel
theorem dX7_isLike_53 : decode cX7_isLike 53 = .ok (.goto (-34), 3) := by decide +kernel
theorem dX7_isLike_56 : decode cX7_isLike 56 = .ok (.iload_n 2, 1) := by decide +kernel
theorem dX7_isLike_57 : decode cX7_isLike 57 = .ok (.ireturn, 1) := by decide +kernel
theorem dX8_init_0 : decode cX8_init 0 = .ok (.aload_n 0, 1) := by decide +kernel
theorem dX8_init_1 : decode cX8_init 1 = .ok (.invokespecial 3, 3) := by decide +kernel
theorem dX8_init_4 : decode cX8_init 4 = .ok (.aload_n 0, 1) := by decide +kernel
theorem dX8_init_5 : decode cX8_init 5 = .ok (.sipush 1600, 3) := by decide +kernel
theorem dX8_init_8 : decode cX8_init 8 = .ok (.newarray .int, 2) := by decide +kernel
theorem dX8_init_10 : decode cX8_init 10 = .ok (.putfield 11, 3) := by decide +kernel
theorem dX8_init_13 : decode cX8_init 13 = .ok (.aload_n 0, 1) := by decide +kernel
theorem dX8_init_14 : decode cX8_init 14 = .ok (.iconst 0, 1) := by decide +kernel
theorem dX8_init_15 : decode cX8_init 15 = .ok (.putfield 15, 3) := by decide +kernel
theorem dX8_init_18 : decode cX8_init 18 = .ok (.aload_n 0, 1) := by decide +kernel
theorem dX8_init_19 : decode cX8_init 19 = .ok (.iconst 0, 1) := by decide +kernel
theorem dX8_init_20 : decode cX8_init 20 = .ok (.putfield 19, 3) := by decide +kernel
theorem dX8_init_23 : decode cX8_init 23 = .ok (.aload_n 0, 1) := by decide +kernel
theorem dX8_init_24 : decode cX8_init 24 = .ok (.iconst 0, 1) := by decide +kernel
theorem dX8_init_25 : decode cX8_init 25 = .ok (.putfield 22, 3) := by decide +kernel
theorem dX8_init_28 : decode cX8_init 28 = .ok (.aload_n 0, 1) := by decide +kernel
theorem dX8_init_29 : decode cX8_init 29 = .ok (.iconst 0, 1) := by decide +kernel
theorem dX8_init_30 : decode cX8_init 30 = .ok (.putfield 25, 3) := by decide +kernel
theorem dX8_init_33 : decode cX8_init 33 = .ok (.aload_n 0, 1) := by decide +kernel
theorem dX8_init_34 : decode cX8_init 34 = .ok (.iconst 0, 1) := by decide +kernel
theorem dX8_init_35 : decode cX8_init 35 = .ok (.putfield 28, 3) := by decide +kernel
theorem dX8_init_38 : decode cX8_init 38 = .ok (.aload_n 0, 1) := by decide +kernel
theorem dX8_init_39 : decode cX8_init 39 = .ok (.iconst 0, 1) := by decide +kernel
theorem dX8_init_40 : decode cX8_init 40 = .ok (.putfield 31, 3) := by decide +kernel
theorem dX8_init_43 : decode cX8_init 43 = .ok (.aload_n 0, 1) := by decide +kernel
theorem dX8_init_44 : decode cX8_init 44 = .ok (.sipush 1600, 3) := by decide +kernel
theorem dX8_init_47 : decode cX8_init 47 = .ok (.newarray .int, 2) := by decide +kernel
theorem dX8_init_49 : decode cX8_init 49 = .ok (.putfield 34, 3) := by decide +kernel
theorem dX8_init_52 : decode cX8_init 52 = .ok (.aload_n 0, 1) := by decide +kernel
theorem dX8_init_53 : decode cX8_init 53 = .ok (.iconst 0, 1) := by decide +kernel
theorem dX8_init_54 : decode cX8_init 54 = .ok (.putfield 37, 3) := by decide +kernel
theorem dX8_init_57 : decode cX8_init 57 = .ok (.aload_n 0, 1) := by decide +kernel
theorem dX8_init_58 : decode cX8_init 58 = .ok (.bipush 60, 2) := by decide +kernel
theorem dX8_init_60 : decode cX8_init 60 = .ok (.newarray .int, 2) := by decide +kernel
theorem dX8_init_62 : decode cX8_init 62 = .ok (.putfield 40, 3) := by decide +kernel
theorem dX8_init_65 : decode cX8_init 65 = .ok (.aload_n 0, 1) := by decide +kernel
theorem dX8_init_66 : decode cX8_init 66 = .ok (.sipush 240, 3) := by decide +kernel
theorem dX8_init_69 : decode cX8_init 69 = .ok (.newarray .int, 2) := by decide +kernel
theorem dX8_init_71 : decode cX8_init 71 = .ok (.putfield 43, 3) := by decide +kernel
theorem dX8_init_74 : decode cX8_init 74 = .ok (.aload_n 0, 1) := by decide +kernel
theorem dX8_init_75 : decode cX8_init 75 = .ok (.iconst 0, 1) := by decide +kernel
theorem dX8_init_76 : decode cX8_init 76 = .ok (.putfield 46, 3) := by decide +kernel
theorem dX8_init_79 : decode cX8_init 79 = .ok (.return_, 1) := by decide +kernel
theorem dX8_hasRoom_0 : decode cX8_hasRoom 0 = .ok (.aload_n 0, 1) := by decide +kernel
theorem dX8_hasRoom_1 : decode cX8_hasRoom 1 = .ok (.getfield 15, 3) := by decide +kernel
theorem dX8_hasRoom_4 : decode cX8_hasRoom 4 = .ok (.iload_n 1, 1) := by decide +kernel
theorem dX8_hasRoom_5 : decode cX8_hasRoom 5 = .ok (.iadd, 1) := by decide +kernel
theorem dX8_hasRoom_6 : decode cX8_hasRoom 6 = .ok (.aload_n 0, 1) := by decide +kernel
theorem dX8_hasRoom_7 : decode cX8_hasRoom 7 = .ok (.getfield 11, 3) := by decide +kernel
theorem dX8_hasRoom_10 : decode cX8_hasRoom 10 = .ok (.arraylength, 1) := by decide +kernel
theorem dX8_hasRoom_11 : decode cX8_hasRoom 11 = .ok (.if_icmp .gt 7, 3) := by decide +kernel
theorem dX8_hasRoom_14 : decode cX8_hasRoom 14 = .ok (.iconst 1, 1) := by decide +kernel
theorem dX8_hasRoom_15 : decode cX8_hasRoom 15 = .ok (.goto 4, 3) := by decide +kernel
theorem dX8_hasRoom_18 : decode cX8_hasRoom 18 = .ok (.iconst 0, 1) := by decide +kernel
theorem dX8_hasRoom_19 : decode cX8_hasRoom 19 = .ok (.ireturn, 1) := by decide +kernel
theorem dX8_addNumber_0 : decode cX8_addNumber 0 = .ok (.bipush 24, 2) := by decide +kernel
theorem dX8_addNumber_2 : decode cX8_addNumber 2 = .ok (.istore_n 2, 1) := by decide +kernel
theorem dX8_addNumber_3 : decode cX8_addNumber 3 = .ok (.iload_n 2, 1) := by decide +kernel
theorem dX8_addNumber_4 : decode cX8_addNumber 4 = .ok (.ifCond .lt 44, 3) := by decide +kernel
theorem dX8_addNumber_7 : decode cX8_addNumber 7 = .ok (.aload_n 0, 1) := by decide +kernel
theorem dX8_addNumber_8 : decode cX8_addNumber 8 = .ok (.getfield 15, 3) := by decide +kernel
theorem dX8_addNumber_11 : decode cX8_addNumber 11 = .ok (.aload_n 0, 1) := by decide +kernel
theorem dX8_addNumber_12 : decode cX8_addNumber 12 = .ok (.getfield 11, 3) := by decide +kernel
theorem dX8_addNumber_15 : decode cX8_addNumber 15 = .ok (.arraylength, 1) := by decide +kernel
theorem dX8_addNumber_16 : decode cX8_addNumber 16 = .ok (.if_icmp .ge 32, 3) := by decide +kernel
theorem dX8_addNumber_19 : decode cX8_addNumber 19 = .ok (.aload_n 0, 1) := by decide +kernel
theorem dX8_addNumber_20 : decode cX8_addNumber 20 = .ok (.getfield 11, 3) := by decide +kernel
theorem dX8_addNumber_23 : decode cX8_addNumber 23 = .ok (.aload_n 0, 1) := by decide +kernel
theorem dX8_addNumber_24 : decode cX8_addNumber 24 = .ok (.dup, 1) := by decide +kernel
theorem dX8_addNumber_25 : decode cX8_addNumber 25 = .ok (.getfield 15, 3) := by decide +kernel
theorem dX8_addNumber_28 : decode cX8_addNumber 28 = .ok (.dup_x1, 1) := by decide +kernel
theorem dX8_addNumber_29 : decode cX8_addNumber 29 = .ok (.iconst 1, 1) := by decide +kernel
theorem dX8_addNumber_30 : decode cX8_addNumber 30 = .ok (.iadd, 1) := by decide +kernel
theorem dX8_addNumber_31 : decode cX8_addNumber 31 = .ok (.putfield 15, 3) := by decide +kernel
theorem dX8_addNumber_34 : decode cX8_addNumber 34 = .ok (.iload_n 1, 1) := by decide +kernel
theorem dX8_addNumber_35 : decode cX8_addNumber 35 = .ok (.iload_n 2, 1) := by decide +kernel
theorem dX8_addNumber_36 : decode cX8_addNumber 36 = .ok (.ishr, 1) := by decide +kernel
theorem dX8_addNumber_37 : decode cX8_addNumber 37 = .ok (.sipush 255, 3) := by decide +kernel
theorem dX8_addNumber_40 : decode cX8_addNumber 40 = .ok (.iand, 1) := by decide +kernel
theorem dX8_addNumber_41 : decode cX8_addNumber 41 = .ok (.iastore, 1) := by decide +kernel
theorem dX8_addNumber_42 : decode cX8_addNumber 42 = .ok (.iinc 2 (-8), 3) := by decide +kernel
theorem dX8_addNumber_45 : decode cX8_addNumber 45 = .ok (.goto (-42), 3) := by decide +kernel
theorem dX8_addNumber_48 : decode cX8_addNumber 48 = .ok (.return_, 1) := by decide +kernel
theorem dX8_numberOf_0 : decode cX8_numberOf 0 = .ok (.iconst 4, 1) := by decide +kernel
theorem dX8_numberOf_1 : decode cX8_numberOf 1 = .ok (.iload_n 1, 1) := by decide +kernel
theorem dX8_numberOf_2 : decode cX8_numberOf 2 = .ok (.imul, 1) := by decide +kernel
theorem dX8_numberOf_3 : decode cX8_numberOf 3 = .ok (.iload_n 2, 1) := by decide +kernel
theorem dX8_numberOf_4 : decode cX8_numberOf 4 = .ok (.iadd, 1) := by decide +kernel
theorem dX8_numberOf_5 : decode cX8_numberOf 5 = .ok (.istore_n 3, 1) := by decide +kernel
theorem dX8_numberOf_6 : decode cX8_numberOf 6 = .ok (.iload_n 3, 1) := by decide +kernel
theorem dX8_numberOf_7 : decode cX8_numberOf 7 = .ok (.ifCond .lt 21, 3) := by decide +kernel
theorem dX8_numberOf_10 : decode cX8_numberOf 10 = .ok (.iload_n 3, 1) := by decide +kernel
theorem dX8_numberOf_11 : decode cX8_numberOf 11 = .ok (.aload_n 0, 1) := by decide +kernel
theorem dX8_numberOf_12 : decode cX8_numberOf 12 = .ok (.getfield 43, 3) := by decide +kernel
theorem dX8_numberOf_15 : decode cX8_numberOf 15 = .ok (.arraylength, 1) := by decide +kernel
theorem dX8_numberOf_16 : decode cX8_numberOf 16 = .ok (.if_icmp .ge 12, 3) := by decide +kernel
theorem dX8_numberOf_19 : decode cX8_numberOf 19 = .ok (.aload_n 0, 1) := by decide +kernel
theorem dX8_numberOf_20 : decode cX8_numberOf 20 = .ok (.getfield 43, 3) := by decide +kernel
theorem dX8_numberOf_23 : decode cX8_numberOf 23 = .ok (.iload_n 3, 1) := by decide +kernel
theorem dX8_numberOf_24 : decode cX8_numberOf 24 = .ok (.iaload, 1) := by decide +kernel
theorem dX8_numberOf_25 : decode cX8_numberOf 25 = .ok (.goto 4, 3) := by decide +kernel
theorem dX8_numberOf_28 : decode cX8_numberOf 28 = .ok (.iconst 0, 1) := by decide +kernel
theorem dX8_numberOf_29 : decode cX8_numberOf 29 = .ok (.ireturn, 1) := by decide +kernel
theorem dX8_readSession_0 : decode cX8_readSession 0 = .ok (.aload_n 0, 1) := by decide +kernel
theorem dX8_readSession_1 : decode cX8_readSession 1 = .ok (.invokevirtual 49, 3) := by decide +kernel
theorem dX8_readSession_4 : decode cX8_readSession 4 = .ok (.iconst 0, 1) := by decide +kernel
theorem dX8_readSession_5 : decode cX8_readSession 5 = .ok (.istore_n 1, 1) := by decide +kernel
theorem dX8_readSession_6 : decode cX8_readSession 6 = .ok (.iload_n 1, 1) := by decide +kernel
theorem dX8_readSession_7 : decode cX8_readSession 7 = .ok (.bipush 60, 2) := by decide +kernel
theorem dX8_readSession_9 : decode cX8_readSession 9 = .ok (.if_icmp .ge 82, 3) := by decide +kernel
theorem dX8_readSession_12 : decode cX8_readSession 12 = .ok (.aload_n 0, 1) := by decide +kernel
theorem dX8_readSession_13 : decode cX8_readSession 13 = .ok (.getfield 19, 3) := by decide +kernel
theorem dX8_readSession_16 : decode cX8_readSession 16 = .ok (.ifCond .ne 75, 3) := by decide +kernel
theorem dX8_readSession_19 : decode cX8_readSession 19 = .ok (.iload_n 1, 1) := by decide +kernel
theorem dX8_readSession_20 : decode cX8_readSession 20 = .ok (.ifCond .eq 14, 3) := by decide +kernel
theorem dX8_readSession_23 : decode cX8_readSession 23 = .ok (.aload_n 0, 1) := by decide +kernel
theorem dX8_readSession_24 : decode cX8_readSession 24 = .ok (.getfield 46, 3) := by decide +kernel
theorem dX8_readSession_27 : decode cX8_readSession 27 = .ok (.aload_n 0, 1) := by decide +kernel
theorem dX8_readSession_28 : decode cX8_readSession 28 = .ok (.getfield 15, 3) := by decide +kernel
theorem dX8_readSession_31 : decode cX8_readSession 31 = .ok (.if_icmp .ge 60, 3) := by decide +kernel
theorem dX8_readSession_34 : decode cX8_readSession 34 = .ok (.aload_n 0, 1) := by decide +kernel
theorem dX8_readSession_35 : decode cX8_readSession 35 = .ok (.invokevirtual 52, 3) := by decide +kernel
theorem dX8_readSession_38 : decode cX8_readSession 38 = .ok (.istore_n 2, 1) := by decide +kernel
theorem dX8_readSession_39 : decode cX8_readSession 39 = .ok (.aload_n 0, 1) := by decide +kernel
theorem dX8_readSession_40 : decode cX8_readSession 40 = .ok (.getfield 40, 3) := by decide +kernel
theorem dX8_readSession_43 : decode cX8_readSession 43 = .ok (.aload_n 0, 1) := by decide +kernel
theorem dX8_readSession_44 : decode cX8_readSession 44 = .ok (.getfield 25, 3) := by decide +kernel
theorem dX8_readSession_47 : decode cX8_readSession 47 = .ok (.iload_n 2, 1) := by decide +kernel
theorem dX8_readSession_48 : decode cX8_readSession 48 = .ok (.iastore, 1) := by decide +kernel
theorem dX8_readSession_49 : decode cX8_readSession 49 = .ok (.iload_n 2, 1) := by decide +kernel
theorem dX8_readSession_50 : decode cX8_readSession 50 = .ok (.iconst (-1), 1) := by decide +kernel
theorem dX8_readSession_51 : decode cX8_readSession 51 = .ok (.if_icmp .eq 34, 3) := by decide +kernel
theorem dX8_readSession_54 : decode cX8_readSession 54 = .ok (.aload_n 0, 1) := by decide +kernel
theorem dX8_readSession_55 : decode cX8_readSession 55 = .ok (.iload_n 2, 1) := by decide +kernel
theorem dX8_readSession_56 : decode cX8_readSession 56 = .ok (.invokevirtual 56, 3) := by decide +kernel
theorem dX8_readSession_59 : decode cX8_readSession 59 = .ok (.ifCond .eq 26, 3) := by decide +kernel
theorem dX8_readSession_62 : decode cX8_readSession 62 = .ok (.aload_n 0, 1) := by decide +kernel
theorem dX8_readSession_63 : decode cX8_readSession 63 = .ok (.bipush 59, 2) := by decide +kernel
theorem dX8_readSession_65 : decode cX8_readSession 65 = .ok (.invokevirtual 60, 3) := by decide +kernel
theorem dX8_readSession_68 : decode cX8_readSession 68 = .ok (.ifCond .eq 17, 3) := by decide +kernel
theorem dX8_readSession_71 : decode cX8_readSession 71 = .ok (.aload_n 0, 1) := by decide +kernel
theorem dX8_readSession_72 : decode cX8_readSession 72 = .ok (.dup, 1) := by decide +kernel
theorem dX8_readSession_73 : decode cX8_readSession 73 = .ok (.getfield 25, 3) := by decide +kernel
theorem dX8_readSession_76 : decode cX8_readSession 76 = .ok (.iconst 1, 1) := by decide +kernel
theorem dX8_readSession_77 : decode cX8_readSession 77 = .ok (.iadd, 1) := by decide +kernel
theorem dX8_readSession_78 : decode cX8_readSession 78 = .ok (.putfield 25, 3) := by decide +kernel
theorem dX8_readSession_81 : decode cX8_readSession 81 = .ok (.aload_n 0, 1) := by decide +kernel
theorem dX8_readSession_82 : decode cX8_readSession 82 = .ok (.invokevirtual 63, 3) := by decide +kernel
theorem dX8_readSession_85 : decode cX8_readSession 85 = .ok (.iinc 1 1, 3) := by decide +kernel
theorem dX8_readSession_88 : decode cX8_readSession 88 = .ok (.goto (-82), 3) := by decide +kernel
theorem dX8_readSession_91 : decode cX8_readSession 91 = .ok (.aload_n 0, 1) := by decide +kernel
theorem dX8_readSession_92 : decode cX8_readSession 92 = .ok (.getfield 19, 3) := by decide +kernel
theorem dX8_readSession_95 : decode cX8_readSession 95 = .ok (.ifCond .ne 24, 3) := by decide +kernel
theorem dX8_readSession_98 : decode cX8_readSession 98 = .ok (.aload_n 0, 1) := by decide +kernel
theorem dX8_readSession_99 : decode cX8_readSession 99 = .ok (.getfield 46, 3) := by decide +kernel
theorem dX8_readSession_102 : decode cX8_readSession 102 = .ok (.aload_n 0, 1) := by decide +kernel
theorem dX8_readSession_103 : decode cX8_readSession 103 = .ok (.getfield 15, 3) := by decide +kernel
theorem dX8_readSession_106 : decode cX8_readSession 106 = .ok (.if_icmp .ge 13, 3) := by decide +kernel
theorem dX8_readSession_109 : decode cX8_readSession 109 = .ok (.aload_n 0, 1) := by decide +kernel
theorem dX8_readSession_110 : decode cX8_readSession 110 = .ok (.iconst 5, 1) := by decide +kernel
theorem dX8_readSession_111 : decode cX8_readSession 111 = .ok (.aload_n 0, 1) := by decide +kernel
theorem dX8_readSession_112 : decode cX8_readSession 112 = .ok (.getfield 46, 3) := by decide +kernel
theorem dX8_readSession_115 : decode cX8_readSession 115 = .ok (.invokevirtual 66, 3) := by decide +kernel
theorem dX8_readSession_118 : decode cX8_readSession 118 = .ok (.pop, 1) := by decide +kernel
theorem dX8_readSession_119 : decode cX8_readSession 119 = .ok (.aload_n 0, 1) := by decide +kernel
theorem dX8_readSession_120 : decode cX8_readSession 120 = .ok (.iconst 0, 1) := by decide +kernel
theorem dX8_readSession_121 : decode cX8_readSession 121 = .ok (.putfield 15, 3) := by decide +kernel
theorem dX8_readSession_124 : decode cX8_readSession 124 = .ok (.aload_n 0, 1) := by decide +kernel
theorem dX8_readSession_125 : decode cX8_readSession 125 = .ok (.getfield 19, 3) := by decide +kernel
theorem dX8_readSession_128 : decode cX8_readSession 128 = .ok (.ifCond .ne 7, 3) := by decide +kernel
theorem dX8_readSession_131 : decode cX8_readSession 131 = .ok (.iconst 1, 1) := by decide +kernel
theorem dX8_readSession_132 : decode cX8_readSession 132 = .ok (.goto 4, 3) := by decide +kernel
theorem dX8_readSession_135 : decode cX8_readSession 135 = .ok (.iconst 0, 1) := by decide +kernel
theorem dX8_readSession_136 : decode cX8_readSession 136 = .ok (.ireturn, 1) := by decide +kernel
theorem dX8_readOp_0 : decode cX8_readOp 0 = .ok (.aload_n 0, 1) := by decide +kernel
theorem dX8_readOp_1 : decode cX8_readOp 1 = .ok (.invokevirtual 49, 3) := by decide +kernel
theorem dX8_readOp_4 : decode cX8_readOp 4 = .ok (.aload_n 0, 1) := by decide +kernel
theorem dX8_readOp_5 : decode cX8_readOp 5 = .ok (.iconst (-1), 1) := by decide +kernel
theorem dX8_readOp_6 : decode cX8_readOp 6 = .ok (.invokevirtual 70, 3) := by decide +kernel
theorem dX8_readOp_9 : decode cX8_readOp 9 = .ok (.pop, 1) := by decide +kernel
theorem dX8_readOp_10 : decode cX8_readOp 10 = .ok (.aload_n 0, 1) := by decide +kernel
theorem dX8_readOp_11 : decode cX8_readOp 11 = .ok (.getfield 19, 3) := by decide +kernel
theorem dX8_readOp_14 : decode cX8_readOp 14 = .ok (.ifCond .ne 24, 3) := by decide +kernel
theorem dX8_readOp_17 : decode cX8_readOp 17 = .ok (.aload_n 0, 1) := by decide +kernel
theorem dX8_readOp_18 : decode cX8_readOp 18 = .ok (.getfield 46, 3) := by decide +kernel
theorem dX8_readOp_21 : decode cX8_readOp 21 = .ok (.aload_n 0, 1) := by decide +kernel
theorem dX8_readOp_22 : decode cX8_readOp 22 = .ok (.getfield 15, 3) := by decide +kernel
theorem dX8_readOp_25 : decode cX8_readOp 25 = .ok (.if_icmp .ge 13, 3) := by decide +kernel
theorem dX8_readOp_28 : decode cX8_readOp 28 = .ok (.aload_n 0, 1) := by decide +kernel
theorem dX8_readOp_29 : decode cX8_readOp 29 = .ok (.iconst 1, 1) := by decide +kernel
theorem dX8_readOp_30 : decode cX8_readOp 30 = .ok (.aload_n 0, 1) := by decide +kernel
theorem dX8_readOp_31 : decode cX8_readOp 31 = .ok (.getfield 46, 3) := by decide +kernel
theorem dX8_readOp_34 : decode cX8_readOp 34 = .ok (.invokevirtual 66, 3) := by decide +kernel
theorem dX8_readOp_37 : decode cX8_readOp 37 = .ok (.pop, 1) := by decide +kernel
theorem dX8_readOp_38 : decode cX8_readOp 38 = .ok (.aload_n 0, 1) := by decide +kernel
theorem dX8_readOp_39 : decode cX8_readOp 39 = .ok (.iconst 0, 1) := by decide +kernel
theorem dX8_readOp_40 : decode cX8_readOp 40 = .ok (.putfield 15, 3) := by decide +kernel
theorem dX8_readOp_43 : decode cX8_readOp 43 = .ok (.aload_n 0, 1) := by decide +kernel
theorem dX8_readOp_44 : decode cX8_readOp 44 = .ok (.getfield 19, 3) := by decide +kernel
theorem dX8_readOp_47 : decode cX8_readOp 47 = .ok (.ifCond .ne 7, 3) := by decide +kernel
theorem dX8_readOp_50 : decode cX8_readOp 50 = .ok (.iconst 1, 1) := by decide +kernel
theorem dX8_readOp_51 : decode cX8_readOp 51 = .ok (.goto 4, 3) := by decide +kernel
theorem dX8_readOp_54 : decode cX8_readOp 54 = .ok (.iconst 0, 1) := by decide +kernel
theorem dX8_readOp_55 : decode cX8_readOp 55 = .ok (.ireturn, 1) := by decide +kernel
theorem dX8_open_0 : decode cX8_open 0 = .ok (.aload_n 0, 1) := by decide +kernel
theorem dX8_open_1 : decode cX8_open 1 = .ok (.iconst 0, 1) := by decide +kernel
theorem dX8_open_2 : decode cX8_open 2 = .ok (.putfield 46, 3) := by decide +kernel
theorem dX8_open_5 : decode cX8_open 5 = .ok (.aload_n 0, 1) := by decide +kernel
theorem dX8_open_6 : decode cX8_open 6 = .ok (.iconst 0, 1) := by decide +kernel
theorem dX8_open_7 : decode cX8_open 7 = .ok (.putfield 19, 3) := by decide +kernel
theorem dX8_open_10 : decode cX8_open 10 = .ok (.aload_n 0, 1) := by decide +kernel
theorem dX8_open_11 : decode cX8_open 11 = .ok (.iconst 0, 1) := by decide +kernel
theorem dX8_open_12 : decode cX8_open 12 = .ok (.putfield 25, 3) := by decide +kernel
theorem dX8_open_15 : decode cX8_open 15 = .ok (.aload_n 0, 1) := by decide +kernel
theorem dX8_open_16 : decode cX8_open 16 = .ok (.iconst 0, 1) := by decide +kernel
theorem dX8_open_17 : decode cX8_open 17 = .ok (.putfield 37, 3) := by decide +kernel
theorem dX8_open_20 : decode cX8_open 20 = .ok (.return_, 1) := by decide +kernel
theorem dX8_fail_0 : decode cX8_fail 0 = .ok (.aload_n 0, 1) := by decide +kernel
theorem dX8_fail_1 : decode cX8_fail 1 = .ok (.iload_n 1, 1) := by decide +kernel
theorem dX8_fail_2 : decode cX8_fail 2 = .ok (.putfield 19, 3) := by decide +kernel
theorem dX8_fail_5 : decode cX8_fail 5 = .ok (.aload_n 0, 1) := by decide +kernel
theorem dX8_fail_6 : decode cX8_fail 6 = .ok (.iload_n 2, 1) := by decide +kernel
theorem dX8_fail_7 : decode cX8_fail 7 = .ok (.putfield 22, 3) := by decide +kernel
theorem dX8_fail_10 : decode cX8_fail 10 = .ok (.iconst 0, 1) := by decide +kernel
theorem dX8_fail_11 : decode cX8_fail 11 = .ok (.ireturn, 1) := by decide +kernel
theorem dX8_look_0 : decode cX8_look 0 = .ok (.aload_n 0, 1) := by decide +kernel
theorem dX8_look_1 : decode cX8_look 1 = .ok (.getfield 46, 3) := by decide +kernel
theorem dX8_look_4 : decode cX8_look 4 = .ok (.aload_n 0, 1) := by decide +kernel
theorem dX8_look_5 : decode cX8_look 5 = .ok (.getfield 15, 3) := by decide +kernel
theorem dX8_look_8 : decode cX8_look 8 = .ok (.if_icmp .ge 15, 3) := by decide +kernel
theorem dX8_look_11 : decode cX8_look 11 = .ok (.aload_n 0, 1) := by decide +kernel
theorem dX8_look_12 : decode cX8_look 12 = .ok (.getfield 11, 3) := by decide +kernel
theorem dX8_look_15 : decode cX8_look 15 = .ok (.aload_n 0, 1) := by decide +kernel
theorem dX8_look_16 : decode cX8_look 16 = .ok (.getfield 46, 3) := by decide +kernel
theorem dX8_look_19 : decode cX8_look 19 = .ok (.iaload, 1) := by decide +kernel
theorem dX8_look_20 : decode cX8_look 20 = .ok (.goto 4, 3) := by decide +kernel
theorem dX8_look_23 : decode cX8_look 23 = .ok (.iconst (-1), 1) := by decide +kernel
theorem dX8_look_24 : decode cX8_look 24 = .ok (.ireturn, 1) := by decide +kernel
theorem dX8_isAtLetter_0 : decode cX8_isAtLetter 0 = .ok (.aload_n 0, 1) := by decide +kernel
theorem dX8_isAtLetter_1 : decode cX8_isAtLetter 1 = .ok (.getfield 46, 3) := by decide +kernel
theorem dX8_isAtLetter_4 : decode cX8_isAtLetter 4 = .ok (.aload_n 0, 1) := by decide +kernel
theorem dX8_isAtLetter_5 : decode cX8_isAtLetter 5 = .ok (.getfield 15, 3) := by decide +kernel
theorem dX8_isAtLetter_8 : decode cX8_isAtLetter 8 = .ok (.if_icmp .ge 35, 3) := by decide +kernel
theorem dX8_isAtLetter_11 : decode cX8_isAtLetter 11 = .ok (.aload_n 0, 1) := by decide +kernel
theorem dX8_isAtLetter_12 : decode cX8_isAtLetter 12 = .ok (.getfield 11, 3) := by decide +kernel
theorem dX8_isAtLetter_15 : decode cX8_isAtLetter 15 = .ok (.aload_n 0, 1) := by decide +kernel
theorem dX8_isAtLetter_16 : decode cX8_isAtLetter 16 = .ok (.getfield 46, 3) := by decide +kernel
theorem dX8_isAtLetter_19 : decode cX8_isAtLetter 19 = .ok (.iaload, 1) := by decide +kernel
theorem dX8_isAtLetter_20 : decode cX8_isAtLetter 20 = .ok (.bipush 97, 2) := by decide +kernel
theorem dX8_isAtLetter_22 : decode cX8_isAtLetter 22 = .ok (.if_icmp .lt 21, 3) := by decide +kernel
theorem dX8_isAtLetter_25 : decode cX8_isAtLetter 25 = .ok (.aload_n 0, 1) := by decide +kernel
theorem dX8_isAtLetter_26 : decode cX8_isAtLetter 26 = .ok (.getfield 11, 3) := by decide +kernel
theorem dX8_isAtLetter_29 : decode cX8_isAtLetter 29 = .ok (.aload_n 0, 1) := by decide +kernel
theorem dX8_isAtLetter_30 : decode cX8_isAtLetter 30 = .ok (.getfield 46, 3) := by decide +kernel
theorem dX8_isAtLetter_33 : decode cX8_isAtLetter 33 = .ok (.iaload, 1) := by decide +kernel
theorem dX8_isAtLetter_34 : decode cX8_isAtLetter 34 = .ok (.bipush 122, 2) := by decide +kernel
theorem dX8_isAtLetter_36 : decode cX8_isAtLetter 36 = .ok (.if_icmp .gt 7, 3) := by decide +kernel
theorem dX8_isAtLetter_39 : decode cX8_isAtLetter 39 = .ok (.iconst 1, 1) := by decide +kernel
theorem dX8_isAtLetter_40 : decode cX8_isAtLetter 40 = .ok (.goto 4, 3) := by decide +kernel
theorem dX8_isAtLetter_43 : decode cX8_isAtLetter 43 = .ok (.iconst 0, 1) := by decide +kernel
theorem dX8_isAtLetter_44 : decode cX8_isAtLetter 44 = .ok (.ireturn, 1) := by decide +kernel
theorem dX8_isAtDigit_0 : decode cX8_isAtDigit 0 = .ok (.aload_n 0, 1) := by decide +kernel
theorem dX8_isAtDigit_1 : decode cX8_isAtDigit 1 = .ok (.getfield 46, 3) := by decide +kernel
theorem dX8_isAtDigit_4 : decode cX8_isAtDigit 4 = .ok (.aload_n 0, 1) := by decide +kernel
theorem dX8_isAtDigit_5 : decode cX8_isAtDigit 5 = .ok (.getfield 15, 3) := by decide +kernel
theorem dX8_isAtDigit_8 : decode cX8_isAtDigit 8 = .ok (.if_icmp .ge 35, 3) := by decide +kernel
theorem dX8_isAtDigit_11 : decode cX8_isAtDigit 11 = .ok (.aload_n 0, 1) := by decide +kernel
theorem dX8_isAtDigit_12 : decode cX8_isAtDigit 12 = .ok (.getfield 11, 3) := by decide +kernel
theorem dX8_isAtDigit_15 : decode cX8_isAtDigit 15 = .ok (.aload_n 0, 1) := by decide +kernel
theorem dX8_isAtDigit_16 : decode cX8_isAtDigit 16 = .ok (.getfield 46, 3) := by decide +kernel
theorem dX8_isAtDigit_19 : decode cX8_isAtDigit 19 = .ok (.iaload, 1) := by decide +kernel
theorem dX8_isAtDigit_20 : decode cX8_isAtDigit 20 = .ok (.bipush 48, 2) := by decide +kernel
theorem dX8_isAtDigit_22 : decode cX8_isAtDigit 22 = .ok (.if_icmp .lt 21, 3) := by decide +kernel
theorem dX8_isAtDigit_25 : decode cX8_isAtDigit 25 = .ok (.aload_n 0, 1) := by decide +kernel
theorem dX8_isAtDigit_26 : decode cX8_isAtDigit 26 = .ok (.getfield 11, 3) := by decide +kernel
theorem dX8_isAtDigit_29 : decode cX8_isAtDigit 29 = .ok (.aload_n 0, 1) := by decide +kernel
theorem dX8_isAtDigit_30 : decode cX8_isAtDigit 30 = .ok (.getfield 46, 3) := by decide +kernel
theorem dX8_isAtDigit_33 : decode cX8_isAtDigit 33 = .ok (.iaload, 1) := by decide +kernel
theorem dX8_isAtDigit_34 : decode cX8_isAtDigit 34 = .ok (.bipush 57, 2) := by decide +kernel
theorem dX8_isAtDigit_36 : decode cX8_isAtDigit 36 = .ok (.if_icmp .gt 7, 3) := by decide +kernel
theorem dX8_isAtDigit_39 : decode cX8_isAtDigit 39 = .ok (.iconst 1, 1) := by decide +kernel
theorem dX8_isAtDigit_40 : decode cX8_isAtDigit 40 = .ok (.goto 4, 3) := by decide +kernel
theorem dX8_isAtDigit_43 : decode cX8_isAtDigit 43 = .ok (.iconst 0, 1) := by decide +kernel
theorem dX8_isAtDigit_44 : decode cX8_isAtDigit 44 = .ok (.ireturn, 1) := by decide +kernel
theorem dX8_skipBlanks_0 : decode cX8_skipBlanks 0 = .ok (.aload_n 0, 1) := by decide +kernel
theorem dX8_skipBlanks_1 : decode cX8_skipBlanks 1 = .ok (.getfield 46, 3) := by decide +kernel
theorem dX8_skipBlanks_4 : decode cX8_skipBlanks 4 = .ok (.aload_n 0, 1) := by decide +kernel
theorem dX8_skipBlanks_5 : decode cX8_skipBlanks 5 = .ok (.getfield 15, 3) := by decide +kernel
theorem dX8_skipBlanks_8 : decode cX8_skipBlanks 8 = .ok (.if_icmp .ge 44, 3) := by decide +kernel
theorem dX8_skipBlanks_11 : decode cX8_skipBlanks 11 = .ok (.aload_n 0, 1) := by decide +kernel
theorem dX8_skipBlanks_12 : decode cX8_skipBlanks 12 = .ok (.getfield 11, 3) := by decide +kernel
theorem dX8_skipBlanks_15 : decode cX8_skipBlanks 15 = .ok (.aload_n 0, 1) := by decide +kernel
theorem dX8_skipBlanks_16 : decode cX8_skipBlanks 16 = .ok (.getfield 46, 3) := by decide +kernel
theorem dX8_skipBlanks_19 : decode cX8_skipBlanks 19 = .ok (.iaload, 1) := by decide +kernel
theorem dX8_skipBlanks_20 : decode cX8_skipBlanks 20 = .ok (.bipush 10, 2) := by decide +kernel
theorem dX8_skipBlanks_22 : decode cX8_skipBlanks 22 = .ok (.if_icmp .eq 17, 3) := by decide +kernel
theorem dX8_skipBlanks_25 : decode cX8_skipBlanks 25 = .ok (.aload_n 0, 1) := by decide +kernel
theorem dX8_skipBlanks_26 : decode cX8_skipBlanks 26 = .ok (.getfield 11, 3) := by decide +kernel
theorem dX8_skipBlanks_29 : decode cX8_skipBlanks 29 = .ok (.aload_n 0, 1) := by decide +kernel
theorem dX8_skipBlanks_30 : decode cX8_skipBlanks 30 = .ok (.getfield 46, 3) := by decide +kernel
theorem dX8_skipBlanks_33 : decode cX8_skipBlanks 33 = .ok (.iaload, 1) := by decide +kernel
theorem dX8_skipBlanks_34 : decode cX8_skipBlanks 34 = .ok (.bipush 32, 2) := by decide +kernel
theorem dX8_skipBlanks_36 : decode cX8_skipBlanks 36 = .ok (.if_icmp .ne 16, 3) := by decide +kernel
theorem dX8_skipBlanks_39 : decode cX8_skipBlanks 39 = .ok (.aload_n 0, 1) := by decide +kernel
theorem dX8_skipBlanks_40 : decode cX8_skipBlanks 40 = .ok (.dup, 1) := by decide +kernel
theorem dX8_skipBlanks_41 : decode cX8_skipBlanks 41 = .ok (.getfield 46, 3) := by decide +kernel
theorem dX8_skipBlanks_44 : decode cX8_skipBlanks 44 = .ok (.iconst 1, 1) := by decide +kernel
theorem dX8_skipBlanks_45 : decode cX8_skipBlanks 45 = .ok (.iadd, 1) := by decide +kernel
theorem dX8_skipBlanks_46 : decode cX8_skipBlanks 46 = .ok (.putfield 46, 3) := by decide +kernel
theorem dX8_skipBlanks_49 : decode cX8_skipBlanks 49 = .ok (.goto (-49), 3) := by decide +kernel
theorem dX8_skipBlanks_52 : decode cX8_skipBlanks 52 = .ok (.return_, 1) := by decide +kernel
theorem dX8_readRest_0 : decode cX8_readRest 0 = .ok (.iload_n 1, 1) := by decide +kernel
theorem dX8_readRest_1 : decode cX8_readRest 1 = .ok (.tableswitch 188 0 8 #[51, 73, 56, 97, 119, 143, 188, 188, 64], 51) := by decide +kernel
theorem dX8_readRest_52 : decode cX8_readRest 52 = .ok (.aload_n 0, 1) := by decide +kernel
theorem dX8_readRest_53 : decode cX8_readRest 53 = .ok (.invokevirtual 73, 3) := by decide +kernel
theorem dX8_readRest_56 : decode cX8_readRest 56 = .ok (.ireturn, 1) := by decide +kernel
theorem dX8_readRest_57 : decode cX8_readRest 57 = .ok (.aload_n 0, 1) := by decide +kernel
theorem dX8_readRest_58 : decode cX8_readRest 58 = .ok (.iconst 0, 1) := by decide +kernel
theorem dX8_readRest_59 : decode cX8_readRest 59 = .ok (.iconst 0, 1) := by decide +kernel
theorem dX8_readRest_60 : decode cX8_readRest 60 = .ok (.iconst 2, 1) := by decide +kernel
theorem dX8_readRest_61 : decode cX8_readRest 61 = .ok (.invokevirtual 77, 3) := by decide +kernel
theorem dX8_readRest_64 : decode cX8_readRest 64 = .ok (.ireturn, 1) := by decide +kernel
theorem dX8_readRest_65 : decode cX8_readRest 65 = .ok (.aload_n 0, 1) := by decide +kernel
theorem dX8_readRest_66 : decode cX8_readRest 66 = .ok (.iconst 0, 1) := by decide +kernel
theorem dX8_readRest_67 : decode cX8_readRest 67 = .ok (.iconst 1, 1) := by decide +kernel
theorem dX8_readRest_68 : decode cX8_readRest 68 = .ok (.bipush 99, 2) := by decide +kernel
theorem dX8_readRest_70 : decode cX8_readRest 70 = .ok (.invokevirtual 77, 3) := by decide +kernel
theorem dX8_readRest_73 : decode cX8_readRest 73 = .ok (.ireturn, 1) := by decide +kernel
theorem dX8_readRest_74 : decode cX8_readRest 74 = .ok (.aload_n 0, 1) := by decide +kernel
theorem dX8_readRest_75 : decode cX8_readRest 75 = .ok (.invokevirtual 81, 3) := by decide +kernel
theorem dX8_readRest_78 : decode cX8_readRest 78 = .ok (.ifCond .eq 18, 3) := by decide +kernel
theorem dX8_readRest_81 : decode cX8_readRest 81 = .ok (.aload_n 0, 1) := by decide +kernel
theorem dX8_readRest_82 : decode cX8_readRest 82 = .ok (.iconst 1, 1) := by decide +kernel
theorem dX8_readRest_83 : decode cX8_readRest 83 = .ok (.iconst 0, 1) := by decide +kernel
theorem dX8_readRest_84 : decode cX8_readRest 84 = .ok (.bipush 9, 2) := by decide +kernel
theorem dX8_readRest_86 : decode cX8_readRest 86 = .ok (.invokevirtual 77, 3) := by decide +kernel
theorem dX8_readRest_89 : decode cX8_readRest 89 = .ok (.ifCond .eq 7, 3) := by decide +kernel
theorem dX8_readRest_92 : decode cX8_readRest 92 = .ok (.iconst 1, 1) := by decide +kernel
theorem dX8_readRest_93 : decode cX8_readRest 93 = .ok (.goto 4, 3) := by decide +kernel
theorem dX8_readRest_96 : decode cX8_readRest 96 = .ok (.iconst 0, 1) := by decide +kernel
theorem dX8_readRest_97 : decode cX8_readRest 97 = .ok (.ireturn, 1) := by decide +kernel
theorem dX8_readRest_98 : decode cX8_readRest 98 = .ok (.aload_n 0, 1) := by decide +kernel
theorem dX8_readRest_99 : decode cX8_readRest 99 = .ok (.invokevirtual 81, 3) := by decide +kernel
theorem dX8_readRest_102 : decode cX8_readRest 102 = .ok (.ifCond .eq 16, 3) := by decide +kernel
theorem dX8_readRest_105 : decode cX8_readRest 105 = .ok (.aload_n 0, 1) := by decide +kernel
theorem dX8_readRest_106 : decode cX8_readRest 106 = .ok (.bipush 59, 2) := by decide +kernel
theorem dX8_readRest_108 : decode cX8_readRest 108 = .ok (.invokevirtual 70, 3) := by decide +kernel
theorem dX8_readRest_111 : decode cX8_readRest 111 = .ok (.ifCond .eq 7, 3) := by decide +kernel
theorem dX8_readRest_114 : decode cX8_readRest 114 = .ok (.iconst 1, 1) := by decide +kernel
theorem dX8_readRest_115 : decode cX8_readRest 115 = .ok (.goto 4, 3) := by decide +kernel
theorem dX8_readRest_118 : decode cX8_readRest 118 = .ok (.iconst 0, 1) := by decide +kernel
theorem dX8_readRest_119 : decode cX8_readRest 119 = .ok (.ireturn, 1) := by decide +kernel
theorem dX8_readRest_120 : decode cX8_readRest 120 = .ok (.aload_n 0, 1) := by decide +kernel
theorem dX8_readRest_121 : decode cX8_readRest 121 = .ok (.invokevirtual 81, 3) := by decide +kernel
theorem dX8_readRest_124 : decode cX8_readRest 124 = .ok (.ifCond .eq 18, 3) := by decide +kernel
theorem dX8_readRest_127 : decode cX8_readRest 127 = .ok (.aload_n 0, 1) := by decide +kernel
theorem dX8_readRest_128 : decode cX8_readRest 128 = .ok (.iconst 1, 1) := by decide +kernel
theorem dX8_readRest_129 : decode cX8_readRest 129 = .ok (.iconst 0, 1) := by decide +kernel
theorem dX8_readRest_130 : decode cX8_readRest 130 = .ok (.bipush 99, 2) := by decide +kernel
theorem dX8_readRest_132 : decode cX8_readRest 132 = .ok (.invokevirtual 77, 3) := by decide +kernel
theorem dX8_readRest_135 : decode cX8_readRest 135 = .ok (.ifCond .eq 7, 3) := by decide +kernel
theorem dX8_readRest_138 : decode cX8_readRest 138 = .ok (.iconst 1, 1) := by decide +kernel
theorem dX8_readRest_139 : decode cX8_readRest 139 = .ok (.goto 4, 3) := by decide +kernel
theorem dX8_readRest_142 : decode cX8_readRest 142 = .ok (.iconst 0, 1) := by decide +kernel
theorem dX8_readRest_143 : decode cX8_readRest 143 = .ok (.ireturn, 1) := by decide +kernel
theorem dX8_readRest_144 : decode cX8_readRest 144 = .ok (.aload_n 0, 1) := by decide +kernel
theorem dX8_readRest_145 : decode cX8_readRest 145 = .ok (.invokevirtual 81, 3) := by decide +kernel
theorem dX8_readRest_148 : decode cX8_readRest 148 = .ok (.ifCond .eq 39, 3) := by decide +kernel
theorem dX8_readRest_151 : decode cX8_readRest 151 = .ok (.aload_n 0, 1) := by decide +kernel
theorem dX8_readRest_152 : decode cX8_readRest 152 = .ok (.iconst 1, 1) := by decide +kernel
theorem dX8_readRest_153 : decode cX8_readRest 153 = .ok (.iconst 0, 1) := by decide +kernel
theorem dX8_readRest_154 : decode cX8_readRest 154 = .ok (.bipush 99, 2) := by decide +kernel
theorem dX8_readRest_156 : decode cX8_readRest 156 = .ok (.invokevirtual 77, 3) := by decide +kernel
theorem dX8_readRest_159 : decode cX8_readRest 159 = .ok (.ifCond .eq 28, 3) := by decide +kernel
theorem dX8_readRest_162 : decode cX8_readRest 162 = .ok (.aload_n 0, 1) := by decide +kernel
theorem dX8_readRest_163 : decode cX8_readRest 163 = .ok (.iconst 2, 1) := by decide +kernel
theorem dX8_readRest_164 : decode cX8_readRest 164 = .ok (.iconst 0, 1) := by decide +kernel
theorem dX8_readRest_165 : decode cX8_readRest 165 = .ok (.bipush 99, 2) := by decide +kernel
theorem dX8_readRest_167 : decode cX8_readRest 167 = .ok (.invokevirtual 77, 3) := by decide +kernel
theorem dX8_readRest_170 : decode cX8_readRest 170 = .ok (.ifCond .eq 17, 3) := by decide +kernel
theorem dX8_readRest_173 : decode cX8_readRest 173 = .ok (.aload_n 0, 1) := by decide +kernel
theorem dX8_readRest_174 : decode cX8_readRest 174 = .ok (.iconst 3, 1) := by decide +kernel
theorem dX8_readRest_175 : decode cX8_readRest 175 = .ok (.iconst 0, 1) := by decide +kernel
theorem dX8_readRest_176 : decode cX8_readRest 176 = .ok (.iconst 3, 1) := by decide +kernel
theorem dX8_readRest_177 : decode cX8_readRest 177 = .ok (.invokevirtual 77, 3) := by decide +kernel
theorem dX8_readRest_180 : decode cX8_readRest 180 = .ok (.ifCond .eq 7, 3) := by decide +kernel
theorem dX8_readRest_183 : decode cX8_readRest 183 = .ok (.iconst 1, 1) := by decide +kernel
theorem dX8_readRest_184 : decode cX8_readRest 184 = .ok (.goto 4, 3) := by decide +kernel
theorem dX8_readRest_187 : decode cX8_readRest 187 = .ok (.iconst 0, 1) := by decide +kernel
theorem dX8_readRest_188 : decode cX8_readRest 188 = .ok (.ireturn, 1) := by decide +kernel
theorem dX8_readRest_189 : decode cX8_readRest 189 = .ok (.aload_n 0, 1) := by decide +kernel
theorem dX8_readRest_190 : decode cX8_readRest 190 = .ok (.invokevirtual 81, 3) := by decide +kernel
theorem dX8_readRest_193 : decode cX8_readRest 193 = .ok (.ireturn, 1) := by decide +kernel
theorem dX8_readText_0 : decode cX8_readText 0 = .ok (.aload_n 0, 1) := by decide +kernel
theorem dX8_readText_1 : decode cX8_readText 1 = .ok (.bipush 40, 2) := by decide +kernel
theorem dX8_readText_3 : decode cX8_readText 3 = .ok (.invokevirtual 84, 3) := by decide +kernel
theorem dX8_readText_6 : decode cX8_readText 6 = .ok (.ifCond .eq 10, 3) := by decide +kernel
theorem dX8_readText_9 : decode cX8_readText 9 = .ok (.aload_n 0, 1) := by decide +kernel
theorem dX8_readText_10 : decode cX8_readText 10 = .ok (.invokevirtual 87, 3) := by decide +kernel
theorem dX8_readText_13 : decode cX8_readText 13 = .ok (.ifCond .ne 5, 3) := by decide +kernel
theorem dX8_readText_16 : decode cX8_readText 16 = .ok (.iconst 0, 1) := by decide +kernel
theorem dX8_readText_17 : decode cX8_readText 17 = .ok (.ireturn, 1) := by decide +kernel
theorem dX8_readText_18 : decode cX8_readText 18 = .ok (.aload_n 0, 1) := by decide +kernel
theorem dX8_readText_19 : decode cX8_readText 19 = .ok (.aload_n 0, 1) := by decide +kernel
theorem dX8_readText_20 : decode cX8_readText 20 = .ok (.getfield 37, 3) := by decide +kernel
theorem dX8_readText_23 : decode cX8_readText 23 = .ok (.putfield 31, 3) := by decide +kernel
theorem dX8_readText_26 : decode cX8_readText 26 = .ok (.aload_n 0, 1) := by decide +kernel
theorem dX8_readText_27 : decode cX8_readText 27 = .ok (.invokevirtual 63, 3) := by decide +kernel
theorem dX8_readText_30 : decode cX8_readText 30 = .ok (.aload_n 0, 1) := by decide +kernel
theorem dX8_readText_31 : decode cX8_readText 31 = .ok (.getfield 46, 3) := by decide +kernel
theorem dX8_readText_34 : decode cX8_readText 34 = .ok (.istore_n 1, 1) := by decide +kernel
theorem dX8_readText_35 : decode cX8_readText 35 = .ok (.aload_n 0, 1) := by decide +kernel
theorem dX8_readText_36 : decode cX8_readText 36 = .ok (.invokevirtual 90, 3) := by decide +kernel
theorem dX8_readText_39 : decode cX8_readText 39 = .ok (.bipush 9, 2) := by decide +kernel
theorem dX8_readText_41 : decode cX8_readText 41 = .ok (.if_icmp .eq 10, 3) := by decide +kernel
theorem dX8_readText_44 : decode cX8_readText 44 = .ok (.aload_n 0, 1) := by decide +kernel
theorem dX8_readText_45 : decode cX8_readText 45 = .ok (.iconst 1, 1) := by decide +kernel
theorem dX8_readText_46 : decode cX8_readText 46 = .ok (.iload_n 1, 1) := by decide +kernel
theorem dX8_readText_47 : decode cX8_readText 47 = .ok (.invokevirtual 66, 3) := by decide +kernel
theorem dX8_readText_50 : decode cX8_readText 50 = .ok (.ireturn, 1) := by decide +kernel
theorem dX8_readText_51 : decode cX8_readText 51 = .ok (.aload_n 0, 1) := by decide +kernel
theorem dX8_readText_52 : decode cX8_readText 52 = .ok (.invokevirtual 87, 3) := by decide +kernel
theorem dX8_readText_55 : decode cX8_readText 55 = .ok (.ifCond .eq 13, 3) := by decide +kernel
theorem dX8_readText_58 : decode cX8_readText 58 = .ok (.aload_n 0, 1) := by decide +kernel
theorem dX8_readText_59 : decode cX8_readText 59 = .ok (.iconst 0, 1) := by decide +kernel
theorem dX8_readText_60 : decode cX8_readText 60 = .ok (.iconst 2, 1) := by decide +kernel
theorem dX8_readText_61 : decode cX8_readText 61 = .ok (.iconst 4, 1) := by decide +kernel
theorem dX8_readText_62 : decode cX8_readText 62 = .ok (.invokevirtual 77, 3) := by decide +kernel
theorem dX8_readText_65 : decode cX8_readText 65 = .ok (.ifCond .ne 5, 3) := by decide +kernel
theorem dX8_readText_68 : decode cX8_readText 68 = .ok (.iconst 0, 1) := by decide +kernel
theorem dX8_readText_69 : decode cX8_readText 69 = .ok (.ireturn, 1) := by decide +kernel
theorem dX8_readText_70 : decode cX8_readText 70 = .ok (.aload_n 0, 1) := by decide +kernel
theorem dX8_readText_71 : decode cX8_readText 71 = .ok (.aload_n 0, 1) := by decide +kernel
theorem dX8_readText_72 : decode cX8_readText 72 = .ok (.aload_n 0, 1) := by decide +kernel
theorem dX8_readText_73 : decode cX8_readText 73 = .ok (.getfield 25, 3) := by decide +kernel
theorem dX8_readText_76 : decode cX8_readText 76 = .ok (.iconst 0, 1) := by decide +kernel
theorem dX8_readText_77 : decode cX8_readText 77 = .ok (.invokevirtual 93, 3) := by decide +kernel
theorem dX8_readText_80 : decode cX8_readText 80 = .ok (.putfield 28, 3) := by decide +kernel
theorem dX8_readText_83 : decode cX8_readText 83 = .ok (.iconst 1, 1) := by decide +kernel
theorem dX8_readText_84 : decode cX8_readText 84 = .ok (.ireturn, 1) := by decide +kernel
theorem dX8_readEditor_0 : decode cX8_readEditor 0 = .ok (.aload_n 0, 1) := by decide +kernel
theorem dX8_readEditor_1 : decode cX8_readEditor 1 = .ok (.iconst 0, 1) := by decide +kernel
theorem dX8_readEditor_2 : decode cX8_readEditor 2 = .ok (.iconst 0, 1) := by decide +kernel
theorem dX8_readEditor_3 : decode cX8_readEditor 3 = .ok (.aload_n 0, 1) := by decide +kernel
theorem dX8_readEditor_4 : decode cX8_readEditor 4 = .ok (.getfield 28, 3) := by decide +kernel
theorem dX8_readEditor_7 : decode cX8_readEditor 7 = .ok (.iconst 1, 1) := by decide +kernel
theorem dX8_readEditor_8 : decode cX8_readEditor 8 = .ok (.isub, 1) := by decide +kernel
theorem dX8_readEditor_9 : decode cX8_readEditor 9 = .ok (.invokevirtual 77, 3) := by decide +kernel
theorem dX8_readEditor_12 : decode cX8_readEditor 12 = .ok (.ireturn, 1) := by decide +kernel
theorem dX8_readKeyword_0 : decode cX8_readKeyword 0 = .ok (.aload_n 0, 1) := by decide +kernel
theorem dX8_readKeyword_1 : decode cX8_readKeyword 1 = .ok (.invokevirtual 63, 3) := by decide +kernel
theorem dX8_readKeyword_4 : decode cX8_readKeyword 4 = .ok (.aload_n 0, 1) := by decide +kernel
theorem dX8_readKeyword_5 : decode cX8_readKeyword 5 = .ok (.getfield 46, 3) := by decide +kernel
theorem dX8_readKeyword_8 : decode cX8_readKeyword 8 = .ok (.istore_n 1, 1) := by decide +kernel
theorem dX8_readKeyword_9 : decode cX8_readKeyword 9 = .ok (.aload_n 0, 1) := by decide +kernel
theorem dX8_readKeyword_10 : decode cX8_readKeyword 10 = .ok (.invokevirtual 90, 3) := by decide +kernel
theorem dX8_readKeyword_13 : decode cX8_readKeyword 13 = .ok (.istore_n 2, 1) := by decide +kernel
theorem dX8_readKeyword_14 : decode cX8_readKeyword 14 = .ok (.iload_n 2, 1) := by decide +kernel
theorem dX8_readKeyword_15 : decode cX8_readKeyword 15 = .ok (.iconst (-1), 1) := by decide +kernel
theorem dX8_readKeyword_16 : decode cX8_readKeyword 16 = .ok (.if_icmp .eq 33, 3) := by decide +kernel
theorem dX8_readKeyword_19 : decode cX8_readKeyword 19 = .ok (.iload_n 2, 1) := by decide +kernel
theorem dX8_readKeyword_20 : decode cX8_readKeyword 20 = .ok (.bipush 9, 2) := by decide +kernel
theorem dX8_readKeyword_22 : decode cX8_readKeyword 22 = .ok (.if_icmp .eq 27, 3) := by decide +kernel
theorem dX8_readKeyword_25 : decode cX8_readKeyword 25 = .ok (.iload_n 2, 1) := by decide +kernel
theorem dX8_readKeyword_26 : decode cX8_readKeyword 26 = .ok (.ifCond .ne 7, 3) := by decide +kernel
theorem dX8_readKeyword_29 : decode cX8_readKeyword 29 = .ok (.iconst 1, 1) := by decide +kernel
theorem dX8_readKeyword_30 : decode cX8_readKeyword 30 = .ok (.goto 4, 3) := by decide +kernel
theorem dX8_readKeyword_33 : decode cX8_readKeyword 33 = .ok (.iconst 0, 1) := by decide +kernel
theorem dX8_readKeyword_34 : decode cX8_readKeyword 34 = .ok (.aload_n 0, 1) := by decide +kernel
theorem dX8_readKeyword_35 : decode cX8_readKeyword 35 = .ok (.getfield 25, 3) := by decide +kernel
theorem dX8_readKeyword_38 : decode cX8_readKeyword 38 = .ok (.ifCond .ne 7, 3) := by decide +kernel
theorem dX8_readKeyword_41 : decode cX8_readKeyword 41 = .ok (.iconst 1, 1) := by decide +kernel
theorem dX8_readKeyword_42 : decode cX8_readKeyword 42 = .ok (.goto 4, 3) := by decide +kernel
theorem dX8_readKeyword_45 : decode cX8_readKeyword 45 = .ok (.iconst 0, 1) := by decide +kernel
theorem dX8_readKeyword_46 : decode cX8_readKeyword 46 = .ok (.if_icmp .eq 12, 3) := by decide +kernel
theorem dX8_readKeyword_49 : decode cX8_readKeyword 49 = .ok (.aload_n 0, 1) := by decide +kernel
theorem dX8_readKeyword_50 : decode cX8_readKeyword 50 = .ok (.iconst 1, 1) := by decide +kernel
theorem dX8_readKeyword_51 : decode cX8_readKeyword 51 = .ok (.iload_n 1, 1) := by decide +kernel
theorem dX8_readKeyword_52 : decode cX8_readKeyword 52 = .ok (.invokevirtual 66, 3) := by decide +kernel
theorem dX8_readKeyword_55 : decode cX8_readKeyword 55 = .ok (.pop, 1) := by decide +kernel
theorem dX8_readKeyword_56 : decode cX8_readKeyword 56 = .ok (.iconst (-1), 1) := by decide +kernel
theorem dX8_readKeyword_57 : decode cX8_readKeyword 57 = .ok (.ireturn, 1) := by decide +kernel
theorem dX8_readKeyword_58 : decode cX8_readKeyword 58 = .ok (.aload_n 0, 1) := by decide +kernel
theorem dX8_readKeyword_59 : decode cX8_readKeyword 59 = .ok (.invokevirtual 87, 3) := by decide +kernel
theorem dX8_readKeyword_62 : decode cX8_readKeyword 62 = .ok (.ifCond .eq 7, 3) := by decide +kernel
theorem dX8_readKeyword_65 : decode cX8_readKeyword 65 = .ok (.iload_n 2, 1) := by decide +kernel
theorem dX8_readKeyword_66 : decode cX8_readKeyword 66 = .ok (.goto 4, 3) := by decide +kernel
theorem dX8_readKeyword_69 : decode cX8_readKeyword 69 = .ok (.iconst (-1), 1) := by decide +kernel
theorem dX8_readKeyword_70 : decode cX8_readKeyword 70 = .ok (.ireturn, 1) := by decide +kernel
theorem dX8_findKeyword_0 : decode cX8_findKeyword 0 = .ok (.aload_n 0, 1) := by decide +kernel
theorem dX8_findKeyword_1 : decode cX8_findKeyword 1 = .ok (.getfield 46, 3) := by decide +kernel
theorem dX8_findKeyword_4 : decode cX8_findKeyword 4 = .ok (.istore_n 1, 1) := by decide +kernel
theorem dX8_findKeyword_5 : decode cX8_findKeyword 5 = .ok (.aload_n 0, 1) := by decide +kernel
theorem dX8_findKeyword_6 : decode cX8_findKeyword 6 = .ok (.getfield 46, 3) := by decide +kernel
theorem dX8_findKeyword_9 : decode cX8_findKeyword 9 = .ok (.aload_n 0, 1) := by decide +kernel
theorem dX8_findKeyword_10 : decode cX8_findKeyword 10 = .ok (.getfield 15, 3) := by decide +kernel
theorem dX8_findKeyword_13 : decode cX8_findKeyword 13 = .ok (.if_icmp .ge 23, 3) := by decide +kernel
theorem dX8_findKeyword_16 : decode cX8_findKeyword 16 = .ok (.aload_n 0, 1) := by decide +kernel
theorem dX8_findKeyword_17 : decode cX8_findKeyword 17 = .ok (.invokevirtual 97, 3) := by decide +kernel
theorem dX8_findKeyword_20 : decode cX8_findKeyword 20 = .ok (.ifCond .eq 16, 3) := by decide +kernel
theorem dX8_findKeyword_23 : decode cX8_findKeyword 23 = .ok (.aload_n 0, 1) := by decide +kernel
theorem dX8_findKeyword_24 : decode cX8_findKeyword 24 = .ok (.dup, 1) := by decide +kernel
theorem dX8_findKeyword_25 : decode cX8_findKeyword 25 = .ok (.getfield 46, 3) := by decide +kernel
theorem dX8_findKeyword_28 : decode cX8_findKeyword 28 = .ok (.iconst 1, 1) := by decide +kernel
theorem dX8_findKeyword_29 : decode cX8_findKeyword 29 = .ok (.iadd, 1) := by decide +kernel
theorem dX8_findKeyword_30 : decode cX8_findKeyword 30 = .ok (.putfield 46, 3) := by decide +kernel
theorem dX8_findKeyword_33 : decode cX8_findKeyword 33 = .ok (.goto (-28), 3) := by decide +kernel
theorem dX8_findKeyword_36 : decode cX8_findKeyword 36 = .ok (.iconst 0, 1) := by decide +kernel
theorem dX8_findKeyword_37 : decode cX8_findKeyword 37 = .ok (.istore_n 2, 1) := by decide +kernel
theorem dX8_findKeyword_38 : decode cX8_findKeyword 38 = .ok (.iload_n 2, 1) := by decide +kernel
theorem dX8_findKeyword_39 : decode cX8_findKeyword 39 = .ok (.bipush 9, 2) := by decide +kernel
theorem dX8_findKeyword_41 : decode cX8_findKeyword 41 = .ok (.if_icmp .gt 23, 3) := by decide +kernel
theorem dX8_findKeyword_44 : decode cX8_findKeyword 44 = .ok (.aload_n 0, 1) := by decide +kernel
theorem dX8_findKeyword_45 : decode cX8_findKeyword 45 = .ok (.iload_n 2, 1) := by decide +kernel
theorem dX8_findKeyword_46 : decode cX8_findKeyword 46 = .ok (.invokestatic 100, 3) := by decide +kernel
theorem dX8_findKeyword_49 : decode cX8_findKeyword 49 = .ok (.iload_n 1, 1) := by decide +kernel
theorem dX8_findKeyword_50 : decode cX8_findKeyword 50 = .ok (.invokevirtual 104, 3) := by decide +kernel
theorem dX8_findKeyword_53 : decode cX8_findKeyword 53 = .ok (.ifCond .eq 5, 3) := by decide +kernel
theorem dX8_findKeyword_56 : decode cX8_findKeyword 56 = .ok (.iload_n 2, 1) := by decide +kernel
theorem dX8_findKeyword_57 : decode cX8_findKeyword 57 = .ok (.ireturn, 1) := by decide +kernel
theorem dX8_findKeyword_58 : decode cX8_findKeyword 58 = .ok (.iinc 2 1, 3) := by decide +kernel
theorem dX8_findKeyword_61 : decode cX8_findKeyword 61 = .ok (.goto (-23), 3) := by decide +kernel
theorem dX8_findKeyword_64 : decode cX8_findKeyword 64 = .ok (.iconst (-1), 1) := by decide +kernel
theorem dX8_findKeyword_65 : decode cX8_findKeyword 65 = .ok (.ireturn, 1) := by decide +kernel
theorem dX8_isWord_0 : decode cX8_isWord 0 = .ok (.aload_n 1, 1) := by decide +kernel
theorem dX8_isWord_1 : decode cX8_isWord 1 = .ok (.invokevirtual 108, 3) := by decide +kernel
theorem dX8_isWord_4 : decode cX8_isWord 4 = .ok (.aload_n 0, 1) := by decide +kernel
theorem dX8_isWord_5 : decode cX8_isWord 5 = .ok (.getfield 46, 3) := by decide +kernel
theorem dX8_isWord_8 : decode cX8_isWord 8 = .ok (.iload_n 2, 1) := by decide +kernel
theorem dX8_isWord_9 : decode cX8_isWord 9 = .ok (.isub, 1) := by decide +kernel
theorem dX8_isWord_10 : decode cX8_isWord 10 = .ok (.if_icmp .ne 7, 3) := by decide +kernel
theorem dX8_isWord_13 : decode cX8_isWord 13 = .ok (.iconst 1, 1) := by decide +kernel
theorem dX8_isWord_14 : decode cX8_isWord 14 = .ok (.goto 4, 3) := by decide +kernel
theorem dX8_isWord_17 : decode cX8_isWord 17 = .ok (.iconst 0, 1) := by decide +kernel
theorem dX8_isWord_18 : decode cX8_isWord 18 = .ok (.istore_n 3, 1) := by decide +kernel
theorem dX8_isWord_19 : decode cX8_isWord 19 = .ok (.iconst 0, 1) := by decide +kernel
theorem dX8_isWord_20 : decode cX8_isWord 20 = .ok (.istore 4, 2) := by decide +kernel
theorem dX8_isWord_22 : decode cX8_isWord 22 = .ok (.iload 4, 2) := by decide +kernel
theorem dX8_isWord_24 : decode cX8_isWord 24 = .ok (.aload_n 1, 1) := by decide +kernel
theorem dX8_isWord_25 : decode cX8_isWord 25 = .ok (.invokevirtual 108, 3) := by decide +kernel
theorem dX8_isWord_28 : decode cX8_isWord 28 = .ok (.if_icmp .ge 37, 3) := by decide +kernel
theorem dX8_isWord_31 : decode cX8_isWord 31 = .ok (.iload_n 3, 1) := by decide +kernel
theorem dX8_isWord_32 : decode cX8_isWord 32 = .ok (.ifCond .eq 33, 3) := by decide +kernel
theorem dX8_isWord_35 : decode cX8_isWord 35 = .ok (.aload_n 0, 1) := by decide +kernel
theorem dX8_isWord_36 : decode cX8_isWord 36 = .ok (.getfield 11, 3) := by decide +kernel
theorem dX8_isWord_39 : decode cX8_isWord 39 = .ok (.iload_n 2, 1) := by decide +kernel
theorem dX8_isWord_40 : decode cX8_isWord 40 = .ok (.iload 4, 2) := by decide +kernel
theorem dX8_isWord_42 : decode cX8_isWord 42 = .ok (.iadd, 1) := by decide +kernel
theorem dX8_isWord_43 : decode cX8_isWord 43 = .ok (.iaload, 1) := by decide +kernel
theorem dX8_isWord_44 : decode cX8_isWord 44 = .ok (.aload_n 1, 1) := by decide +kernel
theorem dX8_isWord_45 : decode cX8_isWord 45 = .ok (.iload 4, 2) := by decide +kernel
theorem dX8_isWord_47 : decode cX8_isWord 47 = .ok (.invokevirtual 112, 3) := by decide +kernel
theorem dX8_isWord_50 : decode cX8_isWord 50 = .ok (.if_icmp .ne 7, 3) := by decide +kernel
theorem dX8_isWord_53 : decode cX8_isWord 53 = .ok (.iconst 1, 1) := by decide +kernel
theorem dX8_isWord_54 : decode cX8_isWord 54 = .ok (.goto 4, 3) := by decide +kernel
theorem dX8_isWord_57 : decode cX8_isWord 57 = .ok (.iconst 0, 1) := by decide +kernel
theorem dX8_isWord_58 : decode cX8_isWord 58 = .ok (.istore_n 3, 1) := by decide +kernel
theorem dX8_isWord_59 : decode cX8_isWord 59 = .ok (.iinc 4 1, 3) := by decide +kernel
theorem dX8_isWord_62 : decode cX8_isWord 62 = .ok (.goto (-40), 3) := by decide +kernel
theorem dX8_isWord_65 : decode cX8_isWord 65 = .ok (.iload_n 3, 1) := by decide +kernel
theorem dX8_isWord_66 : decode cX8_isWord 66 = .ok (.ireturn, 1) := by decide +kernel
theorem dX8_nameOf_0 : decode cX8_nameOf 0 = .ok (.iload_n 0, 1) := by decide +kernel
theorem dX8_nameOf_1 : decode cX8_nameOf 1 = .ok (.tableswitch 78 0 8 #[51, 54, 57, 60, 63, 66, 69, 72, 75], 51) := by decide +kernel
theorem dX8_nameOf_52 : decode cX8_nameOf 52 = .ok (.ldc 116, 2) := by decide +kernel
theorem dX8_nameOf_54 : decode cX8_nameOf 54 = .ok (.areturn, 1) := by decide +kernel
theorem dX8_nameOf_55 : decode cX8_nameOf 55 = .ok (.ldc 118, 2) := by decide +kernel
theorem dX8_nameOf_57 : decode cX8_nameOf 57 = .ok (.areturn, 1) := by decide +kernel
theorem dX8_nameOf_58 : decode cX8_nameOf 58 = .ok (.ldc 120, 2) := by decide +kernel
theorem dX8_nameOf_60 : decode cX8_nameOf 60 = .ok (.areturn, 1) := by decide +kernel
theorem dX8_nameOf_61 : decode cX8_nameOf 61 = .ok (.ldc 122, 2) := by decide +kernel
theorem dX8_nameOf_63 : decode cX8_nameOf 63 = .ok (.areturn, 1) := by decide +kernel
theorem dX8_nameOf_64 : decode cX8_nameOf 64 = .ok (.ldc 124, 2) := by decide +kernel
theorem dX8_nameOf_66 : decode cX8_nameOf 66 = .ok (.areturn, 1) := by decide +kernel
theorem dX8_nameOf_67 : decode cX8_nameOf 67 = .ok (.ldc 126, 2) := by decide +kernel
theorem dX8_nameOf_69 : decode cX8_nameOf 69 = .ok (.areturn, 1) := by decide +kernel
theorem dX8_nameOf_70 : decode cX8_nameOf 70 = .ok (.ldc 128, 2) := by decide +kernel
theorem dX8_nameOf_72 : decode cX8_nameOf 72 = .ok (.areturn, 1) := by decide +kernel
theorem dX8_nameOf_73 : decode cX8_nameOf 73 = .ok (.ldc 130, 2) := by decide +kernel
theorem dX8_nameOf_75 : decode cX8_nameOf 75 = .ok (.areturn, 1) := by decide +kernel
theorem dX8_nameOf_76 : decode cX8_nameOf 76 = .ok (.ldc 132, 2) := by decide +kernel
theorem dX8_nameOf_78 : decode cX8_nameOf 78 = .ok (.areturn, 1) := by decide +kernel
theorem dX8_nameOf_79 : decode cX8_nameOf 79 = .ok (.ldc 134, 2) := by decide +kernel
theorem dX8_nameOf_81 : decode cX8_nameOf 81 = .ok (.areturn, 1) := by decide +kernel
theorem dX8_endsWell_0 : decode cX8_endsWell 0 = .ok (.aload_n 0, 1) := by decide +kernel
theorem dX8_endsWell_1 : decode cX8_endsWell 1 = .ok (.invokevirtual 135, 3) := by decide +kernel
theorem dX8_endsWell_4 : decode cX8_endsWell 4 = .ok (.ifCond .eq 15, 3) := by decide +kernel
theorem dX8_endsWell_7 : decode cX8_endsWell 7 = .ok (.aload_n 0, 1) := by decide +kernel
theorem dX8_endsWell_8 : decode cX8_endsWell 8 = .ok (.iconst 1, 1) := by decide +kernel
theorem dX8_endsWell_9 : decode cX8_endsWell 9 = .ok (.aload_n 0, 1) := by decide +kernel
theorem dX8_endsWell_10 : decode cX8_endsWell 10 = .ok (.getfield 46, 3) := by decide +kernel
theorem dX8_endsWell_13 : decode cX8_endsWell 13 = .ok (.invokevirtual 66, 3) := by decide +kernel
theorem dX8_endsWell_16 : decode cX8_endsWell 16 = .ok (.ifCond .eq 7, 3) := by decide +kernel
theorem dX8_endsWell_19 : decode cX8_endsWell 19 = .ok (.iconst 1, 1) := by decide +kernel
theorem dX8_endsWell_20 : decode cX8_endsWell 20 = .ok (.goto 4, 3) := by decide +kernel
theorem dX8_endsWell_23 : decode cX8_endsWell 23 = .ok (.iconst 0, 1) := by decide +kernel
theorem dX8_endsWell_24 : decode cX8_endsWell 24 = .ok (.ireturn, 1) := by decide +kernel
theorem dX8_readWord_0 : decode cX8_readWord 0 = .ok (.aload_n 0, 1) := by decide +kernel
theorem dX8_readWord_1 : decode cX8_readWord 1 = .ok (.invokevirtual 63, 3) := by decide +kernel
theorem dX8_readWord_4 : decode cX8_readWord 4 = .ok (.aload_n 0, 1) := by decide +kernel
theorem dX8_readWord_5 : decode cX8_readWord 5 = .ok (.getfield 46, 3) := by decide +kernel
theorem dX8_readWord_8 : decode cX8_readWord 8 = .ok (.istore_n 2, 1) := by decide +kernel
theorem dX8_readWord_9 : decode cX8_readWord 9 = .ok (.aload_n 0, 1) := by decide +kernel
theorem dX8_readWord_10 : decode cX8_readWord 10 = .ok (.getfield 46, 3) := by decide +kernel
theorem dX8_readWord_13 : decode cX8_readWord 13 = .ok (.aload_n 0, 1) := by decide +kernel
theorem dX8_readWord_14 : decode cX8_readWord 14 = .ok (.getfield 15, 3) := by decide +kernel
theorem dX8_readWord_17 : decode cX8_readWord 17 = .ok (.if_icmp .ge 51, 3) := by decide +kernel
theorem dX8_readWord_20 : decode cX8_readWord 20 = .ok (.aload_n 0, 1) := by decide +kernel
theorem dX8_readWord_21 : decode cX8_readWord 21 = .ok (.getfield 46, 3) := by decide +kernel
theorem dX8_readWord_24 : decode cX8_readWord 24 = .ok (.iload_n 2, 1) := by decide +kernel
theorem dX8_readWord_25 : decode cX8_readWord 25 = .ok (.isub, 1) := by decide +kernel
theorem dX8_readWord_26 : decode cX8_readWord 26 = .ok (.iload_n 1, 1) := by decide +kernel
theorem dX8_readWord_27 : decode cX8_readWord 27 = .ok (.if_icmp .ge 41, 3) := by decide +kernel
theorem dX8_readWord_30 : decode cX8_readWord 30 = .ok (.aload_n 0, 1) := by decide +kernel
theorem dX8_readWord_31 : decode cX8_readWord 31 = .ok (.invokevirtual 97, 3) := by decide +kernel
theorem dX8_readWord_34 : decode cX8_readWord 34 = .ok (.ifCond .eq 34, 3) := by decide +kernel
theorem dX8_readWord_37 : decode cX8_readWord 37 = .ok (.aload_n 0, 1) := by decide +kernel
theorem dX8_readWord_38 : decode cX8_readWord 38 = .ok (.aload_n 0, 1) := by decide +kernel
theorem dX8_readWord_39 : decode cX8_readWord 39 = .ok (.getfield 11, 3) := by decide +kernel
theorem dX8_readWord_42 : decode cX8_readWord 42 = .ok (.aload_n 0, 1) := by decide +kernel
theorem dX8_readWord_43 : decode cX8_readWord 43 = .ok (.getfield 46, 3) := by decide +kernel
theorem dX8_readWord_46 : decode cX8_readWord 46 = .ok (.iaload, 1) := by decide +kernel
theorem dX8_readWord_47 : decode cX8_readWord 47 = .ok (.bipush 97, 2) := by decide +kernel
theorem dX8_readWord_49 : decode cX8_readWord 49 = .ok (.isub, 1) := by decide +kernel
theorem dX8_readWord_50 : decode cX8_readWord 50 = .ok (.iconst 1, 1) := by decide +kernel
theorem dX8_readWord_51 : decode cX8_readWord 51 = .ok (.iadd, 1) := by decide +kernel
theorem dX8_readWord_52 : decode cX8_readWord 52 = .ok (.invokevirtual 138, 3) := by decide +kernel
theorem dX8_readWord_55 : decode cX8_readWord 55 = .ok (.aload_n 0, 1) := by decide +kernel
theorem dX8_readWord_56 : decode cX8_readWord 56 = .ok (.dup, 1) := by decide +kernel
theorem dX8_readWord_57 : decode cX8_readWord 57 = .ok (.getfield 46, 3) := by decide +kernel
theorem dX8_readWord_60 : decode cX8_readWord 60 = .ok (.iconst 1, 1) := by decide +kernel
theorem dX8_readWord_61 : decode cX8_readWord 61 = .ok (.iadd, 1) := by decide +kernel
theorem dX8_readWord_62 : decode cX8_readWord 62 = .ok (.putfield 46, 3) := by decide +kernel
theorem dX8_readWord_65 : decode cX8_readWord 65 = .ok (.goto (-56), 3) := by decide +kernel
theorem dX8_readWord_68 : decode cX8_readWord 68 = .ok (.aload_n 0, 1) := by decide +kernel
theorem dX8_readWord_69 : decode cX8_readWord 69 = .ok (.getfield 46, 3) := by decide +kernel
theorem dX8_readWord_72 : decode cX8_readWord 72 = .ok (.iload_n 2, 1) := by decide +kernel
theorem dX8_readWord_73 : decode cX8_readWord 73 = .ok (.if_icmp .le 10, 3) := by decide +kernel
theorem dX8_readWord_76 : decode cX8_readWord 76 = .ok (.aload_n 0, 1) := by decide +kernel
theorem dX8_readWord_77 : decode cX8_readWord 77 = .ok (.invokevirtual 97, 3) := by decide +kernel
theorem dX8_readWord_80 : decode cX8_readWord 80 = .ok (.ifCond .eq 15, 3) := by decide +kernel
theorem dX8_readWord_83 : decode cX8_readWord 83 = .ok (.aload_n 0, 1) := by decide +kernel
theorem dX8_readWord_84 : decode cX8_readWord 84 = .ok (.iconst 1, 1) := by decide +kernel
theorem dX8_readWord_85 : decode cX8_readWord 85 = .ok (.aload_n 0, 1) := by decide +kernel
theorem dX8_readWord_86 : decode cX8_readWord 86 = .ok (.getfield 46, 3) := by decide +kernel
theorem dX8_readWord_89 : decode cX8_readWord 89 = .ok (.invokevirtual 66, 3) := by decide +kernel
theorem dX8_readWord_92 : decode cX8_readWord 92 = .ok (.ifCond .eq 7, 3) := by decide +kernel
theorem dX8_readWord_95 : decode cX8_readWord 95 = .ok (.iconst 1, 1) := by decide +kernel
theorem dX8_readWord_96 : decode cX8_readWord 96 = .ok (.goto 4, 3) := by decide +kernel
theorem dX8_readWord_99 : decode cX8_readWord 99 = .ok (.iconst 0, 1) := by decide +kernel
theorem dX8_readWord_100 : decode cX8_readWord 100 = .ok (.ireturn, 1) := by decide +kernel
theorem dX8_readSign_0 : decode cX8_readSign 0 = .ok (.aload_n 0, 1) := by decide +kernel
theorem dX8_readSign_1 : decode cX8_readSign 1 = .ok (.invokevirtual 63, 3) := by decide +kernel
theorem dX8_readSign_4 : decode cX8_readSign 4 = .ok (.aload_n 0, 1) := by decide +kernel
theorem dX8_readSign_5 : decode cX8_readSign 5 = .ok (.invokevirtual 142, 3) := by decide +kernel
theorem dX8_readSign_8 : decode cX8_readSign 8 = .ok (.iload_n 1, 1) := by decide +kernel
theorem dX8_readSign_9 : decode cX8_readSign 9 = .ok (.if_icmp .eq 13, 3) := by decide +kernel
theorem dX8_readSign_12 : decode cX8_readSign 12 = .ok (.aload_n 0, 1) := by decide +kernel
theorem dX8_readSign_13 : decode cX8_readSign 13 = .ok (.iconst 1, 1) := by decide +kernel
theorem dX8_readSign_14 : decode cX8_readSign 14 = .ok (.aload_n 0, 1) := by decide +kernel
theorem dX8_readSign_15 : decode cX8_readSign 15 = .ok (.getfield 46, 3) := by decide +kernel
theorem dX8_readSign_18 : decode cX8_readSign 18 = .ok (.invokevirtual 66, 3) := by decide +kernel
theorem dX8_readSign_21 : decode cX8_readSign 21 = .ok (.ireturn, 1) := by decide +kernel
theorem dX8_readSign_22 : decode cX8_readSign 22 = .ok (.aload_n 0, 1) := by decide +kernel
theorem dX8_readSign_23 : decode cX8_readSign 23 = .ok (.dup, 1) := by decide +kernel
theorem dX8_readSign_24 : decode cX8_readSign 24 = .ok (.getfield 46, 3) := by decide +kernel
theorem dX8_readSign_27 : decode cX8_readSign 27 = .ok (.iconst 1, 1) := by decide +kernel
theorem dX8_readSign_28 : decode cX8_readSign 28 = .ok (.iadd, 1) := by decide +kernel
theorem dX8_readSign_29 : decode cX8_readSign 29 = .ok (.putfield 46, 3) := by decide +kernel
theorem dX8_readSign_32 : decode cX8_readSign 32 = .ok (.iconst 1, 1) := by decide +kernel
theorem dX8_readSign_33 : decode cX8_readSign 33 = .ok (.ireturn, 1) := by decide +kernel
theorem dX8_readNumber_0 : decode cX8_readNumber 0 = .ok (.aload_n 0, 1) := by decide +kernel
theorem dX8_readNumber_1 : decode cX8_readNumber 1 = .ok (.iload_n 2, 1) := by decide +kernel
theorem dX8_readNumber_2 : decode cX8_readNumber 2 = .ok (.iload_n 3, 1) := by decide +kernel
theorem dX8_readNumber_3 : decode cX8_readNumber 3 = .ok (.invokevirtual 145, 3) := by decide +kernel
theorem dX8_readNumber_6 : decode cX8_readNumber 6 = .ok (.istore 4, 2) := by decide +kernel
theorem dX8_readNumber_8 : decode cX8_readNumber 8 = .ok (.aload_n 0, 1) := by decide +kernel
theorem dX8_readNumber_9 : decode cX8_readNumber 9 = .ok (.iload_n 1, 1) := by decide +kernel
theorem dX8_readNumber_10 : decode cX8_readNumber 10 = .ok (.iload 4, 2) := by decide +kernel
theorem dX8_readNumber_12 : decode cX8_readNumber 12 = .ok (.invokevirtual 148, 3) := by decide +kernel
theorem dX8_readNumber_15 : decode cX8_readNumber 15 = .ok (.iload 4, 2) := by decide +kernel
theorem dX8_readNumber_17 : decode cX8_readNumber 17 = .ok (.iconst (-1), 1) := by decide +kernel
theorem dX8_readNumber_18 : decode cX8_readNumber 18 = .ok (.if_icmp .eq 7, 3) := by decide +kernel
theorem dX8_readNumber_21 : decode cX8_readNumber 21 = .ok (.iconst 1, 1) := by decide +kernel
theorem dX8_readNumber_22 : decode cX8_readNumber 22 = .ok (.goto 4, 3) := by decide +kernel
theorem dX8_readNumber_25 : decode cX8_readNumber 25 = .ok (.iconst 0, 1) := by decide +kernel
theorem dX8_readNumber_26 : decode cX8_readNumber 26 = .ok (.ireturn, 1) := by decide +kernel
theorem dX8_readDigits_0 : decode cX8_readDigits 0 = .ok (.aload_n 0, 1) := by decide +kernel
theorem dX8_readDigits_1 : decode cX8_readDigits 1 = .ok (.invokevirtual 63, 3) := by decide +kernel
theorem dX8_readDigits_4 : decode cX8_readDigits 4 = .ok (.aload_n 0, 1) := by decide +kernel
theorem dX8_readDigits_5 : decode cX8_readDigits 5 = .ok (.getfield 46, 3) := by decide +kernel
theorem dX8_readDigits_8 : decode cX8_readDigits 8 = .ok (.istore_n 3, 1) := by decide +kernel
theorem dX8_readDigits_9 : decode cX8_readDigits 9 = .ok (.iconst 0, 1) := by decide +kernel
theorem dX8_readDigits_10 : decode cX8_readDigits 10 = .ok (.istore 4, 2) := by decide +kernel
theorem dX8_readDigits_12 : decode cX8_readDigits 12 = .ok (.aload_n 0, 1) := by decide +kernel
theorem dX8_readDigits_13 : decode cX8_readDigits 13 = .ok (.getfield 46, 3) := by decide +kernel
theorem dX8_readDigits_16 : decode cX8_readDigits 16 = .ok (.aload_n 0, 1) := by decide +kernel
theorem dX8_readDigits_17 : decode cX8_readDigits 17 = .ok (.getfield 15, 3) := by decide +kernel
theorem dX8_readDigits_20 : decode cX8_readDigits 20 = .ok (.if_icmp .ge 53, 3) := by decide +kernel
theorem dX8_readDigits_23 : decode cX8_readDigits 23 = .ok (.aload_n 0, 1) := by decide +kernel
theorem dX8_readDigits_24 : decode cX8_readDigits 24 = .ok (.getfield 46, 3) := by decide +kernel
theorem dX8_readDigits_27 : decode cX8_readDigits 27 = .ok (.iload_n 3, 1) := by decide +kernel
theorem dX8_readDigits_28 : decode cX8_readDigits 28 = .ok (.isub, 1) := by decide +kernel
theorem dX8_readDigits_29 : decode cX8_readDigits 29 = .ok (.iconst 2, 1) := by decide +kernel
theorem dX8_readDigits_30 : decode cX8_readDigits 30 = .ok (.if_icmp .ge 43, 3) := by decide +kernel
theorem dX8_readDigits_33 : decode cX8_readDigits 33 = .ok (.aload_n 0, 1) := by decide +kernel
theorem dX8_readDigits_34 : decode cX8_readDigits 34 = .ok (.invokevirtual 135, 3) := by decide +kernel
theorem dX8_readDigits_37 : decode cX8_readDigits 37 = .ok (.ifCond .eq 36, 3) := by decide +kernel
theorem dX8_readDigits_40 : decode cX8_readDigits 40 = .ok (.bipush 10, 2) := by decide +kernel
theorem dX8_readDigits_42 : decode cX8_readDigits 42 = .ok (.iload 4, 2) := by decide +kernel
theorem dX8_readDigits_44 : decode cX8_readDigits 44 = .ok (.imul, 1) := by decide +kernel
theorem dX8_readDigits_45 : decode cX8_readDigits 45 = .ok (.aload_n 0, 1) := by decide +kernel
theorem dX8_readDigits_46 : decode cX8_readDigits 46 = .ok (.getfield 11, 3) := by decide +kernel
theorem dX8_readDigits_49 : decode cX8_readDigits 49 = .ok (.aload_n 0, 1) := by decide +kernel
theorem dX8_readDigits_50 : decode cX8_readDigits 50 = .ok (.getfield 46, 3) := by decide +kernel
theorem dX8_readDigits_53 : decode cX8_readDigits 53 = .ok (.iaload, 1) := by decide +kernel
theorem dX8_readDigits_54 : decode cX8_readDigits 54 = .ok (.iadd, 1) := by decide +kernel
theorem dX8_readDigits_55 : decode cX8_readDigits 55 = .ok (.bipush 48, 2) := by decide +kernel
theorem dX8_readDigits_57 : decode cX8_readDigits 57 = .ok (.isub, 1) := by decide +kernel
theorem dX8_readDigits_58 : decode cX8_readDigits 58 = .ok (.istore 4, 2) := by decide +kernel
theorem dX8_readDigits_60 : decode cX8_readDigits 60 = .ok (.aload_n 0, 1) := by decide +kernel
theorem dX8_readDigits_61 : decode cX8_readDigits 61 = .ok (.dup, 1) := by decide +kernel
theorem dX8_readDigits_62 : decode cX8_readDigits 62 = .ok (.getfield 46, 3) := by decide +kernel
theorem dX8_readDigits_65 : decode cX8_readDigits 65 = .ok (.iconst 1, 1) := by decide +kernel
theorem dX8_readDigits_66 : decode cX8_readDigits 66 = .ok (.iadd, 1) := by decide +kernel
theorem dX8_readDigits_67 : decode cX8_readDigits 67 = .ok (.putfield 46, 3) := by decide +kernel
theorem dX8_readDigits_70 : decode cX8_readDigits 70 = .ok (.goto (-58), 3) := by decide +kernel
theorem dX8_readDigits_73 : decode cX8_readDigits 73 = .ok (.aload_n 0, 1) := by decide +kernel
theorem dX8_readDigits_74 : decode cX8_readDigits 74 = .ok (.getfield 46, 3) := by decide +kernel
theorem dX8_readDigits_77 : decode cX8_readDigits 77 = .ok (.iload_n 3, 1) := by decide +kernel
theorem dX8_readDigits_78 : decode cX8_readDigits 78 = .ok (.if_icmp .eq 10, 3) := by decide +kernel
theorem dX8_readDigits_81 : decode cX8_readDigits 81 = .ok (.aload_n 0, 1) := by decide +kernel
theorem dX8_readDigits_82 : decode cX8_readDigits 82 = .ok (.invokevirtual 135, 3) := by decide +kernel
theorem dX8_readDigits_85 : decode cX8_readDigits 85 = .ok (.ifCond .eq 15, 3) := by decide +kernel
theorem dX8_readDigits_88 : decode cX8_readDigits 88 = .ok (.aload_n 0, 1) := by decide +kernel
theorem dX8_readDigits_89 : decode cX8_readDigits 89 = .ok (.iconst 1, 1) := by decide +kernel
theorem dX8_readDigits_90 : decode cX8_readDigits 90 = .ok (.aload_n 0, 1) := by decide +kernel
theorem dX8_readDigits_91 : decode cX8_readDigits 91 = .ok (.getfield 46, 3) := by decide +kernel
theorem dX8_readDigits_94 : decode cX8_readDigits 94 = .ok (.invokevirtual 66, 3) := by decide +kernel
theorem dX8_readDigits_97 : decode cX8_readDigits 97 = .ok (.pop, 1) := by decide +kernel
theorem dX8_readDigits_98 : decode cX8_readDigits 98 = .ok (.iconst (-1), 1) := by decide +kernel
theorem dX8_readDigits_99 : decode cX8_readDigits 99 = .ok (.ireturn, 1) := by decide +kernel
theorem dX8_readDigits_100 : decode cX8_readDigits 100 = .ok (.iload 4, 2) := by decide +kernel
theorem dX8_readDigits_102 : decode cX8_readDigits 102 = .ok (.iload_n 1, 1) := by decide +kernel
theorem dX8_readDigits_103 : decode cX8_readDigits 103 = .ok (.if_icmp .lt 9, 3) := by decide +kernel
theorem dX8_readDigits_106 : decode cX8_readDigits 106 = .ok (.iload 4, 2) := by decide +kernel
theorem dX8_readDigits_108 : decode cX8_readDigits 108 = .ok (.iload_n 2, 1) := by decide +kernel
theorem dX8_readDigits_109 : decode cX8_readDigits 109 = .ok (.if_icmp .le 12, 3) := by decide +kernel
theorem dX8_readDigits_112 : decode cX8_readDigits 112 = .ok (.aload_n 0, 1) := by decide +kernel
theorem dX8_readDigits_113 : decode cX8_readDigits 113 = .ok (.iconst 2, 1) := by decide +kernel
theorem dX8_readDigits_114 : decode cX8_readDigits 114 = .ok (.iload_n 3, 1) := by decide +kernel
theorem dX8_readDigits_115 : decode cX8_readDigits 115 = .ok (.invokevirtual 66, 3) := by decide +kernel
theorem dX8_readDigits_118 : decode cX8_readDigits 118 = .ok (.pop, 1) := by decide +kernel
theorem dX8_readDigits_119 : decode cX8_readDigits 119 = .ok (.iconst (-1), 1) := by decide +kernel
theorem dX8_readDigits_120 : decode cX8_readDigits 120 = .ok (.ireturn, 1) := by decide +kernel
theorem dX8_readDigits_121 : decode cX8_readDigits 121 = .ok (.iload 4, 2) := by decide +kernel
theorem dX8_readDigits_123 : decode cX8_readDigits 123 = .ok (.ireturn, 1) := by decide +kernel
theorem dX8_setNumber_0 : decode cX8_setNumber 0 = .ok (.iconst 4, 1) := by decide +kernel
theorem dX8_setNumber_1 : decode cX8_setNumber 1 = .ok (.aload_n 0, 1) := by decide +kernel
theorem dX8_setNumber_2 : decode cX8_setNumber 2 = .ok (.getfield 25, 3) := by decide +kernel
theorem dX8_setNumber_5 : decode cX8_setNumber 5 = .ok (.imul, 1) := by decide +kernel
theorem dX8_setNumber_6 : decode cX8_setNumber 6 = .ok (.iload_n 1, 1) := by decide +kernel
theorem dX8_setNumber_7 : decode cX8_setNumber 7 = .ok (.iadd, 1) := by decide +kernel
theorem dX8_setNumber_8 : decode cX8_setNumber 8 = .ok (.istore_n 3, 1) := by decide +kernel
theorem dX8_setNumber_9 : decode cX8_setNumber 9 = .ok (.iload_n 3, 1) := by decide +kernel
theorem dX8_setNumber_10 : decode cX8_setNumber 10 = .ok (.ifCond .lt 19, 3) := by decide +kernel
theorem dX8_setNumber_13 : decode cX8_setNumber 13 = .ok (.iload_n 3, 1) := by decide +kernel
theorem dX8_setNumber_14 : decode cX8_setNumber 14 = .ok (.aload_n 0, 1) := by decide +kernel
theorem dX8_setNumber_15 : decode cX8_setNumber 15 = .ok (.getfield 43, 3) := by decide +kernel
theorem dX8_setNumber_18 : decode cX8_setNumber 18 = .ok (.arraylength, 1) := by decide +kernel
theorem dX8_setNumber_19 : decode cX8_setNumber 19 = .ok (.if_icmp .ge 10, 3) := by decide +kernel
theorem dX8_setNumber_22 : decode cX8_setNumber 22 = .ok (.aload_n 0, 1) := by decide +kernel
theorem dX8_setNumber_23 : decode cX8_setNumber 23 = .ok (.getfield 43, 3) := by decide +kernel
theorem dX8_setNumber_26 : decode cX8_setNumber 26 = .ok (.iload_n 3, 1) := by decide +kernel
theorem dX8_setNumber_27 : decode cX8_setNumber 27 = .ok (.iload_n 2, 1) := by decide +kernel
theorem dX8_setNumber_28 : decode cX8_setNumber 28 = .ok (.iastore, 1) := by decide +kernel
theorem dX8_setNumber_29 : decode cX8_setNumber 29 = .ok (.return_, 1) := by decide +kernel
theorem dX8_addPart_0 : decode cX8_addPart 0 = .ok (.aload_n 0, 1) := by decide +kernel
theorem dX8_addPart_1 : decode cX8_addPart 1 = .ok (.getfield 37, 3) := by decide +kernel
theorem dX8_addPart_4 : decode cX8_addPart 4 = .ok (.aload_n 0, 1) := by decide +kernel
theorem dX8_addPart_5 : decode cX8_addPart 5 = .ok (.getfield 34, 3) := by decide +kernel
theorem dX8_addPart_8 : decode cX8_addPart 8 = .ok (.arraylength, 1) := by decide +kernel
theorem dX8_addPart_9 : decode cX8_addPart 9 = .ok (.if_icmp .ge 20, 3) := by decide +kernel
theorem dX8_addPart_12 : decode cX8_addPart 12 = .ok (.aload_n 0, 1) := by decide +kernel
theorem dX8_addPart_13 : decode cX8_addPart 13 = .ok (.getfield 34, 3) := by decide +kernel
theorem dX8_addPart_16 : decode cX8_addPart 16 = .ok (.aload_n 0, 1) := by decide +kernel
theorem dX8_addPart_17 : decode cX8_addPart 17 = .ok (.dup, 1) := by decide +kernel
theorem dX8_addPart_18 : decode cX8_addPart 18 = .ok (.getfield 37, 3) := by decide +kernel
theorem dX8_addPart_21 : decode cX8_addPart 21 = .ok (.dup_x1, 1) := by decide +kernel
theorem dX8_addPart_22 : decode cX8_addPart 22 = .ok (.iconst 1, 1) := by decide +kernel
theorem dX8_addPart_23 : decode cX8_addPart 23 = .ok (.iadd, 1) := by decide +kernel
theorem dX8_addPart_24 : decode cX8_addPart 24 = .ok (.putfield 37, 3) := by decide +kernel
theorem dX8_addPart_27 : decode cX8_addPart 27 = .ok (.iload_n 1, 1) := by decide +kernel
theorem dX8_addPart_28 : decode cX8_addPart 28 = .ok (.iastore, 1) := by decide +kernel
theorem dX8_addPart_29 : decode cX8_addPart 29 = .ok (.return_, 1) := by decide +kernel
theorem dX8_readSteps_0 : decode cX8_readSteps 0 = .ok (.aload_n 0, 1) := by decide +kernel
theorem dX8_readSteps_1 : decode cX8_readSteps 1 = .ok (.iconst 1, 1) := by decide +kernel
theorem dX8_readSteps_2 : decode cX8_readSteps 2 = .ok (.aload_n 0, 1) := by decide +kernel
theorem dX8_readSteps_3 : decode cX8_readSteps 3 = .ok (.getfield 37, 3) := by decide +kernel
theorem dX8_readSteps_6 : decode cX8_readSteps 6 = .ok (.invokevirtual 148, 3) := by decide +kernel
theorem dX8_readSteps_9 : decode cX8_readSteps 9 = .ok (.aload_n 0, 1) := by decide +kernel
theorem dX8_readSteps_10 : decode cX8_readSteps 10 = .ok (.invokevirtual 63, 3) := by decide +kernel
theorem dX8_readSteps_13 : decode cX8_readSteps 13 = .ok (.aload_n 0, 1) := by decide +kernel
theorem dX8_readSteps_14 : decode cX8_readSteps 14 = .ok (.invokevirtual 152, 3) := by decide +kernel
theorem dX8_readSteps_17 : decode cX8_readSteps 17 = .ok (.ifCond .ne 13, 3) := by decide +kernel
theorem dX8_readSteps_20 : decode cX8_readSteps 20 = .ok (.aload_n 0, 1) := by decide +kernel
theorem dX8_readSteps_21 : decode cX8_readSteps 21 = .ok (.iconst 1, 1) := by decide +kernel
theorem dX8_readSteps_22 : decode cX8_readSteps 22 = .ok (.aload_n 0, 1) := by decide +kernel
theorem dX8_readSteps_23 : decode cX8_readSteps 23 = .ok (.getfield 46, 3) := by decide +kernel
theorem dX8_readSteps_26 : decode cX8_readSteps 26 = .ok (.invokevirtual 66, 3) := by decide +kernel
theorem dX8_readSteps_29 : decode cX8_readSteps 29 = .ok (.ireturn, 1) := by decide +kernel
theorem dX8_readSteps_30 : decode cX8_readSteps 30 = .ok (.iconst 0, 1) := by decide +kernel
theorem dX8_readSteps_31 : decode cX8_readSteps 31 = .ok (.istore_n 2, 1) := by decide +kernel
theorem dX8_readSteps_32 : decode cX8_readSteps 32 = .ok (.iload_n 2, 1) := by decide +kernel
theorem dX8_readSteps_33 : decode cX8_readSteps 33 = .ok (.bipush 40, 2) := by decide +kernel
theorem dX8_readSteps_35 : decode cX8_readSteps 35 = .ok (.if_icmp .ge 44, 3) := by decide +kernel
theorem dX8_readSteps_38 : decode cX8_readSteps 38 = .ok (.aload_n 0, 1) := by decide +kernel
theorem dX8_readSteps_39 : decode cX8_readSteps 39 = .ok (.invokevirtual 152, 3) := by decide +kernel
theorem dX8_readSteps_42 : decode cX8_readSteps 42 = .ok (.ifCond .eq 37, 3) := by decide +kernel
theorem dX8_readSteps_45 : decode cX8_readSteps 45 = .ok (.aload_n 0, 1) := by decide +kernel
theorem dX8_readSteps_46 : decode cX8_readSteps 46 = .ok (.invokevirtual 155, 3) := by decide +kernel
theorem dX8_readSteps_49 : decode cX8_readSteps 49 = .ok (.ifCond .ne 5, 3) := by decide +kernel
theorem dX8_readSteps_52 : decode cX8_readSteps 52 = .ok (.iconst 0, 1) := by decide +kernel
theorem dX8_readSteps_53 : decode cX8_readSteps 53 = .ok (.ireturn, 1) := by decide +kernel
theorem dX8_readSteps_54 : decode cX8_readSteps 54 = .ok (.iinc 2 1, 3) := by decide +kernel
theorem dX8_readSteps_57 : decode cX8_readSteps 57 = .ok (.iload_n 2, 1) := by decide +kernel
theorem dX8_readSteps_58 : decode cX8_readSteps 58 = .ok (.bipush 40, 2) := by decide +kernel
theorem dX8_readSteps_60 : decode cX8_readSteps 60 = .ok (.if_icmp .ge 12, 3) := by decide +kernel
theorem dX8_readSteps_63 : decode cX8_readSteps 63 = .ok (.aload_n 0, 1) := by decide +kernel
theorem dX8_readSteps_64 : decode cX8_readSteps 64 = .ok (.invokevirtual 87, 3) := by decide +kernel
theorem dX8_readSteps_67 : decode cX8_readSteps 67 = .ok (.ifCond .ne 5, 3) := by decide +kernel
theorem dX8_readSteps_70 : decode cX8_readSteps 70 = .ok (.iconst 0, 1) := by decide +kernel
theorem dX8_readSteps_71 : decode cX8_readSteps 71 = .ok (.ireturn, 1) := by decide +kernel
theorem dX8_readSteps_72 : decode cX8_readSteps 72 = .ok (.aload_n 0, 1) := by decide +kernel
theorem dX8_readSteps_73 : decode cX8_readSteps 73 = .ok (.invokevirtual 63, 3) := by decide +kernel
theorem dX8_readSteps_76 : decode cX8_readSteps 76 = .ok (.goto (-44), 3) := by decide +kernel
theorem dX8_readSteps_79 : decode cX8_readSteps 79 = .ok (.aload_n 0, 1) := by decide +kernel
theorem dX8_readSteps_80 : decode cX8_readSteps 80 = .ok (.iconst 2, 1) := by decide +kernel
theorem dX8_readSteps_81 : decode cX8_readSteps 81 = .ok (.aload_n 0, 1) := by decide +kernel
theorem dX8_readSteps_82 : decode cX8_readSteps 82 = .ok (.getfield 37, 3) := by decide +kernel
theorem dX8_readSteps_85 : decode cX8_readSteps 85 = .ok (.invokevirtual 148, 3) := by decide +kernel
theorem dX8_readSteps_88 : decode cX8_readSteps 88 = .ok (.iload_n 2, 1) := by decide +kernel
theorem dX8_readSteps_89 : decode cX8_readSteps 89 = .ok (.bipush 40, 2) := by decide +kernel
theorem dX8_readSteps_91 : decode cX8_readSteps 91 = .ok (.if_icmp .lt 31, 3) := by decide +kernel
theorem dX8_readSteps_94 : decode cX8_readSteps 94 = .ok (.aload_n 0, 1) := by decide +kernel
theorem dX8_readSteps_95 : decode cX8_readSteps 95 = .ok (.invokevirtual 142, 3) := by decide +kernel
theorem dX8_readSteps_98 : decode cX8_readSteps 98 = .ok (.iconst (-1), 1) := by decide +kernel
theorem dX8_readSteps_99 : decode cX8_readSteps 99 = .ok (.if_icmp .eq 23, 3) := by decide +kernel
theorem dX8_readSteps_102 : decode cX8_readSteps 102 = .ok (.aload_n 0, 1) := by decide +kernel
theorem dX8_readSteps_103 : decode cX8_readSteps 103 = .ok (.invokevirtual 142, 3) := by decide +kernel
theorem dX8_readSteps_106 : decode cX8_readSteps 106 = .ok (.iload_n 1, 1) := by decide +kernel
theorem dX8_readSteps_107 : decode cX8_readSteps 107 = .ok (.if_icmp .eq 15, 3) := by decide +kernel
theorem dX8_readSteps_110 : decode cX8_readSteps 110 = .ok (.aload_n 0, 1) := by decide +kernel
theorem dX8_readSteps_111 : decode cX8_readSteps 111 = .ok (.iconst 5, 1) := by decide +kernel
theorem dX8_readSteps_112 : decode cX8_readSteps 112 = .ok (.aload_n 0, 1) := by decide +kernel
theorem dX8_readSteps_113 : decode cX8_readSteps 113 = .ok (.getfield 46, 3) := by decide +kernel
theorem dX8_readSteps_116 : decode cX8_readSteps 116 = .ok (.invokevirtual 66, 3) := by decide +kernel
theorem dX8_readSteps_119 : decode cX8_readSteps 119 = .ok (.ifCond .eq 7, 3) := by decide +kernel
theorem dX8_readSteps_122 : decode cX8_readSteps 122 = .ok (.iconst 1, 1) := by decide +kernel
theorem dX8_readSteps_123 : decode cX8_readSteps 123 = .ok (.goto 4, 3) := by decide +kernel
theorem dX8_readSteps_126 : decode cX8_readSteps 126 = .ok (.iconst 0, 1) := by decide +kernel
theorem dX8_readSteps_127 : decode cX8_readSteps 127 = .ok (.ireturn, 1) := by decide +kernel
theorem dX8_isAtStep_0 : decode cX8_isAtStep 0 = .ok (.aload_n 0, 1) := by decide +kernel
theorem dX8_isAtStep_1 : decode cX8_isAtStep 1 = .ok (.invokevirtual 135, 3) := by decide +kernel
theorem dX8_isAtStep_4 : decode cX8_isAtStep 4 = .ok (.ifCond .ne 21, 3) := by decide +kernel
theorem dX8_isAtStep_7 : decode cX8_isAtStep 7 = .ok (.aload_n 0, 1) := by decide +kernel
theorem dX8_isAtStep_8 : decode cX8_isAtStep 8 = .ok (.invokevirtual 142, 3) := by decide +kernel
theorem dX8_isAtStep_11 : decode cX8_isAtStep 11 = .ok (.bipush 43, 2) := by decide +kernel
theorem dX8_isAtStep_13 : decode cX8_isAtStep 13 = .ok (.if_icmp .eq 12, 3) := by decide +kernel
theorem dX8_isAtStep_16 : decode cX8_isAtStep 16 = .ok (.aload_n 0, 1) := by decide +kernel
theorem dX8_isAtStep_17 : decode cX8_isAtStep 17 = .ok (.invokevirtual 142, 3) := by decide +kernel
theorem dX8_isAtStep_20 : decode cX8_isAtStep 20 = .ok (.bipush 45, 2) := by decide +kernel
theorem dX8_isAtStep_22 : decode cX8_isAtStep 22 = .ok (.if_icmp .ne 7, 3) := by decide +kernel
theorem dX8_isAtStep_25 : decode cX8_isAtStep 25 = .ok (.iconst 1, 1) := by decide +kernel
theorem dX8_isAtStep_26 : decode cX8_isAtStep 26 = .ok (.goto 4, 3) := by decide +kernel
theorem dX8_isAtStep_29 : decode cX8_isAtStep 29 = .ok (.iconst 0, 1) := by decide +kernel
theorem dX8_isAtStep_30 : decode cX8_isAtStep 30 = .ok (.ireturn, 1) := by decide +kernel
theorem dX8_readStep_0 : decode cX8_readStep 0 = .ok (.aload_n 0, 1) := by decide +kernel
theorem dX8_readStep_1 : decode cX8_readStep 1 = .ok (.invokevirtual 142, 3) := by decide +kernel
theorem dX8_readStep_4 : decode cX8_readStep 4 = .ok (.istore_n 1, 1) := by decide +kernel
theorem dX8_readStep_5 : decode cX8_readStep 5 = .ok (.iload_n 1, 1) := by decide +kernel
theorem dX8_readStep_6 : decode cX8_readStep 6 = .ok (.bipush 43, 2) := by decide +kernel
theorem dX8_readStep_8 : decode cX8_readStep 8 = .ok (.if_icmp .ne 20, 3) := by decide +kernel
theorem dX8_readStep_11 : decode cX8_readStep 11 = .ok (.aload_n 0, 1) := by decide +kernel
theorem dX8_readStep_12 : decode cX8_readStep 12 = .ok (.dup, 1) := by decide +kernel
theorem dX8_readStep_13 : decode cX8_readStep 13 = .ok (.getfield 46, 3) := by decide +kernel
theorem dX8_readStep_16 : decode cX8_readStep 16 = .ok (.iconst 1, 1) := by decide +kernel
theorem dX8_readStep_17 : decode cX8_readStep 17 = .ok (.iadd, 1) := by decide +kernel
theorem dX8_readStep_18 : decode cX8_readStep 18 = .ok (.putfield 46, 3) := by decide +kernel
theorem dX8_readStep_21 : decode cX8_readStep 21 = .ok (.aload_n 0, 1) := by decide +kernel
theorem dX8_readStep_22 : decode cX8_readStep 22 = .ok (.bipush 20, 2) := by decide +kernel
theorem dX8_readStep_24 : decode cX8_readStep 24 = .ok (.invokevirtual 84, 3) := by decide +kernel
theorem dX8_readStep_27 : decode cX8_readStep 27 = .ok (.ireturn, 1) := by decide +kernel
theorem dX8_readStep_28 : decode cX8_readStep 28 = .ok (.iload_n 1, 1) := by decide +kernel
theorem dX8_readStep_29 : decode cX8_readStep 29 = .ok (.bipush 45, 2) := by decide +kernel
theorem dX8_readStep_31 : decode cX8_readStep 31 = .ok (.if_icmp .ne 13, 3) := by decide +kernel
theorem dX8_readStep_34 : decode cX8_readStep 34 = .ok (.aload_n 0, 1) := by decide +kernel
theorem dX8_readStep_35 : decode cX8_readStep 35 = .ok (.dup, 1) := by decide +kernel
theorem dX8_readStep_36 : decode cX8_readStep 36 = .ok (.getfield 46, 3) := by decide +kernel
theorem dX8_readStep_39 : decode cX8_readStep 39 = .ok (.iconst 1, 1) := by decide +kernel
theorem dX8_readStep_40 : decode cX8_readStep 40 = .ok (.iadd, 1) := by decide +kernel
theorem dX8_readStep_41 : decode cX8_readStep 41 = .ok (.putfield 46, 3) := by decide +kernel
theorem dX8_readStep_44 : decode cX8_readStep 44 = .ok (.aload_n 0, 1) := by decide +kernel
theorem dX8_readStep_45 : decode cX8_readStep 45 = .ok (.iconst 1, 1) := by decide +kernel
theorem dX8_readStep_46 : decode cX8_readStep 46 = .ok (.bipush 99, 2) := by decide +kernel
theorem dX8_readStep_48 : decode cX8_readStep 48 = .ok (.invokevirtual 145, 3) := by decide +kernel
theorem dX8_readStep_51 : decode cX8_readStep 51 = .ok (.istore_n 2, 1) := by decide +kernel
theorem dX8_readStep_52 : decode cX8_readStep 52 = .ok (.iload_n 2, 1) := by decide +kernel
theorem dX8_readStep_53 : decode cX8_readStep 53 = .ok (.iconst (-1), 1) := by decide +kernel
theorem dX8_readStep_54 : decode cX8_readStep 54 = .ok (.if_icmp .ne 5, 3) := by decide +kernel
theorem dX8_readStep_57 : decode cX8_readStep 57 = .ok (.iconst 0, 1) := by decide +kernel
theorem dX8_readStep_58 : decode cX8_readStep 58 = .ok (.ireturn, 1) := by decide +kernel
theorem dX8_readStep_59 : decode cX8_readStep 59 = .ok (.aload_n 0, 1) := by decide +kernel
theorem dX8_readStep_60 : decode cX8_readStep 60 = .ok (.iload_n 1, 1) := by decide +kernel
theorem dX8_readStep_61 : decode cX8_readStep 61 = .ok (.bipush 45, 2) := by decide +kernel
theorem dX8_readStep_63 : decode cX8_readStep 63 = .ok (.if_icmp .ne 8, 3) := by decide +kernel
theorem dX8_readStep_66 : decode cX8_readStep 66 = .ok (.iload_n 2, 1) := by decide +kernel
theorem dX8_readStep_67 : decode cX8_readStep 67 = .ok (.ineg, 1) := by decide +kernel
theorem dX8_readStep_68 : decode cX8_readStep 68 = .ok (.goto 7, 3) := by decide +kernel
theorem dX8_readStep_71 : decode cX8_readStep 71 = .ok (.bipush 31, 2) := by decide +kernel
theorem dX8_readStep_73 : decode cX8_readStep 73 = .ok (.iload_n 2, 1) := by decide +kernel
theorem dX8_readStep_74 : decode cX8_readStep 74 = .ok (.iadd, 1) := by decide +kernel
theorem dX8_readStep_75 : decode cX8_readStep 75 = .ok (.invokevirtual 138, 3) := by decide +kernel
theorem dX8_readStep_78 : decode cX8_readStep 78 = .ok (.iconst 1, 1) := by decide +kernel
theorem dX8_readStep_79 : decode cX8_readStep 79 = .ok (.ireturn, 1) := by decide +kernel
theorem dX9_init_0 : decode cX9_init 0 = .ok (.aload_n 0, 1) := by decide +kernel
theorem dX9_init_1 : decode cX9_init 1 = .ok (.invokespecial 3, 3) := by decide +kernel
theorem dX9_init_4 : decode cX9_init 4 = .ok (.aload_n 0, 1) := by decide +kernel
theorem dX9_init_5 : decode cX9_init 5 = .ok (.new 9, 3) := by decide +kernel
theorem dX9_init_8 : decode cX9_init 8 = .ok (.dup, 1) := by decide +kernel
theorem dX9_init_9 : decode cX9_init 9 = .ok (.invokespecial 11, 3) := by decide +kernel
theorem dX9_init_12 : decode cX9_init 12 = .ok (.putfield 12, 3) := by decide +kernel
theorem dX9_init_15 : decode cX9_init 15 = .ok (.aload_n 0, 1) := by decide +kernel
theorem dX9_init_16 : decode cX9_init 16 = .ok (.new 9, 3) := by decide +kernel
theorem dX9_init_19 : decode cX9_init 19 = .ok (.dup, 1) := by decide +kernel
theorem dX9_init_20 : decode cX9_init 20 = .ok (.invokespecial 11, 3) := by decide +kernel
theorem dX9_init_23 : decode cX9_init 23 = .ok (.putfield 18, 3) := by decide +kernel
theorem dX9_init_26 : decode cX9_init 26 = .ok (.aload_n 0, 1) := by decide +kernel
theorem dX9_init_27 : decode cX9_init 27 = .ok (.new 21, 3) := by decide +kernel
theorem dX9_init_30 : decode cX9_init 30 = .ok (.dup, 1) := by decide +kernel
theorem dX9_init_31 : decode cX9_init 31 = .ok (.invokespecial 23, 3) := by decide +kernel
theorem dX9_init_34 : decode cX9_init 34 = .ok (.putfield 24, 3) := by decide +kernel
theorem dX9_init_37 : decode cX9_init 37 = .ok (.aload_n 0, 1) := by decide +kernel
theorem dX9_init_38 : decode cX9_init 38 = .ok (.new 21, 3) := by decide +kernel
theorem dX9_init_41 : decode cX9_init 41 = .ok (.dup, 1) := by decide +kernel
theorem dX9_init_42 : decode cX9_init 42 = .ok (.invokespecial 23, 3) := by decide +kernel
theorem dX9_init_45 : decode cX9_init 45 = .ok (.putfield 28, 3) := by decide +kernel
theorem dX9_init_48 : decode cX9_init 48 = .ok (.aload_n 0, 1) := by decide +kernel
theorem dX9_init_49 : decode cX9_init 49 = .ok (.sipush 240, 3) := by decide +kernel
theorem dX9_init_52 : decode cX9_init 52 = .ok (.newarray .int, 2) := by decide +kernel
theorem dX9_init_54 : decode cX9_init 54 = .ok (.putfield 31, 3) := by decide +kernel
theorem dX9_init_57 : decode cX9_init 57 = .ok (.aload_n 0, 1) := by decide +kernel
theorem dX9_init_58 : decode cX9_init 58 = .ok (.new 21, 3) := by decide +kernel
theorem dX9_init_61 : decode cX9_init 61 = .ok (.dup, 1) := by decide +kernel
theorem dX9_init_62 : decode cX9_init 62 = .ok (.invokespecial 23, 3) := by decide +kernel
theorem dX9_init_65 : decode cX9_init 65 = .ok (.putfield 35, 3) := by decide +kernel
theorem dX9_init_68 : decode cX9_init 68 = .ok (.aload_n 0, 1) := by decide +kernel
theorem dX9_init_69 : decode cX9_init 69 = .ok (.new 21, 3) := by decide +kernel
theorem dX9_init_72 : decode cX9_init 72 = .ok (.dup, 1) := by decide +kernel
theorem dX9_init_73 : decode cX9_init 73 = .ok (.invokespecial 23, 3) := by decide +kernel
theorem dX9_init_76 : decode cX9_init 76 = .ok (.putfield 38, 3) := by decide +kernel
theorem dX9_init_79 : decode cX9_init 79 = .ok (.return_, 1) := by decide +kernel
theorem dX9_invert_0 : decode cX9_invert 0 = .ok (.aload_n 3, 1) := by decide +kernel
theorem dX9_invert_1 : decode cX9_invert 1 = .ok (.aload_n 1, 1) := by decide +kernel
theorem dX9_invert_2 : decode cX9_invert 2 = .ok (.getfield 41, 3) := by decide +kernel
theorem dX9_invert_5 : decode cX9_invert 5 = .ok (.aload_n 2, 1) := by decide +kernel
theorem dX9_invert_6 : decode cX9_invert 6 = .ok (.getfield 45, 3) := by decide +kernel
theorem dX9_invert_9 : decode cX9_invert 9 = .ok (.iadd, 1) := by decide +kernel
theorem dX9_invert_10 : decode cX9_invert 10 = .ok (.iconst 1, 1) := by decide +kernel
theorem dX9_invert_11 : decode cX9_invert 11 = .ok (.iadd, 1) := by decide +kernel
theorem dX9_invert_12 : decode cX9_invert 12 = .ok (.invokevirtual 48, 3) := by decide +kernel
theorem dX9_invert_15 : decode cX9_invert 15 = .ok (.iconst 0, 1) := by decide +kernel
theorem dX9_invert_16 : decode cX9_invert 16 = .ok (.istore 4, 2) := by decide +kernel
theorem dX9_invert_18 : decode cX9_invert 18 = .ok (.iconst 0, 1) := by decide +kernel
theorem dX9_invert_19 : decode cX9_invert 19 = .ok (.istore 5, 2) := by decide +kernel
theorem dX9_invert_21 : decode cX9_invert 21 = .ok (.iload 5, 2) := by decide +kernel
theorem dX9_invert_23 : decode cX9_invert 23 = .ok (.aload_n 1, 1) := by decide +kernel
theorem dX9_invert_24 : decode cX9_invert 24 = .ok (.getfield 41, 3) := by decide +kernel
theorem dX9_invert_27 : decode cX9_invert 27 = .ok (.if_icmp .ge 100, 3) := by decide +kernel
theorem dX9_invert_30 : decode cX9_invert 30 = .ok (.aload_n 1, 1) := by decide +kernel
theorem dX9_invert_31 : decode cX9_invert 31 = .ok (.getfield 52, 3) := by decide +kernel
theorem dX9_invert_34 : decode cX9_invert 34 = .ok (.iload 5, 2) := by decide +kernel
theorem dX9_invert_36 : decode cX9_invert 36 = .ok (.iaload, 1) := by decide +kernel
theorem dX9_invert_37 : decode cX9_invert 37 = .ok (.istore 6, 2) := by decide +kernel
theorem dX9_invert_39 : decode cX9_invert 39 = .ok (.iload 6, 2) := by decide +kernel
theorem dX9_invert_41 : decode cX9_invert 41 = .ok (.invokestatic 55, 3) := by decide +kernel
theorem dX9_invert_44 : decode cX9_invert 44 = .ok (.ifCond .eq 11, 3) := by decide +kernel
theorem dX9_invert_47 : decode cX9_invert 47 = .ok (.aload_n 3, 1) := by decide +kernel
theorem dX9_invert_48 : decode cX9_invert 48 = .ok (.iconst 1, 1) := by decide +kernel
theorem dX9_invert_49 : decode cX9_invert 49 = .ok (.invokevirtual 59, 3) := by decide +kernel
theorem dX9_invert_52 : decode cX9_invert 52 = .ok (.goto 69, 3) := by decide +kernel
theorem dX9_invert_55 : decode cX9_invert 55 = .ok (.iload 6, 2) := by decide +kernel
theorem dX9_invert_57 : decode cX9_invert 57 = .ok (.bipush 31, 2) := by decide +kernel
theorem dX9_invert_59 : decode cX9_invert 59 = .ok (.if_icmp .le 25, 3) := by decide +kernel
theorem dX9_invert_62 : decode cX9_invert 62 = .ok (.aload_n 3, 1) := by decide +kernel
theorem dX9_invert_63 : decode cX9_invert 63 = .ok (.iload 6, 2) := by decide +kernel
theorem dX9_invert_65 : decode cX9_invert 65 = .ok (.bipush 31, 2) := by decide +kernel
theorem dX9_invert_67 : decode cX9_invert 67 = .ok (.isub, 1) := by decide +kernel
theorem dX9_invert_68 : decode cX9_invert 68 = .ok (.invokevirtual 62, 3) := by decide +kernel
theorem dX9_invert_71 : decode cX9_invert 71 = .ok (.iload 4, 2) := by decide +kernel
theorem dX9_invert_73 : decode cX9_invert 73 = .ok (.iload 6, 2) := by decide +kernel
theorem dX9_invert_75 : decode cX9_invert 75 = .ok (.bipush 31, 2) := by decide +kernel
theorem dX9_invert_77 : decode cX9_invert 77 = .ok (.isub, 1) := by decide +kernel
theorem dX9_invert_78 : decode cX9_invert 78 = .ok (.iadd, 1) := by decide +kernel
theorem dX9_invert_79 : decode cX9_invert 79 = .ok (.istore 4, 2) := by decide +kernel
theorem dX9_invert_81 : decode cX9_invert 81 = .ok (.goto 40, 3) := by decide +kernel
theorem dX9_invert_84 : decode cX9_invert 84 = .ok (.iload 4, 2) := by decide +kernel
theorem dX9_invert_86 : decode cX9_invert 86 = .ok (.iload 6, 2) := by decide +kernel
theorem dX9_invert_88 : decode cX9_invert 88 = .ok (.isub, 1) := by decide +kernel
theorem dX9_invert_89 : decode cX9_invert 89 = .ok (.aload_n 2, 1) := by decide +kernel
theorem dX9_invert_90 : decode cX9_invert 90 = .ok (.getfield 45, 3) := by decide +kernel
theorem dX9_invert_93 : decode cX9_invert 93 = .ok (.invokestatic 65, 3) := by decide +kernel
theorem dX9_invert_96 : decode cX9_invert 96 = .ok (.istore 7, 2) := by decide +kernel
theorem dX9_invert_98 : decode cX9_invert 98 = .ok (.iload 4, 2) := by decide +kernel
theorem dX9_invert_100 : decode cX9_invert 100 = .ok (.iload 7, 2) := by decide +kernel
theorem dX9_invert_102 : decode cX9_invert 102 = .ok (.if_icmp .ge 19, 3) := by decide +kernel
theorem dX9_invert_105 : decode cX9_invert 105 = .ok (.aload_n 3, 1) := by decide +kernel
theorem dX9_invert_106 : decode cX9_invert 106 = .ok (.aload_n 2, 1) := by decide +kernel
theorem dX9_invert_107 : decode cX9_invert 107 = .ok (.iload 4, 2) := by decide +kernel
theorem dX9_invert_109 : decode cX9_invert 109 = .ok (.invokevirtual 71, 3) := by decide +kernel
theorem dX9_invert_112 : decode cX9_invert 112 = .ok (.invokevirtual 75, 3) := by decide +kernel
theorem dX9_invert_115 : decode cX9_invert 115 = .ok (.iinc 4 1, 3) := by decide +kernel
theorem dX9_invert_118 : decode cX9_invert 118 = .ok (.goto (-20), 3) := by decide +kernel
theorem dX9_invert_121 : decode cX9_invert 121 = .ok (.iinc 5 1, 3) := by decide +kernel
theorem dX9_invert_124 : decode cX9_invert 124 = .ok (.goto (-103), 3) := by decide +kernel
