theorem dX12_carried_35 : decode cX12_carried 35 = .ok (.ifCond .eq 29, 3) := by decide +kernel
theorem dX12_carried_38 : decode cX12_carried 38 = .ok (.iinc 5 1, 3) := by decide +kernel
theorem dX12_carried_41 : decode cX12_carried 41 = .ok (.goto 23, 3) := by decide +kernel
theorem dX12_carried_44 : decode cX12_carried 44 = .ok (.aload_n 0, 1) := by decide +kernel
theorem dX12_carried_45 : decode cX12_carried 45 = .ok (.iload 6, 2) := by decide +kernel
theorem dX12_carried_47 : decode cX12_carried 47 = .ok (.iaload, 1) := by decide +kernel
theorem dX12_carried_48 : decode cX12_carried 48 = .ok (.iconst (-1), 1) := by decide +kernel
theorem dX12_carried_49 : decode cX12_carried 49 = .ok (.if_icmp .ne 12, 3) := by decide +kernel
theorem dX12_carried_52 : decode cX12_carried 52 = .ok (.iload 4, 2) := by decide +kernel
theorem dX12_carried_54 : decode cX12_carried 54 = .ok (.iload_n 2, 1) := by decide +kernel
theorem dX12_carried_55 : decode cX12_carried 55 = .ok (.if_icmp .ge 6, 3) := by decide +kernel
theorem dX12_carried_58 : decode cX12_carried 58 = .ok (.iinc 5 (-1), 3) := by decide +kernel
theorem dX12_carried_61 : decode cX12_carried 61 = .ok (.iinc 4 1, 3) := by decide +kernel
theorem dX12_carried_64 : decode cX12_carried 64 = .ok (.iinc 6 1, 3) := by decide +kernel
theorem dX12_carried_67 : decode cX12_carried 67 = .ok (.goto (-58), 3) := by decide +kernel
theorem dX12_carried_70 : decode cX12_carried 70 = .ok (.iload 5, 2) := by decide +kernel
theorem dX12_carried_72 : decode cX12_carried 72 = .ok (.ireturn, 1) := by decide +kernel
theorem dX12_of_0 : decode cX12_of 0 = .ok (.iconst 4, 1) := by decide +kernel
theorem dX12_of_1 : decode cX12_of 1 = .ok (.sipush 2618, 3) := by decide +kernel
theorem dX12_of_4 : decode cX12_of 4 = .ok (.iload_n 0, 1) := by decide +kernel
theorem dX12_of_5 : decode cX12_of 5 = .ok (.imul, 1) := by decide +kernel
theorem dX12_of_6 : decode cX12_of 6 = .ok (.iadd, 1) := by decide +kernel
theorem dX12_of_7 : decode cX12_of 7 = .ok (.iload_n 1, 1) := by decide +kernel
theorem dX12_of_8 : decode cX12_of 8 = .ok (.iadd, 1) := by decide +kernel
theorem dX12_of_9 : decode cX12_of 9 = .ok (.ireturn, 1) := by decide +kernel
theorem dX12_its_0 : decode cX12_its 0 = .ok (.aload_n 0, 1) := by decide +kernel
theorem dX12_its_1 : decode cX12_its 1 = .ok (.getfield 69, 3) := by decide +kernel
theorem dX12_its_4 : decode cX12_its 4 = .ok (.iconst 4, 1) := by decide +kernel
theorem dX12_its_5 : decode cX12_its 5 = .ok (.sipush 2618, 3) := by decide +kernel
theorem dX12_its_8 : decode cX12_its 8 = .ok (.iload_n 1, 1) := by decide +kernel
theorem dX12_its_9 : decode cX12_its 9 = .ok (.imul, 1) := by decide +kernel
theorem dX12_its_10 : decode cX12_its 10 = .ok (.iadd, 1) := by decide +kernel
theorem dX12_its_11 : decode cX12_its 11 = .ok (.iload_n 2, 1) := by decide +kernel
theorem dX12_its_12 : decode cX12_its 12 = .ok (.iadd, 1) := by decide +kernel
theorem dX12_its_13 : decode cX12_its 13 = .ok (.iaload, 1) := by decide +kernel
theorem dX12_its_14 : decode cX12_its 14 = .ok (.ireturn, 1) := by decide +kernel
theorem dX12_isEditor_0 : decode cX12_isEditor 0 = .ok (.aload_n 0, 1) := by decide +kernel
theorem dX12_isEditor_1 : decode cX12_isEditor 1 = .ok (.getfield 211, 3) := by decide +kernel
theorem dX12_isEditor_4 : decode cX12_isEditor 4 = .ok (.ifCond .eq 23, 3) := by decide +kernel
theorem dX12_isEditor_7 : decode cX12_isEditor 7 = .ok (.iload_n 1, 1) := by decide +kernel
theorem dX12_isEditor_8 : decode cX12_isEditor 8 = .ok (.i2l, 1) := by decide +kernel
theorem dX12_isEditor_9 : decode cX12_isEditor 9 = .ok (.lconst 0, 1) := by decide +kernel
theorem dX12_isEditor_10 : decode cX12_isEditor 10 = .ok (.aload_n 0, 1) := by decide +kernel
theorem dX12_isEditor_11 : decode cX12_isEditor 11 = .ok (.getfield 215, 3) := by decide +kernel
theorem dX12_isEditor_14 : decode cX12_isEditor 14 = .ok (.iconst 1, 1) := by decide +kernel
theorem dX12_isEditor_15 : decode cX12_isEditor 15 = .ok (.isub, 1) := by decide +kernel
theorem dX12_isEditor_16 : decode cX12_isEditor 16 = .ok (.i2l, 1) := by decide +kernel
theorem dX12_isEditor_17 : decode cX12_isEditor 17 = .ok (.invokestatic 139, 3) := by decide +kernel
theorem dX12_isEditor_20 : decode cX12_isEditor 20 = .ok (.ifCond .eq 7, 3) := by decide +kernel
theorem dX12_isEditor_23 : decode cX12_isEditor 23 = .ok (.iconst 1, 1) := by decide +kernel
theorem dX12_isEditor_24 : decode cX12_isEditor 24 = .ok (.goto 4, 3) := by decide +kernel
theorem dX12_isEditor_27 : decode cX12_isEditor 27 = .ok (.iconst 0, 1) := by decide +kernel
theorem dX12_isEditor_28 : decode cX12_isEditor 28 = .ok (.ireturn, 1) := by decide +kernel
theorem dX12_opToA_0 : decode cX12_opToA 0 = .ok (.aload_n 0, 1) := by decide +kernel
theorem dX12_opToA_1 : decode cX12_opToA 1 = .ok (.aload_n 0, 1) := by decide +kernel
theorem dX12_opToA_2 : decode cX12_opToA 2 = .ok (.getfield 87, 3) := by decide +kernel
theorem dX12_opToA_5 : decode cX12_opToA 5 = .ok (.aload_n 0, 1) := by decide +kernel
theorem dX12_opToA_6 : decode cX12_opToA 6 = .ok (.getfield 81, 3) := by decide +kernel
theorem dX12_opToA_9 : decode cX12_opToA 9 = .ok (.iload_n 1, 1) := by decide +kernel
theorem dX12_opToA_10 : decode cX12_opToA 10 = .ok (.iaload, 1) := by decide +kernel
theorem dX12_opToA_11 : decode cX12_opToA 11 = .ok (.aload_n 0, 1) := by decide +kernel
theorem dX12_opToA_12 : decode cX12_opToA 12 = .ok (.getfield 84, 3) := by decide +kernel
theorem dX12_opToA_15 : decode cX12_opToA 15 = .ok (.iload_n 1, 1) := by decide +kernel
theorem dX12_opToA_16 : decode cX12_opToA 16 = .ok (.iaload, 1) := by decide +kernel
theorem dX12_opToA_17 : decode cX12_opToA 17 = .ok (.aload_n 0, 1) := by decide +kernel
theorem dX12_opToA_18 : decode cX12_opToA 18 = .ok (.getfield 78, 3) := by decide +kernel
theorem dX12_opToA_21 : decode cX12_opToA 21 = .ok (.iload_n 1, 1) := by decide +kernel
theorem dX12_opToA_22 : decode cX12_opToA 22 = .ok (.iaload, 1) := by decide +kernel
theorem dX12_opToA_23 : decode cX12_opToA 23 = .ok (.aload_n 0, 1) := by decide +kernel
theorem dX12_opToA_24 : decode cX12_opToA 24 = .ok (.getfield 51, 3) := by decide +kernel
theorem dX12_opToA_27 : decode cX12_opToA 27 = .ok (.invokestatic 218, 3) := by decide +kernel
theorem dX12_opToA_30 : decode cX12_opToA 30 = .ok (.putfield 195, 3) := by decide +kernel
theorem dX12_opToA_33 : decode cX12_opToA 33 = .ok (.return_, 1) := by decide +kernel
theorem dX12_opToB_0 : decode cX12_opToB 0 = .ok (.aload_n 0, 1) := by decide +kernel
theorem dX12_opToB_1 : decode cX12_opToB 1 = .ok (.aload_n 0, 1) := by decide +kernel
theorem dX12_opToB_2 : decode cX12_opToB 2 = .ok (.getfield 87, 3) := by decide +kernel
theorem dX12_opToB_5 : decode cX12_opToB 5 = .ok (.aload_n 0, 1) := by decide +kernel
theorem dX12_opToB_6 : decode cX12_opToB 6 = .ok (.getfield 81, 3) := by decide +kernel
theorem dX12_opToB_9 : decode cX12_opToB 9 = .ok (.iload_n 1, 1) := by decide +kernel
theorem dX12_opToB_10 : decode cX12_opToB 10 = .ok (.iaload, 1) := by decide +kernel
theorem dX12_opToB_11 : decode cX12_opToB 11 = .ok (.aload_n 0, 1) := by decide +kernel
theorem dX12_opToB_12 : decode cX12_opToB 12 = .ok (.getfield 84, 3) := by decide +kernel
theorem dX12_opToB_15 : decode cX12_opToB 15 = .ok (.iload_n 1, 1) := by decide +kernel
theorem dX12_opToB_16 : decode cX12_opToB 16 = .ok (.iaload, 1) := by decide +kernel
theorem dX12_opToB_17 : decode cX12_opToB 17 = .ok (.aload_n 0, 1) := by decide +kernel
theorem dX12_opToB_18 : decode cX12_opToB 18 = .ok (.getfield 78, 3) := by decide +kernel
theorem dX12_opToB_21 : decode cX12_opToB 21 = .ok (.iload_n 1, 1) := by decide +kernel
theorem dX12_opToB_22 : decode cX12_opToB 22 = .ok (.iaload, 1) := by decide +kernel
theorem dX12_opToB_23 : decode cX12_opToB 23 = .ok (.aload_n 0, 1) := by decide +kernel
theorem dX12_opToB_24 : decode cX12_opToB 24 = .ok (.getfield 54, 3) := by decide +kernel
theorem dX12_opToB_27 : decode cX12_opToB 27 = .ok (.invokestatic 218, 3) := by decide +kernel
theorem dX12_opToB_30 : decode cX12_opToB 30 = .ok (.putfield 198, 3) := by decide +kernel
theorem dX12_opToB_33 : decode cX12_opToB 33 = .ok (.return_, 1) := by decide +kernel
theorem dX12_keptToA_0 : decode cX12_keptToA 0 = .ok (.aload_n 0, 1) := by decide +kernel
theorem dX12_keptToA_1 : decode cX12_keptToA 1 = .ok (.aload_n 0, 1) := by decide +kernel
theorem dX12_keptToA_2 : decode cX12_keptToA 2 = .ok (.getfield 69, 3) := by decide +kernel
theorem dX12_keptToA_5 : decode cX12_keptToA 5 = .ok (.iload_n 1, 1) := by decide +kernel
theorem dX12_keptToA_6 : decode cX12_keptToA 6 = .ok (.iconst 2, 1) := by decide +kernel
theorem dX12_keptToA_7 : decode cX12_keptToA 7 = .ok (.iadd, 1) := by decide +kernel
theorem dX12_keptToA_8 : decode cX12_keptToA 8 = .ok (.aload_n 0, 1) := by decide +kernel
theorem dX12_keptToA_9 : decode cX12_keptToA 9 = .ok (.getfield 69, 3) := by decide +kernel
theorem dX12_keptToA_12 : decode cX12_keptToA 12 = .ok (.iload_n 1, 1) := by decide +kernel
theorem dX12_keptToA_13 : decode cX12_keptToA 13 = .ok (.iaload, 1) := by decide +kernel
theorem dX12_keptToA_14 : decode cX12_keptToA 14 = .ok (.aload_n 0, 1) := by decide +kernel
theorem dX12_keptToA_15 : decode cX12_keptToA 15 = .ok (.getfield 69, 3) := by decide +kernel
theorem dX12_keptToA_18 : decode cX12_keptToA 18 = .ok (.iload_n 1, 1) := by decide +kernel
theorem dX12_keptToA_19 : decode cX12_keptToA 19 = .ok (.iconst 1, 1) := by decide +kernel
theorem dX12_keptToA_20 : decode cX12_keptToA 20 = .ok (.iadd, 1) := by decide +kernel
theorem dX12_keptToA_21 : decode cX12_keptToA 21 = .ok (.iaload, 1) := by decide +kernel
theorem dX12_keptToA_22 : decode cX12_keptToA 22 = .ok (.aload_n 0, 1) := by decide +kernel
theorem dX12_keptToA_23 : decode cX12_keptToA 23 = .ok (.getfield 51, 3) := by decide +kernel
theorem dX12_keptToA_26 : decode cX12_keptToA 26 = .ok (.invokestatic 218, 3) := by decide +kernel
theorem dX12_keptToA_29 : decode cX12_keptToA 29 = .ok (.putfield 195, 3) := by decide +kernel
theorem dX12_keptToA_32 : decode cX12_keptToA 32 = .ok (.return_, 1) := by decide +kernel
theorem dX12_keepsC_0 : decode cX12_keepsC 0 = .ok (.aload_n 0, 1) := by decide +kernel
theorem dX12_keepsC_1 : decode cX12_keepsC 1 = .ok (.getfield 69, 3) := by decide +kernel
theorem dX12_keepsC_4 : decode cX12_keepsC 4 = .ok (.iload_n 1, 1) := by decide +kernel
theorem dX12_keepsC_5 : decode cX12_keepsC 5 = .ok (.aload_n 0, 1) := by decide +kernel
theorem dX12_keepsC_6 : decode cX12_keepsC 6 = .ok (.getfield 57, 3) := by decide +kernel
theorem dX12_keepsC_9 : decode cX12_keepsC 9 = .ok (.aload_n 0, 1) := by decide +kernel
theorem dX12_keepsC_10 : decode cX12_keepsC 10 = .ok (.getfield 189, 3) := by decide +kernel
theorem dX12_keepsC_13 : decode cX12_keepsC 13 = .ok (.aload_n 0, 1) := by decide +kernel
theorem dX12_keepsC_14 : decode cX12_keepsC 14 = .ok (.getfield 69, 3) := by decide +kernel
theorem dX12_keepsC_17 : decode cX12_keepsC 17 = .ok (.iload_n 1, 1) := by decide +kernel
theorem dX12_keepsC_18 : decode cX12_keepsC 18 = .ok (.iconst 2, 1) := by decide +kernel
theorem dX12_keepsC_19 : decode cX12_keepsC 19 = .ok (.iadd, 1) := by decide +kernel
theorem dX12_keepsC_20 : decode cX12_keepsC 20 = .ok (.invokestatic 222, 3) := by decide +kernel
theorem dX12_keepsC_23 : decode cX12_keepsC 23 = .ok (.iastore, 1) := by decide +kernel
theorem dX12_keepsC_24 : decode cX12_keepsC 24 = .ok (.aload_n 0, 1) := by decide +kernel
theorem dX12_keepsC_25 : decode cX12_keepsC 25 = .ok (.getfield 69, 3) := by decide +kernel
theorem dX12_keepsC_28 : decode cX12_keepsC 28 = .ok (.iload_n 1, 1) := by decide +kernel
theorem dX12_keepsC_29 : decode cX12_keepsC 29 = .ok (.iconst 1, 1) := by decide +kernel
theorem dX12_keepsC_30 : decode cX12_keepsC 30 = .ok (.iadd, 1) := by decide +kernel
theorem dX12_keepsC_31 : decode cX12_keepsC 31 = .ok (.aload_n 0, 1) := by decide +kernel
theorem dX12_keepsC_32 : decode cX12_keepsC 32 = .ok (.getfield 57, 3) := by decide +kernel
theorem dX12_keepsC_35 : decode cX12_keepsC 35 = .ok (.aload_n 0, 1) := by decide +kernel
theorem dX12_keepsC_36 : decode cX12_keepsC 36 = .ok (.getfield 189, 3) := by decide +kernel
theorem dX12_keepsC_39 : decode cX12_keepsC 39 = .ok (.invokestatic 226, 3) := by decide +kernel
theorem dX12_keepsC_42 : decode cX12_keepsC 42 = .ok (.iastore, 1) := by decide +kernel
theorem dX12_keepsC_43 : decode cX12_keepsC 43 = .ok (.return_, 1) := by decide +kernel
theorem dX12_copiesOp_0 : decode cX12_copiesOp 0 = .ok (.iconst 0, 1) := by decide +kernel
theorem dX12_copiesOp_1 : decode cX12_copiesOp 1 = .ok (.istore_n 3, 1) := by decide +kernel
theorem dX12_copiesOp_2 : decode cX12_copiesOp 2 = .ok (.iload_n 3, 1) := by decide +kernel
theorem dX12_copiesOp_3 : decode cX12_copiesOp 3 = .ok (.iconst 2, 1) := by decide +kernel
theorem dX12_copiesOp_4 : decode cX12_copiesOp 4 = .ok (.aload_n 0, 1) := by decide +kernel
theorem dX12_copiesOp_5 : decode cX12_copiesOp 5 = .ok (.getfield 69, 3) := by decide +kernel
theorem dX12_copiesOp_8 : decode cX12_copiesOp 8 = .ok (.iload_n 2, 1) := by decide +kernel
theorem dX12_copiesOp_9 : decode cX12_copiesOp 9 = .ok (.iaload, 1) := by decide +kernel
theorem dX12_copiesOp_10 : decode cX12_copiesOp 10 = .ok (.iadd, 1) := by decide +kernel
theorem dX12_copiesOp_11 : decode cX12_copiesOp 11 = .ok (.if_icmp .ge 25, 3) := by decide +kernel
theorem dX12_copiesOp_14 : decode cX12_copiesOp 14 = .ok (.aload_n 0, 1) := by decide +kernel
theorem dX12_copiesOp_15 : decode cX12_copiesOp 15 = .ok (.getfield 69, 3) := by decide +kernel
theorem dX12_copiesOp_18 : decode cX12_copiesOp 18 = .ok (.iload_n 1, 1) := by decide +kernel
theorem dX12_copiesOp_19 : decode cX12_copiesOp 19 = .ok (.iload_n 3, 1) := by decide +kernel
theorem dX12_copiesOp_20 : decode cX12_copiesOp 20 = .ok (.iadd, 1) := by decide +kernel
theorem dX12_copiesOp_21 : decode cX12_copiesOp 21 = .ok (.aload_n 0, 1) := by decide +kernel
theorem dX12_copiesOp_22 : decode cX12_copiesOp 22 = .ok (.getfield 69, 3) := by decide +kernel
theorem dX12_copiesOp_25 : decode cX12_copiesOp 25 = .ok (.iload_n 2, 1) := by decide +kernel
theorem dX12_copiesOp_26 : decode cX12_copiesOp 26 = .ok (.iload_n 3, 1) := by decide +kernel
theorem dX12_copiesOp_27 : decode cX12_copiesOp 27 = .ok (.iadd, 1) := by decide +kernel
theorem dX12_copiesOp_28 : decode cX12_copiesOp 28 = .ok (.iaload, 1) := by decide +kernel
theorem dX12_copiesOp_29 : decode cX12_copiesOp 29 = .ok (.iastore, 1) := by decide +kernel
theorem dX12_copiesOp_30 : decode cX12_copiesOp 30 = .ok (.iinc 3 1, 3) := by decide +kernel
theorem dX12_copiesOp_33 : decode cX12_copiesOp 33 = .ok (.goto (-31), 3) := by decide +kernel
theorem dX12_copiesOp_36 : decode cX12_copiesOp 36 = .ok (.return_, 1) := by decide +kernel
theorem dX12_isAhead_0 : decode cX12_isAhead 0 = .ok (.aload_n 0, 1) := by decide +kernel
theorem dX12_isAhead_1 : decode cX12_isAhead 1 = .ok (.getfield 230, 3) := by decide +kernel
theorem dX12_isAhead_4 : decode cX12_isAhead 4 = .ok (.ifCond .ne 16, 3) := by decide +kernel
theorem dX12_isAhead_7 : decode cX12_isAhead 7 = .ok (.iload_n 1, 1) := by decide +kernel
theorem dX12_isAhead_8 : decode cX12_isAhead 8 = .ok (.iload_n 2, 1) := by decide +kernel
theorem dX12_isAhead_9 : decode cX12_isAhead 9 = .ok (.if_icmp .ge 7, 3) := by decide +kernel
theorem dX12_isAhead_12 : decode cX12_isAhead 12 = .ok (.iconst 1, 1) := by decide +kernel
theorem dX12_isAhead_13 : decode cX12_isAhead 13 = .ok (.goto 25, 3) := by decide +kernel
theorem dX12_isAhead_16 : decode cX12_isAhead 16 = .ok (.iconst 0, 1) := by decide +kernel
theorem dX12_isAhead_17 : decode cX12_isAhead 17 = .ok (.goto 21, 3) := by decide +kernel
theorem dX12_isAhead_20 : decode cX12_isAhead 20 = .ok (.aload_n 0, 1) := by decide +kernel
theorem dX12_isAhead_21 : decode cX12_isAhead 21 = .ok (.getfield 230, 3) := by decide +kernel
theorem dX12_isAhead_24 : decode cX12_isAhead 24 = .ok (.iconst 1, 1) := by decide +kernel
theorem dX12_isAhead_25 : decode cX12_isAhead 25 = .ok (.if_icmp .ne 12, 3) := by decide +kernel
theorem dX12_isAhead_28 : decode cX12_isAhead 28 = .ok (.iload_n 1, 1) := by decide +kernel
theorem dX12_isAhead_29 : decode cX12_isAhead 29 = .ok (.iload_n 2, 1) := by decide +kernel
theorem dX12_isAhead_30 : decode cX12_isAhead 30 = .ok (.if_icmp .le 7, 3) := by decide +kernel
theorem dX12_isAhead_33 : decode cX12_isAhead 33 = .ok (.iconst 1, 1) := by decide +kernel
theorem dX12_isAhead_34 : decode cX12_isAhead 34 = .ok (.goto 4, 3) := by decide +kernel
theorem dX12_isAhead_37 : decode cX12_isAhead 37 = .ok (.iconst 0, 1) := by decide +kernel
theorem dX12_isAhead_38 : decode cX12_isAhead 38 = .ok (.ireturn, 1) := by decide +kernel
theorem dX12_entryAt_0 : decode cX12_entryAt 0 = .ok (.iload_n 1, 1) := by decide +kernel
theorem dX12_entryAt_1 : decode cX12_entryAt 1 = .ok (.istore_n 3, 1) := by decide +kernel
theorem dX12_entryAt_2 : decode cX12_entryAt 2 = .ok (.iconst 0, 1) := by decide +kernel
theorem dX12_entryAt_3 : decode cX12_entryAt 3 = .ok (.istore 4, 2) := by decide +kernel
theorem dX12_entryAt_5 : decode cX12_entryAt 5 = .ok (.iload 4, 2) := by decide +kernel
theorem dX12_entryAt_7 : decode cX12_entryAt 7 = .ok (.iload_n 2, 1) := by decide +kernel
theorem dX12_entryAt_8 : decode cX12_entryAt 8 = .ok (.if_icmp .ge 20, 3) := by decide +kernel
theorem dX12_entryAt_11 : decode cX12_entryAt 11 = .ok (.iload_n 3, 1) := by decide +kernel
theorem dX12_entryAt_12 : decode cX12_entryAt 12 = .ok (.iconst 3, 1) := by decide +kernel
theorem dX12_entryAt_13 : decode cX12_entryAt 13 = .ok (.aload_n 0, 1) := by decide +kernel
theorem dX12_entryAt_14 : decode cX12_entryAt 14 = .ok (.getfield 69, 3) := by decide +kernel
theorem dX12_entryAt_17 : decode cX12_entryAt 17 = .ok (.iload_n 3, 1) := by decide +kernel
theorem dX12_entryAt_18 : decode cX12_entryAt 18 = .ok (.iaload, 1) := by decide +kernel
theorem dX12_entryAt_19 : decode cX12_entryAt 19 = .ok (.iadd, 1) := by decide +kernel
theorem dX12_entryAt_20 : decode cX12_entryAt 20 = .ok (.iadd, 1) := by decide +kernel
theorem dX12_entryAt_21 : decode cX12_entryAt 21 = .ok (.istore_n 3, 1) := by decide +kernel
theorem dX12_entryAt_22 : decode cX12_entryAt 22 = .ok (.iinc 4 1, 3) := by decide +kernel
theorem dX12_entryAt_25 : decode cX12_entryAt 25 = .ok (.goto (-20), 3) := by decide +kernel
theorem dX12_entryAt_28 : decode cX12_entryAt 28 = .ok (.iload_n 3, 1) := by decide +kernel
theorem dX12_entryAt_29 : decode cX12_entryAt 29 = .ok (.ireturn, 1) := by decide +kernel
theorem dX12_dropsOldest_0 : decode cX12_dropsOldest 0 = .ok (.aload_n 0, 1) := by decide +kernel
theorem dX12_dropsOldest_1 : decode cX12_dropsOldest 1 = .ok (.iload_n 1, 1) := by decide +kernel
theorem dX12_dropsOldest_2 : decode cX12_dropsOldest 2 = .ok (.iconst 1, 1) := by decide +kernel
theorem dX12_dropsOldest_3 : decode cX12_dropsOldest 3 = .ok (.invokevirtual 233, 3) := by decide +kernel
theorem dX12_dropsOldest_6 : decode cX12_dropsOldest 6 = .ok (.istore_n 3, 1) := by decide +kernel
theorem dX12_dropsOldest_7 : decode cX12_dropsOldest 7 = .ok (.aload_n 0, 1) := by decide +kernel
theorem dX12_dropsOldest_8 : decode cX12_dropsOldest 8 = .ok (.iload_n 1, 1) := by decide +kernel
theorem dX12_dropsOldest_9 : decode cX12_dropsOldest 9 = .ok (.iload_n 2, 1) := by decide +kernel
theorem dX12_dropsOldest_10 : decode cX12_dropsOldest 10 = .ok (.invokevirtual 233, 3) := by decide +kernel
theorem dX12_dropsOldest_13 : decode cX12_dropsOldest 13 = .ok (.istore 4, 2) := by decide +kernel
theorem dX12_dropsOldest_15 : decode cX12_dropsOldest 15 = .ok (.iload_n 3, 1) := by decide +kernel
theorem dX12_dropsOldest_16 : decode cX12_dropsOldest 16 = .ok (.istore 5, 2) := by decide +kernel
theorem dX12_dropsOldest_18 : decode cX12_dropsOldest 18 = .ok (.iload 5, 2) := by decide +kernel
theorem dX12_dropsOldest_20 : decode cX12_dropsOldest 20 = .ok (.iload 4, 2) := by decide +kernel
theorem dX12_dropsOldest_22 : decode cX12_dropsOldest 22 = .ok (.if_icmp .ge 27, 3) := by decide +kernel
theorem dX12_dropsOldest_25 : decode cX12_dropsOldest 25 = .ok (.aload_n 0, 1) := by decide +kernel
theorem dX12_dropsOldest_26 : decode cX12_dropsOldest 26 = .ok (.getfield 69, 3) := by decide +kernel
theorem dX12_dropsOldest_29 : decode cX12_dropsOldest 29 = .ok (.iload_n 1, 1) := by decide +kernel
theorem dX12_dropsOldest_30 : decode cX12_dropsOldest 30 = .ok (.iload 5, 2) := by decide +kernel
theorem dX12_dropsOldest_32 : decode cX12_dropsOldest 32 = .ok (.iadd, 1) := by decide +kernel
theorem dX12_dropsOldest_33 : decode cX12_dropsOldest 33 = .ok (.iload_n 3, 1) := by decide +kernel
theorem dX12_dropsOldest_34 : decode cX12_dropsOldest 34 = .ok (.isub, 1) := by decide +kernel
theorem dX12_dropsOldest_35 : decode cX12_dropsOldest 35 = .ok (.aload_n 0, 1) := by decide +kernel
theorem dX12_dropsOldest_36 : decode cX12_dropsOldest 36 = .ok (.getfield 69, 3) := by decide +kernel
theorem dX12_dropsOldest_39 : decode cX12_dropsOldest 39 = .ok (.iload 5, 2) := by decide +kernel
theorem dX12_dropsOldest_41 : decode cX12_dropsOldest 41 = .ok (.iaload, 1) := by decide +kernel
theorem dX12_dropsOldest_42 : decode cX12_dropsOldest 42 = .ok (.iastore, 1) := by decide +kernel
theorem dX12_dropsOldest_43 : decode cX12_dropsOldest 43 = .ok (.iinc 5 1, 3) := by decide +kernel
theorem dX12_dropsOldest_46 : decode cX12_dropsOldest 46 = .ok (.goto (-28), 3) := by decide +kernel
theorem dX12_dropsOldest_49 : decode cX12_dropsOldest 49 = .ok (.return_, 1) := by decide +kernel
theorem dX12_pushes_0 : decode cX12_pushes 0 = .ok (.iload_n 1, 1) := by decide +kernel
theorem dX12_pushes_1 : decode cX12_pushes 1 = .ok (.iload_n 2, 1) := by decide +kernel
theorem dX12_pushes_2 : decode cX12_pushes 2 = .ok (.invokestatic 237, 3) := by decide +kernel
theorem dX12_pushes_5 : decode cX12_pushes 5 = .ok (.istore 4, 2) := by decide +kernel
theorem dX12_pushes_7 : decode cX12_pushes 7 = .ok (.iload_n 1, 1) := by decide +kernel
theorem dX12_pushes_8 : decode cX12_pushes 8 = .ok (.iload_n 3, 1) := by decide +kernel
theorem dX12_pushes_9 : decode cX12_pushes 9 = .ok (.invokestatic 237, 3) := by decide +kernel
theorem dX12_pushes_12 : decode cX12_pushes 12 = .ok (.istore 5, 2) := by decide +kernel
theorem dX12_pushes_14 : decode cX12_pushes 14 = .ok (.aload_n 0, 1) := by decide +kernel
theorem dX12_pushes_15 : decode cX12_pushes 15 = .ok (.getfield 69, 3) := by decide +kernel
theorem dX12_pushes_18 : decode cX12_pushes 18 = .ok (.iload 5, 2) := by decide +kernel
theorem dX12_pushes_20 : decode cX12_pushes 20 = .ok (.iaload, 1) := by decide +kernel
theorem dX12_pushes_21 : decode cX12_pushes 21 = .ok (.bipush 8, 2) := by decide +kernel
theorem dX12_pushes_23 : decode cX12_pushes 23 = .ok (.if_icmp .ne 22, 3) := by decide +kernel
theorem dX12_pushes_26 : decode cX12_pushes 26 = .ok (.aload_n 0, 1) := by decide +kernel
theorem dX12_pushes_27 : decode cX12_pushes 27 = .ok (.iload 4, 2) := by decide +kernel
theorem dX12_pushes_29 : decode cX12_pushes 29 = .ok (.bipush 8, 2) := by decide +kernel
theorem dX12_pushes_31 : decode cX12_pushes 31 = .ok (.invokevirtual 240, 3) := by decide +kernel
theorem dX12_pushes_34 : decode cX12_pushes 34 = .ok (.aload_n 0, 1) := by decide +kernel
theorem dX12_pushes_35 : decode cX12_pushes 35 = .ok (.getfield 69, 3) := by decide +kernel
theorem dX12_pushes_38 : decode cX12_pushes 38 = .ok (.iload 5, 2) := by decide +kernel
theorem dX12_pushes_40 : decode cX12_pushes 40 = .ok (.dup2, 1) := by decide +kernel
theorem dX12_pushes_41 : decode cX12_pushes 41 = .ok (.iaload, 1) := by decide +kernel
theorem dX12_pushes_42 : decode cX12_pushes 42 = .ok (.iconst 1, 1) := by decide +kernel
theorem dX12_pushes_43 : decode cX12_pushes 43 = .ok (.isub, 1) := by decide +kernel
theorem dX12_pushes_44 : decode cX12_pushes 44 = .ok (.iastore, 1) := by decide +kernel
theorem dX12_pushes_45 : decode cX12_pushes 45 = .ok (.aload_n 0, 1) := by decide +kernel
theorem dX12_pushes_46 : decode cX12_pushes 46 = .ok (.iload 4, 2) := by decide +kernel
theorem dX12_pushes_48 : decode cX12_pushes 48 = .ok (.aload_n 0, 1) := by decide +kernel
theorem dX12_pushes_49 : decode cX12_pushes 49 = .ok (.getfield 69, 3) := by decide +kernel
theorem dX12_pushes_52 : decode cX12_pushes 52 = .ok (.iload 5, 2) := by decide +kernel
theorem dX12_pushes_54 : decode cX12_pushes 54 = .ok (.iaload, 1) := by decide +kernel
theorem dX12_pushes_55 : decode cX12_pushes 55 = .ok (.invokevirtual 233, 3) := by decide +kernel
theorem dX12_pushes_58 : decode cX12_pushes 58 = .ok (.istore 6, 2) := by decide +kernel
theorem dX12_pushes_60 : decode cX12_pushes 60 = .ok (.aload_n 0, 1) := by decide +kernel
theorem dX12_pushes_61 : decode cX12_pushes 61 = .ok (.iload 6, 2) := by decide +kernel
theorem dX12_pushes_63 : decode cX12_pushes 63 = .ok (.iconst 1, 1) := by decide +kernel
theorem dX12_pushes_64 : decode cX12_pushes 64 = .ok (.iadd, 1) := by decide +kernel
theorem dX12_pushes_65 : decode cX12_pushes 65 = .ok (.invokevirtual 243, 3) := by decide +kernel
theorem dX12_pushes_68 : decode cX12_pushes 68 = .ok (.aload_n 0, 1) := by decide +kernel
theorem dX12_pushes_69 : decode cX12_pushes 69 = .ok (.getfield 69, 3) := by decide +kernel
theorem dX12_pushes_72 : decode cX12_pushes 72 = .ok (.iload 6, 2) := by decide +kernel
theorem dX12_pushes_74 : decode cX12_pushes 74 = .ok (.aload_n 0, 1) := by decide +kernel
theorem dX12_pushes_75 : decode cX12_pushes 75 = .ok (.getfield 69, 3) := by decide +kernel
theorem dX12_pushes_78 : decode cX12_pushes 78 = .ok (.iload 6, 2) := by decide +kernel
theorem dX12_pushes_80 : decode cX12_pushes 80 = .ok (.iconst 1, 1) := by decide +kernel
theorem dX12_pushes_81 : decode cX12_pushes 81 = .ok (.iadd, 1) := by decide +kernel
theorem dX12_pushes_82 : decode cX12_pushes 82 = .ok (.iaload, 1) := by decide +kernel
theorem dX12_pushes_83 : decode cX12_pushes 83 = .ok (.iastore, 1) := by decide +kernel
theorem dX12_pushes_84 : decode cX12_pushes 84 = .ok (.aload_n 0, 1) := by decide +kernel
theorem dX12_pushes_85 : decode cX12_pushes 85 = .ok (.getfield 69, 3) := by decide +kernel
theorem dX12_pushes_88 : decode cX12_pushes 88 = .ok (.iload 5, 2) := by decide +kernel
theorem dX12_pushes_90 : decode cX12_pushes 90 = .ok (.dup2, 1) := by decide +kernel
theorem dX12_pushes_91 : decode cX12_pushes 91 = .ok (.iaload, 1) := by decide +kernel
theorem dX12_pushes_92 : decode cX12_pushes 92 = .ok (.iconst 1, 1) := by decide +kernel
theorem dX12_pushes_93 : decode cX12_pushes 93 = .ok (.iadd, 1) := by decide +kernel
theorem dX12_pushes_94 : decode cX12_pushes 94 = .ok (.iastore, 1) := by decide +kernel
theorem dX12_pushes_95 : decode cX12_pushes 95 = .ok (.return_, 1) := by decide +kernel
theorem dX12_carriesStack_0 : decode cX12_carriesStack 0 = .ok (.iload_n 1, 1) := by decide +kernel
theorem dX12_carriesStack_1 : decode cX12_carriesStack 1 = .ok (.iload_n 3, 1) := by decide +kernel
theorem dX12_carriesStack_2 : decode cX12_carriesStack 2 = .ok (.invokestatic 237, 3) := by decide +kernel
theorem dX12_carriesStack_5 : decode cX12_carriesStack 5 = .ok (.istore 5, 2) := by decide +kernel
theorem dX12_carriesStack_7 : decode cX12_carriesStack 7 = .ok (.iconst 0, 1) := by decide +kernel
theorem dX12_carriesStack_8 : decode cX12_carriesStack 8 = .ok (.istore 6, 2) := by decide +kernel
theorem dX12_carriesStack_10 : decode cX12_carriesStack 10 = .ok (.iload 6, 2) := by decide +kernel
theorem dX12_carriesStack_12 : decode cX12_carriesStack 12 = .ok (.aload_n 0, 1) := by decide +kernel
theorem dX12_carriesStack_13 : decode cX12_carriesStack 13 = .ok (.getfield 198, 3) := by decide +kernel
theorem dX12_carriesStack_16 : decode cX12_carriesStack 16 = .ok (.if_icmp .ge 23, 3) := by decide +kernel
theorem dX12_carriesStack_19 : decode cX12_carriesStack 19 = .ok (.aload_n 0, 1) := by decide +kernel
theorem dX12_carriesStack_20 : decode cX12_carriesStack 20 = .ok (.getfield 90, 3) := by decide +kernel
theorem dX12_carriesStack_23 : decode cX12_carriesStack 23 = .ok (.iload 6, 2) := by decide +kernel
theorem dX12_carriesStack_25 : decode cX12_carriesStack 25 = .ok (.aload_n 0, 1) := by decide +kernel
theorem dX12_carriesStack_26 : decode cX12_carriesStack 26 = .ok (.getfield 54, 3) := by decide +kernel
theorem dX12_carriesStack_29 : decode cX12_carriesStack 29 = .ok (.iload 6, 2) := by decide +kernel
theorem dX12_carriesStack_31 : decode cX12_carriesStack 31 = .ok (.iaload, 1) := by decide +kernel
theorem dX12_carriesStack_32 : decode cX12_carriesStack 32 = .ok (.iastore, 1) := by decide +kernel
theorem dX12_carriesStack_33 : decode cX12_carriesStack 33 = .ok (.iinc 6 1, 3) := by decide +kernel
theorem dX12_carriesStack_36 : decode cX12_carriesStack 36 = .ok (.goto (-26), 3) := by decide +kernel
theorem dX12_carriesStack_39 : decode cX12_carriesStack 39 = .ok (.aload_n 0, 1) := by decide +kernel
theorem dX12_carriesStack_40 : decode cX12_carriesStack 40 = .ok (.getfield 198, 3) := by decide +kernel
theorem dX12_carriesStack_43 : decode cX12_carriesStack 43 = .ok (.istore 6, 2) := by decide +kernel
theorem dX12_carriesStack_45 : decode cX12_carriesStack 45 = .ok (.aload_n 0, 1) := by decide +kernel
theorem dX12_carriesStack_46 : decode cX12_carriesStack 46 = .ok (.iload_n 1, 1) := by decide +kernel
theorem dX12_carriesStack_47 : decode cX12_carriesStack 47 = .ok (.iload 4, 2) := by decide +kernel
theorem dX12_carriesStack_49 : decode cX12_carriesStack 49 = .ok (.invokevirtual 246, 3) := by decide +kernel
theorem dX12_carriesStack_52 : decode cX12_carriesStack 52 = .ok (.iconst 1, 1) := by decide +kernel
theorem dX12_carriesStack_53 : decode cX12_carriesStack 53 = .ok (.isub, 1) := by decide +kernel
theorem dX12_carriesStack_54 : decode cX12_carriesStack 54 = .ok (.istore 7, 2) := by decide +kernel
theorem dX12_carriesStack_56 : decode cX12_carriesStack 56 = .ok (.iload 7, 2) := by decide +kernel
theorem dX12_carriesStack_58 : decode cX12_carriesStack 58 = .ok (.ifCond .lt 49, 3) := by decide +kernel
theorem dX12_carriesStack_61 : decode cX12_carriesStack 61 = .ok (.aload_n 0, 1) := by decide +kernel
theorem dX12_carriesStack_62 : decode cX12_carriesStack 62 = .ok (.iload 5, 2) := by decide +kernel
theorem dX12_carriesStack_64 : decode cX12_carriesStack 64 = .ok (.iload 7, 2) := by decide +kernel
theorem dX12_carriesStack_66 : decode cX12_carriesStack 66 = .ok (.invokevirtual 233, 3) := by decide +kernel
theorem dX12_carriesStack_69 : decode cX12_carriesStack 69 = .ok (.istore 8, 2) := by decide +kernel
theorem dX12_carriesStack_71 : decode cX12_carriesStack 71 = .ok (.aload_n 0, 1) := by decide +kernel
theorem dX12_carriesStack_72 : decode cX12_carriesStack 72 = .ok (.iload 8, 2) := by decide +kernel
theorem dX12_carriesStack_74 : decode cX12_carriesStack 74 = .ok (.iconst 1, 1) := by decide +kernel
theorem dX12_carriesStack_75 : decode cX12_carriesStack 75 = .ok (.iadd, 1) := by decide +kernel
theorem dX12_carriesStack_76 : decode cX12_carriesStack 76 = .ok (.invokevirtual 249, 3) := by decide +kernel
theorem dX12_carriesStack_79 : decode cX12_carriesStack 79 = .ok (.aload_n 0, 1) := by decide +kernel
theorem dX12_carriesStack_80 : decode cX12_carriesStack 80 = .ok (.aload_n 0, 1) := by decide +kernel
theorem dX12_carriesStack_81 : decode cX12_carriesStack 81 = .ok (.iload_n 1, 1) := by decide +kernel
theorem dX12_carriesStack_82 : decode cX12_carriesStack 82 = .ok (.iload_n 2, 1) := by decide +kernel
theorem dX12_carriesStack_83 : decode cX12_carriesStack 83 = .ok (.invokevirtual 252, 3) := by decide +kernel
theorem dX12_carriesStack_86 : decode cX12_carriesStack 86 = .ok (.invokevirtual 256, 3) := by decide +kernel
theorem dX12_carriesStack_89 : decode cX12_carriesStack 89 = .ok (.aload_n 0, 1) := by decide +kernel
theorem dX12_carriesStack_90 : decode cX12_carriesStack 90 = .ok (.iload 8, 2) := by decide +kernel
theorem dX12_carriesStack_92 : decode cX12_carriesStack 92 = .ok (.iconst 1, 1) := by decide +kernel
theorem dX12_carriesStack_93 : decode cX12_carriesStack 93 = .ok (.iadd, 1) := by decide +kernel
theorem dX12_carriesStack_94 : decode cX12_carriesStack 94 = .ok (.invokevirtual 243, 3) := by decide +kernel
theorem dX12_carriesStack_97 : decode cX12_carriesStack 97 = .ok (.aload_n 0, 1) := by decide +kernel
theorem dX12_carriesStack_98 : decode cX12_carriesStack 98 = .ok (.invokevirtual 260, 3) := by decide +kernel
theorem dX12_carriesStack_101 : decode cX12_carriesStack 101 = .ok (.iinc 7 (-1), 3) := by decide +kernel
theorem dX12_carriesStack_104 : decode cX12_carriesStack 104 = .ok (.goto (-48), 3) := by decide +kernel
theorem dX12_carriesStack_107 : decode cX12_carriesStack 107 = .ok (.iconst 0, 1) := by decide +kernel
theorem dX12_carriesStack_108 : decode cX12_carriesStack 108 = .ok (.istore 7, 2) := by decide +kernel
theorem dX12_carriesStack_110 : decode cX12_carriesStack 110 = .ok (.iload 7, 2) := by decide +kernel
theorem dX12_carriesStack_112 : decode cX12_carriesStack 112 = .ok (.iload 6, 2) := by decide +kernel
theorem dX12_carriesStack_114 : decode cX12_carriesStack 114 = .ok (.if_icmp .ge 23, 3) := by decide +kernel
theorem dX12_carriesStack_117 : decode cX12_carriesStack 117 = .ok (.aload_n 0, 1) := by decide +kernel
theorem dX12_carriesStack_118 : decode cX12_carriesStack 118 = .ok (.getfield 54, 3) := by decide +kernel
theorem dX12_carriesStack_121 : decode cX12_carriesStack 121 = .ok (.iload 7, 2) := by decide +kernel
theorem dX12_carriesStack_123 : decode cX12_carriesStack 123 = .ok (.aload_n 0, 1) := by decide +kernel
theorem dX12_carriesStack_124 : decode cX12_carriesStack 124 = .ok (.getfield 90, 3) := by decide +kernel
theorem dX12_carriesStack_127 : decode cX12_carriesStack 127 = .ok (.iload 7, 2) := by decide +kernel
theorem dX12_carriesStack_129 : decode cX12_carriesStack 129 = .ok (.iaload, 1) := by decide +kernel
theorem dX12_carriesStack_130 : decode cX12_carriesStack 130 = .ok (.iastore, 1) := by decide +kernel
theorem dX12_carriesStack_131 : decode cX12_carriesStack 131 = .ok (.iinc 7 1, 3) := by decide +kernel
theorem dX12_carriesStack_134 : decode cX12_carriesStack 134 = .ok (.goto (-24), 3) := by decide +kernel
theorem dX12_carriesStack_137 : decode cX12_carriesStack 137 = .ok (.aload_n 0, 1) := by decide +kernel
theorem dX12_carriesStack_138 : decode cX12_carriesStack 138 = .ok (.iload 6, 2) := by decide +kernel
theorem dX12_carriesStack_140 : decode cX12_carriesStack 140 = .ok (.putfield 198, 3) := by decide +kernel
theorem dX12_carriesStack_143 : decode cX12_carriesStack 143 = .ok (.return_, 1) := by decide +kernel
theorem dX12_marksCarried_0 : decode cX12_marksCarried 0 = .ok (.iconst 0, 1) := by decide +kernel
theorem dX12_marksCarried_1 : decode cX12_marksCarried 1 = .ok (.istore 4, 2) := by decide +kernel
theorem dX12_marksCarried_3 : decode cX12_marksCarried 3 = .ok (.iload 4, 2) := by decide +kernel
theorem dX12_marksCarried_5 : decode cX12_marksCarried 5 = .ok (.aload_n 0, 1) := by decide +kernel
theorem dX12_marksCarried_6 : decode cX12_marksCarried 6 = .ok (.iload_n 1, 1) := by decide +kernel
theorem dX12_marksCarried_7 : decode cX12_marksCarried 7 = .ok (.iconst 2, 1) := by decide +kernel
theorem dX12_marksCarried_8 : decode cX12_marksCarried 8 = .ok (.invokevirtual 246, 3) := by decide +kernel
theorem dX12_marksCarried_11 : decode cX12_marksCarried 11 = .ok (.if_icmp .ge 132, 3) := by decide +kernel
theorem dX12_marksCarried_14 : decode cX12_marksCarried 14 = .ok (.iload_n 1, 1) := by decide +kernel
theorem dX12_marksCarried_15 : decode cX12_marksCarried 15 = .ok (.iconst 3, 1) := by decide +kernel
theorem dX12_marksCarried_16 : decode cX12_marksCarried 16 = .ok (.iconst 3, 1) := by decide +kernel
theorem dX12_marksCarried_17 : decode cX12_marksCarried 17 = .ok (.iload 4, 2) := by decide +kernel
theorem dX12_marksCarried_19 : decode cX12_marksCarried 19 = .ok (.imul, 1) := by decide +kernel
theorem dX12_marksCarried_20 : decode cX12_marksCarried 20 = .ok (.iadd, 1) := by decide +kernel
theorem dX12_marksCarried_21 : decode cX12_marksCarried 21 = .ok (.invokestatic 237, 3) := by decide +kernel
theorem dX12_marksCarried_24 : decode cX12_marksCarried 24 = .ok (.istore 5, 2) := by decide +kernel
theorem dX12_marksCarried_26 : decode cX12_marksCarried 26 = .ok (.aload_n 0, 1) := by decide +kernel
theorem dX12_marksCarried_27 : decode cX12_marksCarried 27 = .ok (.getfield 69, 3) := by decide +kernel
theorem dX12_marksCarried_30 : decode cX12_marksCarried 30 = .ok (.iload 5, 2) := by decide +kernel
theorem dX12_marksCarried_32 : decode cX12_marksCarried 32 = .ok (.iconst 2, 1) := by decide +kernel
theorem dX12_marksCarried_33 : decode cX12_marksCarried 33 = .ok (.iadd, 1) := by decide +kernel
theorem dX12_marksCarried_34 : decode cX12_marksCarried 34 = .ok (.iaload, 1) := by decide +kernel
theorem dX12_marksCarried_35 : decode cX12_marksCarried 35 = .ok (.istore 6, 2) := by decide +kernel
theorem dX12_marksCarried_37 : decode cX12_marksCarried 37 = .ok (.aload_n 0, 1) := by decide +kernel
theorem dX12_marksCarried_38 : decode cX12_marksCarried 38 = .ok (.getfield 69, 3) := by decide +kernel
theorem dX12_marksCarried_41 : decode cX12_marksCarried 41 = .ok (.iload 5, 2) := by decide +kernel
theorem dX12_marksCarried_43 : decode cX12_marksCarried 43 = .ok (.aload_n 2, 1) := by decide +kernel
theorem dX12_marksCarried_44 : decode cX12_marksCarried 44 = .ok (.iload_n 3, 1) := by decide +kernel
theorem dX12_marksCarried_45 : decode cX12_marksCarried 45 = .ok (.aload_n 0, 1) := by decide +kernel
theorem dX12_marksCarried_46 : decode cX12_marksCarried 46 = .ok (.getfield 69, 3) := by decide +kernel
theorem dX12_marksCarried_49 : decode cX12_marksCarried 49 = .ok (.iload 5, 2) := by decide +kernel
theorem dX12_marksCarried_51 : decode cX12_marksCarried 51 = .ok (.iaload, 1) := by decide +kernel
theorem dX12_marksCarried_52 : decode cX12_marksCarried 52 = .ok (.iload 6, 2) := by decide +kernel
theorem dX12_marksCarried_54 : decode cX12_marksCarried 54 = .ok (.iconst 2, 1) := by decide +kernel
theorem dX12_marksCarried_55 : decode cX12_marksCarried 55 = .ok (.irem, 1) := by decide +kernel
theorem dX12_marksCarried_56 : decode cX12_marksCarried 56 = .ok (.ifCond .ne 7, 3) := by decide +kernel
theorem dX12_marksCarried_59 : decode cX12_marksCarried 59 = .ok (.iconst 1, 1) := by decide +kernel
theorem dX12_marksCarried_60 : decode cX12_marksCarried 60 = .ok (.goto 4, 3) := by decide +kernel
theorem dX12_marksCarried_63 : decode cX12_marksCarried 63 = .ok (.iconst 0, 1) := by decide +kernel
theorem dX12_marksCarried_64 : decode cX12_marksCarried 64 = .ok (.invokestatic 263, 3) := by decide +kernel
theorem dX12_marksCarried_67 : decode cX12_marksCarried 67 = .ok (.iastore, 1) := by decide +kernel
theorem dX12_marksCarried_68 : decode cX12_marksCarried 68 = .ok (.aload_n 0, 1) := by decide +kernel
theorem dX12_marksCarried_69 : decode cX12_marksCarried 69 = .ok (.getfield 69, 3) := by decide +kernel
theorem dX12_marksCarried_72 : decode cX12_marksCarried 72 = .ok (.iload 5, 2) := by decide +kernel
theorem dX12_marksCarried_74 : decode cX12_marksCarried 74 = .ok (.iconst 1, 1) := by decide +kernel
theorem dX12_marksCarried_75 : decode cX12_marksCarried 75 = .ok (.iadd, 1) := by decide +kernel
theorem dX12_marksCarried_76 : decode cX12_marksCarried 76 = .ok (.aload_n 2, 1) := by decide +kernel
theorem dX12_marksCarried_77 : decode cX12_marksCarried 77 = .ok (.iload_n 3, 1) := by decide +kernel
theorem dX12_marksCarried_78 : decode cX12_marksCarried 78 = .ok (.aload_n 0, 1) := by decide +kernel
theorem dX12_marksCarried_79 : decode cX12_marksCarried 79 = .ok (.getfield 69, 3) := by decide +kernel
theorem dX12_marksCarried_82 : decode cX12_marksCarried 82 = .ok (.iload 5, 2) := by decide +kernel
theorem dX12_marksCarried_84 : decode cX12_marksCarried 84 = .ok (.iconst 1, 1) := by decide +kernel
theorem dX12_marksCarried_85 : decode cX12_marksCarried 85 = .ok (.iadd, 1) := by decide +kernel
theorem dX12_marksCarried_86 : decode cX12_marksCarried 86 = .ok (.iaload, 1) := by decide +kernel
theorem dX12_marksCarried_87 : decode cX12_marksCarried 87 = .ok (.iload 6, 2) := by decide +kernel
theorem dX12_marksCarried_89 : decode cX12_marksCarried 89 = .ok (.iconst 1, 1) := by decide +kernel
theorem dX12_marksCarried_90 : decode cX12_marksCarried 90 = .ok (.if_icmp .le 7, 3) := by decide +kernel
theorem dX12_marksCarried_93 : decode cX12_marksCarried 93 = .ok (.iconst 1, 1) := by decide +kernel
theorem dX12_marksCarried_94 : decode cX12_marksCarried 94 = .ok (.goto 4, 3) := by decide +kernel
theorem dX12_marksCarried_97 : decode cX12_marksCarried 97 = .ok (.iconst 0, 1) := by decide +kernel
theorem dX12_marksCarried_98 : decode cX12_marksCarried 98 = .ok (.invokestatic 263, 3) := by decide +kernel
theorem dX12_marksCarried_101 : decode cX12_marksCarried 101 = .ok (.iastore, 1) := by decide +kernel
theorem dX12_marksCarried_102 : decode cX12_marksCarried 102 = .ok (.aload_n 0, 1) := by decide +kernel
theorem dX12_marksCarried_103 : decode cX12_marksCarried 103 = .ok (.getfield 69, 3) := by decide +kernel
theorem dX12_marksCarried_106 : decode cX12_marksCarried 106 = .ok (.iload 5, 2) := by decide +kernel
theorem dX12_marksCarried_108 : decode cX12_marksCarried 108 = .ok (.iconst 1, 1) := by decide +kernel
theorem dX12_marksCarried_109 : decode cX12_marksCarried 109 = .ok (.iadd, 1) := by decide +kernel
theorem dX12_marksCarried_110 : decode cX12_marksCarried 110 = .ok (.iaload, 1) := by decide +kernel
theorem dX12_marksCarried_111 : decode cX12_marksCarried 111 = .ok (.aload_n 0, 1) := by decide +kernel
theorem dX12_marksCarried_112 : decode cX12_marksCarried 112 = .ok (.getfield 69, 3) := by decide +kernel
theorem dX12_marksCarried_115 : decode cX12_marksCarried 115 = .ok (.iload 5, 2) := by decide +kernel
theorem dX12_marksCarried_117 : decode cX12_marksCarried 117 = .ok (.iaload, 1) := by decide +kernel
theorem dX12_marksCarried_118 : decode cX12_marksCarried 118 = .ok (.if_icmp .ge 19, 3) := by decide +kernel
theorem dX12_marksCarried_121 : decode cX12_marksCarried 121 = .ok (.aload_n 0, 1) := by decide +kernel
theorem dX12_marksCarried_122 : decode cX12_marksCarried 122 = .ok (.getfield 69, 3) := by decide +kernel
theorem dX12_marksCarried_125 : decode cX12_marksCarried 125 = .ok (.iload 5, 2) := by decide +kernel
theorem dX12_marksCarried_127 : decode cX12_marksCarried 127 = .ok (.iconst 1, 1) := by decide +kernel
theorem dX12_marksCarried_128 : decode cX12_marksCarried 128 = .ok (.iadd, 1) := by decide +kernel
theorem dX12_marksCarried_129 : decode cX12_marksCarried 129 = .ok (.aload_n 0, 1) := by decide +kernel
theorem dX12_marksCarried_130 : decode cX12_marksCarried 130 = .ok (.getfield 69, 3) := by decide +kernel
theorem dX12_marksCarried_133 : decode cX12_marksCarried 133 = .ok (.iload 5, 2) := by decide +kernel
theorem dX12_marksCarried_135 : decode cX12_marksCarried 135 = .ok (.iaload, 1) := by decide +kernel
theorem dX12_marksCarried_136 : decode cX12_marksCarried 136 = .ok (.iastore, 1) := by decide +kernel
theorem dX12_marksCarried_137 : decode cX12_marksCarried 137 = .ok (.iinc 4 1, 3) := by decide +kernel
theorem dX12_marksCarried_140 : decode cX12_marksCarried 140 = .ok (.goto (-137), 3) := by decide +kernel
theorem dX12_marksCarried_143 : decode cX12_marksCarried 143 = .ok (.return_, 1) := by decide +kernel
theorem dX12_textChanged_0 : decode cX12_textChanged 0 = .ok (.aload_n 0, 1) := by decide +kernel
theorem dX12_textChanged_1 : decode cX12_textChanged 1 = .ok (.getfield 69, 3) := by decide +kernel
theorem dX12_textChanged_4 : decode cX12_textChanged 4 = .ok (.iload_n 1, 1) := by decide +kernel
theorem dX12_textChanged_5 : decode cX12_textChanged 5 = .ok (.bipush 21, 2) := by decide +kernel
theorem dX12_textChanged_7 : decode cX12_textChanged 7 = .ok (.invokestatic 237, 3) := by decide +kernel
theorem dX12_textChanged_10 : decode cX12_textChanged 10 = .ok (.aload_n 0, 1) := by decide +kernel
theorem dX12_textChanged_11 : decode cX12_textChanged 11 = .ok (.aload_n 0, 1) := by decide +kernel
theorem dX12_textChanged_12 : decode cX12_textChanged 12 = .ok (.getfield 69, 3) := by decide +kernel
theorem dX12_textChanged_15 : decode cX12_textChanged 15 = .ok (.iload_n 1, 1) := by decide +kernel
theorem dX12_textChanged_16 : decode cX12_textChanged 16 = .ok (.bipush 24, 2) := by decide +kernel
theorem dX12_textChanged_18 : decode cX12_textChanged 18 = .ok (.invokestatic 237, 3) := by decide +kernel
theorem dX12_textChanged_21 : decode cX12_textChanged 21 = .ok (.aload_n 2, 1) := by decide +kernel
theorem dX12_textChanged_22 : decode cX12_textChanged 22 = .ok (.iload_n 3, 1) := by decide +kernel
theorem dX12_textChanged_23 : decode cX12_textChanged 23 = .ok (.invokevirtual 267, 3) := by decide +kernel
theorem dX12_textChanged_26 : decode cX12_textChanged 26 = .ok (.iastore, 1) := by decide +kernel
theorem dX12_textChanged_27 : decode cX12_textChanged 27 = .ok (.aload_n 0, 1) := by decide +kernel
theorem dX12_textChanged_28 : decode cX12_textChanged 28 = .ok (.getfield 69, 3) := by decide +kernel
theorem dX12_textChanged_31 : decode cX12_textChanged 31 = .ok (.iload_n 1, 1) := by decide +kernel
theorem dX12_textChanged_32 : decode cX12_textChanged 32 = .ok (.iconst 1, 1) := by decide +kernel
theorem dX12_textChanged_33 : decode cX12_textChanged 33 = .ok (.invokestatic 237, 3) := by decide +kernel
theorem dX12_textChanged_36 : decode cX12_textChanged 36 = .ok (.aload_n 2, 1) := by decide +kernel
theorem dX12_textChanged_37 : decode cX12_textChanged 37 = .ok (.iload_n 3, 1) := by decide +kernel
theorem dX12_textChanged_38 : decode cX12_textChanged 38 = .ok (.aload_n 0, 1) := by decide +kernel
theorem dX12_textChanged_39 : decode cX12_textChanged 39 = .ok (.iload_n 1, 1) := by decide +kernel
theorem dX12_textChanged_40 : decode cX12_textChanged 40 = .ok (.iconst 1, 1) := by decide +kernel
theorem dX12_textChanged_41 : decode cX12_textChanged 41 = .ok (.invokevirtual 246, 3) := by decide +kernel
theorem dX12_textChanged_44 : decode cX12_textChanged 44 = .ok (.iload 4, 2) := by decide +kernel
theorem dX12_textChanged_46 : decode cX12_textChanged 46 = .ok (.invokestatic 263, 3) := by decide +kernel
theorem dX12_textChanged_49 : decode cX12_textChanged 49 = .ok (.iastore, 1) := by decide +kernel
theorem dX12_textChanged_50 : decode cX12_textChanged 50 = .ok (.aload_n 0, 1) := by decide +kernel
theorem dX12_textChanged_51 : decode cX12_textChanged 51 = .ok (.iload_n 1, 1) := by decide +kernel
theorem dX12_textChanged_52 : decode cX12_textChanged 52 = .ok (.aload_n 2, 1) := by decide +kernel
theorem dX12_textChanged_53 : decode cX12_textChanged 53 = .ok (.iload_n 3, 1) := by decide +kernel
theorem dX12_textChanged_54 : decode cX12_textChanged 54 = .ok (.invokevirtual 270, 3) := by decide +kernel
theorem dX12_textChanged_57 : decode cX12_textChanged 57 = .ok (.return_, 1) := by decide +kernel
theorem dX12_sends_0 : decode cX12_sends 0 = .ok (.aload_n 0, 1) := by decide +kernel
theorem dX12_sends_1 : decode cX12_sends 1 = .ok (.iload_n 1, 1) := by decide +kernel
theorem dX12_sends_2 : decode cX12_sends 2 = .ok (.sipush 706, 3) := by decide +kernel
theorem dX12_sends_5 : decode cX12_sends 5 = .ok (.invokestatic 237, 3) := by decide +kernel
theorem dX12_sends_8 : decode cX12_sends 8 = .ok (.iload_n 1, 1) := by decide +kernel
theorem dX12_sends_9 : decode cX12_sends 9 = .ok (.sipush 264, 3) := by decide +kernel
theorem dX12_sends_12 : decode cX12_sends 12 = .ok (.invokestatic 237, 3) := by decide +kernel
theorem dX12_sends_15 : decode cX12_sends 15 = .ok (.invokevirtual 274, 3) := by decide +kernel
theorem dX12_sends_18 : decode cX12_sends 18 = .ok (.aload_n 0, 1) := by decide +kernel
theorem dX12_sends_19 : decode cX12_sends 19 = .ok (.getfield 69, 3) := by decide +kernel
theorem dX12_sends_22 : decode cX12_sends 22 = .ok (.iload_n 1, 1) := by decide +kernel
theorem dX12_sends_23 : decode cX12_sends 23 = .ok (.bipush 20, 2) := by decide +kernel
theorem dX12_sends_25 : decode cX12_sends 25 = .ok (.invokestatic 237, 3) := by decide +kernel
theorem dX12_sends_28 : decode cX12_sends 28 = .ok (.aload_n 0, 1) := by decide +kernel
theorem dX12_sends_29 : decode cX12_sends 29 = .ok (.iload_n 1, 1) := by decide +kernel
theorem dX12_sends_30 : decode cX12_sends 30 = .ok (.iconst 0, 1) := by decide +kernel
theorem dX12_sends_31 : decode cX12_sends 31 = .ok (.invokevirtual 246, 3) := by decide +kernel
theorem dX12_sends_34 : decode cX12_sends 34 = .ok (.iastore, 1) := by decide +kernel
theorem dX12_sends_35 : decode cX12_sends 35 = .ok (.aload_n 0, 1) := by decide +kernel
theorem dX12_sends_36 : decode cX12_sends 36 = .ok (.getfield 69, 3) := by decide +kernel
theorem dX12_sends_39 : decode cX12_sends 39 = .ok (.iload_n 1, 1) := by decide +kernel
theorem dX12_sends_40 : decode cX12_sends 40 = .ok (.bipush 19, 2) := by decide +kernel
theorem dX12_sends_42 : decode cX12_sends 42 = .ok (.invokestatic 237, 3) := by decide +kernel
theorem dX12_sends_45 : decode cX12_sends 45 = .ok (.aload_n 0, 1) := by decide +kernel
theorem dX12_sends_46 : decode cX12_sends 46 = .ok (.iload_n 1, 1) := by decide +kernel
theorem dX12_sends_47 : decode cX12_sends 47 = .ok (.bipush 16, 2) := by decide +kernel
theorem dX12_sends_49 : decode cX12_sends 49 = .ok (.invokevirtual 246, 3) := by decide +kernel
theorem dX12_sends_52 : decode cX12_sends 52 = .ok (.iastore, 1) := by decide +kernel
theorem dX12_sends_53 : decode cX12_sends 53 = .ok (.aload_n 0, 1) := by decide +kernel
theorem dX12_sends_54 : decode cX12_sends 54 = .ok (.getfield 69, 3) := by decide +kernel
theorem dX12_sends_57 : decode cX12_sends 57 = .ok (.iload_n 1, 1) := by decide +kernel
theorem dX12_sends_58 : decode cX12_sends 58 = .ok (.bipush 17, 2) := by decide +kernel
theorem dX12_sends_60 : decode cX12_sends 60 = .ok (.invokestatic 237, 3) := by decide +kernel
theorem dX12_sends_63 : decode cX12_sends 63 = .ok (.iconst 1, 1) := by decide +kernel
theorem dX12_sends_64 : decode cX12_sends 64 = .ok (.iastore, 1) := by decide +kernel
theorem dX12_sends_65 : decode cX12_sends 65 = .ok (.return_, 1) := by decide +kernel
theorem dX12_canEdit_0 : decode cX12_canEdit 0 = .ok (.aload_n 0, 1) := by decide +kernel
theorem dX12_canEdit_1 : decode cX12_canEdit 1 = .ok (.getfield 51, 3) := by decide +kernel
theorem dX12_canEdit_4 : decode cX12_canEdit 4 = .ok (.aload_n 0, 1) := by decide +kernel
theorem dX12_canEdit_5 : decode cX12_canEdit 5 = .ok (.getfield 195, 3) := by decide +kernel
theorem dX12_canEdit_8 : decode cX12_canEdit 8 = .ok (.invokestatic 277, 3) := by decide +kernel
theorem dX12_canEdit_11 : decode cX12_canEdit 11 = .ok (.ifCond .ne 42, 3) := by decide +kernel
theorem dX12_canEdit_14 : decode cX12_canEdit 14 = .ok (.aload_n 0, 1) := by decide +kernel
theorem dX12_canEdit_15 : decode cX12_canEdit 15 = .ok (.getfield 69, 3) := by decide +kernel
theorem dX12_canEdit_18 : decode cX12_canEdit 18 = .ok (.iconst 2, 1) := by decide +kernel
theorem dX12_canEdit_19 : decode cX12_canEdit 19 = .ok (.iaload, 1) := by decide +kernel
theorem dX12_canEdit_20 : decode cX12_canEdit 20 = .ok (.bipush 100, 2) := by decide +kernel
theorem dX12_canEdit_22 : decode cX12_canEdit 22 = .ok (.if_icmp .ge 31, 3) := by decide +kernel
theorem dX12_canEdit_25 : decode cX12_canEdit 25 = .ok (.aload_n 0, 1) := by decide +kernel
theorem dX12_canEdit_26 : decode cX12_canEdit 26 = .ok (.getfield 69, 3) := by decide +kernel
theorem dX12_canEdit_29 : decode cX12_canEdit 29 = .ok (.iconst 3, 1) := by decide +kernel
theorem dX12_canEdit_30 : decode cX12_canEdit 30 = .ok (.iaload, 1) := by decide +kernel
theorem dX12_canEdit_31 : decode cX12_canEdit 31 = .ok (.aload_n 0, 1) := by decide +kernel
theorem dX12_canEdit_32 : decode cX12_canEdit 32 = .ok (.getfield 51, 3) := by decide +kernel
theorem dX12_canEdit_35 : decode cX12_canEdit 35 = .ok (.aload_n 0, 1) := by decide +kernel
theorem dX12_canEdit_36 : decode cX12_canEdit 36 = .ok (.getfield 195, 3) := by decide +kernel
theorem dX12_canEdit_39 : decode cX12_canEdit 39 = .ok (.invokestatic 281, 3) := by decide +kernel
theorem dX12_canEdit_42 : decode cX12_canEdit 42 = .ok (.iadd, 1) := by decide +kernel
theorem dX12_canEdit_43 : decode cX12_canEdit 43 = .ok (.sipush 200, 3) := by decide +kernel
theorem dX12_canEdit_46 : decode cX12_canEdit 46 = .ok (.if_icmp .gt 7, 3) := by decide +kernel
theorem dX12_canEdit_49 : decode cX12_canEdit 49 = .ok (.iconst 1, 1) := by decide +kernel
theorem dX12_canEdit_50 : decode cX12_canEdit 50 = .ok (.goto 4, 3) := by decide +kernel
theorem dX12_canEdit_53 : decode cX12_canEdit 53 = .ok (.iconst 0, 1) := by decide +kernel
theorem dX12_canEdit_54 : decode cX12_canEdit 54 = .ok (.ireturn, 1) := by decide +kernel
theorem dX12_edits_0 : decode cX12_edits 0 = .ok (.aload_n 0, 1) := by decide +kernel
theorem dX12_edits_1 : decode cX12_edits 1 = .ok (.getfield 69, 3) := by decide +kernel
theorem dX12_edits_4 : decode cX12_edits 4 = .ok (.iconst 2, 1) := by decide +kernel
theorem dX12_edits_5 : decode cX12_edits 5 = .ok (.dup2, 1) := by decide +kernel
theorem dX12_edits_6 : decode cX12_edits 6 = .ok (.iaload, 1) := by decide +kernel
theorem dX12_edits_7 : decode cX12_edits 7 = .ok (.iconst 1, 1) := by decide +kernel
theorem dX12_edits_8 : decode cX12_edits 8 = .ok (.iadd, 1) := by decide +kernel
theorem dX12_edits_9 : decode cX12_edits 9 = .ok (.iastore, 1) := by decide +kernel
theorem dX12_edits_10 : decode cX12_edits 10 = .ok (.aload_n 0, 1) := by decide +kernel
theorem dX12_edits_11 : decode cX12_edits 11 = .ok (.getfield 69, 3) := by decide +kernel
theorem dX12_edits_14 : decode cX12_edits 14 = .ok (.iconst 3, 1) := by decide +kernel
theorem dX12_edits_15 : decode cX12_edits 15 = .ok (.dup2, 1) := by decide +kernel
theorem dX12_edits_16 : decode cX12_edits 16 = .ok (.iaload, 1) := by decide +kernel
theorem dX12_edits_17 : decode cX12_edits 17 = .ok (.aload_n 0, 1) := by decide +kernel
theorem dX12_edits_18 : decode cX12_edits 18 = .ok (.getfield 51, 3) := by decide +kernel
theorem dX12_edits_21 : decode cX12_edits 21 = .ok (.aload_n 0, 1) := by decide +kernel
theorem dX12_edits_22 : decode cX12_edits 22 = .ok (.getfield 195, 3) := by decide +kernel
theorem dX12_edits_25 : decode cX12_edits 25 = .ok (.invokestatic 281, 3) := by decide +kernel
theorem dX12_edits_28 : decode cX12_edits 28 = .ok (.iadd, 1) := by decide +kernel
theorem dX12_edits_29 : decode cX12_edits 29 = .ok (.iastore, 1) := by decide +kernel
theorem dX12_edits_30 : decode cX12_edits 30 = .ok (.aload_n 0, 1) := by decide +kernel
theorem dX12_edits_31 : decode cX12_edits 31 = .ok (.aload_n 0, 1) := by decide +kernel
theorem dX12_edits_32 : decode cX12_edits 32 = .ok (.getfield 69, 3) := by decide +kernel
theorem dX12_edits_35 : decode cX12_edits 35 = .ok (.iload_n 1, 1) := by decide +kernel
theorem dX12_edits_36 : decode cX12_edits 36 = .ok (.bipush 24, 2) := by decide +kernel
theorem dX12_edits_38 : decode cX12_edits 38 = .ok (.invokestatic 237, 3) := by decide +kernel
theorem dX12_edits_41 : decode cX12_edits 41 = .ok (.invokevirtual 284, 3) := by decide +kernel
theorem dX12_edits_44 : decode cX12_edits 44 = .ok (.aload_n 0, 1) := by decide +kernel
theorem dX12_edits_45 : decode cX12_edits 45 = .ok (.iload_n 1, 1) := by decide +kernel
theorem dX12_edits_46 : decode cX12_edits 46 = .ok (.iload_n 2, 1) := by decide +kernel
theorem dX12_edits_47 : decode cX12_edits 47 = .ok (.iconst 1, 1) := by decide +kernel
theorem dX12_edits_48 : decode cX12_edits 48 = .ok (.if_icmp .ne 9, 3) := by decide +kernel
theorem dX12_edits_51 : decode cX12_edits 51 = .ok (.sipush 2054, 3) := by decide +kernel
theorem dX12_edits_54 : decode cX12_edits 54 = .ok (.goto 6, 3) := by decide +kernel
theorem dX12_edits_57 : decode cX12_edits 57 = .ok (.sipush 1590, 3) := by decide +kernel
theorem dX12_edits_60 : decode cX12_edits 60 = .ok (.iload_n 2, 1) := by decide +kernel
theorem dX12_edits_61 : decode cX12_edits 61 = .ok (.iconst 1, 1) := by decide +kernel
theorem dX12_edits_62 : decode cX12_edits 62 = .ok (.if_icmp .ne 8, 3) := by decide +kernel
theorem dX12_edits_65 : decode cX12_edits 65 = .ok (.bipush 23, 2) := by decide +kernel
theorem dX12_edits_67 : decode cX12_edits 67 = .ok (.goto 5, 3) := by decide +kernel
theorem dX12_edits_70 : decode cX12_edits 70 = .ok (.bipush 22, 2) := by decide +kernel
theorem dX12_edits_72 : decode cX12_edits 72 = .ok (.invokevirtual 287, 3) := by decide +kernel
theorem dX12_edits_75 : decode cX12_edits 75 = .ok (.iload_n 2, 1) := by decide +kernel
theorem dX12_edits_76 : decode cX12_edits 76 = .ok (.ifCond .ne 15, 3) := by decide +kernel
theorem dX12_edits_79 : decode cX12_edits 79 = .ok (.aload_n 0, 1) := by decide +kernel
theorem dX12_edits_80 : decode cX12_edits 80 = .ok (.getfield 69, 3) := by decide +kernel
theorem dX12_edits_83 : decode cX12_edits 83 = .ok (.iload_n 1, 1) := by decide +kernel
theorem dX12_edits_84 : decode cX12_edits 84 = .ok (.bipush 23, 2) := by decide +kernel
theorem dX12_edits_86 : decode cX12_edits 86 = .ok (.invokestatic 237, 3) := by decide +kernel
theorem dX12_edits_89 : decode cX12_edits 89 = .ok (.iconst 0, 1) := by decide +kernel
theorem dX12_edits_90 : decode cX12_edits 90 = .ok (.iastore, 1) := by decide +kernel
theorem dX12_edits_91 : decode cX12_edits 91 = .ok (.aload_n 0, 1) := by decide +kernel
theorem dX12_edits_92 : decode cX12_edits 92 = .ok (.iload_n 1, 1) := by decide +kernel
theorem dX12_edits_93 : decode cX12_edits 93 = .ok (.aload_n 0, 1) := by decide +kernel
theorem dX12_edits_94 : decode cX12_edits 94 = .ok (.getfield 51, 3) := by decide +kernel
theorem dX12_edits_97 : decode cX12_edits 97 = .ok (.aload_n 0, 1) := by decide +kernel
theorem dX12_edits_98 : decode cX12_edits 98 = .ok (.getfield 195, 3) := by decide +kernel
theorem dX12_edits_101 : decode cX12_edits 101 = .ok (.iconst 1, 1) := by decide +kernel
theorem dX12_edits_102 : decode cX12_edits 102 = .ok (.invokevirtual 291, 3) := by decide +kernel
theorem dX12_edits_105 : decode cX12_edits 105 = .ok (.aload_n 0, 1) := by decide +kernel
theorem dX12_edits_106 : decode cX12_edits 106 = .ok (.iload_n 1, 1) := by decide +kernel
theorem dX12_edits_107 : decode cX12_edits 107 = .ok (.bipush 17, 2) := by decide +kernel
theorem dX12_edits_109 : decode cX12_edits 109 = .ok (.invokevirtual 246, 3) := by decide +kernel
theorem dX12_edits_112 : decode cX12_edits 112 = .ok (.ifCond .ne 20, 3) := by decide +kernel
theorem dX12_edits_115 : decode cX12_edits 115 = .ok (.aload_n 0, 1) := by decide +kernel
theorem dX12_edits_116 : decode cX12_edits 116 = .ok (.iload_n 1, 1) := by decide +kernel
theorem dX12_edits_117 : decode cX12_edits 117 = .ok (.sipush 264, 3) := by decide +kernel
theorem dX12_edits_120 : decode cX12_edits 120 = .ok (.invokestatic 237, 3) := by decide +kernel
theorem dX12_edits_123 : decode cX12_edits 123 = .ok (.invokevirtual 295, 3) := by decide +kernel
theorem dX12_edits_126 : decode cX12_edits 126 = .ok (.aload_n 0, 1) := by decide +kernel
theorem dX12_edits_127 : decode cX12_edits 127 = .ok (.iload_n 1, 1) := by decide +kernel
theorem dX12_edits_128 : decode cX12_edits 128 = .ok (.invokevirtual 298, 3) := by decide +kernel
theorem dX12_edits_131 : decode cX12_edits 131 = .ok (.return_, 1) := by decide +kernel
theorem dX12_edits_132 : decode cX12_edits 132 = .ok (.aload_n 0, 1) := by decide +kernel
theorem dX12_edits_133 : decode cX12_edits 133 = .ok (.iload_n 1, 1) := by decide +kernel
theorem dX12_edits_134 : decode cX12_edits 134 = .ok (.bipush 18, 2) := by decide +kernel
theorem dX12_edits_136 : decode cX12_edits 136 = .ok (.invokevirtual 246, 3) := by decide +kernel
theorem dX12_edits_139 : decode cX12_edits 139 = .ok (.iconst 1, 1) := by decide +kernel
theorem dX12_edits_140 : decode cX12_edits 140 = .ok (.if_icmp .ne 58, 3) := by decide +kernel
theorem dX12_edits_143 : decode cX12_edits 143 = .ok (.aload_n 0, 1) := by decide +kernel
theorem dX12_edits_144 : decode cX12_edits 144 = .ok (.aload_n 0, 1) := by decide +kernel
theorem dX12_edits_145 : decode cX12_edits 145 = .ok (.getfield 195, 3) := by decide +kernel
theorem dX12_edits_148 : decode cX12_edits 148 = .ok (.putfield 198, 3) := by decide +kernel
theorem dX12_edits_151 : decode cX12_edits 151 = .ok (.iconst 0, 1) := by decide +kernel
theorem dX12_edits_152 : decode cX12_edits 152 = .ok (.istore_n 3, 1) := by decide +kernel
theorem dX12_edits_153 : decode cX12_edits 153 = .ok (.iload_n 3, 1) := by decide +kernel
theorem dX12_edits_154 : decode cX12_edits 154 = .ok (.aload_n 0, 1) := by decide +kernel
theorem dX12_edits_155 : decode cX12_edits 155 = .ok (.getfield 195, 3) := by decide +kernel
theorem dX12_edits_158 : decode cX12_edits 158 = .ok (.if_icmp .ge 21, 3) := by decide +kernel
theorem dX12_edits_161 : decode cX12_edits 161 = .ok (.aload_n 0, 1) := by decide +kernel
theorem dX12_edits_162 : decode cX12_edits 162 = .ok (.getfield 54, 3) := by decide +kernel
theorem dX12_edits_165 : decode cX12_edits 165 = .ok (.iload_n 3, 1) := by decide +kernel
theorem dX12_edits_166 : decode cX12_edits 166 = .ok (.aload_n 0, 1) := by decide +kernel
theorem dX12_edits_167 : decode cX12_edits 167 = .ok (.getfield 51, 3) := by decide +kernel
theorem dX12_edits_170 : decode cX12_edits 170 = .ok (.iload_n 3, 1) := by decide +kernel
theorem dX12_edits_171 : decode cX12_edits 171 = .ok (.iaload, 1) := by decide +kernel
theorem dX12_edits_172 : decode cX12_edits 172 = .ok (.iastore, 1) := by decide +kernel
theorem dX12_edits_173 : decode cX12_edits 173 = .ok (.iinc 3 1, 3) := by decide +kernel
theorem dX12_edits_176 : decode cX12_edits 176 = .ok (.goto (-23), 3) := by decide +kernel
theorem dX12_edits_179 : decode cX12_edits 179 = .ok (.aload_n 0, 1) := by decide +kernel
theorem dX12_edits_180 : decode cX12_edits 180 = .ok (.iload_n 1, 1) := by decide +kernel
theorem dX12_edits_181 : decode cX12_edits 181 = .ok (.sipush 1148, 3) := by decide +kernel
theorem dX12_edits_184 : decode cX12_edits 184 = .ok (.invokestatic 237, 3) := by decide +kernel
theorem dX12_edits_187 : decode cX12_edits 187 = .ok (.invokevirtual 249, 3) := by decide +kernel
theorem dX12_edits_190 : decode cX12_edits 190 = .ok (.aload_n 0, 1) := by decide +kernel
theorem dX12_edits_191 : decode cX12_edits 191 = .ok (.invokevirtual 301, 3) := by decide +kernel
theorem dX12_edits_194 : decode cX12_edits 194 = .ok (.aload_n 0, 1) := by decide +kernel
theorem dX12_edits_195 : decode cX12_edits 195 = .ok (.invokevirtual 304, 3) := by decide +kernel
theorem dX12_edits_198 : decode cX12_edits 198 = .ok (.aload_n 0, 1) := by decide +kernel
theorem dX12_edits_199 : decode cX12_edits 199 = .ok (.iload_n 1, 1) := by decide +kernel
theorem dX12_edits_200 : decode cX12_edits 200 = .ok (.sipush 1148, 3) := by decide +kernel
theorem dX12_edits_203 : decode cX12_edits 203 = .ok (.invokestatic 237, 3) := by decide +kernel
theorem dX12_edits_206 : decode cX12_edits 206 = .ok (.invokevirtual 295, 3) := by decide +kernel
theorem dX12_edits_209 : decode cX12_edits 209 = .ok (.aload_n 0, 1) := by decide +kernel
theorem dX12_edits_210 : decode cX12_edits 210 = .ok (.getfield 69, 3) := by decide +kernel
theorem dX12_edits_213 : decode cX12_edits 213 = .ok (.iload_n 1, 1) := by decide +kernel
theorem dX12_edits_214 : decode cX12_edits 214 = .ok (.bipush 18, 2) := by decide +kernel
theorem dX12_edits_216 : decode cX12_edits 216 = .ok (.invokestatic 237, 3) := by decide +kernel
theorem dX12_edits_219 : decode cX12_edits 219 = .ok (.iconst 1, 1) := by decide +kernel
theorem dX12_edits_220 : decode cX12_edits 220 = .ok (.iastore, 1) := by decide +kernel
theorem dX12_edits_221 : decode cX12_edits 221 = .ok (.return_, 1) := by decide +kernel
theorem dX12_keepsA_0 : decode cX12_keepsA 0 = .ok (.aload_n 0, 1) := by decide +kernel
theorem dX12_keepsA_1 : decode cX12_keepsA 1 = .ok (.getfield 69, 3) := by decide +kernel
theorem dX12_keepsA_4 : decode cX12_keepsA 4 = .ok (.iload_n 1, 1) := by decide +kernel
theorem dX12_keepsA_5 : decode cX12_keepsA 5 = .ok (.aload_n 0, 1) := by decide +kernel
theorem dX12_keepsA_6 : decode cX12_keepsA 6 = .ok (.getfield 51, 3) := by decide +kernel
theorem dX12_keepsA_9 : decode cX12_keepsA 9 = .ok (.aload_n 0, 1) := by decide +kernel
theorem dX12_keepsA_10 : decode cX12_keepsA 10 = .ok (.getfield 195, 3) := by decide +kernel
theorem dX12_keepsA_13 : decode cX12_keepsA 13 = .ok (.aload_n 0, 1) := by decide +kernel
theorem dX12_keepsA_14 : decode cX12_keepsA 14 = .ok (.getfield 69, 3) := by decide +kernel
theorem dX12_keepsA_17 : decode cX12_keepsA 17 = .ok (.iload_n 1, 1) := by decide +kernel
theorem dX12_keepsA_18 : decode cX12_keepsA 18 = .ok (.iconst 2, 1) := by decide +kernel
theorem dX12_keepsA_19 : decode cX12_keepsA 19 = .ok (.iadd, 1) := by decide +kernel
theorem dX12_keepsA_20 : decode cX12_keepsA 20 = .ok (.invokestatic 222, 3) := by decide +kernel
theorem dX12_keepsA_23 : decode cX12_keepsA 23 = .ok (.iastore, 1) := by decide +kernel
theorem dX12_keepsA_24 : decode cX12_keepsA 24 = .ok (.aload_n 0, 1) := by decide +kernel
theorem dX12_keepsA_25 : decode cX12_keepsA 25 = .ok (.getfield 69, 3) := by decide +kernel
theorem dX12_keepsA_28 : decode cX12_keepsA 28 = .ok (.iload_n 1, 1) := by decide +kernel
theorem dX12_keepsA_29 : decode cX12_keepsA 29 = .ok (.iconst 1, 1) := by decide +kernel
theorem dX12_keepsA_30 : decode cX12_keepsA 30 = .ok (.iadd, 1) := by decide +kernel
theorem dX12_keepsA_31 : decode cX12_keepsA 31 = .ok (.aload_n 0, 1) := by decide +kernel
theorem dX12_keepsA_32 : decode cX12_keepsA 32 = .ok (.getfield 51, 3) := by decide +kernel
theorem dX12_keepsA_35 : decode cX12_keepsA 35 = .ok (.aload_n 0, 1) := by decide +kernel
theorem dX12_keepsA_36 : decode cX12_keepsA 36 = .ok (.getfield 195, 3) := by decide +kernel
theorem dX12_keepsA_39 : decode cX12_keepsA 39 = .ok (.invokestatic 226, 3) := by decide +kernel
theorem dX12_keepsA_42 : decode cX12_keepsA 42 = .ok (.iastore, 1) := by decide +kernel
theorem dX12_keepsA_43 : decode cX12_keepsA 43 = .ok (.return_, 1) := by decide +kernel
theorem dX12_sentTurned_0 : decode cX12_sentTurned 0 = .ok (.aload_n 0, 1) := by decide +kernel
theorem dX12_sentTurned_1 : decode cX12_sentTurned 1 = .ok (.iload_n 1, 1) := by decide +kernel
theorem dX12_sentTurned_2 : decode cX12_sentTurned 2 = .ok (.sipush 706, 3) := by decide +kernel
theorem dX12_sentTurned_5 : decode cX12_sentTurned 5 = .ok (.invokestatic 237, 3) := by decide +kernel
theorem dX12_sentTurned_8 : decode cX12_sentTurned 8 = .ok (.invokevirtual 249, 3) := by decide +kernel
theorem dX12_sentTurned_11 : decode cX12_sentTurned 11 = .ok (.aload_n 0, 1) := by decide +kernel
theorem dX12_sentTurned_12 : decode cX12_sentTurned 12 = .ok (.iload_n 1, 1) := by decide +kernel
theorem dX12_sentTurned_13 : decode cX12_sentTurned 13 = .ok (.bipush 20, 2) := by decide +kernel
theorem dX12_sentTurned_15 : decode cX12_sentTurned 15 = .ok (.invokevirtual 246, 3) := by decide +kernel
theorem dX12_sentTurned_18 : decode cX12_sentTurned 18 = .ok (.istore_n 2, 1) := by decide +kernel
theorem dX12_sentTurned_19 : decode cX12_sentTurned 19 = .ok (.iload_n 2, 1) := by decide +kernel
theorem dX12_sentTurned_20 : decode cX12_sentTurned 20 = .ok (.aload_n 0, 1) := by decide +kernel
theorem dX12_sentTurned_21 : decode cX12_sentTurned 21 = .ok (.getfield 69, 3) := by decide +kernel
theorem dX12_sentTurned_24 : decode cX12_sentTurned 24 = .ok (.iconst 1, 1) := by decide +kernel
theorem dX12_sentTurned_25 : decode cX12_sentTurned 25 = .ok (.iaload, 1) := by decide +kernel
theorem dX12_sentTurned_26 : decode cX12_sentTurned 26 = .ok (.if_icmp .ge 33, 3) := by decide +kernel
theorem dX12_sentTurned_29 : decode cX12_sentTurned 29 = .ok (.aload_n 0, 1) := by decide +kernel
theorem dX12_sentTurned_30 : decode cX12_sentTurned 30 = .ok (.iload_n 2, 1) := by decide +kernel
theorem dX12_sentTurned_31 : decode cX12_sentTurned 31 = .ok (.invokevirtual 307, 3) := by decide +kernel
theorem dX12_sentTurned_34 : decode cX12_sentTurned 34 = .ok (.aload_n 0, 1) := by decide +kernel
theorem dX12_sentTurned_35 : decode cX12_sentTurned 35 = .ok (.aload_n 0, 1) := by decide +kernel
theorem dX12_sentTurned_36 : decode cX12_sentTurned 36 = .ok (.iload_n 1, 1) := by decide +kernel
theorem dX12_sentTurned_37 : decode cX12_sentTurned 37 = .ok (.aload_n 0, 1) := by decide +kernel
theorem dX12_sentTurned_38 : decode cX12_sentTurned 38 = .ok (.getfield 75, 3) := by decide +kernel
theorem dX12_sentTurned_41 : decode cX12_sentTurned 41 = .ok (.iload_n 2, 1) := by decide +kernel
theorem dX12_sentTurned_42 : decode cX12_sentTurned 42 = .ok (.iaload, 1) := by decide +kernel
theorem dX12_sentTurned_43 : decode cX12_sentTurned 43 = .ok (.invokevirtual 252, 3) := by decide +kernel
theorem dX12_sentTurned_46 : decode cX12_sentTurned 46 = .ok (.invokevirtual 256, 3) := by decide +kernel
theorem dX12_sentTurned_49 : decode cX12_sentTurned 49 = .ok (.aload_n 0, 1) := by decide +kernel
theorem dX12_sentTurned_50 : decode cX12_sentTurned 50 = .ok (.invokevirtual 304, 3) := by decide +kernel
theorem dX12_sentTurned_53 : decode cX12_sentTurned 53 = .ok (.iinc 2 1, 3) := by decide +kernel
theorem dX12_sentTurned_56 : decode cX12_sentTurned 56 = .ok (.goto (-37), 3) := by decide +kernel
theorem dX12_sentTurned_59 : decode cX12_sentTurned 59 = .ok (.return_, 1) := by decide +kernel
theorem dX12_serverTakes_0 : decode cX12_serverTakes 0 = .ok (.aload_n 0, 1) := by decide +kernel
theorem dX12_serverTakes_1 : decode cX12_serverTakes 1 = .ok (.iload_n 1, 1) := by decide +kernel
theorem dX12_serverTakes_2 : decode cX12_serverTakes 2 = .ok (.invokevirtual 310, 3) := by decide +kernel
theorem dX12_serverTakes_5 : decode cX12_serverTakes 5 = .ok (.aload_n 0, 1) := by decide +kernel
theorem dX12_serverTakes_6 : decode cX12_serverTakes 6 = .ok (.getfield 69, 3) := by decide +kernel
theorem dX12_serverTakes_9 : decode cX12_serverTakes 9 = .ok (.iconst 1, 1) := by decide +kernel
theorem dX12_serverTakes_10 : decode cX12_serverTakes 10 = .ok (.iaload, 1) := by decide +kernel
theorem dX12_serverTakes_11 : decode cX12_serverTakes 11 = .ok (.istore_n 2, 1) := by decide +kernel
theorem dX12_serverTakes_12 : decode cX12_serverTakes 12 = .ok (.aload_n 0, 1) := by decide +kernel
theorem dX12_serverTakes_13 : decode cX12_serverTakes 13 = .ok (.getfield 75, 3) := by decide +kernel
theorem dX12_serverTakes_16 : decode cX12_serverTakes 16 = .ok (.iload_n 2, 1) := by decide +kernel
theorem dX12_serverTakes_17 : decode cX12_serverTakes 17 = .ok (.iload_n 1, 1) := by decide +kernel
theorem dX12_serverTakes_18 : decode cX12_serverTakes 18 = .ok (.iastore, 1) := by decide +kernel
theorem dX12_serverTakes_19 : decode cX12_serverTakes 19 = .ok (.aload_n 0, 1) := by decide +kernel
theorem dX12_serverTakes_20 : decode cX12_serverTakes 20 = .ok (.getfield 78, 3) := by decide +kernel
theorem dX12_serverTakes_23 : decode cX12_serverTakes 23 = .ok (.iload_n 2, 1) := by decide +kernel
theorem dX12_serverTakes_24 : decode cX12_serverTakes 24 = .ok (.aload_n 0, 1) := by decide +kernel
theorem dX12_serverTakes_25 : decode cX12_serverTakes 25 = .ok (.getfield 51, 3) := by decide +kernel
theorem dX12_serverTakes_28 : decode cX12_serverTakes 28 = .ok (.aload_n 0, 1) := by decide +kernel
theorem dX12_serverTakes_29 : decode cX12_serverTakes 29 = .ok (.getfield 195, 3) := by decide +kernel
theorem dX12_serverTakes_32 : decode cX12_serverTakes 32 = .ok (.invokestatic 226, 3) := by decide +kernel
theorem dX12_serverTakes_35 : decode cX12_serverTakes 35 = .ok (.iastore, 1) := by decide +kernel
theorem dX12_serverTakes_36 : decode cX12_serverTakes 36 = .ok (.aload_n 0, 1) := by decide +kernel
theorem dX12_serverTakes_37 : decode cX12_serverTakes 37 = .ok (.getfield 81, 3) := by decide +kernel
theorem dX12_serverTakes_40 : decode cX12_serverTakes 40 = .ok (.iload_n 2, 1) := by decide +kernel
theorem dX12_serverTakes_41 : decode cX12_serverTakes 41 = .ok (.iload_n 2, 1) := by decide +kernel
theorem dX12_serverTakes_42 : decode cX12_serverTakes 42 = .ok (.ifCond .ne 7, 3) := by decide +kernel
theorem dX12_serverTakes_45 : decode cX12_serverTakes 45 = .ok (.iconst 0, 1) := by decide +kernel
theorem dX12_serverTakes_46 : decode cX12_serverTakes 46 = .ok (.goto 20, 3) := by decide +kernel
theorem dX12_serverTakes_49 : decode cX12_serverTakes 49 = .ok (.aload_n 0, 1) := by decide +kernel
theorem dX12_serverTakes_50 : decode cX12_serverTakes 50 = .ok (.getfield 81, 3) := by decide +kernel
theorem dX12_serverTakes_53 : decode cX12_serverTakes 53 = .ok (.iload_n 2, 1) := by decide +kernel
theorem dX12_serverTakes_54 : decode cX12_serverTakes 54 = .ok (.iconst 1, 1) := by decide +kernel
theorem dX12_serverTakes_55 : decode cX12_serverTakes 55 = .ok (.isub, 1) := by decide +kernel
theorem dX12_serverTakes_56 : decode cX12_serverTakes 56 = .ok (.iaload, 1) := by decide +kernel
theorem dX12_serverTakes_57 : decode cX12_serverTakes 57 = .ok (.aload_n 0, 1) := by decide +kernel
theorem dX12_serverTakes_58 : decode cX12_serverTakes 58 = .ok (.getfield 84, 3) := by decide +kernel
theorem dX12_serverTakes_61 : decode cX12_serverTakes 61 = .ok (.iload_n 2, 1) := by decide +kernel
theorem dX12_serverTakes_62 : decode cX12_serverTakes 62 = .ok (.iconst 1, 1) := by decide +kernel
theorem dX12_serverTakes_63 : decode cX12_serverTakes 63 = .ok (.isub, 1) := by decide +kernel
theorem dX12_serverTakes_64 : decode cX12_serverTakes 64 = .ok (.iaload, 1) := by decide +kernel
theorem dX12_serverTakes_65 : decode cX12_serverTakes 65 = .ok (.iadd, 1) := by decide +kernel
theorem dX12_serverTakes_66 : decode cX12_serverTakes 66 = .ok (.iastore, 1) := by decide +kernel
theorem dX12_serverTakes_67 : decode cX12_serverTakes 67 = .ok (.aload_n 0, 1) := by decide +kernel
theorem dX12_serverTakes_68 : decode cX12_serverTakes 68 = .ok (.getfield 84, 3) := by decide +kernel
theorem dX12_serverTakes_71 : decode cX12_serverTakes 71 = .ok (.iload_n 2, 1) := by decide +kernel
theorem dX12_serverTakes_72 : decode cX12_serverTakes 72 = .ok (.aload_n 0, 1) := by decide +kernel
theorem dX12_serverTakes_73 : decode cX12_serverTakes 73 = .ok (.getfield 51, 3) := by decide +kernel
theorem dX12_serverTakes_76 : decode cX12_serverTakes 76 = .ok (.aload_n 0, 1) := by decide +kernel
theorem dX12_serverTakes_77 : decode cX12_serverTakes 77 = .ok (.getfield 195, 3) := by decide +kernel
theorem dX12_serverTakes_80 : decode cX12_serverTakes 80 = .ok (.aload_n 0, 1) := by decide +kernel
theorem dX12_serverTakes_81 : decode cX12_serverTakes 81 = .ok (.getfield 87, 3) := by decide +kernel
theorem dX12_serverTakes_84 : decode cX12_serverTakes 84 = .ok (.aload_n 0, 1) := by decide +kernel
theorem dX12_serverTakes_85 : decode cX12_serverTakes 85 = .ok (.getfield 81, 3) := by decide +kernel
theorem dX12_serverTakes_88 : decode cX12_serverTakes 88 = .ok (.iload_n 2, 1) := by decide +kernel
theorem dX12_serverTakes_89 : decode cX12_serverTakes 89 = .ok (.iaload, 1) := by decide +kernel
theorem dX12_serverTakes_90 : decode cX12_serverTakes 90 = .ok (.invokestatic 222, 3) := by decide +kernel
theorem dX12_serverTakes_93 : decode cX12_serverTakes 93 = .ok (.iastore, 1) := by decide +kernel
theorem dX12_serverTakes_94 : decode cX12_serverTakes 94 = .ok (.aload_n 0, 1) := by decide +kernel
theorem dX12_serverTakes_95 : decode cX12_serverTakes 95 = .ok (.getfield 69, 3) := by decide +kernel
theorem dX12_serverTakes_98 : decode cX12_serverTakes 98 = .ok (.iconst 1, 1) := by decide +kernel
theorem dX12_serverTakes_99 : decode cX12_serverTakes 99 = .ok (.dup2, 1) := by decide +kernel
theorem dX12_serverTakes_100 : decode cX12_serverTakes 100 = .ok (.iaload, 1) := by decide +kernel
theorem dX12_serverTakes_101 : decode cX12_serverTakes 101 = .ok (.iconst 1, 1) := by decide +kernel
theorem dX12_serverTakes_102 : decode cX12_serverTakes 102 = .ok (.iadd, 1) := by decide +kernel
theorem dX12_serverTakes_103 : decode cX12_serverTakes 103 = .ok (.iastore, 1) := by decide +kernel
theorem dX12_serverTakes_104 : decode cX12_serverTakes 104 = .ok (.aload_n 0, 1) := by decide +kernel
theorem dX12_serverTakes_105 : decode cX12_serverTakes 105 = .ok (.getfield 69, 3) := by decide +kernel
theorem dX12_serverTakes_108 : decode cX12_serverTakes 108 = .ok (.iload_n 1, 1) := by decide +kernel
theorem dX12_serverTakes_109 : decode cX12_serverTakes 109 = .ok (.bipush 19, 2) := by decide +kernel
theorem dX12_serverTakes_111 : decode cX12_serverTakes 111 = .ok (.invokestatic 237, 3) := by decide +kernel
theorem dX12_serverTakes_114 : decode cX12_serverTakes 114 = .ok (.iconst (-1), 1) := by decide +kernel
theorem dX12_serverTakes_115 : decode cX12_serverTakes 115 = .ok (.iastore, 1) := by decide +kernel
theorem dX12_serverTakes_116 : decode cX12_serverTakes 116 = .ok (.iconst 0, 1) := by decide +kernel
theorem dX12_serverTakes_117 : decode cX12_serverTakes 117 = .ok (.istore_n 3, 1) := by decide +kernel
theorem dX12_serverTakes_118 : decode cX12_serverTakes 118 = .ok (.iload_n 3, 1) := by decide +kernel
theorem dX12_serverTakes_119 : decode cX12_serverTakes 119 = .ok (.aload_n 0, 1) := by decide +kernel
theorem dX12_serverTakes_120 : decode cX12_serverTakes 120 = .ok (.getfield 215, 3) := by decide +kernel
theorem dX12_serverTakes_123 : decode cX12_serverTakes 123 = .ok (.if_icmp .ge 30, 3) := by decide +kernel
theorem dX12_serverTakes_126 : decode cX12_serverTakes 126 = .ok (.aload_n 0, 1) := by decide +kernel
theorem dX12_serverTakes_127 : decode cX12_serverTakes 127 = .ok (.getfield 69, 3) := by decide +kernel
theorem dX12_serverTakes_130 : decode cX12_serverTakes 130 = .ok (.iload_n 3, 1) := by decide +kernel
theorem dX12_serverTakes_131 : decode cX12_serverTakes 131 = .ok (.sipush 2518, 3) := by decide +kernel
theorem dX12_serverTakes_134 : decode cX12_serverTakes 134 = .ok (.iload_n 2, 1) := by decide +kernel
theorem dX12_serverTakes_135 : decode cX12_serverTakes 135 = .ok (.iadd, 1) := by decide +kernel
theorem dX12_serverTakes_136 : decode cX12_serverTakes 136 = .ok (.invokestatic 237, 3) := by decide +kernel
theorem dX12_serverTakes_139 : decode cX12_serverTakes 139 = .ok (.aload_n 0, 1) := by decide +kernel
theorem dX12_serverTakes_140 : decode cX12_serverTakes 140 = .ok (.iload_n 3, 1) := by decide +kernel
theorem dX12_serverTakes_141 : decode cX12_serverTakes 141 = .ok (.bipush 16, 2) := by decide +kernel
theorem dX12_serverTakes_143 : decode cX12_serverTakes 143 = .ok (.invokevirtual 246, 3) := by decide +kernel
theorem dX12_serverTakes_146 : decode cX12_serverTakes 146 = .ok (.iastore, 1) := by decide +kernel
theorem dX12_serverTakes_147 : decode cX12_serverTakes 147 = .ok (.iinc 3 1, 3) := by decide +kernel
theorem dX12_serverTakes_150 : decode cX12_serverTakes 150 = .ok (.goto (-32), 3) := by decide +kernel
theorem dX12_serverTakes_153 : decode cX12_serverTakes 153 = .ok (.return_, 1) := by decide +kernel
theorem dX12_ownComes_0 : decode cX12_ownComes 0 = .ok (.aload_n 0, 1) := by decide +kernel
theorem dX12_ownComes_1 : decode cX12_ownComes 1 = .ok (.getfield 69, 3) := by decide +kernel
theorem dX12_ownComes_4 : decode cX12_ownComes 4 = .ok (.iload_n 1, 1) := by decide +kernel
theorem dX12_ownComes_5 : decode cX12_ownComes 5 = .ok (.bipush 17, 2) := by decide +kernel
theorem dX12_ownComes_7 : decode cX12_ownComes 7 = .ok (.invokestatic 237, 3) := by decide +kernel
theorem dX12_ownComes_10 : decode cX12_ownComes 10 = .ok (.iconst 0, 1) := by decide +kernel
theorem dX12_ownComes_11 : decode cX12_ownComes 11 = .ok (.iastore, 1) := by decide +kernel
theorem dX12_ownComes_12 : decode cX12_ownComes 12 = .ok (.aload_n 0, 1) := by decide +kernel
theorem dX12_ownComes_13 : decode cX12_ownComes 13 = .ok (.iload_n 1, 1) := by decide +kernel
theorem dX12_ownComes_14 : decode cX12_ownComes 14 = .ok (.bipush 18, 2) := by decide +kernel
theorem dX12_ownComes_16 : decode cX12_ownComes 16 = .ok (.invokevirtual 246, 3) := by decide +kernel
theorem dX12_ownComes_19 : decode cX12_ownComes 19 = .ok (.ifCond .ne 4, 3) := by decide +kernel
theorem dX12_ownComes_22 : decode cX12_ownComes 22 = .ok (.return_, 1) := by decide +kernel
theorem dX12_ownComes_23 : decode cX12_ownComes 23 = .ok (.aload_n 0, 1) := by decide +kernel
theorem dX12_ownComes_24 : decode cX12_ownComes 24 = .ok (.getfield 69, 3) := by decide +kernel
theorem dX12_ownComes_27 : decode cX12_ownComes 27 = .ok (.iload_n 1, 1) := by decide +kernel
theorem dX12_ownComes_28 : decode cX12_ownComes 28 = .ok (.bipush 18, 2) := by decide +kernel
theorem dX12_ownComes_30 : decode cX12_ownComes 30 = .ok (.invokestatic 237, 3) := by decide +kernel
theorem dX12_ownComes_33 : decode cX12_ownComes 33 = .ok (.iconst 0, 1) := by decide +kernel
theorem dX12_ownComes_34 : decode cX12_ownComes 34 = .ok (.iastore, 1) := by decide +kernel
theorem dX12_ownComes_35 : decode cX12_ownComes 35 = .ok (.aload_n 0, 1) := by decide +kernel
theorem dX12_ownComes_36 : decode cX12_ownComes 36 = .ok (.iload_n 1, 1) := by decide +kernel
theorem dX12_ownComes_37 : decode cX12_ownComes 37 = .ok (.sipush 264, 3) := by decide +kernel
theorem dX12_ownComes_40 : decode cX12_ownComes 40 = .ok (.invokestatic 237, 3) := by decide +kernel
theorem dX12_ownComes_43 : decode cX12_ownComes 43 = .ok (.iload_n 1, 1) := by decide +kernel
theorem dX12_ownComes_44 : decode cX12_ownComes 44 = .ok (.sipush 1148, 3) := by decide +kernel
theorem dX12_ownComes_47 : decode cX12_ownComes 47 = .ok (.invokestatic 237, 3) := by decide +kernel
theorem dX12_ownComes_50 : decode cX12_ownComes 50 = .ok (.invokevirtual 274, 3) := by decide +kernel
theorem dX12_ownComes_53 : decode cX12_ownComes 53 = .ok (.aload_n 0, 1) := by decide +kernel
theorem dX12_ownComes_54 : decode cX12_ownComes 54 = .ok (.iload_n 1, 1) := by decide +kernel
theorem dX12_ownComes_55 : decode cX12_ownComes 55 = .ok (.invokevirtual 298, 3) := by decide +kernel
theorem dX12_ownComes_58 : decode cX12_ownComes 58 = .ok (.return_, 1) := by decide +kernel
theorem dX12_turnedOver_0 : decode cX12_turnedOver 0 = .ok (.aload_n 0, 1) := by decide +kernel
theorem dX12_turnedOver_1 : decode cX12_turnedOver 1 = .ok (.iload_n 1, 1) := by decide +kernel
theorem dX12_turnedOver_2 : decode cX12_turnedOver 2 = .ok (.iload_n 3, 1) := by decide +kernel
theorem dX12_turnedOver_3 : decode cX12_turnedOver 3 = .ok (.invokestatic 237, 3) := by decide +kernel
theorem dX12_turnedOver_6 : decode cX12_turnedOver 6 = .ok (.invokevirtual 249, 3) := by decide +kernel
theorem dX12_turnedOver_9 : decode cX12_turnedOver 9 = .ok (.aload_n 0, 1) := by decide +kernel
theorem dX12_turnedOver_10 : decode cX12_turnedOver 10 = .ok (.aload_n 0, 1) := by decide +kernel
theorem dX12_turnedOver_11 : decode cX12_turnedOver 11 = .ok (.iload_n 1, 1) := by decide +kernel
theorem dX12_turnedOver_12 : decode cX12_turnedOver 12 = .ok (.iload_n 2, 1) := by decide +kernel
theorem dX12_turnedOver_13 : decode cX12_turnedOver 13 = .ok (.invokevirtual 252, 3) := by decide +kernel
theorem dX12_turnedOver_16 : decode cX12_turnedOver 16 = .ok (.invokevirtual 256, 3) := by decide +kernel
theorem dX12_turnedOver_19 : decode cX12_turnedOver 19 = .ok (.aload_n 0, 1) := by decide +kernel
theorem dX12_turnedOver_20 : decode cX12_turnedOver 20 = .ok (.iload_n 1, 1) := by decide +kernel
theorem dX12_turnedOver_21 : decode cX12_turnedOver 21 = .ok (.iload_n 3, 1) := by decide +kernel
theorem dX12_turnedOver_22 : decode cX12_turnedOver 22 = .ok (.invokestatic 237, 3) := by decide +kernel
theorem dX12_turnedOver_25 : decode cX12_turnedOver 25 = .ok (.invokevirtual 243, 3) := by decide +kernel
theorem dX12_turnedOver_28 : decode cX12_turnedOver 28 = .ok (.aload_n 0, 1) := by decide +kernel
theorem dX12_turnedOver_29 : decode cX12_turnedOver 29 = .ok (.invokevirtual 260, 3) := by decide +kernel
theorem dX12_turnedOver_32 : decode cX12_turnedOver 32 = .ok (.return_, 1) := by decide +kernel
theorem dX12_comes_0 : decode cX12_comes 0 = .ok (.aload_n 0, 1) := by decide +kernel
theorem dX12_comes_1 : decode cX12_comes 1 = .ok (.iload_n 1, 1) := by decide +kernel
theorem dX12_comes_2 : decode cX12_comes 2 = .ok (.iconst 0, 1) := by decide +kernel
theorem dX12_comes_3 : decode cX12_comes 3 = .ok (.invokevirtual 246, 3) := by decide +kernel
theorem dX12_comes_6 : decode cX12_comes 6 = .ok (.istore_n 2, 1) := by decide +kernel
theorem dX12_comes_7 : decode cX12_comes 7 = .ok (.aload_n 0, 1) := by decide +kernel
theorem dX12_comes_8 : decode cX12_comes 8 = .ok (.getfield 69, 3) := by decide +kernel
theorem dX12_comes_11 : decode cX12_comes 11 = .ok (.iload_n 1, 1) := by decide +kernel
theorem dX12_comes_12 : decode cX12_comes 12 = .ok (.iconst 0, 1) := by decide +kernel
theorem dX12_comes_13 : decode cX12_comes 13 = .ok (.invokestatic 237, 3) := by decide +kernel
theorem dX12_comes_16 : decode cX12_comes 16 = .ok (.dup2, 1) := by decide +kernel
theorem dX12_comes_17 : decode cX12_comes 17 = .ok (.iaload, 1) := by decide +kernel
theorem dX12_comes_18 : decode cX12_comes 18 = .ok (.iconst 1, 1) := by decide +kernel
theorem dX12_comes_19 : decode cX12_comes 19 = .ok (.iadd, 1) := by decide +kernel
theorem dX12_comes_20 : decode cX12_comes 20 = .ok (.iastore, 1) := by decide +kernel
theorem dX12_comes_21 : decode cX12_comes 21 = .ok (.aload_n 0, 1) := by decide +kernel
theorem dX12_comes_22 : decode cX12_comes 22 = .ok (.getfield 75, 3) := by decide +kernel
theorem dX12_comes_25 : decode cX12_comes 25 = .ok (.iload_n 2, 1) := by decide +kernel
theorem dX12_comes_26 : decode cX12_comes 26 = .ok (.iaload, 1) := by decide +kernel
theorem dX12_comes_27 : decode cX12_comes 27 = .ok (.iload_n 1, 1) := by decide +kernel
theorem dX12_comes_28 : decode cX12_comes 28 = .ok (.if_icmp .ne 9, 3) := by decide +kernel
theorem dX12_comes_31 : decode cX12_comes 31 = .ok (.aload_n 0, 1) := by decide +kernel
theorem dX12_comes_32 : decode cX12_comes 32 = .ok (.iload_n 1, 1) := by decide +kernel
theorem dX12_comes_33 : decode cX12_comes 33 = .ok (.invokevirtual 313, 3) := by decide +kernel
theorem dX12_comes_36 : decode cX12_comes 36 = .ok (.return_, 1) := by decide +kernel
theorem dX12_comes_37 : decode cX12_comes 37 = .ok (.aload_n 0, 1) := by decide +kernel
theorem dX12_comes_38 : decode cX12_comes 38 = .ok (.iload_n 2, 1) := by decide +kernel
theorem dX12_comes_39 : decode cX12_comes 39 = .ok (.invokevirtual 307, 3) := by decide +kernel
theorem dX12_comes_42 : decode cX12_comes 42 = .ok (.aload_n 0, 1) := by decide +kernel
theorem dX12_comes_43 : decode cX12_comes 43 = .ok (.iload_n 1, 1) := by decide +kernel
theorem dX12_comes_44 : decode cX12_comes 44 = .ok (.bipush 17, 2) := by decide +kernel
theorem dX12_comes_46 : decode cX12_comes 46 = .ok (.invokevirtual 246, 3) := by decide +kernel
theorem dX12_comes_49 : decode cX12_comes 49 = .ok (.iconst 1, 1) := by decide +kernel
theorem dX12_comes_50 : decode cX12_comes 50 = .ok (.if_icmp .ne 17, 3) := by decide +kernel
theorem dX12_comes_53 : decode cX12_comes 53 = .ok (.aload_n 0, 1) := by decide +kernel
theorem dX12_comes_54 : decode cX12_comes 54 = .ok (.iload_n 1, 1) := by decide +kernel
theorem dX12_comes_55 : decode cX12_comes 55 = .ok (.aload_n 0, 1) := by decide +kernel
theorem dX12_comes_56 : decode cX12_comes 56 = .ok (.getfield 75, 3) := by decide +kernel
theorem dX12_comes_59 : decode cX12_comes 59 = .ok (.iload_n 2, 1) := by decide +kernel
theorem dX12_comes_60 : decode cX12_comes 60 = .ok (.iaload, 1) := by decide +kernel
theorem dX12_comes_61 : decode cX12_comes 61 = .ok (.sipush 264, 3) := by decide +kernel
theorem dX12_comes_64 : decode cX12_comes 64 = .ok (.invokevirtual 316, 3) := by decide +kernel
theorem dX12_comes_67 : decode cX12_comes 67 = .ok (.aload_n 0, 1) := by decide +kernel
theorem dX12_comes_68 : decode cX12_comes 68 = .ok (.iload_n 1, 1) := by decide +kernel
theorem dX12_comes_69 : decode cX12_comes 69 = .ok (.bipush 18, 2) := by decide +kernel
theorem dX12_comes_71 : decode cX12_comes 71 = .ok (.invokevirtual 246, 3) := by decide +kernel
theorem dX12_comes_74 : decode cX12_comes 74 = .ok (.iconst 1, 1) := by decide +kernel
theorem dX12_comes_75 : decode cX12_comes 75 = .ok (.if_icmp .ne 17, 3) := by decide +kernel
theorem dX12_comes_78 : decode cX12_comes 78 = .ok (.aload_n 0, 1) := by decide +kernel
theorem dX12_comes_79 : decode cX12_comes 79 = .ok (.iload_n 1, 1) := by decide +kernel
theorem dX12_comes_80 : decode cX12_comes 80 = .ok (.aload_n 0, 1) := by decide +kernel
theorem dX12_comes_81 : decode cX12_comes 81 = .ok (.getfield 75, 3) := by decide +kernel
theorem dX12_comes_84 : decode cX12_comes 84 = .ok (.iload_n 2, 1) := by decide +kernel
theorem dX12_comes_85 : decode cX12_comes 85 = .ok (.iaload, 1) := by decide +kernel
theorem dX12_comes_86 : decode cX12_comes 86 = .ok (.sipush 1148, 3) := by decide +kernel
theorem dX12_comes_89 : decode cX12_comes 89 = .ok (.invokevirtual 316, 3) := by decide +kernel
theorem dX12_comes_92 : decode cX12_comes 92 = .ok (.aload_n 0, 1) := by decide +kernel
theorem dX12_comes_93 : decode cX12_comes 93 = .ok (.iload_n 1, 1) := by decide +kernel
theorem dX12_comes_94 : decode cX12_comes 94 = .ok (.aload_n 0, 1) := by decide +kernel
theorem dX12_comes_95 : decode cX12_comes 95 = .ok (.getfield 54, 3) := by decide +kernel
theorem dX12_comes_98 : decode cX12_comes 98 = .ok (.aload_n 0, 1) := by decide +kernel
theorem dX12_comes_99 : decode cX12_comes 99 = .ok (.getfield 198, 3) := by decide +kernel
theorem dX12_comes_102 : decode cX12_comes 102 = .ok (.iconst 0, 1) := by decide +kernel
theorem dX12_comes_103 : decode cX12_comes 103 = .ok (.invokevirtual 291, 3) := by decide +kernel
theorem dX12_comes_106 : decode cX12_comes 106 = .ok (.aload_n 0, 1) := by decide +kernel
theorem dX12_comes_107 : decode cX12_comes 107 = .ok (.iload_n 1, 1) := by decide +kernel
theorem dX12_comes_108 : decode cX12_comes 108 = .ok (.aload_n 0, 1) := by decide +kernel
theorem dX12_comes_109 : decode cX12_comes 109 = .ok (.getfield 75, 3) := by decide +kernel
theorem dX12_comes_112 : decode cX12_comes 112 = .ok (.iload_n 2, 1) := by decide +kernel
theorem dX12_comes_113 : decode cX12_comes 113 = .ok (.iaload, 1) := by decide +kernel
theorem dX12_comes_114 : decode cX12_comes 114 = .ok (.sipush 1590, 3) := by decide +kernel
theorem dX12_comes_117 : decode cX12_comes 117 = .ok (.bipush 22, 2) := by decide +kernel
theorem dX12_comes_119 : decode cX12_comes 119 = .ok (.invokevirtual 319, 3) := by decide +kernel
theorem dX12_comes_122 : decode cX12_comes 122 = .ok (.aload_n 0, 1) := by decide +kernel
theorem dX12_comes_123 : decode cX12_comes 123 = .ok (.iload_n 1, 1) := by decide +kernel
theorem dX12_comes_124 : decode cX12_comes 124 = .ok (.aload_n 0, 1) := by decide +kernel
theorem dX12_comes_125 : decode cX12_comes 125 = .ok (.getfield 75, 3) := by decide +kernel
theorem dX12_comes_128 : decode cX12_comes 128 = .ok (.iload_n 2, 1) := by decide +kernel
theorem dX12_comes_129 : decode cX12_comes 129 = .ok (.iaload, 1) := by decide +kernel
theorem dX12_comes_130 : decode cX12_comes 130 = .ok (.sipush 2054, 3) := by decide +kernel
theorem dX12_comes_133 : decode cX12_comes 133 = .ok (.bipush 23, 2) := by decide +kernel
theorem dX12_comes_135 : decode cX12_comes 135 = .ok (.invokevirtual 319, 3) := by decide +kernel
theorem dX12_comes_138 : decode cX12_comes 138 = .ok (.return_, 1) := by decide +kernel
theorem dX12_tickGoes_0 : decode cX12_tickGoes 0 = .ok (.iconst 0, 1) := by decide +kernel
theorem dX12_tickGoes_1 : decode cX12_tickGoes 1 = .ok (.istore_n 1, 1) := by decide +kernel
theorem dX12_tickGoes_2 : decode cX12_tickGoes 2 = .ok (.iload_n 1, 1) := by decide +kernel
theorem dX12_tickGoes_3 : decode cX12_tickGoes 3 = .ok (.aload_n 0, 1) := by decide +kernel
theorem dX12_tickGoes_4 : decode cX12_tickGoes 4 = .ok (.getfield 215, 3) := by decide +kernel
theorem dX12_tickGoes_7 : decode cX12_tickGoes 7 = .ok (.if_icmp .ge 101, 3) := by decide +kernel
theorem dX12_tickGoes_10 : decode cX12_tickGoes 10 = .ok (.aload_n 0, 1) := by decide +kernel
theorem dX12_tickGoes_11 : decode cX12_tickGoes 11 = .ok (.iload_n 1, 1) := by decide +kernel
theorem dX12_tickGoes_12 : decode cX12_tickGoes 12 = .ok (.bipush 15, 2) := by decide +kernel
theorem dX12_tickGoes_14 : decode cX12_tickGoes 14 = .ok (.invokevirtual 246, 3) := by decide +kernel
theorem dX12_tickGoes_17 : decode cX12_tickGoes 17 = .ok (.ifCond .ne 6, 3) := by decide +kernel
theorem dX12_tickGoes_20 : decode cX12_tickGoes 20 = .ok (.goto 82, 3) := by decide +kernel
theorem dX12_tickGoes_23 : decode cX12_tickGoes 23 = .ok (.aload_n 0, 1) := by decide +kernel
theorem dX12_tickGoes_24 : decode cX12_tickGoes 24 = .ok (.iload_n 1, 1) := by decide +kernel
theorem dX12_tickGoes_25 : decode cX12_tickGoes 25 = .ok (.bipush 19, 2) := by decide +kernel
theorem dX12_tickGoes_27 : decode cX12_tickGoes 27 = .ok (.invokevirtual 246, 3) := by decide +kernel
theorem dX12_tickGoes_30 : decode cX12_tickGoes 30 = .ok (.ifCond .le 18, 3) := by decide +kernel
theorem dX12_tickGoes_33 : decode cX12_tickGoes 33 = .ok (.aload_n 0, 1) := by decide +kernel
theorem dX12_tickGoes_34 : decode cX12_tickGoes 34 = .ok (.getfield 69, 3) := by decide +kernel
theorem dX12_tickGoes_37 : decode cX12_tickGoes 37 = .ok (.iload_n 1, 1) := by decide +kernel
theorem dX12_tickGoes_38 : decode cX12_tickGoes 38 = .ok (.bipush 19, 2) := by decide +kernel
theorem dX12_tickGoes_40 : decode cX12_tickGoes 40 = .ok (.invokestatic 237, 3) := by decide +kernel
theorem dX12_tickGoes_43 : decode cX12_tickGoes 43 = .ok (.dup2, 1) := by decide +kernel
theorem dX12_tickGoes_44 : decode cX12_tickGoes 44 = .ok (.iaload, 1) := by decide +kernel
theorem dX12_tickGoes_45 : decode cX12_tickGoes 45 = .ok (.iconst 1, 1) := by decide +kernel
theorem dX12_tickGoes_46 : decode cX12_tickGoes 46 = .ok (.isub, 1) := by decide +kernel
theorem dX12_tickGoes_47 : decode cX12_tickGoes 47 = .ok (.iastore, 1) := by decide +kernel
theorem dX12_tickGoes_48 : decode cX12_tickGoes 48 = .ok (.aload_n 0, 1) := by decide +kernel
theorem dX12_tickGoes_49 : decode cX12_tickGoes 49 = .ok (.iload_n 1, 1) := by decide +kernel
theorem dX12_tickGoes_50 : decode cX12_tickGoes 50 = .ok (.iconst 0, 1) := by decide +kernel
theorem dX12_tickGoes_51 : decode cX12_tickGoes 51 = .ok (.invokevirtual 246, 3) := by decide +kernel
theorem dX12_tickGoes_54 : decode cX12_tickGoes 54 = .ok (.istore_n 2, 1) := by decide +kernel
theorem dX12_tickGoes_55 : decode cX12_tickGoes 55 = .ok (.iload_n 2, 1) := by decide +kernel
theorem dX12_tickGoes_56 : decode cX12_tickGoes 56 = .ok (.aload_n 0, 1) := by decide +kernel
theorem dX12_tickGoes_57 : decode cX12_tickGoes 57 = .ok (.getfield 69, 3) := by decide +kernel
theorem dX12_tickGoes_60 : decode cX12_tickGoes 60 = .ok (.iconst 1, 1) := by decide +kernel
theorem dX12_tickGoes_61 : decode cX12_tickGoes 61 = .ok (.iaload, 1) := by decide +kernel
theorem dX12_tickGoes_62 : decode cX12_tickGoes 62 = .ok (.if_icmp .ge 40, 3) := by decide +kernel
theorem dX12_tickGoes_65 : decode cX12_tickGoes 65 = .ok (.aload_n 0, 1) := by decide +kernel
theorem dX12_tickGoes_66 : decode cX12_tickGoes 66 = .ok (.iload_n 1, 1) := by decide +kernel
theorem dX12_tickGoes_67 : decode cX12_tickGoes 67 = .ok (.sipush 2518, 3) := by decide +kernel
theorem dX12_tickGoes_70 : decode cX12_tickGoes 70 = .ok (.iload_n 2, 1) := by decide +kernel
theorem dX12_tickGoes_71 : decode cX12_tickGoes 71 = .ok (.iadd, 1) := by decide +kernel
theorem dX12_tickGoes_72 : decode cX12_tickGoes 72 = .ok (.invokevirtual 246, 3) := by decide +kernel
theorem dX12_tickGoes_75 : decode cX12_tickGoes 75 = .ok (.ifCond .le 21, 3) := by decide +kernel
theorem dX12_tickGoes_78 : decode cX12_tickGoes 78 = .ok (.aload_n 0, 1) := by decide +kernel
theorem dX12_tickGoes_79 : decode cX12_tickGoes 79 = .ok (.getfield 69, 3) := by decide +kernel
theorem dX12_tickGoes_82 : decode cX12_tickGoes 82 = .ok (.iload_n 1, 1) := by decide +kernel
theorem dX12_tickGoes_83 : decode cX12_tickGoes 83 = .ok (.sipush 2518, 3) := by decide +kernel
theorem dX12_tickGoes_86 : decode cX12_tickGoes 86 = .ok (.iload_n 2, 1) := by decide +kernel
theorem dX12_tickGoes_87 : decode cX12_tickGoes 87 = .ok (.iadd, 1) := by decide +kernel
theorem dX12_tickGoes_88 : decode cX12_tickGoes 88 = .ok (.invokestatic 237, 3) := by decide +kernel
theorem dX12_tickGoes_91 : decode cX12_tickGoes 91 = .ok (.dup2, 1) := by decide +kernel
theorem dX12_tickGoes_92 : decode cX12_tickGoes 92 = .ok (.iaload, 1) := by decide +kernel
theorem dX12_tickGoes_93 : decode cX12_tickGoes 93 = .ok (.iconst 1, 1) := by decide +kernel
theorem dX12_tickGoes_94 : decode cX12_tickGoes 94 = .ok (.isub, 1) := by decide +kernel
theorem dX12_tickGoes_95 : decode cX12_tickGoes 95 = .ok (.iastore, 1) := by decide +kernel
theorem dX12_tickGoes_96 : decode cX12_tickGoes 96 = .ok (.iinc 2 1, 3) := by decide +kernel
theorem dX12_tickGoes_99 : decode cX12_tickGoes 99 = .ok (.goto (-44), 3) := by decide +kernel
theorem dX12_tickGoes_102 : decode cX12_tickGoes 102 = .ok (.iinc 1 1, 3) := by decide +kernel
theorem dX12_tickGoes_105 : decode cX12_tickGoes 105 = .ok (.goto (-103), 3) := by decide +kernel
theorem dX12_tickGoes_108 : decode cX12_tickGoes 108 = .ok (.iconst 0, 1) := by decide +kernel
theorem dX12_tickGoes_109 : decode cX12_tickGoes 109 = .ok (.istore_n 1, 1) := by decide +kernel
theorem dX12_tickGoes_110 : decode cX12_tickGoes 110 = .ok (.iload_n 1, 1) := by decide +kernel
theorem dX12_tickGoes_111 : decode cX12_tickGoes 111 = .ok (.aload_n 0, 1) := by decide +kernel
theorem dX12_tickGoes_112 : decode cX12_tickGoes 112 = .ok (.getfield 215, 3) := by decide +kernel
theorem dX12_tickGoes_115 : decode cX12_tickGoes 115 = .ok (.if_icmp .ge 47, 3) := by decide +kernel
theorem dX12_tickGoes_118 : decode cX12_tickGoes 118 = .ok (.aload_n 0, 1) := by decide +kernel
theorem dX12_tickGoes_119 : decode cX12_tickGoes 119 = .ok (.iload_n 1, 1) := by decide +kernel
theorem dX12_tickGoes_120 : decode cX12_tickGoes 120 = .ok (.bipush 15, 2) := by decide +kernel
theorem dX12_tickGoes_122 : decode cX12_tickGoes 122 = .ok (.invokevirtual 246, 3) := by decide +kernel
theorem dX12_tickGoes_125 : decode cX12_tickGoes 125 = .ok (.ifCond .eq 31, 3) := by decide +kernel
theorem dX12_tickGoes_128 : decode cX12_tickGoes 128 = .ok (.aload_n 0, 1) := by decide +kernel
theorem dX12_tickGoes_129 : decode cX12_tickGoes 129 = .ok (.iload_n 1, 1) := by decide +kernel
theorem dX12_tickGoes_130 : decode cX12_tickGoes 130 = .ok (.bipush 19, 2) := by decide +kernel
theorem dX12_tickGoes_132 : decode cX12_tickGoes 132 = .ok (.invokevirtual 246, 3) := by decide +kernel
theorem dX12_tickGoes_135 : decode cX12_tickGoes 135 = .ok (.ifCond .eq 6, 3) := by decide +kernel
theorem dX12_tickGoes_138 : decode cX12_tickGoes 138 = .ok (.goto 18, 3) := by decide +kernel
theorem dX12_tickGoes_141 : decode cX12_tickGoes 141 = .ok (.aload_n 0, 1) := by decide +kernel
theorem dX12_tickGoes_142 : decode cX12_tickGoes 142 = .ok (.iload_n 1, 1) := by decide +kernel
theorem dX12_tickGoes_143 : decode cX12_tickGoes 143 = .ok (.invokevirtual 323, 3) := by decide +kernel
theorem dX12_tickGoes_146 : decode cX12_tickGoes 146 = .ok (.aload_n 0, 1) := by decide +kernel
theorem dX12_tickGoes_147 : decode cX12_tickGoes 147 = .ok (.dup, 1) := by decide +kernel
theorem dX12_tickGoes_148 : decode cX12_tickGoes 148 = .ok (.getfield 326, 3) := by decide +kernel
theorem dX12_tickGoes_151 : decode cX12_tickGoes 151 = .ok (.iconst 1, 1) := by decide +kernel
theorem dX12_tickGoes_152 : decode cX12_tickGoes 152 = .ok (.iadd, 1) := by decide +kernel
theorem dX12_tickGoes_153 : decode cX12_tickGoes 153 = .ok (.putfield 326, 3) := by decide +kernel
theorem dX12_tickGoes_156 : decode cX12_tickGoes 156 = .ok (.iinc 1 1, 3) := by decide +kernel
theorem dX12_tickGoes_159 : decode cX12_tickGoes 159 = .ok (.goto (-49), 3) := by decide +kernel
theorem dX12_tickGoes_162 : decode cX12_tickGoes 162 = .ok (.iconst 0, 1) := by decide +kernel
theorem dX12_tickGoes_163 : decode cX12_tickGoes 163 = .ok (.istore_n 1, 1) := by decide +kernel
theorem dX12_tickGoes_164 : decode cX12_tickGoes 164 = .ok (.iload_n 1, 1) := by decide +kernel
theorem dX12_tickGoes_165 : decode cX12_tickGoes 165 = .ok (.aload_n 0, 1) := by decide +kernel
theorem dX12_tickGoes_166 : decode cX12_tickGoes 166 = .ok (.getfield 215, 3) := by decide +kernel
theorem dX12_tickGoes_169 : decode cX12_tickGoes 169 = .ok (.if_icmp .ge 61, 3) := by decide +kernel
theorem dX12_tickGoes_172 : decode cX12_tickGoes 172 = .ok (.aload_n 0, 1) := by decide +kernel
theorem dX12_tickGoes_173 : decode cX12_tickGoes 173 = .ok (.iload_n 1, 1) := by decide +kernel
theorem dX12_tickGoes_174 : decode cX12_tickGoes 174 = .ok (.bipush 15, 2) := by decide +kernel
theorem dX12_tickGoes_176 : decode cX12_tickGoes 176 = .ok (.invokevirtual 246, 3) := by decide +kernel
theorem dX12_tickGoes_179 : decode cX12_tickGoes 179 = .ok (.iconst 1, 1) := by decide +kernel
theorem dX12_tickGoes_180 : decode cX12_tickGoes 180 = .ok (.if_icmp .ne 44, 3) := by decide +kernel
theorem dX12_tickGoes_183 : decode cX12_tickGoes 183 = .ok (.aload_n 0, 1) := by decide +kernel
theorem dX12_tickGoes_184 : decode cX12_tickGoes 184 = .ok (.iload_n 1, 1) := by decide +kernel
theorem dX12_tickGoes_185 : decode cX12_tickGoes 185 = .ok (.iconst 0, 1) := by decide +kernel
theorem dX12_tickGoes_186 : decode cX12_tickGoes 186 = .ok (.invokevirtual 246, 3) := by decide +kernel
theorem dX12_tickGoes_189 : decode cX12_tickGoes 189 = .ok (.aload_n 0, 1) := by decide +kernel
theorem dX12_tickGoes_190 : decode cX12_tickGoes 190 = .ok (.getfield 69, 3) := by decide +kernel
theorem dX12_tickGoes_193 : decode cX12_tickGoes 193 = .ok (.iconst 1, 1) := by decide +kernel
theorem dX12_tickGoes_194 : decode cX12_tickGoes 194 = .ok (.iaload, 1) := by decide +kernel
theorem dX12_tickGoes_195 : decode cX12_tickGoes 195 = .ok (.if_icmp .ge 29, 3) := by decide +kernel
theorem dX12_tickGoes_198 : decode cX12_tickGoes 198 = .ok (.aload_n 0, 1) := by decide +kernel
theorem dX12_tickGoes_199 : decode cX12_tickGoes 199 = .ok (.iload_n 1, 1) := by decide +kernel
theorem dX12_tickGoes_200 : decode cX12_tickGoes 200 = .ok (.sipush 2518, 3) := by decide +kernel
theorem dX12_tickGoes_203 : decode cX12_tickGoes 203 = .ok (.aload_n 0, 1) := by decide +kernel
theorem dX12_tickGoes_204 : decode cX12_tickGoes 204 = .ok (.iload_n 1, 1) := by decide +kernel
theorem dX12_tickGoes_205 : decode cX12_tickGoes 205 = .ok (.iconst 0, 1) := by decide +kernel
theorem dX12_tickGoes_206 : decode cX12_tickGoes 206 = .ok (.invokevirtual 246, 3) := by decide +kernel
theorem dX12_tickGoes_209 : decode cX12_tickGoes 209 = .ok (.iadd, 1) := by decide +kernel
theorem dX12_tickGoes_210 : decode cX12_tickGoes 210 = .ok (.invokevirtual 246, 3) := by decide +kernel
theorem dX12_tickGoes_213 : decode cX12_tickGoes 213 = .ok (.ifCond .ne 11, 3) := by decide +kernel
theorem dX12_tickGoes_216 : decode cX12_tickGoes 216 = .ok (.aload_n 0, 1) := by decide +kernel
theorem dX12_tickGoes_217 : decode cX12_tickGoes 217 = .ok (.iload_n 1, 1) := by decide +kernel
theorem dX12_tickGoes_218 : decode cX12_tickGoes 218 = .ok (.invokevirtual 329, 3) := by decide +kernel
theorem dX12_tickGoes_221 : decode cX12_tickGoes 221 = .ok (.goto (-49), 3) := by decide +kernel
theorem dX12_tickGoes_224 : decode cX12_tickGoes 224 = .ok (.iinc 1 1, 3) := by decide +kernel
theorem dX12_tickGoes_227 : decode cX12_tickGoes 227 = .ok (.goto (-63), 3) := by decide +kernel
theorem dX12_tickGoes_230 : decode cX12_tickGoes 230 = .ok (.aload_n 0, 1) := by decide +kernel
theorem dX12_tickGoes_231 : decode cX12_tickGoes 231 = .ok (.getfield 69, 3) := by decide +kernel
theorem dX12_tickGoes_234 : decode cX12_tickGoes 234 = .ok (.iconst 0, 1) := by decide +kernel
theorem dX12_tickGoes_235 : decode cX12_tickGoes 235 = .ok (.dup2, 1) := by decide +kernel
theorem dX12_tickGoes_236 : decode cX12_tickGoes 236 = .ok (.iaload, 1) := by decide +kernel
theorem dX12_tickGoes_237 : decode cX12_tickGoes 237 = .ok (.iconst 1, 1) := by decide +kernel
theorem dX12_tickGoes_238 : decode cX12_tickGoes 238 = .ok (.iadd, 1) := by decide +kernel
theorem dX12_tickGoes_239 : decode cX12_tickGoes 239 = .ok (.iastore, 1) := by decide +kernel
theorem dX12_tickGoes_240 : decode cX12_tickGoes 240 = .ok (.return_, 1) := by decide +kernel
theorem dX12_wayMany_0 : decode cX12_wayMany 0 = .ok (.iconst 0, 1) := by decide +kernel
theorem dX12_wayMany_1 : decode cX12_wayMany 1 = .ok (.istore_n 1, 1) := by decide +kernel
theorem dX12_wayMany_2 : decode cX12_wayMany 2 = .ok (.iconst 0, 1) := by decide +kernel
theorem dX12_wayMany_3 : decode cX12_wayMany 3 = .ok (.istore_n 2, 1) := by decide +kernel
theorem dX12_wayMany_4 : decode cX12_wayMany 4 = .ok (.iload_n 2, 1) := by decide +kernel
theorem dX12_wayMany_5 : decode cX12_wayMany 5 = .ok (.aload_n 0, 1) := by decide +kernel
theorem dX12_wayMany_6 : decode cX12_wayMany 6 = .ok (.getfield 215, 3) := by decide +kernel
theorem dX12_wayMany_9 : decode cX12_wayMany 9 = .ok (.if_icmp .ge 42, 3) := by decide +kernel
theorem dX12_wayMany_12 : decode cX12_wayMany 12 = .ok (.iload_n 1, 1) := by decide +kernel
theorem dX12_wayMany_13 : decode cX12_wayMany 13 = .ok (.aload_n 0, 1) := by decide +kernel
theorem dX12_wayMany_14 : decode cX12_wayMany 14 = .ok (.getfield 69, 3) := by decide +kernel
theorem dX12_wayMany_17 : decode cX12_wayMany 17 = .ok (.iconst 1, 1) := by decide +kernel
theorem dX12_wayMany_18 : decode cX12_wayMany 18 = .ok (.iaload, 1) := by decide +kernel
theorem dX12_wayMany_19 : decode cX12_wayMany 19 = .ok (.aload_n 0, 1) := by decide +kernel
theorem dX12_wayMany_20 : decode cX12_wayMany 20 = .ok (.iload_n 2, 1) := by decide +kernel
theorem dX12_wayMany_21 : decode cX12_wayMany 21 = .ok (.iconst 0, 1) := by decide +kernel
theorem dX12_wayMany_22 : decode cX12_wayMany 22 = .ok (.invokevirtual 246, 3) := by decide +kernel
theorem dX12_wayMany_25 : decode cX12_wayMany 25 = .ok (.isub, 1) := by decide +kernel
theorem dX12_wayMany_26 : decode cX12_wayMany 26 = .ok (.aload_n 0, 1) := by decide +kernel
theorem dX12_wayMany_27 : decode cX12_wayMany 27 = .ok (.iload_n 2, 1) := by decide +kernel
theorem dX12_wayMany_28 : decode cX12_wayMany 28 = .ok (.bipush 19, 2) := by decide +kernel
theorem dX12_wayMany_30 : decode cX12_wayMany 30 = .ok (.invokevirtual 246, 3) := by decide +kernel
theorem dX12_wayMany_33 : decode cX12_wayMany 33 = .ok (.iconst (-1), 1) := by decide +kernel
theorem dX12_wayMany_34 : decode cX12_wayMany 34 = .ok (.if_icmp .ne 7, 3) := by decide +kernel
theorem dX12_wayMany_37 : decode cX12_wayMany 37 = .ok (.iconst 0, 1) := by decide +kernel
theorem dX12_wayMany_38 : decode cX12_wayMany 38 = .ok (.goto 4, 3) := by decide +kernel
theorem dX12_wayMany_41 : decode cX12_wayMany 41 = .ok (.iconst 1, 1) := by decide +kernel
theorem dX12_wayMany_42 : decode cX12_wayMany 42 = .ok (.iadd, 1) := by decide +kernel
theorem dX12_wayMany_43 : decode cX12_wayMany 43 = .ok (.iadd, 1) := by decide +kernel
theorem dX12_wayMany_44 : decode cX12_wayMany 44 = .ok (.istore_n 1, 1) := by decide +kernel
theorem dX12_wayMany_45 : decode cX12_wayMany 45 = .ok (.iinc 2 1, 3) := by decide +kernel
theorem dX12_wayMany_48 : decode cX12_wayMany 48 = .ok (.goto (-44), 3) := by decide +kernel
theorem dX12_wayMany_51 : decode cX12_wayMany 51 = .ok (.iload_n 1, 1) := by decide +kernel
theorem dX12_wayMany_52 : decode cX12_wayMany 52 = .ok (.ireturn, 1) := by decide +kernel
theorem dX12_ticksGo_0 : decode cX12_ticksGo 0 = .ok (.aload_n 0, 1) := by decide +kernel
theorem dX12_ticksGo_1 : decode cX12_ticksGo 1 = .ok (.iconst 0, 1) := by decide +kernel
theorem dX12_ticksGo_2 : decode cX12_ticksGo 2 = .ok (.putfield 326, 3) := by decide +kernel
theorem dX12_ticksGo_5 : decode cX12_ticksGo 5 = .ok (.iconst 0, 1) := by decide +kernel
theorem dX12_ticksGo_6 : decode cX12_ticksGo 6 = .ok (.istore_n 2, 1) := by decide +kernel
theorem dX12_ticksGo_7 : decode cX12_ticksGo 7 = .ok (.iload_n 2, 1) := by decide +kernel
theorem dX12_ticksGo_8 : decode cX12_ticksGo 8 = .ok (.iload_n 1, 1) := by decide +kernel
theorem dX12_ticksGo_9 : decode cX12_ticksGo 9 = .ok (.if_icmp .ge 13, 3) := by decide +kernel
theorem dX12_ticksGo_12 : decode cX12_ticksGo 12 = .ok (.aload_n 0, 1) := by decide +kernel
theorem dX12_ticksGo_13 : decode cX12_ticksGo 13 = .ok (.invokevirtual 332, 3) := by decide +kernel
theorem dX12_ticksGo_16 : decode cX12_ticksGo 16 = .ok (.iinc 2 1, 3) := by decide +kernel
theorem dX12_ticksGo_19 : decode cX12_ticksGo 19 = .ok (.goto (-12), 3) := by decide +kernel
theorem dX12_ticksGo_22 : decode cX12_ticksGo 22 = .ok (.return_, 1) := by decide +kernel
theorem dX12_editorTold_0 : decode cX12_editorTold 0 = .ok (.aload_n 0, 1) := by decide +kernel
theorem dX12_editorTold_1 : decode cX12_editorTold 1 = .ok (.iconst 0, 1) := by decide +kernel
theorem dX12_editorTold_2 : decode cX12_editorTold 2 = .ok (.aload_n 0, 1) := by decide +kernel
theorem dX12_editorTold_3 : decode cX12_editorTold 3 = .ok (.getfield 335, 3) := by decide +kernel
theorem dX12_editorTold_6 : decode cX12_editorTold 6 = .ok (.iconst 1, 1) := by decide +kernel
theorem dX12_editorTold_7 : decode cX12_editorTold 7 = .ok (.isub, 1) := by decide +kernel
theorem dX12_editorTold_8 : decode cX12_editorTold 8 = .ok (.invokevirtual 338, 3) := by decide +kernel
theorem dX12_editorTold_11 : decode cX12_editorTold 11 = .ok (.ireturn, 1) := by decide +kernel
theorem dX12_opTold_0 : decode cX12_opTold 0 = .ok (.iconst 0, 1) := by decide +kernel
theorem dX12_opTold_1 : decode cX12_opTold 1 = .ok (.istore_n 2, 1) := by decide +kernel
theorem dX12_opTold_2 : decode cX12_opTold 2 = .ok (.iconst 1, 1) := by decide +kernel
theorem dX12_opTold_3 : decode cX12_opTold 3 = .ok (.istore_n 3, 1) := by decide +kernel
theorem dX12_opTold_4 : decode cX12_opTold 4 = .ok (.iload_n 3, 1) := by decide +kernel
theorem dX12_opTold_5 : decode cX12_opTold 5 = .ok (.ifCond .eq 94, 3) := by decide +kernel
theorem dX12_opTold_8 : decode cX12_opTold 8 = .ok (.aload_n 0, 1) := by decide +kernel
theorem dX12_opTold_9 : decode cX12_opTold 9 = .ok (.getfield 149, 3) := by decide +kernel
theorem dX12_opTold_12 : decode cX12_opTold 12 = .ok (.ifCond .ne 87, 3) := by decide +kernel
theorem dX12_opTold_15 : decode cX12_opTold 15 = .ok (.iload_n 2, 1) := by decide +kernel
theorem dX12_opTold_16 : decode cX12_opTold 16 = .ok (.bipush 40, 2) := by decide +kernel
theorem dX12_opTold_18 : decode cX12_opTold 18 = .ok (.if_icmp .ne 12, 3) := by decide +kernel
theorem dX12_opTold_21 : decode cX12_opTold 21 = .ok (.aload_n 0, 1) := by decide +kernel
theorem dX12_opTold_22 : decode cX12_opTold 22 = .ok (.iconst 5, 1) := by decide +kernel
theorem dX12_opTold_23 : decode cX12_opTold 23 = .ok (.aload_n 0, 1) := by decide +kernel
theorem dX12_opTold_24 : decode cX12_opTold 24 = .ok (.getfield 159, 3) := by decide +kernel
theorem dX12_opTold_27 : decode cX12_opTold 27 = .ok (.invokevirtual 179, 3) := by decide +kernel
theorem dX12_opTold_30 : decode cX12_opTold 30 = .ok (.aload_n 0, 1) := by decide +kernel
theorem dX12_opTold_31 : decode cX12_opTold 31 = .ok (.bipush 43, 2) := by decide +kernel
theorem dX12_opTold_33 : decode cX12_opTold 33 = .ok (.invokevirtual 183, 3) := by decide +kernel
theorem dX12_opTold_36 : decode cX12_opTold 36 = .ok (.ifCond .eq 13, 3) := by decide +kernel
theorem dX12_opTold_39 : decode cX12_opTold 39 = .ok (.aload_n 0, 1) := by decide +kernel
theorem dX12_opTold_40 : decode cX12_opTold 40 = .ok (.bipush 20, 2) := by decide +kernel
theorem dX12_opTold_42 : decode cX12_opTold 42 = .ok (.invokevirtual 341, 3) := by decide +kernel
theorem dX12_opTold_45 : decode cX12_opTold 45 = .ok (.pop, 1) := by decide +kernel
theorem dX12_opTold_46 : decode cX12_opTold 46 = .ok (.goto 18, 3) := by decide +kernel
theorem dX12_opTold_49 : decode cX12_opTold 49 = .ok (.aload_n 0, 1) := by decide +kernel
theorem dX12_opTold_50 : decode cX12_opTold 50 = .ok (.bipush 45, 2) := by decide +kernel
theorem dX12_opTold_52 : decode cX12_opTold 52 = .ok (.invokevirtual 183, 3) := by decide +kernel
theorem dX12_opTold_55 : decode cX12_opTold 55 = .ok (.pop, 1) := by decide +kernel
theorem dX12_opTold_56 : decode cX12_opTold 56 = .ok (.aload_n 0, 1) := by decide +kernel
theorem dX12_opTold_57 : decode cX12_opTold 57 = .ok (.iconst 1, 1) := by decide +kernel
theorem dX12_opTold_58 : decode cX12_opTold 58 = .ok (.bipush 99, 2) := by decide +kernel
theorem dX12_opTold_60 : decode cX12_opTold 60 = .ok (.invokevirtual 338, 3) := by decide +kernel
theorem dX12_opTold_63 : decode cX12_opTold 63 = .ok (.pop, 1) := by decide +kernel
theorem dX12_opTold_64 : decode cX12_opTold 64 = .ok (.iinc 2 1, 3) := by decide +kernel
theorem dX12_opTold_67 : decode cX12_opTold 67 = .ok (.aload_n 0, 1) := by decide +kernel
theorem dX12_opTold_68 : decode cX12_opTold 68 = .ok (.invokevirtual 165, 3) := by decide +kernel
theorem dX12_opTold_71 : decode cX12_opTold 71 = .ok (.istore 4, 2) := by decide +kernel
theorem dX12_opTold_73 : decode cX12_opTold 73 = .ok (.iload 4, 2) := by decide +kernel
theorem dX12_opTold_75 : decode cX12_opTold 75 = .ok (.iconst (-1), 1) := by decide +kernel
theorem dX12_opTold_76 : decode cX12_opTold 76 = .ok (.if_icmp .eq 18, 3) := by decide +kernel
theorem dX12_opTold_79 : decode cX12_opTold 79 = .ok (.iload_n 1, 1) := by decide +kernel
theorem dX12_opTold_80 : decode cX12_opTold 80 = .ok (.ifCond .ne 10, 3) := by decide +kernel
theorem dX12_opTold_83 : decode cX12_opTold 83 = .ok (.iload 4, 2) := by decide +kernel
theorem dX12_opTold_85 : decode cX12_opTold 85 = .ok (.bipush 59, 2) := by decide +kernel
theorem dX12_opTold_87 : decode cX12_opTold 87 = .ok (.if_icmp .eq 7, 3) := by decide +kernel
theorem dX12_opTold_90 : decode cX12_opTold 90 = .ok (.iconst 1, 1) := by decide +kernel
theorem dX12_opTold_91 : decode cX12_opTold 91 = .ok (.goto 4, 3) := by decide +kernel
theorem dX12_opTold_94 : decode cX12_opTold 94 = .ok (.iconst 0, 1) := by decide +kernel
theorem dX12_opTold_95 : decode cX12_opTold 95 = .ok (.istore_n 3, 1) := by decide +kernel
theorem dX12_opTold_96 : decode cX12_opTold 96 = .ok (.goto (-92), 3) := by decide +kernel
theorem dX12_opTold_99 : decode cX12_opTold 99 = .ok (.return_, 1) := by decide +kernel
theorem dX12_headTold_0 : decode cX12_headTold 0 = .ok (.aload_n 0, 1) := by decide +kernel
theorem dX12_headTold_1 : decode cX12_headTold 1 = .ok (.aload_n 0, 1) := by decide +kernel
theorem dX12_headTold_2 : decode cX12_headTold 2 = .ok (.getfield 20, 3) := by decide +kernel
theorem dX12_headTold_5 : decode cX12_headTold 5 = .ok (.invokevirtual 344, 3) := by decide +kernel
theorem dX12_headTold_8 : decode cX12_headTold 8 = .ok (.aload_n 0, 1) := by decide +kernel
theorem dX12_headTold_9 : decode cX12_headTold 9 = .ok (.aload_n 0, 1) := by decide +kernel
theorem dX12_headTold_10 : decode cX12_headTold 10 = .ok (.bipush 40, 2) := by decide +kernel
theorem dX12_headTold_12 : decode cX12_headTold 12 = .ok (.invokevirtual 341, 3) := by decide +kernel
theorem dX12_headTold_15 : decode cX12_headTold 15 = .ok (.putfield 348, 3) := by decide +kernel
theorem dX12_headTold_18 : decode cX12_headTold 18 = .ok (.aload_n 0, 1) := by decide +kernel
theorem dX12_headTold_19 : decode cX12_headTold 19 = .ok (.aload_n 0, 1) := by decide +kernel
theorem dX12_headTold_20 : decode cX12_headTold 20 = .ok (.getfield 159, 3) := by decide +kernel
theorem dX12_headTold_23 : decode cX12_headTold 23 = .ok (.putfield 351, 3) := by decide +kernel
theorem dX12_headTold_26 : decode cX12_headTold 26 = .ok (.aload_n 0, 1) := by decide +kernel
theorem dX12_headTold_27 : decode cX12_headTold 27 = .ok (.aload_n 0, 1) := by decide +kernel
theorem dX12_headTold_28 : decode cX12_headTold 28 = .ok (.getfield 24, 3) := by decide +kernel
theorem dX12_headTold_31 : decode cX12_headTold 31 = .ok (.invokevirtual 344, 3) := by decide +kernel
theorem dX12_headTold_34 : decode cX12_headTold 34 = .ok (.aload_n 0, 1) := by decide +kernel
theorem dX12_headTold_35 : decode cX12_headTold 35 = .ok (.aload_n 0, 1) := by decide +kernel
theorem dX12_headTold_36 : decode cX12_headTold 36 = .ok (.iconst 2, 1) := by decide +kernel
theorem dX12_headTold_37 : decode cX12_headTold 37 = .ok (.iconst 4, 1) := by decide +kernel
theorem dX12_headTold_38 : decode cX12_headTold 38 = .ok (.invokevirtual 338, 3) := by decide +kernel
theorem dX12_headTold_41 : decode cX12_headTold 41 = .ok (.putfield 335, 3) := by decide +kernel
theorem dX12_headTold_44 : decode cX12_headTold 44 = .ok (.return_, 1) := by decide +kernel
theorem dX12_markTold_0 : decode cX12_markTold 0 = .ok (.aload_n 0, 1) := by decide +kernel
theorem dX12_markTold_1 : decode cX12_markTold 1 = .ok (.invokevirtual 354, 3) := by decide +kernel
theorem dX12_markTold_4 : decode cX12_markTold 4 = .ok (.pop, 1) := by decide +kernel
theorem dX12_markTold_5 : decode cX12_markTold 5 = .ok (.aload_n 0, 1) := by decide +kernel
theorem dX12_markTold_6 : decode cX12_markTold 6 = .ok (.iconst 0, 1) := by decide +kernel
theorem dX12_markTold_7 : decode cX12_markTold 7 = .ok (.bipush 99, 2) := by decide +kernel
theorem dX12_markTold_9 : decode cX12_markTold 9 = .ok (.invokevirtual 338, 3) := by decide +kernel
theorem dX12_markTold_12 : decode cX12_markTold 12 = .ok (.pop, 1) := by decide +kernel
theorem dX12_markTold_13 : decode cX12_markTold 13 = .ok (.aload_n 0, 1) := by decide +kernel
theorem dX12_markTold_14 : decode cX12_markTold 14 = .ok (.iconst 0, 1) := by decide +kernel
theorem dX12_markTold_15 : decode cX12_markTold 15 = .ok (.bipush 99, 2) := by decide +kernel
theorem dX12_markTold_17 : decode cX12_markTold 17 = .ok (.invokevirtual 338, 3) := by decide +kernel
theorem dX12_markTold_20 : decode cX12_markTold 20 = .ok (.pop, 1) := by decide +kernel
theorem dX12_markTold_21 : decode cX12_markTold 21 = .ok (.aload_n 0, 1) := by decide +kernel
theorem dX12_markTold_22 : decode cX12_markTold 22 = .ok (.iconst 0, 1) := by decide +kernel
theorem dX12_markTold_23 : decode cX12_markTold 23 = .ok (.iconst 3, 1) := by decide +kernel
theorem dX12_markTold_24 : decode cX12_markTold 24 = .ok (.invokevirtual 338, 3) := by decide +kernel
theorem dX12_markTold_27 : decode cX12_markTold 27 = .ok (.pop, 1) := by decide +kernel
theorem dX12_markTold_28 : decode cX12_markTold 28 = .ok (.return_, 1) := by decide +kernel
theorem dX12_delayTold_0 : decode cX12_delayTold 0 = .ok (.aload_n 0, 1) := by decide +kernel
theorem dX12_delayTold_1 : decode cX12_delayTold 1 = .ok (.invokevirtual 354, 3) := by decide +kernel
theorem dX12_delayTold_4 : decode cX12_delayTold 4 = .ok (.pop, 1) := by decide +kernel
theorem dX12_delayTold_5 : decode cX12_delayTold 5 = .ok (.aload_n 0, 1) := by decide +kernel
theorem dX12_delayTold_6 : decode cX12_delayTold 6 = .ok (.iconst 0, 1) := by decide +kernel
theorem dX12_delayTold_7 : decode cX12_delayTold 7 = .ok (.bipush 9, 2) := by decide +kernel
theorem dX12_delayTold_9 : decode cX12_delayTold 9 = .ok (.invokevirtual 338, 3) := by decide +kernel
theorem dX12_delayTold_12 : decode cX12_delayTold 12 = .ok (.pop, 1) := by decide +kernel
theorem dX12_delayTold_13 : decode cX12_delayTold 13 = .ok (.return_, 1) := by decide +kernel
theorem dX12_statementTold_0 : decode cX12_statementTold 0 = .ok (.aload_n 0, 1) := by decide +kernel
theorem dX12_statementTold_1 : decode cX12_statementTold 1 = .ok (.getfield 357, 3) := by decide +kernel
theorem dX12_statementTold_4 : decode cX12_statementTold 4 = .ok (.bipush 60, 2) := by decide +kernel
theorem dX12_statementTold_6 : decode cX12_statementTold 6 = .ok (.if_icmp .ne 12, 3) := by decide +kernel
theorem dX12_statementTold_9 : decode cX12_statementTold 9 = .ok (.aload_n 0, 1) := by decide +kernel
theorem dX12_statementTold_10 : decode cX12_statementTold 10 = .ok (.iconst 5, 1) := by decide +kernel
theorem dX12_statementTold_11 : decode cX12_statementTold 11 = .ok (.aload_n 0, 1) := by decide +kernel
theorem dX12_statementTold_12 : decode cX12_statementTold 12 = .ok (.getfield 159, 3) := by decide +kernel
theorem dX12_statementTold_15 : decode cX12_statementTold 15 = .ok (.invokevirtual 179, 3) := by decide +kernel
theorem dX12_statementTold_18 : decode cX12_statementTold 18 = .ok (.aload_n 0, 1) := by decide +kernel
theorem dX12_statementTold_19 : decode cX12_statementTold 19 = .ok (.aload_n 0, 1) := by decide +kernel
theorem dX12_statementTold_20 : decode cX12_statementTold 20 = .ok (.getfield 27, 3) := by decide +kernel
theorem dX12_statementTold_23 : decode cX12_statementTold 23 = .ok (.invokevirtual 176, 3) := by decide +kernel
theorem dX12_statementTold_26 : decode cX12_statementTold 26 = .ok (.ifCond .eq 10, 3) := by decide +kernel
theorem dX12_statementTold_29 : decode cX12_statementTold 29 = .ok (.aload_n 0, 1) := by decide +kernel
theorem dX12_statementTold_30 : decode cX12_statementTold 30 = .ok (.invokevirtual 360, 3) := by decide +kernel
theorem dX12_statementTold_33 : decode cX12_statementTold 33 = .ok (.goto 139, 3) := by decide +kernel
theorem dX12_statementTold_36 : decode cX12_statementTold 36 = .ok (.aload_n 0, 1) := by decide +kernel
theorem dX12_statementTold_37 : decode cX12_statementTold 37 = .ok (.aload_n 0, 1) := by decide +kernel
theorem dX12_statementTold_38 : decode cX12_statementTold 38 = .ok (.getfield 30, 3) := by decide +kernel
theorem dX12_statementTold_41 : decode cX12_statementTold 41 = .ok (.invokevirtual 176, 3) := by decide +kernel
theorem dX12_statementTold_44 : decode cX12_statementTold 44 = .ok (.ifCond .eq 13, 3) := by decide +kernel
theorem dX12_statementTold_47 : decode cX12_statementTold 47 = .ok (.aload_n 0, 1) := by decide +kernel
theorem dX12_statementTold_48 : decode cX12_statementTold 48 = .ok (.iconst 0, 1) := by decide +kernel
theorem dX12_statementTold_49 : decode cX12_statementTold 49 = .ok (.iconst 2, 1) := by decide +kernel
theorem dX12_statementTold_50 : decode cX12_statementTold 50 = .ok (.invokevirtual 338, 3) := by decide +kernel
theorem dX12_statementTold_53 : decode cX12_statementTold 53 = .ok (.pop, 1) := by decide +kernel
theorem dX12_statementTold_54 : decode cX12_statementTold 54 = .ok (.goto 118, 3) := by decide +kernel
theorem dX12_statementTold_57 : decode cX12_statementTold 57 = .ok (.aload_n 0, 1) := by decide +kernel
theorem dX12_statementTold_58 : decode cX12_statementTold 58 = .ok (.aload_n 0, 1) := by decide +kernel
theorem dX12_statementTold_59 : decode cX12_statementTold 59 = .ok (.getfield 33, 3) := by decide +kernel
theorem dX12_statementTold_62 : decode cX12_statementTold 62 = .ok (.invokevirtual 176, 3) := by decide +kernel
theorem dX12_statementTold_65 : decode cX12_statementTold 65 = .ok (.ifCond .eq 16, 3) := by decide +kernel
theorem dX12_statementTold_68 : decode cX12_statementTold 68 = .ok (.aload_n 0, 1) := by decide +kernel
theorem dX12_statementTold_69 : decode cX12_statementTold 69 = .ok (.invokevirtual 354, 3) := by decide +kernel
theorem dX12_statementTold_72 : decode cX12_statementTold 72 = .ok (.pop, 1) := by decide +kernel
theorem dX12_statementTold_73 : decode cX12_statementTold 73 = .ok (.aload_n 0, 1) := by decide +kernel
theorem dX12_statementTold_74 : decode cX12_statementTold 74 = .ok (.iconst 0, 1) := by decide +kernel
theorem dX12_statementTold_75 : decode cX12_statementTold 75 = .ok (.invokevirtual 363, 3) := by decide +kernel
theorem dX12_statementTold_78 : decode cX12_statementTold 78 = .ok (.goto 94, 3) := by decide +kernel
theorem dX12_statementTold_81 : decode cX12_statementTold 81 = .ok (.aload_n 0, 1) := by decide +kernel
theorem dX12_statementTold_82 : decode cX12_statementTold 82 = .ok (.aload_n 0, 1) := by decide +kernel
theorem dX12_statementTold_83 : decode cX12_statementTold 83 = .ok (.getfield 36, 3) := by decide +kernel
theorem dX12_statementTold_86 : decode cX12_statementTold 86 = .ok (.invokevirtual 176, 3) := by decide +kernel
theorem dX12_statementTold_89 : decode cX12_statementTold 89 = .ok (.ifCond .eq 19, 3) := by decide +kernel
theorem dX12_statementTold_92 : decode cX12_statementTold 92 = .ok (.aload_n 0, 1) := by decide +kernel
theorem dX12_statementTold_93 : decode cX12_statementTold 93 = .ok (.invokevirtual 354, 3) := by decide +kernel
theorem dX12_statementTold_96 : decode cX12_statementTold 96 = .ok (.pop, 1) := by decide +kernel
theorem dX12_statementTold_97 : decode cX12_statementTold 97 = .ok (.aload_n 0, 1) := by decide +kernel
theorem dX12_statementTold_98 : decode cX12_statementTold 98 = .ok (.iconst 0, 1) := by decide +kernel
theorem dX12_statementTold_99 : decode cX12_statementTold 99 = .ok (.bipush 99, 2) := by decide +kernel
theorem dX12_statementTold_101 : decode cX12_statementTold 101 = .ok (.invokevirtual 338, 3) := by decide +kernel
theorem dX12_statementTold_104 : decode cX12_statementTold 104 = .ok (.pop, 1) := by decide +kernel
theorem dX12_statementTold_105 : decode cX12_statementTold 105 = .ok (.goto 67, 3) := by decide +kernel
theorem dX12_statementTold_108 : decode cX12_statementTold 108 = .ok (.aload_n 0, 1) := by decide +kernel
theorem dX12_statementTold_109 : decode cX12_statementTold 109 = .ok (.aload_n 0, 1) := by decide +kernel
theorem dX12_statementTold_110 : decode cX12_statementTold 110 = .ok (.getfield 39, 3) := by decide +kernel
theorem dX12_statementTold_113 : decode cX12_statementTold 113 = .ok (.invokevirtual 176, 3) := by decide +kernel
theorem dX12_statementTold_116 : decode cX12_statementTold 116 = .ok (.ifCond .eq 10, 3) := by decide +kernel
theorem dX12_statementTold_119 : decode cX12_statementTold 119 = .ok (.aload_n 0, 1) := by decide +kernel
theorem dX12_statementTold_120 : decode cX12_statementTold 120 = .ok (.invokevirtual 366, 3) := by decide +kernel
theorem dX12_statementTold_123 : decode cX12_statementTold 123 = .ok (.goto 49, 3) := by decide +kernel
theorem dX12_statementTold_126 : decode cX12_statementTold 126 = .ok (.aload_n 0, 1) := by decide +kernel
theorem dX12_statementTold_127 : decode cX12_statementTold 127 = .ok (.aload_n 0, 1) := by decide +kernel
theorem dX12_statementTold_128 : decode cX12_statementTold 128 = .ok (.getfield 42, 3) := by decide +kernel
theorem dX12_statementTold_131 : decode cX12_statementTold 131 = .ok (.invokevirtual 176, 3) := by decide +kernel
theorem dX12_statementTold_134 : decode cX12_statementTold 134 = .ok (.ifCond .ne 14, 3) := by decide +kernel
theorem dX12_statementTold_137 : decode cX12_statementTold 137 = .ok (.aload_n 0, 1) := by decide +kernel
theorem dX12_statementTold_138 : decode cX12_statementTold 138 = .ok (.aload_n 0, 1) := by decide +kernel
theorem dX12_statementTold_139 : decode cX12_statementTold 139 = .ok (.getfield 45, 3) := by decide +kernel
theorem dX12_statementTold_142 : decode cX12_statementTold 142 = .ok (.invokevirtual 176, 3) := by decide +kernel
theorem dX12_statementTold_145 : decode cX12_statementTold 145 = .ok (.ifCond .eq 11, 3) := by decide +kernel
theorem dX12_statementTold_148 : decode cX12_statementTold 148 = .ok (.aload_n 0, 1) := by decide +kernel
theorem dX12_statementTold_149 : decode cX12_statementTold 149 = .ok (.invokevirtual 354, 3) := by decide +kernel
theorem dX12_statementTold_152 : decode cX12_statementTold 152 = .ok (.pop, 1) := by decide +kernel
theorem dX12_statementTold_153 : decode cX12_statementTold 153 = .ok (.goto 19, 3) := by decide +kernel
theorem dX12_statementTold_156 : decode cX12_statementTold 156 = .ok (.aload_n 0, 1) := by decide +kernel
theorem dX12_statementTold_157 : decode cX12_statementTold 157 = .ok (.aload_n 0, 1) := by decide +kernel
theorem dX12_statementTold_158 : decode cX12_statementTold 158 = .ok (.getfield 48, 3) := by decide +kernel
theorem dX12_statementTold_161 : decode cX12_statementTold 161 = .ok (.invokevirtual 344, 3) := by decide +kernel
theorem dX12_statementTold_164 : decode cX12_statementTold 164 = .ok (.aload_n 0, 1) := by decide +kernel
theorem dX12_statementTold_165 : decode cX12_statementTold 165 = .ok (.iconst 1, 1) := by decide +kernel
theorem dX12_statementTold_166 : decode cX12_statementTold 166 = .ok (.bipush 99, 2) := by decide +kernel
theorem dX12_statementTold_168 : decode cX12_statementTold 168 = .ok (.invokevirtual 338, 3) := by decide +kernel
theorem dX12_statementTold_171 : decode cX12_statementTold 171 = .ok (.pop, 1) := by decide +kernel
theorem dX12_statementTold_172 : decode cX12_statementTold 172 = .ok (.aload_n 0, 1) := by decide +kernel
theorem dX12_statementTold_173 : decode cX12_statementTold 173 = .ok (.bipush 59, 2) := by decide +kernel
theorem dX12_statementTold_175 : decode cX12_statementTold 175 = .ok (.invokevirtual 369, 3) := by decide +kernel
theorem dX12_statementTold_178 : decode cX12_statementTold 178 = .ok (.aload_n 0, 1) := by decide +kernel
theorem dX12_statementTold_179 : decode cX12_statementTold 179 = .ok (.dup, 1) := by decide +kernel
theorem dX12_statementTold_180 : decode cX12_statementTold 180 = .ok (.getfield 357, 3) := by decide +kernel
theorem dX12_statementTold_183 : decode cX12_statementTold 183 = .ok (.iconst 1, 1) := by decide +kernel
theorem dX12_statementTold_184 : decode cX12_statementTold 184 = .ok (.iadd, 1) := by decide +kernel
theorem dX12_statementTold_185 : decode cX12_statementTold 185 = .ok (.putfield 357, 3) := by decide +kernel
theorem dX12_statementTold_188 : decode cX12_statementTold 188 = .ok (.return_, 1) := by decide +kernel
theorem dX12_session_0 : decode cX12_session 0 = .ok (.aload_n 0, 1) := by decide +kernel
theorem dX12_session_1 : decode cX12_session 1 = .ok (.invokevirtual 372, 3) := by decide +kernel
theorem dX12_session_4 : decode cX12_session 4 = .ok (.aload_n 0, 1) := by decide +kernel
theorem dX12_session_5 : decode cX12_session 5 = .ok (.invokevirtual 375, 3) := by decide +kernel
theorem dX12_session_8 : decode cX12_session 8 = .ok (.aload_n 0, 1) := by decide +kernel
theorem dX12_session_9 : decode cX12_session 9 = .ok (.bipush 59, 2) := by decide +kernel
theorem dX12_session_11 : decode cX12_session 11 = .ok (.invokevirtual 369, 3) := by decide +kernel
theorem dX12_session_14 : decode cX12_session 14 = .ok (.aload_n 0, 1) := by decide +kernel
theorem dX12_session_15 : decode cX12_session 15 = .ok (.iconst 1, 1) := by decide +kernel
theorem dX12_session_16 : decode cX12_session 16 = .ok (.putfield 357, 3) := by decide +kernel
theorem dX12_session_19 : decode cX12_session 19 = .ok (.aload_n 0, 1) := by decide +kernel
theorem dX12_session_20 : decode cX12_session 20 = .ok (.getfield 149, 3) := by decide +kernel
theorem dX12_session_23 : decode cX12_session 23 = .ok (.ifCond .ne 18, 3) := by decide +kernel
theorem dX12_session_26 : decode cX12_session 26 = .ok (.aload_n 0, 1) := by decide +kernel
theorem dX12_session_27 : decode cX12_session 27 = .ok (.invokevirtual 165, 3) := by decide +kernel
theorem dX12_session_30 : decode cX12_session 30 = .ok (.iconst (-1), 1) := by decide +kernel
theorem dX12_session_31 : decode cX12_session 31 = .ok (.if_icmp .eq 10, 3) := by decide +kernel
theorem dX12_session_34 : decode cX12_session 34 = .ok (.aload_n 0, 1) := by decide +kernel
theorem dX12_session_35 : decode cX12_session 35 = .ok (.invokevirtual 378, 3) := by decide +kernel
theorem dX12_session_38 : decode cX12_session 38 = .ok (.goto (-19), 3) := by decide +kernel
theorem dX12_session_41 : decode cX12_session 41 = .ok (.aload_n 0, 1) := by decide +kernel
theorem dX12_session_42 : decode cX12_session 42 = .ok (.aload_n 0, 1) := by decide +kernel
theorem dX12_session_43 : decode cX12_session 43 = .ok (.getfield 149, 3) := by decide +kernel
theorem dX12_session_46 : decode cX12_session 46 = .ok (.putfield 143, 3) := by decide +kernel
theorem dX12_session_49 : decode cX12_session 49 = .ok (.aload_n 0, 1) := by decide +kernel
theorem dX12_session_50 : decode cX12_session 50 = .ok (.aload_n 0, 1) := by decide +kernel
theorem dX12_session_51 : decode cX12_session 51 = .ok (.getfield 152, 3) := by decide +kernel
theorem dX12_session_54 : decode cX12_session 54 = .ok (.putfield 13, 3) := by decide +kernel
theorem dX12_session_57 : decode cX12_session 57 = .ok (.aload_n 0, 1) := by decide +kernel
theorem dX12_session_58 : decode cX12_session 58 = .ok (.getfield 149, 3) := by decide +kernel
theorem dX12_session_61 : decode cX12_session 61 = .ok (.ifCond .eq 9, 3) := by decide +kernel
theorem dX12_session_64 : decode cX12_session 64 = .ok (.aload_n 0, 1) := by decide +kernel
theorem dX12_session_65 : decode cX12_session 65 = .ok (.iconst 1, 1) := by decide +kernel
theorem dX12_session_66 : decode cX12_session 66 = .ok (.invokevirtual 129, 3) := by decide +kernel
theorem dX12_session_69 : decode cX12_session 69 = .ok (.ireturn, 1) := by decide +kernel
theorem dX12_session_70 : decode cX12_session 70 = .ok (.aload_n 0, 1) := by decide +kernel
theorem dX12_session_71 : decode cX12_session 71 = .ok (.invokevirtual 381, 3) := by decide +kernel
theorem dX12_session_74 : decode cX12_session 74 = .ok (.aload_n 0, 1) := by decide +kernel
theorem dX12_session_75 : decode cX12_session 75 = .ok (.getfield 357, 3) := by decide +kernel
theorem dX12_session_78 : decode cX12_session 78 = .ok (.ireturn, 1) := by decide +kernel
theorem dX12_stands_0 : decode cX12_stands 0 = .ok (.aload_n 0, 1) := by decide +kernel
theorem dX12_stands_1 : decode cX12_stands 1 = .ok (.iconst 1, 1) := by decide +kernel
theorem dX12_stands_2 : decode cX12_stands 2 = .ok (.putfield 211, 3) := by decide +kernel
theorem dX12_stands_5 : decode cX12_stands 5 = .ok (.aload_n 0, 1) := by decide +kernel
theorem dX12_stands_6 : decode cX12_stands 6 = .ok (.aload_n 0, 1) := by decide +kernel
theorem dX12_stands_7 : decode cX12_stands 7 = .ok (.getfield 335, 3) := by decide +kernel
theorem dX12_stands_10 : decode cX12_stands 10 = .ok (.putfield 215, 3) := by decide +kernel
theorem dX12_stands_13 : decode cX12_stands 13 = .ok (.aload_n 0, 1) := by decide +kernel
theorem dX12_stands_14 : decode cX12_stands 14 = .ok (.iconst 0, 1) := by decide +kernel
theorem dX12_stands_15 : decode cX12_stands 15 = .ok (.putfield 230, 3) := by decide +kernel
theorem dX12_stands_18 : decode cX12_stands 18 = .ok (.aload_n 0, 1) := by decide +kernel
theorem dX12_stands_19 : decode cX12_stands 19 = .ok (.aload_n 0, 1) := by decide +kernel
theorem dX12_stands_20 : decode cX12_stands 20 = .ok (.getfield 351, 3) := by decide +kernel
theorem dX12_stands_23 : decode cX12_stands 23 = .ok (.aload_n 0, 1) := by decide +kernel
theorem dX12_stands_24 : decode cX12_stands 24 = .ok (.getfield 348, 3) := by decide +kernel
theorem dX12_stands_27 : decode cX12_stands 27 = .ok (.isub, 1) := by decide +kernel
theorem dX12_stands_28 : decode cX12_stands 28 = .ok (.putfield 384, 3) := by decide +kernel
theorem dX12_stands_31 : decode cX12_stands 31 = .ok (.iconst 0, 1) := by decide +kernel
theorem dX12_stands_32 : decode cX12_stands 32 = .ok (.istore_n 1, 1) := by decide +kernel
theorem dX12_stands_33 : decode cX12_stands 33 = .ok (.iload_n 1, 1) := by decide +kernel
theorem dX12_stands_34 : decode cX12_stands 34 = .ok (.aload_n 0, 1) := by decide +kernel
theorem dX12_stands_35 : decode cX12_stands 35 = .ok (.getfield 384, 3) := by decide +kernel
theorem dX12_stands_38 : decode cX12_stands 38 = .ok (.if_icmp .ge 31, 3) := by decide +kernel
theorem dX12_stands_41 : decode cX12_stands 41 = .ok (.aload_n 0, 1) := by decide +kernel
theorem dX12_stands_42 : decode cX12_stands 42 = .ok (.getfield 72, 3) := by decide +kernel
theorem dX12_stands_45 : decode cX12_stands 45 = .ok (.iload_n 1, 1) := by decide +kernel
theorem dX12_stands_46 : decode cX12_stands 46 = .ok (.aload_n 0, 1) := by decide +kernel
theorem dX12_stands_47 : decode cX12_stands 47 = .ok (.getfield 7, 3) := by decide +kernel
theorem dX12_stands_50 : decode cX12_stands 50 = .ok (.aload_n 0, 1) := by decide +kernel
theorem dX12_stands_51 : decode cX12_stands 51 = .ok (.getfield 348, 3) := by decide +kernel
theorem dX12_stands_54 : decode cX12_stands 54 = .ok (.iload_n 1, 1) := by decide +kernel
theorem dX12_stands_55 : decode cX12_stands 55 = .ok (.iadd, 1) := by decide +kernel
theorem dX12_stands_56 : decode cX12_stands 56 = .ok (.iaload, 1) := by decide +kernel
theorem dX12_stands_57 : decode cX12_stands 57 = .ok (.bipush 97, 2) := by decide +kernel
theorem dX12_stands_59 : decode cX12_stands 59 = .ok (.isub, 1) := by decide +kernel
theorem dX12_stands_60 : decode cX12_stands 60 = .ok (.iconst 1, 1) := by decide +kernel
theorem dX12_stands_61 : decode cX12_stands 61 = .ok (.iadd, 1) := by decide +kernel
theorem dX12_stands_62 : decode cX12_stands 62 = .ok (.iastore, 1) := by decide +kernel
theorem dX12_stands_63 : decode cX12_stands 63 = .ok (.iinc 1 1, 3) := by decide +kernel
theorem dX12_stands_66 : decode cX12_stands 66 = .ok (.goto (-33), 3) := by decide +kernel
theorem dX12_stands_69 : decode cX12_stands 69 = .ok (.iconst 0, 1) := by decide +kernel
theorem dX12_stands_70 : decode cX12_stands 70 = .ok (.istore_n 1, 1) := by decide +kernel
theorem dX12_stands_71 : decode cX12_stands 71 = .ok (.iload_n 1, 1) := by decide +kernel
theorem dX12_stands_72 : decode cX12_stands 72 = .ok (.sipush 10476, 3) := by decide +kernel
theorem dX12_stands_75 : decode cX12_stands 75 = .ok (.if_icmp .ge 16, 3) := by decide +kernel
theorem dX12_stands_78 : decode cX12_stands 78 = .ok (.aload_n 0, 1) := by decide +kernel
theorem dX12_stands_79 : decode cX12_stands 79 = .ok (.getfield 69, 3) := by decide +kernel
theorem dX12_stands_82 : decode cX12_stands 82 = .ok (.iload_n 1, 1) := by decide +kernel
theorem dX12_stands_83 : decode cX12_stands 83 = .ok (.iconst 0, 1) := by decide +kernel
theorem dX12_stands_84 : decode cX12_stands 84 = .ok (.iastore, 1) := by decide +kernel
theorem dX12_stands_85 : decode cX12_stands 85 = .ok (.iinc 1 1, 3) := by decide +kernel
theorem dX12_stands_88 : decode cX12_stands 88 = .ok (.goto (-17), 3) := by decide +kernel
theorem dX12_stands_91 : decode cX12_stands 91 = .ok (.iconst 0, 1) := by decide +kernel
theorem dX12_stands_92 : decode cX12_stands 92 = .ok (.istore_n 1, 1) := by decide +kernel
theorem dX12_stands_93 : decode cX12_stands 93 = .ok (.iload_n 1, 1) := by decide +kernel
theorem dX12_stands_94 : decode cX12_stands 94 = .ok (.aload_n 0, 1) := by decide +kernel
theorem dX12_stands_95 : decode cX12_stands 95 = .ok (.getfield 215, 3) := by decide +kernel
theorem dX12_stands_98 : decode cX12_stands 98 = .ok (.if_icmp .ge 95, 3) := by decide +kernel
theorem dX12_stands_101 : decode cX12_stands 101 = .ok (.aload_n 0, 1) := by decide +kernel
theorem dX12_stands_102 : decode cX12_stands 102 = .ok (.getfield 69, 3) := by decide +kernel
theorem dX12_stands_105 : decode cX12_stands 105 = .ok (.iload_n 1, 1) := by decide +kernel
theorem dX12_stands_106 : decode cX12_stands 106 = .ok (.bipush 15, 2) := by decide +kernel
theorem dX12_stands_108 : decode cX12_stands 108 = .ok (.invokestatic 237, 3) := by decide +kernel
theorem dX12_stands_111 : decode cX12_stands 111 = .ok (.iconst 1, 1) := by decide +kernel
theorem dX12_stands_112 : decode cX12_stands 112 = .ok (.iastore, 1) := by decide +kernel
theorem dX12_stands_113 : decode cX12_stands 113 = .ok (.aload_n 0, 1) := by decide +kernel
theorem dX12_stands_114 : decode cX12_stands 114 = .ok (.getfield 69, 3) := by decide +kernel
theorem dX12_stands_117 : decode cX12_stands 117 = .ok (.iload_n 1, 1) := by decide +kernel
theorem dX12_stands_118 : decode cX12_stands 118 = .ok (.bipush 16, 2) := by decide +kernel
theorem dX12_stands_120 : decode cX12_stands 120 = .ok (.invokestatic 237, 3) := by decide +kernel
theorem dX12_stands_123 : decode cX12_stands 123 = .ok (.iconst 1, 1) := by decide +kernel
theorem dX12_stands_124 : decode cX12_stands 124 = .ok (.iastore, 1) := by decide +kernel
theorem dX12_stands_125 : decode cX12_stands 125 = .ok (.aload_n 0, 1) := by decide +kernel
theorem dX12_stands_126 : decode cX12_stands 126 = .ok (.getfield 69, 3) := by decide +kernel
theorem dX12_stands_129 : decode cX12_stands 129 = .ok (.iload_n 1, 1) := by decide +kernel
theorem dX12_stands_130 : decode cX12_stands 130 = .ok (.bipush 19, 2) := by decide +kernel
theorem dX12_stands_132 : decode cX12_stands 132 = .ok (.invokestatic 237, 3) := by decide +kernel
theorem dX12_stands_135 : decode cX12_stands 135 = .ok (.iconst (-1), 1) := by decide +kernel
theorem dX12_stands_136 : decode cX12_stands 136 = .ok (.iastore, 1) := by decide +kernel
theorem dX12_stands_137 : decode cX12_stands 137 = .ok (.aload_n 0, 1) := by decide +kernel
theorem dX12_stands_138 : decode cX12_stands 138 = .ok (.getfield 69, 3) := by decide +kernel
theorem dX12_stands_141 : decode cX12_stands 141 = .ok (.iload_n 1, 1) := by decide +kernel
theorem dX12_stands_142 : decode cX12_stands 142 = .ok (.bipush 21, 2) := by decide +kernel
theorem dX12_stands_144 : decode cX12_stands 144 = .ok (.invokestatic 237, 3) := by decide +kernel
theorem dX12_stands_147 : decode cX12_stands 147 = .ok (.aload_n 0, 1) := by decide +kernel
theorem dX12_stands_148 : decode cX12_stands 148 = .ok (.getfield 384, 3) := by decide +kernel
theorem dX12_stands_151 : decode cX12_stands 151 = .ok (.iastore, 1) := by decide +kernel
theorem dX12_stands_152 : decode cX12_stands 152 = .ok (.iconst 0, 1) := by decide +kernel
theorem dX12_stands_153 : decode cX12_stands 153 = .ok (.istore_n 2, 1) := by decide +kernel
theorem dX12_stands_154 : decode cX12_stands 154 = .ok (.iload_n 2, 1) := by decide +kernel
theorem dX12_stands_155 : decode cX12_stands 155 = .ok (.aload_n 0, 1) := by decide +kernel
theorem dX12_stands_156 : decode cX12_stands 156 = .ok (.getfield 384, 3) := by decide +kernel
theorem dX12_stands_159 : decode cX12_stands 159 = .ok (.if_icmp .ge 28, 3) := by decide +kernel
theorem dX12_stands_162 : decode cX12_stands 162 = .ok (.aload_n 0, 1) := by decide +kernel
theorem dX12_stands_163 : decode cX12_stands 163 = .ok (.getfield 69, 3) := by decide +kernel
theorem dX12_stands_166 : decode cX12_stands 166 = .ok (.iload_n 1, 1) := by decide +kernel
theorem dX12_stands_167 : decode cX12_stands 167 = .ok (.bipush 24, 2) := by decide +kernel
theorem dX12_stands_169 : decode cX12_stands 169 = .ok (.iload_n 2, 1) := by decide +kernel
theorem dX12_stands_170 : decode cX12_stands 170 = .ok (.iadd, 1) := by decide +kernel
theorem dX12_stands_171 : decode cX12_stands 171 = .ok (.invokestatic 237, 3) := by decide +kernel
theorem dX12_stands_174 : decode cX12_stands 174 = .ok (.aload_n 0, 1) := by decide +kernel
theorem dX12_stands_175 : decode cX12_stands 175 = .ok (.getfield 72, 3) := by decide +kernel
theorem dX12_stands_178 : decode cX12_stands 178 = .ok (.iload_n 2, 1) := by decide +kernel
theorem dX12_stands_179 : decode cX12_stands 179 = .ok (.iaload, 1) := by decide +kernel
theorem dX12_stands_180 : decode cX12_stands 180 = .ok (.iastore, 1) := by decide +kernel
theorem dX12_stands_181 : decode cX12_stands 181 = .ok (.iinc 2 1, 3) := by decide +kernel
theorem dX12_stands_184 : decode cX12_stands 184 = .ok (.goto (-30), 3) := by decide +kernel
