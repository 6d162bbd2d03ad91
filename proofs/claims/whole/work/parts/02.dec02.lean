theorem dX9_invert_127 : decode cX9_invert 127 = .ok (.return_, 1) := by decide +kernel
theorem dX9_compose_0 : decode cX9_compose 0 = .ok (.aload_n 1, 1) := by decide +kernel
theorem dX9_compose_1 : decode cX9_compose 1 = .ok (.getfield 41, 3) := by decide +kernel
theorem dX9_compose_4 : decode cX9_compose 4 = .ok (.aload_n 2, 1) := by decide +kernel
theorem dX9_compose_5 : decode cX9_compose 5 = .ok (.getfield 41, 3) := by decide +kernel
theorem dX9_compose_8 : decode cX9_compose 8 = .ok (.iadd, 1) := by decide +kernel
theorem dX9_compose_9 : decode cX9_compose 9 = .ok (.istore_n 3, 1) := by decide +kernel
theorem dX9_compose_10 : decode cX9_compose 10 = .ok (.aload_n 0, 1) := by decide +kernel
theorem dX9_compose_11 : decode cX9_compose 11 = .ok (.getfield 24, 3) := by decide +kernel
theorem dX9_compose_14 : decode cX9_compose 14 = .ok (.iload_n 3, 1) := by decide +kernel
theorem dX9_compose_15 : decode cX9_compose 15 = .ok (.invokevirtual 48, 3) := by decide +kernel
theorem dX9_compose_18 : decode cX9_compose 18 = .ok (.aload_n 0, 1) := by decide +kernel
theorem dX9_compose_19 : decode cX9_compose 19 = .ok (.getfield 12, 3) := by decide +kernel
theorem dX9_compose_22 : decode cX9_compose 22 = .ok (.aload_n 1, 1) := by decide +kernel
theorem dX9_compose_23 : decode cX9_compose 23 = .ok (.invokevirtual 78, 3) := by decide +kernel
theorem dX9_compose_26 : decode cX9_compose 26 = .ok (.aload_n 0, 1) := by decide +kernel
theorem dX9_compose_27 : decode cX9_compose 27 = .ok (.getfield 18, 3) := by decide +kernel
theorem dX9_compose_30 : decode cX9_compose 30 = .ok (.aload_n 2, 1) := by decide +kernel
theorem dX9_compose_31 : decode cX9_compose 31 = .ok (.invokevirtual 78, 3) := by decide +kernel
theorem dX9_compose_34 : decode cX9_compose 34 = .ok (.iconst 0, 1) := by decide +kernel
theorem dX9_compose_35 : decode cX9_compose 35 = .ok (.istore 4, 2) := by decide +kernel
theorem dX9_compose_37 : decode cX9_compose 37 = .ok (.iload 4, 2) := by decide +kernel
theorem dX9_compose_39 : decode cX9_compose 39 = .ok (.iload_n 3, 1) := by decide +kernel
theorem dX9_compose_40 : decode cX9_compose 40 = .ok (.if_icmp .ge 89, 3) := by decide +kernel
theorem dX9_compose_43 : decode cX9_compose 43 = .ok (.aload_n 0, 1) := by decide +kernel
theorem dX9_compose_44 : decode cX9_compose 44 = .ok (.getfield 12, 3) := by decide +kernel
theorem dX9_compose_47 : decode cX9_compose 47 = .ok (.invokevirtual 82, 3) := by decide +kernel
theorem dX9_compose_50 : decode cX9_compose 50 = .ok (.ifCond .eq 34, 3) := by decide +kernel
theorem dX9_compose_53 : decode cX9_compose 53 = .ok (.aload_n 0, 1) := by decide +kernel
theorem dX9_compose_54 : decode cX9_compose 54 = .ok (.getfield 24, 3) := by decide +kernel
theorem dX9_compose_57 : decode cX9_compose 57 = .ok (.aload_n 0, 1) := by decide +kernel
theorem dX9_compose_58 : decode cX9_compose 58 = .ok (.getfield 12, 3) := by decide +kernel
theorem dX9_compose_61 : decode cX9_compose 61 = .ok (.getfield 86, 3) := by decide +kernel
theorem dX9_compose_64 : decode cX9_compose 64 = .ok (.invokevirtual 59, 3) := by decide +kernel
theorem dX9_compose_67 : decode cX9_compose 67 = .ok (.aload_n 0, 1) := by decide +kernel
theorem dX9_compose_68 : decode cX9_compose 68 = .ok (.getfield 12, 3) := by decide +kernel
theorem dX9_compose_71 : decode cX9_compose 71 = .ok (.aload_n 0, 1) := by decide +kernel
theorem dX9_compose_72 : decode cX9_compose 72 = .ok (.getfield 12, 3) := by decide +kernel
theorem dX9_compose_75 : decode cX9_compose 75 = .ok (.getfield 86, 3) := by decide +kernel
theorem dX9_compose_78 : decode cX9_compose 78 = .ok (.invokevirtual 89, 3) := by decide +kernel
theorem dX9_compose_81 : decode cX9_compose 81 = .ok (.goto 42, 3) := by decide +kernel
theorem dX9_compose_84 : decode cX9_compose 84 = .ok (.aload_n 0, 1) := by decide +kernel
theorem dX9_compose_85 : decode cX9_compose 85 = .ok (.getfield 18, 3) := by decide +kernel
theorem dX9_compose_88 : decode cX9_compose 88 = .ok (.invokevirtual 92, 3) := by decide +kernel
theorem dX9_compose_91 : decode cX9_compose 91 = .ok (.ifCond .eq 28, 3) := by decide +kernel
theorem dX9_compose_94 : decode cX9_compose 94 = .ok (.aload_n 0, 1) := by decide +kernel
theorem dX9_compose_95 : decode cX9_compose 95 = .ok (.getfield 24, 3) := by decide +kernel
theorem dX9_compose_98 : decode cX9_compose 98 = .ok (.aload_n 0, 1) := by decide +kernel
theorem dX9_compose_99 : decode cX9_compose 99 = .ok (.getfield 18, 3) := by decide +kernel
theorem dX9_compose_102 : decode cX9_compose 102 = .ok (.getfield 95, 3) := by decide +kernel
theorem dX9_compose_105 : decode cX9_compose 105 = .ok (.invokevirtual 75, 3) := by decide +kernel
theorem dX9_compose_108 : decode cX9_compose 108 = .ok (.aload_n 0, 1) := by decide +kernel
theorem dX9_compose_109 : decode cX9_compose 109 = .ok (.getfield 18, 3) := by decide +kernel
theorem dX9_compose_112 : decode cX9_compose 112 = .ok (.iconst 1, 1) := by decide +kernel
theorem dX9_compose_113 : decode cX9_compose 113 = .ok (.invokevirtual 89, 3) := by decide +kernel
theorem dX9_compose_116 : decode cX9_compose 116 = .ok (.goto 7, 3) := by decide +kernel
theorem dX9_compose_119 : decode cX9_compose 119 = .ok (.aload_n 0, 1) := by decide +kernel
theorem dX9_compose_120 : decode cX9_compose 120 = .ok (.invokevirtual 98, 3) := by decide +kernel
theorem dX9_compose_123 : decode cX9_compose 123 = .ok (.iinc 4 1, 3) := by decide +kernel
theorem dX9_compose_126 : decode cX9_compose 126 = .ok (.goto (-89), 3) := by decide +kernel
theorem dX9_compose_129 : decode cX9_compose 129 = .ok (.aload_n 1, 1) := by decide +kernel
theorem dX9_compose_130 : decode cX9_compose 130 = .ok (.aload_n 0, 1) := by decide +kernel
theorem dX9_compose_131 : decode cX9_compose 131 = .ok (.getfield 24, 3) := by decide +kernel
theorem dX9_compose_134 : decode cX9_compose 134 = .ok (.invokevirtual 101, 3) := by decide +kernel
theorem dX9_compose_137 : decode cX9_compose 137 = .ok (.return_, 1) := by decide +kernel
theorem dX9_composeCommon_0 : decode cX9_composeCommon 0 = .ok (.aload_n 0, 1) := by decide +kernel
theorem dX9_composeCommon_1 : decode cX9_composeCommon 1 = .ok (.getfield 12, 3) := by decide +kernel
theorem dX9_composeCommon_4 : decode cX9_composeCommon 4 = .ok (.getfield 86, 3) := by decide +kernel
theorem dX9_composeCommon_7 : decode cX9_composeCommon 7 = .ok (.aload_n 0, 1) := by decide +kernel
theorem dX9_composeCommon_8 : decode cX9_composeCommon 8 = .ok (.getfield 18, 3) := by decide +kernel
theorem dX9_composeCommon_11 : decode cX9_composeCommon 11 = .ok (.getfield 86, 3) := by decide +kernel
theorem dX9_composeCommon_14 : decode cX9_composeCommon 14 = .ok (.invokestatic 65, 3) := by decide +kernel
theorem dX9_composeCommon_17 : decode cX9_composeCommon 17 = .ok (.istore_n 1, 1) := by decide +kernel
theorem dX9_composeCommon_18 : decode cX9_composeCommon 18 = .ok (.iload_n 1, 1) := by decide +kernel
theorem dX9_composeCommon_19 : decode cX9_composeCommon 19 = .ok (.ifCond .gt 4, 3) := by decide +kernel
theorem dX9_composeCommon_22 : decode cX9_composeCommon 22 = .ok (.return_, 1) := by decide +kernel
theorem dX9_composeCommon_23 : decode cX9_composeCommon 23 = .ok (.aload_n 0, 1) := by decide +kernel
theorem dX9_composeCommon_24 : decode cX9_composeCommon 24 = .ok (.getfield 18, 3) := by decide +kernel
theorem dX9_composeCommon_27 : decode cX9_composeCommon 27 = .ok (.invokevirtual 82, 3) := by decide +kernel
theorem dX9_composeCommon_30 : decode cX9_composeCommon 30 = .ok (.istore_n 2, 1) := by decide +kernel
theorem dX9_composeCommon_31 : decode cX9_composeCommon 31 = .ok (.aload_n 0, 1) := by decide +kernel
theorem dX9_composeCommon_32 : decode cX9_composeCommon 32 = .ok (.getfield 12, 3) := by decide +kernel
theorem dX9_composeCommon_35 : decode cX9_composeCommon 35 = .ok (.invokevirtual 92, 3) := by decide +kernel
theorem dX9_composeCommon_38 : decode cX9_composeCommon 38 = .ok (.ifCond .ne 29, 3) := by decide +kernel
theorem dX9_composeCommon_41 : decode cX9_composeCommon 41 = .ok (.iload_n 2, 1) := by decide +kernel
theorem dX9_composeCommon_42 : decode cX9_composeCommon 42 = .ok (.ifCond .eq 14, 3) := by decide +kernel
theorem dX9_composeCommon_45 : decode cX9_composeCommon 45 = .ok (.aload_n 0, 1) := by decide +kernel
theorem dX9_composeCommon_46 : decode cX9_composeCommon 46 = .ok (.getfield 24, 3) := by decide +kernel
theorem dX9_composeCommon_49 : decode cX9_composeCommon 49 = .ok (.iload_n 1, 1) := by decide +kernel
theorem dX9_composeCommon_50 : decode cX9_composeCommon 50 = .ok (.invokevirtual 59, 3) := by decide +kernel
theorem dX9_composeCommon_53 : decode cX9_composeCommon 53 = .ok (.goto 32, 3) := by decide +kernel
theorem dX9_composeCommon_56 : decode cX9_composeCommon 56 = .ok (.aload_n 0, 1) := by decide +kernel
theorem dX9_composeCommon_57 : decode cX9_composeCommon 57 = .ok (.getfield 24, 3) := by decide +kernel
theorem dX9_composeCommon_60 : decode cX9_composeCommon 60 = .ok (.iload_n 1, 1) := by decide +kernel
theorem dX9_composeCommon_61 : decode cX9_composeCommon 61 = .ok (.invokevirtual 62, 3) := by decide +kernel
theorem dX9_composeCommon_64 : decode cX9_composeCommon 64 = .ok (.goto 21, 3) := by decide +kernel
theorem dX9_composeCommon_67 : decode cX9_composeCommon 67 = .ok (.iload_n 2, 1) := by decide +kernel
theorem dX9_composeCommon_68 : decode cX9_composeCommon 68 = .ok (.ifCond .ne 17, 3) := by decide +kernel
theorem dX9_composeCommon_71 : decode cX9_composeCommon 71 = .ok (.aload_n 0, 1) := by decide +kernel
theorem dX9_composeCommon_72 : decode cX9_composeCommon 72 = .ok (.getfield 24, 3) := by decide +kernel
theorem dX9_composeCommon_75 : decode cX9_composeCommon 75 = .ok (.aload_n 0, 1) := by decide +kernel
theorem dX9_composeCommon_76 : decode cX9_composeCommon 76 = .ok (.getfield 12, 3) := by decide +kernel
theorem dX9_composeCommon_79 : decode cX9_composeCommon 79 = .ok (.getfield 95, 3) := by decide +kernel
theorem dX9_composeCommon_82 : decode cX9_composeCommon 82 = .ok (.invokevirtual 75, 3) := by decide +kernel
theorem dX9_composeCommon_85 : decode cX9_composeCommon 85 = .ok (.aload_n 0, 1) := by decide +kernel
theorem dX9_composeCommon_86 : decode cX9_composeCommon 86 = .ok (.getfield 12, 3) := by decide +kernel
theorem dX9_composeCommon_89 : decode cX9_composeCommon 89 = .ok (.iload_n 1, 1) := by decide +kernel
theorem dX9_composeCommon_90 : decode cX9_composeCommon 90 = .ok (.invokevirtual 89, 3) := by decide +kernel
theorem dX9_composeCommon_93 : decode cX9_composeCommon 93 = .ok (.aload_n 0, 1) := by decide +kernel
theorem dX9_composeCommon_94 : decode cX9_composeCommon 94 = .ok (.getfield 18, 3) := by decide +kernel
theorem dX9_composeCommon_97 : decode cX9_composeCommon 97 = .ok (.iload_n 1, 1) := by decide +kernel
theorem dX9_composeCommon_98 : decode cX9_composeCommon 98 = .ok (.invokevirtual 89, 3) := by decide +kernel
theorem dX9_composeCommon_101 : decode cX9_composeCommon 101 = .ok (.return_, 1) := by decide +kernel
theorem dX9_turn_0 : decode cX9_turn 0 = .ok (.aload_n 1, 1) := by decide +kernel
theorem dX9_turn_1 : decode cX9_turn 1 = .ok (.getfield 41, 3) := by decide +kernel
theorem dX9_turn_4 : decode cX9_turn 4 = .ok (.aload_n 2, 1) := by decide +kernel
theorem dX9_turn_5 : decode cX9_turn 5 = .ok (.getfield 41, 3) := by decide +kernel
theorem dX9_turn_8 : decode cX9_turn 8 = .ok (.iadd, 1) := by decide +kernel
theorem dX9_turn_9 : decode cX9_turn 9 = .ok (.istore 4, 2) := by decide +kernel
theorem dX9_turn_11 : decode cX9_turn 11 = .ok (.aload_n 0, 1) := by decide +kernel
theorem dX9_turn_12 : decode cX9_turn 12 = .ok (.getfield 24, 3) := by decide +kernel
theorem dX9_turn_15 : decode cX9_turn 15 = .ok (.iload 4, 2) := by decide +kernel
theorem dX9_turn_17 : decode cX9_turn 17 = .ok (.invokevirtual 48, 3) := by decide +kernel
theorem dX9_turn_20 : decode cX9_turn 20 = .ok (.aload_n 0, 1) := by decide +kernel
theorem dX9_turn_21 : decode cX9_turn 21 = .ok (.getfield 28, 3) := by decide +kernel
theorem dX9_turn_24 : decode cX9_turn 24 = .ok (.iload 4, 2) := by decide +kernel
theorem dX9_turn_26 : decode cX9_turn 26 = .ok (.invokevirtual 48, 3) := by decide +kernel
theorem dX9_turn_29 : decode cX9_turn 29 = .ok (.aload_n 0, 1) := by decide +kernel
theorem dX9_turn_30 : decode cX9_turn 30 = .ok (.getfield 12, 3) := by decide +kernel
theorem dX9_turn_33 : decode cX9_turn 33 = .ok (.aload_n 1, 1) := by decide +kernel
theorem dX9_turn_34 : decode cX9_turn 34 = .ok (.invokevirtual 78, 3) := by decide +kernel
theorem dX9_turn_37 : decode cX9_turn 37 = .ok (.aload_n 0, 1) := by decide +kernel
theorem dX9_turn_38 : decode cX9_turn 38 = .ok (.getfield 18, 3) := by decide +kernel
theorem dX9_turn_41 : decode cX9_turn 41 = .ok (.aload_n 2, 1) := by decide +kernel
theorem dX9_turn_42 : decode cX9_turn 42 = .ok (.invokevirtual 78, 3) := by decide +kernel
theorem dX9_turn_45 : decode cX9_turn 45 = .ok (.iconst 0, 1) := by decide +kernel
theorem dX9_turn_46 : decode cX9_turn 46 = .ok (.istore 5, 2) := by decide +kernel
theorem dX9_turn_48 : decode cX9_turn 48 = .ok (.iload 5, 2) := by decide +kernel
theorem dX9_turn_50 : decode cX9_turn 50 = .ok (.iload 4, 2) := by decide +kernel
theorem dX9_turn_52 : decode cX9_turn 52 = .ok (.if_icmp .ge 113, 3) := by decide +kernel
theorem dX9_turn_55 : decode cX9_turn 55 = .ok (.aload_n 0, 1) := by decide +kernel
theorem dX9_turn_56 : decode cX9_turn 56 = .ok (.getfield 12, 3) := by decide +kernel
theorem dX9_turn_59 : decode cX9_turn 59 = .ok (.invokevirtual 92, 3) := by decide +kernel
theorem dX9_turn_62 : decode cX9_turn 62 = .ok (.ifCond .eq 50, 3) := by decide +kernel
theorem dX9_turn_65 : decode cX9_turn 65 = .ok (.iload_n 3, 1) := by decide +kernel
theorem dX9_turn_66 : decode cX9_turn 66 = .ok (.ifCond .ne 13, 3) := by decide +kernel
theorem dX9_turn_69 : decode cX9_turn 69 = .ok (.aload_n 0, 1) := by decide +kernel
theorem dX9_turn_70 : decode cX9_turn 70 = .ok (.getfield 18, 3) := by decide +kernel
theorem dX9_turn_73 : decode cX9_turn 73 = .ok (.invokevirtual 92, 3) := by decide +kernel
theorem dX9_turn_76 : decode cX9_turn 76 = .ok (.ifCond .ne 36, 3) := by decide +kernel
theorem dX9_turn_79 : decode cX9_turn 79 = .ok (.aload_n 0, 1) := by decide +kernel
theorem dX9_turn_80 : decode cX9_turn 80 = .ok (.getfield 24, 3) := by decide +kernel
theorem dX9_turn_83 : decode cX9_turn 83 = .ok (.aload_n 0, 1) := by decide +kernel
theorem dX9_turn_84 : decode cX9_turn 84 = .ok (.getfield 12, 3) := by decide +kernel
theorem dX9_turn_87 : decode cX9_turn 87 = .ok (.getfield 95, 3) := by decide +kernel
theorem dX9_turn_90 : decode cX9_turn 90 = .ok (.invokevirtual 75, 3) := by decide +kernel
theorem dX9_turn_93 : decode cX9_turn 93 = .ok (.aload_n 0, 1) := by decide +kernel
theorem dX9_turn_94 : decode cX9_turn 94 = .ok (.getfield 28, 3) := by decide +kernel
theorem dX9_turn_97 : decode cX9_turn 97 = .ok (.iconst 1, 1) := by decide +kernel
theorem dX9_turn_98 : decode cX9_turn 98 = .ok (.invokevirtual 62, 3) := by decide +kernel
theorem dX9_turn_101 : decode cX9_turn 101 = .ok (.aload_n 0, 1) := by decide +kernel
theorem dX9_turn_102 : decode cX9_turn 102 = .ok (.getfield 12, 3) := by decide +kernel
theorem dX9_turn_105 : decode cX9_turn 105 = .ok (.iconst 1, 1) := by decide +kernel
theorem dX9_turn_106 : decode cX9_turn 106 = .ok (.invokevirtual 89, 3) := by decide +kernel
theorem dX9_turn_109 : decode cX9_turn 109 = .ok (.goto 50, 3) := by decide +kernel
theorem dX9_turn_112 : decode cX9_turn 112 = .ok (.aload_n 0, 1) := by decide +kernel
theorem dX9_turn_113 : decode cX9_turn 113 = .ok (.getfield 18, 3) := by decide +kernel
theorem dX9_turn_116 : decode cX9_turn 116 = .ok (.invokevirtual 92, 3) := by decide +kernel
theorem dX9_turn_119 : decode cX9_turn 119 = .ok (.ifCond .eq 36, 3) := by decide +kernel
theorem dX9_turn_122 : decode cX9_turn 122 = .ok (.aload_n 0, 1) := by decide +kernel
theorem dX9_turn_123 : decode cX9_turn 123 = .ok (.getfield 28, 3) := by decide +kernel
theorem dX9_turn_126 : decode cX9_turn 126 = .ok (.aload_n 0, 1) := by decide +kernel
theorem dX9_turn_127 : decode cX9_turn 127 = .ok (.getfield 18, 3) := by decide +kernel
theorem dX9_turn_130 : decode cX9_turn 130 = .ok (.getfield 95, 3) := by decide +kernel
theorem dX9_turn_133 : decode cX9_turn 133 = .ok (.invokevirtual 75, 3) := by decide +kernel
theorem dX9_turn_136 : decode cX9_turn 136 = .ok (.aload_n 0, 1) := by decide +kernel
theorem dX9_turn_137 : decode cX9_turn 137 = .ok (.getfield 24, 3) := by decide +kernel
theorem dX9_turn_140 : decode cX9_turn 140 = .ok (.iconst 1, 1) := by decide +kernel
theorem dX9_turn_141 : decode cX9_turn 141 = .ok (.invokevirtual 62, 3) := by decide +kernel
theorem dX9_turn_144 : decode cX9_turn 144 = .ok (.aload_n 0, 1) := by decide +kernel
theorem dX9_turn_145 : decode cX9_turn 145 = .ok (.getfield 18, 3) := by decide +kernel
theorem dX9_turn_148 : decode cX9_turn 148 = .ok (.iconst 1, 1) := by decide +kernel
theorem dX9_turn_149 : decode cX9_turn 149 = .ok (.invokevirtual 89, 3) := by decide +kernel
theorem dX9_turn_152 : decode cX9_turn 152 = .ok (.goto 7, 3) := by decide +kernel
theorem dX9_turn_155 : decode cX9_turn 155 = .ok (.aload_n 0, 1) := by decide +kernel
theorem dX9_turn_156 : decode cX9_turn 156 = .ok (.invokevirtual 104, 3) := by decide +kernel
theorem dX9_turn_159 : decode cX9_turn 159 = .ok (.iinc 5 1, 3) := by decide +kernel
theorem dX9_turn_162 : decode cX9_turn 162 = .ok (.goto (-114), 3) := by decide +kernel
theorem dX9_turn_165 : decode cX9_turn 165 = .ok (.aload_n 1, 1) := by decide +kernel
theorem dX9_turn_166 : decode cX9_turn 166 = .ok (.aload_n 0, 1) := by decide +kernel
theorem dX9_turn_167 : decode cX9_turn 167 = .ok (.getfield 24, 3) := by decide +kernel
theorem dX9_turn_170 : decode cX9_turn 170 = .ok (.invokevirtual 101, 3) := by decide +kernel
theorem dX9_turn_173 : decode cX9_turn 173 = .ok (.aload_n 2, 1) := by decide +kernel
theorem dX9_turn_174 : decode cX9_turn 174 = .ok (.aload_n 0, 1) := by decide +kernel
theorem dX9_turn_175 : decode cX9_turn 175 = .ok (.getfield 28, 3) := by decide +kernel
theorem dX9_turn_178 : decode cX9_turn 178 = .ok (.invokevirtual 101, 3) := by decide +kernel
theorem dX9_turn_181 : decode cX9_turn 181 = .ok (.return_, 1) := by decide +kernel
theorem dX9_turnCommon_0 : decode cX9_turnCommon 0 = .ok (.aload_n 0, 1) := by decide +kernel
theorem dX9_turnCommon_1 : decode cX9_turnCommon 1 = .ok (.getfield 12, 3) := by decide +kernel
theorem dX9_turnCommon_4 : decode cX9_turnCommon 4 = .ok (.getfield 86, 3) := by decide +kernel
theorem dX9_turnCommon_7 : decode cX9_turnCommon 7 = .ok (.aload_n 0, 1) := by decide +kernel
theorem dX9_turnCommon_8 : decode cX9_turnCommon 8 = .ok (.getfield 18, 3) := by decide +kernel
theorem dX9_turnCommon_11 : decode cX9_turnCommon 11 = .ok (.getfield 86, 3) := by decide +kernel
theorem dX9_turnCommon_14 : decode cX9_turnCommon 14 = .ok (.invokestatic 65, 3) := by decide +kernel
theorem dX9_turnCommon_17 : decode cX9_turnCommon 17 = .ok (.istore_n 1, 1) := by decide +kernel
theorem dX9_turnCommon_18 : decode cX9_turnCommon 18 = .ok (.iload_n 1, 1) := by decide +kernel
theorem dX9_turnCommon_19 : decode cX9_turnCommon 19 = .ok (.ifCond .gt 4, 3) := by decide +kernel
theorem dX9_turnCommon_22 : decode cX9_turnCommon 22 = .ok (.return_, 1) := by decide +kernel
theorem dX9_turnCommon_23 : decode cX9_turnCommon 23 = .ok (.aload_n 0, 1) := by decide +kernel
theorem dX9_turnCommon_24 : decode cX9_turnCommon 24 = .ok (.getfield 12, 3) := by decide +kernel
theorem dX9_turnCommon_27 : decode cX9_turnCommon 27 = .ok (.invokevirtual 82, 3) := by decide +kernel
theorem dX9_turnCommon_30 : decode cX9_turnCommon 30 = .ok (.istore_n 2, 1) := by decide +kernel
theorem dX9_turnCommon_31 : decode cX9_turnCommon 31 = .ok (.aload_n 0, 1) := by decide +kernel
theorem dX9_turnCommon_32 : decode cX9_turnCommon 32 = .ok (.getfield 18, 3) := by decide +kernel
theorem dX9_turnCommon_35 : decode cX9_turnCommon 35 = .ok (.invokevirtual 82, 3) := by decide +kernel
theorem dX9_turnCommon_38 : decode cX9_turnCommon 38 = .ok (.istore_n 3, 1) := by decide +kernel
theorem dX9_turnCommon_39 : decode cX9_turnCommon 39 = .ok (.iload_n 2, 1) := by decide +kernel
theorem dX9_turnCommon_40 : decode cX9_turnCommon 40 = .ok (.ifCond .ne 26, 3) := by decide +kernel
theorem dX9_turnCommon_43 : decode cX9_turnCommon 43 = .ok (.iload_n 3, 1) := by decide +kernel
theorem dX9_turnCommon_44 : decode cX9_turnCommon 44 = .ok (.ifCond .ne 22, 3) := by decide +kernel
theorem dX9_turnCommon_47 : decode cX9_turnCommon 47 = .ok (.aload_n 0, 1) := by decide +kernel
theorem dX9_turnCommon_48 : decode cX9_turnCommon 48 = .ok (.getfield 24, 3) := by decide +kernel
theorem dX9_turnCommon_51 : decode cX9_turnCommon 51 = .ok (.iload_n 1, 1) := by decide +kernel
theorem dX9_turnCommon_52 : decode cX9_turnCommon 52 = .ok (.invokevirtual 62, 3) := by decide +kernel
theorem dX9_turnCommon_55 : decode cX9_turnCommon 55 = .ok (.aload_n 0, 1) := by decide +kernel
theorem dX9_turnCommon_56 : decode cX9_turnCommon 56 = .ok (.getfield 28, 3) := by decide +kernel
theorem dX9_turnCommon_59 : decode cX9_turnCommon 59 = .ok (.iload_n 1, 1) := by decide +kernel
theorem dX9_turnCommon_60 : decode cX9_turnCommon 60 = .ok (.invokevirtual 62, 3) := by decide +kernel
theorem dX9_turnCommon_63 : decode cX9_turnCommon 63 = .ok (.goto 30, 3) := by decide +kernel
theorem dX9_turnCommon_66 : decode cX9_turnCommon 66 = .ok (.iload_n 3, 1) := by decide +kernel
theorem dX9_turnCommon_67 : decode cX9_turnCommon 67 = .ok (.ifCond .ne 14, 3) := by decide +kernel
theorem dX9_turnCommon_70 : decode cX9_turnCommon 70 = .ok (.aload_n 0, 1) := by decide +kernel
theorem dX9_turnCommon_71 : decode cX9_turnCommon 71 = .ok (.getfield 24, 3) := by decide +kernel
theorem dX9_turnCommon_74 : decode cX9_turnCommon 74 = .ok (.iload_n 1, 1) := by decide +kernel
theorem dX9_turnCommon_75 : decode cX9_turnCommon 75 = .ok (.invokevirtual 59, 3) := by decide +kernel
theorem dX9_turnCommon_78 : decode cX9_turnCommon 78 = .ok (.goto 15, 3) := by decide +kernel
theorem dX9_turnCommon_81 : decode cX9_turnCommon 81 = .ok (.iload_n 2, 1) := by decide +kernel
theorem dX9_turnCommon_82 : decode cX9_turnCommon 82 = .ok (.ifCond .ne 11, 3) := by decide +kernel
theorem dX9_turnCommon_85 : decode cX9_turnCommon 85 = .ok (.aload_n 0, 1) := by decide +kernel
theorem dX9_turnCommon_86 : decode cX9_turnCommon 86 = .ok (.getfield 28, 3) := by decide +kernel
theorem dX9_turnCommon_89 : decode cX9_turnCommon 89 = .ok (.iload_n 1, 1) := by decide +kernel
theorem dX9_turnCommon_90 : decode cX9_turnCommon 90 = .ok (.invokevirtual 59, 3) := by decide +kernel
theorem dX9_turnCommon_93 : decode cX9_turnCommon 93 = .ok (.aload_n 0, 1) := by decide +kernel
theorem dX9_turnCommon_94 : decode cX9_turnCommon 94 = .ok (.getfield 12, 3) := by decide +kernel
theorem dX9_turnCommon_97 : decode cX9_turnCommon 97 = .ok (.iload_n 1, 1) := by decide +kernel
theorem dX9_turnCommon_98 : decode cX9_turnCommon 98 = .ok (.invokevirtual 89, 3) := by decide +kernel
theorem dX9_turnCommon_101 : decode cX9_turnCommon 101 = .ok (.aload_n 0, 1) := by decide +kernel
theorem dX9_turnCommon_102 : decode cX9_turnCommon 102 = .ok (.getfield 18, 3) := by decide +kernel
theorem dX9_turnCommon_105 : decode cX9_turnCommon 105 = .ok (.iload_n 1, 1) := by decide +kernel
theorem dX9_turnCommon_106 : decode cX9_turnCommon 106 = .ok (.invokevirtual 89, 3) := by decide +kernel
theorem dX9_turnCommon_109 : decode cX9_turnCommon 109 = .ok (.return_, 1) := by decide +kernel
theorem dX9_turnAll_0 : decode cX9_turnAll 0 = .ok (.aload_n 0, 1) := by decide +kernel
theorem dX9_turnAll_1 : decode cX9_turnAll 1 = .ok (.getfield 38, 3) := by decide +kernel
theorem dX9_turnAll_4 : decode cX9_turnAll 4 = .ok (.aload_n 0, 1) := by decide +kernel
theorem dX9_turnAll_5 : decode cX9_turnAll 5 = .ok (.getfield 35, 3) := by decide +kernel
theorem dX9_turnAll_8 : decode cX9_turnAll 8 = .ok (.invokevirtual 107, 3) := by decide +kernel
theorem dX9_turnAll_11 : decode cX9_turnAll 11 = .ok (.aload_n 1, 1) := by decide +kernel
theorem dX9_turnAll_12 : decode cX9_turnAll 12 = .ok (.getfield 110, 3) := by decide +kernel
theorem dX9_turnAll_15 : decode cX9_turnAll 15 = .ok (.iconst 1, 1) := by decide +kernel
theorem dX9_turnAll_16 : decode cX9_turnAll 16 = .ok (.isub, 1) := by decide +kernel
theorem dX9_turnAll_17 : decode cX9_turnAll 17 = .ok (.istore_n 3, 1) := by decide +kernel
theorem dX9_turnAll_18 : decode cX9_turnAll 18 = .ok (.iload_n 3, 1) := by decide +kernel
theorem dX9_turnAll_19 : decode cX9_turnAll 19 = .ok (.ifCond .lt 24, 3) := by decide +kernel
theorem dX9_turnAll_22 : decode cX9_turnAll 22 = .ok (.aload_n 0, 1) := by decide +kernel
theorem dX9_turnAll_23 : decode cX9_turnAll 23 = .ok (.aload_n 1, 1) := by decide +kernel
theorem dX9_turnAll_24 : decode cX9_turnAll 24 = .ok (.getfield 113, 3) := by decide +kernel
theorem dX9_turnAll_27 : decode cX9_turnAll 27 = .ok (.iload_n 3, 1) := by decide +kernel
theorem dX9_turnAll_28 : decode cX9_turnAll 28 = .ok (.aaload, 1) := by decide +kernel
theorem dX9_turnAll_29 : decode cX9_turnAll 29 = .ok (.aload_n 0, 1) := by decide +kernel
theorem dX9_turnAll_30 : decode cX9_turnAll 30 = .ok (.getfield 38, 3) := by decide +kernel
theorem dX9_turnAll_33 : decode cX9_turnAll 33 = .ok (.iload_n 2, 1) := by decide +kernel
theorem dX9_turnAll_34 : decode cX9_turnAll 34 = .ok (.invokevirtual 117, 3) := by decide +kernel
theorem dX9_turnAll_37 : decode cX9_turnAll 37 = .ok (.iinc 3 (-1), 3) := by decide +kernel
theorem dX9_turnAll_40 : decode cX9_turnAll 40 = .ok (.goto (-22), 3) := by decide +kernel
theorem dX9_turnAll_43 : decode cX9_turnAll 43 = .ok (.return_, 1) := by decide +kernel
theorem dX9_change_0 : decode cX9_change 0 = .ok (.iconst 0, 1) := by decide +kernel
theorem dX9_change_1 : decode cX9_change 1 = .ok (.istore 4, 2) := by decide +kernel
theorem dX9_change_3 : decode cX9_change 3 = .ok (.iconst 0, 1) := by decide +kernel
theorem dX9_change_4 : decode cX9_change 4 = .ok (.istore 5, 2) := by decide +kernel
theorem dX9_change_6 : decode cX9_change 6 = .ok (.iconst 0, 1) := by decide +kernel
theorem dX9_change_7 : decode cX9_change 7 = .ok (.istore 6, 2) := by decide +kernel
theorem dX9_change_9 : decode cX9_change 9 = .ok (.iload 6, 2) := by decide +kernel
theorem dX9_change_11 : decode cX9_change 11 = .ok (.aload_n 2, 1) := by decide +kernel
theorem dX9_change_12 : decode cX9_change 12 = .ok (.getfield 41, 3) := by decide +kernel
theorem dX9_change_15 : decode cX9_change 15 = .ok (.if_icmp .ge 133, 3) := by decide +kernel
theorem dX9_change_18 : decode cX9_change 18 = .ok (.aload_n 2, 1) := by decide +kernel
theorem dX9_change_19 : decode cX9_change 19 = .ok (.getfield 52, 3) := by decide +kernel
theorem dX9_change_22 : decode cX9_change 22 = .ok (.iload 6, 2) := by decide +kernel
theorem dX9_change_24 : decode cX9_change 24 = .ok (.iaload, 1) := by decide +kernel
theorem dX9_change_25 : decode cX9_change 25 = .ok (.istore 7, 2) := by decide +kernel
theorem dX9_change_27 : decode cX9_change 27 = .ok (.iload 7, 2) := by decide +kernel
theorem dX9_change_29 : decode cX9_change 29 = .ok (.ifCond .ge 13, 3) := by decide +kernel
theorem dX9_change_32 : decode cX9_change 32 = .ok (.iload 4, 2) := by decide +kernel
theorem dX9_change_34 : decode cX9_change 34 = .ok (.iload 7, 2) := by decide +kernel
theorem dX9_change_36 : decode cX9_change 36 = .ok (.isub, 1) := by decide +kernel
theorem dX9_change_37 : decode cX9_change 37 = .ok (.istore 4, 2) := by decide +kernel
theorem dX9_change_39 : decode cX9_change 39 = .ok (.goto 103, 3) := by decide +kernel
theorem dX9_change_42 : decode cX9_change 42 = .ok (.iload 7, 2) := by decide +kernel
theorem dX9_change_44 : decode cX9_change 44 = .ok (.bipush 31, 2) := by decide +kernel
theorem dX9_change_46 : decode cX9_change 46 = .ok (.if_icmp .le 70, 3) := by decide +kernel
theorem dX9_change_49 : decode cX9_change 49 = .ok (.iload 7, 2) := by decide +kernel
theorem dX9_change_51 : decode cX9_change 51 = .ok (.bipush 31, 2) := by decide +kernel
theorem dX9_change_53 : decode cX9_change 53 = .ok (.isub, 1) := by decide +kernel
theorem dX9_change_54 : decode cX9_change 54 = .ok (.aload_n 1, 1) := by decide +kernel
theorem dX9_change_55 : decode cX9_change 55 = .ok (.getfield 45, 3) := by decide +kernel
theorem dX9_change_58 : decode cX9_change 58 = .ok (.iload 4, 2) := by decide +kernel
theorem dX9_change_60 : decode cX9_change 60 = .ok (.isub, 1) := by decide +kernel
theorem dX9_change_61 : decode cX9_change 61 = .ok (.aload_n 0, 1) := by decide +kernel
theorem dX9_change_62 : decode cX9_change 62 = .ok (.getfield 31, 3) := by decide +kernel
theorem dX9_change_65 : decode cX9_change 65 = .ok (.arraylength, 1) := by decide +kernel
theorem dX9_change_66 : decode cX9_change 66 = .ok (.iload 5, 2) := by decide +kernel
theorem dX9_change_68 : decode cX9_change 68 = .ok (.isub, 1) := by decide +kernel
theorem dX9_change_69 : decode cX9_change 69 = .ok (.invokestatic 65, 3) := by decide +kernel
theorem dX9_change_72 : decode cX9_change 72 = .ok (.invokestatic 65, 3) := by decide +kernel
theorem dX9_change_75 : decode cX9_change 75 = .ok (.istore 8, 2) := by decide +kernel
theorem dX9_change_77 : decode cX9_change 77 = .ok (.iload 8, 2) := by decide +kernel
theorem dX9_change_79 : decode cX9_change 79 = .ok (.ifCond .le 34, 3) := by decide +kernel
theorem dX9_change_82 : decode cX9_change 82 = .ok (.aload_n 1, 1) := by decide +kernel
theorem dX9_change_83 : decode cX9_change 83 = .ok (.getfield 121, 3) := by decide +kernel
theorem dX9_change_86 : decode cX9_change 86 = .ok (.iload 4, 2) := by decide +kernel
theorem dX9_change_88 : decode cX9_change 88 = .ok (.aload_n 0, 1) := by decide +kernel
theorem dX9_change_89 : decode cX9_change 89 = .ok (.getfield 31, 3) := by decide +kernel
theorem dX9_change_92 : decode cX9_change 92 = .ok (.iload 5, 2) := by decide +kernel
theorem dX9_change_94 : decode cX9_change 94 = .ok (.iload 8, 2) := by decide +kernel
theorem dX9_change_96 : decode cX9_change 96 = .ok (.invokestatic 124, 3) := by decide +kernel
theorem dX9_change_99 : decode cX9_change 99 = .ok (.iload 4, 2) := by decide +kernel
theorem dX9_change_101 : decode cX9_change 101 = .ok (.iload 8, 2) := by decide +kernel
theorem dX9_change_103 : decode cX9_change 103 = .ok (.iadd, 1) := by decide +kernel
theorem dX9_change_104 : decode cX9_change 104 = .ok (.istore 4, 2) := by decide +kernel
theorem dX9_change_106 : decode cX9_change 106 = .ok (.iload 5, 2) := by decide +kernel
theorem dX9_change_108 : decode cX9_change 108 = .ok (.iload 8, 2) := by decide +kernel
theorem dX9_change_110 : decode cX9_change 110 = .ok (.iadd, 1) := by decide +kernel
theorem dX9_change_111 : decode cX9_change 111 = .ok (.istore 5, 2) := by decide +kernel
theorem dX9_change_113 : decode cX9_change 113 = .ok (.goto 29, 3) := by decide +kernel
theorem dX9_change_116 : decode cX9_change 116 = .ok (.iload 5, 2) := by decide +kernel
theorem dX9_change_118 : decode cX9_change 118 = .ok (.aload_n 0, 1) := by decide +kernel
theorem dX9_change_119 : decode cX9_change 119 = .ok (.getfield 31, 3) := by decide +kernel
theorem dX9_change_122 : decode cX9_change 122 = .ok (.arraylength, 1) := by decide +kernel
theorem dX9_change_123 : decode cX9_change 123 = .ok (.if_icmp .ge 19, 3) := by decide +kernel
theorem dX9_change_126 : decode cX9_change 126 = .ok (.aload_n 0, 1) := by decide +kernel
theorem dX9_change_127 : decode cX9_change 127 = .ok (.getfield 31, 3) := by decide +kernel
theorem dX9_change_130 : decode cX9_change 130 = .ok (.iload 5, 2) := by decide +kernel
theorem dX9_change_132 : decode cX9_change 132 = .ok (.iinc 5 1, 3) := by decide +kernel
theorem dX9_change_135 : decode cX9_change 135 = .ok (.iload 7, 2) := by decide +kernel
theorem dX9_change_137 : decode cX9_change 137 = .ok (.iload_n 3, 1) := by decide +kernel
theorem dX9_change_138 : decode cX9_change 138 = .ok (.iconst 5, 1) := by decide +kernel
theorem dX9_change_139 : decode cX9_change 139 = .ok (.ishl, 1) := by decide +kernel
theorem dX9_change_140 : decode cX9_change 140 = .ok (.ior, 1) := by decide +kernel
theorem dX9_change_141 : decode cX9_change 141 = .ok (.iastore, 1) := by decide +kernel
theorem dX9_change_142 : decode cX9_change 142 = .ok (.iinc 6 1, 3) := by decide +kernel
theorem dX9_change_145 : decode cX9_change 145 = .ok (.goto (-136), 3) := by decide +kernel
theorem dX9_change_148 : decode cX9_change 148 = .ok (.aload_n 1, 1) := by decide +kernel
theorem dX9_change_149 : decode cX9_change 149 = .ok (.getfield 121, 3) := by decide +kernel
theorem dX9_change_152 : decode cX9_change 152 = .ok (.astore 6, 2) := by decide +kernel
theorem dX9_change_154 : decode cX9_change 154 = .ok (.aload_n 1, 1) := by decide +kernel
theorem dX9_change_155 : decode cX9_change 155 = .ok (.aload_n 0, 1) := by decide +kernel
theorem dX9_change_156 : decode cX9_change 156 = .ok (.getfield 31, 3) := by decide +kernel
theorem dX9_change_159 : decode cX9_change 159 = .ok (.putfield 121, 3) := by decide +kernel
theorem dX9_change_162 : decode cX9_change 162 = .ok (.aload_n 1, 1) := by decide +kernel
theorem dX9_change_163 : decode cX9_change 163 = .ok (.iload 5, 2) := by decide +kernel
theorem dX9_change_165 : decode cX9_change 165 = .ok (.putfield 45, 3) := by decide +kernel
theorem dX9_change_168 : decode cX9_change 168 = .ok (.aload_n 0, 1) := by decide +kernel
theorem dX9_change_169 : decode cX9_change 169 = .ok (.aload 6, 2) := by decide +kernel
theorem dX9_change_171 : decode cX9_change 171 = .ok (.putfield 31, 3) := by decide +kernel
theorem dX9_change_174 : decode cX9_change 174 = .ok (.return_, 1) := by decide +kernel
theorem dX10_init_0 : decode cX10_init 0 = .ok (.aload_n 0, 1) := by decide +kernel
theorem dX10_init_1 : decode cX10_init 1 = .ok (.invokespecial 3, 3) := by decide +kernel
theorem dX10_init_4 : decode cX10_init 4 = .ok (.aload_n 0, 1) := by decide +kernel
theorem dX10_init_5 : decode cX10_init 5 = .ok (.new 9, 3) := by decide +kernel
theorem dX10_init_8 : decode cX10_init 8 = .ok (.dup, 1) := by decide +kernel
theorem dX10_init_9 : decode cX10_init 9 = .ok (.invokespecial 11, 3) := by decide +kernel
theorem dX10_init_12 : decode cX10_init 12 = .ok (.putfield 12, 3) := by decide +kernel
theorem dX10_init_15 : decode cX10_init 15 = .ok (.aload_n 0, 1) := by decide +kernel
theorem dX10_init_16 : decode cX10_init 16 = .ok (.iconst 4, 1) := by decide +kernel
theorem dX10_init_17 : decode cX10_init 17 = .ok (.anewarray 18, 3) := by decide +kernel
theorem dX10_init_20 : decode cX10_init 20 = .ok (.putfield 20, 3) := by decide +kernel
theorem dX10_init_23 : decode cX10_init 23 = .ok (.aload_n 0, 1) := by decide +kernel
theorem dX10_init_24 : decode cX10_init 24 = .ok (.iconst 4, 1) := by decide +kernel
theorem dX10_init_25 : decode cX10_init 25 = .ok (.newarray .int, 2) := by decide +kernel
theorem dX10_init_27 : decode cX10_init 27 = .ok (.putfield 24, 3) := by decide +kernel
theorem dX10_init_30 : decode cX10_init 30 = .ok (.aload_n 0, 1) := by decide +kernel
theorem dX10_init_31 : decode cX10_init 31 = .ok (.iconst 1, 1) := by decide +kernel
theorem dX10_init_32 : decode cX10_init 32 = .ok (.putfield 28, 3) := by decide +kernel
theorem dX10_init_35 : decode cX10_init 35 = .ok (.aload_n 0, 1) := by decide +kernel
theorem dX10_init_36 : decode cX10_init 36 = .ok (.iconst 0, 1) := by decide +kernel
theorem dX10_init_37 : decode cX10_init 37 = .ok (.putfield 32, 3) := by decide +kernel
theorem dX10_init_40 : decode cX10_init 40 = .ok (.aload_n 0, 1) := by decide +kernel
theorem dX10_init_41 : decode cX10_init 41 = .ok (.iconst 0, 1) := by decide +kernel
theorem dX10_init_42 : decode cX10_init 42 = .ok (.putfield 36, 3) := by decide +kernel
theorem dX10_init_45 : decode cX10_init 45 = .ok (.aload_n 0, 1) := by decide +kernel
theorem dX10_init_46 : decode cX10_init 46 = .ok (.iconst 0, 1) := by decide +kernel
theorem dX10_init_47 : decode cX10_init 47 = .ok (.putfield 39, 3) := by decide +kernel
theorem dX10_init_50 : decode cX10_init 50 = .ok (.aload_n 0, 1) := by decide +kernel
theorem dX10_init_51 : decode cX10_init 51 = .ok (.iconst 0, 1) := by decide +kernel
theorem dX10_init_52 : decode cX10_init 52 = .ok (.putfield 42, 3) := by decide +kernel
theorem dX10_init_55 : decode cX10_init 55 = .ok (.aload_n 0, 1) := by decide +kernel
theorem dX10_init_56 : decode cX10_init 56 = .ok (.iconst 0, 1) := by decide +kernel
theorem dX10_init_57 : decode cX10_init 57 = .ok (.putfield 45, 3) := by decide +kernel
theorem dX10_init_60 : decode cX10_init 60 = .ok (.aload_n 0, 1) := by decide +kernel
theorem dX10_init_61 : decode cX10_init 61 = .ok (.iconst 0, 1) := by decide +kernel
theorem dX10_init_62 : decode cX10_init 62 = .ok (.putfield 48, 3) := by decide +kernel
theorem dX10_init_65 : decode cX10_init 65 = .ok (.aload_n 0, 1) := by decide +kernel
theorem dX10_init_66 : decode cX10_init 66 = .ok (.aload_n 1, 1) := by decide +kernel
theorem dX10_init_67 : decode cX10_init 67 = .ok (.putfield 51, 3) := by decide +kernel
theorem dX10_init_70 : decode cX10_init 70 = .ok (.aload_n 0, 1) := by decide +kernel
theorem dX10_init_71 : decode cX10_init 71 = .ok (.aload_n 2, 1) := by decide +kernel
theorem dX10_init_72 : decode cX10_init 72 = .ok (.putfield 55, 3) := by decide +kernel
theorem dX10_init_75 : decode cX10_init 75 = .ok (.iconst 0, 1) := by decide +kernel
theorem dX10_init_76 : decode cX10_init 76 = .ok (.istore_n 3, 1) := by decide +kernel
theorem dX10_init_77 : decode cX10_init 77 = .ok (.iload_n 3, 1) := by decide +kernel
theorem dX10_init_78 : decode cX10_init 78 = .ok (.aload_n 0, 1) := by decide +kernel
theorem dX10_init_79 : decode cX10_init 79 = .ok (.getfield 20, 3) := by decide +kernel
theorem dX10_init_82 : decode cX10_init 82 = .ok (.arraylength, 1) := by decide +kernel
theorem dX10_init_83 : decode cX10_init 83 = .ok (.if_icmp .ge 22, 3) := by decide +kernel
theorem dX10_init_86 : decode cX10_init 86 = .ok (.aload_n 0, 1) := by decide +kernel
theorem dX10_init_87 : decode cX10_init 87 = .ok (.getfield 20, 3) := by decide +kernel
theorem dX10_init_90 : decode cX10_init 90 = .ok (.iload_n 3, 1) := by decide +kernel
theorem dX10_init_91 : decode cX10_init 91 = .ok (.new 18, 3) := by decide +kernel
theorem dX10_init_94 : decode cX10_init 94 = .ok (.dup, 1) := by decide +kernel
theorem dX10_init_95 : decode cX10_init 95 = .ok (.invokespecial 59, 3) := by decide +kernel
theorem dX10_init_98 : decode cX10_init 98 = .ok (.aastore, 1) := by decide +kernel
theorem dX10_init_99 : decode cX10_init 99 = .ok (.iinc 3 1, 3) := by decide +kernel
theorem dX10_init_102 : decode cX10_init 102 = .ok (.goto (-25), 3) := by decide +kernel
theorem dX10_init_105 : decode cX10_init 105 = .ok (.return_, 1) := by decide +kernel
theorem dX10_begin_0 : decode cX10_begin 0 = .ok (.aload_n 0, 1) := by decide +kernel
theorem dX10_begin_1 : decode cX10_begin 1 = .ok (.iload_n 1, 1) := by decide +kernel
theorem dX10_begin_2 : decode cX10_begin 2 = .ok (.aload_n 0, 1) := by decide +kernel
theorem dX10_begin_3 : decode cX10_begin 3 = .ok (.getfield 20, 3) := by decide +kernel
theorem dX10_begin_6 : decode cX10_begin 6 = .ok (.arraylength, 1) := by decide +kernel
theorem dX10_begin_7 : decode cX10_begin 7 = .ok (.invokestatic 60, 3) := by decide +kernel
theorem dX10_begin_10 : decode cX10_begin 10 = .ok (.putfield 32, 3) := by decide +kernel
theorem dX10_begin_13 : decode cX10_begin 13 = .ok (.aload_n 0, 1) := by decide +kernel
theorem dX10_begin_14 : decode cX10_begin 14 = .ok (.getfield 12, 3) := by decide +kernel
theorem dX10_begin_17 : decode cX10_begin 17 = .ok (.aload_n 0, 1) := by decide +kernel
theorem dX10_begin_18 : decode cX10_begin 18 = .ok (.getfield 51, 3) := by decide +kernel
theorem dX10_begin_21 : decode cX10_begin 21 = .ok (.getfield 66, 3) := by decide +kernel
theorem dX10_begin_24 : decode cX10_begin 24 = .ok (.invokevirtual 71, 3) := by decide +kernel
theorem dX10_begin_27 : decode cX10_begin 27 = .ok (.iconst 0, 1) := by decide +kernel
theorem dX10_begin_28 : decode cX10_begin 28 = .ok (.istore_n 2, 1) := by decide +kernel
theorem dX10_begin_29 : decode cX10_begin 29 = .ok (.iload_n 2, 1) := by decide +kernel
theorem dX10_begin_30 : decode cX10_begin 30 = .ok (.aload_n 0, 1) := by decide +kernel
theorem dX10_begin_31 : decode cX10_begin 31 = .ok (.getfield 20, 3) := by decide +kernel
theorem dX10_begin_34 : decode cX10_begin 34 = .ok (.arraylength, 1) := by decide +kernel
theorem dX10_begin_35 : decode cX10_begin 35 = .ok (.if_icmp .ge 32, 3) := by decide +kernel
theorem dX10_begin_38 : decode cX10_begin 38 = .ok (.aload_n 0, 1) := by decide +kernel
theorem dX10_begin_39 : decode cX10_begin 39 = .ok (.getfield 20, 3) := by decide +kernel
theorem dX10_begin_42 : decode cX10_begin 42 = .ok (.iload_n 2, 1) := by decide +kernel
theorem dX10_begin_43 : decode cX10_begin 43 = .ok (.aaload, 1) := by decide +kernel
theorem dX10_begin_44 : decode cX10_begin 44 = .ok (.aload_n 0, 1) := by decide +kernel
theorem dX10_begin_45 : decode cX10_begin 45 = .ok (.getfield 51, 3) := by decide +kernel
theorem dX10_begin_48 : decode cX10_begin 48 = .ok (.getfield 66, 3) := by decide +kernel
theorem dX10_begin_51 : decode cX10_begin 51 = .ok (.invokevirtual 75, 3) := by decide +kernel
theorem dX10_begin_54 : decode cX10_begin 54 = .ok (.aload_n 0, 1) := by decide +kernel
theorem dX10_begin_55 : decode cX10_begin 55 = .ok (.getfield 24, 3) := by decide +kernel
theorem dX10_begin_58 : decode cX10_begin 58 = .ok (.iload_n 2, 1) := by decide +kernel
theorem dX10_begin_59 : decode cX10_begin 59 = .ok (.iconst 0, 1) := by decide +kernel
theorem dX10_begin_60 : decode cX10_begin 60 = .ok (.iastore, 1) := by decide +kernel
theorem dX10_begin_61 : decode cX10_begin 61 = .ok (.iinc 2 1, 3) := by decide +kernel
theorem dX10_begin_64 : decode cX10_begin 64 = .ok (.goto (-35), 3) := by decide +kernel
theorem dX10_begin_67 : decode cX10_begin 67 = .ok (.aload_n 0, 1) := by decide +kernel
theorem dX10_begin_68 : decode cX10_begin 68 = .ok (.iconst 0, 1) := by decide +kernel
theorem dX10_begin_69 : decode cX10_begin 69 = .ok (.putfield 36, 3) := by decide +kernel
theorem dX10_begin_72 : decode cX10_begin 72 = .ok (.aload_n 0, 1) := by decide +kernel
theorem dX10_begin_73 : decode cX10_begin 73 = .ok (.iconst 0, 1) := by decide +kernel
theorem dX10_begin_74 : decode cX10_begin 74 = .ok (.putfield 39, 3) := by decide +kernel
theorem dX10_begin_77 : decode cX10_begin 77 = .ok (.aload_n 0, 1) := by decide +kernel
theorem dX10_begin_78 : decode cX10_begin 78 = .ok (.iconst 0, 1) := by decide +kernel
theorem dX10_begin_79 : decode cX10_begin 79 = .ok (.putfield 42, 3) := by decide +kernel
theorem dX10_begin_82 : decode cX10_begin 82 = .ok (.aload_n 0, 1) := by decide +kernel
theorem dX10_begin_83 : decode cX10_begin 83 = .ok (.iconst 0, 1) := by decide +kernel
theorem dX10_begin_84 : decode cX10_begin 84 = .ok (.putfield 45, 3) := by decide +kernel
theorem dX10_begin_87 : decode cX10_begin 87 = .ok (.aload_n 0, 1) := by decide +kernel
theorem dX10_begin_88 : decode cX10_begin 88 = .ok (.iconst 0, 1) := by decide +kernel
theorem dX10_begin_89 : decode cX10_begin 89 = .ok (.putfield 48, 3) := by decide +kernel
theorem dX10_begin_92 : decode cX10_begin 92 = .ok (.return_, 1) := by decide +kernel
theorem dX10_copy_0 : decode cX10_copy 0 = .ok (.aload_n 0, 1) := by decide +kernel
theorem dX10_copy_1 : decode cX10_copy 1 = .ok (.iload_n 2, 1) := by decide +kernel
theorem dX10_copy_2 : decode cX10_copy 2 = .ok (.putfield 28, 3) := by decide +kernel
theorem dX10_copy_5 : decode cX10_copy 5 = .ok (.aload_n 0, 1) := by decide +kernel
theorem dX10_copy_6 : decode cX10_copy 6 = .ok (.aload_n 1, 1) := by decide +kernel
theorem dX10_copy_7 : decode cX10_copy 7 = .ok (.getfield 32, 3) := by decide +kernel
theorem dX10_copy_10 : decode cX10_copy 10 = .ok (.putfield 32, 3) := by decide +kernel
theorem dX10_copy_13 : decode cX10_copy 13 = .ok (.aload_n 0, 1) := by decide +kernel
theorem dX10_copy_14 : decode cX10_copy 14 = .ok (.aload_n 1, 1) := by decide +kernel
theorem dX10_copy_15 : decode cX10_copy 15 = .ok (.getfield 36, 3) := by decide +kernel
theorem dX10_copy_18 : decode cX10_copy 18 = .ok (.putfield 36, 3) := by decide +kernel
theorem dX10_copy_21 : decode cX10_copy 21 = .ok (.aload_n 0, 1) := by decide +kernel
theorem dX10_copy_22 : decode cX10_copy 22 = .ok (.aload_n 1, 1) := by decide +kernel
theorem dX10_copy_23 : decode cX10_copy 23 = .ok (.getfield 39, 3) := by decide +kernel
theorem dX10_copy_26 : decode cX10_copy 26 = .ok (.putfield 39, 3) := by decide +kernel
theorem dX10_copy_29 : decode cX10_copy 29 = .ok (.aload_n 0, 1) := by decide +kernel
theorem dX10_copy_30 : decode cX10_copy 30 = .ok (.aload_n 1, 1) := by decide +kernel
theorem dX10_copy_31 : decode cX10_copy 31 = .ok (.getfield 42, 3) := by decide +kernel
theorem dX10_copy_34 : decode cX10_copy 34 = .ok (.putfield 42, 3) := by decide +kernel
theorem dX10_copy_37 : decode cX10_copy 37 = .ok (.aload_n 0, 1) := by decide +kernel
theorem dX10_copy_38 : decode cX10_copy 38 = .ok (.aload_n 1, 1) := by decide +kernel
theorem dX10_copy_39 : decode cX10_copy 39 = .ok (.getfield 45, 3) := by decide +kernel
theorem dX10_copy_42 : decode cX10_copy 42 = .ok (.putfield 45, 3) := by decide +kernel
theorem dX10_copy_45 : decode cX10_copy 45 = .ok (.aload_n 0, 1) := by decide +kernel
theorem dX10_copy_46 : decode cX10_copy 46 = .ok (.aload_n 1, 1) := by decide +kernel
theorem dX10_copy_47 : decode cX10_copy 47 = .ok (.getfield 48, 3) := by decide +kernel
theorem dX10_copy_50 : decode cX10_copy 50 = .ok (.putfield 48, 3) := by decide +kernel
theorem dX10_copy_53 : decode cX10_copy 53 = .ok (.aload_n 0, 1) := by decide +kernel
theorem dX10_copy_54 : decode cX10_copy 54 = .ok (.getfield 12, 3) := by decide +kernel
theorem dX10_copy_57 : decode cX10_copy 57 = .ok (.aload_n 1, 1) := by decide +kernel
theorem dX10_copy_58 : decode cX10_copy 58 = .ok (.getfield 12, 3) := by decide +kernel
theorem dX10_copy_61 : decode cX10_copy 61 = .ok (.invokevirtual 71, 3) := by decide +kernel
theorem dX10_copy_64 : decode cX10_copy 64 = .ok (.iconst 0, 1) := by decide +kernel
theorem dX10_copy_65 : decode cX10_copy 65 = .ok (.istore_n 3, 1) := by decide +kernel
theorem dX10_copy_66 : decode cX10_copy 66 = .ok (.iload_n 3, 1) := by decide +kernel
theorem dX10_copy_67 : decode cX10_copy 67 = .ok (.aload_n 0, 1) := by decide +kernel
theorem dX10_copy_68 : decode cX10_copy 68 = .ok (.getfield 32, 3) := by decide +kernel
theorem dX10_copy_71 : decode cX10_copy 71 = .ok (.if_icmp .ge 55, 3) := by decide +kernel
theorem dX10_copy_74 : decode cX10_copy 74 = .ok (.aload_n 0, 1) := by decide +kernel
theorem dX10_copy_75 : decode cX10_copy 75 = .ok (.getfield 24, 3) := by decide +kernel
theorem dX10_copy_78 : decode cX10_copy 78 = .ok (.iload_n 3, 1) := by decide +kernel
theorem dX10_copy_79 : decode cX10_copy 79 = .ok (.aload_n 1, 1) := by decide +kernel
theorem dX10_copy_80 : decode cX10_copy 80 = .ok (.getfield 24, 3) := by decide +kernel
theorem dX10_copy_83 : decode cX10_copy 83 = .ok (.iload_n 3, 1) := by decide +kernel
theorem dX10_copy_84 : decode cX10_copy 84 = .ok (.iaload, 1) := by decide +kernel
theorem dX10_copy_85 : decode cX10_copy 85 = .ok (.iastore, 1) := by decide +kernel
theorem dX10_copy_86 : decode cX10_copy 86 = .ok (.aload_n 0, 1) := by decide +kernel
theorem dX10_copy_87 : decode cX10_copy 87 = .ok (.getfield 20, 3) := by decide +kernel
theorem dX10_copy_90 : decode cX10_copy 90 = .ok (.iload_n 3, 1) := by decide +kernel
theorem dX10_copy_91 : decode cX10_copy 91 = .ok (.aaload, 1) := by decide +kernel
theorem dX10_copy_92 : decode cX10_copy 92 = .ok (.aload_n 1, 1) := by decide +kernel
theorem dX10_copy_93 : decode cX10_copy 93 = .ok (.getfield 20, 3) := by decide +kernel
theorem dX10_copy_96 : decode cX10_copy 96 = .ok (.iload_n 3, 1) := by decide +kernel
theorem dX10_copy_97 : decode cX10_copy 97 = .ok (.aaload, 1) := by decide +kernel
theorem dX10_copy_98 : decode cX10_copy 98 = .ok (.invokevirtual 78, 3) := by decide +kernel
theorem dX10_copy_101 : decode cX10_copy 101 = .ok (.iload_n 2, 1) := by decide +kernel
theorem dX10_copy_102 : decode cX10_copy 102 = .ok (.ifCond .eq 18, 3) := by decide +kernel
theorem dX10_copy_105 : decode cX10_copy 105 = .ok (.aload_n 0, 1) := by decide +kernel
theorem dX10_copy_106 : decode cX10_copy 106 = .ok (.getfield 20, 3) := by decide +kernel
theorem dX10_copy_109 : decode cX10_copy 109 = .ok (.iload_n 3, 1) := by decide +kernel
theorem dX10_copy_110 : decode cX10_copy 110 = .ok (.aaload, 1) := by decide +kernel
theorem dX10_copy_111 : decode cX10_copy 111 = .ok (.aload_n 1, 1) := by decide +kernel
theorem dX10_copy_112 : decode cX10_copy 112 = .ok (.getfield 20, 3) := by decide +kernel
theorem dX10_copy_115 : decode cX10_copy 115 = .ok (.iload_n 3, 1) := by decide +kernel
theorem dX10_copy_116 : decode cX10_copy 116 = .ok (.aaload, 1) := by decide +kernel
theorem dX10_copy_117 : decode cX10_copy 117 = .ok (.invokevirtual 82, 3) := by decide +kernel
theorem dX10_copy_120 : decode cX10_copy 120 = .ok (.iinc 3 1, 3) := by decide +kernel
theorem dX10_copy_123 : decode cX10_copy 123 = .ok (.goto (-57), 3) := by decide +kernel
theorem dX10_copy_126 : decode cX10_copy 126 = .ok (.return_, 1) := by decide +kernel
theorem dX10_knows_0 : decode cX10_knows 0 = .ok (.iload_n 1, 1) := by decide +kernel
theorem dX10_knows_1 : decode cX10_knows 1 = .ok (.ifCond .lt 24, 3) := by decide +kernel
theorem dX10_knows_4 : decode cX10_knows 4 = .ok (.iload_n 1, 1) := by decide +kernel
theorem dX10_knows_5 : decode cX10_knows 5 = .ok (.aload_n 0, 1) := by decide +kernel
theorem dX10_knows_6 : decode cX10_knows 6 = .ok (.getfield 32, 3) := by decide +kernel
theorem dX10_knows_9 : decode cX10_knows 9 = .ok (.if_icmp .ge 16, 3) := by decide +kernel
theorem dX10_knows_12 : decode cX10_knows 12 = .ok (.iload_n 1, 1) := by decide +kernel
theorem dX10_knows_13 : decode cX10_knows 13 = .ok (.aload_n 0, 1) := by decide +kernel
theorem dX10_knows_14 : decode cX10_knows 14 = .ok (.getfield 20, 3) := by decide +kernel
theorem dX10_knows_17 : decode cX10_knows 17 = .ok (.arraylength, 1) := by decide +kernel
theorem dX10_knows_18 : decode cX10_knows 18 = .ok (.if_icmp .ge 7, 3) := by decide +kernel
theorem dX10_knows_21 : decode cX10_knows 21 = .ok (.iconst 1, 1) := by decide +kernel
theorem dX10_knows_22 : decode cX10_knows 22 = .ok (.goto 4, 3) := by decide +kernel
theorem dX10_knows_25 : decode cX10_knows 25 = .ok (.iconst 0, 1) := by decide +kernel
theorem dX10_knows_26 : decode cX10_knows 26 = .ok (.ireturn, 1) := by decide +kernel
theorem dX10_isAhead_0 : decode cX10_isAhead 0 = .ok (.aload_n 0, 1) := by decide +kernel
theorem dX10_isAhead_1 : decode cX10_isAhead 1 = .ok (.getfield 36, 3) := by decide +kernel
theorem dX10_isAhead_4 : decode cX10_isAhead 4 = .ok (.ifCond .ne 14, 3) := by decide +kernel
theorem dX10_isAhead_7 : decode cX10_isAhead 7 = .ok (.iload_n 1, 1) := by decide +kernel
theorem dX10_isAhead_8 : decode cX10_isAhead 8 = .ok (.iload_n 2, 1) := by decide +kernel
theorem dX10_isAhead_9 : decode cX10_isAhead 9 = .ok (.if_icmp .ge 7, 3) := by decide +kernel
theorem dX10_isAhead_12 : decode cX10_isAhead 12 = .ok (.iconst 1, 1) := by decide +kernel
theorem dX10_isAhead_13 : decode cX10_isAhead 13 = .ok (.goto 4, 3) := by decide +kernel
theorem dX10_isAhead_16 : decode cX10_isAhead 16 = .ok (.iconst 0, 1) := by decide +kernel
theorem dX10_isAhead_17 : decode cX10_isAhead 17 = .ok (.ireturn, 1) := by decide +kernel
theorem dX10_isAhead_18 : decode cX10_isAhead 18 = .ok (.aload_n 0, 1) := by decide +kernel
theorem dX10_isAhead_19 : decode cX10_isAhead 19 = .ok (.getfield 36, 3) := by decide +kernel
theorem dX10_isAhead_22 : decode cX10_isAhead 22 = .ok (.iconst 1, 1) := by decide +kernel
theorem dX10_isAhead_23 : decode cX10_isAhead 23 = .ok (.if_icmp .ne 12, 3) := by decide +kernel
theorem dX10_isAhead_26 : decode cX10_isAhead 26 = .ok (.iload_n 1, 1) := by decide +kernel
theorem dX10_isAhead_27 : decode cX10_isAhead 27 = .ok (.iload_n 2, 1) := by decide +kernel
theorem dX10_isAhead_28 : decode cX10_isAhead 28 = .ok (.if_icmp .le 7, 3) := by decide +kernel
theorem dX10_isAhead_31 : decode cX10_isAhead 31 = .ok (.iconst 1, 1) := by decide +kernel
theorem dX10_isAhead_32 : decode cX10_isAhead 32 = .ok (.goto 4, 3) := by decide +kernel
theorem dX10_isAhead_35 : decode cX10_isAhead 35 = .ok (.iconst 0, 1) := by decide +kernel
theorem dX10_isAhead_36 : decode cX10_isAhead 36 = .ok (.ireturn, 1) := by decide +kernel
theorem dX10_onTheirWay_0 : decode cX10_onTheirWay 0 = .ok (.iconst 0, 1) := by decide +kernel
theorem dX10_onTheirWay_1 : decode cX10_onTheirWay 1 = .ok (.istore_n 1, 1) := by decide +kernel
theorem dX10_onTheirWay_2 : decode cX10_onTheirWay 2 = .ok (.iconst 0, 1) := by decide +kernel
theorem dX10_onTheirWay_3 : decode cX10_onTheirWay 3 = .ok (.istore_n 2, 1) := by decide +kernel
theorem dX10_onTheirWay_4 : decode cX10_onTheirWay 4 = .ok (.iload_n 2, 1) := by decide +kernel
theorem dX10_onTheirWay_5 : decode cX10_onTheirWay 5 = .ok (.aload_n 0, 1) := by decide +kernel
theorem dX10_onTheirWay_6 : decode cX10_onTheirWay 6 = .ok (.getfield 32, 3) := by decide +kernel
theorem dX10_onTheirWay_9 : decode cX10_onTheirWay 9 = .ok (.if_icmp .ge 45, 3) := by decide +kernel
theorem dX10_onTheirWay_12 : decode cX10_onTheirWay 12 = .ok (.iload_n 1, 1) := by decide +kernel
theorem dX10_onTheirWay_13 : decode cX10_onTheirWay 13 = .ok (.aload_n 0, 1) := by decide +kernel
theorem dX10_onTheirWay_14 : decode cX10_onTheirWay 14 = .ok (.getfield 48, 3) := by decide +kernel
theorem dX10_onTheirWay_17 : decode cX10_onTheirWay 17 = .ok (.aload_n 0, 1) := by decide +kernel
theorem dX10_onTheirWay_18 : decode cX10_onTheirWay 18 = .ok (.getfield 20, 3) := by decide +kernel
theorem dX10_onTheirWay_21 : decode cX10_onTheirWay 21 = .ok (.iload_n 2, 1) := by decide +kernel
theorem dX10_onTheirWay_22 : decode cX10_onTheirWay 22 = .ok (.aaload, 1) := by decide +kernel
theorem dX10_onTheirWay_23 : decode cX10_onTheirWay 23 = .ok (.getfield 85, 3) := by decide +kernel
theorem dX10_onTheirWay_26 : decode cX10_onTheirWay 26 = .ok (.isub, 1) := by decide +kernel
theorem dX10_onTheirWay_27 : decode cX10_onTheirWay 27 = .ok (.aload_n 0, 1) := by decide +kernel
theorem dX10_onTheirWay_28 : decode cX10_onTheirWay 28 = .ok (.getfield 20, 3) := by decide +kernel
theorem dX10_onTheirWay_31 : decode cX10_onTheirWay 31 = .ok (.iload_n 2, 1) := by decide +kernel
theorem dX10_onTheirWay_32 : decode cX10_onTheirWay 32 = .ok (.aaload, 1) := by decide +kernel
theorem dX10_onTheirWay_33 : decode cX10_onTheirWay 33 = .ok (.getfield 88, 3) := by decide +kernel
theorem dX10_onTheirWay_36 : decode cX10_onTheirWay 36 = .ok (.iconst (-1), 1) := by decide +kernel
theorem dX10_onTheirWay_37 : decode cX10_onTheirWay 37 = .ok (.if_icmp .ne 7, 3) := by decide +kernel
theorem dX10_onTheirWay_40 : decode cX10_onTheirWay 40 = .ok (.iconst 0, 1) := by decide +kernel
theorem dX10_onTheirWay_41 : decode cX10_onTheirWay 41 = .ok (.goto 4, 3) := by decide +kernel
theorem dX10_onTheirWay_44 : decode cX10_onTheirWay 44 = .ok (.iconst 1, 1) := by decide +kernel
theorem dX10_onTheirWay_45 : decode cX10_onTheirWay 45 = .ok (.iadd, 1) := by decide +kernel
theorem dX10_onTheirWay_46 : decode cX10_onTheirWay 46 = .ok (.iadd, 1) := by decide +kernel
theorem dX10_onTheirWay_47 : decode cX10_onTheirWay 47 = .ok (.istore_n 1, 1) := by decide +kernel
theorem dX10_onTheirWay_48 : decode cX10_onTheirWay 48 = .ok (.iinc 2 1, 3) := by decide +kernel
theorem dX10_onTheirWay_51 : decode cX10_onTheirWay 51 = .ok (.goto (-47), 3) := by decide +kernel
theorem dX10_onTheirWay_54 : decode cX10_onTheirWay 54 = .ok (.iload_n 1, 1) := by decide +kernel
theorem dX10_onTheirWay_55 : decode cX10_onTheirWay 55 = .ok (.ireturn, 1) := by decide +kernel
theorem dX10_ownerOf_0 : decode cX10_ownerOf 0 = .ok (.iload_n 1, 1) := by decide +kernel
theorem dX10_ownerOf_1 : decode cX10_ownerOf 1 = .ok (.iconst 1, 1) := by decide +kernel
theorem dX10_ownerOf_2 : decode cX10_ownerOf 2 = .ok (.if_icmp .lt 25, 3) := by decide +kernel
theorem dX10_ownerOf_5 : decode cX10_ownerOf 5 = .ok (.iload_n 1, 1) := by decide +kernel
theorem dX10_ownerOf_6 : decode cX10_ownerOf 6 = .ok (.aload_n 0, 1) := by decide +kernel
theorem dX10_ownerOf_7 : decode cX10_ownerOf 7 = .ok (.getfield 48, 3) := by decide +kernel
theorem dX10_ownerOf_10 : decode cX10_ownerOf 10 = .ok (.if_icmp .gt 17, 3) := by decide +kernel
theorem dX10_ownerOf_13 : decode cX10_ownerOf 13 = .ok (.aload_n 0, 1) := by decide +kernel
theorem dX10_ownerOf_14 : decode cX10_ownerOf 14 = .ok (.getfield 51, 3) := by decide +kernel
theorem dX10_ownerOf_17 : decode cX10_ownerOf 17 = .ok (.getfield 91, 3) := by decide +kernel
theorem dX10_ownerOf_20 : decode cX10_ownerOf 20 = .ok (.iload_n 1, 1) := by decide +kernel
theorem dX10_ownerOf_21 : decode cX10_ownerOf 21 = .ok (.iconst 1, 1) := by decide +kernel
theorem dX10_ownerOf_22 : decode cX10_ownerOf 22 = .ok (.isub, 1) := by decide +kernel
theorem dX10_ownerOf_23 : decode cX10_ownerOf 23 = .ok (.iaload, 1) := by decide +kernel
theorem dX10_ownerOf_24 : decode cX10_ownerOf 24 = .ok (.goto 4, 3) := by decide +kernel
theorem dX10_ownerOf_27 : decode cX10_ownerOf 27 = .ok (.iconst (-1), 1) := by decide +kernel
theorem dX10_ownerOf_28 : decode cX10_ownerOf 28 = .ok (.ireturn, 1) := by decide +kernel
theorem dX10_countLettersBy_0 : decode cX10_countLettersBy 0 = .ok (.iconst 0, 1) := by decide +kernel
theorem dX10_countLettersBy_1 : decode cX10_countLettersBy 1 = .ok (.istore_n 2, 1) := by decide +kernel
theorem dX10_countLettersBy_2 : decode cX10_countLettersBy 2 = .ok (.iconst 0, 1) := by decide +kernel
theorem dX10_countLettersBy_3 : decode cX10_countLettersBy 3 = .ok (.istore_n 3, 1) := by decide +kernel
theorem dX10_countLettersBy_4 : decode cX10_countLettersBy 4 = .ok (.iload_n 3, 1) := by decide +kernel
theorem dX10_countLettersBy_5 : decode cX10_countLettersBy 5 = .ok (.aload_n 0, 1) := by decide +kernel
theorem dX10_countLettersBy_6 : decode cX10_countLettersBy 6 = .ok (.getfield 12, 3) := by decide +kernel
theorem dX10_countLettersBy_9 : decode cX10_countLettersBy 9 = .ok (.getfield 94, 3) := by decide +kernel
theorem dX10_countLettersBy_12 : decode cX10_countLettersBy 12 = .ok (.if_icmp .ge 33, 3) := by decide +kernel
theorem dX10_countLettersBy_15 : decode cX10_countLettersBy 15 = .ok (.iload_n 2, 1) := by decide +kernel
theorem dX10_countLettersBy_16 : decode cX10_countLettersBy 16 = .ok (.aload_n 0, 1) := by decide +kernel
theorem dX10_countLettersBy_17 : decode cX10_countLettersBy 17 = .ok (.aload_n 0, 1) := by decide +kernel
theorem dX10_countLettersBy_18 : decode cX10_countLettersBy 18 = .ok (.getfield 12, 3) := by decide +kernel
theorem dX10_countLettersBy_21 : decode cX10_countLettersBy 21 = .ok (.iload_n 3, 1) := by decide +kernel
theorem dX10_countLettersBy_22 : decode cX10_countLettersBy 22 = .ok (.invokevirtual 97, 3) := by decide +kernel
theorem dX10_countLettersBy_25 : decode cX10_countLettersBy 25 = .ok (.invokevirtual 101, 3) := by decide +kernel
theorem dX10_countLettersBy_28 : decode cX10_countLettersBy 28 = .ok (.iload_n 1, 1) := by decide +kernel
theorem dX10_countLettersBy_29 : decode cX10_countLettersBy 29 = .ok (.if_icmp .ne 7, 3) := by decide +kernel
theorem dX10_countLettersBy_32 : decode cX10_countLettersBy 32 = .ok (.iconst 1, 1) := by decide +kernel
theorem dX10_countLettersBy_33 : decode cX10_countLettersBy 33 = .ok (.goto 4, 3) := by decide +kernel
theorem dX10_countLettersBy_36 : decode cX10_countLettersBy 36 = .ok (.iconst 0, 1) := by decide +kernel
theorem dX10_countLettersBy_37 : decode cX10_countLettersBy 37 = .ok (.iadd, 1) := by decide +kernel
theorem dX10_countLettersBy_38 : decode cX10_countLettersBy 38 = .ok (.istore_n 2, 1) := by decide +kernel
theorem dX10_countLettersBy_39 : decode cX10_countLettersBy 39 = .ok (.iinc 3 1, 3) := by decide +kernel
theorem dX10_countLettersBy_42 : decode cX10_countLettersBy 42 = .ok (.goto (-38), 3) := by decide +kernel
theorem dX10_countLettersBy_45 : decode cX10_countLettersBy 45 = .ok (.iload_n 2, 1) := by decide +kernel
theorem dX10_countLettersBy_46 : decode cX10_countLettersBy 46 = .ok (.ireturn, 1) := by decide +kernel
theorem dX10_canPut_0 : decode cX10_canPut 0 = .ok (.aload_n 0, 1) := by decide +kernel
theorem dX10_canPut_1 : decode cX10_canPut 1 = .ok (.iload_n 1, 1) := by decide +kernel
theorem dX10_canPut_2 : decode cX10_canPut 2 = .ok (.iload_n 2, 1) := by decide +kernel
theorem dX10_canPut_3 : decode cX10_canPut 3 = .ok (.invokevirtual 104, 3) := by decide +kernel
theorem dX10_canPut_6 : decode cX10_canPut 6 = .ok (.ifCond .eq 18, 3) := by decide +kernel
theorem dX10_canPut_9 : decode cX10_canPut 9 = .ok (.iload_n 3, 1) := by decide +kernel
theorem dX10_canPut_10 : decode cX10_canPut 10 = .ok (.iconst 1, 1) := by decide +kernel
theorem dX10_canPut_11 : decode cX10_canPut 11 = .ok (.if_icmp .lt 13, 3) := by decide +kernel
theorem dX10_canPut_14 : decode cX10_canPut 14 = .ok (.iload_n 3, 1) := by decide +kernel
theorem dX10_canPut_15 : decode cX10_canPut 15 = .ok (.bipush 26, 2) := by decide +kernel
theorem dX10_canPut_17 : decode cX10_canPut 17 = .ok (.if_icmp .gt 7, 3) := by decide +kernel
theorem dX10_canPut_20 : decode cX10_canPut 20 = .ok (.iconst 1, 1) := by decide +kernel
theorem dX10_canPut_21 : decode cX10_canPut 21 = .ok (.goto 4, 3) := by decide +kernel
theorem dX10_canPut_24 : decode cX10_canPut 24 = .ok (.iconst 0, 1) := by decide +kernel
theorem dX10_canPut_25 : decode cX10_canPut 25 = .ok (.ireturn, 1) := by decide +kernel
theorem dX10_canCut_0 : decode cX10_canCut 0 = .ok (.aload_n 0, 1) := by decide +kernel
theorem dX10_canCut_1 : decode cX10_canCut 1 = .ok (.iload_n 1, 1) := by decide +kernel
theorem dX10_canCut_2 : decode cX10_canCut 2 = .ok (.iload_n 2, 1) := by decide +kernel
theorem dX10_canCut_3 : decode cX10_canCut 3 = .ok (.invokevirtual 104, 3) := by decide +kernel
theorem dX10_canCut_6 : decode cX10_canCut 6 = .ok (.ifCond .eq 30, 3) := by decide +kernel
theorem dX10_canCut_9 : decode cX10_canCut 9 = .ok (.iload_n 3, 1) := by decide +kernel
theorem dX10_canCut_10 : decode cX10_canCut 10 = .ok (.iconst 1, 1) := by decide +kernel
theorem dX10_canCut_11 : decode cX10_canCut 11 = .ok (.if_icmp .lt 25, 3) := by decide +kernel
theorem dX10_canCut_14 : decode cX10_canCut 14 = .ok (.iload_n 3, 1) := by decide +kernel
theorem dX10_canCut_15 : decode cX10_canCut 15 = .ok (.aload_n 0, 1) := by decide +kernel
theorem dX10_canCut_16 : decode cX10_canCut 16 = .ok (.getfield 20, 3) := by decide +kernel
theorem dX10_canCut_19 : decode cX10_canCut 19 = .ok (.iload_n 1, 1) := by decide +kernel
theorem dX10_canCut_20 : decode cX10_canCut 20 = .ok (.aaload, 1) := by decide +kernel
theorem dX10_canCut_21 : decode cX10_canCut 21 = .ok (.getfield 108, 3) := by decide +kernel
theorem dX10_canCut_24 : decode cX10_canCut 24 = .ok (.getfield 94, 3) := by decide +kernel
theorem dX10_canCut_27 : decode cX10_canCut 27 = .ok (.iload_n 2, 1) := by decide +kernel
theorem dX10_canCut_28 : decode cX10_canCut 28 = .ok (.isub, 1) := by decide +kernel
theorem dX10_canCut_29 : decode cX10_canCut 29 = .ok (.if_icmp .gt 7, 3) := by decide +kernel
theorem dX10_canCut_32 : decode cX10_canCut 32 = .ok (.iconst 1, 1) := by decide +kernel
theorem dX10_canCut_33 : decode cX10_canCut 33 = .ok (.goto 4, 3) := by decide +kernel
theorem dX10_canCut_36 : decode cX10_canCut 36 = .ok (.iconst 0, 1) := by decide +kernel
theorem dX10_canCut_37 : decode cX10_canCut 37 = .ok (.ireturn, 1) := by decide +kernel
theorem dX10_canPlace_0 : decode cX10_canPlace 0 = .ok (.aload_n 0, 1) := by decide +kernel
theorem dX10_canPlace_1 : decode cX10_canPlace 1 = .ok (.iload_n 1, 1) := by decide +kernel
theorem dX10_canPlace_2 : decode cX10_canPlace 2 = .ok (.invokevirtual 111, 3) := by decide +kernel
theorem dX10_canPlace_5 : decode cX10_canPlace 5 = .ok (.ifCond .eq 27, 3) := by decide +kernel
theorem dX10_canPlace_8 : decode cX10_canPlace 8 = .ok (.iload_n 2, 1) := by decide +kernel
theorem dX10_canPlace_9 : decode cX10_canPlace 9 = .ok (.ifCond .lt 23, 3) := by decide +kernel
theorem dX10_canPlace_12 : decode cX10_canPlace 12 = .ok (.iload_n 2, 1) := by decide +kernel
theorem dX10_canPlace_13 : decode cX10_canPlace 13 = .ok (.aload_n 0, 1) := by decide +kernel
theorem dX10_canPlace_14 : decode cX10_canPlace 14 = .ok (.getfield 20, 3) := by decide +kernel
theorem dX10_canPlace_17 : decode cX10_canPlace 17 = .ok (.iload_n 1, 1) := by decide +kernel
theorem dX10_canPlace_18 : decode cX10_canPlace 18 = .ok (.aaload, 1) := by decide +kernel
theorem dX10_canPlace_19 : decode cX10_canPlace 19 = .ok (.getfield 108, 3) := by decide +kernel
theorem dX10_canPlace_22 : decode cX10_canPlace 22 = .ok (.getfield 94, 3) := by decide +kernel
theorem dX10_canPlace_25 : decode cX10_canPlace 25 = .ok (.if_icmp .gt 7, 3) := by decide +kernel
theorem dX10_canPlace_28 : decode cX10_canPlace 28 = .ok (.iconst 1, 1) := by decide +kernel
theorem dX10_canPlace_29 : decode cX10_canPlace 29 = .ok (.goto 4, 3) := by decide +kernel
theorem dX10_canPlace_32 : decode cX10_canPlace 32 = .ok (.iconst 0, 1) := by decide +kernel
theorem dX10_canPlace_33 : decode cX10_canPlace 33 = .ok (.ireturn, 1) := by decide +kernel
theorem dX10_canMark_0 : decode cX10_canMark 0 = .ok (.aload_n 0, 1) := by decide +kernel
theorem dX10_canMark_1 : decode cX10_canMark 1 = .ok (.iload_n 1, 1) := by decide +kernel
theorem dX10_canMark_2 : decode cX10_canMark 2 = .ok (.iload_n 2, 1) := by decide +kernel
theorem dX10_canMark_3 : decode cX10_canMark 3 = .ok (.invokevirtual 104, 3) := by decide +kernel
theorem dX10_canMark_6 : decode cX10_canMark 6 = .ok (.ifCond .eq 45, 3) := by decide +kernel
theorem dX10_canMark_9 : decode cX10_canMark 9 = .ok (.aload_n 0, 1) := by decide +kernel
theorem dX10_canMark_10 : decode cX10_canMark 10 = .ok (.iload_n 1, 1) := by decide +kernel
theorem dX10_canMark_11 : decode cX10_canMark 11 = .ok (.iload_n 3, 1) := by decide +kernel
theorem dX10_canMark_12 : decode cX10_canMark 12 = .ok (.invokevirtual 104, 3) := by decide +kernel
theorem dX10_canMark_15 : decode cX10_canMark 15 = .ok (.ifCond .eq 36, 3) := by decide +kernel
theorem dX10_canMark_18 : decode cX10_canMark 18 = .ok (.iload_n 2, 1) := by decide +kernel
theorem dX10_canMark_19 : decode cX10_canMark 19 = .ok (.iload_n 3, 1) := by decide +kernel
theorem dX10_canMark_20 : decode cX10_canMark 20 = .ok (.if_icmp .gt 31, 3) := by decide +kernel
theorem dX10_canMark_23 : decode cX10_canMark 23 = .ok (.iload 4, 2) := by decide +kernel
theorem dX10_canMark_25 : decode cX10_canMark 25 = .ok (.ifCond .lt 26, 3) := by decide +kernel
theorem dX10_canMark_28 : decode cX10_canMark 28 = .ok (.iload 4, 2) := by decide +kernel
theorem dX10_canMark_30 : decode cX10_canMark 30 = .ok (.iconst 3, 1) := by decide +kernel
theorem dX10_canMark_31 : decode cX10_canMark 31 = .ok (.if_icmp .gt 20, 3) := by decide +kernel
theorem dX10_canMark_34 : decode cX10_canMark 34 = .ok (.aload_n 0, 1) := by decide +kernel
theorem dX10_canMark_35 : decode cX10_canMark 35 = .ok (.getfield 20, 3) := by decide +kernel
theorem dX10_canMark_38 : decode cX10_canMark 38 = .ok (.iload_n 1, 1) := by decide +kernel
theorem dX10_canMark_39 : decode cX10_canMark 39 = .ok (.aaload, 1) := by decide +kernel
theorem dX10_canMark_40 : decode cX10_canMark 40 = .ok (.getfield 115, 3) := by decide +kernel
theorem dX10_canMark_43 : decode cX10_canMark 43 = .ok (.iconst 4, 1) := by decide +kernel
theorem dX10_canMark_44 : decode cX10_canMark 44 = .ok (.if_icmp .ge 7, 3) := by decide +kernel
theorem dX10_canMark_47 : decode cX10_canMark 47 = .ok (.iconst 1, 1) := by decide +kernel
theorem dX10_canMark_48 : decode cX10_canMark 48 = .ok (.goto 4, 3) := by decide +kernel
theorem dX10_canMark_51 : decode cX10_canMark 51 = .ok (.iconst 0, 1) := by decide +kernel
theorem dX10_canMark_52 : decode cX10_canMark 52 = .ok (.ireturn, 1) := by decide +kernel
theorem dX10_canTick_0 : decode cX10_canTick 0 = .ok (.aload_n 0, 1) := by decide +kernel
theorem dX10_canTick_1 : decode cX10_canTick 1 = .ok (.getfield 32, 3) := by decide +kernel
theorem dX10_canTick_4 : decode cX10_canTick 4 = .ok (.ifCond .le 30, 3) := by decide +kernel
theorem dX10_canTick_7 : decode cX10_canTick 7 = .ok (.iload_n 1, 1) := by decide +kernel
theorem dX10_canTick_8 : decode cX10_canTick 8 = .ok (.iconst 1, 1) := by decide +kernel
theorem dX10_canTick_9 : decode cX10_canTick 9 = .ok (.if_icmp .lt 25, 3) := by decide +kernel
theorem dX10_canTick_12 : decode cX10_canTick 12 = .ok (.iload_n 1, 1) := by decide +kernel
theorem dX10_canTick_13 : decode cX10_canTick 13 = .ok (.bipush 99, 2) := by decide +kernel
theorem dX10_canTick_15 : decode cX10_canTick 15 = .ok (.if_icmp .gt 19, 3) := by decide +kernel
theorem dX10_canTick_18 : decode cX10_canTick 18 = .ok (.aload_n 0, 1) := by decide +kernel
theorem dX10_canTick_19 : decode cX10_canTick 19 = .ok (.getfield 39, 3) := by decide +kernel
theorem dX10_canTick_22 : decode cX10_canTick 22 = .ok (.iload_n 1, 1) := by decide +kernel
theorem dX10_canTick_23 : decode cX10_canTick 23 = .ok (.iadd, 1) := by decide +kernel
theorem dX10_canTick_24 : decode cX10_canTick 24 = .ok (.sipush 999, 3) := by decide +kernel
theorem dX10_canTick_27 : decode cX10_canTick 27 = .ok (.if_icmp .gt 7, 3) := by decide +kernel
theorem dX10_canTick_30 : decode cX10_canTick 30 = .ok (.iconst 1, 1) := by decide +kernel
theorem dX10_canTick_31 : decode cX10_canTick 31 = .ok (.goto 4, 3) := by decide +kernel
theorem dX10_canTick_34 : decode cX10_canTick 34 = .ok (.iconst 0, 1) := by decide +kernel
theorem dX10_canTick_35 : decode cX10_canTick 35 = .ok (.ireturn, 1) := by decide +kernel
theorem dX10_canEdit_0 : decode cX10_canEdit 0 = .ok (.aload_n 1, 1) := by decide +kernel
theorem dX10_canEdit_1 : decode cX10_canEdit 1 = .ok (.invokevirtual 118, 3) := by decide +kernel
theorem dX10_canEdit_4 : decode cX10_canEdit 4 = .ok (.ifCond .eq 31, 3) := by decide +kernel
theorem dX10_canEdit_7 : decode cX10_canEdit 7 = .ok (.aload_n 0, 1) := by decide +kernel
theorem dX10_canEdit_8 : decode cX10_canEdit 8 = .ok (.getfield 42, 3) := by decide +kernel
theorem dX10_canEdit_11 : decode cX10_canEdit 11 = .ok (.bipush 100, 2) := by decide +kernel
theorem dX10_canEdit_13 : decode cX10_canEdit 13 = .ok (.if_icmp .ge 22, 3) := by decide +kernel
theorem dX10_canEdit_16 : decode cX10_canEdit 16 = .ok (.aload_n 0, 1) := by decide +kernel
theorem dX10_canEdit_17 : decode cX10_canEdit 17 = .ok (.getfield 45, 3) := by decide +kernel
theorem dX10_canEdit_20 : decode cX10_canEdit 20 = .ok (.aload_n 1, 1) := by decide +kernel
theorem dX10_canEdit_21 : decode cX10_canEdit 21 = .ok (.invokevirtual 124, 3) := by decide +kernel
theorem dX10_canEdit_24 : decode cX10_canEdit 24 = .ok (.iadd, 1) := by decide +kernel
theorem dX10_canEdit_25 : decode cX10_canEdit 25 = .ok (.sipush 200, 3) := by decide +kernel
theorem dX10_canEdit_28 : decode cX10_canEdit 28 = .ok (.if_icmp .gt 7, 3) := by decide +kernel
theorem dX10_canEdit_31 : decode cX10_canEdit 31 = .ok (.iconst 1, 1) := by decide +kernel
theorem dX10_canEdit_32 : decode cX10_canEdit 32 = .ok (.goto 4, 3) := by decide +kernel
theorem dX10_canEdit_35 : decode cX10_canEdit 35 = .ok (.iconst 0, 1) := by decide +kernel
theorem dX10_canEdit_36 : decode cX10_canEdit 36 = .ok (.ireturn, 1) := by decide +kernel
theorem dX10_editPlainly_0 : decode cX10_editPlainly 0 = .ok (.aload_n 0, 1) := by decide +kernel
theorem dX10_editPlainly_1 : decode cX10_editPlainly 1 = .ok (.getfield 55, 3) := by decide +kernel
theorem dX10_editPlainly_4 : decode cX10_editPlainly 4 = .ok (.aload_n 2, 1) := by decide +kernel
theorem dX10_editPlainly_5 : decode cX10_editPlainly 5 = .ok (.aload_n 1, 1) := by decide +kernel
theorem dX10_editPlainly_6 : decode cX10_editPlainly 6 = .ok (.getfield 108, 3) := by decide +kernel
theorem dX10_editPlainly_9 : decode cX10_editPlainly 9 = .ok (.aload_n 1, 1) := by decide +kernel
theorem dX10_editPlainly_10 : decode cX10_editPlainly 10 = .ok (.getfield 128, 3) := by decide +kernel
theorem dX10_editPlainly_13 : decode cX10_editPlainly 13 = .ok (.invokevirtual 132, 3) := by decide +kernel
theorem dX10_editPlainly_16 : decode cX10_editPlainly 16 = .ok (.invokevirtual 138, 3) := by decide +kernel
theorem dX10_editPlainly_19 : decode cX10_editPlainly 19 = .ok (.aload_n 1, 1) := by decide +kernel
theorem dX10_editPlainly_20 : decode cX10_editPlainly 20 = .ok (.getfield 144, 3) := by decide +kernel
theorem dX10_editPlainly_23 : decode cX10_editPlainly 23 = .ok (.iconst 0, 1) := by decide +kernel
theorem dX10_editPlainly_24 : decode cX10_editPlainly 24 = .ok (.putfield 147, 3) := by decide +kernel
theorem dX10_editPlainly_27 : decode cX10_editPlainly 27 = .ok (.aload_n 0, 1) := by decide +kernel
theorem dX10_editPlainly_28 : decode cX10_editPlainly 28 = .ok (.aload_n 1, 1) := by decide +kernel
theorem dX10_editPlainly_29 : decode cX10_editPlainly 29 = .ok (.aload_n 2, 1) := by decide +kernel
theorem dX10_editPlainly_30 : decode cX10_editPlainly 30 = .ok (.invokevirtual 148, 3) := by decide +kernel
theorem dX10_editPlainly_33 : decode cX10_editPlainly 33 = .ok (.return_, 1) := by decide +kernel
theorem dX10_editByInverse_0 : decode cX10_editByInverse 0 = .ok (.iload 4, 2) := by decide +kernel
theorem dX10_editByInverse_2 : decode cX10_editByInverse 2 = .ok (.ifCond .lt 12, 3) := by decide +kernel
theorem dX10_editByInverse_5 : decode cX10_editByInverse 5 = .ok (.iload 4, 2) := by decide +kernel
theorem dX10_editByInverse_7 : decode cX10_editByInverse 7 = .ok (.aload_n 2, 1) := by decide +kernel
theorem dX10_editByInverse_8 : decode cX10_editByInverse 8 = .ok (.getfield 147, 3) := by decide +kernel
theorem dX10_editByInverse_11 : decode cX10_editByInverse 11 = .ok (.if_icmp .lt 4, 3) := by decide +kernel
theorem dX10_editByInverse_14 : decode cX10_editByInverse 14 = .ok (.return_, 1) := by decide +kernel
theorem dX10_editByInverse_15 : decode cX10_editByInverse 15 = .ok (.aload_n 2, 1) := by decide +kernel
theorem dX10_editByInverse_16 : decode cX10_editByInverse 16 = .ok (.getfield 152, 3) := by decide +kernel
theorem dX10_editByInverse_19 : decode cX10_editByInverse 19 = .ok (.iload 4, 2) := by decide +kernel
theorem dX10_editByInverse_21 : decode cX10_editByInverse 21 = .ok (.aaload, 1) := by decide +kernel
theorem dX10_editByInverse_22 : decode cX10_editByInverse 22 = .ok (.astore 5, 2) := by decide +kernel
theorem dX10_editByInverse_24 : decode cX10_editByInverse 24 = .ok (.aload_n 2, 1) := by decide +kernel
theorem dX10_editByInverse_25 : decode cX10_editByInverse 25 = .ok (.iload 4, 2) := by decide +kernel
theorem dX10_editByInverse_27 : decode cX10_editByInverse 27 = .ok (.putfield 147, 3) := by decide +kernel
theorem dX10_editByInverse_30 : decode cX10_editByInverse 30 = .ok (.aload_n 0, 1) := by decide +kernel
theorem dX10_editByInverse_31 : decode cX10_editByInverse 31 = .ok (.getfield 55, 3) := by decide +kernel
theorem dX10_editByInverse_34 : decode cX10_editByInverse 34 = .ok (.aload 5, 2) := by decide +kernel
theorem dX10_editByInverse_36 : decode cX10_editByInverse 36 = .ok (.aload_n 1, 1) := by decide +kernel
theorem dX10_editByInverse_37 : decode cX10_editByInverse 37 = .ok (.getfield 108, 3) := by decide +kernel
theorem dX10_editByInverse_40 : decode cX10_editByInverse 40 = .ok (.aload_n 3, 1) := by decide +kernel
theorem dX10_editByInverse_41 : decode cX10_editByInverse 41 = .ok (.invokevirtual 132, 3) := by decide +kernel
theorem dX10_editByInverse_44 : decode cX10_editByInverse 44 = .ok (.invokevirtual 138, 3) := by decide +kernel
theorem dX10_editByInverse_47 : decode cX10_editByInverse 47 = .ok (.aload_n 0, 1) := by decide +kernel
theorem dX10_editByInverse_48 : decode cX10_editByInverse 48 = .ok (.aload_n 1, 1) := by decide +kernel
theorem dX10_editByInverse_49 : decode cX10_editByInverse 49 = .ok (.aload 5, 2) := by decide +kernel
theorem dX10_editByInverse_51 : decode cX10_editByInverse 51 = .ok (.invokevirtual 148, 3) := by decide +kernel
theorem dX10_editByInverse_54 : decode cX10_editByInverse 54 = .ok (.return_, 1) := by decide +kernel
theorem dX10_makeEdit_0 : decode cX10_makeEdit 0 = .ok (.aload_n 0, 1) := by decide +kernel
theorem dX10_makeEdit_1 : decode cX10_makeEdit 1 = .ok (.dup, 1) := by decide +kernel
theorem dX10_makeEdit_2 : decode cX10_makeEdit 2 = .ok (.getfield 42, 3) := by decide +kernel
theorem dX10_makeEdit_5 : decode cX10_makeEdit 5 = .ok (.iconst 1, 1) := by decide +kernel
theorem dX10_makeEdit_6 : decode cX10_makeEdit 6 = .ok (.iadd, 1) := by decide +kernel
theorem dX10_makeEdit_7 : decode cX10_makeEdit 7 = .ok (.putfield 42, 3) := by decide +kernel
theorem dX10_makeEdit_10 : decode cX10_makeEdit 10 = .ok (.aload_n 0, 1) := by decide +kernel
theorem dX10_makeEdit_11 : decode cX10_makeEdit 11 = .ok (.dup, 1) := by decide +kernel
theorem dX10_makeEdit_12 : decode cX10_makeEdit 12 = .ok (.getfield 45, 3) := by decide +kernel
theorem dX10_makeEdit_15 : decode cX10_makeEdit 15 = .ok (.aload_n 2, 1) := by decide +kernel
theorem dX10_makeEdit_16 : decode cX10_makeEdit 16 = .ok (.invokevirtual 124, 3) := by decide +kernel
theorem dX10_makeEdit_19 : decode cX10_makeEdit 19 = .ok (.iadd, 1) := by decide +kernel
theorem dX10_makeEdit_20 : decode cX10_makeEdit 20 = .ok (.putfield 45, 3) := by decide +kernel
theorem dX10_makeEdit_23 : decode cX10_makeEdit 23 = .ok (.aload_n 1, 1) := by decide +kernel
theorem dX10_makeEdit_24 : decode cX10_makeEdit 24 = .ok (.aload_n 2, 1) := by decide +kernel
theorem dX10_makeEdit_25 : decode cX10_makeEdit 25 = .ok (.iconst 1, 1) := by decide +kernel
theorem dX10_makeEdit_26 : decode cX10_makeEdit 26 = .ok (.invokevirtual 155, 3) := by decide +kernel
theorem dX10_makeEdit_29 : decode cX10_makeEdit 29 = .ok (.aload_n 0, 1) := by decide +kernel
theorem dX10_makeEdit_30 : decode cX10_makeEdit 30 = .ok (.getfield 55, 3) := by decide +kernel
theorem dX10_makeEdit_33 : decode cX10_makeEdit 33 = .ok (.aload_n 1, 1) := by decide +kernel
theorem dX10_makeEdit_34 : decode cX10_makeEdit 34 = .ok (.getfield 108, 3) := by decide +kernel
theorem dX10_makeEdit_37 : decode cX10_makeEdit 37 = .ok (.aload_n 2, 1) := by decide +kernel
theorem dX10_makeEdit_38 : decode cX10_makeEdit 38 = .ok (.iconst 0, 1) := by decide +kernel
theorem dX10_makeEdit_39 : decode cX10_makeEdit 39 = .ok (.invokevirtual 159, 3) := by decide +kernel
theorem dX10_makeEdit_42 : decode cX10_makeEdit 42 = .ok (.aload_n 1, 1) := by decide +kernel
theorem dX10_makeEdit_43 : decode cX10_makeEdit 43 = .ok (.getfield 163, 3) := by decide +kernel
theorem dX10_makeEdit_46 : decode cX10_makeEdit 46 = .ok (.ifCond .ne 18, 3) := by decide +kernel
theorem dX10_makeEdit_49 : decode cX10_makeEdit 49 = .ok (.aload_n 1, 1) := by decide +kernel
theorem dX10_makeEdit_50 : decode cX10_makeEdit 50 = .ok (.getfield 166, 3) := by decide +kernel
theorem dX10_makeEdit_53 : decode cX10_makeEdit 53 = .ok (.aload_n 2, 1) := by decide +kernel
theorem dX10_makeEdit_54 : decode cX10_makeEdit 54 = .ok (.invokevirtual 170, 3) := by decide +kernel
theorem dX10_makeEdit_57 : decode cX10_makeEdit 57 = .ok (.aload_n 1, 1) := by decide +kernel
theorem dX10_makeEdit_58 : decode cX10_makeEdit 58 = .ok (.invokevirtual 173, 3) := by decide +kernel
theorem dX10_makeEdit_61 : decode cX10_makeEdit 61 = .ok (.goto 38, 3) := by decide +kernel
theorem dX10_makeEdit_64 : decode cX10_makeEdit 64 = .ok (.aload_n 1, 1) := by decide +kernel
theorem dX10_makeEdit_65 : decode cX10_makeEdit 65 = .ok (.getfield 176, 3) := by decide +kernel
theorem dX10_makeEdit_68 : decode cX10_makeEdit 68 = .ok (.ifCond .eq 18, 3) := by decide +kernel
theorem dX10_makeEdit_71 : decode cX10_makeEdit 71 = .ok (.aload_n 0, 1) := by decide +kernel
theorem dX10_makeEdit_72 : decode cX10_makeEdit 72 = .ok (.getfield 55, 3) := by decide +kernel
theorem dX10_makeEdit_75 : decode cX10_makeEdit 75 = .ok (.aload_n 1, 1) := by decide +kernel
theorem dX10_makeEdit_76 : decode cX10_makeEdit 76 = .ok (.getfield 179, 3) := by decide +kernel
theorem dX10_makeEdit_79 : decode cX10_makeEdit 79 = .ok (.aload_n 2, 1) := by decide +kernel
theorem dX10_makeEdit_80 : decode cX10_makeEdit 80 = .ok (.invokevirtual 182, 3) := by decide +kernel
theorem dX10_makeEdit_83 : decode cX10_makeEdit 83 = .ok (.goto 16, 3) := by decide +kernel
theorem dX10_makeEdit_86 : decode cX10_makeEdit 86 = .ok (.aload_n 1, 1) := by decide +kernel
theorem dX10_makeEdit_87 : decode cX10_makeEdit 87 = .ok (.getfield 179, 3) := by decide +kernel
theorem dX10_makeEdit_90 : decode cX10_makeEdit 90 = .ok (.aload_n 2, 1) := by decide +kernel
theorem dX10_makeEdit_91 : decode cX10_makeEdit 91 = .ok (.invokevirtual 170, 3) := by decide +kernel
theorem dX10_makeEdit_94 : decode cX10_makeEdit 94 = .ok (.aload_n 1, 1) := by decide +kernel
theorem dX10_makeEdit_95 : decode cX10_makeEdit 95 = .ok (.iconst 1, 1) := by decide +kernel
theorem dX10_makeEdit_96 : decode cX10_makeEdit 96 = .ok (.putfield 176, 3) := by decide +kernel
theorem dX10_makeEdit_99 : decode cX10_makeEdit 99 = .ok (.return_, 1) := by decide +kernel
theorem dX10_runTick_0 : decode cX10_runTick 0 = .ok (.iconst 0, 1) := by decide +kernel
theorem dX10_runTick_1 : decode cX10_runTick 1 = .ok (.istore_n 1, 1) := by decide +kernel
theorem dX10_runTick_2 : decode cX10_runTick 2 = .ok (.iload_n 1, 1) := by decide +kernel
theorem dX10_runTick_3 : decode cX10_runTick 3 = .ok (.aload_n 0, 1) := by decide +kernel
theorem dX10_runTick_4 : decode cX10_runTick 4 = .ok (.getfield 32, 3) := by decide +kernel
theorem dX10_runTick_7 : decode cX10_runTick 7 = .ok (.if_icmp .ge 34, 3) := by decide +kernel
theorem dX10_runTick_10 : decode cX10_runTick 10 = .ok (.aload_n 0, 1) := by decide +kernel
theorem dX10_runTick_11 : decode cX10_runTick 11 = .ok (.getfield 20, 3) := by decide +kernel
theorem dX10_runTick_14 : decode cX10_runTick 14 = .ok (.iload_n 1, 1) := by decide +kernel
theorem dX10_runTick_15 : decode cX10_runTick 15 = .ok (.aaload, 1) := by decide +kernel
theorem dX10_runTick_16 : decode cX10_runTick 16 = .ok (.getfield 186, 3) := by decide +kernel
theorem dX10_runTick_19 : decode cX10_runTick 19 = .ok (.ifCond .eq 16, 3) := by decide +kernel
theorem dX10_runTick_22 : decode cX10_runTick 22 = .ok (.aload_n 0, 1) := by decide +kernel
theorem dX10_runTick_23 : decode cX10_runTick 23 = .ok (.getfield 20, 3) := by decide +kernel
theorem dX10_runTick_26 : decode cX10_runTick 26 = .ok (.iload_n 1, 1) := by decide +kernel
theorem dX10_runTick_27 : decode cX10_runTick 27 = .ok (.aaload, 1) := by decide +kernel
theorem dX10_runTick_28 : decode cX10_runTick 28 = .ok (.aload_n 0, 1) := by decide +kernel
theorem dX10_runTick_29 : decode cX10_runTick 29 = .ok (.getfield 48, 3) := by decide +kernel
theorem dX10_runTick_32 : decode cX10_runTick 32 = .ok (.invokevirtual 189, 3) := by decide +kernel
theorem dX10_runTick_35 : decode cX10_runTick 35 = .ok (.iinc 1 1, 3) := by decide +kernel
theorem dX10_runTick_38 : decode cX10_runTick 38 = .ok (.goto (-36), 3) := by decide +kernel
theorem dX10_runTick_41 : decode cX10_runTick 41 = .ok (.iconst 0, 1) := by decide +kernel
theorem dX10_runTick_42 : decode cX10_runTick 42 = .ok (.istore_n 1, 1) := by decide +kernel
theorem dX10_runTick_43 : decode cX10_runTick 43 = .ok (.iload_n 1, 1) := by decide +kernel
theorem dX10_runTick_44 : decode cX10_runTick 44 = .ok (.aload_n 0, 1) := by decide +kernel
theorem dX10_runTick_45 : decode cX10_runTick 45 = .ok (.getfield 32, 3) := by decide +kernel
theorem dX10_runTick_48 : decode cX10_runTick 48 = .ok (.if_icmp .ge 38, 3) := by decide +kernel
theorem dX10_runTick_51 : decode cX10_runTick 51 = .ok (.aload_n 0, 1) := by decide +kernel
theorem dX10_runTick_52 : decode cX10_runTick 52 = .ok (.getfield 20, 3) := by decide +kernel
theorem dX10_runTick_55 : decode cX10_runTick 55 = .ok (.iload_n 1, 1) := by decide +kernel
theorem dX10_runTick_56 : decode cX10_runTick 56 = .ok (.aaload, 1) := by decide +kernel
theorem dX10_runTick_57 : decode cX10_runTick 57 = .ok (.getfield 186, 3) := by decide +kernel
theorem dX10_runTick_60 : decode cX10_runTick 60 = .ok (.ifCond .eq 20, 3) := by decide +kernel
theorem dX10_runTick_63 : decode cX10_runTick 63 = .ok (.aload_n 0, 1) := by decide +kernel
theorem dX10_runTick_64 : decode cX10_runTick 64 = .ok (.getfield 20, 3) := by decide +kernel
theorem dX10_runTick_67 : decode cX10_runTick 67 = .ok (.iload_n 1, 1) := by decide +kernel
theorem dX10_runTick_68 : decode cX10_runTick 68 = .ok (.aaload, 1) := by decide +kernel
theorem dX10_runTick_69 : decode cX10_runTick 69 = .ok (.getfield 88, 3) := by decide +kernel
theorem dX10_runTick_72 : decode cX10_runTick 72 = .ok (.ifCond .ne 8, 3) := by decide +kernel
theorem dX10_runTick_75 : decode cX10_runTick 75 = .ok (.aload_n 0, 1) := by decide +kernel
theorem dX10_runTick_76 : decode cX10_runTick 76 = .ok (.iload_n 1, 1) := by decide +kernel
theorem dX10_runTick_77 : decode cX10_runTick 77 = .ok (.invokevirtual 193, 3) := by decide +kernel
theorem dX10_runTick_80 : decode cX10_runTick 80 = .ok (.iinc 1 1, 3) := by decide +kernel
theorem dX10_runTick_83 : decode cX10_runTick 83 = .ok (.goto (-40), 3) := by decide +kernel
theorem dX10_runTick_86 : decode cX10_runTick 86 = .ok (.iconst 0, 1) := by decide +kernel
theorem dX10_runTick_87 : decode cX10_runTick 87 = .ok (.istore_n 1, 1) := by decide +kernel
theorem dX10_runTick_88 : decode cX10_runTick 88 = .ok (.iload_n 1, 1) := by decide +kernel
theorem dX10_runTick_89 : decode cX10_runTick 89 = .ok (.aload_n 0, 1) := by decide +kernel
theorem dX10_runTick_90 : decode cX10_runTick 90 = .ok (.getfield 32, 3) := by decide +kernel
theorem dX10_runTick_93 : decode cX10_runTick 93 = .ok (.if_icmp .ge 56, 3) := by decide +kernel
theorem dX10_runTick_96 : decode cX10_runTick 96 = .ok (.aload_n 0, 1) := by decide +kernel
theorem dX10_runTick_97 : decode cX10_runTick 97 = .ok (.getfield 20, 3) := by decide +kernel
theorem dX10_runTick_100 : decode cX10_runTick 100 = .ok (.iload_n 1, 1) := by decide +kernel
theorem dX10_runTick_101 : decode cX10_runTick 101 = .ok (.aaload, 1) := by decide +kernel
theorem dX10_runTick_102 : decode cX10_runTick 102 = .ok (.astore_n 2, 1) := by decide +kernel
theorem dX10_runTick_103 : decode cX10_runTick 103 = .ok (.aload_n 2, 1) := by decide +kernel
theorem dX10_runTick_104 : decode cX10_runTick 104 = .ok (.getfield 85, 3) := by decide +kernel
theorem dX10_runTick_107 : decode cX10_runTick 107 = .ok (.istore_n 3, 1) := by decide +kernel
theorem dX10_runTick_108 : decode cX10_runTick 108 = .ok (.iload_n 3, 1) := by decide +kernel
theorem dX10_runTick_109 : decode cX10_runTick 109 = .ok (.aload_n 0, 1) := by decide +kernel
theorem dX10_runTick_110 : decode cX10_runTick 110 = .ok (.getfield 48, 3) := by decide +kernel
theorem dX10_runTick_113 : decode cX10_runTick 113 = .ok (.if_icmp .ge 30, 3) := by decide +kernel
theorem dX10_runTick_116 : decode cX10_runTick 116 = .ok (.aload_n 2, 1) := by decide +kernel
theorem dX10_runTick_117 : decode cX10_runTick 117 = .ok (.getfield 186, 3) := by decide +kernel
theorem dX10_runTick_120 : decode cX10_runTick 120 = .ok (.ifCond .eq 23, 3) := by decide +kernel
theorem dX10_runTick_123 : decode cX10_runTick 123 = .ok (.aload_n 2, 1) := by decide +kernel
theorem dX10_runTick_124 : decode cX10_runTick 124 = .ok (.getfield 196, 3) := by decide +kernel
theorem dX10_runTick_127 : decode cX10_runTick 127 = .ok (.iload_n 3, 1) := by decide +kernel
theorem dX10_runTick_128 : decode cX10_runTick 128 = .ok (.iaload, 1) := by decide +kernel
theorem dX10_runTick_129 : decode cX10_runTick 129 = .ok (.ifCond .ne 14, 3) := by decide +kernel
theorem dX10_runTick_132 : decode cX10_runTick 132 = .ok (.aload_n 0, 1) := by decide +kernel
theorem dX10_runTick_133 : decode cX10_runTick 133 = .ok (.iload_n 1, 1) := by decide +kernel
theorem dX10_runTick_134 : decode cX10_runTick 134 = .ok (.invokevirtual 199, 3) := by decide +kernel
theorem dX10_runTick_137 : decode cX10_runTick 137 = .ok (.iinc 3 1, 3) := by decide +kernel
theorem dX10_runTick_140 : decode cX10_runTick 140 = .ok (.goto (-32), 3) := by decide +kernel
theorem dX10_runTick_143 : decode cX10_runTick 143 = .ok (.iinc 1 1, 3) := by decide +kernel
theorem dX10_runTick_146 : decode cX10_runTick 146 = .ok (.goto (-58), 3) := by decide +kernel
theorem dX10_runTick_149 : decode cX10_runTick 149 = .ok (.aload_n 0, 1) := by decide +kernel
theorem dX10_runTick_150 : decode cX10_runTick 150 = .ok (.dup, 1) := by decide +kernel
theorem dX10_runTick_151 : decode cX10_runTick 151 = .ok (.getfield 39, 3) := by decide +kernel
theorem dX10_runTick_154 : decode cX10_runTick 154 = .ok (.iconst 1, 1) := by decide +kernel
theorem dX10_runTick_155 : decode cX10_runTick 155 = .ok (.iadd, 1) := by decide +kernel
theorem dX10_runTick_156 : decode cX10_runTick 156 = .ok (.putfield 39, 3) := by decide +kernel
theorem dX10_runTick_159 : decode cX10_runTick 159 = .ok (.return_, 1) := by decide +kernel
theorem dX10_takeFrom_0 : decode cX10_takeFrom 0 = .ok (.aload_n 0, 1) := by decide +kernel
theorem dX10_takeFrom_1 : decode cX10_takeFrom 1 = .ok (.iload_n 1, 1) := by decide +kernel
theorem dX10_takeFrom_2 : decode cX10_takeFrom 2 = .ok (.invokevirtual 111, 3) := by decide +kernel
theorem dX10_takeFrom_5 : decode cX10_takeFrom 5 = .ok (.ifCond .eq 18, 3) := by decide +kernel
theorem dX10_takeFrom_8 : decode cX10_takeFrom 8 = .ok (.aload_n 0, 1) := by decide +kernel
theorem dX10_takeFrom_9 : decode cX10_takeFrom 9 = .ok (.getfield 48, 3) := by decide +kernel
theorem dX10_takeFrom_12 : decode cX10_takeFrom 12 = .ok (.aload_n 0, 1) := by decide +kernel
theorem dX10_takeFrom_13 : decode cX10_takeFrom 13 = .ok (.getfield 51, 3) := by decide +kernel
theorem dX10_takeFrom_16 : decode cX10_takeFrom 16 = .ok (.getfield 202, 3) := by decide +kernel
theorem dX10_takeFrom_19 : decode cX10_takeFrom 19 = .ok (.arraylength, 1) := by decide +kernel
theorem dX10_takeFrom_20 : decode cX10_takeFrom 20 = .ok (.if_icmp .lt 4, 3) := by decide +kernel
theorem dX10_takeFrom_23 : decode cX10_takeFrom 23 = .ok (.return_, 1) := by decide +kernel
theorem dX10_takeFrom_24 : decode cX10_takeFrom 24 = .ok (.aload_n 0, 1) := by decide +kernel
theorem dX10_takeFrom_25 : decode cX10_takeFrom 25 = .ok (.getfield 20, 3) := by decide +kernel
theorem dX10_takeFrom_28 : decode cX10_takeFrom 28 = .ok (.iload_n 1, 1) := by decide +kernel
theorem dX10_takeFrom_29 : decode cX10_takeFrom 29 = .ok (.aaload, 1) := by decide +kernel
theorem dX10_takeFrom_30 : decode cX10_takeFrom 30 = .ok (.astore_n 2, 1) := by decide +kernel
theorem dX10_takeFrom_31 : decode cX10_takeFrom 31 = .ok (.aload_n 0, 1) := by decide +kernel
theorem dX10_takeFrom_32 : decode cX10_takeFrom 32 = .ok (.getfield 51, 3) := by decide +kernel
theorem dX10_takeFrom_35 : decode cX10_takeFrom 35 = .ok (.getfield 202, 3) := by decide +kernel
theorem dX10_takeFrom_38 : decode cX10_takeFrom 38 = .ok (.aload_n 0, 1) := by decide +kernel
theorem dX10_takeFrom_39 : decode cX10_takeFrom 39 = .ok (.getfield 48, 3) := by decide +kernel
theorem dX10_takeFrom_42 : decode cX10_takeFrom 42 = .ok (.aaload, 1) := by decide +kernel
theorem dX10_takeFrom_43 : decode cX10_takeFrom 43 = .ok (.astore_n 3, 1) := by decide +kernel
theorem dX10_takeFrom_44 : decode cX10_takeFrom 44 = .ok (.aload_n 3, 1) := by decide +kernel
theorem dX10_takeFrom_45 : decode cX10_takeFrom 45 = .ok (.aload_n 2, 1) := by decide +kernel
theorem dX10_takeFrom_46 : decode cX10_takeFrom 46 = .ok (.getfield 166, 3) := by decide +kernel
theorem dX10_takeFrom_49 : decode cX10_takeFrom 49 = .ok (.invokevirtual 170, 3) := by decide +kernel
theorem dX10_takeFrom_52 : decode cX10_takeFrom 52 = .ok (.aload_n 2, 1) := by decide +kernel
theorem dX10_takeFrom_53 : decode cX10_takeFrom 53 = .ok (.getfield 85, 3) := by decide +kernel
theorem dX10_takeFrom_56 : decode cX10_takeFrom 56 = .ok (.istore 4, 2) := by decide +kernel
theorem dX10_takeFrom_58 : decode cX10_takeFrom 58 = .ok (.iload 4, 2) := by decide +kernel
theorem dX10_takeFrom_60 : decode cX10_takeFrom 60 = .ok (.aload_n 0, 1) := by decide +kernel
theorem dX10_takeFrom_61 : decode cX10_takeFrom 61 = .ok (.getfield 48, 3) := by decide +kernel
theorem dX10_takeFrom_64 : decode cX10_takeFrom 64 = .ok (.if_icmp .ge 59, 3) := by decide +kernel
theorem dX10_takeFrom_67 : decode cX10_takeFrom 67 = .ok (.aload_n 0, 1) := by decide +kernel
theorem dX10_takeFrom_68 : decode cX10_takeFrom 68 = .ok (.getfield 55, 3) := by decide +kernel
theorem dX10_takeFrom_71 : decode cX10_takeFrom 71 = .ok (.getfield 203, 3) := by decide +kernel
theorem dX10_takeFrom_74 : decode cX10_takeFrom 74 = .ok (.aload_n 0, 1) := by decide +kernel
theorem dX10_takeFrom_75 : decode cX10_takeFrom 75 = .ok (.getfield 51, 3) := by decide +kernel
theorem dX10_takeFrom_78 : decode cX10_takeFrom 78 = .ok (.getfield 202, 3) := by decide +kernel
theorem dX10_takeFrom_81 : decode cX10_takeFrom 81 = .ok (.iload 4, 2) := by decide +kernel
theorem dX10_takeFrom_83 : decode cX10_takeFrom 83 = .ok (.aaload, 1) := by decide +kernel
theorem dX10_takeFrom_84 : decode cX10_takeFrom 84 = .ok (.invokevirtual 170, 3) := by decide +kernel
theorem dX10_takeFrom_87 : decode cX10_takeFrom 87 = .ok (.aload_n 0, 1) := by decide +kernel
theorem dX10_takeFrom_88 : decode cX10_takeFrom 88 = .ok (.getfield 55, 3) := by decide +kernel
theorem dX10_takeFrom_91 : decode cX10_takeFrom 91 = .ok (.aload_n 3, 1) := by decide +kernel
theorem dX10_takeFrom_92 : decode cX10_takeFrom 92 = .ok (.aload_n 0, 1) := by decide +kernel
theorem dX10_takeFrom_93 : decode cX10_takeFrom 93 = .ok (.getfield 55, 3) := by decide +kernel
theorem dX10_takeFrom_96 : decode cX10_takeFrom 96 = .ok (.getfield 203, 3) := by decide +kernel
theorem dX10_takeFrom_99 : decode cX10_takeFrom 99 = .ok (.aload_n 0, 1) := by decide +kernel
theorem dX10_takeFrom_100 : decode cX10_takeFrom 100 = .ok (.iload_n 1, 1) := by decide +kernel
theorem dX10_takeFrom_101 : decode cX10_takeFrom 101 = .ok (.aload_n 0, 1) := by decide +kernel
theorem dX10_takeFrom_102 : decode cX10_takeFrom 102 = .ok (.getfield 51, 3) := by decide +kernel
theorem dX10_takeFrom_105 : decode cX10_takeFrom 105 = .ok (.getfield 91, 3) := by decide +kernel
theorem dX10_takeFrom_108 : decode cX10_takeFrom 108 = .ok (.iload 4, 2) := by decide +kernel
theorem dX10_takeFrom_110 : decode cX10_takeFrom 110 = .ok (.iaload, 1) := by decide +kernel
theorem dX10_takeFrom_111 : decode cX10_takeFrom 111 = .ok (.invokevirtual 206, 3) := by decide +kernel
theorem dX10_takeFrom_114 : decode cX10_takeFrom 114 = .ok (.invokevirtual 209, 3) := by decide +kernel
theorem dX10_takeFrom_117 : decode cX10_takeFrom 117 = .ok (.iinc 4 1, 3) := by decide +kernel
theorem dX10_takeFrom_120 : decode cX10_takeFrom 120 = .ok (.goto (-62), 3) := by decide +kernel
theorem dX10_takeFrom_123 : decode cX10_takeFrom 123 = .ok (.aload_n 0, 1) := by decide +kernel
theorem dX10_takeFrom_124 : decode cX10_takeFrom 124 = .ok (.getfield 24, 3) := by decide +kernel
theorem dX10_takeFrom_127 : decode cX10_takeFrom 127 = .ok (.iload_n 1, 1) := by decide +kernel
theorem dX10_takeFrom_128 : decode cX10_takeFrom 128 = .ok (.dup2, 1) := by decide +kernel
theorem dX10_takeFrom_129 : decode cX10_takeFrom 129 = .ok (.iaload, 1) := by decide +kernel
theorem dX10_takeFrom_130 : decode cX10_takeFrom 130 = .ok (.aload_n 0, 1) := by decide +kernel
theorem dX10_takeFrom_131 : decode cX10_takeFrom 131 = .ok (.aload_n 3, 1) := by decide +kernel
theorem dX10_takeFrom_132 : decode cX10_takeFrom 132 = .ok (.iload_n 1, 1) := by decide +kernel
theorem dX10_takeFrom_133 : decode cX10_takeFrom 133 = .ok (.invokevirtual 213, 3) := by decide +kernel
theorem dX10_takeFrom_136 : decode cX10_takeFrom 136 = .ok (.iadd, 1) := by decide +kernel
theorem dX10_takeFrom_137 : decode cX10_takeFrom 137 = .ok (.iastore, 1) := by decide +kernel
theorem dX10_takeFrom_138 : decode cX10_takeFrom 138 = .ok (.aload_n 0, 1) := by decide +kernel
theorem dX10_takeFrom_139 : decode cX10_takeFrom 139 = .ok (.getfield 51, 3) := by decide +kernel
theorem dX10_takeFrom_142 : decode cX10_takeFrom 142 = .ok (.getfield 91, 3) := by decide +kernel
theorem dX10_takeFrom_145 : decode cX10_takeFrom 145 = .ok (.aload_n 0, 1) := by decide +kernel
theorem dX10_takeFrom_146 : decode cX10_takeFrom 146 = .ok (.getfield 48, 3) := by decide +kernel
theorem dX10_takeFrom_149 : decode cX10_takeFrom 149 = .ok (.iload_n 1, 1) := by decide +kernel
theorem dX10_takeFrom_150 : decode cX10_takeFrom 150 = .ok (.iastore, 1) := by decide +kernel
theorem dX10_takeFrom_151 : decode cX10_takeFrom 151 = .ok (.iconst 0, 1) := by decide +kernel
theorem dX10_takeFrom_152 : decode cX10_takeFrom 152 = .ok (.istore 4, 2) := by decide +kernel
theorem dX10_takeFrom_154 : decode cX10_takeFrom 154 = .ok (.iload 4, 2) := by decide +kernel
theorem dX10_takeFrom_156 : decode cX10_takeFrom 156 = .ok (.aload_n 0, 1) := by decide +kernel
theorem dX10_takeFrom_157 : decode cX10_takeFrom 157 = .ok (.getfield 32, 3) := by decide +kernel
theorem dX10_takeFrom_160 : decode cX10_takeFrom 160 = .ok (.if_icmp .ge 34, 3) := by decide +kernel
theorem dX10_takeFrom_163 : decode cX10_takeFrom 163 = .ok (.aload_n 0, 1) := by decide +kernel
theorem dX10_takeFrom_164 : decode cX10_takeFrom 164 = .ok (.getfield 20, 3) := by decide +kernel
theorem dX10_takeFrom_167 : decode cX10_takeFrom 167 = .ok (.iload 4, 2) := by decide +kernel
theorem dX10_takeFrom_169 : decode cX10_takeFrom 169 = .ok (.aaload, 1) := by decide +kernel
theorem dX10_takeFrom_170 : decode cX10_takeFrom 170 = .ok (.getfield 196, 3) := by decide +kernel
theorem dX10_takeFrom_173 : decode cX10_takeFrom 173 = .ok (.aload_n 0, 1) := by decide +kernel
theorem dX10_takeFrom_174 : decode cX10_takeFrom 174 = .ok (.getfield 48, 3) := by decide +kernel
theorem dX10_takeFrom_177 : decode cX10_takeFrom 177 = .ok (.aload_n 0, 1) := by decide +kernel
theorem dX10_takeFrom_178 : decode cX10_takeFrom 178 = .ok (.getfield 20, 3) := by decide +kernel
theorem dX10_takeFrom_181 : decode cX10_takeFrom 181 = .ok (.iload 4, 2) := by decide +kernel
theorem dX10_takeFrom_183 : decode cX10_takeFrom 183 = .ok (.aaload, 1) := by decide +kernel
theorem dX10_takeFrom_184 : decode cX10_takeFrom 184 = .ok (.getfield 217, 3) := by decide +kernel
theorem dX10_takeFrom_187 : decode cX10_takeFrom 187 = .ok (.iastore, 1) := by decide +kernel
theorem dX10_takeFrom_188 : decode cX10_takeFrom 188 = .ok (.iinc 4 1, 3) := by decide +kernel
theorem dX10_takeFrom_191 : decode cX10_takeFrom 191 = .ok (.goto (-37), 3) := by decide +kernel
theorem dX10_takeFrom_194 : decode cX10_takeFrom 194 = .ok (.aload_n 0, 1) := by decide +kernel
theorem dX10_takeFrom_195 : decode cX10_takeFrom 195 = .ok (.dup, 1) := by decide +kernel
theorem dX10_takeFrom_196 : decode cX10_takeFrom 196 = .ok (.getfield 48, 3) := by decide +kernel
theorem dX10_takeFrom_199 : decode cX10_takeFrom 199 = .ok (.iconst 1, 1) := by decide +kernel
theorem dX10_takeFrom_200 : decode cX10_takeFrom 200 = .ok (.iadd, 1) := by decide +kernel
theorem dX10_takeFrom_201 : decode cX10_takeFrom 201 = .ok (.putfield 48, 3) := by decide +kernel
theorem dX10_takeFrom_204 : decode cX10_takeFrom 204 = .ok (.aload_n 0, 1) := by decide +kernel
theorem dX10_takeFrom_205 : decode cX10_takeFrom 205 = .ok (.getfield 55, 3) := by decide +kernel
theorem dX10_takeFrom_208 : decode cX10_takeFrom 208 = .ok (.aload_n 0, 1) := by decide +kernel
theorem dX10_takeFrom_209 : decode cX10_takeFrom 209 = .ok (.getfield 12, 3) := by decide +kernel
theorem dX10_takeFrom_212 : decode cX10_takeFrom 212 = .ok (.aload_n 3, 1) := by decide +kernel
theorem dX10_takeFrom_213 : decode cX10_takeFrom 213 = .ok (.aload_n 0, 1) := by decide +kernel
theorem dX10_takeFrom_214 : decode cX10_takeFrom 214 = .ok (.getfield 48, 3) := by decide +kernel
theorem dX10_takeFrom_217 : decode cX10_takeFrom 217 = .ok (.invokevirtual 159, 3) := by decide +kernel
theorem dX10_takeFrom_220 : decode cX10_takeFrom 220 = .ok (.aload_n 2, 1) := by decide +kernel
theorem dX10_takeFrom_221 : decode cX10_takeFrom 221 = .ok (.iconst (-1), 1) := by decide +kernel
theorem dX10_takeFrom_222 : decode cX10_takeFrom 222 = .ok (.putfield 88, 3) := by decide +kernel
theorem dX10_takeFrom_225 : decode cX10_takeFrom 225 = .ok (.return_, 1) := by decide +kernel
theorem dX10_countForeignCuts_0 : decode cX10_countForeignCuts 0 = .ok (.iconst 0, 1) := by decide +kernel
theorem dX10_countForeignCuts_1 : decode cX10_countForeignCuts 1 = .ok (.istore_n 3, 1) := by decide +kernel
theorem dX10_countForeignCuts_2 : decode cX10_countForeignCuts 2 = .ok (.iconst 0, 1) := by decide +kernel
theorem dX10_countForeignCuts_3 : decode cX10_countForeignCuts 3 = .ok (.istore 4, 2) := by decide +kernel
theorem dX10_countForeignCuts_5 : decode cX10_countForeignCuts 5 = .ok (.iconst 0, 1) := by decide +kernel
theorem dX10_countForeignCuts_6 : decode cX10_countForeignCuts 6 = .ok (.istore 5, 2) := by decide +kernel
theorem dX10_countForeignCuts_8 : decode cX10_countForeignCuts 8 = .ok (.iload 5, 2) := by decide +kernel
theorem dX10_countForeignCuts_10 : decode cX10_countForeignCuts 10 = .ok (.aload_n 1, 1) := by decide +kernel
theorem dX10_countForeignCuts_11 : decode cX10_countForeignCuts 11 = .ok (.getfield 220, 3) := by decide +kernel
theorem dX10_countForeignCuts_14 : decode cX10_countForeignCuts 14 = .ok (.if_icmp .ge 90, 3) := by decide +kernel
theorem dX10_countForeignCuts_17 : decode cX10_countForeignCuts 17 = .ok (.aload_n 1, 1) := by decide +kernel
theorem dX10_countForeignCuts_18 : decode cX10_countForeignCuts 18 = .ok (.getfield 221, 3) := by decide +kernel
theorem dX10_countForeignCuts_21 : decode cX10_countForeignCuts 21 = .ok (.iload 5, 2) := by decide +kernel
theorem dX10_countForeignCuts_23 : decode cX10_countForeignCuts 23 = .ok (.iaload, 1) := by decide +kernel
theorem dX10_countForeignCuts_24 : decode cX10_countForeignCuts 24 = .ok (.istore 6, 2) := by decide +kernel
theorem dX10_countForeignCuts_26 : decode cX10_countForeignCuts 26 = .ok (.iload 6, 2) := by decide +kernel
theorem dX10_countForeignCuts_28 : decode cX10_countForeignCuts 28 = .ok (.bipush 31, 2) := by decide +kernel
theorem dX10_countForeignCuts_30 : decode cX10_countForeignCuts 30 = .ok (.if_icmp .le 13, 3) := by decide +kernel
theorem dX10_countForeignCuts_33 : decode cX10_countForeignCuts 33 = .ok (.iload 4, 2) := by decide +kernel
theorem dX10_countForeignCuts_35 : decode cX10_countForeignCuts 35 = .ok (.iload 6, 2) := by decide +kernel
theorem dX10_countForeignCuts_37 : decode cX10_countForeignCuts 37 = .ok (.bipush 31, 2) := by decide +kernel
theorem dX10_countForeignCuts_39 : decode cX10_countForeignCuts 39 = .ok (.isub, 1) := by decide +kernel
theorem dX10_countForeignCuts_40 : decode cX10_countForeignCuts 40 = .ok (.iadd, 1) := by decide +kernel
theorem dX10_countForeignCuts_41 : decode cX10_countForeignCuts 41 = .ok (.istore 4, 2) := by decide +kernel
theorem dX10_countForeignCuts_43 : decode cX10_countForeignCuts 43 = .ok (.iload 6, 2) := by decide +kernel
theorem dX10_countForeignCuts_45 : decode cX10_countForeignCuts 45 = .ok (.ifCond .ge 11, 3) := by decide +kernel
theorem dX10_countForeignCuts_48 : decode cX10_countForeignCuts 48 = .ok (.iload 4, 2) := by decide +kernel
theorem dX10_countForeignCuts_50 : decode cX10_countForeignCuts 50 = .ok (.iload 6, 2) := by decide +kernel
theorem dX10_countForeignCuts_52 : decode cX10_countForeignCuts 52 = .ok (.isub, 1) := by decide +kernel
theorem dX10_countForeignCuts_53 : decode cX10_countForeignCuts 53 = .ok (.goto 5, 3) := by decide +kernel
theorem dX10_countForeignCuts_56 : decode cX10_countForeignCuts 56 = .ok (.iload 4, 2) := by decide +kernel
theorem dX10_countForeignCuts_58 : decode cX10_countForeignCuts 58 = .ok (.istore 7, 2) := by decide +kernel
theorem dX10_countForeignCuts_60 : decode cX10_countForeignCuts 60 = .ok (.iload 4, 2) := by decide +kernel
theorem dX10_countForeignCuts_62 : decode cX10_countForeignCuts 62 = .ok (.iload 7, 2) := by decide +kernel
theorem dX10_countForeignCuts_64 : decode cX10_countForeignCuts 64 = .ok (.if_icmp .ge 34, 3) := by decide +kernel
theorem dX10_countForeignCuts_67 : decode cX10_countForeignCuts 67 = .ok (.iload_n 3, 1) := by decide +kernel
theorem dX10_countForeignCuts_68 : decode cX10_countForeignCuts 68 = .ok (.aload_n 0, 1) := by decide +kernel
theorem dX10_countForeignCuts_69 : decode cX10_countForeignCuts 69 = .ok (.aload_n 0, 1) := by decide +kernel
theorem dX10_countForeignCuts_70 : decode cX10_countForeignCuts 70 = .ok (.getfield 12, 3) := by decide +kernel
theorem dX10_countForeignCuts_73 : decode cX10_countForeignCuts 73 = .ok (.iload 4, 2) := by decide +kernel
theorem dX10_countForeignCuts_75 : decode cX10_countForeignCuts 75 = .ok (.invokevirtual 97, 3) := by decide +kernel
theorem dX10_countForeignCuts_78 : decode cX10_countForeignCuts 78 = .ok (.invokevirtual 101, 3) := by decide +kernel
theorem dX10_countForeignCuts_81 : decode cX10_countForeignCuts 81 = .ok (.iload_n 2, 1) := by decide +kernel
theorem dX10_countForeignCuts_82 : decode cX10_countForeignCuts 82 = .ok (.if_icmp .ne 7, 3) := by decide +kernel
theorem dX10_countForeignCuts_85 : decode cX10_countForeignCuts 85 = .ok (.iconst 0, 1) := by decide +kernel
theorem dX10_countForeignCuts_86 : decode cX10_countForeignCuts 86 = .ok (.goto 4, 3) := by decide +kernel
theorem dX10_countForeignCuts_89 : decode cX10_countForeignCuts 89 = .ok (.iconst 1, 1) := by decide +kernel
theorem dX10_countForeignCuts_90 : decode cX10_countForeignCuts 90 = .ok (.iadd, 1) := by decide +kernel
theorem dX10_countForeignCuts_91 : decode cX10_countForeignCuts 91 = .ok (.istore_n 3, 1) := by decide +kernel
theorem dX10_countForeignCuts_92 : decode cX10_countForeignCuts 92 = .ok (.iinc 4 1, 3) := by decide +kernel
theorem dX10_countForeignCuts_95 : decode cX10_countForeignCuts 95 = .ok (.goto (-35), 3) := by decide +kernel
theorem dX10_countForeignCuts_98 : decode cX10_countForeignCuts 98 = .ok (.iinc 5 1, 3) := by decide +kernel
theorem dX10_countForeignCuts_101 : decode cX10_countForeignCuts 101 = .ok (.goto (-93), 3) := by decide +kernel
theorem dX10_countForeignCuts_104 : decode cX10_countForeignCuts 104 = .ok (.iload_n 3, 1) := by decide +kernel
theorem dX10_countForeignCuts_105 : decode cX10_countForeignCuts 105 = .ok (.ireturn, 1) := by decide +kernel
theorem dX10_bringTo_0 : decode cX10_bringTo 0 = .ok (.aload_n 0, 1) := by decide +kernel
theorem dX10_bringTo_1 : decode cX10_bringTo 1 = .ok (.getfield 20, 3) := by decide +kernel
theorem dX10_bringTo_4 : decode cX10_bringTo 4 = .ok (.iload_n 1, 1) := by decide +kernel
theorem dX10_bringTo_5 : decode cX10_bringTo 5 = .ok (.aaload, 1) := by decide +kernel
theorem dX10_bringTo_6 : decode cX10_bringTo 6 = .ok (.astore_n 2, 1) := by decide +kernel
theorem dX10_bringTo_7 : decode cX10_bringTo 7 = .ok (.aload_n 0, 1) := by decide +kernel
theorem dX10_bringTo_8 : decode cX10_bringTo 8 = .ok (.getfield 51, 3) := by decide +kernel
theorem dX10_bringTo_11 : decode cX10_bringTo 11 = .ok (.getfield 91, 3) := by decide +kernel
theorem dX10_bringTo_14 : decode cX10_bringTo 14 = .ok (.aload_n 2, 1) := by decide +kernel
theorem dX10_bringTo_15 : decode cX10_bringTo 15 = .ok (.getfield 85, 3) := by decide +kernel
theorem dX10_bringTo_18 : decode cX10_bringTo 18 = .ok (.iaload, 1) := by decide +kernel
theorem dX10_bringTo_19 : decode cX10_bringTo 19 = .ok (.istore_n 3, 1) := by decide +kernel
theorem dX10_bringTo_20 : decode cX10_bringTo 20 = .ok (.aload_n 0, 1) := by decide +kernel
theorem dX10_bringTo_21 : decode cX10_bringTo 21 = .ok (.getfield 55, 3) := by decide +kernel
theorem dX10_bringTo_24 : decode cX10_bringTo 24 = .ok (.getfield 203, 3) := by decide +kernel
theorem dX10_bringTo_27 : decode cX10_bringTo 27 = .ok (.astore 4, 2) := by decide +kernel
theorem dX10_bringTo_29 : decode cX10_bringTo 29 = .ok (.aload 4, 2) := by decide +kernel
theorem dX10_bringTo_31 : decode cX10_bringTo 31 = .ok (.aload_n 0, 1) := by decide +kernel
theorem dX10_bringTo_32 : decode cX10_bringTo 32 = .ok (.getfield 51, 3) := by decide +kernel
theorem dX10_bringTo_35 : decode cX10_bringTo 35 = .ok (.getfield 202, 3) := by decide +kernel
theorem dX10_bringTo_38 : decode cX10_bringTo 38 = .ok (.aload_n 2, 1) := by decide +kernel
theorem dX10_bringTo_39 : decode cX10_bringTo 39 = .ok (.getfield 85, 3) := by decide +kernel
theorem dX10_bringTo_42 : decode cX10_bringTo 42 = .ok (.aaload, 1) := by decide +kernel
theorem dX10_bringTo_43 : decode cX10_bringTo 43 = .ok (.invokevirtual 170, 3) := by decide +kernel
theorem dX10_bringTo_46 : decode cX10_bringTo 46 = .ok (.aload_n 2, 1) := by decide +kernel
theorem dX10_bringTo_47 : decode cX10_bringTo 47 = .ok (.dup, 1) := by decide +kernel
theorem dX10_bringTo_48 : decode cX10_bringTo 48 = .ok (.getfield 85, 3) := by decide +kernel
theorem dX10_bringTo_51 : decode cX10_bringTo 51 = .ok (.iconst 1, 1) := by decide +kernel
theorem dX10_bringTo_52 : decode cX10_bringTo 52 = .ok (.iadd, 1) := by decide +kernel
theorem dX10_bringTo_53 : decode cX10_bringTo 53 = .ok (.putfield 85, 3) := by decide +kernel
theorem dX10_bringTo_56 : decode cX10_bringTo 56 = .ok (.iload_n 3, 1) := by decide +kernel
theorem dX10_bringTo_57 : decode cX10_bringTo 57 = .ok (.iload_n 1, 1) := by decide +kernel
theorem dX10_bringTo_58 : decode cX10_bringTo 58 = .ok (.if_icmp .ne 8, 3) := by decide +kernel
theorem dX10_bringTo_61 : decode cX10_bringTo 61 = .ok (.aload_n 2, 1) := by decide +kernel
theorem dX10_bringTo_62 : decode cX10_bringTo 62 = .ok (.invokevirtual 224, 3) := by decide +kernel
theorem dX10_bringTo_65 : decode cX10_bringTo 65 = .ok (.return_, 1) := by decide +kernel
theorem dX10_bringTo_66 : decode cX10_bringTo 66 = .ok (.aload_n 0, 1) := by decide +kernel
theorem dX10_bringTo_67 : decode cX10_bringTo 67 = .ok (.iload_n 1, 1) := by decide +kernel
theorem dX10_bringTo_68 : decode cX10_bringTo 68 = .ok (.iload_n 3, 1) := by decide +kernel
theorem dX10_bringTo_69 : decode cX10_bringTo 69 = .ok (.invokevirtual 206, 3) := by decide +kernel
theorem dX10_bringTo_72 : decode cX10_bringTo 72 = .ok (.istore 5, 2) := by decide +kernel
theorem dX10_bringTo_74 : decode cX10_bringTo 74 = .ok (.aload_n 2, 1) := by decide +kernel
theorem dX10_bringTo_75 : decode cX10_bringTo 75 = .ok (.getfield 163, 3) := by decide +kernel
theorem dX10_bringTo_78 : decode cX10_bringTo 78 = .ok (.ifCond .eq 18, 3) := by decide +kernel
theorem dX10_bringTo_81 : decode cX10_bringTo 81 = .ok (.aload_n 0, 1) := by decide +kernel
theorem dX10_bringTo_82 : decode cX10_bringTo 82 = .ok (.getfield 55, 3) := by decide +kernel
theorem dX10_bringTo_85 : decode cX10_bringTo 85 = .ok (.aload_n 2, 1) := by decide +kernel
theorem dX10_bringTo_86 : decode cX10_bringTo 86 = .ok (.getfield 166, 3) := by decide +kernel
theorem dX10_bringTo_89 : decode cX10_bringTo 89 = .ok (.aload 4, 2) := by decide +kernel
theorem dX10_bringTo_91 : decode cX10_bringTo 91 = .ok (.iload 5, 2) := by decide +kernel
theorem dX10_bringTo_93 : decode cX10_bringTo 93 = .ok (.invokevirtual 209, 3) := by decide +kernel
theorem dX10_bringTo_96 : decode cX10_bringTo 96 = .ok (.aload_n 2, 1) := by decide +kernel
theorem dX10_bringTo_97 : decode cX10_bringTo 97 = .ok (.getfield 176, 3) := by decide +kernel
theorem dX10_bringTo_100 : decode cX10_bringTo 100 = .ok (.ifCond .eq 18, 3) := by decide +kernel
theorem dX10_bringTo_103 : decode cX10_bringTo 103 = .ok (.aload_n 0, 1) := by decide +kernel
theorem dX10_bringTo_104 : decode cX10_bringTo 104 = .ok (.getfield 55, 3) := by decide +kernel
theorem dX10_bringTo_107 : decode cX10_bringTo 107 = .ok (.aload_n 2, 1) := by decide +kernel
theorem dX10_bringTo_108 : decode cX10_bringTo 108 = .ok (.getfield 179, 3) := by decide +kernel
theorem dX10_bringTo_111 : decode cX10_bringTo 111 = .ok (.aload 4, 2) := by decide +kernel
theorem dX10_bringTo_113 : decode cX10_bringTo 113 = .ok (.iload 5, 2) := by decide +kernel
theorem dX10_bringTo_115 : decode cX10_bringTo 115 = .ok (.invokevirtual 209, 3) := by decide +kernel
theorem dX10_bringTo_118 : decode cX10_bringTo 118 = .ok (.aload_n 0, 1) := by decide +kernel
theorem dX10_bringTo_119 : decode cX10_bringTo 119 = .ok (.getfield 28, 3) := by decide +kernel
theorem dX10_bringTo_122 : decode cX10_bringTo 122 = .ok (.ifCond .eq 50, 3) := by decide +kernel
theorem dX10_bringTo_125 : decode cX10_bringTo 125 = .ok (.aload_n 2, 1) := by decide +kernel
theorem dX10_bringTo_126 : decode cX10_bringTo 126 = .ok (.aload 4, 2) := by decide +kernel
theorem dX10_bringTo_128 : decode cX10_bringTo 128 = .ok (.iconst 0, 1) := by decide +kernel
theorem dX10_bringTo_129 : decode cX10_bringTo 129 = .ok (.invokevirtual 155, 3) := by decide +kernel
theorem dX10_bringTo_132 : decode cX10_bringTo 132 = .ok (.aload_n 0, 1) := by decide +kernel
theorem dX10_bringTo_133 : decode cX10_bringTo 133 = .ok (.getfield 55, 3) := by decide +kernel
theorem dX10_bringTo_136 : decode cX10_bringTo 136 = .ok (.aload_n 2, 1) := by decide +kernel
theorem dX10_bringTo_137 : decode cX10_bringTo 137 = .ok (.getfield 108, 3) := by decide +kernel
theorem dX10_bringTo_140 : decode cX10_bringTo 140 = .ok (.aload 4, 2) := by decide +kernel
theorem dX10_bringTo_142 : decode cX10_bringTo 142 = .ok (.iconst 0, 1) := by decide +kernel
theorem dX10_bringTo_143 : decode cX10_bringTo 143 = .ok (.invokevirtual 159, 3) := by decide +kernel
theorem dX10_bringTo_146 : decode cX10_bringTo 146 = .ok (.aload_n 0, 1) := by decide +kernel
theorem dX10_bringTo_147 : decode cX10_bringTo 147 = .ok (.getfield 55, 3) := by decide +kernel
theorem dX10_bringTo_150 : decode cX10_bringTo 150 = .ok (.aload_n 2, 1) := by decide +kernel
theorem dX10_bringTo_151 : decode cX10_bringTo 151 = .ok (.getfield 128, 3) := by decide +kernel
theorem dX10_bringTo_154 : decode cX10_bringTo 154 = .ok (.iload 5, 2) := by decide +kernel
theorem dX10_bringTo_156 : decode cX10_bringTo 156 = .ok (.invokevirtual 227, 3) := by decide +kernel
theorem dX10_bringTo_159 : decode cX10_bringTo 159 = .ok (.aload_n 0, 1) := by decide +kernel
theorem dX10_bringTo_160 : decode cX10_bringTo 160 = .ok (.getfield 55, 3) := by decide +kernel
theorem dX10_bringTo_163 : decode cX10_bringTo 163 = .ok (.aload_n 2, 1) := by decide +kernel
theorem dX10_bringTo_164 : decode cX10_bringTo 164 = .ok (.getfield 144, 3) := by decide +kernel
theorem dX10_bringTo_167 : decode cX10_bringTo 167 = .ok (.iload 5, 2) := by decide +kernel
theorem dX10_bringTo_169 : decode cX10_bringTo 169 = .ok (.invokevirtual 227, 3) := by decide +kernel
theorem dX10_bringTo_172 : decode cX10_bringTo 172 = .ok (.return_, 1) := by decide +kernel
theorem dX11_init_0 : decode cX11_init 0 = .ok (.aload_n 0, 1) := by decide +kernel
theorem dX11_init_1 : decode cX11_init 1 = .ok (.invokespecial 1, 3) := by decide +kernel
theorem dX11_init_4 : decode cX11_init 4 = .ok (.aload_n 0, 1) := by decide +kernel
theorem dX11_init_5 : decode cX11_init 5 = .ok (.new 7, 3) := by decide +kernel
theorem dX11_init_8 : decode cX11_init 8 = .ok (.dup, 1) := by decide +kernel
theorem dX11_init_9 : decode cX11_init 9 = .ok (.invokespecial 9, 3) := by decide +kernel
theorem dX11_init_12 : decode cX11_init 12 = .ok (.putfield 10, 3) := by decide +kernel
theorem dX11_init_15 : decode cX11_init 15 = .ok (.aload_n 0, 1) := by decide +kernel
theorem dX11_init_16 : decode cX11_init 16 = .ok (.new 16, 3) := by decide +kernel
theorem dX11_init_19 : decode cX11_init 19 = .ok (.dup, 1) := by decide +kernel
theorem dX11_init_20 : decode cX11_init 20 = .ok (.invokespecial 18, 3) := by decide +kernel
theorem dX11_init_23 : decode cX11_init 23 = .ok (.putfield 19, 3) := by decide +kernel
theorem dX11_init_26 : decode cX11_init 26 = .ok (.aload_n 0, 1) := by decide +kernel
theorem dX11_init_27 : decode cX11_init 27 = .ok (.new 23, 3) := by decide +kernel
theorem dX11_init_30 : decode cX11_init 30 = .ok (.dup, 1) := by decide +kernel
theorem dX11_init_31 : decode cX11_init 31 = .ok (.invokespecial 25, 3) := by decide +kernel
theorem dX11_init_34 : decode cX11_init 34 = .ok (.putfield 26, 3) := by decide +kernel
theorem dX11_init_37 : decode cX11_init 37 = .ok (.aload_n 0, 1) := by decide +kernel
theorem dX11_init_38 : decode cX11_init 38 = .ok (.new 30, 3) := by decide +kernel
theorem dX11_init_41 : decode cX11_init 41 = .ok (.dup, 1) := by decide +kernel
theorem dX11_init_42 : decode cX11_init 42 = .ok (.aload_n 0, 1) := by decide +kernel
theorem dX11_init_43 : decode cX11_init 43 = .ok (.getfield 26, 3) := by decide +kernel
theorem dX11_init_46 : decode cX11_init 46 = .ok (.aload_n 0, 1) := by decide +kernel
theorem dX11_init_47 : decode cX11_init 47 = .ok (.getfield 19, 3) := by decide +kernel
theorem dX11_init_50 : decode cX11_init 50 = .ok (.invokespecial 32, 3) := by decide +kernel
theorem dX11_init_53 : decode cX11_init 53 = .ok (.putfield 35, 3) := by decide +kernel
theorem dX11_init_56 : decode cX11_init 56 = .ok (.aload_n 0, 1) := by decide +kernel
theorem dX11_init_57 : decode cX11_init 57 = .ok (.new 30, 3) := by decide +kernel
theorem dX11_init_60 : decode cX11_init 60 = .ok (.dup, 1) := by decide +kernel
theorem dX11_init_61 : decode cX11_init 61 = .ok (.aload_n 0, 1) := by decide +kernel
theorem dX11_init_62 : decode cX11_init 62 = .ok (.getfield 26, 3) := by decide +kernel
theorem dX11_init_65 : decode cX11_init 65 = .ok (.aload_n 0, 1) := by decide +kernel
theorem dX11_init_66 : decode cX11_init 66 = .ok (.getfield 19, 3) := by decide +kernel
theorem dX11_init_69 : decode cX11_init 69 = .ok (.invokespecial 32, 3) := by decide +kernel
theorem dX11_init_72 : decode cX11_init 72 = .ok (.putfield 39, 3) := by decide +kernel
theorem dX11_init_75 : decode cX11_init 75 = .ok (.aload_n 0, 1) := by decide +kernel
theorem dX11_init_76 : decode cX11_init 76 = .ok (.new 42, 3) := by decide +kernel
theorem dX11_init_79 : decode cX11_init 79 = .ok (.dup, 1) := by decide +kernel
theorem dX11_init_80 : decode cX11_init 80 = .ok (.invokespecial 44, 3) := by decide +kernel
theorem dX11_init_83 : decode cX11_init 83 = .ok (.putfield 45, 3) := by decide +kernel
theorem dX11_init_86 : decode cX11_init 86 = .ok (.aload_n 0, 1) := by decide +kernel
theorem dX11_init_87 : decode cX11_init 87 = .ok (.new 49, 3) := by decide +kernel
theorem dX11_init_90 : decode cX11_init 90 = .ok (.dup, 1) := by decide +kernel
theorem dX11_init_91 : decode cX11_init 91 = .ok (.invokespecial 51, 3) := by decide +kernel
theorem dX11_init_94 : decode cX11_init 94 = .ok (.putfield 52, 3) := by decide +kernel
theorem dX11_init_97 : decode cX11_init 97 = .ok (.aload_n 0, 1) := by decide +kernel
theorem dX11_init_98 : decode cX11_init 98 = .ok (.new 56, 3) := by decide +kernel
theorem dX11_init_101 : decode cX11_init 101 = .ok (.dup, 1) := by decide +kernel
theorem dX11_init_102 : decode cX11_init 102 = .ok (.invokespecial 58, 3) := by decide +kernel
theorem dX11_init_105 : decode cX11_init 105 = .ok (.putfield 59, 3) := by decide +kernel
theorem dX11_init_108 : decode cX11_init 108 = .ok (.aload_n 0, 1) := by decide +kernel
theorem dX11_init_109 : decode cX11_init 109 = .ok (.new 56, 3) := by decide +kernel
theorem dX11_init_112 : decode cX11_init 112 = .ok (.dup, 1) := by decide +kernel
theorem dX11_init_113 : decode cX11_init 113 = .ok (.invokespecial 58, 3) := by decide +kernel
theorem dX11_init_116 : decode cX11_init 116 = .ok (.putfield 63, 3) := by decide +kernel
theorem dX11_init_119 : decode cX11_init 119 = .ok (.aload_n 0, 1) := by decide +kernel
theorem dX11_init_120 : decode cX11_init 120 = .ok (.new 66, 3) := by decide +kernel
theorem dX11_init_123 : decode cX11_init 123 = .ok (.dup, 1) := by decide +kernel
theorem dX11_init_124 : decode cX11_init 124 = .ok (.invokespecial 68, 3) := by decide +kernel
theorem dX11_init_127 : decode cX11_init 127 = .ok (.putfield 69, 3) := by decide +kernel
theorem dX11_init_130 : decode cX11_init 130 = .ok (.aload_n 0, 1) := by decide +kernel
theorem dX11_init_131 : decode cX11_init 131 = .ok (.bipush 7, 2) := by decide +kernel
theorem dX11_init_133 : decode cX11_init 133 = .ok (.newarray .int, 2) := by decide +kernel
theorem dX11_init_135 : decode cX11_init 135 = .ok (.putfield 73, 3) := by decide +kernel
theorem dX11_init_138 : decode cX11_init 138 = .ok (.aload_n 0, 1) := by decide +kernel
theorem dX11_init_139 : decode cX11_init 139 = .ok (.iconst 0, 1) := by decide +kernel
theorem dX11_init_140 : decode cX11_init 140 = .ok (.putfield 77, 3) := by decide +kernel
theorem dX11_init_143 : decode cX11_init 143 = .ok (.aload_n 0, 1) := by decide +kernel
theorem dX11_init_144 : decode cX11_init 144 = .ok (.iconst (-1), 1) := by decide +kernel
theorem dX11_init_145 : decode cX11_init 145 = .ok (.putfield 81, 3) := by decide +kernel
theorem dX11_init_148 : decode cX11_init 148 = .ok (.aload_n 0, 1) := by decide +kernel
theorem dX11_init_149 : decode cX11_init 149 = .ok (.iconst 1, 1) := by decide +kernel
theorem dX11_init_150 : decode cX11_init 150 = .ok (.putfield 84, 3) := by decide +kernel
theorem dX11_init_153 : decode cX11_init 153 = .ok (.return_, 1) := by decide +kernel
theorem dX11_feed_0 : decode cX11_feed 0 = .ok (.aload_n 0, 1) := by decide +kernel
theorem dX11_feed_1 : decode cX11_feed 1 = .ok (.getfield 10, 3) := by decide +kernel
theorem dX11_feed_4 : decode cX11_feed 4 = .ok (.bipush 20, 2) := by decide +kernel
theorem dX11_feed_6 : decode cX11_feed 6 = .ok (.invokevirtual 87, 3) := by decide +kernel
theorem dX11_feed_9 : decode cX11_feed 9 = .ok (.ifCond .ne 9, 3) := by decide +kernel
theorem dX11_feed_12 : decode cX11_feed 12 = .ok (.aload_n 0, 1) := by decide +kernel
theorem dX11_feed_13 : decode cX11_feed 13 = .ok (.iconst 0, 1) := by decide +kernel
theorem dX11_feed_14 : decode cX11_feed 14 = .ok (.invokevirtual 91, 3) := by decide +kernel
theorem dX11_feed_17 : decode cX11_feed 17 = .ok (.ireturn, 1) := by decide +kernel
theorem dX11_feed_18 : decode cX11_feed 18 = .ok (.aload_n 0, 1) := by decide +kernel
theorem dX11_feed_19 : decode cX11_feed 19 = .ok (.getfield 10, 3) := by decide +kernel
theorem dX11_feed_22 : decode cX11_feed 22 = .ok (.iload_n 1, 1) := by decide +kernel
theorem dX11_feed_23 : decode cX11_feed 23 = .ok (.invokevirtual 95, 3) := by decide +kernel
theorem dX11_feed_26 : decode cX11_feed 26 = .ok (.aload_n 0, 1) := by decide +kernel
theorem dX11_feed_27 : decode cX11_feed 27 = .ok (.getfield 10, 3) := by decide +kernel
theorem dX11_feed_30 : decode cX11_feed 30 = .ok (.iload_n 2, 1) := by decide +kernel
theorem dX11_feed_31 : decode cX11_feed 31 = .ok (.invokevirtual 95, 3) := by decide +kernel
theorem dX11_feed_34 : decode cX11_feed 34 = .ok (.aload_n 0, 1) := by decide +kernel
theorem dX11_feed_35 : decode cX11_feed 35 = .ok (.getfield 10, 3) := by decide +kernel
theorem dX11_feed_38 : decode cX11_feed 38 = .ok (.iload_n 3, 1) := by decide +kernel
theorem dX11_feed_39 : decode cX11_feed 39 = .ok (.invokevirtual 95, 3) := by decide +kernel
theorem dX11_feed_42 : decode cX11_feed 42 = .ok (.aload_n 0, 1) := by decide +kernel
theorem dX11_feed_43 : decode cX11_feed 43 = .ok (.getfield 10, 3) := by decide +kernel
theorem dX11_feed_46 : decode cX11_feed 46 = .ok (.iload 4, 2) := by decide +kernel
theorem dX11_feed_48 : decode cX11_feed 48 = .ok (.invokevirtual 95, 3) := by decide +kernel
theorem dX11_feed_51 : decode cX11_feed 51 = .ok (.aload_n 0, 1) := by decide +kernel
theorem dX11_feed_52 : decode cX11_feed 52 = .ok (.getfield 10, 3) := by decide +kernel
theorem dX11_feed_55 : decode cX11_feed 55 = .ok (.iload 5, 2) := by decide +kernel
theorem dX11_feed_57 : decode cX11_feed 57 = .ok (.invokevirtual 95, 3) := by decide +kernel
theorem dX11_feed_60 : decode cX11_feed 60 = .ok (.aload_n 0, 1) := by decide +kernel
theorem dX11_feed_61 : decode cX11_feed 61 = .ok (.getfield 10, 3) := by decide +kernel
theorem dX11_feed_64 : decode cX11_feed 64 = .ok (.getfield 99, 3) := by decide +kernel
theorem dX11_feed_67 : decode cX11_feed 67 = .ok (.ireturn, 1) := by decide +kernel
theorem dX11_end_0 : decode cX11_end 0 = .ok (.iload_n 1, 1) := by decide +kernel
theorem dX11_end_1 : decode cX11_end 1 = .ok (.ifCond .lt 14, 3) := by decide +kernel
theorem dX11_end_4 : decode cX11_end 4 = .ok (.iload_n 1, 1) := by decide +kernel
theorem dX11_end_5 : decode cX11_end 5 = .ok (.aload_n 0, 1) := by decide +kernel
theorem dX11_end_6 : decode cX11_end 6 = .ok (.getfield 10, 3) := by decide +kernel
theorem dX11_end_9 : decode cX11_end 9 = .ok (.getfield 99, 3) := by decide +kernel
theorem dX11_end_12 : decode cX11_end 12 = .ok (.if_icmp .le 9, 3) := by decide +kernel
theorem dX11_end_15 : decode cX11_end 15 = .ok (.aload_n 0, 1) := by decide +kernel
theorem dX11_end_16 : decode cX11_end 16 = .ok (.iconst 0, 1) := by decide +kernel
theorem dX11_end_17 : decode cX11_end 17 = .ok (.invokevirtual 102, 3) := by decide +kernel
theorem dX11_end_20 : decode cX11_end 20 = .ok (.ireturn, 1) := by decide +kernel
theorem dX11_end_21 : decode cX11_end 21 = .ok (.aload_n 0, 1) := by decide +kernel
theorem dX11_end_22 : decode cX11_end 22 = .ok (.getfield 10, 3) := by decide +kernel
theorem dX11_end_25 : decode cX11_end 25 = .ok (.iload_n 1, 1) := by decide +kernel
theorem dX11_end_26 : decode cX11_end 26 = .ok (.putfield 99, 3) := by decide +kernel
theorem dX11_end_29 : decode cX11_end 29 = .ok (.iconst 1, 1) := by decide +kernel
theorem dX11_end_30 : decode cX11_end 30 = .ok (.ireturn, 1) := by decide +kernel
theorem dX11_session_0 : decode cX11_session 0 = .ok (.aload_n 0, 1) := by decide +kernel
theorem dX11_session_1 : decode cX11_session 1 = .ok (.getfield 10, 3) := by decide +kernel
theorem dX11_session_4 : decode cX11_session 4 = .ok (.invokevirtual 105, 3) := by decide +kernel
theorem dX11_session_7 : decode cX11_session 7 = .ok (.istore_n 1, 1) := by decide +kernel
theorem dX11_session_8 : decode cX11_session 8 = .ok (.aload_n 0, 1) := by decide +kernel
theorem dX11_session_9 : decode cX11_session 9 = .ok (.invokevirtual 109, 3) := by decide +kernel
theorem dX11_session_12 : decode cX11_session 12 = .ok (.iload_n 1, 1) := by decide +kernel
theorem dX11_session_13 : decode cX11_session 13 = .ok (.ifCond .ne 9, 3) := by decide +kernel
theorem dX11_session_16 : decode cX11_session 16 = .ok (.aload_n 0, 1) := by decide +kernel
theorem dX11_session_17 : decode cX11_session 17 = .ok (.iconst 1, 1) := by decide +kernel
theorem dX11_session_18 : decode cX11_session 18 = .ok (.invokevirtual 91, 3) := by decide +kernel
theorem dX11_session_21 : decode cX11_session 21 = .ok (.ireturn, 1) := by decide +kernel
theorem dX11_session_22 : decode cX11_session 22 = .ok (.aload_n 0, 1) := by decide +kernel
theorem dX11_session_23 : decode cX11_session 23 = .ok (.invokevirtual 112, 3) := by decide +kernel
theorem dX11_session_26 : decode cX11_session 26 = .ok (.iconst 0, 1) := by decide +kernel
theorem dX11_session_27 : decode cX11_session 27 = .ok (.istore_n 2, 1) := by decide +kernel
theorem dX11_session_28 : decode cX11_session 28 = .ok (.iload_n 2, 1) := by decide +kernel
theorem dX11_session_29 : decode cX11_session 29 = .ok (.aload_n 0, 1) := by decide +kernel
theorem dX11_session_30 : decode cX11_session 30 = .ok (.getfield 10, 3) := by decide +kernel
theorem dX11_session_33 : decode cX11_session 33 = .ok (.getfield 115, 3) := by decide +kernel
theorem dX11_session_36 : decode cX11_session 36 = .ok (.if_icmp .ge 14, 3) := by decide +kernel
theorem dX11_session_39 : decode cX11_session 39 = .ok (.aload_n 0, 1) := by decide +kernel
theorem dX11_session_40 : decode cX11_session 40 = .ok (.iload_n 2, 1) := by decide +kernel
theorem dX11_session_41 : decode cX11_session 41 = .ok (.invokevirtual 118, 3) := by decide +kernel
theorem dX11_session_44 : decode cX11_session 44 = .ok (.iinc 2 1, 3) := by decide +kernel
theorem dX11_session_47 : decode cX11_session 47 = .ok (.goto (-19), 3) := by decide +kernel
theorem dX11_session_50 : decode cX11_session 50 = .ok (.iconst 0, 1) := by decide +kernel
theorem dX11_session_51 : decode cX11_session 51 = .ok (.istore_n 2, 1) := by decide +kernel
theorem dX11_session_52 : decode cX11_session 52 = .ok (.iload_n 2, 1) := by decide +kernel
theorem dX11_session_53 : decode cX11_session 53 = .ok (.aload_n 0, 1) := by decide +kernel
theorem dX11_session_54 : decode cX11_session 54 = .ok (.getfield 10, 3) := by decide +kernel
theorem dX11_session_57 : decode cX11_session 57 = .ok (.getfield 115, 3) := by decide +kernel
theorem dX11_session_60 : decode cX11_session 60 = .ok (.if_icmp .ge 14, 3) := by decide +kernel
theorem dX11_session_63 : decode cX11_session 63 = .ok (.aload_n 0, 1) := by decide +kernel
theorem dX11_session_64 : decode cX11_session 64 = .ok (.iload_n 2, 1) := by decide +kernel
theorem dX11_session_65 : decode cX11_session 65 = .ok (.invokevirtual 121, 3) := by decide +kernel
theorem dX11_session_68 : decode cX11_session 68 = .ok (.iinc 2 1, 3) := by decide +kernel
theorem dX11_session_71 : decode cX11_session 71 = .ok (.goto (-19), 3) := by decide +kernel
theorem dX11_session_74 : decode cX11_session 74 = .ok (.aload_n 0, 1) := by decide +kernel
theorem dX11_session_75 : decode cX11_session 75 = .ok (.getfield 10, 3) := by decide +kernel
theorem dX11_session_78 : decode cX11_session 78 = .ok (.getfield 115, 3) := by decide +kernel
theorem dX11_session_81 : decode cX11_session 81 = .ok (.ireturn, 1) := by decide +kernel
theorem dX11_fault_0 : decode cX11_fault 0 = .ok (.iload_n 1, 1) := by decide +kernel
theorem dX11_fault_1 : decode cX11_fault 1 = .ok (.ifCond .ne 8, 3) := by decide +kernel
theorem dX11_fault_4 : decode cX11_fault 4 = .ok (.aload_n 0, 1) := by decide +kernel
theorem dX11_fault_5 : decode cX11_fault 5 = .ok (.getfield 77, 3) := by decide +kernel
theorem dX11_fault_8 : decode cX11_fault 8 = .ok (.ireturn, 1) := by decide +kernel
theorem dX11_fault_9 : decode cX11_fault 9 = .ok (.iload_n 1, 1) := by decide +kernel
theorem dX11_fault_10 : decode cX11_fault 10 = .ok (.iconst 1, 1) := by decide +kernel
theorem dX11_fault_11 : decode cX11_fault 11 = .ok (.if_icmp .ne 10, 3) := by decide +kernel
theorem dX11_fault_14 : decode cX11_fault 14 = .ok (.aload_n 0, 1) := by decide +kernel
theorem dX11_fault_15 : decode cX11_fault 15 = .ok (.getfield 81, 3) := by decide +kernel
theorem dX11_fault_18 : decode cX11_fault 18 = .ok (.goto 4, 3) := by decide +kernel
theorem dX11_fault_21 : decode cX11_fault 21 = .ok (.iconst (-1), 1) := by decide +kernel
theorem dX11_fault_22 : decode cX11_fault 22 = .ok (.ireturn, 1) := by decide +kernel
theorem dX11_has_0 : decode cX11_has 0 = .ok (.iload_n 1, 1) := by decide +kernel
theorem dX11_has_1 : decode cX11_has 1 = .ok (.tableswitch 158 0 10 #[59, 67, 75, 86, 94, 102, 110, 118, 126, 134, 150], 59) := by decide +kernel
theorem dX11_has_60 : decode cX11_has 60 = .ok (.aload_n 0, 1) := by decide +kernel
theorem dX11_has_61 : decode cX11_has 61 = .ok (.getfield 35, 3) := by decide +kernel
theorem dX11_has_64 : decode cX11_has 64 = .ok (.getfield 124, 3) := by decide +kernel
theorem dX11_has_67 : decode cX11_has 67 = .ok (.ireturn, 1) := by decide +kernel
theorem dX11_has_68 : decode cX11_has 68 = .ok (.aload_n 0, 1) := by decide +kernel
theorem dX11_has_69 : decode cX11_has 69 = .ok (.getfield 35, 3) := by decide +kernel
theorem dX11_has_72 : decode cX11_has 72 = .ok (.getfield 125, 3) := by decide +kernel
theorem dX11_has_75 : decode cX11_has 75 = .ok (.ireturn, 1) := by decide +kernel
theorem dX11_has_76 : decode cX11_has 76 = .ok (.aload_n 0, 1) := by decide +kernel
theorem dX11_has_77 : decode cX11_has 77 = .ok (.getfield 35, 3) := by decide +kernel
theorem dX11_has_80 : decode cX11_has 80 = .ok (.getfield 128, 3) := by decide +kernel
theorem dX11_has_83 : decode cX11_has 83 = .ok (.getfield 131, 3) := by decide +kernel
theorem dX11_has_86 : decode cX11_has 86 = .ok (.ireturn, 1) := by decide +kernel
theorem dX11_has_87 : decode cX11_has 87 = .ok (.aload_n 0, 1) := by decide +kernel
theorem dX11_has_88 : decode cX11_has 88 = .ok (.getfield 35, 3) := by decide +kernel
theorem dX11_has_91 : decode cX11_has 91 = .ok (.getfield 134, 3) := by decide +kernel
theorem dX11_has_94 : decode cX11_has 94 = .ok (.ireturn, 1) := by decide +kernel
theorem dX11_has_95 : decode cX11_has 95 = .ok (.aload_n 0, 1) := by decide +kernel
theorem dX11_has_96 : decode cX11_has 96 = .ok (.getfield 35, 3) := by decide +kernel
theorem dX11_has_99 : decode cX11_has 99 = .ok (.getfield 137, 3) := by decide +kernel
theorem dX11_has_102 : decode cX11_has 102 = .ok (.ireturn, 1) := by decide +kernel
theorem dX11_has_103 : decode cX11_has 103 = .ok (.aload_n 0, 1) := by decide +kernel
theorem dX11_has_104 : decode cX11_has 104 = .ok (.getfield 35, 3) := by decide +kernel
theorem dX11_has_107 : decode cX11_has 107 = .ok (.getfield 140, 3) := by decide +kernel
theorem dX11_has_110 : decode cX11_has 110 = .ok (.ireturn, 1) := by decide +kernel
theorem dX11_has_111 : decode cX11_has 111 = .ok (.aload_n 0, 1) := by decide +kernel
theorem dX11_has_112 : decode cX11_has 112 = .ok (.getfield 35, 3) := by decide +kernel
theorem dX11_has_115 : decode cX11_has 115 = .ok (.invokevirtual 143, 3) := by decide +kernel
theorem dX11_has_118 : decode cX11_has 118 = .ok (.ireturn, 1) := by decide +kernel
theorem dX11_has_119 : decode cX11_has 119 = .ok (.aload_n 0, 1) := by decide +kernel
theorem dX11_has_120 : decode cX11_has 120 = .ok (.getfield 52, 3) := by decide +kernel
theorem dX11_has_123 : decode cX11_has 123 = .ok (.getfield 147, 3) := by decide +kernel
theorem dX11_has_126 : decode cX11_has 126 = .ok (.ireturn, 1) := by decide +kernel
theorem dX11_has_127 : decode cX11_has 127 = .ok (.aload_n 0, 1) := by decide +kernel
theorem dX11_has_128 : decode cX11_has 128 = .ok (.getfield 45, 3) := by decide +kernel
theorem dX11_has_131 : decode cX11_has 131 = .ok (.getfield 150, 3) := by decide +kernel
theorem dX11_has_134 : decode cX11_has 134 = .ok (.ireturn, 1) := by decide +kernel
theorem dX11_has_135 : decode cX11_has 135 = .ok (.aload_n 0, 1) := by decide +kernel
theorem dX11_has_136 : decode cX11_has 136 = .ok (.getfield 35, 3) := by decide +kernel
theorem dX11_has_139 : decode cX11_has 139 = .ok (.invokevirtual 143, 3) := by decide +kernel
theorem dX11_has_142 : decode cX11_has 142 = .ok (.ifCond .ne 7, 3) := by decide +kernel
theorem dX11_has_145 : decode cX11_has 145 = .ok (.iconst 1, 1) := by decide +kernel
theorem dX11_has_146 : decode cX11_has 146 = .ok (.goto 4, 3) := by decide +kernel
theorem dX11_has_149 : decode cX11_has 149 = .ok (.iconst 0, 1) := by decide +kernel
theorem dX11_has_150 : decode cX11_has 150 = .ok (.ireturn, 1) := by decide +kernel
theorem dX11_has_151 : decode cX11_has 151 = .ok (.aload_n 0, 1) := by decide +kernel
theorem dX11_has_152 : decode cX11_has 152 = .ok (.getfield 35, 3) := by decide +kernel
theorem dX11_has_155 : decode cX11_has 155 = .ok (.getfield 151, 3) := by decide +kernel
theorem dX11_has_158 : decode cX11_has 158 = .ok (.ireturn, 1) := by decide +kernel
theorem dX11_has_159 : decode cX11_has 159 = .ok (.iconst (-1), 1) := by decide +kernel
theorem dX11_has_160 : decode cX11_has 160 = .ok (.ireturn, 1) := by decide +kernel
theorem dX11_editor_0 : decode cX11_editor 0 = .ok (.aload_n 0, 1) := by decide +kernel
theorem dX11_editor_1 : decode cX11_editor 1 = .ok (.getfield 35, 3) := by decide +kernel
theorem dX11_editor_4 : decode cX11_editor 4 = .ok (.iload_n 1, 1) := by decide +kernel
theorem dX11_editor_5 : decode cX11_editor 5 = .ok (.invokevirtual 154, 3) := by decide +kernel
theorem dX11_editor_8 : decode cX11_editor 8 = .ok (.ifCond .ne 5, 3) := by decide +kernel
theorem dX11_editor_11 : decode cX11_editor 11 = .ok (.iconst (-1), 1) := by decide +kernel
theorem dX11_editor_12 : decode cX11_editor 12 = .ok (.ireturn, 1) := by decide +kernel
theorem dX11_editor_13 : decode cX11_editor 13 = .ok (.aload_n 0, 1) := by decide +kernel
theorem dX11_editor_14 : decode cX11_editor 14 = .ok (.getfield 35, 3) := by decide +kernel
theorem dX11_editor_17 : decode cX11_editor 17 = .ok (.getfield 157, 3) := by decide +kernel
theorem dX11_editor_20 : decode cX11_editor 20 = .ok (.iload_n 1, 1) := by decide +kernel
theorem dX11_editor_21 : decode cX11_editor 21 = .ok (.aaload, 1) := by decide +kernel
theorem dX11_editor_22 : decode cX11_editor 22 = .ok (.astore_n 3, 1) := by decide +kernel
theorem dX11_editor_23 : decode cX11_editor 23 = .ok (.iload_n 2, 1) := by decide +kernel
theorem dX11_editor_24 : decode cX11_editor 24 = .ok (.tableswitch 165 0 11 #[64, 72, 77, 82, 95, 108, 113, 121, 129, 142, 147, 160], 64) := by decide +kernel
theorem dX11_editor_88 : decode cX11_editor 88 = .ok (.aload_n 3, 1) := by decide +kernel
theorem dX11_editor_89 : decode cX11_editor 89 = .ok (.getfield 161, 3) := by decide +kernel
theorem dX11_editor_92 : decode cX11_editor 92 = .ok (.getfield 131, 3) := by decide +kernel
theorem dX11_editor_95 : decode cX11_editor 95 = .ok (.ireturn, 1) := by decide +kernel
theorem dX11_editor_96 : decode cX11_editor 96 = .ok (.aload_n 3, 1) := by decide +kernel
theorem dX11_editor_97 : decode cX11_editor 97 = .ok (.getfield 166, 3) := by decide +kernel
theorem dX11_editor_100 : decode cX11_editor 100 = .ok (.ireturn, 1) := by decide +kernel
theorem dX11_editor_101 : decode cX11_editor 101 = .ok (.aload_n 3, 1) := by decide +kernel
theorem dX11_editor_102 : decode cX11_editor 102 = .ok (.getfield 169, 3) := by decide +kernel
theorem dX11_editor_105 : decode cX11_editor 105 = .ok (.ireturn, 1) := by decide +kernel
theorem dX11_editor_106 : decode cX11_editor 106 = .ok (.aload_n 3, 1) := by decide +kernel
theorem dX11_editor_107 : decode cX11_editor 107 = .ok (.getfield 172, 3) := by decide +kernel
theorem dX11_editor_110 : decode cX11_editor 110 = .ok (.ifCond .eq 7, 3) := by decide +kernel
theorem dX11_editor_113 : decode cX11_editor 113 = .ok (.iconst 1, 1) := by decide +kernel
theorem dX11_editor_114 : decode cX11_editor 114 = .ok (.goto 4, 3) := by decide +kernel
theorem dX11_editor_117 : decode cX11_editor 117 = .ok (.iconst 0, 1) := by decide +kernel
theorem dX11_editor_118 : decode cX11_editor 118 = .ok (.ireturn, 1) := by decide +kernel
theorem dX11_editor_119 : decode cX11_editor 119 = .ok (.aload_n 3, 1) := by decide +kernel
theorem dX11_editor_120 : decode cX11_editor 120 = .ok (.getfield 176, 3) := by decide +kernel
theorem dX11_editor_123 : decode cX11_editor 123 = .ok (.ifCond .eq 7, 3) := by decide +kernel
theorem dX11_editor_126 : decode cX11_editor 126 = .ok (.iconst 1, 1) := by decide +kernel
theorem dX11_editor_127 : decode cX11_editor 127 = .ok (.goto 4, 3) := by decide +kernel
theorem dX11_editor_130 : decode cX11_editor 130 = .ok (.iconst 0, 1) := by decide +kernel
theorem dX11_editor_131 : decode cX11_editor 131 = .ok (.ireturn, 1) := by decide +kernel
theorem dX11_editor_132 : decode cX11_editor 132 = .ok (.aload_n 3, 1) := by decide +kernel
theorem dX11_editor_133 : decode cX11_editor 133 = .ok (.getfield 179, 3) := by decide +kernel
theorem dX11_editor_136 : decode cX11_editor 136 = .ok (.ireturn, 1) := by decide +kernel
theorem dX11_editor_137 : decode cX11_editor 137 = .ok (.aload_n 3, 1) := by decide +kernel
theorem dX11_editor_138 : decode cX11_editor 138 = .ok (.getfield 182, 3) := by decide +kernel
theorem dX11_editor_141 : decode cX11_editor 141 = .ok (.getfield 186, 3) := by decide +kernel
theorem dX11_editor_144 : decode cX11_editor 144 = .ok (.ireturn, 1) := by decide +kernel
