theorem dX12_stands_187 : decode cX12_stands 187 = .ok (.iinc 1 1, 3) := by decide +kernel
theorem dX12_stands_190 : decode cX12_stands 190 = .ok (.goto (-97), 3) := by decide +kernel
theorem dX12_stands_193 : decode cX12_stands 193 = .ok (.aload_n 0, 1) := by decide +kernel
theorem dX12_stands_194 : decode cX12_stands 194 = .ok (.iconst 1, 1) := by decide +kernel
theorem dX12_stands_195 : decode cX12_stands 195 = .ok (.invokevirtual 387, 3) := by decide +kernel
theorem dX12_stands_198 : decode cX12_stands 198 = .ok (.aload_n 0, 1) := by decide +kernel
theorem dX12_stands_199 : decode cX12_stands 199 = .ok (.iconst 0, 1) := by decide +kernel
theorem dX12_stands_200 : decode cX12_stands 200 = .ok (.invokevirtual 387, 3) := by decide +kernel
theorem dX12_stands_203 : decode cX12_stands 203 = .ok (.aload_n 0, 1) := by decide +kernel
theorem dX12_stands_204 : decode cX12_stands 204 = .ok (.iconst 0, 1) := by decide +kernel
theorem dX12_stands_205 : decode cX12_stands 205 = .ok (.putfield 390, 3) := by decide +kernel
theorem dX12_stands_208 : decode cX12_stands 208 = .ok (.aload_n 0, 1) := by decide +kernel
theorem dX12_stands_209 : decode cX12_stands 209 = .ok (.iconst 0, 1) := by decide +kernel
theorem dX12_stands_210 : decode cX12_stands 210 = .ok (.putfield 393, 3) := by decide +kernel
theorem dX12_stands_213 : decode cX12_stands 213 = .ok (.return_, 1) := by decide +kernel
theorem dX12_goesOver_0 : decode cX12_goesOver 0 = .ok (.aload_n 0, 1) := by decide +kernel
theorem dX12_goesOver_1 : decode cX12_goesOver 1 = .ok (.iconst 0, 1) := by decide +kernel
theorem dX12_goesOver_2 : decode cX12_goesOver 2 = .ok (.invokevirtual 155, 3) := by decide +kernel
theorem dX12_goesOver_5 : decode cX12_goesOver 5 = .ok (.aload_n 0, 1) := by decide +kernel
theorem dX12_goesOver_6 : decode cX12_goesOver 6 = .ok (.invokevirtual 375, 3) := by decide +kernel
theorem dX12_goesOver_9 : decode cX12_goesOver 9 = .ok (.aload_n 0, 1) := by decide +kernel
theorem dX12_goesOver_10 : decode cX12_goesOver 10 = .ok (.bipush 59, 2) := by decide +kernel
theorem dX12_goesOver_12 : decode cX12_goesOver 12 = .ok (.invokevirtual 369, 3) := by decide +kernel
theorem dX12_goesOver_15 : decode cX12_goesOver 15 = .ok (.aload_n 0, 1) := by decide +kernel
theorem dX12_goesOver_16 : decode cX12_goesOver 16 = .ok (.invokevirtual 165, 3) := by decide +kernel
theorem dX12_goesOver_19 : decode cX12_goesOver 19 = .ok (.iconst (-1), 1) := by decide +kernel
theorem dX12_goesOver_20 : decode cX12_goesOver 20 = .ok (.if_icmp .eq 53, 3) := by decide +kernel
theorem dX12_goesOver_23 : decode cX12_goesOver 23 = .ok (.iload_n 1, 1) := by decide +kernel
theorem dX12_goesOver_24 : decode cX12_goesOver 24 = .ok (.ifCond .eq 10, 3) := by decide +kernel
theorem dX12_goesOver_27 : decode cX12_goesOver 27 = .ok (.aload_n 0, 1) := by decide +kernel
theorem dX12_goesOver_28 : decode cX12_goesOver 28 = .ok (.invokevirtual 396, 3) := by decide +kernel
theorem dX12_goesOver_31 : decode cX12_goesOver 31 = .ok (.goto 7, 3) := by decide +kernel
theorem dX12_goesOver_34 : decode cX12_goesOver 34 = .ok (.aload_n 0, 1) := by decide +kernel
theorem dX12_goesOver_35 : decode cX12_goesOver 35 = .ok (.invokevirtual 399, 3) := by decide +kernel
theorem dX12_goesOver_38 : decode cX12_goesOver 38 = .ok (.aload_n 0, 1) := by decide +kernel
theorem dX12_goesOver_39 : decode cX12_goesOver 39 = .ok (.invokevirtual 165, 3) := by decide +kernel
theorem dX12_goesOver_42 : decode cX12_goesOver 42 = .ok (.bipush 59, 2) := by decide +kernel
theorem dX12_goesOver_44 : decode cX12_goesOver 44 = .ok (.if_icmp .eq 16, 3) := by decide +kernel
theorem dX12_goesOver_47 : decode cX12_goesOver 47 = .ok (.aload_n 0, 1) := by decide +kernel
theorem dX12_goesOver_48 : decode cX12_goesOver 48 = .ok (.dup, 1) := by decide +kernel
theorem dX12_goesOver_49 : decode cX12_goesOver 49 = .ok (.getfield 159, 3) := by decide +kernel
theorem dX12_goesOver_52 : decode cX12_goesOver 52 = .ok (.iconst 1, 1) := by decide +kernel
theorem dX12_goesOver_53 : decode cX12_goesOver 53 = .ok (.iadd, 1) := by decide +kernel
theorem dX12_goesOver_54 : decode cX12_goesOver 54 = .ok (.putfield 159, 3) := by decide +kernel
theorem dX12_goesOver_57 : decode cX12_goesOver 57 = .ok (.goto (-19), 3) := by decide +kernel
theorem dX12_goesOver_60 : decode cX12_goesOver 60 = .ok (.aload_n 0, 1) := by decide +kernel
theorem dX12_goesOver_61 : decode cX12_goesOver 61 = .ok (.dup, 1) := by decide +kernel
theorem dX12_goesOver_62 : decode cX12_goesOver 62 = .ok (.getfield 159, 3) := by decide +kernel
theorem dX12_goesOver_65 : decode cX12_goesOver 65 = .ok (.iconst 1, 1) := by decide +kernel
theorem dX12_goesOver_66 : decode cX12_goesOver 66 = .ok (.iadd, 1) := by decide +kernel
theorem dX12_goesOver_67 : decode cX12_goesOver 67 = .ok (.putfield 159, 3) := by decide +kernel
theorem dX12_goesOver_70 : decode cX12_goesOver 70 = .ok (.goto (-55), 3) := by decide +kernel
theorem dX12_goesOver_73 : decode cX12_goesOver 73 = .ok (.return_, 1) := by decide +kernel
theorem dX12_isLaid_0 : decode cX12_isLaid 0 = .ok (.aload_n 0, 1) := by decide +kernel
theorem dX12_isLaid_1 : decode cX12_isLaid 1 = .ok (.aload_n 0, 1) := by decide +kernel
theorem dX12_isLaid_2 : decode cX12_isLaid 2 = .ok (.getfield 27, 3) := by decide +kernel
theorem dX12_isLaid_5 : decode cX12_isLaid 5 = .ok (.invokevirtual 176, 3) := by decide +kernel
theorem dX12_isLaid_8 : decode cX12_isLaid 8 = .ok (.ifCond .eq 29, 3) := by decide +kernel
theorem dX12_isLaid_11 : decode cX12_isLaid 11 = .ok (.aload_n 0, 1) := by decide +kernel
theorem dX12_isLaid_12 : decode cX12_isLaid 12 = .ok (.invokevirtual 354, 3) := by decide +kernel
theorem dX12_isLaid_15 : decode cX12_isLaid 15 = .ok (.istore_n 1, 1) := by decide +kernel
theorem dX12_isLaid_16 : decode cX12_isLaid 16 = .ok (.aload_n 0, 1) := by decide +kernel
theorem dX12_isLaid_17 : decode cX12_isLaid 17 = .ok (.getfield 69, 3) := by decide +kernel
theorem dX12_isLaid_20 : decode cX12_isLaid 20 = .ok (.iload_n 1, 1) := by decide +kernel
theorem dX12_isLaid_21 : decode cX12_isLaid 21 = .ok (.bipush 16, 2) := by decide +kernel
theorem dX12_isLaid_23 : decode cX12_isLaid 23 = .ok (.invokestatic 237, 3) := by decide +kernel
theorem dX12_isLaid_26 : decode cX12_isLaid 26 = .ok (.aload_n 0, 1) := by decide +kernel
theorem dX12_isLaid_27 : decode cX12_isLaid 27 = .ok (.iconst 0, 1) := by decide +kernel
theorem dX12_isLaid_28 : decode cX12_isLaid 28 = .ok (.bipush 9, 2) := by decide +kernel
theorem dX12_isLaid_30 : decode cX12_isLaid 30 = .ok (.invokevirtual 338, 3) := by decide +kernel
theorem dX12_isLaid_33 : decode cX12_isLaid 33 = .ok (.iastore, 1) := by decide +kernel
theorem dX12_isLaid_34 : decode cX12_isLaid 34 = .ok (.goto 24, 3) := by decide +kernel
theorem dX12_isLaid_37 : decode cX12_isLaid 37 = .ok (.aload_n 0, 1) := by decide +kernel
theorem dX12_isLaid_38 : decode cX12_isLaid 38 = .ok (.aload_n 0, 1) := by decide +kernel
theorem dX12_isLaid_39 : decode cX12_isLaid 39 = .ok (.getfield 30, 3) := by decide +kernel
theorem dX12_isLaid_42 : decode cX12_isLaid 42 = .ok (.invokevirtual 176, 3) := by decide +kernel
theorem dX12_isLaid_45 : decode cX12_isLaid 45 = .ok (.ifCond .eq 13, 3) := by decide +kernel
theorem dX12_isLaid_48 : decode cX12_isLaid 48 = .ok (.aload_n 0, 1) := by decide +kernel
theorem dX12_isLaid_49 : decode cX12_isLaid 49 = .ok (.aload_n 0, 1) := by decide +kernel
theorem dX12_isLaid_50 : decode cX12_isLaid 50 = .ok (.iconst 0, 1) := by decide +kernel
theorem dX12_isLaid_51 : decode cX12_isLaid 51 = .ok (.iconst 2, 1) := by decide +kernel
theorem dX12_isLaid_52 : decode cX12_isLaid 52 = .ok (.invokevirtual 338, 3) := by decide +kernel
theorem dX12_isLaid_55 : decode cX12_isLaid 55 = .ok (.putfield 230, 3) := by decide +kernel
theorem dX12_isLaid_58 : decode cX12_isLaid 58 = .ok (.return_, 1) := by decide +kernel
theorem dX12_isDone_0 : decode cX12_isDone 0 = .ok (.aload_n 0, 1) := by decide +kernel
theorem dX12_isDone_1 : decode cX12_isDone 1 = .ok (.aload_n 0, 1) := by decide +kernel
theorem dX12_isDone_2 : decode cX12_isDone 2 = .ok (.getfield 33, 3) := by decide +kernel
theorem dX12_isDone_5 : decode cX12_isDone 5 = .ok (.invokevirtual 176, 3) := by decide +kernel
theorem dX12_isDone_8 : decode cX12_isDone 8 = .ok (.ifCond .eq 32, 3) := by decide +kernel
theorem dX12_isDone_11 : decode cX12_isDone 11 = .ok (.aload_n 0, 1) := by decide +kernel
theorem dX12_isDone_12 : decode cX12_isDone 12 = .ok (.invokevirtual 354, 3) := by decide +kernel
theorem dX12_isDone_15 : decode cX12_isDone 15 = .ok (.istore_n 1, 1) := by decide +kernel
theorem dX12_isDone_16 : decode cX12_isDone 16 = .ok (.aload_n 0, 1) := by decide +kernel
theorem dX12_isDone_17 : decode cX12_isDone 17 = .ok (.iload_n 1, 1) := by decide +kernel
theorem dX12_isDone_18 : decode cX12_isDone 18 = .ok (.invokevirtual 402, 3) := by decide +kernel
theorem dX12_isDone_21 : decode cX12_isDone 21 = .ok (.ifCond .eq 16, 3) := by decide +kernel
theorem dX12_isDone_24 : decode cX12_isDone 24 = .ok (.aload_n 0, 1) := by decide +kernel
theorem dX12_isDone_25 : decode cX12_isDone 25 = .ok (.invokevirtual 405, 3) := by decide +kernel
theorem dX12_isDone_28 : decode cX12_isDone 28 = .ok (.ifCond .eq 9, 3) := by decide +kernel
theorem dX12_isDone_31 : decode cX12_isDone 31 = .ok (.aload_n 0, 1) := by decide +kernel
theorem dX12_isDone_32 : decode cX12_isDone 32 = .ok (.iload_n 1, 1) := by decide +kernel
theorem dX12_isDone_33 : decode cX12_isDone 33 = .ok (.iconst 0, 1) := by decide +kernel
theorem dX12_isDone_34 : decode cX12_isDone 34 = .ok (.invokevirtual 409, 3) := by decide +kernel
theorem dX12_isDone_37 : decode cX12_isDone 37 = .ok (.goto 210, 3) := by decide +kernel
theorem dX12_isDone_40 : decode cX12_isDone 40 = .ok (.aload_n 0, 1) := by decide +kernel
theorem dX12_isDone_41 : decode cX12_isDone 41 = .ok (.aload_n 0, 1) := by decide +kernel
theorem dX12_isDone_42 : decode cX12_isDone 42 = .ok (.getfield 36, 3) := by decide +kernel
theorem dX12_isDone_45 : decode cX12_isDone 45 = .ok (.invokevirtual 176, 3) := by decide +kernel
theorem dX12_isDone_48 : decode cX12_isDone 48 = .ok (.ifCond .eq 41, 3) := by decide +kernel
theorem dX12_isDone_51 : decode cX12_isDone 51 = .ok (.aload_n 0, 1) := by decide +kernel
theorem dX12_isDone_52 : decode cX12_isDone 52 = .ok (.invokevirtual 354, 3) := by decide +kernel
theorem dX12_isDone_55 : decode cX12_isDone 55 = .ok (.istore_n 1, 1) := by decide +kernel
theorem dX12_isDone_56 : decode cX12_isDone 56 = .ok (.aload_n 0, 1) := by decide +kernel
theorem dX12_isDone_57 : decode cX12_isDone 57 = .ok (.iconst 0, 1) := by decide +kernel
theorem dX12_isDone_58 : decode cX12_isDone 58 = .ok (.bipush 99, 2) := by decide +kernel
theorem dX12_isDone_60 : decode cX12_isDone 60 = .ok (.invokevirtual 338, 3) := by decide +kernel
theorem dX12_isDone_63 : decode cX12_isDone 63 = .ok (.istore_n 2, 1) := by decide +kernel
theorem dX12_isDone_64 : decode cX12_isDone 64 = .ok (.iload_n 2, 1) := by decide +kernel
theorem dX12_isDone_65 : decode cX12_isDone 65 = .ok (.aload_n 0, 1) := by decide +kernel
theorem dX12_isDone_66 : decode cX12_isDone 66 = .ok (.iload_n 1, 1) := by decide +kernel
theorem dX12_isDone_67 : decode cX12_isDone 67 = .ok (.bipush 21, 2) := by decide +kernel
theorem dX12_isDone_69 : decode cX12_isDone 69 = .ok (.invokevirtual 246, 3) := by decide +kernel
theorem dX12_isDone_72 : decode cX12_isDone 72 = .ok (.if_icmp .gt 14, 3) := by decide +kernel
theorem dX12_isDone_75 : decode cX12_isDone 75 = .ok (.aload_n 0, 1) := by decide +kernel
theorem dX12_isDone_76 : decode cX12_isDone 76 = .ok (.getfield 69, 3) := by decide +kernel
theorem dX12_isDone_79 : decode cX12_isDone 79 = .ok (.iload_n 1, 1) := by decide +kernel
theorem dX12_isDone_80 : decode cX12_isDone 80 = .ok (.iconst 1, 1) := by decide +kernel
theorem dX12_isDone_81 : decode cX12_isDone 81 = .ok (.invokestatic 237, 3) := by decide +kernel
theorem dX12_isDone_84 : decode cX12_isDone 84 = .ok (.iload_n 2, 1) := by decide +kernel
theorem dX12_isDone_85 : decode cX12_isDone 85 = .ok (.iastore, 1) := by decide +kernel
theorem dX12_isDone_86 : decode cX12_isDone 86 = .ok (.goto 161, 3) := by decide +kernel
theorem dX12_isDone_89 : decode cX12_isDone 89 = .ok (.aload_n 0, 1) := by decide +kernel
theorem dX12_isDone_90 : decode cX12_isDone 90 = .ok (.aload_n 0, 1) := by decide +kernel
theorem dX12_isDone_91 : decode cX12_isDone 91 = .ok (.getfield 39, 3) := by decide +kernel
theorem dX12_isDone_94 : decode cX12_isDone 94 = .ok (.invokevirtual 176, 3) := by decide +kernel
theorem dX12_isDone_97 : decode cX12_isDone 97 = .ok (.ifCond .eq 54, 3) := by decide +kernel
theorem dX12_isDone_100 : decode cX12_isDone 100 = .ok (.aload_n 0, 1) := by decide +kernel
theorem dX12_isDone_101 : decode cX12_isDone 101 = .ok (.invokevirtual 354, 3) := by decide +kernel
theorem dX12_isDone_104 : decode cX12_isDone 104 = .ok (.istore_n 1, 1) := by decide +kernel
theorem dX12_isDone_105 : decode cX12_isDone 105 = .ok (.aload_n 0, 1) := by decide +kernel
theorem dX12_isDone_106 : decode cX12_isDone 106 = .ok (.iconst 0, 1) := by decide +kernel
theorem dX12_isDone_107 : decode cX12_isDone 107 = .ok (.bipush 99, 2) := by decide +kernel
theorem dX12_isDone_109 : decode cX12_isDone 109 = .ok (.invokevirtual 338, 3) := by decide +kernel
theorem dX12_isDone_112 : decode cX12_isDone 112 = .ok (.istore_n 2, 1) := by decide +kernel
theorem dX12_isDone_113 : decode cX12_isDone 113 = .ok (.aload_n 0, 1) := by decide +kernel
theorem dX12_isDone_114 : decode cX12_isDone 114 = .ok (.iconst 0, 1) := by decide +kernel
theorem dX12_isDone_115 : decode cX12_isDone 115 = .ok (.bipush 99, 2) := by decide +kernel
theorem dX12_isDone_117 : decode cX12_isDone 117 = .ok (.invokevirtual 338, 3) := by decide +kernel
theorem dX12_isDone_120 : decode cX12_isDone 120 = .ok (.istore_n 3, 1) := by decide +kernel
theorem dX12_isDone_121 : decode cX12_isDone 121 = .ok (.aload_n 0, 1) := by decide +kernel
theorem dX12_isDone_122 : decode cX12_isDone 122 = .ok (.iconst 0, 1) := by decide +kernel
theorem dX12_isDone_123 : decode cX12_isDone 123 = .ok (.iconst 3, 1) := by decide +kernel
theorem dX12_isDone_124 : decode cX12_isDone 124 = .ok (.invokevirtual 338, 3) := by decide +kernel
theorem dX12_isDone_127 : decode cX12_isDone 127 = .ok (.istore 4, 2) := by decide +kernel
theorem dX12_isDone_129 : decode cX12_isDone 129 = .ok (.aload_n 0, 1) := by decide +kernel
theorem dX12_isDone_130 : decode cX12_isDone 130 = .ok (.iload_n 1, 1) := by decide +kernel
theorem dX12_isDone_131 : decode cX12_isDone 131 = .ok (.iload_n 2, 1) := by decide +kernel
theorem dX12_isDone_132 : decode cX12_isDone 132 = .ok (.iload_n 3, 1) := by decide +kernel
theorem dX12_isDone_133 : decode cX12_isDone 133 = .ok (.invokevirtual 412, 3) := by decide +kernel
theorem dX12_isDone_136 : decode cX12_isDone 136 = .ok (.ifCond .eq 12, 3) := by decide +kernel
theorem dX12_isDone_139 : decode cX12_isDone 139 = .ok (.aload_n 0, 1) := by decide +kernel
theorem dX12_isDone_140 : decode cX12_isDone 140 = .ok (.iload_n 1, 1) := by decide +kernel
theorem dX12_isDone_141 : decode cX12_isDone 141 = .ok (.iload_n 2, 1) := by decide +kernel
theorem dX12_isDone_142 : decode cX12_isDone 142 = .ok (.iload_n 3, 1) := by decide +kernel
theorem dX12_isDone_143 : decode cX12_isDone 143 = .ok (.iload 4, 2) := by decide +kernel
theorem dX12_isDone_145 : decode cX12_isDone 145 = .ok (.invokevirtual 416, 3) := by decide +kernel
theorem dX12_isDone_148 : decode cX12_isDone 148 = .ok (.goto 99, 3) := by decide +kernel
theorem dX12_isDone_151 : decode cX12_isDone 151 = .ok (.aload_n 0, 1) := by decide +kernel
theorem dX12_isDone_152 : decode cX12_isDone 152 = .ok (.aload_n 0, 1) := by decide +kernel
theorem dX12_isDone_153 : decode cX12_isDone 153 = .ok (.getfield 42, 3) := by decide +kernel
theorem dX12_isDone_156 : decode cX12_isDone 156 = .ok (.invokevirtual 176, 3) := by decide +kernel
theorem dX12_isDone_159 : decode cX12_isDone 159 = .ok (.ifCond .eq 21, 3) := by decide +kernel
theorem dX12_isDone_162 : decode cX12_isDone 162 = .ok (.aload_n 0, 1) := by decide +kernel
theorem dX12_isDone_163 : decode cX12_isDone 163 = .ok (.getfield 69, 3) := by decide +kernel
theorem dX12_isDone_166 : decode cX12_isDone 166 = .ok (.aload_n 0, 1) := by decide +kernel
theorem dX12_isDone_167 : decode cX12_isDone 167 = .ok (.invokevirtual 354, 3) := by decide +kernel
theorem dX12_isDone_170 : decode cX12_isDone 170 = .ok (.bipush 15, 2) := by decide +kernel
theorem dX12_isDone_172 : decode cX12_isDone 172 = .ok (.invokestatic 237, 3) := by decide +kernel
theorem dX12_isDone_175 : decode cX12_isDone 175 = .ok (.iconst 0, 1) := by decide +kernel
theorem dX12_isDone_176 : decode cX12_isDone 176 = .ok (.iastore, 1) := by decide +kernel
theorem dX12_isDone_177 : decode cX12_isDone 177 = .ok (.goto 70, 3) := by decide +kernel
theorem dX12_isDone_180 : decode cX12_isDone 180 = .ok (.aload_n 0, 1) := by decide +kernel
theorem dX12_isDone_181 : decode cX12_isDone 181 = .ok (.aload_n 0, 1) := by decide +kernel
theorem dX12_isDone_182 : decode cX12_isDone 182 = .ok (.getfield 45, 3) := by decide +kernel
theorem dX12_isDone_185 : decode cX12_isDone 185 = .ok (.invokevirtual 176, 3) := by decide +kernel
theorem dX12_isDone_188 : decode cX12_isDone 188 = .ok (.ifCond .eq 21, 3) := by decide +kernel
theorem dX12_isDone_191 : decode cX12_isDone 191 = .ok (.aload_n 0, 1) := by decide +kernel
theorem dX12_isDone_192 : decode cX12_isDone 192 = .ok (.getfield 69, 3) := by decide +kernel
theorem dX12_isDone_195 : decode cX12_isDone 195 = .ok (.aload_n 0, 1) := by decide +kernel
theorem dX12_isDone_196 : decode cX12_isDone 196 = .ok (.invokevirtual 354, 3) := by decide +kernel
theorem dX12_isDone_199 : decode cX12_isDone 199 = .ok (.bipush 15, 2) := by decide +kernel
theorem dX12_isDone_201 : decode cX12_isDone 201 = .ok (.invokestatic 237, 3) := by decide +kernel
theorem dX12_isDone_204 : decode cX12_isDone 204 = .ok (.iconst 1, 1) := by decide +kernel
theorem dX12_isDone_205 : decode cX12_isDone 205 = .ok (.iastore, 1) := by decide +kernel
theorem dX12_isDone_206 : decode cX12_isDone 206 = .ok (.goto 41, 3) := by decide +kernel
theorem dX12_isDone_209 : decode cX12_isDone 209 = .ok (.aload_n 0, 1) := by decide +kernel
theorem dX12_isDone_210 : decode cX12_isDone 210 = .ok (.aload_n 0, 1) := by decide +kernel
theorem dX12_isDone_211 : decode cX12_isDone 211 = .ok (.getfield 48, 3) := by decide +kernel
theorem dX12_isDone_214 : decode cX12_isDone 214 = .ok (.invokevirtual 176, 3) := by decide +kernel
theorem dX12_isDone_217 : decode cX12_isDone 217 = .ok (.ifCond .eq 30, 3) := by decide +kernel
theorem dX12_isDone_220 : decode cX12_isDone 220 = .ok (.aload_n 0, 1) := by decide +kernel
theorem dX12_isDone_221 : decode cX12_isDone 221 = .ok (.iconst 1, 1) := by decide +kernel
theorem dX12_isDone_222 : decode cX12_isDone 222 = .ok (.bipush 99, 2) := by decide +kernel
theorem dX12_isDone_224 : decode cX12_isDone 224 = .ok (.invokevirtual 338, 3) := by decide +kernel
theorem dX12_isDone_227 : decode cX12_isDone 227 = .ok (.istore_n 1, 1) := by decide +kernel
theorem dX12_isDone_228 : decode cX12_isDone 228 = .ok (.aload_n 0, 1) := by decide +kernel
theorem dX12_isDone_229 : decode cX12_isDone 229 = .ok (.getfield 69, 3) := by decide +kernel
theorem dX12_isDone_232 : decode cX12_isDone 232 = .ok (.iconst 0, 1) := by decide +kernel
theorem dX12_isDone_233 : decode cX12_isDone 233 = .ok (.iaload, 1) := by decide +kernel
theorem dX12_isDone_234 : decode cX12_isDone 234 = .ok (.iload_n 1, 1) := by decide +kernel
theorem dX12_isDone_235 : decode cX12_isDone 235 = .ok (.iadd, 1) := by decide +kernel
theorem dX12_isDone_236 : decode cX12_isDone 236 = .ok (.sipush 999, 3) := by decide +kernel
theorem dX12_isDone_239 : decode cX12_isDone 239 = .ok (.if_icmp .gt 8, 3) := by decide +kernel
theorem dX12_isDone_242 : decode cX12_isDone 242 = .ok (.aload_n 0, 1) := by decide +kernel
theorem dX12_isDone_243 : decode cX12_isDone 243 = .ok (.iload_n 1, 1) := by decide +kernel
theorem dX12_isDone_244 : decode cX12_isDone 244 = .ok (.invokevirtual 419, 3) := by decide +kernel
theorem dX12_isDone_247 : decode cX12_isDone 247 = .ok (.return_, 1) := by decide +kernel
theorem dX12_canMark_0 : decode cX12_canMark 0 = .ok (.aload_n 0, 1) := by decide +kernel
theorem dX12_canMark_1 : decode cX12_canMark 1 = .ok (.iload_n 1, 1) := by decide +kernel
theorem dX12_canMark_2 : decode cX12_canMark 2 = .ok (.iconst 2, 1) := by decide +kernel
theorem dX12_canMark_3 : decode cX12_canMark 3 = .ok (.invokevirtual 246, 3) := by decide +kernel
theorem dX12_canMark_6 : decode cX12_canMark 6 = .ok (.iconst 4, 1) := by decide +kernel
theorem dX12_canMark_7 : decode cX12_canMark 7 = .ok (.if_icmp .ge 27, 3) := by decide +kernel
theorem dX12_canMark_10 : decode cX12_canMark 10 = .ok (.iload_n 2, 1) := by decide +kernel
theorem dX12_canMark_11 : decode cX12_canMark 11 = .ok (.ifCond .lt 23, 3) := by decide +kernel
theorem dX12_canMark_14 : decode cX12_canMark 14 = .ok (.iload_n 2, 1) := by decide +kernel
theorem dX12_canMark_15 : decode cX12_canMark 15 = .ok (.iload_n 3, 1) := by decide +kernel
theorem dX12_canMark_16 : decode cX12_canMark 16 = .ok (.if_icmp .gt 18, 3) := by decide +kernel
theorem dX12_canMark_19 : decode cX12_canMark 19 = .ok (.iload_n 3, 1) := by decide +kernel
theorem dX12_canMark_20 : decode cX12_canMark 20 = .ok (.aload_n 0, 1) := by decide +kernel
theorem dX12_canMark_21 : decode cX12_canMark 21 = .ok (.iload_n 1, 1) := by decide +kernel
theorem dX12_canMark_22 : decode cX12_canMark 22 = .ok (.bipush 21, 2) := by decide +kernel
theorem dX12_canMark_24 : decode cX12_canMark 24 = .ok (.invokevirtual 246, 3) := by decide +kernel
theorem dX12_canMark_27 : decode cX12_canMark 27 = .ok (.if_icmp .gt 7, 3) := by decide +kernel
theorem dX12_canMark_30 : decode cX12_canMark 30 = .ok (.iconst 1, 1) := by decide +kernel
theorem dX12_canMark_31 : decode cX12_canMark 31 = .ok (.goto 4, 3) := by decide +kernel
theorem dX12_canMark_34 : decode cX12_canMark 34 = .ok (.iconst 0, 1) := by decide +kernel
theorem dX12_canMark_35 : decode cX12_canMark 35 = .ok (.ireturn, 1) := by decide +kernel
theorem dX12_marked_0 : decode cX12_marked 0 = .ok (.iload_n 1, 1) := by decide +kernel
theorem dX12_marked_1 : decode cX12_marked 1 = .ok (.iconst 3, 1) := by decide +kernel
theorem dX12_marked_2 : decode cX12_marked 2 = .ok (.iconst 3, 1) := by decide +kernel
theorem dX12_marked_3 : decode cX12_marked 3 = .ok (.aload_n 0, 1) := by decide +kernel
theorem dX12_marked_4 : decode cX12_marked 4 = .ok (.iload_n 1, 1) := by decide +kernel
theorem dX12_marked_5 : decode cX12_marked 5 = .ok (.iconst 2, 1) := by decide +kernel
theorem dX12_marked_6 : decode cX12_marked 6 = .ok (.invokevirtual 246, 3) := by decide +kernel
theorem dX12_marked_9 : decode cX12_marked 9 = .ok (.imul, 1) := by decide +kernel
theorem dX12_marked_10 : decode cX12_marked 10 = .ok (.iadd, 1) := by decide +kernel
theorem dX12_marked_11 : decode cX12_marked 11 = .ok (.invokestatic 237, 3) := by decide +kernel
theorem dX12_marked_14 : decode cX12_marked 14 = .ok (.istore 5, 2) := by decide +kernel
theorem dX12_marked_16 : decode cX12_marked 16 = .ok (.aload_n 0, 1) := by decide +kernel
theorem dX12_marked_17 : decode cX12_marked 17 = .ok (.getfield 69, 3) := by decide +kernel
theorem dX12_marked_20 : decode cX12_marked 20 = .ok (.iload 5, 2) := by decide +kernel
theorem dX12_marked_22 : decode cX12_marked 22 = .ok (.iload_n 2, 1) := by decide +kernel
theorem dX12_marked_23 : decode cX12_marked 23 = .ok (.iastore, 1) := by decide +kernel
theorem dX12_marked_24 : decode cX12_marked 24 = .ok (.aload_n 0, 1) := by decide +kernel
theorem dX12_marked_25 : decode cX12_marked 25 = .ok (.getfield 69, 3) := by decide +kernel
theorem dX12_marked_28 : decode cX12_marked 28 = .ok (.iload 5, 2) := by decide +kernel
theorem dX12_marked_30 : decode cX12_marked 30 = .ok (.iconst 1, 1) := by decide +kernel
theorem dX12_marked_31 : decode cX12_marked 31 = .ok (.iadd, 1) := by decide +kernel
theorem dX12_marked_32 : decode cX12_marked 32 = .ok (.iload_n 3, 1) := by decide +kernel
theorem dX12_marked_33 : decode cX12_marked 33 = .ok (.iastore, 1) := by decide +kernel
theorem dX12_marked_34 : decode cX12_marked 34 = .ok (.aload_n 0, 1) := by decide +kernel
theorem dX12_marked_35 : decode cX12_marked 35 = .ok (.getfield 69, 3) := by decide +kernel
theorem dX12_marked_38 : decode cX12_marked 38 = .ok (.iload 5, 2) := by decide +kernel
theorem dX12_marked_40 : decode cX12_marked 40 = .ok (.iconst 2, 1) := by decide +kernel
theorem dX12_marked_41 : decode cX12_marked 41 = .ok (.iadd, 1) := by decide +kernel
theorem dX12_marked_42 : decode cX12_marked 42 = .ok (.iload 4, 2) := by decide +kernel
theorem dX12_marked_44 : decode cX12_marked 44 = .ok (.iastore, 1) := by decide +kernel
theorem dX12_marked_45 : decode cX12_marked 45 = .ok (.aload_n 0, 1) := by decide +kernel
theorem dX12_marked_46 : decode cX12_marked 46 = .ok (.getfield 69, 3) := by decide +kernel
theorem dX12_marked_49 : decode cX12_marked 49 = .ok (.iload_n 1, 1) := by decide +kernel
theorem dX12_marked_50 : decode cX12_marked 50 = .ok (.iconst 2, 1) := by decide +kernel
theorem dX12_marked_51 : decode cX12_marked 51 = .ok (.invokestatic 237, 3) := by decide +kernel
theorem dX12_marked_54 : decode cX12_marked 54 = .ok (.dup2, 1) := by decide +kernel
theorem dX12_marked_55 : decode cX12_marked 55 = .ok (.iaload, 1) := by decide +kernel
theorem dX12_marked_56 : decode cX12_marked 56 = .ok (.iconst 1, 1) := by decide +kernel
theorem dX12_marked_57 : decode cX12_marked 57 = .ok (.iadd, 1) := by decide +kernel
theorem dX12_marked_58 : decode cX12_marked 58 = .ok (.iastore, 1) := by decide +kernel
theorem dX12_marked_59 : decode cX12_marked 59 = .ok (.return_, 1) := by decide +kernel
theorem dX12_isOp_0 : decode cX12_isOp 0 = .ok (.aload_n 0, 1) := by decide +kernel
theorem dX12_isOp_1 : decode cX12_isOp 1 = .ok (.iload_n 1, 1) := by decide +kernel
theorem dX12_isOp_2 : decode cX12_isOp 2 = .ok (.bipush 21, 2) := by decide +kernel
theorem dX12_isOp_4 : decode cX12_isOp 4 = .ok (.invokevirtual 246, 3) := by decide +kernel
theorem dX12_isOp_7 : decode cX12_isOp 7 = .ok (.istore_n 2, 1) := by decide +kernel
theorem dX12_isOp_8 : decode cX12_isOp 8 = .ok (.aload_n 0, 1) := by decide +kernel
theorem dX12_isOp_9 : decode cX12_isOp 9 = .ok (.iconst 0, 1) := by decide +kernel
theorem dX12_isOp_10 : decode cX12_isOp 10 = .ok (.putfield 195, 3) := by decide +kernel
theorem dX12_isOp_13 : decode cX12_isOp 13 = .ok (.iconst 1, 1) := by decide +kernel
theorem dX12_isOp_14 : decode cX12_isOp 14 = .ok (.istore_n 3, 1) := by decide +kernel
theorem dX12_isOp_15 : decode cX12_isOp 15 = .ok (.iload_n 3, 1) := by decide +kernel
theorem dX12_isOp_16 : decode cX12_isOp 16 = .ok (.ifCond .eq 140, 3) := by decide +kernel
theorem dX12_isOp_19 : decode cX12_isOp 19 = .ok (.aload_n 0, 1) := by decide +kernel
theorem dX12_isOp_20 : decode cX12_isOp 20 = .ok (.bipush 43, 2) := by decide +kernel
theorem dX12_isOp_22 : decode cX12_isOp 22 = .ok (.invokevirtual 183, 3) := by decide +kernel
theorem dX12_isOp_25 : decode cX12_isOp 25 = .ok (.ifCond .eq 49, 3) := by decide +kernel
theorem dX12_isOp_28 : decode cX12_isOp 28 = .ok (.aload_n 0, 1) := by decide +kernel
theorem dX12_isOp_29 : decode cX12_isOp 29 = .ok (.bipush 20, 2) := by decide +kernel
theorem dX12_isOp_31 : decode cX12_isOp 31 = .ok (.invokevirtual 341, 3) := by decide +kernel
theorem dX12_isOp_34 : decode cX12_isOp 34 = .ok (.istore 4, 2) := by decide +kernel
theorem dX12_isOp_36 : decode cX12_isOp 36 = .ok (.iload 4, 2) := by decide +kernel
theorem dX12_isOp_38 : decode cX12_isOp 38 = .ok (.istore 5, 2) := by decide +kernel
theorem dX12_isOp_40 : decode cX12_isOp 40 = .ok (.iload 5, 2) := by decide +kernel
theorem dX12_isOp_42 : decode cX12_isOp 42 = .ok (.aload_n 0, 1) := by decide +kernel
theorem dX12_isOp_43 : decode cX12_isOp 43 = .ok (.getfield 159, 3) := by decide +kernel
theorem dX12_isOp_46 : decode cX12_isOp 46 = .ok (.if_icmp .ge 25, 3) := by decide +kernel
theorem dX12_isOp_49 : decode cX12_isOp 49 = .ok (.aload_n 0, 1) := by decide +kernel
theorem dX12_isOp_50 : decode cX12_isOp 50 = .ok (.aload_n 0, 1) := by decide +kernel
theorem dX12_isOp_51 : decode cX12_isOp 51 = .ok (.getfield 7, 3) := by decide +kernel
theorem dX12_isOp_54 : decode cX12_isOp 54 = .ok (.iload 5, 2) := by decide +kernel
theorem dX12_isOp_56 : decode cX12_isOp 56 = .ok (.iaload, 1) := by decide +kernel
theorem dX12_isOp_57 : decode cX12_isOp 57 = .ok (.bipush 97, 2) := by decide +kernel
theorem dX12_isOp_59 : decode cX12_isOp 59 = .ok (.isub, 1) := by decide +kernel
theorem dX12_isOp_60 : decode cX12_isOp 60 = .ok (.iconst 1, 1) := by decide +kernel
theorem dX12_isOp_61 : decode cX12_isOp 61 = .ok (.iadd, 1) := by decide +kernel
theorem dX12_isOp_62 : decode cX12_isOp 62 = .ok (.invokevirtual 422, 3) := by decide +kernel
theorem dX12_isOp_65 : decode cX12_isOp 65 = .ok (.iinc 5 1, 3) := by decide +kernel
theorem dX12_isOp_68 : decode cX12_isOp 68 = .ok (.goto (-28), 3) := by decide +kernel
theorem dX12_isOp_71 : decode cX12_isOp 71 = .ok (.goto 59, 3) := by decide +kernel
theorem dX12_isOp_74 : decode cX12_isOp 74 = .ok (.aload_n 0, 1) := by decide +kernel
theorem dX12_isOp_75 : decode cX12_isOp 75 = .ok (.bipush 45, 2) := by decide +kernel
theorem dX12_isOp_77 : decode cX12_isOp 77 = .ok (.invokevirtual 183, 3) := by decide +kernel
theorem dX12_isOp_80 : decode cX12_isOp 80 = .ok (.ifCond .eq 7, 3) := by decide +kernel
theorem dX12_isOp_83 : decode cX12_isOp 83 = .ok (.iconst (-1), 1) := by decide +kernel
theorem dX12_isOp_84 : decode cX12_isOp 84 = .ok (.goto 4, 3) := by decide +kernel
theorem dX12_isOp_87 : decode cX12_isOp 87 = .ok (.iconst 0, 1) := by decide +kernel
theorem dX12_isOp_88 : decode cX12_isOp 88 = .ok (.istore 4, 2) := by decide +kernel
theorem dX12_isOp_90 : decode cX12_isOp 90 = .ok (.aload_n 0, 1) := by decide +kernel
theorem dX12_isOp_91 : decode cX12_isOp 91 = .ok (.iconst 1, 1) := by decide +kernel
theorem dX12_isOp_92 : decode cX12_isOp 92 = .ok (.bipush 99, 2) := by decide +kernel
theorem dX12_isOp_94 : decode cX12_isOp 94 = .ok (.invokevirtual 338, 3) := by decide +kernel
theorem dX12_isOp_97 : decode cX12_isOp 97 = .ok (.istore 5, 2) := by decide +kernel
theorem dX12_isOp_99 : decode cX12_isOp 99 = .ok (.iload_n 2, 1) := by decide +kernel
theorem dX12_isOp_100 : decode cX12_isOp 100 = .ok (.iload 5, 2) := by decide +kernel
theorem dX12_isOp_102 : decode cX12_isOp 102 = .ok (.isub, 1) := by decide +kernel
theorem dX12_isOp_103 : decode cX12_isOp 103 = .ok (.istore_n 2, 1) := by decide +kernel
theorem dX12_isOp_104 : decode cX12_isOp 104 = .ok (.iconst 0, 1) := by decide +kernel
theorem dX12_isOp_105 : decode cX12_isOp 105 = .ok (.istore 6, 2) := by decide +kernel
theorem dX12_isOp_107 : decode cX12_isOp 107 = .ok (.iload 6, 2) := by decide +kernel
theorem dX12_isOp_109 : decode cX12_isOp 109 = .ok (.iload 5, 2) := by decide +kernel
theorem dX12_isOp_111 : decode cX12_isOp 111 = .ok (.if_icmp .ge 19, 3) := by decide +kernel
theorem dX12_isOp_114 : decode cX12_isOp 114 = .ok (.iload_n 2, 1) := by decide +kernel
theorem dX12_isOp_115 : decode cX12_isOp 115 = .ok (.ifCond .lt 15, 3) := by decide +kernel
theorem dX12_isOp_118 : decode cX12_isOp 118 = .ok (.aload_n 0, 1) := by decide +kernel
theorem dX12_isOp_119 : decode cX12_isOp 119 = .ok (.iload 4, 2) := by decide +kernel
theorem dX12_isOp_121 : decode cX12_isOp 121 = .ok (.invokevirtual 422, 3) := by decide +kernel
theorem dX12_isOp_124 : decode cX12_isOp 124 = .ok (.iinc 6 1, 3) := by decide +kernel
theorem dX12_isOp_127 : decode cX12_isOp 127 = .ok (.goto (-20), 3) := by decide +kernel
theorem dX12_isOp_130 : decode cX12_isOp 130 = .ok (.aload_n 0, 1) := by decide +kernel
theorem dX12_isOp_131 : decode cX12_isOp 131 = .ok (.invokevirtual 165, 3) := by decide +kernel
theorem dX12_isOp_134 : decode cX12_isOp 134 = .ok (.iconst (-1), 1) := by decide +kernel
theorem dX12_isOp_135 : decode cX12_isOp 135 = .ok (.if_icmp .eq 16, 3) := by decide +kernel
theorem dX12_isOp_138 : decode cX12_isOp 138 = .ok (.aload_n 0, 1) := by decide +kernel
theorem dX12_isOp_139 : decode cX12_isOp 139 = .ok (.invokevirtual 165, 3) := by decide +kernel
theorem dX12_isOp_142 : decode cX12_isOp 142 = .ok (.bipush 59, 2) := by decide +kernel
theorem dX12_isOp_144 : decode cX12_isOp 144 = .ok (.if_icmp .eq 7, 3) := by decide +kernel
theorem dX12_isOp_147 : decode cX12_isOp 147 = .ok (.iconst 1, 1) := by decide +kernel
theorem dX12_isOp_148 : decode cX12_isOp 148 = .ok (.goto 4, 3) := by decide +kernel
theorem dX12_isOp_151 : decode cX12_isOp 151 = .ok (.iconst 0, 1) := by decide +kernel
theorem dX12_isOp_152 : decode cX12_isOp 152 = .ok (.istore_n 3, 1) := by decide +kernel
theorem dX12_isOp_153 : decode cX12_isOp 153 = .ok (.goto (-138), 3) := by decide +kernel
theorem dX12_isOp_156 : decode cX12_isOp 156 = .ok (.iload_n 2, 1) := by decide +kernel
theorem dX12_isOp_157 : decode cX12_isOp 157 = .ok (.ifCond .ge 5, 3) := by decide +kernel
theorem dX12_isOp_160 : decode cX12_isOp 160 = .ok (.iconst 0, 1) := by decide +kernel
theorem dX12_isOp_161 : decode cX12_isOp 161 = .ok (.ireturn, 1) := by decide +kernel
theorem dX12_isOp_162 : decode cX12_isOp 162 = .ok (.iload_n 2, 1) := by decide +kernel
theorem dX12_isOp_163 : decode cX12_isOp 163 = .ok (.ifCond .le 14, 3) := by decide +kernel
theorem dX12_isOp_166 : decode cX12_isOp 166 = .ok (.aload_n 0, 1) := by decide +kernel
theorem dX12_isOp_167 : decode cX12_isOp 167 = .ok (.iconst 0, 1) := by decide +kernel
theorem dX12_isOp_168 : decode cX12_isOp 168 = .ok (.invokevirtual 422, 3) := by decide +kernel
theorem dX12_isOp_171 : decode cX12_isOp 171 = .ok (.iinc 2 (-1), 3) := by decide +kernel
theorem dX12_isOp_174 : decode cX12_isOp 174 = .ok (.goto (-12), 3) := by decide +kernel
theorem dX12_isOp_177 : decode cX12_isOp 177 = .ok (.aload_n 0, 1) := by decide +kernel
theorem dX12_isOp_178 : decode cX12_isOp 178 = .ok (.aload_n 0, 1) := by decide +kernel
theorem dX12_isOp_179 : decode cX12_isOp 179 = .ok (.getfield 51, 3) := by decide +kernel
theorem dX12_isOp_182 : decode cX12_isOp 182 = .ok (.aload_n 0, 1) := by decide +kernel
theorem dX12_isOp_183 : decode cX12_isOp 183 = .ok (.getfield 195, 3) := by decide +kernel
theorem dX12_isOp_186 : decode cX12_isOp 186 = .ok (.invokevirtual 207, 3) := by decide +kernel
theorem dX12_isOp_189 : decode cX12_isOp 189 = .ok (.iconst 1, 1) := by decide +kernel
theorem dX12_isOp_190 : decode cX12_isOp 190 = .ok (.ireturn, 1) := by decide +kernel
theorem dX12_givesA_0 : decode cX12_givesA 0 = .ok (.aload_n 0, 1) := by decide +kernel
theorem dX12_givesA_1 : decode cX12_givesA 1 = .ok (.getfield 195, 3) := by decide +kernel
theorem dX12_givesA_4 : decode cX12_givesA 4 = .ok (.sipush 700, 3) := by decide +kernel
theorem dX12_givesA_7 : decode cX12_givesA 7 = .ok (.if_icmp .ne 4, 3) := by decide +kernel
theorem dX12_givesA_10 : decode cX12_givesA 10 = .ok (.return_, 1) := by decide +kernel
theorem dX12_givesA_11 : decode cX12_givesA 11 = .ok (.aload_n 0, 1) := by decide +kernel
theorem dX12_givesA_12 : decode cX12_givesA 12 = .ok (.getfield 51, 3) := by decide +kernel
theorem dX12_givesA_15 : decode cX12_givesA 15 = .ok (.aload_n 0, 1) := by decide +kernel
theorem dX12_givesA_16 : decode cX12_givesA 16 = .ok (.getfield 195, 3) := by decide +kernel
theorem dX12_givesA_19 : decode cX12_givesA 19 = .ok (.iload_n 1, 1) := by decide +kernel
theorem dX12_givesA_20 : decode cX12_givesA 20 = .ok (.iastore, 1) := by decide +kernel
theorem dX12_givesA_21 : decode cX12_givesA 21 = .ok (.aload_n 0, 1) := by decide +kernel
theorem dX12_givesA_22 : decode cX12_givesA 22 = .ok (.dup, 1) := by decide +kernel
theorem dX12_givesA_23 : decode cX12_givesA 23 = .ok (.getfield 195, 3) := by decide +kernel
theorem dX12_givesA_26 : decode cX12_givesA 26 = .ok (.iconst 1, 1) := by decide +kernel
theorem dX12_givesA_27 : decode cX12_givesA 27 = .ok (.iadd, 1) := by decide +kernel
theorem dX12_givesA_28 : decode cX12_givesA 28 = .ok (.putfield 195, 3) := by decide +kernel
theorem dX12_givesA_31 : decode cX12_givesA 31 = .ok (.return_, 1) := by decide +kernel
theorem dX12_has_0 : decode cX12_has 0 = .ok (.iload_n 1, 1) := by decide +kernel
theorem dX12_has_1 : decode cX12_has 1 = .ok (.tableswitch 176 0 10 #[59, 75, 82, 104, 111, 118, 125, 141, 146, 151, 171], 59) := by decide +kernel
theorem dX12_has_60 : decode cX12_has 60 = .ok (.aload_n 0, 1) := by decide +kernel
theorem dX12_has_61 : decode cX12_has 61 = .ok (.getfield 211, 3) := by decide +kernel
theorem dX12_has_64 : decode cX12_has 64 = .ok (.ifCond .eq 10, 3) := by decide +kernel
theorem dX12_has_67 : decode cX12_has 67 = .ok (.aload_n 0, 1) := by decide +kernel
theorem dX12_has_68 : decode cX12_has 68 = .ok (.getfield 215, 3) := by decide +kernel
theorem dX12_has_71 : decode cX12_has 71 = .ok (.goto 4, 3) := by decide +kernel
theorem dX12_has_74 : decode cX12_has 74 = .ok (.iconst 0, 1) := by decide +kernel
theorem dX12_has_75 : decode cX12_has 75 = .ok (.ireturn, 1) := by decide +kernel
theorem dX12_has_76 : decode cX12_has 76 = .ok (.aload_n 0, 1) := by decide +kernel
theorem dX12_has_77 : decode cX12_has 77 = .ok (.getfield 69, 3) := by decide +kernel
theorem dX12_has_80 : decode cX12_has 80 = .ok (.iconst 1, 1) := by decide +kernel
theorem dX12_has_81 : decode cX12_has 81 = .ok (.iaload, 1) := by decide +kernel
theorem dX12_has_82 : decode cX12_has 82 = .ok (.ireturn, 1) := by decide +kernel
theorem dX12_has_83 : decode cX12_has 83 = .ok (.aload_n 0, 1) := by decide +kernel
theorem dX12_has_84 : decode cX12_has 84 = .ok (.getfield 211, 3) := by decide +kernel
theorem dX12_has_87 : decode cX12_has 87 = .ok (.ifCond .eq 16, 3) := by decide +kernel
theorem dX12_has_90 : decode cX12_has 90 = .ok (.aload_n 0, 1) := by decide +kernel
theorem dX12_has_91 : decode cX12_has 91 = .ok (.aload_n 0, 1) := by decide +kernel
theorem dX12_has_92 : decode cX12_has 92 = .ok (.getfield 69, 3) := by decide +kernel
theorem dX12_has_95 : decode cX12_has 95 = .ok (.iconst 1, 1) := by decide +kernel
theorem dX12_has_96 : decode cX12_has 96 = .ok (.iaload, 1) := by decide +kernel
theorem dX12_has_97 : decode cX12_has 97 = .ok (.invokevirtual 425, 3) := by decide +kernel
theorem dX12_has_100 : decode cX12_has 100 = .ok (.goto 4, 3) := by decide +kernel
theorem dX12_has_103 : decode cX12_has 103 = .ok (.iconst 0, 1) := by decide +kernel
theorem dX12_has_104 : decode cX12_has 104 = .ok (.ireturn, 1) := by decide +kernel
theorem dX12_has_105 : decode cX12_has 105 = .ok (.aload_n 0, 1) := by decide +kernel
theorem dX12_has_106 : decode cX12_has 106 = .ok (.getfield 69, 3) := by decide +kernel
theorem dX12_has_109 : decode cX12_has 109 = .ok (.iconst 0, 1) := by decide +kernel
theorem dX12_has_110 : decode cX12_has 110 = .ok (.iaload, 1) := by decide +kernel
theorem dX12_has_111 : decode cX12_has 111 = .ok (.ireturn, 1) := by decide +kernel
theorem dX12_has_112 : decode cX12_has 112 = .ok (.aload_n 0, 1) := by decide +kernel
theorem dX12_has_113 : decode cX12_has 113 = .ok (.getfield 69, 3) := by decide +kernel
theorem dX12_has_116 : decode cX12_has 116 = .ok (.iconst 2, 1) := by decide +kernel
theorem dX12_has_117 : decode cX12_has 117 = .ok (.iaload, 1) := by decide +kernel
theorem dX12_has_118 : decode cX12_has 118 = .ok (.ireturn, 1) := by decide +kernel
theorem dX12_has_119 : decode cX12_has 119 = .ok (.aload_n 0, 1) := by decide +kernel
theorem dX12_has_120 : decode cX12_has 120 = .ok (.getfield 69, 3) := by decide +kernel
theorem dX12_has_123 : decode cX12_has 123 = .ok (.iconst 3, 1) := by decide +kernel
theorem dX12_has_124 : decode cX12_has 124 = .ok (.iaload, 1) := by decide +kernel
theorem dX12_has_125 : decode cX12_has 125 = .ok (.ireturn, 1) := by decide +kernel
theorem dX12_has_126 : decode cX12_has 126 = .ok (.aload_n 0, 1) := by decide +kernel
theorem dX12_has_127 : decode cX12_has 127 = .ok (.getfield 211, 3) := by decide +kernel
theorem dX12_has_130 : decode cX12_has 130 = .ok (.ifCond .eq 10, 3) := by decide +kernel
theorem dX12_has_133 : decode cX12_has 133 = .ok (.aload_n 0, 1) := by decide +kernel
theorem dX12_has_134 : decode cX12_has 134 = .ok (.invokevirtual 428, 3) := by decide +kernel
theorem dX12_has_137 : decode cX12_has 137 = .ok (.goto 4, 3) := by decide +kernel
theorem dX12_has_140 : decode cX12_has 140 = .ok (.iconst 0, 1) := by decide +kernel
theorem dX12_has_141 : decode cX12_has 141 = .ok (.ireturn, 1) := by decide +kernel
theorem dX12_has_142 : decode cX12_has 142 = .ok (.aload_n 0, 1) := by decide +kernel
theorem dX12_has_143 : decode cX12_has 143 = .ok (.getfield 393, 3) := by decide +kernel
theorem dX12_has_146 : decode cX12_has 146 = .ok (.ireturn, 1) := by decide +kernel
theorem dX12_has_147 : decode cX12_has 147 = .ok (.aload_n 0, 1) := by decide +kernel
theorem dX12_has_148 : decode cX12_has 148 = .ok (.getfield 390, 3) := by decide +kernel
theorem dX12_has_151 : decode cX12_has 151 = .ok (.ireturn, 1) := by decide +kernel
theorem dX12_has_152 : decode cX12_has 152 = .ok (.aload_n 0, 1) := by decide +kernel
theorem dX12_has_153 : decode cX12_has 153 = .ok (.getfield 211, 3) := by decide +kernel
theorem dX12_has_156 : decode cX12_has 156 = .ok (.ifCond .eq 10, 3) := by decide +kernel
theorem dX12_has_159 : decode cX12_has 159 = .ok (.aload_n 0, 1) := by decide +kernel
theorem dX12_has_160 : decode cX12_has 160 = .ok (.invokevirtual 428, 3) := by decide +kernel
theorem dX12_has_163 : decode cX12_has 163 = .ok (.ifCond .ne 7, 3) := by decide +kernel
theorem dX12_has_166 : decode cX12_has 166 = .ok (.iconst 1, 1) := by decide +kernel
theorem dX12_has_167 : decode cX12_has 167 = .ok (.goto 4, 3) := by decide +kernel
theorem dX12_has_170 : decode cX12_has 170 = .ok (.iconst 0, 1) := by decide +kernel
theorem dX12_has_171 : decode cX12_has 171 = .ok (.ireturn, 1) := by decide +kernel
theorem dX12_has_172 : decode cX12_has 172 = .ok (.aload_n 0, 1) := by decide +kernel
theorem dX12_has_173 : decode cX12_has 173 = .ok (.getfield 230, 3) := by decide +kernel
theorem dX12_has_176 : decode cX12_has 176 = .ok (.ireturn, 1) := by decide +kernel
theorem dX12_has_177 : decode cX12_has 177 = .ok (.iconst (-1), 1) := by decide +kernel
theorem dX12_has_178 : decode cX12_has 178 = .ok (.ireturn, 1) := by decide +kernel
theorem dX12_editor_0 : decode cX12_editor 0 = .ok (.aload_n 0, 1) := by decide +kernel
theorem dX12_editor_1 : decode cX12_editor 1 = .ok (.iload_n 1, 1) := by decide +kernel
theorem dX12_editor_2 : decode cX12_editor 2 = .ok (.invokevirtual 431, 3) := by decide +kernel
theorem dX12_editor_5 : decode cX12_editor 5 = .ok (.ifCond .ne 5, 3) := by decide +kernel
theorem dX12_editor_8 : decode cX12_editor 8 = .ok (.iconst (-1), 1) := by decide +kernel
theorem dX12_editor_9 : decode cX12_editor 9 = .ok (.ireturn, 1) := by decide +kernel
theorem dX12_editor_10 : decode cX12_editor 10 = .ok (.iload_n 2, 1) := by decide +kernel
theorem dX12_editor_11 : decode cX12_editor 11 = .ok (.tableswitch 160 0 11 #[61, 69, 76, 83, 91, 99, 106, 114, 122, 130, 138, 152], 61) := by decide +kernel
theorem dX12_editor_72 : decode cX12_editor 72 = .ok (.aload_n 0, 1) := by decide +kernel
theorem dX12_editor_73 : decode cX12_editor 73 = .ok (.iload_n 1, 1) := by decide +kernel
theorem dX12_editor_74 : decode cX12_editor 74 = .ok (.bipush 21, 2) := by decide +kernel
theorem dX12_editor_76 : decode cX12_editor 76 = .ok (.invokevirtual 246, 3) := by decide +kernel
theorem dX12_editor_79 : decode cX12_editor 79 = .ok (.ireturn, 1) := by decide +kernel
theorem dX12_editor_80 : decode cX12_editor 80 = .ok (.aload_n 0, 1) := by decide +kernel
theorem dX12_editor_81 : decode cX12_editor 81 = .ok (.iload_n 1, 1) := by decide +kernel
theorem dX12_editor_82 : decode cX12_editor 82 = .ok (.iconst 0, 1) := by decide +kernel
theorem dX12_editor_83 : decode cX12_editor 83 = .ok (.invokevirtual 246, 3) := by decide +kernel
theorem dX12_editor_86 : decode cX12_editor 86 = .ok (.ireturn, 1) := by decide +kernel
theorem dX12_editor_87 : decode cX12_editor 87 = .ok (.aload_n 0, 1) := by decide +kernel
theorem dX12_editor_88 : decode cX12_editor 88 = .ok (.iload_n 1, 1) := by decide +kernel
theorem dX12_editor_89 : decode cX12_editor 89 = .ok (.iconst 1, 1) := by decide +kernel
theorem dX12_editor_90 : decode cX12_editor 90 = .ok (.invokevirtual 246, 3) := by decide +kernel
theorem dX12_editor_93 : decode cX12_editor 93 = .ok (.ireturn, 1) := by decide +kernel
theorem dX12_editor_94 : decode cX12_editor 94 = .ok (.aload_n 0, 1) := by decide +kernel
theorem dX12_editor_95 : decode cX12_editor 95 = .ok (.iload_n 1, 1) := by decide +kernel
theorem dX12_editor_96 : decode cX12_editor 96 = .ok (.bipush 17, 2) := by decide +kernel
theorem dX12_editor_98 : decode cX12_editor 98 = .ok (.invokevirtual 246, 3) := by decide +kernel
theorem dX12_editor_101 : decode cX12_editor 101 = .ok (.ireturn, 1) := by decide +kernel
theorem dX12_editor_102 : decode cX12_editor 102 = .ok (.aload_n 0, 1) := by decide +kernel
theorem dX12_editor_103 : decode cX12_editor 103 = .ok (.iload_n 1, 1) := by decide +kernel
theorem dX12_editor_104 : decode cX12_editor 104 = .ok (.bipush 18, 2) := by decide +kernel
theorem dX12_editor_106 : decode cX12_editor 106 = .ok (.invokevirtual 246, 3) := by decide +kernel
theorem dX12_editor_109 : decode cX12_editor 109 = .ok (.ireturn, 1) := by decide +kernel
theorem dX12_editor_110 : decode cX12_editor 110 = .ok (.aload_n 0, 1) := by decide +kernel
theorem dX12_editor_111 : decode cX12_editor 111 = .ok (.iload_n 1, 1) := by decide +kernel
theorem dX12_editor_112 : decode cX12_editor 112 = .ok (.iconst 2, 1) := by decide +kernel
theorem dX12_editor_113 : decode cX12_editor 113 = .ok (.invokevirtual 246, 3) := by decide +kernel
theorem dX12_editor_116 : decode cX12_editor 116 = .ok (.ireturn, 1) := by decide +kernel
theorem dX12_editor_117 : decode cX12_editor 117 = .ok (.aload_n 0, 1) := by decide +kernel
theorem dX12_editor_118 : decode cX12_editor 118 = .ok (.iload_n 1, 1) := by decide +kernel
theorem dX12_editor_119 : decode cX12_editor 119 = .ok (.bipush 22, 2) := by decide +kernel
theorem dX12_editor_121 : decode cX12_editor 121 = .ok (.invokevirtual 246, 3) := by decide +kernel
theorem dX12_editor_124 : decode cX12_editor 124 = .ok (.ireturn, 1) := by decide +kernel
theorem dX12_editor_125 : decode cX12_editor 125 = .ok (.aload_n 0, 1) := by decide +kernel
theorem dX12_editor_126 : decode cX12_editor 126 = .ok (.iload_n 1, 1) := by decide +kernel
theorem dX12_editor_127 : decode cX12_editor 127 = .ok (.bipush 23, 2) := by decide +kernel
theorem dX12_editor_129 : decode cX12_editor 129 = .ok (.invokevirtual 246, 3) := by decide +kernel
theorem dX12_editor_132 : decode cX12_editor 132 = .ok (.ireturn, 1) := by decide +kernel
theorem dX12_editor_133 : decode cX12_editor 133 = .ok (.aload_n 0, 1) := by decide +kernel
theorem dX12_editor_134 : decode cX12_editor 134 = .ok (.iload_n 1, 1) := by decide +kernel
theorem dX12_editor_135 : decode cX12_editor 135 = .ok (.bipush 15, 2) := by decide +kernel
theorem dX12_editor_137 : decode cX12_editor 137 = .ok (.invokevirtual 246, 3) := by decide +kernel
theorem dX12_editor_140 : decode cX12_editor 140 = .ok (.ireturn, 1) := by decide +kernel
theorem dX12_editor_141 : decode cX12_editor 141 = .ok (.aload_n 0, 1) := by decide +kernel
theorem dX12_editor_142 : decode cX12_editor 142 = .ok (.iload_n 1, 1) := by decide +kernel
theorem dX12_editor_143 : decode cX12_editor 143 = .ok (.bipush 16, 2) := by decide +kernel
theorem dX12_editor_145 : decode cX12_editor 145 = .ok (.invokevirtual 246, 3) := by decide +kernel
theorem dX12_editor_148 : decode cX12_editor 148 = .ok (.ireturn, 1) := by decide +kernel
theorem dX12_editor_149 : decode cX12_editor 149 = .ok (.aload_n 0, 1) := by decide +kernel
theorem dX12_editor_150 : decode cX12_editor 150 = .ok (.getfield 69, 3) := by decide +kernel
theorem dX12_editor_153 : decode cX12_editor 153 = .ok (.iconst 1, 1) := by decide +kernel
theorem dX12_editor_154 : decode cX12_editor 154 = .ok (.iaload, 1) := by decide +kernel
theorem dX12_editor_155 : decode cX12_editor 155 = .ok (.aload_n 0, 1) := by decide +kernel
theorem dX12_editor_156 : decode cX12_editor 156 = .ok (.iload_n 1, 1) := by decide +kernel
theorem dX12_editor_157 : decode cX12_editor 157 = .ok (.iconst 0, 1) := by decide +kernel
theorem dX12_editor_158 : decode cX12_editor 158 = .ok (.invokevirtual 246, 3) := by decide +kernel
theorem dX12_editor_161 : decode cX12_editor 161 = .ok (.isub, 1) := by decide +kernel
theorem dX12_editor_162 : decode cX12_editor 162 = .ok (.ireturn, 1) := by decide +kernel
theorem dX12_editor_163 : decode cX12_editor 163 = .ok (.aload_n 0, 1) := by decide +kernel
theorem dX12_editor_164 : decode cX12_editor 164 = .ok (.iload_n 1, 1) := by decide +kernel
theorem dX12_editor_165 : decode cX12_editor 165 = .ok (.bipush 19, 2) := by decide +kernel
theorem dX12_editor_167 : decode cX12_editor 167 = .ok (.invokevirtual 246, 3) := by decide +kernel
theorem dX12_editor_170 : decode cX12_editor 170 = .ok (.ireturn, 1) := by decide +kernel
theorem dX12_editor_171 : decode cX12_editor 171 = .ok (.iconst (-1), 1) := by decide +kernel
theorem dX12_editor_172 : decode cX12_editor 172 = .ok (.ireturn, 1) := by decide +kernel
theorem dX12_serverText_0 : decode cX12_serverText 0 = .ok (.aload_n 0, 1) := by decide +kernel
theorem dX12_serverText_1 : decode cX12_serverText 1 = .ok (.aload_n 0, 1) := by decide +kernel
theorem dX12_serverText_2 : decode cX12_serverText 2 = .ok (.getfield 384, 3) := by decide +kernel
theorem dX12_serverText_5 : decode cX12_serverText 5 = .ok (.putfield 434, 3) := by decide +kernel
theorem dX12_serverText_8 : decode cX12_serverText 8 = .ok (.iconst 0, 1) := by decide +kernel
theorem dX12_serverText_9 : decode cX12_serverText 9 = .ok (.istore_n 2, 1) := by decide +kernel
theorem dX12_serverText_10 : decode cX12_serverText 10 = .ok (.iload_n 2, 1) := by decide +kernel
theorem dX12_serverText_11 : decode cX12_serverText 11 = .ok (.aload_n 0, 1) := by decide +kernel
theorem dX12_serverText_12 : decode cX12_serverText 12 = .ok (.getfield 384, 3) := by decide +kernel
theorem dX12_serverText_15 : decode cX12_serverText 15 = .ok (.if_icmp .ge 28, 3) := by decide +kernel
theorem dX12_serverText_18 : decode cX12_serverText 18 = .ok (.aload_n 0, 1) := by decide +kernel
theorem dX12_serverText_19 : decode cX12_serverText 19 = .ok (.getfield 93, 3) := by decide +kernel
theorem dX12_serverText_22 : decode cX12_serverText 22 = .ok (.iload_n 2, 1) := by decide +kernel
theorem dX12_serverText_23 : decode cX12_serverText 23 = .ok (.aload_n 0, 1) := by decide +kernel
theorem dX12_serverText_24 : decode cX12_serverText 24 = .ok (.getfield 72, 3) := by decide +kernel
theorem dX12_serverText_27 : decode cX12_serverText 27 = .ok (.iload_n 2, 1) := by decide +kernel
theorem dX12_serverText_28 : decode cX12_serverText 28 = .ok (.iaload, 1) := by decide +kernel
theorem dX12_serverText_29 : decode cX12_serverText 29 = .ok (.iastore, 1) := by decide +kernel
theorem dX12_serverText_30 : decode cX12_serverText 30 = .ok (.aload_n 0, 1) := by decide +kernel
theorem dX12_serverText_31 : decode cX12_serverText 31 = .ok (.getfield 96, 3) := by decide +kernel
theorem dX12_serverText_34 : decode cX12_serverText 34 = .ok (.iload_n 2, 1) := by decide +kernel
theorem dX12_serverText_35 : decode cX12_serverText 35 = .ok (.iconst 0, 1) := by decide +kernel
theorem dX12_serverText_36 : decode cX12_serverText 36 = .ok (.iastore, 1) := by decide +kernel
theorem dX12_serverText_37 : decode cX12_serverText 37 = .ok (.iinc 2 1, 3) := by decide +kernel
theorem dX12_serverText_40 : decode cX12_serverText 40 = .ok (.goto (-30), 3) := by decide +kernel
theorem dX12_serverText_43 : decode cX12_serverText 43 = .ok (.iconst 0, 1) := by decide +kernel
theorem dX12_serverText_44 : decode cX12_serverText 44 = .ok (.istore_n 2, 1) := by decide +kernel
theorem dX12_serverText_45 : decode cX12_serverText 45 = .ok (.iload_n 2, 1) := by decide +kernel
theorem dX12_serverText_46 : decode cX12_serverText 46 = .ok (.iload_n 1, 1) := by decide +kernel
theorem dX12_serverText_47 : decode cX12_serverText 47 = .ok (.if_icmp .ge 25, 3) := by decide +kernel
theorem dX12_serverText_50 : decode cX12_serverText 50 = .ok (.aload_n 0, 1) := by decide +kernel
theorem dX12_serverText_51 : decode cX12_serverText 51 = .ok (.iload_n 2, 1) := by decide +kernel
theorem dX12_serverText_52 : decode cX12_serverText 52 = .ok (.invokevirtual 307, 3) := by decide +kernel
theorem dX12_serverText_55 : decode cX12_serverText 55 = .ok (.aload_n 0, 1) := by decide +kernel
theorem dX12_serverText_56 : decode cX12_serverText 56 = .ok (.aload_n 0, 1) := by decide +kernel
theorem dX12_serverText_57 : decode cX12_serverText 57 = .ok (.iload_n 2, 1) := by decide +kernel
theorem dX12_serverText_58 : decode cX12_serverText 58 = .ok (.iconst 1, 1) := by decide +kernel
theorem dX12_serverText_59 : decode cX12_serverText 59 = .ok (.iadd, 1) := by decide +kernel
theorem dX12_serverText_60 : decode cX12_serverText 60 = .ok (.invokevirtual 437, 3) := by decide +kernel
theorem dX12_serverText_63 : decode cX12_serverText 63 = .ok (.putfield 434, 3) := by decide +kernel
theorem dX12_serverText_66 : decode cX12_serverText 66 = .ok (.iinc 2 1, 3) := by decide +kernel
theorem dX12_serverText_69 : decode cX12_serverText 69 = .ok (.goto (-24), 3) := by decide +kernel
theorem dX12_serverText_72 : decode cX12_serverText 72 = .ok (.aload_n 0, 1) := by decide +kernel
theorem dX12_serverText_73 : decode cX12_serverText 73 = .ok (.getfield 434, 3) := by decide +kernel
theorem dX12_serverText_76 : decode cX12_serverText 76 = .ok (.ireturn, 1) := by decide +kernel
theorem dX12_changesBoth_0 : decode cX12_changesBoth 0 = .ok (.iconst 0, 1) := by decide +kernel
theorem dX12_changesBoth_1 : decode cX12_changesBoth 1 = .ok (.istore_n 2, 1) := by decide +kernel
theorem dX12_changesBoth_2 : decode cX12_changesBoth 2 = .ok (.iconst 0, 1) := by decide +kernel
theorem dX12_changesBoth_3 : decode cX12_changesBoth 3 = .ok (.istore_n 3, 1) := by decide +kernel
theorem dX12_changesBoth_4 : decode cX12_changesBoth 4 = .ok (.iconst 0, 1) := by decide +kernel
theorem dX12_changesBoth_5 : decode cX12_changesBoth 5 = .ok (.istore 4, 2) := by decide +kernel
theorem dX12_changesBoth_7 : decode cX12_changesBoth 7 = .ok (.iload 4, 2) := by decide +kernel
theorem dX12_changesBoth_9 : decode cX12_changesBoth 9 = .ok (.aload_n 0, 1) := by decide +kernel
theorem dX12_changesBoth_10 : decode cX12_changesBoth 10 = .ok (.getfield 198, 3) := by decide +kernel
theorem dX12_changesBoth_13 : decode cX12_changesBoth 13 = .ok (.if_icmp .ge 93, 3) := by decide +kernel
theorem dX12_changesBoth_16 : decode cX12_changesBoth 16 = .ok (.aload_n 0, 1) := by decide +kernel
theorem dX12_changesBoth_17 : decode cX12_changesBoth 17 = .ok (.getfield 54, 3) := by decide +kernel
theorem dX12_changesBoth_20 : decode cX12_changesBoth 20 = .ok (.iload 4, 2) := by decide +kernel
theorem dX12_changesBoth_22 : decode cX12_changesBoth 22 = .ok (.iaload, 1) := by decide +kernel
theorem dX12_changesBoth_23 : decode cX12_changesBoth 23 = .ok (.ifCond .lt 64, 3) := by decide +kernel
theorem dX12_changesBoth_26 : decode cX12_changesBoth 26 = .ok (.aload_n 0, 1) := by decide +kernel
theorem dX12_changesBoth_27 : decode cX12_changesBoth 27 = .ok (.getfield 99, 3) := by decide +kernel
theorem dX12_changesBoth_30 : decode cX12_changesBoth 30 = .ok (.iload_n 2, 1) := by decide +kernel
theorem dX12_changesBoth_31 : decode cX12_changesBoth 31 = .ok (.aload_n 0, 1) := by decide +kernel
theorem dX12_changesBoth_32 : decode cX12_changesBoth 32 = .ok (.getfield 54, 3) := by decide +kernel
theorem dX12_changesBoth_35 : decode cX12_changesBoth 35 = .ok (.iload 4, 2) := by decide +kernel
theorem dX12_changesBoth_37 : decode cX12_changesBoth 37 = .ok (.iaload, 1) := by decide +kernel
theorem dX12_changesBoth_38 : decode cX12_changesBoth 38 = .ok (.ifCond .ne 12, 3) := by decide +kernel
theorem dX12_changesBoth_41 : decode cX12_changesBoth 41 = .ok (.aload_n 0, 1) := by decide +kernel
theorem dX12_changesBoth_42 : decode cX12_changesBoth 42 = .ok (.getfield 93, 3) := by decide +kernel
theorem dX12_changesBoth_45 : decode cX12_changesBoth 45 = .ok (.iload_n 3, 1) := by decide +kernel
theorem dX12_changesBoth_46 : decode cX12_changesBoth 46 = .ok (.iaload, 1) := by decide +kernel
theorem dX12_changesBoth_47 : decode cX12_changesBoth 47 = .ok (.goto 10, 3) := by decide +kernel
theorem dX12_changesBoth_50 : decode cX12_changesBoth 50 = .ok (.aload_n 0, 1) := by decide +kernel
theorem dX12_changesBoth_51 : decode cX12_changesBoth 51 = .ok (.getfield 54, 3) := by decide +kernel
theorem dX12_changesBoth_54 : decode cX12_changesBoth 54 = .ok (.iload 4, 2) := by decide +kernel
theorem dX12_changesBoth_56 : decode cX12_changesBoth 56 = .ok (.iaload, 1) := by decide +kernel
theorem dX12_changesBoth_57 : decode cX12_changesBoth 57 = .ok (.iastore, 1) := by decide +kernel
theorem dX12_changesBoth_58 : decode cX12_changesBoth 58 = .ok (.aload_n 0, 1) := by decide +kernel
theorem dX12_changesBoth_59 : decode cX12_changesBoth 59 = .ok (.getfield 66, 3) := by decide +kernel
theorem dX12_changesBoth_62 : decode cX12_changesBoth 62 = .ok (.iload_n 2, 1) := by decide +kernel
theorem dX12_changesBoth_63 : decode cX12_changesBoth 63 = .ok (.aload_n 0, 1) := by decide +kernel
theorem dX12_changesBoth_64 : decode cX12_changesBoth 64 = .ok (.getfield 54, 3) := by decide +kernel
theorem dX12_changesBoth_67 : decode cX12_changesBoth 67 = .ok (.iload 4, 2) := by decide +kernel
theorem dX12_changesBoth_69 : decode cX12_changesBoth 69 = .ok (.iaload, 1) := by decide +kernel
theorem dX12_changesBoth_70 : decode cX12_changesBoth 70 = .ok (.ifCond .ne 12, 3) := by decide +kernel
theorem dX12_changesBoth_73 : decode cX12_changesBoth 73 = .ok (.aload_n 0, 1) := by decide +kernel
theorem dX12_changesBoth_74 : decode cX12_changesBoth 74 = .ok (.getfield 96, 3) := by decide +kernel
theorem dX12_changesBoth_77 : decode cX12_changesBoth 77 = .ok (.iload_n 3, 1) := by decide +kernel
theorem dX12_changesBoth_78 : decode cX12_changesBoth 78 = .ok (.iaload, 1) := by decide +kernel
theorem dX12_changesBoth_79 : decode cX12_changesBoth 79 = .ok (.goto 4, 3) := by decide +kernel
theorem dX12_changesBoth_82 : decode cX12_changesBoth 82 = .ok (.iload_n 1, 1) := by decide +kernel
theorem dX12_changesBoth_83 : decode cX12_changesBoth 83 = .ok (.iastore, 1) := by decide +kernel
theorem dX12_changesBoth_84 : decode cX12_changesBoth 84 = .ok (.iinc 2 1, 3) := by decide +kernel
theorem dX12_changesBoth_87 : decode cX12_changesBoth 87 = .ok (.aload_n 0, 1) := by decide +kernel
theorem dX12_changesBoth_88 : decode cX12_changesBoth 88 = .ok (.getfield 54, 3) := by decide +kernel
theorem dX12_changesBoth_91 : decode cX12_changesBoth 91 = .ok (.iload 4, 2) := by decide +kernel
theorem dX12_changesBoth_93 : decode cX12_changesBoth 93 = .ok (.iaload, 1) := by decide +kernel
theorem dX12_changesBoth_94 : decode cX12_changesBoth 94 = .ok (.ifCond .gt 6, 3) := by decide +kernel
theorem dX12_changesBoth_97 : decode cX12_changesBoth 97 = .ok (.iinc 3 1, 3) := by decide +kernel
theorem dX12_changesBoth_100 : decode cX12_changesBoth 100 = .ok (.iinc 4 1, 3) := by decide +kernel
theorem dX12_changesBoth_103 : decode cX12_changesBoth 103 = .ok (.goto (-96), 3) := by decide +kernel
theorem dX12_changesBoth_106 : decode cX12_changesBoth 106 = .ok (.iconst 0, 1) := by decide +kernel
theorem dX12_changesBoth_107 : decode cX12_changesBoth 107 = .ok (.istore 4, 2) := by decide +kernel
theorem dX12_changesBoth_109 : decode cX12_changesBoth 109 = .ok (.iload 4, 2) := by decide +kernel
theorem dX12_changesBoth_111 : decode cX12_changesBoth 111 = .ok (.iload_n 2, 1) := by decide +kernel
theorem dX12_changesBoth_112 : decode cX12_changesBoth 112 = .ok (.if_icmp .ge 37, 3) := by decide +kernel
theorem dX12_changesBoth_115 : decode cX12_changesBoth 115 = .ok (.aload_n 0, 1) := by decide +kernel
theorem dX12_changesBoth_116 : decode cX12_changesBoth 116 = .ok (.getfield 93, 3) := by decide +kernel
theorem dX12_changesBoth_119 : decode cX12_changesBoth 119 = .ok (.iload 4, 2) := by decide +kernel
theorem dX12_changesBoth_121 : decode cX12_changesBoth 121 = .ok (.aload_n 0, 1) := by decide +kernel
theorem dX12_changesBoth_122 : decode cX12_changesBoth 122 = .ok (.getfield 99, 3) := by decide +kernel
theorem dX12_changesBoth_125 : decode cX12_changesBoth 125 = .ok (.iload 4, 2) := by decide +kernel
theorem dX12_changesBoth_127 : decode cX12_changesBoth 127 = .ok (.iaload, 1) := by decide +kernel
theorem dX12_changesBoth_128 : decode cX12_changesBoth 128 = .ok (.iastore, 1) := by decide +kernel
theorem dX12_changesBoth_129 : decode cX12_changesBoth 129 = .ok (.aload_n 0, 1) := by decide +kernel
theorem dX12_changesBoth_130 : decode cX12_changesBoth 130 = .ok (.getfield 96, 3) := by decide +kernel
theorem dX12_changesBoth_133 : decode cX12_changesBoth 133 = .ok (.iload 4, 2) := by decide +kernel
theorem dX12_changesBoth_135 : decode cX12_changesBoth 135 = .ok (.aload_n 0, 1) := by decide +kernel
theorem dX12_changesBoth_136 : decode cX12_changesBoth 136 = .ok (.getfield 66, 3) := by decide +kernel
theorem dX12_changesBoth_139 : decode cX12_changesBoth 139 = .ok (.iload 4, 2) := by decide +kernel
theorem dX12_changesBoth_141 : decode cX12_changesBoth 141 = .ok (.iaload, 1) := by decide +kernel
theorem dX12_changesBoth_142 : decode cX12_changesBoth 142 = .ok (.iastore, 1) := by decide +kernel
theorem dX12_changesBoth_143 : decode cX12_changesBoth 143 = .ok (.iinc 4 1, 3) := by decide +kernel
theorem dX12_changesBoth_146 : decode cX12_changesBoth 146 = .ok (.goto (-37), 3) := by decide +kernel
theorem dX12_changesBoth_149 : decode cX12_changesBoth 149 = .ok (.iload_n 2, 1) := by decide +kernel
theorem dX12_changesBoth_150 : decode cX12_changesBoth 150 = .ok (.ireturn, 1) := by decide +kernel
theorem dX12_letter_0 : decode cX12_letter 0 = .ok (.aload_n 0, 1) := by decide +kernel
theorem dX12_letter_1 : decode cX12_letter 1 = .ok (.getfield 211, 3) := by decide +kernel
theorem dX12_letter_4 : decode cX12_letter 4 = .ok (.ifCond .ne 5, 3) := by decide +kernel
theorem dX12_letter_7 : decode cX12_letter 7 = .ok (.iconst (-1), 1) := by decide +kernel
theorem dX12_letter_8 : decode cX12_letter 8 = .ok (.ireturn, 1) := by decide +kernel
theorem dX12_letter_9 : decode cX12_letter 9 = .ok (.iload_n 1, 1) := by decide +kernel
theorem dX12_letter_10 : decode cX12_letter 10 = .ok (.iconst (-1), 1) := by decide +kernel
theorem dX12_letter_11 : decode cX12_letter 11 = .ok (.if_icmp .ne 23, 3) := by decide +kernel
theorem dX12_letter_14 : decode cX12_letter 14 = .ok (.iload_n 2, 1) := by decide +kernel
theorem dX12_letter_15 : decode cX12_letter 15 = .ok (.ifCond .ge 7, 3) := by decide +kernel
theorem dX12_letter_18 : decode cX12_letter 18 = .ok (.iconst (-1), 1) := by decide +kernel
theorem dX12_letter_19 : decode cX12_letter 19 = .ok (.goto 14, 3) := by decide +kernel
theorem dX12_letter_22 : decode cX12_letter 22 = .ok (.aload_n 0, 1) := by decide +kernel
theorem dX12_letter_23 : decode cX12_letter 23 = .ok (.aload_n 0, 1) := by decide +kernel
theorem dX12_letter_24 : decode cX12_letter 24 = .ok (.getfield 69, 3) := by decide +kernel
theorem dX12_letter_27 : decode cX12_letter 27 = .ok (.iconst 1, 1) := by decide +kernel
theorem dX12_letter_28 : decode cX12_letter 28 = .ok (.iaload, 1) := by decide +kernel
theorem dX12_letter_29 : decode cX12_letter 29 = .ok (.iload_n 2, 1) := by decide +kernel
theorem dX12_letter_30 : decode cX12_letter 30 = .ok (.invokevirtual 440, 3) := by decide +kernel
theorem dX12_letter_33 : decode cX12_letter 33 = .ok (.ireturn, 1) := by decide +kernel
theorem dX12_letter_34 : decode cX12_letter 34 = .ok (.aload_n 0, 1) := by decide +kernel
theorem dX12_letter_35 : decode cX12_letter 35 = .ok (.iload_n 1, 1) := by decide +kernel
theorem dX12_letter_36 : decode cX12_letter 36 = .ok (.invokevirtual 431, 3) := by decide +kernel
theorem dX12_letter_39 : decode cX12_letter 39 = .ok (.ifCond .eq 38, 3) := by decide +kernel
theorem dX12_letter_42 : decode cX12_letter 42 = .ok (.iload_n 2, 1) := by decide +kernel
theorem dX12_letter_43 : decode cX12_letter 43 = .ok (.i2l, 1) := by decide +kernel
theorem dX12_letter_44 : decode cX12_letter 44 = .ok (.lconst 0, 1) := by decide +kernel
theorem dX12_letter_45 : decode cX12_letter 45 = .ok (.aload_n 0, 1) := by decide +kernel
theorem dX12_letter_46 : decode cX12_letter 46 = .ok (.iload_n 1, 1) := by decide +kernel
theorem dX12_letter_47 : decode cX12_letter 47 = .ok (.bipush 21, 2) := by decide +kernel
theorem dX12_letter_49 : decode cX12_letter 49 = .ok (.invokevirtual 246, 3) := by decide +kernel
theorem dX12_letter_52 : decode cX12_letter 52 = .ok (.iconst 1, 1) := by decide +kernel
theorem dX12_letter_53 : decode cX12_letter 53 = .ok (.isub, 1) := by decide +kernel
theorem dX12_letter_54 : decode cX12_letter 54 = .ok (.i2l, 1) := by decide +kernel
theorem dX12_letter_55 : decode cX12_letter 55 = .ok (.invokestatic 139, 3) := by decide +kernel
theorem dX12_letter_58 : decode cX12_letter 58 = .ok (.ifCond .eq 19, 3) := by decide +kernel
theorem dX12_letter_61 : decode cX12_letter 61 = .ok (.aload_n 0, 1) := by decide +kernel
theorem dX12_letter_62 : decode cX12_letter 62 = .ok (.getfield 69, 3) := by decide +kernel
theorem dX12_letter_65 : decode cX12_letter 65 = .ok (.iload_n 1, 1) := by decide +kernel
theorem dX12_letter_66 : decode cX12_letter 66 = .ok (.bipush 24, 2) := by decide +kernel
theorem dX12_letter_68 : decode cX12_letter 68 = .ok (.iload_n 2, 1) := by decide +kernel
theorem dX12_letter_69 : decode cX12_letter 69 = .ok (.iadd, 1) := by decide +kernel
theorem dX12_letter_70 : decode cX12_letter 70 = .ok (.invokestatic 237, 3) := by decide +kernel
theorem dX12_letter_73 : decode cX12_letter 73 = .ok (.iaload, 1) := by decide +kernel
theorem dX12_letter_74 : decode cX12_letter 74 = .ok (.goto 4, 3) := by decide +kernel
theorem dX12_letter_77 : decode cX12_letter 77 = .ok (.iconst (-1), 1) := by decide +kernel
theorem dX12_letter_78 : decode cX12_letter 78 = .ok (.ireturn, 1) := by decide +kernel
theorem dX12_stepOfA_0 : decode cX12_stepOfA 0 = .ok (.aload_n 0, 1) := by decide +kernel
theorem dX12_stepOfA_1 : decode cX12_stepOfA 1 = .ok (.iconst 0, 1) := by decide +kernel
theorem dX12_stepOfA_2 : decode cX12_stepOfA 2 = .ok (.putfield 443, 3) := by decide +kernel
theorem dX12_stepOfA_5 : decode cX12_stepOfA 5 = .ok (.iconst (-1), 1) := by decide +kernel
theorem dX12_stepOfA_6 : decode cX12_stepOfA 6 = .ok (.istore_n 3, 1) := by decide +kernel
theorem dX12_stepOfA_7 : decode cX12_stepOfA 7 = .ok (.iconst 0, 1) := by decide +kernel
theorem dX12_stepOfA_8 : decode cX12_stepOfA 8 = .ok (.istore 4, 2) := by decide +kernel
theorem dX12_stepOfA_10 : decode cX12_stepOfA 10 = .ok (.iload 4, 2) := by decide +kernel
theorem dX12_stepOfA_12 : decode cX12_stepOfA 12 = .ok (.aload_n 0, 1) := by decide +kernel
theorem dX12_stepOfA_13 : decode cX12_stepOfA 13 = .ok (.getfield 195, 3) := by decide +kernel
theorem dX12_stepOfA_16 : decode cX12_stepOfA 16 = .ok (.if_icmp .ge 134, 3) := by decide +kernel
theorem dX12_stepOfA_19 : decode cX12_stepOfA 19 = .ok (.aload_n 0, 1) := by decide +kernel
theorem dX12_stepOfA_20 : decode cX12_stepOfA 20 = .ok (.getfield 51, 3) := by decide +kernel
theorem dX12_stepOfA_23 : decode cX12_stepOfA 23 = .ok (.iload 4, 2) := by decide +kernel
theorem dX12_stepOfA_25 : decode cX12_stepOfA 25 = .ok (.iaload, 1) := by decide +kernel
theorem dX12_stepOfA_26 : decode cX12_stepOfA 26 = .ok (.invokestatic 446, 3) := by decide +kernel
theorem dX12_stepOfA_29 : decode cX12_stepOfA 29 = .ok (.istore 5, 2) := by decide +kernel
theorem dX12_stepOfA_31 : decode cX12_stepOfA 31 = .ok (.iload 4, 2) := by decide +kernel
theorem dX12_stepOfA_33 : decode cX12_stepOfA 33 = .ok (.istore 6, 2) := by decide +kernel
theorem dX12_stepOfA_35 : decode cX12_stepOfA 35 = .ok (.iload 6, 2) := by decide +kernel
theorem dX12_stepOfA_37 : decode cX12_stepOfA 37 = .ok (.aload_n 0, 1) := by decide +kernel
theorem dX12_stepOfA_38 : decode cX12_stepOfA 38 = .ok (.getfield 195, 3) := by decide +kernel
theorem dX12_stepOfA_41 : decode cX12_stepOfA 41 = .ok (.if_icmp .ge 24, 3) := by decide +kernel
theorem dX12_stepOfA_44 : decode cX12_stepOfA 44 = .ok (.aload_n 0, 1) := by decide +kernel
theorem dX12_stepOfA_45 : decode cX12_stepOfA 45 = .ok (.getfield 51, 3) := by decide +kernel
theorem dX12_stepOfA_48 : decode cX12_stepOfA 48 = .ok (.iload 6, 2) := by decide +kernel
theorem dX12_stepOfA_50 : decode cX12_stepOfA 50 = .ok (.iaload, 1) := by decide +kernel
theorem dX12_stepOfA_51 : decode cX12_stepOfA 51 = .ok (.invokestatic 446, 3) := by decide +kernel
theorem dX12_stepOfA_54 : decode cX12_stepOfA 54 = .ok (.iload 5, 2) := by decide +kernel
theorem dX12_stepOfA_56 : decode cX12_stepOfA 56 = .ok (.if_icmp .ne 9, 3) := by decide +kernel
theorem dX12_stepOfA_59 : decode cX12_stepOfA 59 = .ok (.iinc 6 1, 3) := by decide +kernel
theorem dX12_stepOfA_62 : decode cX12_stepOfA 62 = .ok (.goto (-27), 3) := by decide +kernel
theorem dX12_stepOfA_65 : decode cX12_stepOfA 65 = .ok (.aload_n 0, 1) := by decide +kernel
theorem dX12_stepOfA_66 : decode cX12_stepOfA 66 = .ok (.getfield 443, 3) := by decide +kernel
theorem dX12_stepOfA_69 : decode cX12_stepOfA 69 = .ok (.iload_n 1, 1) := by decide +kernel
theorem dX12_stepOfA_70 : decode cX12_stepOfA 70 = .ok (.if_icmp .ne 63, 3) := by decide +kernel
theorem dX12_stepOfA_73 : decode cX12_stepOfA 73 = .ok (.iload_n 2, 1) := by decide +kernel
theorem dX12_stepOfA_74 : decode cX12_stepOfA 74 = .ok (.ifCond .ne 8, 3) := by decide +kernel
theorem dX12_stepOfA_77 : decode cX12_stepOfA 77 = .ok (.iload 5, 2) := by decide +kernel
theorem dX12_stepOfA_79 : decode cX12_stepOfA 79 = .ok (.goto 53, 3) := by decide +kernel
theorem dX12_stepOfA_82 : decode cX12_stepOfA 82 = .ok (.iload_n 2, 1) := by decide +kernel
theorem dX12_stepOfA_83 : decode cX12_stepOfA 83 = .ok (.iconst 1, 1) := by decide +kernel
theorem dX12_stepOfA_84 : decode cX12_stepOfA 84 = .ok (.if_icmp .ne 11, 3) := by decide +kernel
theorem dX12_stepOfA_87 : decode cX12_stepOfA 87 = .ok (.iload 6, 2) := by decide +kernel
theorem dX12_stepOfA_89 : decode cX12_stepOfA 89 = .ok (.iload 4, 2) := by decide +kernel
theorem dX12_stepOfA_91 : decode cX12_stepOfA 91 = .ok (.isub, 1) := by decide +kernel
theorem dX12_stepOfA_92 : decode cX12_stepOfA 92 = .ok (.goto 40, 3) := by decide +kernel
theorem dX12_stepOfA_95 : decode cX12_stepOfA 95 = .ok (.iload 5, 2) := by decide +kernel
theorem dX12_stepOfA_97 : decode cX12_stepOfA 97 = .ok (.iconst 1, 1) := by decide +kernel
theorem dX12_stepOfA_98 : decode cX12_stepOfA 98 = .ok (.if_icmp .ne 33, 3) := by decide +kernel
theorem dX12_stepOfA_101 : decode cX12_stepOfA 101 = .ok (.iload_n 2, 1) := by decide +kernel
theorem dX12_stepOfA_102 : decode cX12_stepOfA 102 = .ok (.iconst 2, 1) := by decide +kernel
theorem dX12_stepOfA_103 : decode cX12_stepOfA 103 = .ok (.if_icmp .lt 28, 3) := by decide +kernel
theorem dX12_stepOfA_106 : decode cX12_stepOfA 106 = .ok (.iload_n 2, 1) := by decide +kernel
theorem dX12_stepOfA_107 : decode cX12_stepOfA 107 = .ok (.iconst 2, 1) := by decide +kernel
theorem dX12_stepOfA_108 : decode cX12_stepOfA 108 = .ok (.isub, 1) := by decide +kernel
theorem dX12_stepOfA_109 : decode cX12_stepOfA 109 = .ok (.iload 6, 2) := by decide +kernel
theorem dX12_stepOfA_111 : decode cX12_stepOfA 111 = .ok (.iload 4, 2) := by decide +kernel
theorem dX12_stepOfA_113 : decode cX12_stepOfA 113 = .ok (.isub, 1) := by decide +kernel
theorem dX12_stepOfA_114 : decode cX12_stepOfA 114 = .ok (.if_icmp .ge 17, 3) := by decide +kernel
theorem dX12_stepOfA_117 : decode cX12_stepOfA 117 = .ok (.aload_n 0, 1) := by decide +kernel
theorem dX12_stepOfA_118 : decode cX12_stepOfA 118 = .ok (.getfield 51, 3) := by decide +kernel
theorem dX12_stepOfA_121 : decode cX12_stepOfA 121 = .ok (.iload 4, 2) := by decide +kernel
theorem dX12_stepOfA_123 : decode cX12_stepOfA 123 = .ok (.iload_n 2, 1) := by decide +kernel
theorem dX12_stepOfA_124 : decode cX12_stepOfA 124 = .ok (.iadd, 1) := by decide +kernel
theorem dX12_stepOfA_125 : decode cX12_stepOfA 125 = .ok (.iconst 2, 1) := by decide +kernel
theorem dX12_stepOfA_126 : decode cX12_stepOfA 126 = .ok (.isub, 1) := by decide +kernel
theorem dX12_stepOfA_127 : decode cX12_stepOfA 127 = .ok (.iaload, 1) := by decide +kernel
theorem dX12_stepOfA_128 : decode cX12_stepOfA 128 = .ok (.goto 4, 3) := by decide +kernel
theorem dX12_stepOfA_131 : decode cX12_stepOfA 131 = .ok (.iconst (-1), 1) := by decide +kernel
theorem dX12_stepOfA_132 : decode cX12_stepOfA 132 = .ok (.istore_n 3, 1) := by decide +kernel
theorem dX12_stepOfA_133 : decode cX12_stepOfA 133 = .ok (.aload_n 0, 1) := by decide +kernel
theorem dX12_stepOfA_134 : decode cX12_stepOfA 134 = .ok (.dup, 1) := by decide +kernel
theorem dX12_stepOfA_135 : decode cX12_stepOfA 135 = .ok (.getfield 443, 3) := by decide +kernel
theorem dX12_stepOfA_138 : decode cX12_stepOfA 138 = .ok (.iconst 1, 1) := by decide +kernel
theorem dX12_stepOfA_139 : decode cX12_stepOfA 139 = .ok (.iadd, 1) := by decide +kernel
theorem dX12_stepOfA_140 : decode cX12_stepOfA 140 = .ok (.putfield 443, 3) := by decide +kernel
theorem dX12_stepOfA_143 : decode cX12_stepOfA 143 = .ok (.iload 6, 2) := by decide +kernel
theorem dX12_stepOfA_145 : decode cX12_stepOfA 145 = .ok (.istore 4, 2) := by decide +kernel
theorem dX12_stepOfA_147 : decode cX12_stepOfA 147 = .ok (.goto (-137), 3) := by decide +kernel
theorem dX12_stepOfA_150 : decode cX12_stepOfA 150 = .ok (.iload_n 3, 1) := by decide +kernel
theorem dX12_stepOfA_151 : decode cX12_stepOfA 151 = .ok (.ireturn, 1) := by decide +kernel
theorem dX12_kindOf_0 : decode cX12_kindOf 0 = .ok (.iload_n 0, 1) := by decide +kernel
theorem dX12_kindOf_1 : decode cX12_kindOf 1 = .ok (.ifCond .ne 7, 3) := by decide +kernel
theorem dX12_kindOf_4 : decode cX12_kindOf 4 = .ok (.iconst 0, 1) := by decide +kernel
theorem dX12_kindOf_5 : decode cX12_kindOf 5 = .ok (.goto 13, 3) := by decide +kernel
theorem dX12_kindOf_8 : decode cX12_kindOf 8 = .ok (.iload_n 0, 1) := by decide +kernel
theorem dX12_kindOf_9 : decode cX12_kindOf 9 = .ok (.iconst (-1), 1) := by decide +kernel
theorem dX12_kindOf_10 : decode cX12_kindOf 10 = .ok (.if_icmp .ne 7, 3) := by decide +kernel
theorem dX12_kindOf_13 : decode cX12_kindOf 13 = .ok (.iconst 2, 1) := by decide +kernel
theorem dX12_kindOf_14 : decode cX12_kindOf 14 = .ok (.goto 4, 3) := by decide +kernel
theorem dX12_kindOf_17 : decode cX12_kindOf 17 = .ok (.iconst 1, 1) := by decide +kernel
theorem dX12_kindOf_18 : decode cX12_kindOf 18 = .ok (.ireturn, 1) := by decide +kernel
theorem dX12_step_0 : decode cX12_step 0 = .ok (.aload_n 0, 1) := by decide +kernel
theorem dX12_step_1 : decode cX12_step 1 = .ok (.iload_n 1, 1) := by decide +kernel
theorem dX12_step_2 : decode cX12_step 2 = .ok (.invokevirtual 431, 3) := by decide +kernel
theorem dX12_step_5 : decode cX12_step 5 = .ok (.ifCond .eq 21, 3) := by decide +kernel
theorem dX12_step_8 : decode cX12_step 8 = .ok (.iload_n 3, 1) := by decide +kernel
theorem dX12_step_9 : decode cX12_step 9 = .ok (.ifCond .lt 17, 3) := by decide +kernel
theorem dX12_step_12 : decode cX12_step 12 = .ok (.iload 4, 2) := by decide +kernel
theorem dX12_step_14 : decode cX12_step 14 = .ok (.ifCond .lt 12, 3) := by decide +kernel
theorem dX12_step_17 : decode cX12_step 17 = .ok (.aload_n 0, 1) := by decide +kernel
theorem dX12_step_18 : decode cX12_step 18 = .ok (.iload_n 1, 1) := by decide +kernel
theorem dX12_step_19 : decode cX12_step 19 = .ok (.iload_n 2, 1) := by decide +kernel
theorem dX12_step_20 : decode cX12_step 20 = .ok (.invokevirtual 449, 3) := by decide +kernel
theorem dX12_step_23 : decode cX12_step 23 = .ok (.ifCond .ne 5, 3) := by decide +kernel
theorem dX12_step_26 : decode cX12_step 26 = .ok (.iconst (-1), 1) := by decide +kernel
theorem dX12_step_27 : decode cX12_step 27 = .ok (.ireturn, 1) := by decide +kernel
theorem dX12_step_28 : decode cX12_step 28 = .ok (.aload_n 0, 1) := by decide +kernel
theorem dX12_step_29 : decode cX12_step 29 = .ok (.iload_n 3, 1) := by decide +kernel
theorem dX12_step_30 : decode cX12_step 30 = .ok (.iload 4, 2) := by decide +kernel
theorem dX12_step_32 : decode cX12_step 32 = .ok (.invokevirtual 452, 3) := by decide +kernel
theorem dX12_step_35 : decode cX12_step 35 = .ok (.ireturn, 1) := by decide +kernel
theorem dX12_isThere_0 : decode cX12_isThere 0 = .ok (.iload_n 2, 1) := by decide +kernel
theorem dX12_isThere_1 : decode cX12_isThere 1 = .ok (.tableswitch 125 0 3 #[31, 59, 87, 106], 31) := by decide +kernel
theorem dX12_isThere_32 : decode cX12_isThere 32 = .ok (.aload_n 0, 1) := by decide +kernel
theorem dX12_isThere_33 : decode cX12_isThere 33 = .ok (.iload_n 1, 1) := by decide +kernel
theorem dX12_isThere_34 : decode cX12_isThere 34 = .ok (.sipush 264, 3) := by decide +kernel
theorem dX12_isThere_37 : decode cX12_isThere 37 = .ok (.invokestatic 237, 3) := by decide +kernel
theorem dX12_isThere_40 : decode cX12_isThere 40 = .ok (.invokevirtual 249, 3) := by decide +kernel
theorem dX12_isThere_43 : decode cX12_isThere 43 = .ok (.aload_n 0, 1) := by decide +kernel
theorem dX12_isThere_44 : decode cX12_isThere 44 = .ok (.iload_n 1, 1) := by decide +kernel
theorem dX12_isThere_45 : decode cX12_isThere 45 = .ok (.bipush 17, 2) := by decide +kernel
theorem dX12_isThere_47 : decode cX12_isThere 47 = .ok (.invokevirtual 246, 3) := by decide +kernel
theorem dX12_isThere_50 : decode cX12_isThere 50 = .ok (.iconst 1, 1) := by decide +kernel
theorem dX12_isThere_51 : decode cX12_isThere 51 = .ok (.if_icmp .ne 7, 3) := by decide +kernel
theorem dX12_isThere_54 : decode cX12_isThere 54 = .ok (.iconst 1, 1) := by decide +kernel
theorem dX12_isThere_55 : decode cX12_isThere 55 = .ok (.goto 4, 3) := by decide +kernel
theorem dX12_isThere_58 : decode cX12_isThere 58 = .ok (.iconst 0, 1) := by decide +kernel
theorem dX12_isThere_59 : decode cX12_isThere 59 = .ok (.ireturn, 1) := by decide +kernel
theorem dX12_isThere_60 : decode cX12_isThere 60 = .ok (.aload_n 0, 1) := by decide +kernel
theorem dX12_isThere_61 : decode cX12_isThere 61 = .ok (.iload_n 1, 1) := by decide +kernel
theorem dX12_isThere_62 : decode cX12_isThere 62 = .ok (.sipush 1148, 3) := by decide +kernel
theorem dX12_isThere_65 : decode cX12_isThere 65 = .ok (.invokestatic 237, 3) := by decide +kernel
theorem dX12_isThere_68 : decode cX12_isThere 68 = .ok (.invokevirtual 249, 3) := by decide +kernel
theorem dX12_isThere_71 : decode cX12_isThere 71 = .ok (.aload_n 0, 1) := by decide +kernel
theorem dX12_isThere_72 : decode cX12_isThere 72 = .ok (.iload_n 1, 1) := by decide +kernel
theorem dX12_isThere_73 : decode cX12_isThere 73 = .ok (.bipush 18, 2) := by decide +kernel
theorem dX12_isThere_75 : decode cX12_isThere 75 = .ok (.invokevirtual 246, 3) := by decide +kernel
theorem dX12_isThere_78 : decode cX12_isThere 78 = .ok (.iconst 1, 1) := by decide +kernel
theorem dX12_isThere_79 : decode cX12_isThere 79 = .ok (.if_icmp .ne 7, 3) := by decide +kernel
theorem dX12_isThere_82 : decode cX12_isThere 82 = .ok (.iconst 1, 1) := by decide +kernel
theorem dX12_isThere_83 : decode cX12_isThere 83 = .ok (.goto 4, 3) := by decide +kernel
theorem dX12_isThere_86 : decode cX12_isThere 86 = .ok (.iconst 0, 1) := by decide +kernel
theorem dX12_isThere_87 : decode cX12_isThere 87 = .ok (.ireturn, 1) := by decide +kernel
theorem dX12_isThere_88 : decode cX12_isThere 88 = .ok (.aload_n 0, 1) := by decide +kernel
theorem dX12_isThere_89 : decode cX12_isThere 89 = .ok (.iload_n 1, 1) := by decide +kernel
theorem dX12_isThere_90 : decode cX12_isThere 90 = .ok (.sipush 1590, 3) := by decide +kernel
theorem dX12_isThere_93 : decode cX12_isThere 93 = .ok (.invokestatic 237, 3) := by decide +kernel
theorem dX12_isThere_96 : decode cX12_isThere 96 = .ok (.aload_n 0, 1) := by decide +kernel
theorem dX12_isThere_97 : decode cX12_isThere 97 = .ok (.iload_n 1, 1) := by decide +kernel
theorem dX12_isThere_98 : decode cX12_isThere 98 = .ok (.bipush 22, 2) := by decide +kernel
theorem dX12_isThere_100 : decode cX12_isThere 100 = .ok (.invokevirtual 246, 3) := by decide +kernel
theorem dX12_isThere_103 : decode cX12_isThere 103 = .ok (.invokevirtual 455, 3) := by decide +kernel
theorem dX12_isThere_106 : decode cX12_isThere 106 = .ok (.ireturn, 1) := by decide +kernel
theorem dX12_isThere_107 : decode cX12_isThere 107 = .ok (.aload_n 0, 1) := by decide +kernel
theorem dX12_isThere_108 : decode cX12_isThere 108 = .ok (.iload_n 1, 1) := by decide +kernel
theorem dX12_isThere_109 : decode cX12_isThere 109 = .ok (.sipush 2054, 3) := by decide +kernel
theorem dX12_isThere_112 : decode cX12_isThere 112 = .ok (.invokestatic 237, 3) := by decide +kernel
theorem dX12_isThere_115 : decode cX12_isThere 115 = .ok (.aload_n 0, 1) := by decide +kernel
theorem dX12_isThere_116 : decode cX12_isThere 116 = .ok (.iload_n 1, 1) := by decide +kernel
theorem dX12_isThere_117 : decode cX12_isThere 117 = .ok (.bipush 23, 2) := by decide +kernel
theorem dX12_isThere_119 : decode cX12_isThere 119 = .ok (.invokevirtual 246, 3) := by decide +kernel
theorem dX12_isThere_122 : decode cX12_isThere 122 = .ok (.invokevirtual 455, 3) := by decide +kernel
theorem dX12_isThere_125 : decode cX12_isThere 125 = .ok (.ireturn, 1) := by decide +kernel
theorem dX12_isThere_126 : decode cX12_isThere 126 = .ok (.iconst 0, 1) := by decide +kernel
theorem dX12_isThere_127 : decode cX12_isThere 127 = .ok (.ireturn, 1) := by decide +kernel
theorem dX12_isLatest_0 : decode cX12_isLatest 0 = .ok (.iload_n 2, 1) := by decide +kernel
theorem dX12_isLatest_1 : decode cX12_isLatest 1 = .ok (.ifCond .ne 5, 3) := by decide +kernel
theorem dX12_isLatest_4 : decode cX12_isLatest 4 = .ok (.iconst 0, 1) := by decide +kernel
theorem dX12_isLatest_5 : decode cX12_isLatest 5 = .ok (.ireturn, 1) := by decide +kernel
theorem dX12_isLatest_6 : decode cX12_isLatest 6 = .ok (.aload_n 0, 1) := by decide +kernel
theorem dX12_isLatest_7 : decode cX12_isLatest 7 = .ok (.aload_n 0, 1) := by decide +kernel
theorem dX12_isLatest_8 : decode cX12_isLatest 8 = .ok (.iload_n 1, 1) := by decide +kernel
theorem dX12_isLatest_9 : decode cX12_isLatest 9 = .ok (.iload_n 2, 1) := by decide +kernel
theorem dX12_isLatest_10 : decode cX12_isLatest 10 = .ok (.iconst 1, 1) := by decide +kernel
theorem dX12_isLatest_11 : decode cX12_isLatest 11 = .ok (.isub, 1) := by decide +kernel
theorem dX12_isLatest_12 : decode cX12_isLatest 12 = .ok (.invokevirtual 233, 3) := by decide +kernel
theorem dX12_isLatest_15 : decode cX12_isLatest 15 = .ok (.iconst 1, 1) := by decide +kernel
theorem dX12_isLatest_16 : decode cX12_isLatest 16 = .ok (.iadd, 1) := by decide +kernel
theorem dX12_isLatest_17 : decode cX12_isLatest 17 = .ok (.invokevirtual 249, 3) := by decide +kernel
theorem dX12_isLatest_20 : decode cX12_isLatest 20 = .ok (.iconst 1, 1) := by decide +kernel
theorem dX12_isLatest_21 : decode cX12_isLatest 21 = .ok (.ireturn, 1) := by decide +kernel
theorem dX12_isOpOfRow_0 : decode cX12_isOpOfRow 0 = .ok (.aload_n 0, 1) := by decide +kernel
theorem dX12_isOpOfRow_1 : decode cX12_isOpOfRow 1 = .ok (.getfield 211, 3) := by decide +kernel
theorem dX12_isOpOfRow_4 : decode cX12_isOpOfRow 4 = .ok (.ifCond .eq 23, 3) := by decide +kernel
theorem dX12_isOpOfRow_7 : decode cX12_isOpOfRow 7 = .ok (.iload_n 1, 1) := by decide +kernel
theorem dX12_isOpOfRow_8 : decode cX12_isOpOfRow 8 = .ok (.i2l, 1) := by decide +kernel
theorem dX12_isOpOfRow_9 : decode cX12_isOpOfRow 9 = .ok (.lconst 1, 1) := by decide +kernel
theorem dX12_isOpOfRow_10 : decode cX12_isOpOfRow 10 = .ok (.aload_n 0, 1) := by decide +kernel
theorem dX12_isOpOfRow_11 : decode cX12_isOpOfRow 11 = .ok (.getfield 69, 3) := by decide +kernel
theorem dX12_isOpOfRow_14 : decode cX12_isOpOfRow 14 = .ok (.iconst 1, 1) := by decide +kernel
theorem dX12_isOpOfRow_15 : decode cX12_isOpOfRow 15 = .ok (.iaload, 1) := by decide +kernel
theorem dX12_isOpOfRow_16 : decode cX12_isOpOfRow 16 = .ok (.i2l, 1) := by decide +kernel
theorem dX12_isOpOfRow_17 : decode cX12_isOpOfRow 17 = .ok (.invokestatic 139, 3) := by decide +kernel
theorem dX12_isOpOfRow_20 : decode cX12_isOpOfRow 20 = .ok (.ifCond .eq 7, 3) := by decide +kernel
theorem dX12_isOpOfRow_23 : decode cX12_isOpOfRow 23 = .ok (.iconst 1, 1) := by decide +kernel
theorem dX12_isOpOfRow_24 : decode cX12_isOpOfRow 24 = .ok (.goto 4, 3) := by decide +kernel
theorem dX12_isOpOfRow_27 : decode cX12_isOpOfRow 27 = .ok (.iconst 0, 1) := by decide +kernel
theorem dX12_isOpOfRow_28 : decode cX12_isOpOfRow 28 = .ok (.ireturn, 1) := by decide +kernel
theorem dX12_row_0 : decode cX12_row 0 = .ok (.aload_n 0, 1) := by decide +kernel
theorem dX12_row_1 : decode cX12_row 1 = .ok (.iload_n 1, 1) := by decide +kernel
theorem dX12_row_2 : decode cX12_row 2 = .ok (.invokevirtual 458, 3) := by decide +kernel
theorem dX12_row_5 : decode cX12_row 5 = .ok (.ifCond .eq 12, 3) := by decide +kernel
theorem dX12_row_8 : decode cX12_row 8 = .ok (.iload_n 2, 1) := by decide +kernel
theorem dX12_row_9 : decode cX12_row 9 = .ok (.iconst (-1), 1) := by decide +kernel
theorem dX12_row_10 : decode cX12_row 10 = .ok (.if_icmp .lt 7, 3) := by decide +kernel
theorem dX12_row_13 : decode cX12_row 13 = .ok (.iload_n 3, 1) := by decide +kernel
theorem dX12_row_14 : decode cX12_row 14 = .ok (.ifCond .ge 5, 3) := by decide +kernel
theorem dX12_row_17 : decode cX12_row 17 = .ok (.iconst (-1), 1) := by decide +kernel
theorem dX12_row_18 : decode cX12_row 18 = .ok (.ireturn, 1) := by decide +kernel
theorem dX12_row_19 : decode cX12_row 19 = .ok (.aload_n 0, 1) := by decide +kernel
theorem dX12_row_20 : decode cX12_row 20 = .ok (.iload_n 1, 1) := by decide +kernel
theorem dX12_row_21 : decode cX12_row 21 = .ok (.iconst 1, 1) := by decide +kernel
theorem dX12_row_22 : decode cX12_row 22 = .ok (.isub, 1) := by decide +kernel
theorem dX12_row_23 : decode cX12_row 23 = .ok (.invokevirtual 461, 3) := by decide +kernel
theorem dX12_row_26 : decode cX12_row 26 = .ok (.aload_n 0, 1) := by decide +kernel
theorem dX12_row_27 : decode cX12_row 27 = .ok (.iload_n 2, 1) := by decide +kernel
theorem dX12_row_28 : decode cX12_row 28 = .ok (.iload_n 3, 1) := by decide +kernel
theorem dX12_row_29 : decode cX12_row 29 = .ok (.invokevirtual 452, 3) := by decide +kernel
theorem dX12_row_32 : decode cX12_row 32 = .ok (.istore 4, 2) := by decide +kernel
theorem dX12_row_34 : decode cX12_row 34 = .ok (.iload_n 2, 1) := by decide +kernel
theorem dX12_row_35 : decode cX12_row 35 = .ok (.iconst (-1), 1) := by decide +kernel
theorem dX12_row_36 : decode cX12_row 36 = .ok (.if_icmp .eq 6, 3) := by decide +kernel
theorem dX12_row_39 : decode cX12_row 39 = .ok (.iload 4, 2) := by decide +kernel
theorem dX12_row_41 : decode cX12_row 41 = .ok (.ireturn, 1) := by decide +kernel
theorem dX12_row_42 : decode cX12_row 42 = .ok (.iload_n 3, 1) := by decide +kernel
theorem dX12_row_43 : decode cX12_row 43 = .ok (.ifCond .ne 14, 3) := by decide +kernel
theorem dX12_row_46 : decode cX12_row 46 = .ok (.aload_n 0, 1) := by decide +kernel
theorem dX12_row_47 : decode cX12_row 47 = .ok (.getfield 75, 3) := by decide +kernel
theorem dX12_row_50 : decode cX12_row 50 = .ok (.iload_n 1, 1) := by decide +kernel
theorem dX12_row_51 : decode cX12_row 51 = .ok (.iconst 1, 1) := by decide +kernel
theorem dX12_row_52 : decode cX12_row 52 = .ok (.isub, 1) := by decide +kernel
theorem dX12_row_53 : decode cX12_row 53 = .ok (.iaload, 1) := by decide +kernel
theorem dX12_row_54 : decode cX12_row 54 = .ok (.goto 16, 3) := by decide +kernel
theorem dX12_row_57 : decode cX12_row 57 = .ok (.iload_n 3, 1) := by decide +kernel
theorem dX12_row_58 : decode cX12_row 58 = .ok (.iconst 1, 1) := by decide +kernel
theorem dX12_row_59 : decode cX12_row 59 = .ok (.if_icmp .ne 10, 3) := by decide +kernel
theorem dX12_row_62 : decode cX12_row 62 = .ok (.aload_n 0, 1) := by decide +kernel
theorem dX12_row_63 : decode cX12_row 63 = .ok (.getfield 443, 3) := by decide +kernel
theorem dX12_row_66 : decode cX12_row 66 = .ok (.goto 4, 3) := by decide +kernel
theorem dX12_row_69 : decode cX12_row 69 = .ok (.iconst (-1), 1) := by decide +kernel
theorem dX12_row_70 : decode cX12_row 70 = .ok (.ireturn, 1) := by decide +kernel
theorem dX12_mark_0 : decode cX12_mark 0 = .ok (.aload_n 0, 1) := by decide +kernel
theorem dX12_mark_1 : decode cX12_mark 1 = .ok (.iload_n 1, 1) := by decide +kernel
theorem dX12_mark_2 : decode cX12_mark 2 = .ok (.invokevirtual 431, 3) := by decide +kernel
theorem dX12_mark_5 : decode cX12_mark 5 = .ok (.ifCond .eq 33, 3) := by decide +kernel
theorem dX12_mark_8 : decode cX12_mark 8 = .ok (.iload_n 2, 1) := by decide +kernel
theorem dX12_mark_9 : decode cX12_mark 9 = .ok (.i2l, 1) := by decide +kernel
theorem dX12_mark_10 : decode cX12_mark 10 = .ok (.lconst 0, 1) := by decide +kernel
theorem dX12_mark_11 : decode cX12_mark 11 = .ok (.aload_n 0, 1) := by decide +kernel
theorem dX12_mark_12 : decode cX12_mark 12 = .ok (.iload_n 1, 1) := by decide +kernel
theorem dX12_mark_13 : decode cX12_mark 13 = .ok (.iconst 2, 1) := by decide +kernel
theorem dX12_mark_14 : decode cX12_mark 14 = .ok (.invokevirtual 246, 3) := by decide +kernel
theorem dX12_mark_17 : decode cX12_mark 17 = .ok (.iconst 1, 1) := by decide +kernel
theorem dX12_mark_18 : decode cX12_mark 18 = .ok (.isub, 1) := by decide +kernel
theorem dX12_mark_19 : decode cX12_mark 19 = .ok (.i2l, 1) := by decide +kernel
theorem dX12_mark_20 : decode cX12_mark 20 = .ok (.invokestatic 139, 3) := by decide +kernel
theorem dX12_mark_23 : decode cX12_mark 23 = .ok (.ifCond .eq 15, 3) := by decide +kernel
theorem dX12_mark_26 : decode cX12_mark 26 = .ok (.iload_n 3, 1) := by decide +kernel
theorem dX12_mark_27 : decode cX12_mark 27 = .ok (.i2l, 1) := by decide +kernel
theorem dX12_mark_28 : decode cX12_mark 28 = .ok (.lconst 0, 1) := by decide +kernel
theorem dX12_mark_29 : decode cX12_mark 29 = .ok (.ldc2_w 464, 3) := by decide +kernel
theorem dX12_mark_32 : decode cX12_mark 32 = .ok (.invokestatic 139, 3) := by decide +kernel
theorem dX12_mark_35 : decode cX12_mark 35 = .ok (.ifCond .ne 5, 3) := by decide +kernel
theorem dX12_mark_38 : decode cX12_mark 38 = .ok (.iconst (-1), 1) := by decide +kernel
theorem dX12_mark_39 : decode cX12_mark 39 = .ok (.ireturn, 1) := by decide +kernel
theorem dX12_mark_40 : decode cX12_mark 40 = .ok (.aload_n 0, 1) := by decide +kernel
theorem dX12_mark_41 : decode cX12_mark 41 = .ok (.getfield 69, 3) := by decide +kernel
theorem dX12_mark_44 : decode cX12_mark 44 = .ok (.iload_n 1, 1) := by decide +kernel
theorem dX12_mark_45 : decode cX12_mark 45 = .ok (.iconst 3, 1) := by decide +kernel
theorem dX12_mark_46 : decode cX12_mark 46 = .ok (.iconst 3, 1) := by decide +kernel
theorem dX12_mark_47 : decode cX12_mark 47 = .ok (.iload_n 2, 1) := by decide +kernel
theorem dX12_mark_48 : decode cX12_mark 48 = .ok (.imul, 1) := by decide +kernel
theorem dX12_mark_49 : decode cX12_mark 49 = .ok (.iadd, 1) := by decide +kernel
theorem dX12_mark_50 : decode cX12_mark 50 = .ok (.iload_n 3, 1) := by decide +kernel
theorem dX12_mark_51 : decode cX12_mark 51 = .ok (.iadd, 1) := by decide +kernel
theorem dX12_mark_52 : decode cX12_mark 52 = .ok (.invokestatic 237, 3) := by decide +kernel
theorem dX12_mark_55 : decode cX12_mark 55 = .ok (.iaload, 1) := by decide +kernel
theorem dX12_mark_56 : decode cX12_mark 56 = .ok (.ireturn, 1) := by decide +kernel
theorem dX12_was_0 : decode cX12_was 0 = .ok (.aload_n 0, 1) := by decide +kernel
theorem dX12_was_1 : decode cX12_was 1 = .ok (.getfield 211, 3) := by decide +kernel
theorem dX12_was_4 : decode cX12_was 4 = .ok (.ifCond .eq 24, 3) := by decide +kernel
theorem dX12_was_7 : decode cX12_was 7 = .ok (.iload_n 1, 1) := by decide +kernel
theorem dX12_was_8 : decode cX12_was 8 = .ok (.i2l, 1) := by decide +kernel
theorem dX12_was_9 : decode cX12_was 9 = .ok (.lconst 0, 1) := by decide +kernel
theorem dX12_was_10 : decode cX12_was 10 = .ok (.aload_n 0, 1) := by decide +kernel
theorem dX12_was_11 : decode cX12_was 11 = .ok (.getfield 69, 3) := by decide +kernel
theorem dX12_was_14 : decode cX12_was 14 = .ok (.iconst 1, 1) := by decide +kernel
theorem dX12_was_15 : decode cX12_was 15 = .ok (.iaload, 1) := by decide +kernel
theorem dX12_was_16 : decode cX12_was 16 = .ok (.i2l, 1) := by decide +kernel
theorem dX12_was_17 : decode cX12_was 17 = .ok (.invokestatic 139, 3) := by decide +kernel
theorem dX12_was_20 : decode cX12_was 20 = .ok (.ifCond .eq 8, 3) := by decide +kernel
theorem dX12_was_23 : decode cX12_was 23 = .ok (.iload_n 2, 1) := by decide +kernel
theorem dX12_was_24 : decode cX12_was 24 = .ok (.iconst (-1), 1) := by decide +kernel
theorem dX12_was_25 : decode cX12_was 25 = .ok (.if_icmp .ge 5, 3) := by decide +kernel
theorem dX12_was_28 : decode cX12_was 28 = .ok (.iconst (-1), 1) := by decide +kernel
theorem dX12_was_29 : decode cX12_was 29 = .ok (.ireturn, 1) := by decide +kernel
theorem dX12_was_30 : decode cX12_was 30 = .ok (.aload_n 0, 1) := by decide +kernel
theorem dX12_was_31 : decode cX12_was 31 = .ok (.iload_n 1, 1) := by decide +kernel
theorem dX12_was_32 : decode cX12_was 32 = .ok (.invokevirtual 425, 3) := by decide +kernel
theorem dX12_was_35 : decode cX12_was 35 = .ok (.pop, 1) := by decide +kernel
theorem dX12_was_36 : decode cX12_was 36 = .ok (.iload_n 2, 1) := by decide +kernel
theorem dX12_was_37 : decode cX12_was 37 = .ok (.iconst (-1), 1) := by decide +kernel
theorem dX12_was_38 : decode cX12_was 38 = .ok (.if_icmp .ne 10, 3) := by decide +kernel
theorem dX12_was_41 : decode cX12_was 41 = .ok (.aload_n 0, 1) := by decide +kernel
theorem dX12_was_42 : decode cX12_was 42 = .ok (.getfield 434, 3) := by decide +kernel
theorem dX12_was_45 : decode cX12_was 45 = .ok (.goto 21, 3) := by decide +kernel
theorem dX12_was_48 : decode cX12_was 48 = .ok (.iload_n 2, 1) := by decide +kernel
theorem dX12_was_49 : decode cX12_was 49 = .ok (.aload_n 0, 1) := by decide +kernel
theorem dX12_was_50 : decode cX12_was 50 = .ok (.getfield 434, 3) := by decide +kernel
theorem dX12_was_53 : decode cX12_was 53 = .ok (.if_icmp .ge 12, 3) := by decide +kernel
theorem dX12_was_56 : decode cX12_was 56 = .ok (.aload_n 0, 1) := by decide +kernel
theorem dX12_was_57 : decode cX12_was 57 = .ok (.getfield 93, 3) := by decide +kernel
theorem dX12_was_60 : decode cX12_was 60 = .ok (.iload_n 2, 1) := by decide +kernel
theorem dX12_was_61 : decode cX12_was 61 = .ok (.iaload, 1) := by decide +kernel
theorem dX12_was_62 : decode cX12_was 62 = .ok (.goto 4, 3) := by decide +kernel
theorem dX12_was_65 : decode cX12_was 65 = .ok (.iconst (-1), 1) := by decide +kernel
theorem dX12_was_66 : decode cX12_was 66 = .ok (.ireturn, 1) := by decide +kernel
theorem dX12_by_0 : decode cX12_by 0 = .ok (.aload_n 0, 1) := by decide +kernel
theorem dX12_by_1 : decode cX12_by 1 = .ok (.getfield 211, 3) := by decide +kernel
theorem dX12_by_4 : decode cX12_by 4 = .ok (.ifCond .eq 35, 3) := by decide +kernel
theorem dX12_by_7 : decode cX12_by 7 = .ok (.iload_n 2, 1) := by decide +kernel
theorem dX12_by_8 : decode cX12_by 8 = .ok (.i2l, 1) := by decide +kernel
theorem dX12_by_9 : decode cX12_by 9 = .ok (.lconst 0, 1) := by decide +kernel
theorem dX12_by_10 : decode cX12_by 10 = .ok (.lconst 1, 1) := by decide +kernel
theorem dX12_by_11 : decode cX12_by 11 = .ok (.invokestatic 139, 3) := by decide +kernel
theorem dX12_by_14 : decode cX12_by 14 = .ok (.ifCond .eq 25, 3) := by decide +kernel
theorem dX12_by_17 : decode cX12_by 17 = .ok (.iload_n 1, 1) := by decide +kernel
theorem dX12_by_18 : decode cX12_by 18 = .ok (.i2l, 1) := by decide +kernel
theorem dX12_by_19 : decode cX12_by 19 = .ok (.lconst 0, 1) := by decide +kernel
theorem dX12_by_20 : decode cX12_by 20 = .ok (.aload_n 0, 1) := by decide +kernel
theorem dX12_by_21 : decode cX12_by 21 = .ok (.aload_n 0, 1) := by decide +kernel
theorem dX12_by_22 : decode cX12_by 22 = .ok (.getfield 69, 3) := by decide +kernel
theorem dX12_by_25 : decode cX12_by 25 = .ok (.iconst 1, 1) := by decide +kernel
theorem dX12_by_26 : decode cX12_by 26 = .ok (.iaload, 1) := by decide +kernel
theorem dX12_by_27 : decode cX12_by 27 = .ok (.invokevirtual 425, 3) := by decide +kernel
theorem dX12_by_30 : decode cX12_by 30 = .ok (.iconst 1, 1) := by decide +kernel
theorem dX12_by_31 : decode cX12_by 31 = .ok (.isub, 1) := by decide +kernel
theorem dX12_by_32 : decode cX12_by 32 = .ok (.i2l, 1) := by decide +kernel
theorem dX12_by_33 : decode cX12_by 33 = .ok (.invokestatic 139, 3) := by decide +kernel
theorem dX12_by_36 : decode cX12_by 36 = .ok (.ifCond .ne 5, 3) := by decide +kernel
theorem dX12_by_39 : decode cX12_by 39 = .ok (.iconst (-1), 1) := by decide +kernel
theorem dX12_by_40 : decode cX12_by 40 = .ok (.ireturn, 1) := by decide +kernel
theorem dX12_by_41 : decode cX12_by 41 = .ok (.iload_n 2, 1) := by decide +kernel
theorem dX12_by_42 : decode cX12_by 42 = .ok (.ifCond .ne 12, 3) := by decide +kernel
theorem dX12_by_45 : decode cX12_by 45 = .ok (.aload_n 0, 1) := by decide +kernel
theorem dX12_by_46 : decode cX12_by 46 = .ok (.getfield 96, 3) := by decide +kernel
theorem dX12_by_49 : decode cX12_by 49 = .ok (.iload_n 1, 1) := by decide +kernel
theorem dX12_by_50 : decode cX12_by 50 = .ok (.iaload, 1) := by decide +kernel
theorem dX12_by_51 : decode cX12_by 51 = .ok (.goto 29, 3) := by decide +kernel
theorem dX12_by_54 : decode cX12_by 54 = .ok (.aload_n 0, 1) := by decide +kernel
theorem dX12_by_55 : decode cX12_by 55 = .ok (.getfield 96, 3) := by decide +kernel
theorem dX12_by_58 : decode cX12_by 58 = .ok (.iload_n 1, 1) := by decide +kernel
theorem dX12_by_59 : decode cX12_by 59 = .ok (.iaload, 1) := by decide +kernel
theorem dX12_by_60 : decode cX12_by 60 = .ok (.ifCond .ne 7, 3) := by decide +kernel
theorem dX12_by_63 : decode cX12_by 63 = .ok (.iconst (-1), 1) := by decide +kernel
theorem dX12_by_64 : decode cX12_by 64 = .ok (.goto 16, 3) := by decide +kernel
theorem dX12_by_67 : decode cX12_by 67 = .ok (.aload_n 0, 1) := by decide +kernel
theorem dX12_by_68 : decode cX12_by 68 = .ok (.getfield 75, 3) := by decide +kernel
theorem dX12_by_71 : decode cX12_by 71 = .ok (.aload_n 0, 1) := by decide +kernel
theorem dX12_by_72 : decode cX12_by 72 = .ok (.getfield 96, 3) := by decide +kernel
theorem dX12_by_75 : decode cX12_by 75 = .ok (.iload_n 1, 1) := by decide +kernel
theorem dX12_by_76 : decode cX12_by 76 = .ok (.iaload, 1) := by decide +kernel
theorem dX12_by_77 : decode cX12_by 77 = .ok (.iconst 1, 1) := by decide +kernel
theorem dX12_by_78 : decode cX12_by 78 = .ok (.isub, 1) := by decide +kernel
theorem dX12_by_79 : decode cX12_by 79 = .ok (.iaload, 1) := by decide +kernel
theorem dX12_by_80 : decode cX12_by 80 = .ok (.ireturn, 1) := by decide +kernel
theorem dX12_othersCut_0 : decode cX12_othersCut 0 = .ok (.iconst 0, 1) := by decide +kernel
theorem dX12_othersCut_1 : decode cX12_othersCut 1 = .ok (.istore_n 2, 1) := by decide +kernel
theorem dX12_othersCut_2 : decode cX12_othersCut 2 = .ok (.iconst 0, 1) := by decide +kernel
theorem dX12_othersCut_3 : decode cX12_othersCut 3 = .ok (.istore_n 3, 1) := by decide +kernel
theorem dX12_othersCut_4 : decode cX12_othersCut 4 = .ok (.iload_n 3, 1) := by decide +kernel
theorem dX12_othersCut_5 : decode cX12_othersCut 5 = .ok (.aload_n 0, 1) := by decide +kernel
theorem dX12_othersCut_6 : decode cX12_othersCut 6 = .ok (.getfield 69, 3) := by decide +kernel
theorem dX12_othersCut_9 : decode cX12_othersCut 9 = .ok (.iconst 1, 1) := by decide +kernel
theorem dX12_othersCut_10 : decode cX12_othersCut 10 = .ok (.iaload, 1) := by decide +kernel
theorem dX12_othersCut_11 : decode cX12_othersCut 11 = .ok (.if_icmp .ge 109, 3) := by decide +kernel
theorem dX12_othersCut_14 : decode cX12_othersCut 14 = .ok (.aload_n 0, 1) := by decide +kernel
theorem dX12_othersCut_15 : decode cX12_othersCut 15 = .ok (.getfield 75, 3) := by decide +kernel
theorem dX12_othersCut_18 : decode cX12_othersCut 18 = .ok (.iload_n 3, 1) := by decide +kernel
theorem dX12_othersCut_19 : decode cX12_othersCut 19 = .ok (.iaload, 1) := by decide +kernel
theorem dX12_othersCut_20 : decode cX12_othersCut 20 = .ok (.iload_n 1, 1) := by decide +kernel
theorem dX12_othersCut_21 : decode cX12_othersCut 21 = .ok (.if_icmp .eq 6, 3) := by decide +kernel
theorem dX12_othersCut_24 : decode cX12_othersCut 24 = .ok (.goto 90, 3) := by decide +kernel
theorem dX12_othersCut_27 : decode cX12_othersCut 27 = .ok (.aload_n 0, 1) := by decide +kernel
theorem dX12_othersCut_28 : decode cX12_othersCut 28 = .ok (.iload_n 3, 1) := by decide +kernel
theorem dX12_othersCut_29 : decode cX12_othersCut 29 = .ok (.invokevirtual 425, 3) := by decide +kernel
theorem dX12_othersCut_32 : decode cX12_othersCut 32 = .ok (.pop, 1) := by decide +kernel
theorem dX12_othersCut_33 : decode cX12_othersCut 33 = .ok (.aload_n 0, 1) := by decide +kernel
theorem dX12_othersCut_34 : decode cX12_othersCut 34 = .ok (.iload_n 3, 1) := by decide +kernel
theorem dX12_othersCut_35 : decode cX12_othersCut 35 = .ok (.invokevirtual 307, 3) := by decide +kernel
theorem dX12_othersCut_38 : decode cX12_othersCut 38 = .ok (.iconst 0, 1) := by decide +kernel
theorem dX12_othersCut_39 : decode cX12_othersCut 39 = .ok (.istore 4, 2) := by decide +kernel
theorem dX12_othersCut_41 : decode cX12_othersCut 41 = .ok (.iconst 0, 1) := by decide +kernel
theorem dX12_othersCut_42 : decode cX12_othersCut 42 = .ok (.istore 5, 2) := by decide +kernel
theorem dX12_othersCut_44 : decode cX12_othersCut 44 = .ok (.iload 5, 2) := by decide +kernel
theorem dX12_othersCut_46 : decode cX12_othersCut 46 = .ok (.aload_n 0, 1) := by decide +kernel
theorem dX12_othersCut_47 : decode cX12_othersCut 47 = .ok (.getfield 198, 3) := by decide +kernel
theorem dX12_othersCut_50 : decode cX12_othersCut 50 = .ok (.if_icmp .ge 64, 3) := by decide +kernel
theorem dX12_othersCut_53 : decode cX12_othersCut 53 = .ok (.aload_n 0, 1) := by decide +kernel
theorem dX12_othersCut_54 : decode cX12_othersCut 54 = .ok (.getfield 54, 3) := by decide +kernel
theorem dX12_othersCut_57 : decode cX12_othersCut 57 = .ok (.iload 5, 2) := by decide +kernel
theorem dX12_othersCut_59 : decode cX12_othersCut 59 = .ok (.iaload, 1) := by decide +kernel
theorem dX12_othersCut_60 : decode cX12_othersCut 60 = .ok (.iconst (-1), 1) := by decide +kernel
theorem dX12_othersCut_61 : decode cX12_othersCut 61 = .ok (.if_icmp .ne 34, 3) := by decide +kernel
theorem dX12_othersCut_64 : decode cX12_othersCut 64 = .ok (.aload_n 0, 1) := by decide +kernel
theorem dX12_othersCut_65 : decode cX12_othersCut 65 = .ok (.getfield 96, 3) := by decide +kernel
theorem dX12_othersCut_68 : decode cX12_othersCut 68 = .ok (.iload 4, 2) := by decide +kernel
theorem dX12_othersCut_70 : decode cX12_othersCut 70 = .ok (.iaload, 1) := by decide +kernel
theorem dX12_othersCut_71 : decode cX12_othersCut 71 = .ok (.ifCond .eq 21, 3) := by decide +kernel
theorem dX12_othersCut_74 : decode cX12_othersCut 74 = .ok (.aload_n 0, 1) := by decide +kernel
theorem dX12_othersCut_75 : decode cX12_othersCut 75 = .ok (.getfield 75, 3) := by decide +kernel
theorem dX12_othersCut_78 : decode cX12_othersCut 78 = .ok (.aload_n 0, 1) := by decide +kernel
theorem dX12_othersCut_79 : decode cX12_othersCut 79 = .ok (.getfield 96, 3) := by decide +kernel
theorem dX12_othersCut_82 : decode cX12_othersCut 82 = .ok (.iload 4, 2) := by decide +kernel
theorem dX12_othersCut_84 : decode cX12_othersCut 84 = .ok (.iaload, 1) := by decide +kernel
theorem dX12_othersCut_85 : decode cX12_othersCut 85 = .ok (.iconst 1, 1) := by decide +kernel
theorem dX12_othersCut_86 : decode cX12_othersCut 86 = .ok (.isub, 1) := by decide +kernel
theorem dX12_othersCut_87 : decode cX12_othersCut 87 = .ok (.iaload, 1) := by decide +kernel
theorem dX12_othersCut_88 : decode cX12_othersCut 88 = .ok (.iload_n 1, 1) := by decide +kernel
theorem dX12_othersCut_89 : decode cX12_othersCut 89 = .ok (.if_icmp .eq 6, 3) := by decide +kernel
theorem dX12_othersCut_92 : decode cX12_othersCut 92 = .ok (.iinc 2 1, 3) := by decide +kernel
theorem dX12_othersCut_95 : decode cX12_othersCut 95 = .ok (.aload_n 0, 1) := by decide +kernel
theorem dX12_othersCut_96 : decode cX12_othersCut 96 = .ok (.getfield 54, 3) := by decide +kernel
theorem dX12_othersCut_99 : decode cX12_othersCut 99 = .ok (.iload 5, 2) := by decide +kernel
theorem dX12_othersCut_101 : decode cX12_othersCut 101 = .ok (.iaload, 1) := by decide +kernel
theorem dX12_othersCut_102 : decode cX12_othersCut 102 = .ok (.ifCond .gt 6, 3) := by decide +kernel
theorem dX12_othersCut_105 : decode cX12_othersCut 105 = .ok (.iinc 4 1, 3) := by decide +kernel
theorem dX12_othersCut_108 : decode cX12_othersCut 108 = .ok (.iinc 5 1, 3) := by decide +kernel
theorem dX12_othersCut_111 : decode cX12_othersCut 111 = .ok (.goto (-67), 3) := by decide +kernel
theorem dX12_othersCut_114 : decode cX12_othersCut 114 = .ok (.iinc 3 1, 3) := by decide +kernel
theorem dX12_othersCut_117 : decode cX12_othersCut 117 = .ok (.goto (-113), 3) := by decide +kernel
theorem dX12_othersCut_120 : decode cX12_othersCut 120 = .ok (.iload_n 2, 1) := by decide +kernel
theorem dX12_othersCut_121 : decode cX12_othersCut 121 = .ok (.ireturn, 1) := by decide +kernel
theorem dX12_share_0 : decode cX12_share 0 = .ok (.aload_n 0, 1) := by decide +kernel
theorem dX12_share_1 : decode cX12_share 1 = .ok (.iload_n 1, 1) := by decide +kernel
theorem dX12_share_2 : decode cX12_share 2 = .ok (.invokevirtual 431, 3) := by decide +kernel
theorem dX12_share_5 : decode cX12_share 5 = .ok (.ifCond .eq 13, 3) := by decide +kernel
theorem dX12_share_8 : decode cX12_share 8 = .ok (.iload_n 2, 1) := by decide +kernel
theorem dX12_share_9 : decode cX12_share 9 = .ok (.i2l, 1) := by decide +kernel
theorem dX12_share_10 : decode cX12_share 10 = .ok (.lconst 0, 1) := by decide +kernel
theorem dX12_share_11 : decode cX12_share 11 = .ok (.lconst 1, 1) := by decide +kernel
theorem dX12_share_12 : decode cX12_share 12 = .ok (.invokestatic 139, 3) := by decide +kernel
theorem dX12_share_15 : decode cX12_share 15 = .ok (.ifCond .ne 5, 3) := by decide +kernel
theorem dX12_share_18 : decode cX12_share 18 = .ok (.iconst (-1), 1) := by decide +kernel
theorem dX12_share_19 : decode cX12_share 19 = .ok (.ireturn, 1) := by decide +kernel
theorem dX12_share_20 : decode cX12_share 20 = .ok (.iload_n 2, 1) := by decide +kernel
theorem dX12_share_21 : decode cX12_share 21 = .ok (.iconst 1, 1) := by decide +kernel
theorem dX12_share_22 : decode cX12_share 22 = .ok (.if_icmp .ne 9, 3) := by decide +kernel
theorem dX12_share_25 : decode cX12_share 25 = .ok (.aload_n 0, 1) := by decide +kernel
theorem dX12_share_26 : decode cX12_share 26 = .ok (.iload_n 1, 1) := by decide +kernel
theorem dX12_share_27 : decode cX12_share 27 = .ok (.invokevirtual 466, 3) := by decide +kernel
theorem dX12_share_30 : decode cX12_share 30 = .ok (.ireturn, 1) := by decide +kernel
theorem dX12_share_31 : decode cX12_share 31 = .ok (.iconst 0, 1) := by decide +kernel
theorem dX12_share_32 : decode cX12_share 32 = .ok (.istore_n 3, 1) := by decide +kernel
theorem dX12_share_33 : decode cX12_share 33 = .ok (.aload_n 0, 1) := by decide +kernel
theorem dX12_share_34 : decode cX12_share 34 = .ok (.aload_n 0, 1) := by decide +kernel
theorem dX12_share_35 : decode cX12_share 35 = .ok (.getfield 69, 3) := by decide +kernel
theorem dX12_share_38 : decode cX12_share 38 = .ok (.iconst 1, 1) := by decide +kernel
theorem dX12_share_39 : decode cX12_share 39 = .ok (.iaload, 1) := by decide +kernel
theorem dX12_share_40 : decode cX12_share 40 = .ok (.invokevirtual 425, 3) := by decide +kernel
theorem dX12_share_43 : decode cX12_share 43 = .ok (.pop, 1) := by decide +kernel
theorem dX12_share_44 : decode cX12_share 44 = .ok (.iconst 0, 1) := by decide +kernel
theorem dX12_share_45 : decode cX12_share 45 = .ok (.istore 4, 2) := by decide +kernel
theorem dX12_share_47 : decode cX12_share 47 = .ok (.iload 4, 2) := by decide +kernel
theorem dX12_share_49 : decode cX12_share 49 = .ok (.aload_n 0, 1) := by decide +kernel
theorem dX12_share_50 : decode cX12_share 50 = .ok (.getfield 434, 3) := by decide +kernel
theorem dX12_share_53 : decode cX12_share 53 = .ok (.if_icmp .ge 40, 3) := by decide +kernel
theorem dX12_share_56 : decode cX12_share 56 = .ok (.aload_n 0, 1) := by decide +kernel
theorem dX12_share_57 : decode cX12_share 57 = .ok (.getfield 96, 3) := by decide +kernel
theorem dX12_share_60 : decode cX12_share 60 = .ok (.iload 4, 2) := by decide +kernel
theorem dX12_share_62 : decode cX12_share 62 = .ok (.iaload, 1) := by decide +kernel
theorem dX12_share_63 : decode cX12_share 63 = .ok (.ifCond .le 24, 3) := by decide +kernel
theorem dX12_share_66 : decode cX12_share 66 = .ok (.aload_n 0, 1) := by decide +kernel
theorem dX12_share_67 : decode cX12_share 67 = .ok (.getfield 75, 3) := by decide +kernel
theorem dX12_share_70 : decode cX12_share 70 = .ok (.aload_n 0, 1) := by decide +kernel
theorem dX12_share_71 : decode cX12_share 71 = .ok (.getfield 96, 3) := by decide +kernel
theorem dX12_share_74 : decode cX12_share 74 = .ok (.iload 4, 2) := by decide +kernel
theorem dX12_share_76 : decode cX12_share 76 = .ok (.iaload, 1) := by decide +kernel
theorem dX12_share_77 : decode cX12_share 77 = .ok (.iconst 1, 1) := by decide +kernel
theorem dX12_share_78 : decode cX12_share 78 = .ok (.isub, 1) := by decide +kernel
theorem dX12_share_79 : decode cX12_share 79 = .ok (.iaload, 1) := by decide +kernel
theorem dX12_share_80 : decode cX12_share 80 = .ok (.iload_n 1, 1) := by decide +kernel
theorem dX12_share_81 : decode cX12_share 81 = .ok (.if_icmp .ne 6, 3) := by decide +kernel
theorem dX12_share_84 : decode cX12_share 84 = .ok (.iinc 3 1, 3) := by decide +kernel
theorem dX12_share_87 : decode cX12_share 87 = .ok (.iinc 4 1, 3) := by decide +kernel
theorem dX12_share_90 : decode cX12_share 90 = .ok (.goto (-43), 3) := by decide +kernel
theorem dX12_share_93 : decode cX12_share 93 = .ok (.iload_n 3, 1) := by decide +kernel
theorem dX12_share_94 : decode cX12_share 94 = .ok (.ireturn, 1) := by decide +kernel
theorem dX12_together_0 : decode cX12_together 0 = .ok (.aload_n 0, 1) := by decide +kernel
theorem dX12_together_1 : decode cX12_together 1 = .ok (.iload_n 1, 1) := by decide +kernel
theorem dX12_together_2 : decode cX12_together 2 = .ok (.invokevirtual 458, 3) := by decide +kernel
theorem dX12_together_5 : decode cX12_together 5 = .ok (.ifCond .eq 26, 3) := by decide +kernel
theorem dX12_together_8 : decode cX12_together 8 = .ok (.aload_n 0, 1) := by decide +kernel
theorem dX12_together_9 : decode cX12_together 9 = .ok (.iload_n 2, 1) := by decide +kernel
theorem dX12_together_10 : decode cX12_together 10 = .ok (.invokevirtual 458, 3) := by decide +kernel
theorem dX12_together_13 : decode cX12_together 13 = .ok (.ifCond .eq 18, 3) := by decide +kernel
theorem dX12_together_16 : decode cX12_together 16 = .ok (.iload_n 1, 1) := by decide +kernel
theorem dX12_together_17 : decode cX12_together 17 = .ok (.iload_n 2, 1) := by decide +kernel
theorem dX12_together_18 : decode cX12_together 18 = .ok (.if_icmp .gt 13, 3) := by decide +kernel
theorem dX12_together_21 : decode cX12_together 21 = .ok (.iload_n 3, 1) := by decide +kernel
theorem dX12_together_22 : decode cX12_together 22 = .ok (.iconst (-1), 1) := by decide +kernel
theorem dX12_together_23 : decode cX12_together 23 = .ok (.if_icmp .lt 8, 3) := by decide +kernel
theorem dX12_together_26 : decode cX12_together 26 = .ok (.iload 4, 2) := by decide +kernel
theorem dX12_together_28 : decode cX12_together 28 = .ok (.ifCond .ge 5, 3) := by decide +kernel
theorem dX12_together_31 : decode cX12_together 31 = .ok (.iconst (-1), 1) := by decide +kernel
theorem dX12_together_32 : decode cX12_together 32 = .ok (.ireturn, 1) := by decide +kernel
theorem dX12_together_33 : decode cX12_together 33 = .ok (.aload_n 0, 1) := by decide +kernel
theorem dX12_together_34 : decode cX12_together 34 = .ok (.iload_n 1, 1) := by decide +kernel
theorem dX12_together_35 : decode cX12_together 35 = .ok (.iconst 1, 1) := by decide +kernel
theorem dX12_together_36 : decode cX12_together 36 = .ok (.isub, 1) := by decide +kernel
theorem dX12_together_37 : decode cX12_together 37 = .ok (.invokevirtual 461, 3) := by decide +kernel
theorem dX12_together_40 : decode cX12_together 40 = .ok (.iload_n 1, 1) := by decide +kernel
theorem dX12_together_41 : decode cX12_together 41 = .ok (.istore 5, 2) := by decide +kernel
theorem dX12_together_43 : decode cX12_together 43 = .ok (.iload 5, 2) := by decide +kernel
theorem dX12_together_45 : decode cX12_together 45 = .ok (.iload_n 2, 1) := by decide +kernel
theorem dX12_together_46 : decode cX12_together 46 = .ok (.if_icmp .ge 23, 3) := by decide +kernel
theorem dX12_together_49 : decode cX12_together 49 = .ok (.aload_n 0, 1) := by decide +kernel
theorem dX12_together_50 : decode cX12_together 50 = .ok (.iload 5, 2) := by decide +kernel
theorem dX12_together_52 : decode cX12_together 52 = .ok (.invokevirtual 307, 3) := by decide +kernel
theorem dX12_together_55 : decode cX12_together 55 = .ok (.aload_n 0, 1) := by decide +kernel
theorem dX12_together_56 : decode cX12_together 56 = .ok (.invokevirtual 301, 3) := by decide +kernel
theorem dX12_together_59 : decode cX12_together 59 = .ok (.aload_n 0, 1) := by decide +kernel
theorem dX12_together_60 : decode cX12_together 60 = .ok (.invokevirtual 304, 3) := by decide +kernel
theorem dX12_together_63 : decode cX12_together 63 = .ok (.iinc 5 1, 3) := by decide +kernel
theorem dX12_together_66 : decode cX12_together 66 = .ok (.goto (-23), 3) := by decide +kernel
theorem dX12_together_69 : decode cX12_together 69 = .ok (.aload_n 0, 1) := by decide +kernel
theorem dX12_together_70 : decode cX12_together 70 = .ok (.iload_n 3, 1) := by decide +kernel
theorem dX12_together_71 : decode cX12_together 71 = .ok (.iload 4, 2) := by decide +kernel
theorem dX12_together_73 : decode cX12_together 73 = .ok (.invokevirtual 452, 3) := by decide +kernel
theorem dX12_together_76 : decode cX12_together 76 = .ok (.istore 5, 2) := by decide +kernel
theorem dX12_together_78 : decode cX12_together 78 = .ok (.iload_n 3, 1) := by decide +kernel
theorem dX12_together_79 : decode cX12_together 79 = .ok (.iconst (-1), 1) := by decide +kernel
theorem dX12_together_80 : decode cX12_together 80 = .ok (.if_icmp .eq 8, 3) := by decide +kernel
theorem dX12_together_83 : decode cX12_together 83 = .ok (.iload 5, 2) := by decide +kernel
theorem dX12_together_85 : decode cX12_together 85 = .ok (.goto 17, 3) := by decide +kernel
theorem dX12_together_88 : decode cX12_together 88 = .ok (.iload 4, 2) := by decide +kernel
theorem dX12_together_90 : decode cX12_together 90 = .ok (.iconst 1, 1) := by decide +kernel
theorem dX12_together_91 : decode cX12_together 91 = .ok (.if_icmp .ne 10, 3) := by decide +kernel
theorem dX12_together_94 : decode cX12_together 94 = .ok (.aload_n 0, 1) := by decide +kernel
theorem dX12_together_95 : decode cX12_together 95 = .ok (.getfield 443, 3) := by decide +kernel
theorem dX12_together_98 : decode cX12_together 98 = .ok (.goto 4, 3) := by decide +kernel
theorem dX12_together_101 : decode cX12_together 101 = .ok (.iconst (-1), 1) := by decide +kernel
theorem dX12_together_102 : decode cX12_together 102 = .ok (.ireturn, 1) := by decide +kernel
theorem dX12_without_0 : decode cX12_without 0 = .ok (.aload_n 0, 1) := by decide +kernel
theorem dX12_without_1 : decode cX12_without 1 = .ok (.iload_n 1, 1) := by decide +kernel
theorem dX12_without_2 : decode cX12_without 2 = .ok (.invokevirtual 458, 3) := by decide +kernel
theorem dX12_without_5 : decode cX12_without 5 = .ok (.ifCond .eq 8, 3) := by decide +kernel
theorem dX12_without_8 : decode cX12_without 8 = .ok (.iload_n 2, 1) := by decide +kernel
theorem dX12_without_9 : decode cX12_without 9 = .ok (.iconst (-1), 1) := by decide +kernel
theorem dX12_without_10 : decode cX12_without 10 = .ok (.if_icmp .ge 5, 3) := by decide +kernel
theorem dX12_without_13 : decode cX12_without 13 = .ok (.iconst (-1), 1) := by decide +kernel
theorem dX12_without_14 : decode cX12_without 14 = .ok (.ireturn, 1) := by decide +kernel
theorem dX12_without_15 : decode cX12_without 15 = .ok (.aload_n 0, 1) := by decide +kernel
theorem dX12_without_16 : decode cX12_without 16 = .ok (.iload_n 1, 1) := by decide +kernel
theorem dX12_without_17 : decode cX12_without 17 = .ok (.iconst 1, 1) := by decide +kernel
theorem dX12_without_18 : decode cX12_without 18 = .ok (.isub, 1) := by decide +kernel
theorem dX12_without_19 : decode cX12_without 19 = .ok (.invokevirtual 425, 3) := by decide +kernel
theorem dX12_without_22 : decode cX12_without 22 = .ok (.pop, 1) := by decide +kernel
theorem dX12_without_23 : decode cX12_without 23 = .ok (.aload_n 0, 1) := by decide +kernel
theorem dX12_without_24 : decode cX12_without 24 = .ok (.iload_n 1, 1) := by decide +kernel
theorem dX12_without_25 : decode cX12_without 25 = .ok (.iconst 1, 1) := by decide +kernel
theorem dX12_without_26 : decode cX12_without 26 = .ok (.isub, 1) := by decide +kernel
theorem dX12_without_27 : decode cX12_without 27 = .ok (.invokevirtual 461, 3) := by decide +kernel
theorem dX12_without_30 : decode cX12_without 30 = .ok (.aload_n 0, 1) := by decide +kernel
theorem dX12_without_31 : decode cX12_without 31 = .ok (.aload_n 0, 1) := by decide +kernel
theorem dX12_without_32 : decode cX12_without 32 = .ok (.getfield 93, 3) := by decide +kernel
theorem dX12_without_35 : decode cX12_without 35 = .ok (.iconst 0, 1) := by decide +kernel
theorem dX12_without_36 : decode cX12_without 36 = .ok (.invokevirtual 284, 3) := by decide +kernel
theorem dX12_without_39 : decode cX12_without 39 = .ok (.aload_n 0, 1) := by decide +kernel
theorem dX12_without_40 : decode cX12_without 40 = .ok (.invokevirtual 304, 3) := by decide +kernel
theorem dX12_without_43 : decode cX12_without 43 = .ok (.iload_n 1, 1) := by decide +kernel
theorem dX12_without_44 : decode cX12_without 44 = .ok (.istore_n 3, 1) := by decide +kernel
theorem dX12_without_45 : decode cX12_without 45 = .ok (.iload_n 3, 1) := by decide +kernel
theorem dX12_without_46 : decode cX12_without 46 = .ok (.aload_n 0, 1) := by decide +kernel
theorem dX12_without_47 : decode cX12_without 47 = .ok (.getfield 69, 3) := by decide +kernel
theorem dX12_without_50 : decode cX12_without 50 = .ok (.iconst 1, 1) := by decide +kernel
theorem dX12_without_51 : decode cX12_without 51 = .ok (.iaload, 1) := by decide +kernel
theorem dX12_without_52 : decode cX12_without 52 = .ok (.if_icmp .ge 40, 3) := by decide +kernel
theorem dX12_without_55 : decode cX12_without 55 = .ok (.aload_n 0, 1) := by decide +kernel
theorem dX12_without_56 : decode cX12_without 56 = .ok (.iload_n 3, 1) := by decide +kernel
theorem dX12_without_57 : decode cX12_without 57 = .ok (.invokevirtual 307, 3) := by decide +kernel
theorem dX12_without_60 : decode cX12_without 60 = .ok (.aload_n 0, 1) := by decide +kernel
theorem dX12_without_61 : decode cX12_without 61 = .ok (.aload_n 0, 1) := by decide +kernel
theorem dX12_without_62 : decode cX12_without 62 = .ok (.aload_n 0, 1) := by decide +kernel
theorem dX12_without_63 : decode cX12_without 63 = .ok (.getfield 75, 3) := by decide +kernel
theorem dX12_without_66 : decode cX12_without 66 = .ok (.iload_n 1, 1) := by decide +kernel
theorem dX12_without_67 : decode cX12_without 67 = .ok (.iconst 1, 1) := by decide +kernel
theorem dX12_without_68 : decode cX12_without 68 = .ok (.isub, 1) := by decide +kernel
theorem dX12_without_69 : decode cX12_without 69 = .ok (.iaload, 1) := by decide +kernel
theorem dX12_without_70 : decode cX12_without 70 = .ok (.aload_n 0, 1) := by decide +kernel
theorem dX12_without_71 : decode cX12_without 71 = .ok (.getfield 75, 3) := by decide +kernel
theorem dX12_without_74 : decode cX12_without 74 = .ok (.iload_n 3, 1) := by decide +kernel
theorem dX12_without_75 : decode cX12_without 75 = .ok (.iaload, 1) := by decide +kernel
theorem dX12_without_76 : decode cX12_without 76 = .ok (.invokevirtual 252, 3) := by decide +kernel
theorem dX12_without_79 : decode cX12_without 79 = .ok (.invokevirtual 256, 3) := by decide +kernel
theorem dX12_without_82 : decode cX12_without 82 = .ok (.aload_n 0, 1) := by decide +kernel
theorem dX12_without_83 : decode cX12_without 83 = .ok (.invokevirtual 304, 3) := by decide +kernel
theorem dX12_without_86 : decode cX12_without 86 = .ok (.iinc 3 1, 3) := by decide +kernel
theorem dX12_without_89 : decode cX12_without 89 = .ok (.goto (-44), 3) := by decide +kernel
theorem dX12_without_92 : decode cX12_without 92 = .ok (.aload_n 0, 1) := by decide +kernel
theorem dX12_without_93 : decode cX12_without 93 = .ok (.aload_n 0, 1) := by decide +kernel
theorem dX12_without_94 : decode cX12_without 94 = .ok (.getfield 69, 3) := by decide +kernel
theorem dX12_without_97 : decode cX12_without 97 = .ok (.iconst 1, 1) := by decide +kernel
theorem dX12_without_98 : decode cX12_without 98 = .ok (.iaload, 1) := by decide +kernel
theorem dX12_without_99 : decode cX12_without 99 = .ok (.invokevirtual 425, 3) := by decide +kernel
theorem dX12_without_102 : decode cX12_without 102 = .ok (.pop, 1) := by decide +kernel
theorem dX12_without_103 : decode cX12_without 103 = .ok (.aload_n 0, 1) := by decide +kernel
theorem dX12_without_104 : decode cX12_without 104 = .ok (.aload_n 0, 1) := by decide +kernel
theorem dX12_without_105 : decode cX12_without 105 = .ok (.getfield 93, 3) := by decide +kernel
theorem dX12_without_108 : decode cX12_without 108 = .ok (.iconst 0, 1) := by decide +kernel
theorem dX12_without_109 : decode cX12_without 109 = .ok (.aload_n 0, 1) := by decide +kernel
theorem dX12_without_110 : decode cX12_without 110 = .ok (.getfield 51, 3) := by decide +kernel
theorem dX12_without_113 : decode cX12_without 113 = .ok (.aload_n 0, 1) := by decide +kernel
theorem dX12_without_114 : decode cX12_without 114 = .ok (.getfield 195, 3) := by decide +kernel
theorem dX12_without_117 : decode cX12_without 117 = .ok (.invokevirtual 267, 3) := by decide +kernel
theorem dX12_without_120 : decode cX12_without 120 = .ok (.istore_n 3, 1) := by decide +kernel
theorem dX12_without_121 : decode cX12_without 121 = .ok (.iload_n 2, 1) := by decide +kernel
theorem dX12_without_122 : decode cX12_without 122 = .ok (.iconst (-1), 1) := by decide +kernel
theorem dX12_without_123 : decode cX12_without 123 = .ok (.if_icmp .ne 7, 3) := by decide +kernel
theorem dX12_without_126 : decode cX12_without 126 = .ok (.iload_n 3, 1) := by decide +kernel
theorem dX12_without_127 : decode cX12_without 127 = .ok (.goto 18, 3) := by decide +kernel
theorem dX12_without_130 : decode cX12_without 130 = .ok (.iload_n 2, 1) := by decide +kernel
theorem dX12_without_131 : decode cX12_without 131 = .ok (.iload_n 3, 1) := by decide +kernel
theorem dX12_without_132 : decode cX12_without 132 = .ok (.if_icmp .ge 12, 3) := by decide +kernel
theorem dX12_without_135 : decode cX12_without 135 = .ok (.aload_n 0, 1) := by decide +kernel
theorem dX12_without_136 : decode cX12_without 136 = .ok (.getfield 93, 3) := by decide +kernel
theorem dX12_without_139 : decode cX12_without 139 = .ok (.iload_n 2, 1) := by decide +kernel
theorem dX12_without_140 : decode cX12_without 140 = .ok (.iaload, 1) := by decide +kernel
theorem dX12_without_141 : decode cX12_without 141 = .ok (.goto 4, 3) := by decide +kernel
theorem dX12_without_144 : decode cX12_without 144 = .ok (.iconst (-1), 1) := by decide +kernel
theorem dX12_without_145 : decode cX12_without 145 = .ok (.ireturn, 1) := by decide +kernel
theorem dX12_putsAside_0 : decode cX12_putsAside 0 = .ok (.iconst 0, 1) := by decide +kernel
theorem dX12_putsAside_1 : decode cX12_putsAside 1 = .ok (.istore_n 1, 1) := by decide +kernel
theorem dX12_putsAside_2 : decode cX12_putsAside 2 = .ok (.iload_n 1, 1) := by decide +kernel
theorem dX12_putsAside_3 : decode cX12_putsAside 3 = .ok (.sipush 10476, 3) := by decide +kernel
theorem dX12_putsAside_6 : decode cX12_putsAside 6 = .ok (.if_icmp .ge 21, 3) := by decide +kernel
theorem dX12_putsAside_9 : decode cX12_putsAside 9 = .ok (.aload_n 0, 1) := by decide +kernel
theorem dX12_putsAside_10 : decode cX12_putsAside 10 = .ok (.getfield 102, 3) := by decide +kernel
theorem dX12_putsAside_13 : decode cX12_putsAside 13 = .ok (.iload_n 1, 1) := by decide +kernel
theorem dX12_putsAside_14 : decode cX12_putsAside 14 = .ok (.aload_n 0, 1) := by decide +kernel
theorem dX12_putsAside_15 : decode cX12_putsAside 15 = .ok (.getfield 69, 3) := by decide +kernel
theorem dX12_putsAside_18 : decode cX12_putsAside 18 = .ok (.iload_n 1, 1) := by decide +kernel
theorem dX12_putsAside_19 : decode cX12_putsAside 19 = .ok (.iaload, 1) := by decide +kernel
theorem dX12_putsAside_20 : decode cX12_putsAside 20 = .ok (.iastore, 1) := by decide +kernel
theorem dX12_putsAside_21 : decode cX12_putsAside 21 = .ok (.iinc 1 1, 3) := by decide +kernel
theorem dX12_putsAside_24 : decode cX12_putsAside 24 = .ok (.goto (-22), 3) := by decide +kernel
theorem dX12_putsAside_27 : decode cX12_putsAside 27 = .ok (.return_, 1) := by decide +kernel
theorem dX12_takesBack_0 : decode cX12_takesBack 0 = .ok (.iconst 0, 1) := by decide +kernel
theorem dX12_takesBack_1 : decode cX12_takesBack 1 = .ok (.istore_n 1, 1) := by decide +kernel
theorem dX12_takesBack_2 : decode cX12_takesBack 2 = .ok (.iload_n 1, 1) := by decide +kernel
theorem dX12_takesBack_3 : decode cX12_takesBack 3 = .ok (.sipush 10476, 3) := by decide +kernel
theorem dX12_takesBack_6 : decode cX12_takesBack 6 = .ok (.if_icmp .ge 21, 3) := by decide +kernel
theorem dX12_takesBack_9 : decode cX12_takesBack 9 = .ok (.aload_n 0, 1) := by decide +kernel
theorem dX12_takesBack_10 : decode cX12_takesBack 10 = .ok (.getfield 69, 3) := by decide +kernel
theorem dX12_takesBack_13 : decode cX12_takesBack 13 = .ok (.iload_n 1, 1) := by decide +kernel
theorem dX12_takesBack_14 : decode cX12_takesBack 14 = .ok (.aload_n 0, 1) := by decide +kernel
theorem dX12_takesBack_15 : decode cX12_takesBack 15 = .ok (.getfield 102, 3) := by decide +kernel
theorem dX12_takesBack_18 : decode cX12_takesBack 18 = .ok (.iload_n 1, 1) := by decide +kernel
theorem dX12_takesBack_19 : decode cX12_takesBack 19 = .ok (.iaload, 1) := by decide +kernel
theorem dX12_takesBack_20 : decode cX12_takesBack 20 = .ok (.iastore, 1) := by decide +kernel
theorem dX12_takesBack_21 : decode cX12_takesBack 21 = .ok (.iinc 1 1, 3) := by decide +kernel
theorem dX12_takesBack_24 : decode cX12_takesBack 24 = .ok (.goto (-22), 3) := by decide +kernel
theorem dX12_takesBack_27 : decode cX12_takesBack 27 = .ok (.return_, 1) := by decide +kernel
theorem dX12_quiet_0 : decode cX12_quiet 0 = .ok (.aload_n 0, 1) := by decide +kernel
theorem dX12_quiet_1 : decode cX12_quiet 1 = .ok (.getfield 211, 3) := by decide +kernel
theorem dX12_quiet_4 : decode cX12_quiet 4 = .ok (.ifCond .ne 5, 3) := by decide +kernel
theorem dX12_quiet_7 : decode cX12_quiet 7 = .ok (.iconst (-1), 1) := by decide +kernel
theorem dX12_quiet_8 : decode cX12_quiet 8 = .ok (.ireturn, 1) := by decide +kernel
theorem dX12_quiet_9 : decode cX12_quiet 9 = .ok (.iconst 0, 1) := by decide +kernel
theorem dX12_quiet_10 : decode cX12_quiet 10 = .ok (.istore_n 1, 1) := by decide +kernel
theorem dX12_quiet_11 : decode cX12_quiet 11 = .ok (.aload_n 0, 1) := by decide +kernel
theorem dX12_quiet_12 : decode cX12_quiet 12 = .ok (.invokevirtual 469, 3) := by decide +kernel
theorem dX12_quiet_15 : decode cX12_quiet 15 = .ok (.aload_n 0, 1) := by decide +kernel
theorem dX12_quiet_16 : decode cX12_quiet 16 = .ok (.invokevirtual 428, 3) := by decide +kernel
theorem dX12_quiet_19 : decode cX12_quiet 19 = .ok (.ifCond .le 31, 3) := by decide +kernel
theorem dX12_quiet_22 : decode cX12_quiet 22 = .ok (.iload_n 1, 1) := by decide +kernel
theorem dX12_quiet_23 : decode cX12_quiet 23 = .ok (.bipush 99, 2) := by decide +kernel
theorem dX12_quiet_25 : decode cX12_quiet 25 = .ok (.if_icmp .ge 25, 3) := by decide +kernel
theorem dX12_quiet_28 : decode cX12_quiet 28 = .ok (.aload_n 0, 1) := by decide +kernel
theorem dX12_quiet_29 : decode cX12_quiet 29 = .ok (.getfield 69, 3) := by decide +kernel
theorem dX12_quiet_32 : decode cX12_quiet 32 = .ok (.iconst 0, 1) := by decide +kernel
theorem dX12_quiet_33 : decode cX12_quiet 33 = .ok (.iaload, 1) := by decide +kernel
theorem dX12_quiet_34 : decode cX12_quiet 34 = .ok (.sipush 999, 3) := by decide +kernel
theorem dX12_quiet_37 : decode cX12_quiet 37 = .ok (.if_icmp .ge 13, 3) := by decide +kernel
theorem dX12_quiet_40 : decode cX12_quiet 40 = .ok (.aload_n 0, 1) := by decide +kernel
theorem dX12_quiet_41 : decode cX12_quiet 41 = .ok (.invokevirtual 332, 3) := by decide +kernel
theorem dX12_quiet_44 : decode cX12_quiet 44 = .ok (.iinc 1 1, 3) := by decide +kernel
theorem dX12_quiet_47 : decode cX12_quiet 47 = .ok (.goto (-32), 3) := by decide +kernel
theorem dX12_quiet_50 : decode cX12_quiet 50 = .ok (.aload_n 0, 1) := by decide +kernel
theorem dX12_quiet_51 : decode cX12_quiet 51 = .ok (.invokevirtual 428, 3) := by decide +kernel
theorem dX12_quiet_54 : decode cX12_quiet 54 = .ok (.ifCond .ne 7, 3) := by decide +kernel
theorem dX12_quiet_57 : decode cX12_quiet 57 = .ok (.iconst 1, 1) := by decide +kernel
theorem dX12_quiet_58 : decode cX12_quiet 58 = .ok (.goto 4, 3) := by decide +kernel
theorem dX12_quiet_61 : decode cX12_quiet 61 = .ok (.iconst 0, 1) := by decide +kernel
theorem dX12_quiet_62 : decode cX12_quiet 62 = .ok (.istore_n 2, 1) := by decide +kernel
theorem dX12_quiet_63 : decode cX12_quiet 63 = .ok (.aload_n 0, 1) := by decide +kernel
theorem dX12_quiet_64 : decode cX12_quiet 64 = .ok (.invokevirtual 472, 3) := by decide +kernel
theorem dX12_quiet_67 : decode cX12_quiet 67 = .ok (.iload_n 2, 1) := by decide +kernel
theorem dX12_quiet_68 : decode cX12_quiet 68 = .ok (.ifCond .eq 7, 3) := by decide +kernel
theorem dX12_quiet_71 : decode cX12_quiet 71 = .ok (.iload_n 1, 1) := by decide +kernel
theorem dX12_quiet_72 : decode cX12_quiet 72 = .ok (.goto 4, 3) := by decide +kernel
theorem dX12_quiet_75 : decode cX12_quiet 75 = .ok (.iconst (-1), 1) := by decide +kernel
theorem dX12_quiet_76 : decode cX12_quiet 76 = .ok (.ireturn, 1) := by decide +kernel
theorem dX12_later_0 : decode cX12_later 0 = .ok (.aload_n 0, 1) := by decide +kernel
theorem dX12_later_1 : decode cX12_later 1 = .ok (.getfield 211, 3) := by decide +kernel
theorem dX12_later_4 : decode cX12_later 4 = .ok (.ifCond .eq 34, 3) := by decide +kernel
theorem dX12_later_7 : decode cX12_later 7 = .ok (.iload_n 1, 1) := by decide +kernel
theorem dX12_later_8 : decode cX12_later 8 = .ok (.i2l, 1) := by decide +kernel
theorem dX12_later_9 : decode cX12_later 9 = .ok (.lconst 0, 1) := by decide +kernel
theorem dX12_later_10 : decode cX12_later 10 = .ok (.ldc2_w 475, 3) := by decide +kernel
theorem dX12_later_13 : decode cX12_later 13 = .ok (.invokestatic 139, 3) := by decide +kernel
theorem dX12_later_16 : decode cX12_later 16 = .ok (.ifCond .eq 22, 3) := by decide +kernel
theorem dX12_later_19 : decode cX12_later 19 = .ok (.aload_n 0, 1) := by decide +kernel
theorem dX12_later_20 : decode cX12_later 20 = .ok (.getfield 69, 3) := by decide +kernel
theorem dX12_later_23 : decode cX12_later 23 = .ok (.iconst 0, 1) := by decide +kernel
theorem dX12_later_24 : decode cX12_later 24 = .ok (.iaload, 1) := by decide +kernel
theorem dX12_later_25 : decode cX12_later 25 = .ok (.iload_n 1, 1) := by decide +kernel
theorem dX12_later_26 : decode cX12_later 26 = .ok (.iadd, 1) := by decide +kernel
theorem dX12_later_27 : decode cX12_later 27 = .ok (.sipush 999, 3) := by decide +kernel
theorem dX12_later_30 : decode cX12_later 30 = .ok (.if_icmp .gt 8, 3) := by decide +kernel
theorem dX12_later_33 : decode cX12_later 33 = .ok (.iload_n 2, 1) := by decide +kernel
theorem dX12_later_34 : decode cX12_later 34 = .ok (.iconst (-1), 1) := by decide +kernel
theorem dX12_later_35 : decode cX12_later 35 = .ok (.if_icmp .ge 5, 3) := by decide +kernel
theorem dX12_later_38 : decode cX12_later 38 = .ok (.iconst (-1), 1) := by decide +kernel
theorem dX12_later_39 : decode cX12_later 39 = .ok (.ireturn, 1) := by decide +kernel
theorem dX12_later_40 : decode cX12_later 40 = .ok (.aload_n 0, 1) := by decide +kernel
theorem dX12_later_41 : decode cX12_later 41 = .ok (.invokevirtual 469, 3) := by decide +kernel
theorem dX12_later_44 : decode cX12_later 44 = .ok (.aload_n 0, 1) := by decide +kernel
theorem dX12_later_45 : decode cX12_later 45 = .ok (.iload_n 1, 1) := by decide +kernel
theorem dX12_later_46 : decode cX12_later 46 = .ok (.invokevirtual 419, 3) := by decide +kernel
theorem dX12_later_49 : decode cX12_later 49 = .ok (.aload_n 0, 1) := by decide +kernel
theorem dX12_later_50 : decode cX12_later 50 = .ok (.aload_n 0, 1) := by decide +kernel
theorem dX12_later_51 : decode cX12_later 51 = .ok (.getfield 69, 3) := by decide +kernel
theorem dX12_later_54 : decode cX12_later 54 = .ok (.iconst 1, 1) := by decide +kernel
theorem dX12_later_55 : decode cX12_later 55 = .ok (.iaload, 1) := by decide +kernel
theorem dX12_later_56 : decode cX12_later 56 = .ok (.invokevirtual 425, 3) := by decide +kernel
theorem dX12_later_59 : decode cX12_later 59 = .ok (.pop, 1) := by decide +kernel
theorem dX12_later_60 : decode cX12_later 60 = .ok (.aload_n 0, 1) := by decide +kernel
theorem dX12_later_61 : decode cX12_later 61 = .ok (.invokevirtual 472, 3) := by decide +kernel
theorem dX12_later_64 : decode cX12_later 64 = .ok (.iload_n 2, 1) := by decide +kernel
theorem dX12_later_65 : decode cX12_later 65 = .ok (.iconst (-1), 1) := by decide +kernel
theorem dX12_later_66 : decode cX12_later 66 = .ok (.if_icmp .ne 10, 3) := by decide +kernel
theorem dX12_later_69 : decode cX12_later 69 = .ok (.aload_n 0, 1) := by decide +kernel
theorem dX12_later_70 : decode cX12_later 70 = .ok (.getfield 434, 3) := by decide +kernel
theorem dX12_later_73 : decode cX12_later 73 = .ok (.goto 21, 3) := by decide +kernel
theorem dX12_later_76 : decode cX12_later 76 = .ok (.iload_n 2, 1) := by decide +kernel
theorem dX12_later_77 : decode cX12_later 77 = .ok (.aload_n 0, 1) := by decide +kernel
theorem dX12_later_78 : decode cX12_later 78 = .ok (.getfield 434, 3) := by decide +kernel
theorem dX12_later_81 : decode cX12_later 81 = .ok (.if_icmp .ge 12, 3) := by decide +kernel
theorem dX12_later_84 : decode cX12_later 84 = .ok (.aload_n 0, 1) := by decide +kernel
theorem dX12_later_85 : decode cX12_later 85 = .ok (.getfield 93, 3) := by decide +kernel
theorem dX12_later_88 : decode cX12_later 88 = .ok (.iload_n 2, 1) := by decide +kernel
theorem dX12_later_89 : decode cX12_later 89 = .ok (.iaload, 1) := by decide +kernel
theorem dX12_later_90 : decode cX12_later 90 = .ok (.goto 4, 3) := by decide +kernel
theorem dX12_later_93 : decode cX12_later 93 = .ok (.iconst (-1), 1) := by decide +kernel
theorem dX12_later_94 : decode cX12_later 94 = .ok (.ireturn, 1) := by decide +kernel
theorem dX12_isOnWay_0 : decode cX12_isOnWay 0 = .ok (.iload_n 1, 1) := by decide +kernel
theorem dX12_isOnWay_1 : decode cX12_isOnWay 1 = .ok (.aload_n 0, 1) := by decide +kernel
theorem dX12_isOnWay_2 : decode cX12_isOnWay 2 = .ok (.getfield 215, 3) := by decide +kernel
theorem dX12_isOnWay_5 : decode cX12_isOnWay 5 = .ok (.if_icmp .ge 18, 3) := by decide +kernel
theorem dX12_isOnWay_8 : decode cX12_isOnWay 8 = .ok (.aload_n 0, 1) := by decide +kernel
theorem dX12_isOnWay_9 : decode cX12_isOnWay 9 = .ok (.iload_n 1, 1) := by decide +kernel
theorem dX12_isOnWay_10 : decode cX12_isOnWay 10 = .ok (.bipush 19, 2) := by decide +kernel
theorem dX12_isOnWay_12 : decode cX12_isOnWay 12 = .ok (.invokevirtual 246, 3) := by decide +kernel
theorem dX12_isOnWay_15 : decode cX12_isOnWay 15 = .ok (.iconst (-1), 1) := by decide +kernel
theorem dX12_isOnWay_16 : decode cX12_isOnWay 16 = .ok (.if_icmp .eq 7, 3) := by decide +kernel
theorem dX12_isOnWay_19 : decode cX12_isOnWay 19 = .ok (.iconst 1, 1) := by decide +kernel
theorem dX12_isOnWay_20 : decode cX12_isOnWay 20 = .ok (.goto 4, 3) := by decide +kernel
theorem dX12_isOnWay_23 : decode cX12_isOnWay 23 = .ok (.iconst 0, 1) := by decide +kernel
theorem dX12_isOnWay_24 : decode cX12_isOnWay 24 = .ok (.ireturn, 1) := by decide +kernel
theorem dX12_isOrder_0 : decode cX12_isOrder 0 = .ok (.iconst 0, 1) := by decide +kernel
theorem dX12_isOrder_1 : decode cX12_isOrder 1 = .ok (.istore_n 3, 1) := by decide +kernel
theorem dX12_isOrder_2 : decode cX12_isOrder 2 = .ok (.iconst 0, 1) := by decide +kernel
theorem dX12_isOrder_3 : decode cX12_isOrder 3 = .ok (.istore 4, 2) := by decide +kernel
theorem dX12_isOrder_5 : decode cX12_isOrder 5 = .ok (.iload 4, 2) := by decide +kernel
theorem dX12_isOrder_7 : decode cX12_isOrder 7 = .ok (.iload_n 2, 1) := by decide +kernel
theorem dX12_isOrder_8 : decode cX12_isOrder 8 = .ok (.if_icmp .ge 51, 3) := by decide +kernel
theorem dX12_isOrder_11 : decode cX12_isOrder 11 = .ok (.iload_n 1, 1) := by decide +kernel
theorem dX12_isOrder_12 : decode cX12_isOrder 12 = .ok (.iconst 2, 1) := by decide +kernel
theorem dX12_isOrder_13 : decode cX12_isOrder 13 = .ok (.iload_n 2, 1) := by decide +kernel
theorem dX12_isOrder_14 : decode cX12_isOrder 14 = .ok (.iconst 1, 1) := by decide +kernel
