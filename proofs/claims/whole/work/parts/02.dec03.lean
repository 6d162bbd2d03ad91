theorem dX11_editor_145 : decode cX11_editor 145 = .ok (.aload_n 3, 1) := by decide +kernel
theorem dX11_editor_146 : decode cX11_editor 146 = .ok (.getfield 189, 3) := by decide +kernel
theorem dX11_editor_149 : decode cX11_editor 149 = .ok (.getfield 186, 3) := by decide +kernel
theorem dX11_editor_152 : decode cX11_editor 152 = .ok (.ireturn, 1) := by decide +kernel
theorem dX11_editor_153 : decode cX11_editor 153 = .ok (.aload_n 3, 1) := by decide +kernel
theorem dX11_editor_154 : decode cX11_editor 154 = .ok (.getfield 192, 3) := by decide +kernel
theorem dX11_editor_157 : decode cX11_editor 157 = .ok (.ifCond .eq 7, 3) := by decide +kernel
theorem dX11_editor_160 : decode cX11_editor 160 = .ok (.iconst 1, 1) := by decide +kernel
theorem dX11_editor_161 : decode cX11_editor 161 = .ok (.goto 4, 3) := by decide +kernel
theorem dX11_editor_164 : decode cX11_editor 164 = .ok (.iconst 0, 1) := by decide +kernel
theorem dX11_editor_165 : decode cX11_editor 165 = .ok (.ireturn, 1) := by decide +kernel
theorem dX11_editor_166 : decode cX11_editor 166 = .ok (.aload_n 3, 1) := by decide +kernel
theorem dX11_editor_167 : decode cX11_editor 167 = .ok (.getfield 195, 3) := by decide +kernel
theorem dX11_editor_170 : decode cX11_editor 170 = .ok (.ireturn, 1) := by decide +kernel
theorem dX11_editor_171 : decode cX11_editor 171 = .ok (.aload_n 0, 1) := by decide +kernel
theorem dX11_editor_172 : decode cX11_editor 172 = .ok (.getfield 35, 3) := by decide +kernel
theorem dX11_editor_175 : decode cX11_editor 175 = .ok (.getfield 125, 3) := by decide +kernel
theorem dX11_editor_178 : decode cX11_editor 178 = .ok (.aload_n 3, 1) := by decide +kernel
theorem dX11_editor_179 : decode cX11_editor 179 = .ok (.getfield 166, 3) := by decide +kernel
theorem dX11_editor_182 : decode cX11_editor 182 = .ok (.isub, 1) := by decide +kernel
theorem dX11_editor_183 : decode cX11_editor 183 = .ok (.ireturn, 1) := by decide +kernel
theorem dX11_editor_184 : decode cX11_editor 184 = .ok (.aload_n 3, 1) := by decide +kernel
theorem dX11_editor_185 : decode cX11_editor 185 = .ok (.getfield 198, 3) := by decide +kernel
theorem dX11_editor_188 : decode cX11_editor 188 = .ok (.ireturn, 1) := by decide +kernel
theorem dX11_editor_189 : decode cX11_editor 189 = .ok (.iconst (-1), 1) := by decide +kernel
theorem dX11_editor_190 : decode cX11_editor 190 = .ok (.ireturn, 1) := by decide +kernel
theorem dX11_letter_0 : decode cX11_letter 0 = .ok (.iload_n 2, 1) := by decide +kernel
theorem dX11_letter_1 : decode cX11_letter 1 = .ok (.ifCond .ge 5, 3) := by decide +kernel
theorem dX11_letter_4 : decode cX11_letter 4 = .ok (.iconst (-1), 1) := by decide +kernel
theorem dX11_letter_5 : decode cX11_letter 5 = .ok (.ireturn, 1) := by decide +kernel
theorem dX11_letter_6 : decode cX11_letter 6 = .ok (.iload_n 1, 1) := by decide +kernel
theorem dX11_letter_7 : decode cX11_letter 7 = .ok (.iconst (-1), 1) := by decide +kernel
theorem dX11_letter_8 : decode cX11_letter 8 = .ok (.if_icmp .ne 15, 3) := by decide +kernel
theorem dX11_letter_11 : decode cX11_letter 11 = .ok (.aload_n 0, 1) := by decide +kernel
theorem dX11_letter_12 : decode cX11_letter 12 = .ok (.getfield 35, 3) := by decide +kernel
theorem dX11_letter_15 : decode cX11_letter 15 = .ok (.getfield 128, 3) := by decide +kernel
theorem dX11_letter_18 : decode cX11_letter 18 = .ok (.iload_n 2, 1) := by decide +kernel
theorem dX11_letter_19 : decode cX11_letter 19 = .ok (.invokevirtual 201, 3) := by decide +kernel
theorem dX11_letter_22 : decode cX11_letter 22 = .ok (.ireturn, 1) := by decide +kernel
theorem dX11_letter_23 : decode cX11_letter 23 = .ok (.aload_n 0, 1) := by decide +kernel
theorem dX11_letter_24 : decode cX11_letter 24 = .ok (.getfield 35, 3) := by decide +kernel
theorem dX11_letter_27 : decode cX11_letter 27 = .ok (.iload_n 1, 1) := by decide +kernel
theorem dX11_letter_28 : decode cX11_letter 28 = .ok (.invokevirtual 154, 3) := by decide +kernel
theorem dX11_letter_31 : decode cX11_letter 31 = .ok (.ifCond .eq 22, 3) := by decide +kernel
theorem dX11_letter_34 : decode cX11_letter 34 = .ok (.aload_n 0, 1) := by decide +kernel
theorem dX11_letter_35 : decode cX11_letter 35 = .ok (.getfield 35, 3) := by decide +kernel
theorem dX11_letter_38 : decode cX11_letter 38 = .ok (.getfield 157, 3) := by decide +kernel
theorem dX11_letter_41 : decode cX11_letter 41 = .ok (.iload_n 1, 1) := by decide +kernel
theorem dX11_letter_42 : decode cX11_letter 42 = .ok (.aaload, 1) := by decide +kernel
theorem dX11_letter_43 : decode cX11_letter 43 = .ok (.getfield 161, 3) := by decide +kernel
theorem dX11_letter_46 : decode cX11_letter 46 = .ok (.iload_n 2, 1) := by decide +kernel
theorem dX11_letter_47 : decode cX11_letter 47 = .ok (.invokevirtual 201, 3) := by decide +kernel
theorem dX11_letter_50 : decode cX11_letter 50 = .ok (.goto 4, 3) := by decide +kernel
theorem dX11_letter_53 : decode cX11_letter 53 = .ok (.iconst (-1), 1) := by decide +kernel
theorem dX11_letter_54 : decode cX11_letter 54 = .ok (.ireturn, 1) := by decide +kernel
theorem dX11_step_0 : decode cX11_step 0 = .ok (.aload_n 0, 1) := by decide +kernel
theorem dX11_step_1 : decode cX11_step 1 = .ok (.getfield 35, 3) := by decide +kernel
theorem dX11_step_4 : decode cX11_step 4 = .ok (.iload_n 1, 1) := by decide +kernel
theorem dX11_step_5 : decode cX11_step 5 = .ok (.invokevirtual 154, 3) := by decide +kernel
theorem dX11_step_8 : decode cX11_step 8 = .ok (.ifCond .ne 5, 3) := by decide +kernel
theorem dX11_step_11 : decode cX11_step 11 = .ok (.iconst (-1), 1) := by decide +kernel
theorem dX11_step_12 : decode cX11_step 12 = .ok (.ireturn, 1) := by decide +kernel
theorem dX11_step_13 : decode cX11_step 13 = .ok (.aload_n 0, 1) := by decide +kernel
theorem dX11_step_14 : decode cX11_step 14 = .ok (.getfield 35, 3) := by decide +kernel
theorem dX11_step_17 : decode cX11_step 17 = .ok (.getfield 157, 3) := by decide +kernel
theorem dX11_step_20 : decode cX11_step 20 = .ok (.iload_n 1, 1) := by decide +kernel
theorem dX11_step_21 : decode cX11_step 21 = .ok (.aaload, 1) := by decide +kernel
theorem dX11_step_22 : decode cX11_step 22 = .ok (.astore 5, 2) := by decide +kernel
theorem dX11_step_24 : decode cX11_step 24 = .ok (.iload_n 2, 1) := by decide +kernel
theorem dX11_step_25 : decode cX11_step 25 = .ok (.tableswitch 103 0 3 #[31, 55, 79, 91], 31) := by decide +kernel
theorem dX11_step_56 : decode cX11_step 56 = .ok (.aload 5, 2) := by decide +kernel
theorem dX11_step_58 : decode cX11_step 58 = .ok (.getfield 172, 3) := by decide +kernel
theorem dX11_step_61 : decode cX11_step 61 = .ok (.ifCond .eq 17, 3) := by decide +kernel
theorem dX11_step_64 : decode cX11_step 64 = .ok (.aload 5, 2) := by decide +kernel
theorem dX11_step_66 : decode cX11_step 66 = .ok (.getfield 204, 3) := by decide +kernel
theorem dX11_step_69 : decode cX11_step 69 = .ok (.iload_n 3, 1) := by decide +kernel
theorem dX11_step_70 : decode cX11_step 70 = .ok (.iload 4, 2) := by decide +kernel
theorem dX11_step_72 : decode cX11_step 72 = .ok (.invokevirtual 207, 3) := by decide +kernel
theorem dX11_step_75 : decode cX11_step 75 = .ok (.goto 4, 3) := by decide +kernel
theorem dX11_step_78 : decode cX11_step 78 = .ok (.iconst (-1), 1) := by decide +kernel
theorem dX11_step_79 : decode cX11_step 79 = .ok (.ireturn, 1) := by decide +kernel
theorem dX11_step_80 : decode cX11_step 80 = .ok (.aload 5, 2) := by decide +kernel
theorem dX11_step_82 : decode cX11_step 82 = .ok (.getfield 176, 3) := by decide +kernel
theorem dX11_step_85 : decode cX11_step 85 = .ok (.ifCond .eq 17, 3) := by decide +kernel
theorem dX11_step_88 : decode cX11_step 88 = .ok (.aload 5, 2) := by decide +kernel
theorem dX11_step_90 : decode cX11_step 90 = .ok (.getfield 210, 3) := by decide +kernel
theorem dX11_step_93 : decode cX11_step 93 = .ok (.iload_n 3, 1) := by decide +kernel
theorem dX11_step_94 : decode cX11_step 94 = .ok (.iload 4, 2) := by decide +kernel
theorem dX11_step_96 : decode cX11_step 96 = .ok (.invokevirtual 207, 3) := by decide +kernel
theorem dX11_step_99 : decode cX11_step 99 = .ok (.goto 4, 3) := by decide +kernel
theorem dX11_step_102 : decode cX11_step 102 = .ok (.iconst (-1), 1) := by decide +kernel
theorem dX11_step_103 : decode cX11_step 103 = .ok (.ireturn, 1) := by decide +kernel
theorem dX11_step_104 : decode cX11_step 104 = .ok (.aload 5, 2) := by decide +kernel
theorem dX11_step_106 : decode cX11_step 106 = .ok (.getfield 182, 3) := by decide +kernel
theorem dX11_step_109 : decode cX11_step 109 = .ok (.iload_n 3, 1) := by decide +kernel
theorem dX11_step_110 : decode cX11_step 110 = .ok (.iload 4, 2) := by decide +kernel
theorem dX11_step_112 : decode cX11_step 112 = .ok (.invokevirtual 213, 3) := by decide +kernel
theorem dX11_step_115 : decode cX11_step 115 = .ok (.ireturn, 1) := by decide +kernel
theorem dX11_step_116 : decode cX11_step 116 = .ok (.aload 5, 2) := by decide +kernel
theorem dX11_step_118 : decode cX11_step 118 = .ok (.getfield 189, 3) := by decide +kernel
theorem dX11_step_121 : decode cX11_step 121 = .ok (.iload_n 3, 1) := by decide +kernel
theorem dX11_step_122 : decode cX11_step 122 = .ok (.iload 4, 2) := by decide +kernel
theorem dX11_step_124 : decode cX11_step 124 = .ok (.invokevirtual 213, 3) := by decide +kernel
theorem dX11_step_127 : decode cX11_step 127 = .ok (.ireturn, 1) := by decide +kernel
theorem dX11_step_128 : decode cX11_step 128 = .ok (.iconst (-1), 1) := by decide +kernel
theorem dX11_step_129 : decode cX11_step 129 = .ok (.ireturn, 1) := by decide +kernel
theorem dX11_row_0 : decode cX11_row 0 = .ok (.aload_n 0, 1) := by decide +kernel
theorem dX11_row_1 : decode cX11_row 1 = .ok (.iload_n 1, 1) := by decide +kernel
theorem dX11_row_2 : decode cX11_row 2 = .ok (.invokevirtual 216, 3) := by decide +kernel
theorem dX11_row_5 : decode cX11_row 5 = .ok (.ifCond .ne 5, 3) := by decide +kernel
theorem dX11_row_8 : decode cX11_row 8 = .ok (.iconst (-1), 1) := by decide +kernel
theorem dX11_row_9 : decode cX11_row 9 = .ok (.ireturn, 1) := by decide +kernel
theorem dX11_row_10 : decode cX11_row 10 = .ok (.aload_n 0, 1) := by decide +kernel
theorem dX11_row_11 : decode cX11_row 11 = .ok (.getfield 26, 3) := by decide +kernel
theorem dX11_row_14 : decode cX11_row 14 = .ok (.getfield 219, 3) := by decide +kernel
theorem dX11_row_17 : decode cX11_row 17 = .ok (.iload_n 1, 1) := by decide +kernel
theorem dX11_row_18 : decode cX11_row 18 = .ok (.iconst 1, 1) := by decide +kernel
theorem dX11_row_19 : decode cX11_row 19 = .ok (.isub, 1) := by decide +kernel
theorem dX11_row_20 : decode cX11_row 20 = .ok (.aaload, 1) := by decide +kernel
theorem dX11_row_21 : decode cX11_row 21 = .ok (.astore 4, 2) := by decide +kernel
theorem dX11_row_23 : decode cX11_row 23 = .ok (.iload_n 2, 1) := by decide +kernel
theorem dX11_row_24 : decode cX11_row 24 = .ok (.iconst (-1), 1) := by decide +kernel
theorem dX11_row_25 : decode cX11_row 25 = .ok (.if_icmp .eq 11, 3) := by decide +kernel
theorem dX11_row_28 : decode cX11_row 28 = .ok (.aload 4, 2) := by decide +kernel
theorem dX11_row_30 : decode cX11_row 30 = .ok (.iload_n 2, 1) := by decide +kernel
theorem dX11_row_31 : decode cX11_row 31 = .ok (.iload_n 3, 1) := by decide +kernel
theorem dX11_row_32 : decode cX11_row 32 = .ok (.invokevirtual 207, 3) := by decide +kernel
theorem dX11_row_35 : decode cX11_row 35 = .ok (.ireturn, 1) := by decide +kernel
theorem dX11_row_36 : decode cX11_row 36 = .ok (.iload_n 3, 1) := by decide +kernel
theorem dX11_row_37 : decode cX11_row 37 = .ok (.ifCond .ne 15, 3) := by decide +kernel
theorem dX11_row_40 : decode cX11_row 40 = .ok (.aload_n 0, 1) := by decide +kernel
theorem dX11_row_41 : decode cX11_row 41 = .ok (.getfield 26, 3) := by decide +kernel
theorem dX11_row_44 : decode cX11_row 44 = .ok (.getfield 222, 3) := by decide +kernel
theorem dX11_row_47 : decode cX11_row 47 = .ok (.iload_n 1, 1) := by decide +kernel
theorem dX11_row_48 : decode cX11_row 48 = .ok (.iconst 1, 1) := by decide +kernel
theorem dX11_row_49 : decode cX11_row 49 = .ok (.isub, 1) := by decide +kernel
theorem dX11_row_50 : decode cX11_row 50 = .ok (.iaload, 1) := by decide +kernel
theorem dX11_row_51 : decode cX11_row 51 = .ok (.ireturn, 1) := by decide +kernel
theorem dX11_row_52 : decode cX11_row 52 = .ok (.iload_n 3, 1) := by decide +kernel
theorem dX11_row_53 : decode cX11_row 53 = .ok (.iconst 1, 1) := by decide +kernel
theorem dX11_row_54 : decode cX11_row 54 = .ok (.if_icmp .ne 11, 3) := by decide +kernel
theorem dX11_row_57 : decode cX11_row 57 = .ok (.aload 4, 2) := by decide +kernel
theorem dX11_row_59 : decode cX11_row 59 = .ok (.invokevirtual 225, 3) := by decide +kernel
theorem dX11_row_62 : decode cX11_row 62 = .ok (.goto 4, 3) := by decide +kernel
theorem dX11_row_65 : decode cX11_row 65 = .ok (.iconst (-1), 1) := by decide +kernel
theorem dX11_row_66 : decode cX11_row 66 = .ok (.ireturn, 1) := by decide +kernel
theorem dX11_mark_0 : decode cX11_mark 0 = .ok (.aload_n 0, 1) := by decide +kernel
theorem dX11_mark_1 : decode cX11_mark 1 = .ok (.getfield 35, 3) := by decide +kernel
theorem dX11_mark_4 : decode cX11_mark 4 = .ok (.iload_n 1, 1) := by decide +kernel
theorem dX11_mark_5 : decode cX11_mark 5 = .ok (.invokevirtual 154, 3) := by decide +kernel
theorem dX11_mark_8 : decode cX11_mark 8 = .ok (.ifCond .eq 12, 3) := by decide +kernel
theorem dX11_mark_11 : decode cX11_mark 11 = .ok (.iload_n 3, 1) := by decide +kernel
theorem dX11_mark_12 : decode cX11_mark 12 = .ok (.ifCond .lt 8, 3) := by decide +kernel
theorem dX11_mark_15 : decode cX11_mark 15 = .ok (.iload_n 3, 1) := by decide +kernel
theorem dX11_mark_16 : decode cX11_mark 16 = .ok (.iconst 2, 1) := by decide +kernel
theorem dX11_mark_17 : decode cX11_mark 17 = .ok (.if_icmp .le 5, 3) := by decide +kernel
theorem dX11_mark_20 : decode cX11_mark 20 = .ok (.iconst (-1), 1) := by decide +kernel
theorem dX11_mark_21 : decode cX11_mark 21 = .ok (.ireturn, 1) := by decide +kernel
theorem dX11_mark_22 : decode cX11_mark 22 = .ok (.aload_n 0, 1) := by decide +kernel
theorem dX11_mark_23 : decode cX11_mark 23 = .ok (.getfield 35, 3) := by decide +kernel
theorem dX11_mark_26 : decode cX11_mark 26 = .ok (.getfield 157, 3) := by decide +kernel
theorem dX11_mark_29 : decode cX11_mark 29 = .ok (.iload_n 1, 1) := by decide +kernel
theorem dX11_mark_30 : decode cX11_mark 30 = .ok (.aaload, 1) := by decide +kernel
theorem dX11_mark_31 : decode cX11_mark 31 = .ok (.astore 4, 2) := by decide +kernel
theorem dX11_mark_33 : decode cX11_mark 33 = .ok (.aload 4, 2) := by decide +kernel
theorem dX11_mark_35 : decode cX11_mark 35 = .ok (.iload_n 2, 1) := by decide +kernel
theorem dX11_mark_36 : decode cX11_mark 36 = .ok (.invokevirtual 228, 3) := by decide +kernel
theorem dX11_mark_39 : decode cX11_mark 39 = .ok (.ifCond .eq 17, 3) := by decide +kernel
theorem dX11_mark_42 : decode cX11_mark 42 = .ok (.aload 4, 2) := by decide +kernel
theorem dX11_mark_44 : decode cX11_mark 44 = .ok (.getfield 231, 3) := by decide +kernel
theorem dX11_mark_47 : decode cX11_mark 47 = .ok (.iconst 3, 1) := by decide +kernel
theorem dX11_mark_48 : decode cX11_mark 48 = .ok (.iload_n 2, 1) := by decide +kernel
theorem dX11_mark_49 : decode cX11_mark 49 = .ok (.imul, 1) := by decide +kernel
theorem dX11_mark_50 : decode cX11_mark 50 = .ok (.iload_n 3, 1) := by decide +kernel
theorem dX11_mark_51 : decode cX11_mark 51 = .ok (.iadd, 1) := by decide +kernel
theorem dX11_mark_52 : decode cX11_mark 52 = .ok (.iaload, 1) := by decide +kernel
theorem dX11_mark_53 : decode cX11_mark 53 = .ok (.goto 4, 3) := by decide +kernel
theorem dX11_mark_56 : decode cX11_mark 56 = .ok (.iconst (-1), 1) := by decide +kernel
theorem dX11_mark_57 : decode cX11_mark 57 = .ok (.ireturn, 1) := by decide +kernel
theorem dX11_was_0 : decode cX11_was 0 = .ok (.aload_n 0, 1) := by decide +kernel
theorem dX11_was_1 : decode cX11_was 1 = .ok (.getfield 35, 3) := by decide +kernel
theorem dX11_was_4 : decode cX11_was 4 = .ok (.getfield 124, 3) := by decide +kernel
theorem dX11_was_7 : decode cX11_was 7 = .ok (.ifCond .eq 18, 3) := by decide +kernel
theorem dX11_was_10 : decode cX11_was 10 = .ok (.iload_n 1, 1) := by decide +kernel
theorem dX11_was_11 : decode cX11_was 11 = .ok (.ifCond .lt 14, 3) := by decide +kernel
theorem dX11_was_14 : decode cX11_was 14 = .ok (.iload_n 1, 1) := by decide +kernel
theorem dX11_was_15 : decode cX11_was 15 = .ok (.aload_n 0, 1) := by decide +kernel
theorem dX11_was_16 : decode cX11_was 16 = .ok (.getfield 35, 3) := by decide +kernel
theorem dX11_was_19 : decode cX11_was 19 = .ok (.getfield 125, 3) := by decide +kernel
theorem dX11_was_22 : decode cX11_was 22 = .ok (.if_icmp .le 5, 3) := by decide +kernel
theorem dX11_was_25 : decode cX11_was 25 = .ok (.iconst (-1), 1) := by decide +kernel
theorem dX11_was_26 : decode cX11_was 26 = .ok (.ireturn, 1) := by decide +kernel
theorem dX11_was_27 : decode cX11_was 27 = .ok (.aload_n 0, 1) := by decide +kernel
theorem dX11_was_28 : decode cX11_was 28 = .ok (.iload_n 1, 1) := by decide +kernel
theorem dX11_was_29 : decode cX11_was 29 = .ok (.invokevirtual 234, 3) := by decide +kernel
theorem dX11_was_32 : decode cX11_was 32 = .ok (.aload_n 0, 1) := by decide +kernel
theorem dX11_was_33 : decode cX11_was 33 = .ok (.getfield 69, 3) := by decide +kernel
theorem dX11_was_36 : decode cX11_was 36 = .ok (.iload_n 2, 1) := by decide +kernel
theorem dX11_was_37 : decode cX11_was 37 = .ok (.invokevirtual 201, 3) := by decide +kernel
theorem dX11_was_40 : decode cX11_was 40 = .ok (.ireturn, 1) := by decide +kernel
theorem dX11_by_0 : decode cX11_by 0 = .ok (.aload_n 0, 1) := by decide +kernel
theorem dX11_by_1 : decode cX11_by 1 = .ok (.getfield 35, 3) := by decide +kernel
theorem dX11_by_4 : decode cX11_by 4 = .ok (.getfield 128, 3) := by decide +kernel
theorem dX11_by_7 : decode cX11_by 7 = .ok (.iload_n 1, 1) := by decide +kernel
theorem dX11_by_8 : decode cX11_by 8 = .ok (.invokevirtual 237, 3) := by decide +kernel
theorem dX11_by_11 : decode cX11_by 11 = .ok (.ifCond .eq 12, 3) := by decide +kernel
theorem dX11_by_14 : decode cX11_by 14 = .ok (.iload_n 2, 1) := by decide +kernel
theorem dX11_by_15 : decode cX11_by 15 = .ok (.ifCond .lt 8, 3) := by decide +kernel
theorem dX11_by_18 : decode cX11_by 18 = .ok (.iload_n 2, 1) := by decide +kernel
theorem dX11_by_19 : decode cX11_by 19 = .ok (.iconst 1, 1) := by decide +kernel
theorem dX11_by_20 : decode cX11_by 20 = .ok (.if_icmp .le 5, 3) := by decide +kernel
theorem dX11_by_23 : decode cX11_by 23 = .ok (.iconst (-1), 1) := by decide +kernel
theorem dX11_by_24 : decode cX11_by 24 = .ok (.ireturn, 1) := by decide +kernel
theorem dX11_by_25 : decode cX11_by 25 = .ok (.aload_n 0, 1) := by decide +kernel
theorem dX11_by_26 : decode cX11_by 26 = .ok (.getfield 35, 3) := by decide +kernel
theorem dX11_by_29 : decode cX11_by 29 = .ok (.getfield 128, 3) := by decide +kernel
theorem dX11_by_32 : decode cX11_by 32 = .ok (.iload_n 1, 1) := by decide +kernel
theorem dX11_by_33 : decode cX11_by 33 = .ok (.invokevirtual 240, 3) := by decide +kernel
theorem dX11_by_36 : decode cX11_by 36 = .ok (.istore_n 3, 1) := by decide +kernel
theorem dX11_by_37 : decode cX11_by 37 = .ok (.iload_n 2, 1) := by decide +kernel
theorem dX11_by_38 : decode cX11_by 38 = .ok (.ifCond .ne 7, 3) := by decide +kernel
theorem dX11_by_41 : decode cX11_by 41 = .ok (.iload_n 3, 1) := by decide +kernel
theorem dX11_by_42 : decode cX11_by 42 = .ok (.goto 11, 3) := by decide +kernel
theorem dX11_by_45 : decode cX11_by 45 = .ok (.aload_n 0, 1) := by decide +kernel
theorem dX11_by_46 : decode cX11_by 46 = .ok (.getfield 35, 3) := by decide +kernel
theorem dX11_by_49 : decode cX11_by 49 = .ok (.iload_n 3, 1) := by decide +kernel
theorem dX11_by_50 : decode cX11_by 50 = .ok (.invokevirtual 243, 3) := by decide +kernel
theorem dX11_by_53 : decode cX11_by 53 = .ok (.ireturn, 1) := by decide +kernel
theorem dX11_share_0 : decode cX11_share 0 = .ok (.aload_n 0, 1) := by decide +kernel
theorem dX11_share_1 : decode cX11_share 1 = .ok (.getfield 35, 3) := by decide +kernel
theorem dX11_share_4 : decode cX11_share 4 = .ok (.iload_n 1, 1) := by decide +kernel
theorem dX11_share_5 : decode cX11_share 5 = .ok (.invokevirtual 154, 3) := by decide +kernel
theorem dX11_share_8 : decode cX11_share 8 = .ok (.ifCond .ne 5, 3) := by decide +kernel
theorem dX11_share_11 : decode cX11_share 11 = .ok (.iconst (-1), 1) := by decide +kernel
theorem dX11_share_12 : decode cX11_share 12 = .ok (.ireturn, 1) := by decide +kernel
theorem dX11_share_13 : decode cX11_share 13 = .ok (.iload_n 2, 1) := by decide +kernel
theorem dX11_share_14 : decode cX11_share 14 = .ok (.ifCond .ne 12, 3) := by decide +kernel
theorem dX11_share_17 : decode cX11_share 17 = .ok (.aload_n 0, 1) := by decide +kernel
theorem dX11_share_18 : decode cX11_share 18 = .ok (.getfield 35, 3) := by decide +kernel
theorem dX11_share_21 : decode cX11_share 21 = .ok (.iload_n 1, 1) := by decide +kernel
theorem dX11_share_22 : decode cX11_share 22 = .ok (.invokevirtual 246, 3) := by decide +kernel
theorem dX11_share_25 : decode cX11_share 25 = .ok (.ireturn, 1) := by decide +kernel
theorem dX11_share_26 : decode cX11_share 26 = .ok (.iload_n 2, 1) := by decide +kernel
theorem dX11_share_27 : decode cX11_share 27 = .ok (.iconst 1, 1) := by decide +kernel
theorem dX11_share_28 : decode cX11_share 28 = .ok (.if_icmp .ne 15, 3) := by decide +kernel
theorem dX11_share_31 : decode cX11_share 31 = .ok (.aload_n 0, 1) := by decide +kernel
theorem dX11_share_32 : decode cX11_share 32 = .ok (.getfield 35, 3) := by decide +kernel
theorem dX11_share_35 : decode cX11_share 35 = .ok (.getfield 249, 3) := by decide +kernel
theorem dX11_share_38 : decode cX11_share 38 = .ok (.iload_n 1, 1) := by decide +kernel
theorem dX11_share_39 : decode cX11_share 39 = .ok (.iaload, 1) := by decide +kernel
theorem dX11_share_40 : decode cX11_share 40 = .ok (.goto 4, 3) := by decide +kernel
theorem dX11_share_43 : decode cX11_share 43 = .ok (.iconst (-1), 1) := by decide +kernel
theorem dX11_share_44 : decode cX11_share 44 = .ok (.ireturn, 1) := by decide +kernel
theorem dX11_together_0 : decode cX11_together 0 = .ok (.aload_n 0, 1) := by decide +kernel
theorem dX11_together_1 : decode cX11_together 1 = .ok (.iload_n 1, 1) := by decide +kernel
theorem dX11_together_2 : decode cX11_together 2 = .ok (.invokevirtual 216, 3) := by decide +kernel
theorem dX11_together_5 : decode cX11_together 5 = .ok (.ifCond .eq 16, 3) := by decide +kernel
theorem dX11_together_8 : decode cX11_together 8 = .ok (.aload_n 0, 1) := by decide +kernel
theorem dX11_together_9 : decode cX11_together 9 = .ok (.iload_n 2, 1) := by decide +kernel
theorem dX11_together_10 : decode cX11_together 10 = .ok (.invokevirtual 216, 3) := by decide +kernel
theorem dX11_together_13 : decode cX11_together 13 = .ok (.ifCond .eq 8, 3) := by decide +kernel
theorem dX11_together_16 : decode cX11_together 16 = .ok (.iload_n 1, 1) := by decide +kernel
theorem dX11_together_17 : decode cX11_together 17 = .ok (.iload_n 2, 1) := by decide +kernel
theorem dX11_together_18 : decode cX11_together 18 = .ok (.if_icmp .le 5, 3) := by decide +kernel
theorem dX11_together_21 : decode cX11_together 21 = .ok (.iconst (-1), 1) := by decide +kernel
theorem dX11_together_22 : decode cX11_together 22 = .ok (.ireturn, 1) := by decide +kernel
theorem dX11_together_23 : decode cX11_together 23 = .ok (.aload_n 0, 1) := by decide +kernel
theorem dX11_together_24 : decode cX11_together 24 = .ok (.getfield 59, 3) := by decide +kernel
theorem dX11_together_27 : decode cX11_together 27 = .ok (.aload_n 0, 1) := by decide +kernel
theorem dX11_together_28 : decode cX11_together 28 = .ok (.getfield 26, 3) := by decide +kernel
theorem dX11_together_31 : decode cX11_together 31 = .ok (.getfield 219, 3) := by decide +kernel
theorem dX11_together_34 : decode cX11_together 34 = .ok (.iload_n 1, 1) := by decide +kernel
theorem dX11_together_35 : decode cX11_together 35 = .ok (.iconst 1, 1) := by decide +kernel
theorem dX11_together_36 : decode cX11_together 36 = .ok (.isub, 1) := by decide +kernel
theorem dX11_together_37 : decode cX11_together 37 = .ok (.aaload, 1) := by decide +kernel
theorem dX11_together_38 : decode cX11_together 38 = .ok (.invokevirtual 252, 3) := by decide +kernel
theorem dX11_together_41 : decode cX11_together 41 = .ok (.iload_n 1, 1) := by decide +kernel
theorem dX11_together_42 : decode cX11_together 42 = .ok (.istore 5, 2) := by decide +kernel
theorem dX11_together_44 : decode cX11_together 44 = .ok (.iload 5, 2) := by decide +kernel
theorem dX11_together_46 : decode cX11_together 46 = .ok (.iload_n 2, 1) := by decide +kernel
theorem dX11_together_47 : decode cX11_together 47 = .ok (.if_icmp .ge 30, 3) := by decide +kernel
theorem dX11_together_50 : decode cX11_together 50 = .ok (.aload_n 0, 1) := by decide +kernel
theorem dX11_together_51 : decode cX11_together 51 = .ok (.getfield 19, 3) := by decide +kernel
theorem dX11_together_54 : decode cX11_together 54 = .ok (.aload_n 0, 1) := by decide +kernel
theorem dX11_together_55 : decode cX11_together 55 = .ok (.getfield 59, 3) := by decide +kernel
theorem dX11_together_58 : decode cX11_together 58 = .ok (.aload_n 0, 1) := by decide +kernel
theorem dX11_together_59 : decode cX11_together 59 = .ok (.getfield 26, 3) := by decide +kernel
theorem dX11_together_62 : decode cX11_together 62 = .ok (.getfield 219, 3) := by decide +kernel
theorem dX11_together_65 : decode cX11_together 65 = .ok (.iload 5, 2) := by decide +kernel
theorem dX11_together_67 : decode cX11_together 67 = .ok (.aaload, 1) := by decide +kernel
theorem dX11_together_68 : decode cX11_together 68 = .ok (.invokevirtual 256, 3) := by decide +kernel
theorem dX11_together_71 : decode cX11_together 71 = .ok (.iinc 5 1, 3) := by decide +kernel
theorem dX11_together_74 : decode cX11_together 74 = .ok (.goto (-30), 3) := by decide +kernel
theorem dX11_together_77 : decode cX11_together 77 = .ok (.iload_n 3, 1) := by decide +kernel
theorem dX11_together_78 : decode cX11_together 78 = .ok (.iconst (-1), 1) := by decide +kernel
theorem dX11_together_79 : decode cX11_together 79 = .ok (.if_icmp .eq 14, 3) := by decide +kernel
theorem dX11_together_82 : decode cX11_together 82 = .ok (.aload_n 0, 1) := by decide +kernel
theorem dX11_together_83 : decode cX11_together 83 = .ok (.getfield 59, 3) := by decide +kernel
theorem dX11_together_86 : decode cX11_together 86 = .ok (.iload_n 3, 1) := by decide +kernel
theorem dX11_together_87 : decode cX11_together 87 = .ok (.iload 4, 2) := by decide +kernel
theorem dX11_together_89 : decode cX11_together 89 = .ok (.invokevirtual 207, 3) := by decide +kernel
theorem dX11_together_92 : decode cX11_together 92 = .ok (.ireturn, 1) := by decide +kernel
theorem dX11_together_93 : decode cX11_together 93 = .ok (.iload 4, 2) := by decide +kernel
theorem dX11_together_95 : decode cX11_together 95 = .ok (.iconst 1, 1) := by decide +kernel
theorem dX11_together_96 : decode cX11_together 96 = .ok (.if_icmp .ne 13, 3) := by decide +kernel
theorem dX11_together_99 : decode cX11_together 99 = .ok (.aload_n 0, 1) := by decide +kernel
theorem dX11_together_100 : decode cX11_together 100 = .ok (.getfield 59, 3) := by decide +kernel
theorem dX11_together_103 : decode cX11_together 103 = .ok (.invokevirtual 225, 3) := by decide +kernel
theorem dX11_together_106 : decode cX11_together 106 = .ok (.goto 4, 3) := by decide +kernel
theorem dX11_together_109 : decode cX11_together 109 = .ok (.iconst (-1), 1) := by decide +kernel
theorem dX11_together_110 : decode cX11_together 110 = .ok (.ireturn, 1) := by decide +kernel
theorem dX11_without_0 : decode cX11_without 0 = .ok (.aload_n 0, 1) := by decide +kernel
theorem dX11_without_1 : decode cX11_without 1 = .ok (.iload_n 1, 1) := by decide +kernel
theorem dX11_without_2 : decode cX11_without 2 = .ok (.invokevirtual 216, 3) := by decide +kernel
theorem dX11_without_5 : decode cX11_without 5 = .ok (.ifCond .ne 5, 3) := by decide +kernel
theorem dX11_without_8 : decode cX11_without 8 = .ok (.iconst (-1), 1) := by decide +kernel
theorem dX11_without_9 : decode cX11_without 9 = .ok (.ireturn, 1) := by decide +kernel
theorem dX11_without_10 : decode cX11_without 10 = .ok (.aload_n 0, 1) := by decide +kernel
theorem dX11_without_11 : decode cX11_without 11 = .ok (.iload_n 1, 1) := by decide +kernel
theorem dX11_without_12 : decode cX11_without 12 = .ok (.iconst 1, 1) := by decide +kernel
theorem dX11_without_13 : decode cX11_without 13 = .ok (.isub, 1) := by decide +kernel
theorem dX11_without_14 : decode cX11_without 14 = .ok (.invokevirtual 234, 3) := by decide +kernel
theorem dX11_without_17 : decode cX11_without 17 = .ok (.aload_n 0, 1) := by decide +kernel
theorem dX11_without_18 : decode cX11_without 18 = .ok (.getfield 59, 3) := by decide +kernel
theorem dX11_without_21 : decode cX11_without 21 = .ok (.astore_n 3, 1) := by decide +kernel
theorem dX11_without_22 : decode cX11_without 22 = .ok (.aload_n 0, 1) := by decide +kernel
theorem dX11_without_23 : decode cX11_without 23 = .ok (.getfield 19, 3) := by decide +kernel
theorem dX11_without_26 : decode cX11_without 26 = .ok (.aload_n 0, 1) := by decide +kernel
theorem dX11_without_27 : decode cX11_without 27 = .ok (.getfield 26, 3) := by decide +kernel
theorem dX11_without_30 : decode cX11_without 30 = .ok (.getfield 219, 3) := by decide +kernel
theorem dX11_without_33 : decode cX11_without 33 = .ok (.iload_n 1, 1) := by decide +kernel
theorem dX11_without_34 : decode cX11_without 34 = .ok (.iconst 1, 1) := by decide +kernel
theorem dX11_without_35 : decode cX11_without 35 = .ok (.isub, 1) := by decide +kernel
theorem dX11_without_36 : decode cX11_without 36 = .ok (.aaload, 1) := by decide +kernel
theorem dX11_without_37 : decode cX11_without 37 = .ok (.aload_n 0, 1) := by decide +kernel
theorem dX11_without_38 : decode cX11_without 38 = .ok (.getfield 69, 3) := by decide +kernel
theorem dX11_without_41 : decode cX11_without 41 = .ok (.aload_n 3, 1) := by decide +kernel
theorem dX11_without_42 : decode cX11_without 42 = .ok (.invokevirtual 260, 3) := by decide +kernel
theorem dX11_without_45 : decode cX11_without 45 = .ok (.aload_n 0, 1) := by decide +kernel
theorem dX11_without_46 : decode cX11_without 46 = .ok (.getfield 26, 3) := by decide +kernel
theorem dX11_without_49 : decode cX11_without 49 = .ok (.getfield 222, 3) := by decide +kernel
theorem dX11_without_52 : decode cX11_without 52 = .ok (.iload_n 1, 1) := by decide +kernel
theorem dX11_without_53 : decode cX11_without 53 = .ok (.iconst 1, 1) := by decide +kernel
theorem dX11_without_54 : decode cX11_without 54 = .ok (.isub, 1) := by decide +kernel
theorem dX11_without_55 : decode cX11_without 55 = .ok (.iaload, 1) := by decide +kernel
theorem dX11_without_56 : decode cX11_without 56 = .ok (.istore 4, 2) := by decide +kernel
theorem dX11_without_58 : decode cX11_without 58 = .ok (.iload_n 1, 1) := by decide +kernel
theorem dX11_without_59 : decode cX11_without 59 = .ok (.istore 5, 2) := by decide +kernel
theorem dX11_without_61 : decode cX11_without 61 = .ok (.iload 5, 2) := by decide +kernel
theorem dX11_without_63 : decode cX11_without 63 = .ok (.aload_n 0, 1) := by decide +kernel
theorem dX11_without_64 : decode cX11_without 64 = .ok (.getfield 35, 3) := by decide +kernel
theorem dX11_without_67 : decode cX11_without 67 = .ok (.getfield 125, 3) := by decide +kernel
theorem dX11_without_70 : decode cX11_without 70 = .ok (.if_icmp .ge 57, 3) := by decide +kernel
theorem dX11_without_73 : decode cX11_without 73 = .ok (.aload_n 0, 1) := by decide +kernel
theorem dX11_without_74 : decode cX11_without 74 = .ok (.getfield 63, 3) := by decide +kernel
theorem dX11_without_77 : decode cX11_without 77 = .ok (.aload_n 0, 1) := by decide +kernel
theorem dX11_without_78 : decode cX11_without 78 = .ok (.getfield 26, 3) := by decide +kernel
theorem dX11_without_81 : decode cX11_without 81 = .ok (.getfield 219, 3) := by decide +kernel
theorem dX11_without_84 : decode cX11_without 84 = .ok (.iload 5, 2) := by decide +kernel
theorem dX11_without_86 : decode cX11_without 86 = .ok (.aaload, 1) := by decide +kernel
theorem dX11_without_87 : decode cX11_without 87 = .ok (.invokevirtual 252, 3) := by decide +kernel
theorem dX11_without_90 : decode cX11_without 90 = .ok (.aload_n 0, 1) := by decide +kernel
theorem dX11_without_91 : decode cX11_without 91 = .ok (.getfield 19, 3) := by decide +kernel
theorem dX11_without_94 : decode cX11_without 94 = .ok (.aload_n 3, 1) := by decide +kernel
theorem dX11_without_95 : decode cX11_without 95 = .ok (.aload_n 0, 1) := by decide +kernel
theorem dX11_without_96 : decode cX11_without 96 = .ok (.getfield 63, 3) := by decide +kernel
theorem dX11_without_99 : decode cX11_without 99 = .ok (.aload_n 0, 1) := by decide +kernel
theorem dX11_without_100 : decode cX11_without 100 = .ok (.getfield 35, 3) := by decide +kernel
theorem dX11_without_103 : decode cX11_without 103 = .ok (.iload 4, 2) := by decide +kernel
theorem dX11_without_105 : decode cX11_without 105 = .ok (.aload_n 0, 1) := by decide +kernel
theorem dX11_without_106 : decode cX11_without 106 = .ok (.getfield 26, 3) := by decide +kernel
theorem dX11_without_109 : decode cX11_without 109 = .ok (.getfield 222, 3) := by decide +kernel
theorem dX11_without_112 : decode cX11_without 112 = .ok (.iload 5, 2) := by decide +kernel
theorem dX11_without_114 : decode cX11_without 114 = .ok (.iaload, 1) := by decide +kernel
theorem dX11_without_115 : decode cX11_without 115 = .ok (.invokevirtual 264, 3) := by decide +kernel
theorem dX11_without_118 : decode cX11_without 118 = .ok (.invokevirtual 268, 3) := by decide +kernel
theorem dX11_without_121 : decode cX11_without 121 = .ok (.iinc 5 1, 3) := by decide +kernel
theorem dX11_without_124 : decode cX11_without 124 = .ok (.goto (-63), 3) := by decide +kernel
theorem dX11_without_127 : decode cX11_without 127 = .ok (.aload_n 0, 1) := by decide +kernel
theorem dX11_without_128 : decode cX11_without 128 = .ok (.getfield 69, 3) := by decide +kernel
theorem dX11_without_131 : decode cX11_without 131 = .ok (.aload_n 0, 1) := by decide +kernel
theorem dX11_without_132 : decode cX11_without 132 = .ok (.getfield 35, 3) := by decide +kernel
theorem dX11_without_135 : decode cX11_without 135 = .ok (.getfield 128, 3) := by decide +kernel
theorem dX11_without_138 : decode cX11_without 138 = .ok (.invokevirtual 272, 3) := by decide +kernel
theorem dX11_without_141 : decode cX11_without 141 = .ok (.aload_n 0, 1) := by decide +kernel
theorem dX11_without_142 : decode cX11_without 142 = .ok (.getfield 19, 3) := by decide +kernel
theorem dX11_without_145 : decode cX11_without 145 = .ok (.aload_n 0, 1) := by decide +kernel
theorem dX11_without_146 : decode cX11_without 146 = .ok (.getfield 69, 3) := by decide +kernel
theorem dX11_without_149 : decode cX11_without 149 = .ok (.aload_n 3, 1) := by decide +kernel
theorem dX11_without_150 : decode cX11_without 150 = .ok (.iconst 0, 1) := by decide +kernel
theorem dX11_without_151 : decode cX11_without 151 = .ok (.invokevirtual 275, 3) := by decide +kernel
theorem dX11_without_154 : decode cX11_without 154 = .ok (.aload_n 0, 1) := by decide +kernel
theorem dX11_without_155 : decode cX11_without 155 = .ok (.getfield 69, 3) := by decide +kernel
theorem dX11_without_158 : decode cX11_without 158 = .ok (.iload_n 2, 1) := by decide +kernel
theorem dX11_without_159 : decode cX11_without 159 = .ok (.invokevirtual 201, 3) := by decide +kernel
theorem dX11_without_162 : decode cX11_without 162 = .ok (.ireturn, 1) := by decide +kernel
theorem dX11_quiet_0 : decode cX11_quiet 0 = .ok (.aload_n 0, 1) := by decide +kernel
theorem dX11_quiet_1 : decode cX11_quiet 1 = .ok (.getfield 35, 3) := by decide +kernel
theorem dX11_quiet_4 : decode cX11_quiet 4 = .ok (.getfield 124, 3) := by decide +kernel
theorem dX11_quiet_7 : decode cX11_quiet 7 = .ok (.ifCond .ne 5, 3) := by decide +kernel
theorem dX11_quiet_10 : decode cX11_quiet 10 = .ok (.iconst (-1), 1) := by decide +kernel
theorem dX11_quiet_11 : decode cX11_quiet 11 = .ok (.ireturn, 1) := by decide +kernel
theorem dX11_quiet_12 : decode cX11_quiet 12 = .ok (.aload_n 0, 1) := by decide +kernel
theorem dX11_quiet_13 : decode cX11_quiet 13 = .ok (.getfield 39, 3) := by decide +kernel
theorem dX11_quiet_16 : decode cX11_quiet 16 = .ok (.aload_n 0, 1) := by decide +kernel
theorem dX11_quiet_17 : decode cX11_quiet 17 = .ok (.getfield 35, 3) := by decide +kernel
theorem dX11_quiet_20 : decode cX11_quiet 20 = .ok (.iconst 0, 1) := by decide +kernel
theorem dX11_quiet_21 : decode cX11_quiet 21 = .ok (.invokevirtual 279, 3) := by decide +kernel
theorem dX11_quiet_24 : decode cX11_quiet 24 = .ok (.iconst 0, 1) := by decide +kernel
theorem dX11_quiet_25 : decode cX11_quiet 25 = .ok (.istore_n 1, 1) := by decide +kernel
theorem dX11_quiet_26 : decode cX11_quiet 26 = .ok (.iload_n 1, 1) := by decide +kernel
theorem dX11_quiet_27 : decode cX11_quiet 27 = .ok (.bipush 99, 2) := by decide +kernel
theorem dX11_quiet_29 : decode cX11_quiet 29 = .ok (.if_icmp .gt 41, 3) := by decide +kernel
theorem dX11_quiet_32 : decode cX11_quiet 32 = .ok (.aload_n 0, 1) := by decide +kernel
theorem dX11_quiet_33 : decode cX11_quiet 33 = .ok (.getfield 39, 3) := by decide +kernel
theorem dX11_quiet_36 : decode cX11_quiet 36 = .ok (.getfield 134, 3) := by decide +kernel
theorem dX11_quiet_39 : decode cX11_quiet 39 = .ok (.sipush 999, 3) := by decide +kernel
theorem dX11_quiet_42 : decode cX11_quiet 42 = .ok (.if_icmp .gt 28, 3) := by decide +kernel
theorem dX11_quiet_45 : decode cX11_quiet 45 = .ok (.aload_n 0, 1) := by decide +kernel
theorem dX11_quiet_46 : decode cX11_quiet 46 = .ok (.getfield 39, 3) := by decide +kernel
theorem dX11_quiet_49 : decode cX11_quiet 49 = .ok (.invokevirtual 143, 3) := by decide +kernel
theorem dX11_quiet_52 : decode cX11_quiet 52 = .ok (.ifCond .ne 5, 3) := by decide +kernel
theorem dX11_quiet_55 : decode cX11_quiet 55 = .ok (.iload_n 1, 1) := by decide +kernel
theorem dX11_quiet_56 : decode cX11_quiet 56 = .ok (.ireturn, 1) := by decide +kernel
theorem dX11_quiet_57 : decode cX11_quiet 57 = .ok (.aload_n 0, 1) := by decide +kernel
theorem dX11_quiet_58 : decode cX11_quiet 58 = .ok (.getfield 39, 3) := by decide +kernel
theorem dX11_quiet_61 : decode cX11_quiet 61 = .ok (.invokevirtual 282, 3) := by decide +kernel
theorem dX11_quiet_64 : decode cX11_quiet 64 = .ok (.iinc 1 1, 3) := by decide +kernel
theorem dX11_quiet_67 : decode cX11_quiet 67 = .ok (.goto (-41), 3) := by decide +kernel
theorem dX11_quiet_70 : decode cX11_quiet 70 = .ok (.iconst (-1), 1) := by decide +kernel
theorem dX11_quiet_71 : decode cX11_quiet 71 = .ok (.ireturn, 1) := by decide +kernel
theorem dX11_later_0 : decode cX11_later 0 = .ok (.aload_n 0, 1) := by decide +kernel
theorem dX11_later_1 : decode cX11_later 1 = .ok (.getfield 35, 3) := by decide +kernel
theorem dX11_later_4 : decode cX11_later 4 = .ok (.getfield 124, 3) := by decide +kernel
theorem dX11_later_7 : decode cX11_later 7 = .ok (.ifCond .eq 28, 3) := by decide +kernel
theorem dX11_later_10 : decode cX11_later 10 = .ok (.iload_n 1, 1) := by decide +kernel
theorem dX11_later_11 : decode cX11_later 11 = .ok (.ifCond .lt 24, 3) := by decide +kernel
theorem dX11_later_14 : decode cX11_later 14 = .ok (.iload_n 1, 1) := by decide +kernel
theorem dX11_later_15 : decode cX11_later 15 = .ok (.bipush 99, 2) := by decide +kernel
theorem dX11_later_17 : decode cX11_later 17 = .ok (.if_icmp .gt 18, 3) := by decide +kernel
theorem dX11_later_20 : decode cX11_later 20 = .ok (.aload_n 0, 1) := by decide +kernel
theorem dX11_later_21 : decode cX11_later 21 = .ok (.getfield 35, 3) := by decide +kernel
theorem dX11_later_24 : decode cX11_later 24 = .ok (.getfield 134, 3) := by decide +kernel
theorem dX11_later_27 : decode cX11_later 27 = .ok (.iload_n 1, 1) := by decide +kernel
theorem dX11_later_28 : decode cX11_later 28 = .ok (.iadd, 1) := by decide +kernel
theorem dX11_later_29 : decode cX11_later 29 = .ok (.sipush 999, 3) := by decide +kernel
theorem dX11_later_32 : decode cX11_later 32 = .ok (.if_icmp .le 5, 3) := by decide +kernel
theorem dX11_later_35 : decode cX11_later 35 = .ok (.iconst (-1), 1) := by decide +kernel
theorem dX11_later_36 : decode cX11_later 36 = .ok (.ireturn, 1) := by decide +kernel
theorem dX11_later_37 : decode cX11_later 37 = .ok (.aload_n 0, 1) := by decide +kernel
theorem dX11_later_38 : decode cX11_later 38 = .ok (.getfield 39, 3) := by decide +kernel
theorem dX11_later_41 : decode cX11_later 41 = .ok (.aload_n 0, 1) := by decide +kernel
theorem dX11_later_42 : decode cX11_later 42 = .ok (.getfield 35, 3) := by decide +kernel
theorem dX11_later_45 : decode cX11_later 45 = .ok (.iconst 0, 1) := by decide +kernel
theorem dX11_later_46 : decode cX11_later 46 = .ok (.invokevirtual 279, 3) := by decide +kernel
theorem dX11_later_49 : decode cX11_later 49 = .ok (.iconst 0, 1) := by decide +kernel
theorem dX11_later_50 : decode cX11_later 50 = .ok (.istore_n 3, 1) := by decide +kernel
theorem dX11_later_51 : decode cX11_later 51 = .ok (.iload_n 3, 1) := by decide +kernel
theorem dX11_later_52 : decode cX11_later 52 = .ok (.iload_n 1, 1) := by decide +kernel
theorem dX11_later_53 : decode cX11_later 53 = .ok (.if_icmp .ge 16, 3) := by decide +kernel
theorem dX11_later_56 : decode cX11_later 56 = .ok (.aload_n 0, 1) := by decide +kernel
theorem dX11_later_57 : decode cX11_later 57 = .ok (.getfield 39, 3) := by decide +kernel
theorem dX11_later_60 : decode cX11_later 60 = .ok (.invokevirtual 282, 3) := by decide +kernel
theorem dX11_later_63 : decode cX11_later 63 = .ok (.iinc 3 1, 3) := by decide +kernel
theorem dX11_later_66 : decode cX11_later 66 = .ok (.goto (-15), 3) := by decide +kernel
theorem dX11_later_69 : decode cX11_later 69 = .ok (.aload_n 0, 1) := by decide +kernel
theorem dX11_later_70 : decode cX11_later 70 = .ok (.getfield 39, 3) := by decide +kernel
theorem dX11_later_73 : decode cX11_later 73 = .ok (.getfield 128, 3) := by decide +kernel
theorem dX11_later_76 : decode cX11_later 76 = .ok (.iload_n 2, 1) := by decide +kernel
theorem dX11_later_77 : decode cX11_later 77 = .ok (.invokevirtual 201, 3) := by decide +kernel
theorem dX11_later_80 : decode cX11_later 80 = .ok (.ireturn, 1) := by decide +kernel
theorem dX11_orders_0 : decode cX11_orders 0 = .ok (.aload_n 0, 1) := by decide +kernel
theorem dX11_orders_1 : decode cX11_orders 1 = .ok (.getfield 35, 3) := by decide +kernel
theorem dX11_orders_4 : decode cX11_orders 4 = .ok (.getfield 124, 3) := by decide +kernel
theorem dX11_orders_7 : decode cX11_orders 7 = .ok (.ifCond .eq 12, 3) := by decide +kernel
theorem dX11_orders_10 : decode cX11_orders 10 = .ok (.iload_n 1, 1) := by decide +kernel
theorem dX11_orders_11 : decode cX11_orders 11 = .ok (.ifCond .lt 8, 3) := by decide +kernel
theorem dX11_orders_14 : decode cX11_orders 14 = .ok (.iload_n 1, 1) := by decide +kernel
theorem dX11_orders_15 : decode cX11_orders 15 = .ok (.iconst 1, 1) := by decide +kernel
theorem dX11_orders_16 : decode cX11_orders 16 = .ok (.if_icmp .le 5, 3) := by decide +kernel
theorem dX11_orders_19 : decode cX11_orders 19 = .ok (.iconst (-1), 1) := by decide +kernel
theorem dX11_orders_20 : decode cX11_orders 20 = .ok (.ireturn, 1) := by decide +kernel
theorem dX11_orders_21 : decode cX11_orders 21 = .ok (.aload_n 0, 1) := by decide +kernel
theorem dX11_orders_22 : decode cX11_orders 22 = .ok (.invokevirtual 285, 3) := by decide +kernel
theorem dX11_orders_25 : decode cX11_orders 25 = .ok (.iload_n 1, 1) := by decide +kernel
theorem dX11_orders_26 : decode cX11_orders 26 = .ok (.ifCond .ne 13, 3) := by decide +kernel
theorem dX11_orders_29 : decode cX11_orders 29 = .ok (.aload_n 0, 1) := by decide +kernel
theorem dX11_orders_30 : decode cX11_orders 30 = .ok (.getfield 52, 3) := by decide +kernel
theorem dX11_orders_33 : decode cX11_orders 33 = .ok (.getfield 288, 3) := by decide +kernel
theorem dX11_orders_36 : decode cX11_orders 36 = .ok (.goto 10, 3) := by decide +kernel
theorem dX11_orders_39 : decode cX11_orders 39 = .ok (.aload_n 0, 1) := by decide +kernel
theorem dX11_orders_40 : decode cX11_orders 40 = .ok (.getfield 52, 3) := by decide +kernel
theorem dX11_orders_43 : decode cX11_orders 43 = .ok (.invokevirtual 289, 3) := by decide +kernel
theorem dX11_orders_46 : decode cX11_orders 46 = .ok (.ireturn, 1) := by decide +kernel
theorem dX11_ends_0 : decode cX11_ends 0 = .ok (.aload_n 0, 1) := by decide +kernel
theorem dX11_ends_1 : decode cX11_ends 1 = .ok (.getfield 35, 3) := by decide +kernel
theorem dX11_ends_4 : decode cX11_ends 4 = .ok (.getfield 124, 3) := by decide +kernel
theorem dX11_ends_7 : decode cX11_ends 7 = .ok (.ifCond .ne 5, 3) := by decide +kernel
theorem dX11_ends_10 : decode cX11_ends 10 = .ok (.iconst (-1), 1) := by decide +kernel
theorem dX11_ends_11 : decode cX11_ends 11 = .ok (.ireturn, 1) := by decide +kernel
theorem dX11_ends_12 : decode cX11_ends 12 = .ok (.aload_n 0, 1) := by decide +kernel
theorem dX11_ends_13 : decode cX11_ends 13 = .ok (.invokevirtual 285, 3) := by decide +kernel
theorem dX11_ends_16 : decode cX11_ends 16 = .ok (.iload_n 1, 1) := by decide +kernel
theorem dX11_ends_17 : decode cX11_ends 17 = .ok (.ifCond .lt 30, 3) := by decide +kernel
theorem dX11_ends_20 : decode cX11_ends 20 = .ok (.iload_n 1, 1) := by decide +kernel
theorem dX11_ends_21 : decode cX11_ends 21 = .ok (.aload_n 0, 1) := by decide +kernel
theorem dX11_ends_22 : decode cX11_ends 22 = .ok (.getfield 52, 3) := by decide +kernel
theorem dX11_ends_25 : decode cX11_ends 25 = .ok (.getfield 288, 3) := by decide +kernel
theorem dX11_ends_28 : decode cX11_ends 28 = .ok (.if_icmp .ge 19, 3) := by decide +kernel
theorem dX11_ends_31 : decode cX11_ends 31 = .ok (.aload_n 0, 1) := by decide +kernel
theorem dX11_ends_32 : decode cX11_ends 32 = .ok (.getfield 52, 3) := by decide +kernel
theorem dX11_ends_35 : decode cX11_ends 35 = .ok (.getfield 292, 3) := by decide +kernel
theorem dX11_ends_38 : decode cX11_ends 38 = .ok (.iload_n 1, 1) := by decide +kernel
theorem dX11_ends_39 : decode cX11_ends 39 = .ok (.aaload, 1) := by decide +kernel
theorem dX11_ends_40 : decode cX11_ends 40 = .ok (.iload_n 2, 1) := by decide +kernel
theorem dX11_ends_41 : decode cX11_ends 41 = .ok (.invokevirtual 201, 3) := by decide +kernel
theorem dX11_ends_44 : decode cX11_ends 44 = .ok (.goto 4, 3) := by decide +kernel
theorem dX11_ends_47 : decode cX11_ends 47 = .ok (.iconst (-1), 1) := by decide +kernel
theorem dX11_ends_48 : decode cX11_ends 48 = .ok (.ireturn, 1) := by decide +kernel
theorem dX11_see_0 : decode cX11_see 0 = .ok (.aload_n 0, 1) := by decide +kernel
theorem dX11_see_1 : decode cX11_see 1 = .ok (.getfield 10, 3) := by decide +kernel
theorem dX11_see_4 : decode cX11_see 4 = .ok (.getfield 99, 3) := by decide +kernel
theorem dX11_see_7 : decode cX11_see 7 = .ok (.istore_n 1, 1) := by decide +kernel
theorem dX11_see_8 : decode cX11_see 8 = .ok (.aload_n 0, 1) := by decide +kernel
theorem dX11_see_9 : decode cX11_see 9 = .ok (.getfield 10, 3) := by decide +kernel
theorem dX11_see_12 : decode cX11_see 12 = .ok (.iconst 0, 1) := by decide +kernel
theorem dX11_see_13 : decode cX11_see 13 = .ok (.putfield 99, 3) := by decide +kernel
theorem dX11_see_16 : decode cX11_see 16 = .ok (.aload_n 0, 1) := by decide +kernel
theorem dX11_see_17 : decode cX11_see 17 = .ok (.getfield 35, 3) := by decide +kernel
theorem dX11_see_20 : decode cX11_see 20 = .ok (.getfield 124, 3) := by decide +kernel
theorem dX11_see_23 : decode cX11_see 23 = .ok (.ifCond .eq 21, 3) := by decide +kernel
theorem dX11_see_26 : decode cX11_see 26 = .ok (.aload_n 0, 1) := by decide +kernel
theorem dX11_see_27 : decode cX11_see 27 = .ok (.getfield 52, 3) := by decide +kernel
theorem dX11_see_30 : decode cX11_see 30 = .ok (.aload_n 0, 1) := by decide +kernel
theorem dX11_see_31 : decode cX11_see 31 = .ok (.getfield 10, 3) := by decide +kernel
theorem dX11_see_34 : decode cX11_see 34 = .ok (.getfield 296, 3) := by decide +kernel
theorem dX11_see_37 : decode cX11_see 37 = .ok (.iload_n 1, 1) := by decide +kernel
theorem dX11_see_38 : decode cX11_see 38 = .ok (.invokevirtual 299, 3) := by decide +kernel
theorem dX11_see_41 : decode cX11_see 41 = .ok (.ifCond .ne 9, 3) := by decide +kernel
theorem dX11_see_44 : decode cX11_see 44 = .ok (.aload_n 0, 1) := by decide +kernel
theorem dX11_see_45 : decode cX11_see 45 = .ok (.iconst 1, 1) := by decide +kernel
theorem dX11_see_46 : decode cX11_see 46 = .ok (.invokevirtual 91, 3) := by decide +kernel
theorem dX11_see_49 : decode cX11_see 49 = .ok (.ireturn, 1) := by decide +kernel
theorem dX11_see_50 : decode cX11_see 50 = .ok (.aload_n 0, 1) := by decide +kernel
theorem dX11_see_51 : decode cX11_see 51 = .ok (.getfield 52, 3) := by decide +kernel
theorem dX11_see_54 : decode cX11_see 54 = .ok (.aload_n 0, 1) := by decide +kernel
theorem dX11_see_55 : decode cX11_see 55 = .ok (.getfield 10, 3) := by decide +kernel
theorem dX11_see_58 : decode cX11_see 58 = .ok (.getfield 296, 3) := by decide +kernel
theorem dX11_see_61 : decode cX11_see 61 = .ok (.iload_n 1, 1) := by decide +kernel
theorem dX11_see_62 : decode cX11_see 62 = .ok (.invokevirtual 303, 3) := by decide +kernel
theorem dX11_see_65 : decode cX11_see 65 = .ok (.aload_n 0, 1) := by decide +kernel
theorem dX11_see_66 : decode cX11_see 66 = .ok (.getfield 52, 3) := by decide +kernel
theorem dX11_see_69 : decode cX11_see 69 = .ok (.getfield 147, 3) := by decide +kernel
theorem dX11_see_72 : decode cX11_see 72 = .ok (.ireturn, 1) := by decide +kernel
theorem dX11_fits_0 : decode cX11_fits 0 = .ok (.aload_n 0, 1) := by decide +kernel
theorem dX11_fits_1 : decode cX11_fits 1 = .ok (.getfield 35, 3) := by decide +kernel
theorem dX11_fits_4 : decode cX11_fits 4 = .ok (.getfield 124, 3) := by decide +kernel
theorem dX11_fits_7 : decode cX11_fits 7 = .ok (.ifCond .eq 8, 3) := by decide +kernel
theorem dX11_fits_10 : decode cX11_fits 10 = .ok (.iload_n 1, 1) := by decide +kernel
theorem dX11_fits_11 : decode cX11_fits 11 = .ok (.iconst (-1), 1) := by decide +kernel
theorem dX11_fits_12 : decode cX11_fits 12 = .ok (.if_icmp .ge 5, 3) := by decide +kernel
theorem dX11_fits_15 : decode cX11_fits 15 = .ok (.iconst (-1), 1) := by decide +kernel
theorem dX11_fits_16 : decode cX11_fits 16 = .ok (.ireturn, 1) := by decide +kernel
theorem dX11_fits_17 : decode cX11_fits 17 = .ok (.aload_n 0, 1) := by decide +kernel
theorem dX11_fits_18 : decode cX11_fits 18 = .ok (.invokevirtual 285, 3) := by decide +kernel
theorem dX11_fits_21 : decode cX11_fits 21 = .ok (.iload_n 1, 1) := by decide +kernel
theorem dX11_fits_22 : decode cX11_fits 22 = .ok (.iconst (-1), 1) := by decide +kernel
theorem dX11_fits_23 : decode cX11_fits 23 = .ok (.if_icmp .ne 13, 3) := by decide +kernel
theorem dX11_fits_26 : decode cX11_fits 26 = .ok (.aload_n 0, 1) := by decide +kernel
theorem dX11_fits_27 : decode cX11_fits 27 = .ok (.getfield 52, 3) := by decide +kernel
theorem dX11_fits_30 : decode cX11_fits 30 = .ok (.invokevirtual 307, 3) := by decide +kernel
theorem dX11_fits_33 : decode cX11_fits 33 = .ok (.goto 11, 3) := by decide +kernel
theorem dX11_fits_36 : decode cX11_fits 36 = .ok (.aload_n 0, 1) := by decide +kernel
theorem dX11_fits_37 : decode cX11_fits 37 = .ok (.getfield 52, 3) := by decide +kernel
theorem dX11_fits_40 : decode cX11_fits 40 = .ok (.iload_n 1, 1) := by decide +kernel
theorem dX11_fits_41 : decode cX11_fits 41 = .ok (.invokevirtual 310, 3) := by decide +kernel
theorem dX11_fits_44 : decode cX11_fits 44 = .ok (.ireturn, 1) := by decide +kernel
theorem dX11_tells_0 : decode cX11_tells 0 = .ok (.aload_n 0, 1) := by decide +kernel
theorem dX11_tells_1 : decode cX11_tells 1 = .ok (.getfield 35, 3) := by decide +kernel
theorem dX11_tells_4 : decode cX11_tells 4 = .ok (.getfield 124, 3) := by decide +kernel
theorem dX11_tells_7 : decode cX11_tells 7 = .ok (.ifCond .eq 12, 3) := by decide +kernel
theorem dX11_tells_10 : decode cX11_tells 10 = .ok (.iload_n 1, 1) := by decide +kernel
theorem dX11_tells_11 : decode cX11_tells 11 = .ok (.ifCond .lt 8, 3) := by decide +kernel
theorem dX11_tells_14 : decode cX11_tells 14 = .ok (.iload_n 1, 1) := by decide +kernel
theorem dX11_tells_15 : decode cX11_tells 15 = .ok (.iconst 1, 1) := by decide +kernel
theorem dX11_tells_16 : decode cX11_tells 16 = .ok (.if_icmp .le 5, 3) := by decide +kernel
theorem dX11_tells_19 : decode cX11_tells 19 = .ok (.iconst (-1), 1) := by decide +kernel
theorem dX11_tells_20 : decode cX11_tells 20 = .ok (.ireturn, 1) := by decide +kernel
theorem dX11_tells_21 : decode cX11_tells 21 = .ok (.aload_n 0, 1) := by decide +kernel
theorem dX11_tells_22 : decode cX11_tells 22 = .ok (.invokevirtual 285, 3) := by decide +kernel
theorem dX11_tells_25 : decode cX11_tells 25 = .ok (.aload_n 0, 1) := by decide +kernel
theorem dX11_tells_26 : decode cX11_tells 26 = .ok (.getfield 52, 3) := by decide +kernel
theorem dX11_tells_29 : decode cX11_tells 29 = .ok (.invokevirtual 307, 3) := by decide +kernel
theorem dX11_tells_32 : decode cX11_tells 32 = .ok (.ifCond .ne 5, 3) := by decide +kernel
theorem dX11_tells_35 : decode cX11_tells 35 = .ok (.iconst (-1), 1) := by decide +kernel
theorem dX11_tells_36 : decode cX11_tells 36 = .ok (.ireturn, 1) := by decide +kernel
theorem dX11_tells_37 : decode cX11_tells 37 = .ok (.aload_n 0, 1) := by decide +kernel
theorem dX11_tells_38 : decode cX11_tells 38 = .ok (.getfield 52, 3) := by decide +kernel
theorem dX11_tells_41 : decode cX11_tells 41 = .ok (.invokevirtual 313, 3) := by decide +kernel
theorem dX11_tells_44 : decode cX11_tells 44 = .ok (.istore_n 2, 1) := by decide +kernel
theorem dX11_tells_45 : decode cX11_tells 45 = .ok (.iload_n 1, 1) := by decide +kernel
theorem dX11_tells_46 : decode cX11_tells 46 = .ok (.ifCond .ne 7, 3) := by decide +kernel
theorem dX11_tells_49 : decode cX11_tells 49 = .ok (.iload_n 2, 1) := by decide +kernel
theorem dX11_tells_50 : decode cX11_tells 50 = .ok (.goto 11, 3) := by decide +kernel
theorem dX11_tells_53 : decode cX11_tells 53 = .ok (.aload_n 0, 1) := by decide +kernel
theorem dX11_tells_54 : decode cX11_tells 54 = .ok (.getfield 52, 3) := by decide +kernel
theorem dX11_tells_57 : decode cX11_tells 57 = .ok (.iload_n 2, 1) := by decide +kernel
theorem dX11_tells_58 : decode cX11_tells 58 = .ok (.invokevirtual 316, 3) := by decide +kernel
theorem dX11_tells_61 : decode cX11_tells 61 = .ok (.ireturn, 1) := by decide +kernel
theorem dX11_edit_0 : decode cX11_edit 0 = .ok (.aload_n 0, 1) := by decide +kernel
theorem dX11_edit_1 : decode cX11_edit 1 = .ok (.getfield 35, 3) := by decide +kernel
theorem dX11_edit_4 : decode cX11_edit 4 = .ok (.iload_n 1, 1) := by decide +kernel
theorem dX11_edit_5 : decode cX11_edit 5 = .ok (.invokevirtual 154, 3) := by decide +kernel
theorem dX11_edit_8 : decode cX11_edit 8 = .ok (.ifCond .ne 17, 3) := by decide +kernel
theorem dX11_edit_11 : decode cX11_edit 11 = .ok (.aload_n 0, 1) := by decide +kernel
theorem dX11_edit_12 : decode cX11_edit 12 = .ok (.getfield 10, 3) := by decide +kernel
theorem dX11_edit_15 : decode cX11_edit 15 = .ok (.iconst 0, 1) := by decide +kernel
theorem dX11_edit_16 : decode cX11_edit 16 = .ok (.putfield 99, 3) := by decide +kernel
theorem dX11_edit_19 : decode cX11_edit 19 = .ok (.aload_n 0, 1) := by decide +kernel
theorem dX11_edit_20 : decode cX11_edit 20 = .ok (.iconst 2, 1) := by decide +kernel
theorem dX11_edit_21 : decode cX11_edit 21 = .ok (.invokevirtual 91, 3) := by decide +kernel
theorem dX11_edit_24 : decode cX11_edit 24 = .ok (.ireturn, 1) := by decide +kernel
theorem dX11_edit_25 : decode cX11_edit 25 = .ok (.aload_n 0, 1) := by decide +kernel
theorem dX11_edit_26 : decode cX11_edit 26 = .ok (.getfield 10, 3) := by decide +kernel
theorem dX11_edit_29 : decode cX11_edit 29 = .ok (.invokevirtual 319, 3) := by decide +kernel
theorem dX11_edit_32 : decode cX11_edit 32 = .ok (.istore_n 2, 1) := by decide +kernel
theorem dX11_edit_33 : decode cX11_edit 33 = .ok (.aload_n 0, 1) := by decide +kernel
theorem dX11_edit_34 : decode cX11_edit 34 = .ok (.invokevirtual 109, 3) := by decide +kernel
theorem dX11_edit_37 : decode cX11_edit 37 = .ok (.aload_n 0, 1) := by decide +kernel
theorem dX11_edit_38 : decode cX11_edit 38 = .ok (.getfield 35, 3) := by decide +kernel
theorem dX11_edit_41 : decode cX11_edit 41 = .ok (.getfield 157, 3) := by decide +kernel
theorem dX11_edit_44 : decode cX11_edit 44 = .ok (.iload_n 1, 1) := by decide +kernel
theorem dX11_edit_45 : decode cX11_edit 45 = .ok (.aaload, 1) := by decide +kernel
theorem dX11_edit_46 : decode cX11_edit 46 = .ok (.astore_n 3, 1) := by decide +kernel
theorem dX11_edit_47 : decode cX11_edit 47 = .ok (.iload_n 2, 1) := by decide +kernel
theorem dX11_edit_48 : decode cX11_edit 48 = .ok (.ifCond .eq 35, 3) := by decide +kernel
theorem dX11_edit_51 : decode cX11_edit 51 = .ok (.aload_n 0, 1) := by decide +kernel
theorem dX11_edit_52 : decode cX11_edit 52 = .ok (.getfield 59, 3) := by decide +kernel
theorem dX11_edit_55 : decode cX11_edit 55 = .ok (.aload_n 0, 1) := by decide +kernel
theorem dX11_edit_56 : decode cX11_edit 56 = .ok (.getfield 10, 3) := by decide +kernel
theorem dX11_edit_59 : decode cX11_edit 59 = .ok (.getfield 322, 3) := by decide +kernel
theorem dX11_edit_62 : decode cX11_edit 62 = .ok (.iconst 0, 1) := by decide +kernel
theorem dX11_edit_63 : decode cX11_edit 63 = .ok (.aload_n 0, 1) := by decide +kernel
theorem dX11_edit_64 : decode cX11_edit 64 = .ok (.getfield 10, 3) := by decide +kernel
theorem dX11_edit_67 : decode cX11_edit 67 = .ok (.getfield 325, 3) := by decide +kernel
theorem dX11_edit_70 : decode cX11_edit 70 = .ok (.aload_n 3, 1) := by decide +kernel
theorem dX11_edit_71 : decode cX11_edit 71 = .ok (.getfield 161, 3) := by decide +kernel
theorem dX11_edit_74 : decode cX11_edit 74 = .ok (.getfield 131, 3) := by decide +kernel
theorem dX11_edit_77 : decode cX11_edit 77 = .ok (.invokevirtual 328, 3) := by decide +kernel
theorem dX11_edit_80 : decode cX11_edit 80 = .ok (.ifCond .ne 9, 3) := by decide +kernel
theorem dX11_edit_83 : decode cX11_edit 83 = .ok (.aload_n 0, 1) := by decide +kernel
theorem dX11_edit_84 : decode cX11_edit 84 = .ok (.iconst 2, 1) := by decide +kernel
theorem dX11_edit_85 : decode cX11_edit 85 = .ok (.invokevirtual 91, 3) := by decide +kernel
theorem dX11_edit_88 : decode cX11_edit 88 = .ok (.ireturn, 1) := by decide +kernel
theorem dX11_edit_89 : decode cX11_edit 89 = .ok (.aload_n 0, 1) := by decide +kernel
theorem dX11_edit_90 : decode cX11_edit 90 = .ok (.aload_n 3, 1) := by decide +kernel
theorem dX11_edit_91 : decode cX11_edit 91 = .ok (.invokevirtual 332, 3) := by decide +kernel
theorem dX11_edit_94 : decode cX11_edit 94 = .ok (.ireturn, 1) := by decide +kernel
theorem dX11_put_0 : decode cX11_put 0 = .ok (.aload_n 0, 1) := by decide +kernel
theorem dX11_put_1 : decode cX11_put 1 = .ok (.getfield 35, 3) := by decide +kernel
theorem dX11_put_4 : decode cX11_put 4 = .ok (.iload_n 1, 1) := by decide +kernel
theorem dX11_put_5 : decode cX11_put 5 = .ok (.iload_n 2, 1) := by decide +kernel
theorem dX11_put_6 : decode cX11_put 6 = .ok (.iload_n 3, 1) := by decide +kernel
theorem dX11_put_7 : decode cX11_put 7 = .ok (.invokevirtual 336, 3) := by decide +kernel
theorem dX11_put_10 : decode cX11_put 10 = .ok (.ifCond .ne 9, 3) := by decide +kernel
theorem dX11_put_13 : decode cX11_put 13 = .ok (.aload_n 0, 1) := by decide +kernel
theorem dX11_put_14 : decode cX11_put 14 = .ok (.iconst 2, 1) := by decide +kernel
theorem dX11_put_15 : decode cX11_put 15 = .ok (.invokevirtual 91, 3) := by decide +kernel
theorem dX11_put_18 : decode cX11_put 18 = .ok (.ireturn, 1) := by decide +kernel
theorem dX11_put_19 : decode cX11_put 19 = .ok (.aload_n 0, 1) := by decide +kernel
theorem dX11_put_20 : decode cX11_put 20 = .ok (.getfield 35, 3) := by decide +kernel
theorem dX11_put_23 : decode cX11_put 23 = .ok (.getfield 157, 3) := by decide +kernel
theorem dX11_put_26 : decode cX11_put 26 = .ok (.iload_n 1, 1) := by decide +kernel
theorem dX11_put_27 : decode cX11_put 27 = .ok (.aaload, 1) := by decide +kernel
theorem dX11_put_28 : decode cX11_put 28 = .ok (.astore 4, 2) := by decide +kernel
theorem dX11_put_30 : decode cX11_put 30 = .ok (.aload_n 0, 1) := by decide +kernel
theorem dX11_put_31 : decode cX11_put 31 = .ok (.getfield 59, 3) := by decide +kernel
theorem dX11_put_34 : decode cX11_put 34 = .ok (.iload_n 2, 1) := by decide +kernel
theorem dX11_put_35 : decode cX11_put 35 = .ok (.iload_n 3, 1) := by decide +kernel
theorem dX11_put_36 : decode cX11_put 36 = .ok (.aload 4, 2) := by decide +kernel
theorem dX11_put_38 : decode cX11_put 38 = .ok (.getfield 161, 3) := by decide +kernel
theorem dX11_put_41 : decode cX11_put 41 = .ok (.getfield 131, 3) := by decide +kernel
theorem dX11_put_44 : decode cX11_put 44 = .ok (.invokevirtual 340, 3) := by decide +kernel
theorem dX11_put_47 : decode cX11_put 47 = .ok (.aload_n 0, 1) := by decide +kernel
theorem dX11_put_48 : decode cX11_put 48 = .ok (.aload 4, 2) := by decide +kernel
theorem dX11_put_50 : decode cX11_put 50 = .ok (.invokevirtual 332, 3) := by decide +kernel
theorem dX11_put_53 : decode cX11_put 53 = .ok (.ireturn, 1) := by decide +kernel
theorem dX11_cut_0 : decode cX11_cut 0 = .ok (.aload_n 0, 1) := by decide +kernel
theorem dX11_cut_1 : decode cX11_cut 1 = .ok (.getfield 35, 3) := by decide +kernel
theorem dX11_cut_4 : decode cX11_cut 4 = .ok (.iload_n 1, 1) := by decide +kernel
theorem dX11_cut_5 : decode cX11_cut 5 = .ok (.iload_n 2, 1) := by decide +kernel
theorem dX11_cut_6 : decode cX11_cut 6 = .ok (.iload_n 3, 1) := by decide +kernel
theorem dX11_cut_7 : decode cX11_cut 7 = .ok (.invokevirtual 344, 3) := by decide +kernel
theorem dX11_cut_10 : decode cX11_cut 10 = .ok (.ifCond .ne 9, 3) := by decide +kernel
theorem dX11_cut_13 : decode cX11_cut 13 = .ok (.aload_n 0, 1) := by decide +kernel
theorem dX11_cut_14 : decode cX11_cut 14 = .ok (.iconst 2, 1) := by decide +kernel
theorem dX11_cut_15 : decode cX11_cut 15 = .ok (.invokevirtual 91, 3) := by decide +kernel
theorem dX11_cut_18 : decode cX11_cut 18 = .ok (.ireturn, 1) := by decide +kernel
theorem dX11_cut_19 : decode cX11_cut 19 = .ok (.aload_n 0, 1) := by decide +kernel
theorem dX11_cut_20 : decode cX11_cut 20 = .ok (.getfield 35, 3) := by decide +kernel
theorem dX11_cut_23 : decode cX11_cut 23 = .ok (.getfield 157, 3) := by decide +kernel
theorem dX11_cut_26 : decode cX11_cut 26 = .ok (.iload_n 1, 1) := by decide +kernel
theorem dX11_cut_27 : decode cX11_cut 27 = .ok (.aaload, 1) := by decide +kernel
theorem dX11_cut_28 : decode cX11_cut 28 = .ok (.astore 4, 2) := by decide +kernel
theorem dX11_cut_30 : decode cX11_cut 30 = .ok (.aload_n 0, 1) := by decide +kernel
theorem dX11_cut_31 : decode cX11_cut 31 = .ok (.getfield 59, 3) := by decide +kernel
theorem dX11_cut_34 : decode cX11_cut 34 = .ok (.iload_n 2, 1) := by decide +kernel
theorem dX11_cut_35 : decode cX11_cut 35 = .ok (.iload_n 3, 1) := by decide +kernel
theorem dX11_cut_36 : decode cX11_cut 36 = .ok (.aload 4, 2) := by decide +kernel
theorem dX11_cut_38 : decode cX11_cut 38 = .ok (.getfield 161, 3) := by decide +kernel
theorem dX11_cut_41 : decode cX11_cut 41 = .ok (.getfield 131, 3) := by decide +kernel
theorem dX11_cut_44 : decode cX11_cut 44 = .ok (.invokevirtual 347, 3) := by decide +kernel
theorem dX11_cut_47 : decode cX11_cut 47 = .ok (.aload_n 0, 1) := by decide +kernel
theorem dX11_cut_48 : decode cX11_cut 48 = .ok (.aload 4, 2) := by decide +kernel
theorem dX11_cut_50 : decode cX11_cut 50 = .ok (.invokevirtual 332, 3) := by decide +kernel
theorem dX11_cut_53 : decode cX11_cut 53 = .ok (.ireturn, 1) := by decide +kernel
theorem dX11_type_0 : decode cX11_type 0 = .ok (.aload_n 0, 1) := by decide +kernel
theorem dX11_type_1 : decode cX11_type 1 = .ok (.getfield 35, 3) := by decide +kernel
theorem dX11_type_4 : decode cX11_type 4 = .ok (.iload_n 1, 1) := by decide +kernel
theorem dX11_type_5 : decode cX11_type 5 = .ok (.invokevirtual 154, 3) := by decide +kernel
theorem dX11_type_8 : decode cX11_type 8 = .ok (.ifCond .ne 9, 3) := by decide +kernel
theorem dX11_type_11 : decode cX11_type 11 = .ok (.aload_n 0, 1) := by decide +kernel
theorem dX11_type_12 : decode cX11_type 12 = .ok (.iconst 2, 1) := by decide +kernel
theorem dX11_type_13 : decode cX11_type 13 = .ok (.invokevirtual 91, 3) := by decide +kernel
theorem dX11_type_16 : decode cX11_type 16 = .ok (.ireturn, 1) := by decide +kernel
theorem dX11_type_17 : decode cX11_type 17 = .ok (.aload_n 0, 1) := by decide +kernel
theorem dX11_type_18 : decode cX11_type 18 = .ok (.getfield 35, 3) := by decide +kernel
theorem dX11_type_21 : decode cX11_type 21 = .ok (.getfield 157, 3) := by decide +kernel
theorem dX11_type_24 : decode cX11_type 24 = .ok (.iload_n 1, 1) := by decide +kernel
theorem dX11_type_25 : decode cX11_type 25 = .ok (.aaload, 1) := by decide +kernel
theorem dX11_type_26 : decode cX11_type 26 = .ok (.astore_n 3, 1) := by decide +kernel
theorem dX11_type_27 : decode cX11_type 27 = .ok (.iload_n 2, 1) := by decide +kernel
theorem dX11_type_28 : decode cX11_type 28 = .ok (.ifCond .ne 21, 3) := by decide +kernel
theorem dX11_type_31 : decode cX11_type 31 = .ok (.aload_n 0, 1) := by decide +kernel
theorem dX11_type_32 : decode cX11_type 32 = .ok (.getfield 35, 3) := by decide +kernel
theorem dX11_type_35 : decode cX11_type 35 = .ok (.iload_n 1, 1) := by decide +kernel
theorem dX11_type_36 : decode cX11_type 36 = .ok (.aload_n 3, 1) := by decide +kernel
theorem dX11_type_37 : decode cX11_type 37 = .ok (.getfield 169, 3) := by decide +kernel
theorem dX11_type_40 : decode cX11_type 40 = .ok (.iconst 1, 1) := by decide +kernel
theorem dX11_type_41 : decode cX11_type 41 = .ok (.isub, 1) := by decide +kernel
theorem dX11_type_42 : decode cX11_type 42 = .ok (.iconst 1, 1) := by decide +kernel
theorem dX11_type_43 : decode cX11_type 43 = .ok (.invokevirtual 344, 3) := by decide +kernel
theorem dX11_type_46 : decode cX11_type 46 = .ok (.goto 16, 3) := by decide +kernel
theorem dX11_type_49 : decode cX11_type 49 = .ok (.aload_n 0, 1) := by decide +kernel
theorem dX11_type_50 : decode cX11_type 50 = .ok (.getfield 35, 3) := by decide +kernel
theorem dX11_type_53 : decode cX11_type 53 = .ok (.iload_n 1, 1) := by decide +kernel
theorem dX11_type_54 : decode cX11_type 54 = .ok (.aload_n 3, 1) := by decide +kernel
theorem dX11_type_55 : decode cX11_type 55 = .ok (.getfield 169, 3) := by decide +kernel
theorem dX11_type_58 : decode cX11_type 58 = .ok (.iload_n 2, 1) := by decide +kernel
theorem dX11_type_59 : decode cX11_type 59 = .ok (.invokevirtual 336, 3) := by decide +kernel
theorem dX11_type_62 : decode cX11_type 62 = .ok (.istore 4, 2) := by decide +kernel
theorem dX11_type_64 : decode cX11_type 64 = .ok (.iload 4, 2) := by decide +kernel
theorem dX11_type_66 : decode cX11_type 66 = .ok (.ifCond .ne 9, 3) := by decide +kernel
theorem dX11_type_69 : decode cX11_type 69 = .ok (.aload_n 0, 1) := by decide +kernel
theorem dX11_type_70 : decode cX11_type 70 = .ok (.iconst 2, 1) := by decide +kernel
theorem dX11_type_71 : decode cX11_type 71 = .ok (.invokevirtual 91, 3) := by decide +kernel
theorem dX11_type_74 : decode cX11_type 74 = .ok (.ireturn, 1) := by decide +kernel
theorem dX11_type_75 : decode cX11_type 75 = .ok (.iload_n 2, 1) := by decide +kernel
theorem dX11_type_76 : decode cX11_type 76 = .ok (.ifCond .ne 27, 3) := by decide +kernel
theorem dX11_type_79 : decode cX11_type 79 = .ok (.aload_n 0, 1) := by decide +kernel
theorem dX11_type_80 : decode cX11_type 80 = .ok (.getfield 59, 3) := by decide +kernel
theorem dX11_type_83 : decode cX11_type 83 = .ok (.aload_n 3, 1) := by decide +kernel
theorem dX11_type_84 : decode cX11_type 84 = .ok (.getfield 169, 3) := by decide +kernel
theorem dX11_type_87 : decode cX11_type 87 = .ok (.iconst 1, 1) := by decide +kernel
theorem dX11_type_88 : decode cX11_type 88 = .ok (.isub, 1) := by decide +kernel
theorem dX11_type_89 : decode cX11_type 89 = .ok (.iconst 1, 1) := by decide +kernel
theorem dX11_type_90 : decode cX11_type 90 = .ok (.aload_n 3, 1) := by decide +kernel
theorem dX11_type_91 : decode cX11_type 91 = .ok (.getfield 161, 3) := by decide +kernel
theorem dX11_type_94 : decode cX11_type 94 = .ok (.getfield 131, 3) := by decide +kernel
theorem dX11_type_97 : decode cX11_type 97 = .ok (.invokevirtual 347, 3) := by decide +kernel
theorem dX11_type_100 : decode cX11_type 100 = .ok (.goto 22, 3) := by decide +kernel
theorem dX11_type_103 : decode cX11_type 103 = .ok (.aload_n 0, 1) := by decide +kernel
theorem dX11_type_104 : decode cX11_type 104 = .ok (.getfield 59, 3) := by decide +kernel
theorem dX11_type_107 : decode cX11_type 107 = .ok (.aload_n 3, 1) := by decide +kernel
theorem dX11_type_108 : decode cX11_type 108 = .ok (.getfield 169, 3) := by decide +kernel
theorem dX11_type_111 : decode cX11_type 111 = .ok (.iload_n 2, 1) := by decide +kernel
theorem dX11_type_112 : decode cX11_type 112 = .ok (.aload_n 3, 1) := by decide +kernel
theorem dX11_type_113 : decode cX11_type 113 = .ok (.getfield 161, 3) := by decide +kernel
theorem dX11_type_116 : decode cX11_type 116 = .ok (.getfield 131, 3) := by decide +kernel
theorem dX11_type_119 : decode cX11_type 119 = .ok (.invokevirtual 340, 3) := by decide +kernel
theorem dX11_type_122 : decode cX11_type 122 = .ok (.aload_n 0, 1) := by decide +kernel
theorem dX11_type_123 : decode cX11_type 123 = .ok (.aload_n 3, 1) := by decide +kernel
theorem dX11_type_124 : decode cX11_type 124 = .ok (.invokevirtual 332, 3) := by decide +kernel
theorem dX11_type_127 : decode cX11_type 127 = .ok (.iconst (-1), 1) := by decide +kernel
theorem dX11_type_128 : decode cX11_type 128 = .ok (.if_icmp .ne 7, 3) := by decide +kernel
theorem dX11_type_131 : decode cX11_type 131 = .ok (.iconst (-1), 1) := by decide +kernel
theorem dX11_type_132 : decode cX11_type 132 = .ok (.goto 7, 3) := by decide +kernel
theorem dX11_type_135 : decode cX11_type 135 = .ok (.aload_n 3, 1) := by decide +kernel
theorem dX11_type_136 : decode cX11_type 136 = .ok (.getfield 169, 3) := by decide +kernel
theorem dX11_type_139 : decode cX11_type 139 = .ok (.ireturn, 1) := by decide +kernel
theorem dX11_cursor_0 : decode cX11_cursor 0 = .ok (.aload_n 0, 1) := by decide +kernel
theorem dX11_cursor_1 : decode cX11_cursor 1 = .ok (.getfield 35, 3) := by decide +kernel
theorem dX11_cursor_4 : decode cX11_cursor 4 = .ok (.iload_n 1, 1) := by decide +kernel
theorem dX11_cursor_5 : decode cX11_cursor 5 = .ok (.iload_n 2, 1) := by decide +kernel
theorem dX11_cursor_6 : decode cX11_cursor 6 = .ok (.invokevirtual 350, 3) := by decide +kernel
theorem dX11_cursor_9 : decode cX11_cursor 9 = .ok (.ifCond .eq 19, 3) := by decide +kernel
theorem dX11_cursor_12 : decode cX11_cursor 12 = .ok (.aload_n 0, 1) := by decide +kernel
theorem dX11_cursor_13 : decode cX11_cursor 13 = .ok (.getfield 35, 3) := by decide +kernel
theorem dX11_cursor_16 : decode cX11_cursor 16 = .ok (.getfield 157, 3) := by decide +kernel
theorem dX11_cursor_19 : decode cX11_cursor 19 = .ok (.iload_n 1, 1) := by decide +kernel
theorem dX11_cursor_20 : decode cX11_cursor 20 = .ok (.aaload, 1) := by decide +kernel
theorem dX11_cursor_21 : decode cX11_cursor 21 = .ok (.getfield 169, 3) := by decide +kernel
theorem dX11_cursor_24 : decode cX11_cursor 24 = .ok (.iload_n 2, 1) := by decide +kernel
theorem dX11_cursor_25 : decode cX11_cursor 25 = .ok (.if_icmp .ne 9, 3) := by decide +kernel
theorem dX11_cursor_28 : decode cX11_cursor 28 = .ok (.aload_n 0, 1) := by decide +kernel
theorem dX11_cursor_29 : decode cX11_cursor 29 = .ok (.iconst 3, 1) := by decide +kernel
theorem dX11_cursor_30 : decode cX11_cursor 30 = .ok (.invokevirtual 102, 3) := by decide +kernel
theorem dX11_cursor_33 : decode cX11_cursor 33 = .ok (.ireturn, 1) := by decide +kernel
theorem dX11_cursor_34 : decode cX11_cursor 34 = .ok (.aload_n 0, 1) := by decide +kernel
theorem dX11_cursor_35 : decode cX11_cursor 35 = .ok (.getfield 45, 3) := by decide +kernel
theorem dX11_cursor_38 : decode cX11_cursor 38 = .ok (.aload_n 0, 1) := by decide +kernel
theorem dX11_cursor_39 : decode cX11_cursor 39 = .ok (.getfield 35, 3) := by decide +kernel
theorem dX11_cursor_42 : decode cX11_cursor 42 = .ok (.invokevirtual 353, 3) := by decide +kernel
theorem dX11_cursor_45 : decode cX11_cursor 45 = .ok (.aload_n 0, 1) := by decide +kernel
theorem dX11_cursor_46 : decode cX11_cursor 46 = .ok (.getfield 35, 3) := by decide +kernel
theorem dX11_cursor_49 : decode cX11_cursor 49 = .ok (.getfield 157, 3) := by decide +kernel
theorem dX11_cursor_52 : decode cX11_cursor 52 = .ok (.iload_n 1, 1) := by decide +kernel
theorem dX11_cursor_53 : decode cX11_cursor 53 = .ok (.aaload, 1) := by decide +kernel
theorem dX11_cursor_54 : decode cX11_cursor 54 = .ok (.iload_n 2, 1) := by decide +kernel
theorem dX11_cursor_55 : decode cX11_cursor 55 = .ok (.putfield 169, 3) := by decide +kernel
theorem dX11_cursor_58 : decode cX11_cursor 58 = .ok (.iconst 1, 1) := by decide +kernel
theorem dX11_cursor_59 : decode cX11_cursor 59 = .ok (.ireturn, 1) := by decide +kernel
theorem dX11_marks_0 : decode cX11_marks 0 = .ok (.aload_n 0, 1) := by decide +kernel
theorem dX11_marks_1 : decode cX11_marks 1 = .ok (.getfield 35, 3) := by decide +kernel
theorem dX11_marks_4 : decode cX11_marks 4 = .ok (.iload_n 1, 1) := by decide +kernel
theorem dX11_marks_5 : decode cX11_marks 5 = .ok (.iload_n 2, 1) := by decide +kernel
theorem dX11_marks_6 : decode cX11_marks 6 = .ok (.iload_n 3, 1) := by decide +kernel
theorem dX11_marks_7 : decode cX11_marks 7 = .ok (.iload 4, 2) := by decide +kernel
theorem dX11_marks_9 : decode cX11_marks 9 = .ok (.invokevirtual 357, 3) := by decide +kernel
theorem dX11_marks_12 : decode cX11_marks 12 = .ok (.ifCond .ne 9, 3) := by decide +kernel
theorem dX11_marks_15 : decode cX11_marks 15 = .ok (.aload_n 0, 1) := by decide +kernel
theorem dX11_marks_16 : decode cX11_marks 16 = .ok (.iconst 3, 1) := by decide +kernel
theorem dX11_marks_17 : decode cX11_marks 17 = .ok (.invokevirtual 91, 3) := by decide +kernel
theorem dX11_marks_20 : decode cX11_marks 20 = .ok (.ireturn, 1) := by decide +kernel
theorem dX11_marks_21 : decode cX11_marks 21 = .ok (.aload_n 0, 1) := by decide +kernel
theorem dX11_marks_22 : decode cX11_marks 22 = .ok (.getfield 45, 3) := by decide +kernel
theorem dX11_marks_25 : decode cX11_marks 25 = .ok (.aload_n 0, 1) := by decide +kernel
theorem dX11_marks_26 : decode cX11_marks 26 = .ok (.getfield 35, 3) := by decide +kernel
theorem dX11_marks_29 : decode cX11_marks 29 = .ok (.invokevirtual 353, 3) := by decide +kernel
theorem dX11_marks_32 : decode cX11_marks 32 = .ok (.aload_n 0, 1) := by decide +kernel
theorem dX11_marks_33 : decode cX11_marks 33 = .ok (.getfield 35, 3) := by decide +kernel
theorem dX11_marks_36 : decode cX11_marks 36 = .ok (.getfield 157, 3) := by decide +kernel
theorem dX11_marks_39 : decode cX11_marks 39 = .ok (.iload_n 1, 1) := by decide +kernel
theorem dX11_marks_40 : decode cX11_marks 40 = .ok (.aaload, 1) := by decide +kernel
theorem dX11_marks_41 : decode cX11_marks 41 = .ok (.iload_n 2, 1) := by decide +kernel
theorem dX11_marks_42 : decode cX11_marks 42 = .ok (.iload_n 3, 1) := by decide +kernel
theorem dX11_marks_43 : decode cX11_marks 43 = .ok (.iload 4, 2) := by decide +kernel
theorem dX11_marks_45 : decode cX11_marks 45 = .ok (.invokevirtual 361, 3) := by decide +kernel
theorem dX11_marks_48 : decode cX11_marks 48 = .ok (.ireturn, 1) := by decide +kernel
theorem dX11_clears_0 : decode cX11_clears 0 = .ok (.aload_n 0, 1) := by decide +kernel
theorem dX11_clears_1 : decode cX11_clears 1 = .ok (.getfield 35, 3) := by decide +kernel
theorem dX11_clears_4 : decode cX11_clears 4 = .ok (.iload_n 1, 1) := by decide +kernel
theorem dX11_clears_5 : decode cX11_clears 5 = .ok (.invokevirtual 154, 3) := by decide +kernel
theorem dX11_clears_8 : decode cX11_clears 8 = .ok (.ifCond .eq 19, 3) := by decide +kernel
theorem dX11_clears_11 : decode cX11_clears 11 = .ok (.aload_n 0, 1) := by decide +kernel
theorem dX11_clears_12 : decode cX11_clears 12 = .ok (.getfield 35, 3) := by decide +kernel
theorem dX11_clears_15 : decode cX11_clears 15 = .ok (.getfield 157, 3) := by decide +kernel
theorem dX11_clears_18 : decode cX11_clears 18 = .ok (.iload_n 1, 1) := by decide +kernel
theorem dX11_clears_19 : decode cX11_clears 19 = .ok (.aaload, 1) := by decide +kernel
theorem dX11_clears_20 : decode cX11_clears 20 = .ok (.iload_n 2, 1) := by decide +kernel
theorem dX11_clears_21 : decode cX11_clears 21 = .ok (.invokevirtual 228, 3) := by decide +kernel
theorem dX11_clears_24 : decode cX11_clears 24 = .ok (.ifCond .ne 9, 3) := by decide +kernel
theorem dX11_clears_27 : decode cX11_clears 27 = .ok (.aload_n 0, 1) := by decide +kernel
theorem dX11_clears_28 : decode cX11_clears 28 = .ok (.iconst 3, 1) := by decide +kernel
theorem dX11_clears_29 : decode cX11_clears 29 = .ok (.invokevirtual 102, 3) := by decide +kernel
theorem dX11_clears_32 : decode cX11_clears 32 = .ok (.ireturn, 1) := by decide +kernel
theorem dX11_clears_33 : decode cX11_clears 33 = .ok (.aload_n 0, 1) := by decide +kernel
theorem dX11_clears_34 : decode cX11_clears 34 = .ok (.getfield 45, 3) := by decide +kernel
theorem dX11_clears_37 : decode cX11_clears 37 = .ok (.aload_n 0, 1) := by decide +kernel
theorem dX11_clears_38 : decode cX11_clears 38 = .ok (.getfield 35, 3) := by decide +kernel
theorem dX11_clears_41 : decode cX11_clears 41 = .ok (.invokevirtual 353, 3) := by decide +kernel
theorem dX11_clears_44 : decode cX11_clears 44 = .ok (.aload_n 0, 1) := by decide +kernel
theorem dX11_clears_45 : decode cX11_clears 45 = .ok (.getfield 35, 3) := by decide +kernel
theorem dX11_clears_48 : decode cX11_clears 48 = .ok (.getfield 157, 3) := by decide +kernel
theorem dX11_clears_51 : decode cX11_clears 51 = .ok (.iload_n 1, 1) := by decide +kernel
theorem dX11_clears_52 : decode cX11_clears 52 = .ok (.aaload, 1) := by decide +kernel
theorem dX11_clears_53 : decode cX11_clears 53 = .ok (.iload_n 2, 1) := by decide +kernel
theorem dX11_clears_54 : decode cX11_clears 54 = .ok (.invokevirtual 365, 3) := by decide +kernel
theorem dX11_clears_57 : decode cX11_clears 57 = .ok (.iconst 1, 1) := by decide +kernel
theorem dX11_clears_58 : decode cX11_clears 58 = .ok (.ireturn, 1) := by decide +kernel
theorem dX11_undo_0 : decode cX11_undo 0 = .ok (.aload_n 0, 1) := by decide +kernel
theorem dX11_undo_1 : decode cX11_undo 1 = .ok (.getfield 35, 3) := by decide +kernel
theorem dX11_undo_4 : decode cX11_undo 4 = .ok (.iload_n 1, 1) := by decide +kernel
theorem dX11_undo_5 : decode cX11_undo 5 = .ok (.invokevirtual 154, 3) := by decide +kernel
theorem dX11_undo_8 : decode cX11_undo 8 = .ok (.ifCond .ne 9, 3) := by decide +kernel
theorem dX11_undo_11 : decode cX11_undo 11 = .ok (.aload_n 0, 1) := by decide +kernel
theorem dX11_undo_12 : decode cX11_undo 12 = .ok (.iconst 2, 1) := by decide +kernel
theorem dX11_undo_13 : decode cX11_undo 13 = .ok (.invokevirtual 91, 3) := by decide +kernel
theorem dX11_undo_16 : decode cX11_undo 16 = .ok (.ireturn, 1) := by decide +kernel
theorem dX11_undo_17 : decode cX11_undo 17 = .ok (.aload_n 0, 1) := by decide +kernel
theorem dX11_undo_18 : decode cX11_undo 18 = .ok (.getfield 35, 3) := by decide +kernel
theorem dX11_undo_21 : decode cX11_undo 21 = .ok (.getfield 157, 3) := by decide +kernel
theorem dX11_undo_24 : decode cX11_undo 24 = .ok (.iload_n 1, 1) := by decide +kernel
theorem dX11_undo_25 : decode cX11_undo 25 = .ok (.aaload, 1) := by decide +kernel
theorem dX11_undo_26 : decode cX11_undo 26 = .ok (.astore_n 2, 1) := by decide +kernel
theorem dX11_undo_27 : decode cX11_undo 27 = .ok (.aload_n 0, 1) := by decide +kernel
theorem dX11_undo_28 : decode cX11_undo 28 = .ok (.aload_n 2, 1) := by decide +kernel
theorem dX11_undo_29 : decode cX11_undo 29 = .ok (.aload_n 2, 1) := by decide +kernel
theorem dX11_undo_30 : decode cX11_undo 30 = .ok (.getfield 182, 3) := by decide +kernel
theorem dX11_undo_33 : decode cX11_undo 33 = .ok (.aload_n 2, 1) := by decide +kernel
theorem dX11_undo_34 : decode cX11_undo 34 = .ok (.getfield 189, 3) := by decide +kernel
theorem dX11_undo_37 : decode cX11_undo 37 = .ok (.invokevirtual 368, 3) := by decide +kernel
theorem dX11_undo_40 : decode cX11_undo 40 = .ok (.ireturn, 1) := by decide +kernel
theorem dX11_redo_0 : decode cX11_redo 0 = .ok (.aload_n 0, 1) := by decide +kernel
theorem dX11_redo_1 : decode cX11_redo 1 = .ok (.getfield 35, 3) := by decide +kernel
theorem dX11_redo_4 : decode cX11_redo 4 = .ok (.iload_n 1, 1) := by decide +kernel
theorem dX11_redo_5 : decode cX11_redo 5 = .ok (.invokevirtual 154, 3) := by decide +kernel
theorem dX11_redo_8 : decode cX11_redo 8 = .ok (.ifCond .ne 9, 3) := by decide +kernel
theorem dX11_redo_11 : decode cX11_redo 11 = .ok (.aload_n 0, 1) := by decide +kernel
theorem dX11_redo_12 : decode cX11_redo 12 = .ok (.iconst 2, 1) := by decide +kernel
theorem dX11_redo_13 : decode cX11_redo 13 = .ok (.invokevirtual 91, 3) := by decide +kernel
theorem dX11_redo_16 : decode cX11_redo 16 = .ok (.ireturn, 1) := by decide +kernel
theorem dX11_redo_17 : decode cX11_redo 17 = .ok (.aload_n 0, 1) := by decide +kernel
theorem dX11_redo_18 : decode cX11_redo 18 = .ok (.getfield 35, 3) := by decide +kernel
theorem dX11_redo_21 : decode cX11_redo 21 = .ok (.getfield 157, 3) := by decide +kernel
theorem dX11_redo_24 : decode cX11_redo 24 = .ok (.iload_n 1, 1) := by decide +kernel
theorem dX11_redo_25 : decode cX11_redo 25 = .ok (.aaload, 1) := by decide +kernel
theorem dX11_redo_26 : decode cX11_redo 26 = .ok (.astore_n 2, 1) := by decide +kernel
theorem dX11_redo_27 : decode cX11_redo 27 = .ok (.aload_n 0, 1) := by decide +kernel
theorem dX11_redo_28 : decode cX11_redo 28 = .ok (.aload_n 2, 1) := by decide +kernel
theorem dX11_redo_29 : decode cX11_redo 29 = .ok (.aload_n 2, 1) := by decide +kernel
theorem dX11_redo_30 : decode cX11_redo 30 = .ok (.getfield 189, 3) := by decide +kernel
theorem dX11_redo_33 : decode cX11_redo 33 = .ok (.aload_n 2, 1) := by decide +kernel
theorem dX11_redo_34 : decode cX11_redo 34 = .ok (.getfield 182, 3) := by decide +kernel
theorem dX11_redo_37 : decode cX11_redo 37 = .ok (.invokevirtual 368, 3) := by decide +kernel
theorem dX11_redo_40 : decode cX11_redo 40 = .ok (.ireturn, 1) := by decide +kernel
theorem dX11_line_0 : decode cX11_line 0 = .ok (.aload_n 0, 1) := by decide +kernel
theorem dX11_line_1 : decode cX11_line 1 = .ok (.getfield 35, 3) := by decide +kernel
theorem dX11_line_4 : decode cX11_line 4 = .ok (.iload_n 1, 1) := by decide +kernel
theorem dX11_line_5 : decode cX11_line 5 = .ok (.invokevirtual 154, 3) := by decide +kernel
theorem dX11_line_8 : decode cX11_line 8 = .ok (.ifCond .eq 19, 3) := by decide +kernel
theorem dX11_line_11 : decode cX11_line 11 = .ok (.aload_n 0, 1) := by decide +kernel
theorem dX11_line_12 : decode cX11_line 12 = .ok (.getfield 35, 3) := by decide +kernel
theorem dX11_line_15 : decode cX11_line 15 = .ok (.getfield 157, 3) := by decide +kernel
theorem dX11_line_18 : decode cX11_line 18 = .ok (.iload_n 1, 1) := by decide +kernel
theorem dX11_line_19 : decode cX11_line 19 = .ok (.aaload, 1) := by decide +kernel
theorem dX11_line_20 : decode cX11_line 20 = .ok (.getfield 192, 3) := by decide +kernel
theorem dX11_line_23 : decode cX11_line 23 = .ok (.iload_n 2, 1) := by decide +kernel
theorem dX11_line_24 : decode cX11_line 24 = .ok (.if_icmp .ne 9, 3) := by decide +kernel
theorem dX11_line_27 : decode cX11_line 27 = .ok (.aload_n 0, 1) := by decide +kernel
theorem dX11_line_28 : decode cX11_line 28 = .ok (.iconst 3, 1) := by decide +kernel
theorem dX11_line_29 : decode cX11_line 29 = .ok (.invokevirtual 102, 3) := by decide +kernel
theorem dX11_line_32 : decode cX11_line 32 = .ok (.ireturn, 1) := by decide +kernel
theorem dX11_line_33 : decode cX11_line 33 = .ok (.aload_n 0, 1) := by decide +kernel
theorem dX11_line_34 : decode cX11_line 34 = .ok (.getfield 45, 3) := by decide +kernel
theorem dX11_line_37 : decode cX11_line 37 = .ok (.aload_n 0, 1) := by decide +kernel
theorem dX11_line_38 : decode cX11_line 38 = .ok (.getfield 35, 3) := by decide +kernel
theorem dX11_line_41 : decode cX11_line 41 = .ok (.invokevirtual 353, 3) := by decide +kernel
theorem dX11_line_44 : decode cX11_line 44 = .ok (.aload_n 0, 1) := by decide +kernel
theorem dX11_line_45 : decode cX11_line 45 = .ok (.getfield 35, 3) := by decide +kernel
theorem dX11_line_48 : decode cX11_line 48 = .ok (.getfield 157, 3) := by decide +kernel
theorem dX11_line_51 : decode cX11_line 51 = .ok (.iload_n 1, 1) := by decide +kernel
theorem dX11_line_52 : decode cX11_line 52 = .ok (.aaload, 1) := by decide +kernel
theorem dX11_line_53 : decode cX11_line 53 = .ok (.iload_n 2, 1) := by decide +kernel
theorem dX11_line_54 : decode cX11_line 54 = .ok (.putfield 192, 3) := by decide +kernel
theorem dX11_line_57 : decode cX11_line 57 = .ok (.iconst 1, 1) := by decide +kernel
theorem dX11_line_58 : decode cX11_line 58 = .ok (.ireturn, 1) := by decide +kernel
theorem dX11_delay_0 : decode cX11_delay 0 = .ok (.aload_n 0, 1) := by decide +kernel
theorem dX11_delay_1 : decode cX11_delay 1 = .ok (.getfield 35, 3) := by decide +kernel
theorem dX11_delay_4 : decode cX11_delay 4 = .ok (.iload_n 1, 1) := by decide +kernel
theorem dX11_delay_5 : decode cX11_delay 5 = .ok (.invokevirtual 154, 3) := by decide +kernel
theorem dX11_delay_8 : decode cX11_delay 8 = .ok (.ifCond .eq 29, 3) := by decide +kernel
theorem dX11_delay_11 : decode cX11_delay 11 = .ok (.iload_n 2, 1) := by decide +kernel
theorem dX11_delay_12 : decode cX11_delay 12 = .ok (.ifCond .lt 25, 3) := by decide +kernel
theorem dX11_delay_15 : decode cX11_delay 15 = .ok (.iload_n 2, 1) := by decide +kernel
theorem dX11_delay_16 : decode cX11_delay 16 = .ok (.bipush 9, 2) := by decide +kernel
theorem dX11_delay_18 : decode cX11_delay 18 = .ok (.if_icmp .gt 19, 3) := by decide +kernel
theorem dX11_delay_21 : decode cX11_delay 21 = .ok (.aload_n 0, 1) := by decide +kernel
theorem dX11_delay_22 : decode cX11_delay 22 = .ok (.getfield 35, 3) := by decide +kernel
theorem dX11_delay_25 : decode cX11_delay 25 = .ok (.getfield 157, 3) := by decide +kernel
theorem dX11_delay_28 : decode cX11_delay 28 = .ok (.iload_n 1, 1) := by decide +kernel
theorem dX11_delay_29 : decode cX11_delay 29 = .ok (.aaload, 1) := by decide +kernel
theorem dX11_delay_30 : decode cX11_delay 30 = .ok (.getfield 195, 3) := by decide +kernel
theorem dX11_delay_33 : decode cX11_delay 33 = .ok (.iload_n 2, 1) := by decide +kernel
theorem dX11_delay_34 : decode cX11_delay 34 = .ok (.if_icmp .ne 9, 3) := by decide +kernel
theorem dX11_delay_37 : decode cX11_delay 37 = .ok (.aload_n 0, 1) := by decide +kernel
theorem dX11_delay_38 : decode cX11_delay 38 = .ok (.iconst 3, 1) := by decide +kernel
theorem dX11_delay_39 : decode cX11_delay 39 = .ok (.invokevirtual 102, 3) := by decide +kernel
theorem dX11_delay_42 : decode cX11_delay 42 = .ok (.ireturn, 1) := by decide +kernel
theorem dX11_delay_43 : decode cX11_delay 43 = .ok (.aload_n 0, 1) := by decide +kernel
theorem dX11_delay_44 : decode cX11_delay 44 = .ok (.getfield 45, 3) := by decide +kernel
theorem dX11_delay_47 : decode cX11_delay 47 = .ok (.aload_n 0, 1) := by decide +kernel
theorem dX11_delay_48 : decode cX11_delay 48 = .ok (.getfield 35, 3) := by decide +kernel
theorem dX11_delay_51 : decode cX11_delay 51 = .ok (.invokevirtual 353, 3) := by decide +kernel
theorem dX11_delay_54 : decode cX11_delay 54 = .ok (.aload_n 0, 1) := by decide +kernel
theorem dX11_delay_55 : decode cX11_delay 55 = .ok (.getfield 35, 3) := by decide +kernel
theorem dX11_delay_58 : decode cX11_delay 58 = .ok (.getfield 157, 3) := by decide +kernel
theorem dX11_delay_61 : decode cX11_delay 61 = .ok (.iload_n 1, 1) := by decide +kernel
theorem dX11_delay_62 : decode cX11_delay 62 = .ok (.aaload, 1) := by decide +kernel
theorem dX11_delay_63 : decode cX11_delay 63 = .ok (.iload_n 2, 1) := by decide +kernel
theorem dX11_delay_64 : decode cX11_delay 64 = .ok (.putfield 195, 3) := by decide +kernel
theorem dX11_delay_67 : decode cX11_delay 67 = .ok (.iconst 1, 1) := by decide +kernel
theorem dX11_delay_68 : decode cX11_delay 68 = .ok (.ireturn, 1) := by decide +kernel
theorem dX11_ticks_0 : decode cX11_ticks 0 = .ok (.aload_n 0, 1) := by decide +kernel
theorem dX11_ticks_1 : decode cX11_ticks 1 = .ok (.getfield 35, 3) := by decide +kernel
theorem dX11_ticks_4 : decode cX11_ticks 4 = .ok (.iload_n 1, 1) := by decide +kernel
theorem dX11_ticks_5 : decode cX11_ticks 5 = .ok (.invokevirtual 372, 3) := by decide +kernel
theorem dX11_ticks_8 : decode cX11_ticks 8 = .ok (.ifCond .ne 9, 3) := by decide +kernel
theorem dX11_ticks_11 : decode cX11_ticks 11 = .ok (.aload_n 0, 1) := by decide +kernel
theorem dX11_ticks_12 : decode cX11_ticks 12 = .ok (.iconst 4, 1) := by decide +kernel
theorem dX11_ticks_13 : decode cX11_ticks 13 = .ok (.invokevirtual 91, 3) := by decide +kernel
theorem dX11_ticks_16 : decode cX11_ticks 16 = .ok (.ireturn, 1) := by decide +kernel
theorem dX11_ticks_17 : decode cX11_ticks 17 = .ok (.aload_n 0, 1) := by decide +kernel
theorem dX11_ticks_18 : decode cX11_ticks 18 = .ok (.getfield 45, 3) := by decide +kernel
theorem dX11_ticks_21 : decode cX11_ticks 21 = .ok (.aload_n 0, 1) := by decide +kernel
theorem dX11_ticks_22 : decode cX11_ticks 22 = .ok (.getfield 35, 3) := by decide +kernel
theorem dX11_ticks_25 : decode cX11_ticks 25 = .ok (.invokevirtual 353, 3) := by decide +kernel
theorem dX11_ticks_28 : decode cX11_ticks 28 = .ok (.aload_n 0, 1) := by decide +kernel
theorem dX11_ticks_29 : decode cX11_ticks 29 = .ok (.getfield 35, 3) := by decide +kernel
theorem dX11_ticks_32 : decode cX11_ticks 32 = .ok (.getfield 125, 3) := by decide +kernel
theorem dX11_ticks_35 : decode cX11_ticks 35 = .ok (.istore_n 2, 1) := by decide +kernel
theorem dX11_ticks_36 : decode cX11_ticks 36 = .ok (.iconst 0, 1) := by decide +kernel
theorem dX11_ticks_37 : decode cX11_ticks 37 = .ok (.istore_n 3, 1) := by decide +kernel
theorem dX11_ticks_38 : decode cX11_ticks 38 = .ok (.iload_n 3, 1) := by decide +kernel
theorem dX11_ticks_39 : decode cX11_ticks 39 = .ok (.iload_n 1, 1) := by decide +kernel
theorem dX11_ticks_40 : decode cX11_ticks 40 = .ok (.if_icmp .ge 16, 3) := by decide +kernel
theorem dX11_ticks_43 : decode cX11_ticks 43 = .ok (.aload_n 0, 1) := by decide +kernel
theorem dX11_ticks_44 : decode cX11_ticks 44 = .ok (.getfield 35, 3) := by decide +kernel
theorem dX11_ticks_47 : decode cX11_ticks 47 = .ok (.invokevirtual 282, 3) := by decide +kernel
theorem dX11_ticks_50 : decode cX11_ticks 50 = .ok (.iinc 3 1, 3) := by decide +kernel
theorem dX11_ticks_53 : decode cX11_ticks 53 = .ok (.goto (-15), 3) := by decide +kernel
theorem dX11_ticks_56 : decode cX11_ticks 56 = .ok (.aload_n 0, 1) := by decide +kernel
theorem dX11_ticks_57 : decode cX11_ticks 57 = .ok (.getfield 35, 3) := by decide +kernel
theorem dX11_ticks_60 : decode cX11_ticks 60 = .ok (.getfield 125, 3) := by decide +kernel
theorem dX11_ticks_63 : decode cX11_ticks 63 = .ok (.iload_n 2, 1) := by decide +kernel
theorem dX11_ticks_64 : decode cX11_ticks 64 = .ok (.isub, 1) := by decide +kernel
theorem dX11_ticks_65 : decode cX11_ticks 65 = .ok (.ireturn, 1) := by decide +kernel
theorem dX11_chance_0 : decode cX11_chance 0 = .ok (.aload_n 0, 1) := by decide +kernel
theorem dX11_chance_1 : decode cX11_chance 1 = .ok (.getfield 35, 3) := by decide +kernel
theorem dX11_chance_4 : decode cX11_chance 4 = .ok (.getfield 124, 3) := by decide +kernel
theorem dX11_chance_7 : decode cX11_chance 7 = .ok (.ifCond .eq 14, 3) := by decide +kernel
theorem dX11_chance_10 : decode cX11_chance 10 = .ok (.iload_n 1, 1) := by decide +kernel
theorem dX11_chance_11 : decode cX11_chance 11 = .ok (.iconst 1, 1) := by decide +kernel
theorem dX11_chance_12 : decode cX11_chance 12 = .ok (.if_icmp .lt 9, 3) := by decide +kernel
theorem dX11_chance_15 : decode cX11_chance 15 = .ok (.iload_n 1, 1) := by decide +kernel
theorem dX11_chance_16 : decode cX11_chance 16 = .ok (.bipush 40, 2) := by decide +kernel
theorem dX11_chance_18 : decode cX11_chance 18 = .ok (.if_icmp .le 9, 3) := by decide +kernel
theorem dX11_chance_21 : decode cX11_chance 21 = .ok (.aload_n 0, 1) := by decide +kernel
theorem dX11_chance_22 : decode cX11_chance 22 = .ok (.iconst 4, 1) := by decide +kernel
theorem dX11_chance_23 : decode cX11_chance 23 = .ok (.invokevirtual 91, 3) := by decide +kernel
theorem dX11_chance_26 : decode cX11_chance 26 = .ok (.ireturn, 1) := by decide +kernel
theorem dX11_chance_27 : decode cX11_chance 27 = .ok (.aload_n 0, 1) := by decide +kernel
theorem dX11_chance_28 : decode cX11_chance 28 = .ok (.getfield 45, 3) := by decide +kernel
theorem dX11_chance_31 : decode cX11_chance 31 = .ok (.aload_n 0, 1) := by decide +kernel
theorem dX11_chance_32 : decode cX11_chance 32 = .ok (.getfield 35, 3) := by decide +kernel
theorem dX11_chance_35 : decode cX11_chance 35 = .ok (.invokevirtual 353, 3) := by decide +kernel
theorem dX11_chance_38 : decode cX11_chance 38 = .ok (.aload_n 0, 1) := by decide +kernel
theorem dX11_chance_39 : decode cX11_chance 39 = .ok (.getfield 35, 3) := by decide +kernel
theorem dX11_chance_42 : decode cX11_chance 42 = .ok (.getfield 137, 3) := by decide +kernel
theorem dX11_chance_45 : decode cX11_chance 45 = .ok (.istore_n 2, 1) := by decide +kernel
theorem dX11_chance_46 : decode cX11_chance 46 = .ok (.iconst 0, 1) := by decide +kernel
theorem dX11_chance_47 : decode cX11_chance 47 = .ok (.istore_n 3, 1) := by decide +kernel
theorem dX11_chance_48 : decode cX11_chance 48 = .ok (.iload_n 3, 1) := by decide +kernel
theorem dX11_chance_49 : decode cX11_chance 49 = .ok (.iload_n 1, 1) := by decide +kernel
theorem dX11_chance_50 : decode cX11_chance 50 = .ok (.if_icmp .ge 13, 3) := by decide +kernel
theorem dX11_chance_53 : decode cX11_chance 53 = .ok (.aload_n 0, 1) := by decide +kernel
theorem dX11_chance_54 : decode cX11_chance 54 = .ok (.invokevirtual 375, 3) := by decide +kernel
theorem dX11_chance_57 : decode cX11_chance 57 = .ok (.iinc 3 1, 3) := by decide +kernel
theorem dX11_chance_60 : decode cX11_chance 60 = .ok (.goto (-12), 3) := by decide +kernel
theorem dX11_chance_63 : decode cX11_chance 63 = .ok (.aload_n 0, 1) := by decide +kernel
theorem dX11_chance_64 : decode cX11_chance 64 = .ok (.getfield 35, 3) := by decide +kernel
theorem dX11_chance_67 : decode cX11_chance 67 = .ok (.getfield 137, 3) := by decide +kernel
theorem dX11_chance_70 : decode cX11_chance 70 = .ok (.iload_n 2, 1) := by decide +kernel
theorem dX11_chance_71 : decode cX11_chance 71 = .ok (.isub, 1) := by decide +kernel
theorem dX11_chance_72 : decode cX11_chance 72 = .ok (.ireturn, 1) := by decide +kernel
theorem dX11_back_0 : decode cX11_back 0 = .ok (.aload_n 0, 1) := by decide +kernel
theorem dX11_back_1 : decode cX11_back 1 = .ok (.getfield 45, 3) := by decide +kernel
theorem dX11_back_4 : decode cX11_back 4 = .ok (.aload_n 0, 1) := by decide +kernel
theorem dX11_back_5 : decode cX11_back 5 = .ok (.getfield 35, 3) := by decide +kernel
theorem dX11_back_8 : decode cX11_back 8 = .ok (.invokevirtual 378, 3) := by decide +kernel
theorem dX11_back_11 : decode cX11_back 11 = .ok (.ifCond .ne 11, 3) := by decide +kernel
theorem dX11_back_14 : decode cX11_back 14 = .ok (.aload_n 0, 1) := by decide +kernel
theorem dX11_back_15 : decode cX11_back 15 = .ok (.iconst 5, 1) := by decide +kernel
theorem dX11_back_16 : decode cX11_back 16 = .ok (.invokevirtual 102, 3) := by decide +kernel
theorem dX11_back_19 : decode cX11_back 19 = .ok (.ifCond .eq 7, 3) := by decide +kernel
theorem dX11_back_22 : decode cX11_back 22 = .ok (.iconst 1, 1) := by decide +kernel
theorem dX11_back_23 : decode cX11_back 23 = .ok (.goto 4, 3) := by decide +kernel
theorem dX11_back_26 : decode cX11_back 26 = .ok (.iconst 0, 1) := by decide +kernel
theorem dX11_back_27 : decode cX11_back 27 = .ok (.ireturn, 1) := by decide +kernel
theorem dX11_seed_0 : decode cX11_seed 0 = .ok (.iload_n 1, 1) := by decide +kernel
theorem dX11_seed_1 : decode cX11_seed 1 = .ok (.ifCond .ge 10, 3) := by decide +kernel
theorem dX11_seed_4 : decode cX11_seed 4 = .ok (.aload_n 0, 1) := by decide +kernel
theorem dX11_seed_5 : decode cX11_seed 5 = .ok (.bipush 6, 2) := by decide +kernel
theorem dX11_seed_7 : decode cX11_seed 7 = .ok (.invokevirtual 102, 3) := by decide +kernel
theorem dX11_seed_10 : decode cX11_seed 10 = .ok (.ireturn, 1) := by decide +kernel
theorem dX11_seed_11 : decode cX11_seed 11 = .ok (.aload_n 0, 1) := by decide +kernel
theorem dX11_seed_12 : decode cX11_seed 12 = .ok (.iload_n 1, 1) := by decide +kernel
theorem dX11_seed_13 : decode cX11_seed 13 = .ok (.putfield 84, 3) := by decide +kernel
theorem dX11_seed_16 : decode cX11_seed 16 = .ok (.iconst 1, 1) := by decide +kernel
theorem dX11_seed_17 : decode cX11_seed 17 = .ok (.ireturn, 1) := by decide +kernel
theorem dX11_status_0 : decode cX11_status 0 = .ok (.iload_n 1, 1) := by decide +kernel
theorem dX11_status_1 : decode cX11_status 1 = .ok (.ifCond .lt 21, 3) := by decide +kernel
theorem dX11_status_4 : decode cX11_status 4 = .ok (.iload_n 1, 1) := by decide +kernel
theorem dX11_status_5 : decode cX11_status 5 = .ok (.aload_n 0, 1) := by decide +kernel
theorem dX11_status_6 : decode cX11_status 6 = .ok (.getfield 73, 3) := by decide +kernel
theorem dX11_status_9 : decode cX11_status 9 = .ok (.arraylength, 1) := by decide +kernel
theorem dX11_status_10 : decode cX11_status 10 = .ok (.if_icmp .ge 12, 3) := by decide +kernel
theorem dX11_status_13 : decode cX11_status 13 = .ok (.aload_n 0, 1) := by decide +kernel
theorem dX11_status_14 : decode cX11_status 14 = .ok (.getfield 73, 3) := by decide +kernel
theorem dX11_status_17 : decode cX11_status 17 = .ok (.iload_n 1, 1) := by decide +kernel
theorem dX11_status_18 : decode cX11_status 18 = .ok (.iaload, 1) := by decide +kernel
theorem dX11_status_19 : decode cX11_status 19 = .ok (.goto 4, 3) := by decide +kernel
theorem dX11_status_22 : decode cX11_status 22 = .ok (.iconst (-1), 1) := by decide +kernel
theorem dX11_status_23 : decode cX11_status 23 = .ok (.ireturn, 1) := by decide +kernel
theorem dX11_refuse_0 : decode cX11_refuse 0 = .ok (.iload_n 1, 1) := by decide +kernel
theorem dX11_refuse_1 : decode cX11_refuse 1 = .ok (.ifCond .lt 22, 3) := by decide +kernel
theorem dX11_refuse_4 : decode cX11_refuse 4 = .ok (.iload_n 1, 1) := by decide +kernel
theorem dX11_refuse_5 : decode cX11_refuse 5 = .ok (.aload_n 0, 1) := by decide +kernel
theorem dX11_refuse_6 : decode cX11_refuse 6 = .ok (.getfield 73, 3) := by decide +kernel
theorem dX11_refuse_9 : decode cX11_refuse 9 = .ok (.arraylength, 1) := by decide +kernel
theorem dX11_refuse_10 : decode cX11_refuse 10 = .ok (.if_icmp .ge 13, 3) := by decide +kernel
theorem dX11_refuse_13 : decode cX11_refuse 13 = .ok (.aload_n 0, 1) := by decide +kernel
theorem dX11_refuse_14 : decode cX11_refuse 14 = .ok (.getfield 73, 3) := by decide +kernel
theorem dX11_refuse_17 : decode cX11_refuse 17 = .ok (.iload_n 1, 1) := by decide +kernel
theorem dX11_refuse_18 : decode cX11_refuse 18 = .ok (.dup2, 1) := by decide +kernel
theorem dX11_refuse_19 : decode cX11_refuse 19 = .ok (.iaload, 1) := by decide +kernel
theorem dX11_refuse_20 : decode cX11_refuse 20 = .ok (.iconst 1, 1) := by decide +kernel
theorem dX11_refuse_21 : decode cX11_refuse 21 = .ok (.iadd, 1) := by decide +kernel
theorem dX11_refuse_22 : decode cX11_refuse 22 = .ok (.iastore, 1) := by decide +kernel
theorem dX11_refuse_23 : decode cX11_refuse 23 = .ok (.iconst (-1), 1) := by decide +kernel
theorem dX11_refuse_24 : decode cX11_refuse 24 = .ok (.ireturn, 1) := by decide +kernel
theorem dX11_refuseFlatly_0 : decode cX11_refuseFlatly 0 = .ok (.aload_n 0, 1) := by decide +kernel
theorem dX11_refuseFlatly_1 : decode cX11_refuseFlatly 1 = .ok (.iload_n 1, 1) := by decide +kernel
theorem dX11_refuseFlatly_2 : decode cX11_refuseFlatly 2 = .ok (.invokevirtual 91, 3) := by decide +kernel
theorem dX11_refuseFlatly_5 : decode cX11_refuseFlatly 5 = .ok (.pop, 1) := by decide +kernel
theorem dX11_refuseFlatly_6 : decode cX11_refuseFlatly 6 = .ok (.iconst 0, 1) := by decide +kernel
theorem dX11_refuseFlatly_7 : decode cX11_refuseFlatly 7 = .ok (.ireturn, 1) := by decide +kernel
theorem dX11_noteFault_0 : decode cX11_noteFault 0 = .ok (.aload_n 0, 1) := by decide +kernel
theorem dX11_noteFault_1 : decode cX11_noteFault 1 = .ok (.aload_n 0, 1) := by decide +kernel
theorem dX11_noteFault_2 : decode cX11_noteFault 2 = .ok (.getfield 10, 3) := by decide +kernel
theorem dX11_noteFault_5 : decode cX11_noteFault 5 = .ok (.getfield 382, 3) := by decide +kernel
theorem dX11_noteFault_8 : decode cX11_noteFault 8 = .ok (.putfield 77, 3) := by decide +kernel
theorem dX11_noteFault_11 : decode cX11_noteFault 11 = .ok (.aload_n 0, 1) := by decide +kernel
theorem dX11_noteFault_12 : decode cX11_noteFault 12 = .ok (.aload_n 0, 1) := by decide +kernel
theorem dX11_noteFault_13 : decode cX11_noteFault 13 = .ok (.getfield 10, 3) := by decide +kernel
theorem dX11_noteFault_16 : decode cX11_noteFault 16 = .ok (.getfield 382, 3) := by decide +kernel
theorem dX11_noteFault_19 : decode cX11_noteFault 19 = .ok (.ifCond .ne 7, 3) := by decide +kernel
theorem dX11_noteFault_22 : decode cX11_noteFault 22 = .ok (.iconst (-1), 1) := by decide +kernel
theorem dX11_noteFault_23 : decode cX11_noteFault 23 = .ok (.goto 10, 3) := by decide +kernel
theorem dX11_noteFault_26 : decode cX11_noteFault 26 = .ok (.aload_n 0, 1) := by decide +kernel
theorem dX11_noteFault_27 : decode cX11_noteFault 27 = .ok (.getfield 10, 3) := by decide +kernel
theorem dX11_noteFault_30 : decode cX11_noteFault 30 = .ok (.getfield 385, 3) := by decide +kernel
theorem dX11_noteFault_33 : decode cX11_noteFault 33 = .ok (.putfield 81, 3) := by decide +kernel
theorem dX11_noteFault_36 : decode cX11_noteFault 36 = .ok (.return_, 1) := by decide +kernel
theorem dX11_isTaken_0 : decode cX11_isTaken 0 = .ok (.iload_n 1, 1) := by decide +kernel
theorem dX11_isTaken_1 : decode cX11_isTaken 1 = .ok (.iconst 1, 1) := by decide +kernel
theorem dX11_isTaken_2 : decode cX11_isTaken 2 = .ok (.if_icmp .lt 18, 3) := by decide +kernel
theorem dX11_isTaken_5 : decode cX11_isTaken 5 = .ok (.iload_n 1, 1) := by decide +kernel
theorem dX11_isTaken_6 : decode cX11_isTaken 6 = .ok (.aload_n 0, 1) := by decide +kernel
theorem dX11_isTaken_7 : decode cX11_isTaken 7 = .ok (.getfield 35, 3) := by decide +kernel
theorem dX11_isTaken_10 : decode cX11_isTaken 10 = .ok (.getfield 125, 3) := by decide +kernel
theorem dX11_isTaken_13 : decode cX11_isTaken 13 = .ok (.if_icmp .gt 7, 3) := by decide +kernel
theorem dX11_isTaken_16 : decode cX11_isTaken 16 = .ok (.iconst 1, 1) := by decide +kernel
theorem dX11_isTaken_17 : decode cX11_isTaken 17 = .ok (.goto 4, 3) := by decide +kernel
theorem dX11_isTaken_20 : decode cX11_isTaken 20 = .ok (.iconst 0, 1) := by decide +kernel
theorem dX11_isTaken_21 : decode cX11_isTaken 21 = .ok (.ireturn, 1) := by decide +kernel
theorem dX11_reckonEnds_0 : decode cX11_reckonEnds 0 = .ok (.aload_n 0, 1) := by decide +kernel
theorem dX11_reckonEnds_1 : decode cX11_reckonEnds 1 = .ok (.getfield 52, 3) := by decide +kernel
theorem dX11_reckonEnds_4 : decode cX11_reckonEnds 4 = .ok (.getfield 386, 3) := by decide +kernel
theorem dX11_reckonEnds_7 : decode cX11_reckonEnds 7 = .ok (.aload_n 0, 1) := by decide +kernel
theorem dX11_reckonEnds_8 : decode cX11_reckonEnds 8 = .ok (.getfield 45, 3) := by decide +kernel
theorem dX11_reckonEnds_11 : decode cX11_reckonEnds 11 = .ok (.getfield 389, 3) := by decide +kernel
theorem dX11_reckonEnds_14 : decode cX11_reckonEnds 14 = .ok (.if_icmp .eq 32, 3) := by decide +kernel
theorem dX11_reckonEnds_17 : decode cX11_reckonEnds 17 = .ok (.aload_n 0, 1) := by decide +kernel
theorem dX11_reckonEnds_18 : decode cX11_reckonEnds 18 = .ok (.getfield 52, 3) := by decide +kernel
theorem dX11_reckonEnds_21 : decode cX11_reckonEnds 21 = .ok (.aload_n 0, 1) := by decide +kernel
theorem dX11_reckonEnds_22 : decode cX11_reckonEnds 22 = .ok (.getfield 35, 3) := by decide +kernel
theorem dX11_reckonEnds_25 : decode cX11_reckonEnds 25 = .ok (.aload_n 0, 1) := by decide +kernel
theorem dX11_reckonEnds_26 : decode cX11_reckonEnds 26 = .ok (.getfield 39, 3) := by decide +kernel
theorem dX11_reckonEnds_29 : decode cX11_reckonEnds 29 = .ok (.invokevirtual 392, 3) := by decide +kernel
theorem dX11_reckonEnds_32 : decode cX11_reckonEnds 32 = .ok (.aload_n 0, 1) := by decide +kernel
theorem dX11_reckonEnds_33 : decode cX11_reckonEnds 33 = .ok (.getfield 52, 3) := by decide +kernel
theorem dX11_reckonEnds_36 : decode cX11_reckonEnds 36 = .ok (.aload_n 0, 1) := by decide +kernel
theorem dX11_reckonEnds_37 : decode cX11_reckonEnds 37 = .ok (.getfield 45, 3) := by decide +kernel
theorem dX11_reckonEnds_40 : decode cX11_reckonEnds 40 = .ok (.getfield 389, 3) := by decide +kernel
theorem dX11_reckonEnds_43 : decode cX11_reckonEnds 43 = .ok (.putfield 386, 3) := by decide +kernel
theorem dX11_reckonEnds_46 : decode cX11_reckonEnds 46 = .ok (.return_, 1) := by decide +kernel
theorem dX11_replay_0 : decode cX11_replay 0 = .ok (.aload_n 0, 1) := by decide +kernel
theorem dX11_replay_1 : decode cX11_replay 1 = .ok (.getfield 69, 3) := by decide +kernel
theorem dX11_replay_4 : decode cX11_replay 4 = .ok (.aload_n 0, 1) := by decide +kernel
theorem dX11_replay_5 : decode cX11_replay 5 = .ok (.getfield 26, 3) := by decide +kernel
theorem dX11_replay_8 : decode cX11_replay 8 = .ok (.getfield 396, 3) := by decide +kernel
theorem dX11_replay_11 : decode cX11_replay 11 = .ok (.invokevirtual 272, 3) := by decide +kernel
theorem dX11_replay_14 : decode cX11_replay 14 = .ok (.iconst 0, 1) := by decide +kernel
theorem dX11_replay_15 : decode cX11_replay 15 = .ok (.istore_n 2, 1) := by decide +kernel
theorem dX11_replay_16 : decode cX11_replay 16 = .ok (.iload_n 2, 1) := by decide +kernel
theorem dX11_replay_17 : decode cX11_replay 17 = .ok (.iload_n 1, 1) := by decide +kernel
theorem dX11_replay_18 : decode cX11_replay 18 = .ok (.if_icmp .ge 30, 3) := by decide +kernel
theorem dX11_replay_21 : decode cX11_replay 21 = .ok (.aload_n 0, 1) := by decide +kernel
theorem dX11_replay_22 : decode cX11_replay 22 = .ok (.getfield 19, 3) := by decide +kernel
theorem dX11_replay_25 : decode cX11_replay 25 = .ok (.aload_n 0, 1) := by decide +kernel
theorem dX11_replay_26 : decode cX11_replay 26 = .ok (.getfield 69, 3) := by decide +kernel
theorem dX11_replay_29 : decode cX11_replay 29 = .ok (.aload_n 0, 1) := by decide +kernel
theorem dX11_replay_30 : decode cX11_replay 30 = .ok (.getfield 26, 3) := by decide +kernel
theorem dX11_replay_33 : decode cX11_replay 33 = .ok (.getfield 219, 3) := by decide +kernel
theorem dX11_replay_36 : decode cX11_replay 36 = .ok (.iload_n 2, 1) := by decide +kernel
theorem dX11_replay_37 : decode cX11_replay 37 = .ok (.aaload, 1) := by decide +kernel
theorem dX11_replay_38 : decode cX11_replay 38 = .ok (.iconst 0, 1) := by decide +kernel
theorem dX11_replay_39 : decode cX11_replay 39 = .ok (.invokevirtual 275, 3) := by decide +kernel
theorem dX11_replay_42 : decode cX11_replay 42 = .ok (.iinc 2 1, 3) := by decide +kernel
theorem dX11_replay_45 : decode cX11_replay 45 = .ok (.goto (-29), 3) := by decide +kernel
theorem dX11_replay_48 : decode cX11_replay 48 = .ok (.return_, 1) := by decide +kernel
theorem dX11_beginAsTold_0 : decode cX11_beginAsTold 0 = .ok (.aload_n 0, 1) := by decide +kernel
theorem dX11_beginAsTold_1 : decode cX11_beginAsTold 1 = .ok (.getfield 26, 3) := by decide +kernel
theorem dX11_beginAsTold_4 : decode cX11_beginAsTold 4 = .ok (.getfield 396, 3) := by decide +kernel
theorem dX11_beginAsTold_7 : decode cX11_beginAsTold 7 = .ok (.aload_n 0, 1) := by decide +kernel
theorem dX11_beginAsTold_8 : decode cX11_beginAsTold 8 = .ok (.getfield 10, 3) := by decide +kernel
theorem dX11_beginAsTold_11 : decode cX11_beginAsTold 11 = .ok (.getfield 322, 3) := by decide +kernel
theorem dX11_beginAsTold_14 : decode cX11_beginAsTold 14 = .ok (.aload_n 0, 1) := by decide +kernel
theorem dX11_beginAsTold_15 : decode cX11_beginAsTold 15 = .ok (.getfield 10, 3) := by decide +kernel
theorem dX11_beginAsTold_18 : decode cX11_beginAsTold 18 = .ok (.getfield 399, 3) := by decide +kernel
theorem dX11_beginAsTold_21 : decode cX11_beginAsTold 21 = .ok (.invokevirtual 402, 3) := by decide +kernel
theorem dX11_beginAsTold_24 : decode cX11_beginAsTold 24 = .ok (.aload_n 0, 1) := by decide +kernel
theorem dX11_beginAsTold_25 : decode cX11_beginAsTold 25 = .ok (.getfield 35, 3) := by decide +kernel
theorem dX11_beginAsTold_28 : decode cX11_beginAsTold 28 = .ok (.aload_n 0, 1) := by decide +kernel
theorem dX11_beginAsTold_29 : decode cX11_beginAsTold 29 = .ok (.getfield 10, 3) := by decide +kernel
theorem dX11_beginAsTold_32 : decode cX11_beginAsTold 32 = .ok (.getfield 405, 3) := by decide +kernel
theorem dX11_beginAsTold_35 : decode cX11_beginAsTold 35 = .ok (.invokevirtual 407, 3) := by decide +kernel
theorem dX11_beginAsTold_38 : decode cX11_beginAsTold 38 = .ok (.aload_n 0, 1) := by decide +kernel
theorem dX11_beginAsTold_39 : decode cX11_beginAsTold 39 = .ok (.getfield 45, 3) := by decide +kernel
theorem dX11_beginAsTold_42 : decode cX11_beginAsTold 42 = .ok (.invokevirtual 410, 3) := by decide +kernel
theorem dX11_beginAsTold_45 : decode cX11_beginAsTold 45 = .ok (.aload_n 0, 1) := by decide +kernel
theorem dX11_beginAsTold_46 : decode cX11_beginAsTold 46 = .ok (.getfield 52, 3) := by decide +kernel
theorem dX11_beginAsTold_49 : decode cX11_beginAsTold 49 = .ok (.iconst 0, 1) := by decide +kernel
theorem dX11_beginAsTold_50 : decode cX11_beginAsTold 50 = .ok (.putfield 147, 3) := by decide +kernel
theorem dX11_beginAsTold_53 : decode cX11_beginAsTold 53 = .ok (.return_, 1) := by decide +kernel
theorem dX11_settle_0 : decode cX11_settle 0 = .ok (.aload_n 0, 1) := by decide +kernel
theorem dX11_settle_1 : decode cX11_settle 1 = .ok (.getfield 10, 3) := by decide +kernel
theorem dX11_settle_4 : decode cX11_settle 4 = .ok (.iload_n 1, 1) := by decide +kernel
theorem dX11_settle_5 : decode cX11_settle 5 = .ok (.iconst 0, 1) := by decide +kernel
theorem dX11_settle_6 : decode cX11_settle 6 = .ok (.invokevirtual 412, 3) := by decide +kernel
theorem dX11_settle_9 : decode cX11_settle 9 = .ok (.istore_n 2, 1) := by decide +kernel
theorem dX11_settle_10 : decode cX11_settle 10 = .ok (.aload_n 0, 1) := by decide +kernel
theorem dX11_settle_11 : decode cX11_settle 11 = .ok (.getfield 10, 3) := by decide +kernel
theorem dX11_settle_14 : decode cX11_settle 14 = .ok (.getfield 415, 3) := by decide +kernel
theorem dX11_settle_17 : decode cX11_settle 17 = .ok (.iload_n 1, 1) := by decide +kernel
theorem dX11_settle_18 : decode cX11_settle 18 = .ok (.iaload, 1) := by decide +kernel
theorem dX11_settle_19 : decode cX11_settle 19 = .ok (.iconst 2, 1) := by decide +kernel
theorem dX11_settle_20 : decode cX11_settle 20 = .ok (.if_icmp .ne 14, 3) := by decide +kernel
theorem dX11_settle_23 : decode cX11_settle 23 = .ok (.aload_n 0, 1) := by decide +kernel
theorem dX11_settle_24 : decode cX11_settle 24 = .ok (.getfield 35, 3) := by decide +kernel
theorem dX11_settle_27 : decode cX11_settle 27 = .ok (.iload_n 2, 1) := by decide +kernel
theorem dX11_settle_28 : decode cX11_settle 28 = .ok (.putfield 151, 3) := by decide +kernel
theorem dX11_settle_31 : decode cX11_settle 31 = .ok (.goto 48, 3) := by decide +kernel
theorem dX11_settle_34 : decode cX11_settle 34 = .ok (.aload_n 0, 1) := by decide +kernel
theorem dX11_settle_35 : decode cX11_settle 35 = .ok (.getfield 10, 3) := by decide +kernel
theorem dX11_settle_38 : decode cX11_settle 38 = .ok (.getfield 415, 3) := by decide +kernel
theorem dX11_settle_41 : decode cX11_settle 41 = .ok (.iload_n 1, 1) := by decide +kernel
theorem dX11_settle_42 : decode cX11_settle 42 = .ok (.iaload, 1) := by decide +kernel
theorem dX11_settle_43 : decode cX11_settle 43 = .ok (.iconst 1, 1) := by decide +kernel
theorem dX11_settle_44 : decode cX11_settle 44 = .ok (.if_icmp .ne 35, 3) := by decide +kernel
theorem dX11_settle_47 : decode cX11_settle 47 = .ok (.aload_n 0, 1) := by decide +kernel
theorem dX11_settle_48 : decode cX11_settle 48 = .ok (.getfield 35, 3) := by decide +kernel
theorem dX11_settle_51 : decode cX11_settle 51 = .ok (.iload_n 2, 1) := by decide +kernel
theorem dX11_settle_52 : decode cX11_settle 52 = .ok (.invokevirtual 154, 3) := by decide +kernel
theorem dX11_settle_55 : decode cX11_settle 55 = .ok (.ifCond .eq 24, 3) := by decide +kernel
theorem dX11_settle_58 : decode cX11_settle 58 = .ok (.aload_n 0, 1) := by decide +kernel
theorem dX11_settle_59 : decode cX11_settle 59 = .ok (.getfield 35, 3) := by decide +kernel
theorem dX11_settle_62 : decode cX11_settle 62 = .ok (.getfield 157, 3) := by decide +kernel
theorem dX11_settle_65 : decode cX11_settle 65 = .ok (.iload_n 2, 1) := by decide +kernel
theorem dX11_settle_66 : decode cX11_settle 66 = .ok (.aaload, 1) := by decide +kernel
theorem dX11_settle_67 : decode cX11_settle 67 = .ok (.aload_n 0, 1) := by decide +kernel
theorem dX11_settle_68 : decode cX11_settle 68 = .ok (.getfield 10, 3) := by decide +kernel
theorem dX11_settle_71 : decode cX11_settle 71 = .ok (.iload_n 1, 1) := by decide +kernel
theorem dX11_settle_72 : decode cX11_settle 72 = .ok (.iconst 1, 1) := by decide +kernel
theorem dX11_settle_73 : decode cX11_settle 73 = .ok (.invokevirtual 412, 3) := by decide +kernel
theorem dX11_settle_76 : decode cX11_settle 76 = .ok (.putfield 195, 3) := by decide +kernel
theorem dX11_settle_79 : decode cX11_settle 79 = .ok (.return_, 1) := by decide +kernel
theorem dX11_perform_0 : decode cX11_perform 0 = .ok (.aload_n 0, 1) := by decide +kernel
theorem dX11_perform_1 : decode cX11_perform 1 = .ok (.getfield 10, 3) := by decide +kernel
theorem dX11_perform_4 : decode cX11_perform 4 = .ok (.getfield 415, 3) := by decide +kernel
theorem dX11_perform_7 : decode cX11_perform 7 = .ok (.iload_n 1, 1) := by decide +kernel
theorem dX11_perform_8 : decode cX11_perform 8 = .ok (.iaload, 1) := by decide +kernel
theorem dX11_perform_9 : decode cX11_perform 9 = .ok (.istore_n 2, 1) := by decide +kernel
theorem dX11_perform_10 : decode cX11_perform 10 = .ok (.aload_n 0, 1) := by decide +kernel
theorem dX11_perform_11 : decode cX11_perform 11 = .ok (.getfield 10, 3) := by decide +kernel
theorem dX11_perform_14 : decode cX11_perform 14 = .ok (.iload_n 1, 1) := by decide +kernel
theorem dX11_perform_15 : decode cX11_perform 15 = .ok (.iconst 0, 1) := by decide +kernel
theorem dX11_perform_16 : decode cX11_perform 16 = .ok (.invokevirtual 412, 3) := by decide +kernel
theorem dX11_perform_19 : decode cX11_perform 19 = .ok (.istore_n 3, 1) := by decide +kernel
theorem dX11_perform_20 : decode cX11_perform 20 = .ok (.iload_n 2, 1) := by decide +kernel
theorem dX11_perform_21 : decode cX11_perform 21 = .ok (.bipush 8, 2) := by decide +kernel
theorem dX11_perform_23 : decode cX11_perform 23 = .ok (.if_icmp .ne 42, 3) := by decide +kernel
theorem dX11_perform_26 : decode cX11_perform 26 = .ok (.aload_n 0, 1) := by decide +kernel
theorem dX11_perform_27 : decode cX11_perform 27 = .ok (.getfield 35, 3) := by decide +kernel
theorem dX11_perform_30 : decode cX11_perform 30 = .ok (.iload_n 3, 1) := by decide +kernel
theorem dX11_perform_31 : decode cX11_perform 31 = .ok (.invokevirtual 372, 3) := by decide +kernel
theorem dX11_perform_34 : decode cX11_perform 34 = .ok (.ifCond .eq 7, 3) := by decide +kernel
theorem dX11_perform_37 : decode cX11_perform 37 = .ok (.iload_n 3, 1) := by decide +kernel
theorem dX11_perform_38 : decode cX11_perform 38 = .ok (.goto 4, 3) := by decide +kernel
theorem dX11_perform_41 : decode cX11_perform 41 = .ok (.iconst 0, 1) := by decide +kernel
theorem dX11_perform_42 : decode cX11_perform 42 = .ok (.istore 4, 2) := by decide +kernel
theorem dX11_perform_44 : decode cX11_perform 44 = .ok (.iload 4, 2) := by decide +kernel
theorem dX11_perform_46 : decode cX11_perform 46 = .ok (.ifCond .le 16, 3) := by decide +kernel
theorem dX11_perform_49 : decode cX11_perform 49 = .ok (.aload_n 0, 1) := by decide +kernel
theorem dX11_perform_50 : decode cX11_perform 50 = .ok (.getfield 35, 3) := by decide +kernel
theorem dX11_perform_53 : decode cX11_perform 53 = .ok (.invokevirtual 282, 3) := by decide +kernel
theorem dX11_perform_56 : decode cX11_perform 56 = .ok (.iinc 4 (-1), 3) := by decide +kernel
theorem dX11_perform_59 : decode cX11_perform 59 = .ok (.goto (-15), 3) := by decide +kernel
theorem dX11_perform_62 : decode cX11_perform 62 = .ok (.goto 29, 3) := by decide +kernel
theorem dX11_perform_65 : decode cX11_perform 65 = .ok (.iload_n 2, 1) := by decide +kernel
theorem dX11_perform_66 : decode cX11_perform 66 = .ok (.ifCond .eq 25, 3) := by decide +kernel
theorem dX11_perform_69 : decode cX11_perform 69 = .ok (.iload_n 2, 1) := by decide +kernel
theorem dX11_perform_70 : decode cX11_perform 70 = .ok (.iconst 2, 1) := by decide +kernel
theorem dX11_perform_71 : decode cX11_perform 71 = .ok (.if_icmp .eq 20, 3) := by decide +kernel
theorem dX11_perform_74 : decode cX11_perform 74 = .ok (.aload_n 0, 1) := by decide +kernel
theorem dX11_perform_75 : decode cX11_perform 75 = .ok (.getfield 35, 3) := by decide +kernel
theorem dX11_perform_78 : decode cX11_perform 78 = .ok (.iload_n 3, 1) := by decide +kernel
theorem dX11_perform_79 : decode cX11_perform 79 = .ok (.invokevirtual 154, 3) := by decide +kernel
theorem dX11_perform_82 : decode cX11_perform 82 = .ok (.ifCond .eq 9, 3) := by decide +kernel
theorem dX11_perform_85 : decode cX11_perform 85 = .ok (.aload_n 0, 1) := by decide +kernel
theorem dX11_perform_86 : decode cX11_perform 86 = .ok (.iload_n 3, 1) := by decide +kernel
theorem dX11_perform_87 : decode cX11_perform 87 = .ok (.iload_n 1, 1) := by decide +kernel
theorem dX11_perform_88 : decode cX11_perform 88 = .ok (.invokevirtual 418, 3) := by decide +kernel
theorem dX11_perform_91 : decode cX11_perform 91 = .ok (.return_, 1) := by decide +kernel
theorem dX11_performFor_0 : decode cX11_performFor 0 = .ok (.aload_n 0, 1) := by decide +kernel
theorem dX11_performFor_1 : decode cX11_performFor 1 = .ok (.getfield 35, 3) := by decide +kernel
theorem dX11_performFor_4 : decode cX11_performFor 4 = .ok (.getfield 157, 3) := by decide +kernel
theorem dX11_performFor_7 : decode cX11_performFor 7 = .ok (.iload_n 1, 1) := by decide +kernel
theorem dX11_performFor_8 : decode cX11_performFor 8 = .ok (.aaload, 1) := by decide +kernel
theorem dX11_performFor_9 : decode cX11_performFor 9 = .ok (.astore_n 3, 1) := by decide +kernel
theorem dX11_performFor_10 : decode cX11_performFor 10 = .ok (.aload_n 0, 1) := by decide +kernel
theorem dX11_performFor_11 : decode cX11_performFor 11 = .ok (.getfield 10, 3) := by decide +kernel
theorem dX11_performFor_14 : decode cX11_performFor 14 = .ok (.iload_n 2, 1) := by decide +kernel
theorem dX11_performFor_15 : decode cX11_performFor 15 = .ok (.iconst 1, 1) := by decide +kernel
theorem dX11_performFor_16 : decode cX11_performFor 16 = .ok (.invokevirtual 412, 3) := by decide +kernel
theorem dX11_performFor_19 : decode cX11_performFor 19 = .ok (.istore 4, 2) := by decide +kernel
theorem dX11_performFor_21 : decode cX11_performFor 21 = .ok (.aload_n 0, 1) := by decide +kernel
theorem dX11_performFor_22 : decode cX11_performFor 22 = .ok (.getfield 10, 3) := by decide +kernel
theorem dX11_performFor_25 : decode cX11_performFor 25 = .ok (.iload_n 2, 1) := by decide +kernel
theorem dX11_performFor_26 : decode cX11_performFor 26 = .ok (.iconst 2, 1) := by decide +kernel
theorem dX11_performFor_27 : decode cX11_performFor 27 = .ok (.invokevirtual 412, 3) := by decide +kernel
theorem dX11_performFor_30 : decode cX11_performFor 30 = .ok (.istore 5, 2) := by decide +kernel
theorem dX11_performFor_32 : decode cX11_performFor 32 = .ok (.aload_n 0, 1) := by decide +kernel
theorem dX11_performFor_33 : decode cX11_performFor 33 = .ok (.getfield 10, 3) := by decide +kernel
theorem dX11_performFor_36 : decode cX11_performFor 36 = .ok (.iload_n 2, 1) := by decide +kernel
theorem dX11_performFor_37 : decode cX11_performFor 37 = .ok (.iconst 3, 1) := by decide +kernel
theorem dX11_performFor_38 : decode cX11_performFor 38 = .ok (.invokevirtual 412, 3) := by decide +kernel
theorem dX11_performFor_41 : decode cX11_performFor 41 = .ok (.istore 6, 2) := by decide +kernel
theorem dX11_performFor_43 : decode cX11_performFor 43 = .ok (.aload_n 0, 1) := by decide +kernel
theorem dX11_performFor_44 : decode cX11_performFor 44 = .ok (.getfield 10, 3) := by decide +kernel
theorem dX11_performFor_47 : decode cX11_performFor 47 = .ok (.getfield 415, 3) := by decide +kernel
theorem dX11_performFor_50 : decode cX11_performFor 50 = .ok (.iload_n 2, 1) := by decide +kernel
theorem dX11_performFor_51 : decode cX11_performFor 51 = .ok (.iaload, 1) := by decide +kernel
theorem dX11_performFor_52 : decode cX11_performFor 52 = .ok (.tableswitch 172 3 7 #[36, 93, 115, 146, 146], 36) := by decide +kernel
theorem dX11_performFor_88 : decode cX11_performFor 88 = .ok (.aload_n 0, 1) := by decide +kernel
theorem dX11_performFor_89 : decode cX11_performFor 89 = .ok (.getfield 59, 3) := by decide +kernel
theorem dX11_performFor_92 : decode cX11_performFor 92 = .ok (.aload_n 0, 1) := by decide +kernel
theorem dX11_performFor_93 : decode cX11_performFor 93 = .ok (.getfield 10, 3) := by decide +kernel
theorem dX11_performFor_96 : decode cX11_performFor 96 = .ok (.getfield 322, 3) := by decide +kernel
theorem dX11_performFor_99 : decode cX11_performFor 99 = .ok (.iload 4, 2) := by decide +kernel
theorem dX11_performFor_101 : decode cX11_performFor 101 = .ok (.iload 5, 2) := by decide +kernel
theorem dX11_performFor_103 : decode cX11_performFor 103 = .ok (.aload_n 3, 1) := by decide +kernel
theorem dX11_performFor_104 : decode cX11_performFor 104 = .ok (.getfield 161, 3) := by decide +kernel
theorem dX11_performFor_107 : decode cX11_performFor 107 = .ok (.getfield 131, 3) := by decide +kernel
theorem dX11_performFor_110 : decode cX11_performFor 110 = .ok (.invokevirtual 328, 3) := by decide +kernel
theorem dX11_performFor_113 : decode cX11_performFor 113 = .ok (.ifCond .eq 111, 3) := by decide +kernel
theorem dX11_performFor_116 : decode cX11_performFor 116 = .ok (.aload_n 0, 1) := by decide +kernel
theorem dX11_performFor_117 : decode cX11_performFor 117 = .ok (.getfield 35, 3) := by decide +kernel
theorem dX11_performFor_120 : decode cX11_performFor 120 = .ok (.aload_n 0, 1) := by decide +kernel
theorem dX11_performFor_121 : decode cX11_performFor 121 = .ok (.getfield 59, 3) := by decide +kernel
theorem dX11_performFor_124 : decode cX11_performFor 124 = .ok (.invokevirtual 422, 3) := by decide +kernel
theorem dX11_performFor_127 : decode cX11_performFor 127 = .ok (.ifCond .eq 97, 3) := by decide +kernel
theorem dX11_performFor_130 : decode cX11_performFor 130 = .ok (.aload_n 0, 1) := by decide +kernel
theorem dX11_performFor_131 : decode cX11_performFor 131 = .ok (.getfield 35, 3) := by decide +kernel
theorem dX11_performFor_134 : decode cX11_performFor 134 = .ok (.aload_n 3, 1) := by decide +kernel
theorem dX11_performFor_135 : decode cX11_performFor 135 = .ok (.aload_n 0, 1) := by decide +kernel
theorem dX11_performFor_136 : decode cX11_performFor 136 = .ok (.getfield 59, 3) := by decide +kernel
theorem dX11_performFor_139 : decode cX11_performFor 139 = .ok (.invokevirtual 426, 3) := by decide +kernel
theorem dX11_performFor_142 : decode cX11_performFor 142 = .ok (.goto 82, 3) := by decide +kernel
theorem dX11_performFor_145 : decode cX11_performFor 145 = .ok (.aload_n 0, 1) := by decide +kernel
theorem dX11_performFor_146 : decode cX11_performFor 146 = .ok (.getfield 35, 3) := by decide +kernel
theorem dX11_performFor_149 : decode cX11_performFor 149 = .ok (.iload_n 1, 1) := by decide +kernel
theorem dX11_performFor_150 : decode cX11_performFor 150 = .ok (.iload 4, 2) := by decide +kernel
theorem dX11_performFor_152 : decode cX11_performFor 152 = .ok (.invokevirtual 350, 3) := by decide +kernel
theorem dX11_performFor_155 : decode cX11_performFor 155 = .ok (.ifCond .eq 69, 3) := by decide +kernel
theorem dX11_performFor_158 : decode cX11_performFor 158 = .ok (.aload_n 3, 1) := by decide +kernel
theorem dX11_performFor_159 : decode cX11_performFor 159 = .ok (.iload 4, 2) := by decide +kernel
theorem dX11_performFor_161 : decode cX11_performFor 161 = .ok (.putfield 169, 3) := by decide +kernel
theorem dX11_performFor_164 : decode cX11_performFor 164 = .ok (.goto 60, 3) := by decide +kernel
theorem dX11_performFor_167 : decode cX11_performFor 167 = .ok (.aload_n 0, 1) := by decide +kernel
theorem dX11_performFor_168 : decode cX11_performFor 168 = .ok (.getfield 35, 3) := by decide +kernel
theorem dX11_performFor_171 : decode cX11_performFor 171 = .ok (.iload_n 1, 1) := by decide +kernel
theorem dX11_performFor_172 : decode cX11_performFor 172 = .ok (.iload 4, 2) := by decide +kernel
theorem dX11_performFor_174 : decode cX11_performFor 174 = .ok (.iload 5, 2) := by decide +kernel
theorem dX11_performFor_176 : decode cX11_performFor 176 = .ok (.iload 6, 2) := by decide +kernel
theorem dX11_performFor_178 : decode cX11_performFor 178 = .ok (.invokevirtual 357, 3) := by decide +kernel
theorem dX11_performFor_181 : decode cX11_performFor 181 = .ok (.ifCond .eq 43, 3) := by decide +kernel
theorem dX11_performFor_184 : decode cX11_performFor 184 = .ok (.aload_n 3, 1) := by decide +kernel
theorem dX11_performFor_185 : decode cX11_performFor 185 = .ok (.iload 4, 2) := by decide +kernel
theorem dX11_performFor_187 : decode cX11_performFor 187 = .ok (.iload 5, 2) := by decide +kernel
theorem dX11_performFor_189 : decode cX11_performFor 189 = .ok (.iload 6, 2) := by decide +kernel
theorem dX11_performFor_191 : decode cX11_performFor 191 = .ok (.invokevirtual 361, 3) := by decide +kernel
theorem dX11_performFor_194 : decode cX11_performFor 194 = .ok (.pop, 1) := by decide +kernel
theorem dX11_performFor_195 : decode cX11_performFor 195 = .ok (.goto 29, 3) := by decide +kernel
theorem dX11_performFor_198 : decode cX11_performFor 198 = .ok (.aload_n 3, 1) := by decide +kernel
theorem dX11_performFor_199 : decode cX11_performFor 199 = .ok (.aload_n 0, 1) := by decide +kernel
theorem dX11_performFor_200 : decode cX11_performFor 200 = .ok (.getfield 10, 3) := by decide +kernel
theorem dX11_performFor_203 : decode cX11_performFor 203 = .ok (.getfield 415, 3) := by decide +kernel
theorem dX11_performFor_206 : decode cX11_performFor 206 = .ok (.iload_n 2, 1) := by decide +kernel
theorem dX11_performFor_207 : decode cX11_performFor 207 = .ok (.iaload, 1) := by decide +kernel
theorem dX11_performFor_208 : decode cX11_performFor 208 = .ok (.bipush 7, 2) := by decide +kernel
theorem dX11_performFor_210 : decode cX11_performFor 210 = .ok (.if_icmp .ne 7, 3) := by decide +kernel
theorem dX11_performFor_213 : decode cX11_performFor 213 = .ok (.iconst 1, 1) := by decide +kernel
theorem dX11_performFor_214 : decode cX11_performFor 214 = .ok (.goto 4, 3) := by decide +kernel
theorem dX11_performFor_217 : decode cX11_performFor 217 = .ok (.iconst 0, 1) := by decide +kernel
theorem dX11_performFor_218 : decode cX11_performFor 218 = .ok (.putfield 192, 3) := by decide +kernel
theorem dX11_performFor_221 : decode cX11_performFor 221 = .ok (.goto 3, 3) := by decide +kernel
theorem dX11_performFor_224 : decode cX11_performFor 224 = .ok (.return_, 1) := by decide +kernel
theorem dX11_editWithOp_0 : decode cX11_editWithOp 0 = .ok (.aload_n 0, 1) := by decide +kernel
theorem dX11_editWithOp_1 : decode cX11_editWithOp 1 = .ok (.getfield 35, 3) := by decide +kernel
theorem dX11_editWithOp_4 : decode cX11_editWithOp 4 = .ok (.aload_n 0, 1) := by decide +kernel
theorem dX11_editWithOp_5 : decode cX11_editWithOp 5 = .ok (.getfield 59, 3) := by decide +kernel
theorem dX11_editWithOp_8 : decode cX11_editWithOp 8 = .ok (.invokevirtual 422, 3) := by decide +kernel
theorem dX11_editWithOp_11 : decode cX11_editWithOp 11 = .ok (.ifCond .ne 9, 3) := by decide +kernel
theorem dX11_editWithOp_14 : decode cX11_editWithOp 14 = .ok (.aload_n 0, 1) := by decide +kernel
theorem dX11_editWithOp_15 : decode cX11_editWithOp 15 = .ok (.iconst 2, 1) := by decide +kernel
theorem dX11_editWithOp_16 : decode cX11_editWithOp 16 = .ok (.invokevirtual 91, 3) := by decide +kernel
theorem dX11_editWithOp_19 : decode cX11_editWithOp 19 = .ok (.ireturn, 1) := by decide +kernel
theorem dX11_editWithOp_20 : decode cX11_editWithOp 20 = .ok (.aload_n 0, 1) := by decide +kernel
theorem dX11_editWithOp_21 : decode cX11_editWithOp 21 = .ok (.getfield 45, 3) := by decide +kernel
theorem dX11_editWithOp_24 : decode cX11_editWithOp 24 = .ok (.aload_n 0, 1) := by decide +kernel
theorem dX11_editWithOp_25 : decode cX11_editWithOp 25 = .ok (.getfield 35, 3) := by decide +kernel
theorem dX11_editWithOp_28 : decode cX11_editWithOp 28 = .ok (.invokevirtual 353, 3) := by decide +kernel
theorem dX11_editWithOp_31 : decode cX11_editWithOp 31 = .ok (.aload_n 0, 1) := by decide +kernel
theorem dX11_editWithOp_32 : decode cX11_editWithOp 32 = .ok (.getfield 35, 3) := by decide +kernel
theorem dX11_editWithOp_35 : decode cX11_editWithOp 35 = .ok (.aload_n 1, 1) := by decide +kernel
theorem dX11_editWithOp_36 : decode cX11_editWithOp 36 = .ok (.aload_n 0, 1) := by decide +kernel
theorem dX11_editWithOp_37 : decode cX11_editWithOp 37 = .ok (.getfield 59, 3) := by decide +kernel
theorem dX11_editWithOp_40 : decode cX11_editWithOp 40 = .ok (.invokevirtual 426, 3) := by decide +kernel
theorem dX11_editWithOp_43 : decode cX11_editWithOp 43 = .ok (.aload_n 1, 1) := by decide +kernel
theorem dX11_editWithOp_44 : decode cX11_editWithOp 44 = .ok (.getfield 161, 3) := by decide +kernel
theorem dX11_editWithOp_47 : decode cX11_editWithOp 47 = .ok (.getfield 131, 3) := by decide +kernel
theorem dX11_editWithOp_50 : decode cX11_editWithOp 50 = .ok (.ireturn, 1) := by decide +kernel
theorem dX11_changeByInverse_0 : decode cX11_changeByInverse 0 = .ok (.aload_n 2, 1) := by decide +kernel
theorem dX11_changeByInverse_1 : decode cX11_changeByInverse 1 = .ok (.invokevirtual 430, 3) := by decide +kernel
theorem dX11_changeByInverse_4 : decode cX11_changeByInverse 4 = .ok (.istore 4, 2) := by decide +kernel
theorem dX11_changeByInverse_6 : decode cX11_changeByInverse 6 = .ok (.iload 4, 2) := by decide +kernel
theorem dX11_changeByInverse_8 : decode cX11_changeByInverse 8 = .ok (.iconst (-1), 1) := by decide +kernel
theorem dX11_changeByInverse_9 : decode cX11_changeByInverse 9 = .ok (.if_icmp .eq 20, 3) := by decide +kernel
theorem dX11_changeByInverse_12 : decode cX11_changeByInverse 12 = .ok (.aload_n 0, 1) := by decide +kernel
theorem dX11_changeByInverse_13 : decode cX11_changeByInverse 13 = .ok (.getfield 35, 3) := by decide +kernel
theorem dX11_changeByInverse_16 : decode cX11_changeByInverse 16 = .ok (.aload_n 2, 1) := by decide +kernel
theorem dX11_changeByInverse_17 : decode cX11_changeByInverse 17 = .ok (.getfield 433, 3) := by decide +kernel
theorem dX11_changeByInverse_20 : decode cX11_changeByInverse 20 = .ok (.iload 4, 2) := by decide +kernel
theorem dX11_changeByInverse_22 : decode cX11_changeByInverse 22 = .ok (.aaload, 1) := by decide +kernel
theorem dX11_changeByInverse_23 : decode cX11_changeByInverse 23 = .ok (.invokevirtual 422, 3) := by decide +kernel
theorem dX11_changeByInverse_26 : decode cX11_changeByInverse 26 = .ok (.ifCond .ne 9, 3) := by decide +kernel
theorem dX11_changeByInverse_29 : decode cX11_changeByInverse 29 = .ok (.aload_n 0, 1) := by decide +kernel
theorem dX11_changeByInverse_30 : decode cX11_changeByInverse 30 = .ok (.iconst 2, 1) := by decide +kernel
theorem dX11_changeByInverse_31 : decode cX11_changeByInverse 31 = .ok (.invokevirtual 91, 3) := by decide +kernel
theorem dX11_changeByInverse_34 : decode cX11_changeByInverse 34 = .ok (.ireturn, 1) := by decide +kernel
theorem dX11_changeByInverse_35 : decode cX11_changeByInverse 35 = .ok (.aload_n 0, 1) := by decide +kernel
theorem dX11_changeByInverse_36 : decode cX11_changeByInverse 36 = .ok (.getfield 45, 3) := by decide +kernel
theorem dX11_changeByInverse_39 : decode cX11_changeByInverse 39 = .ok (.aload_n 0, 1) := by decide +kernel
theorem dX11_changeByInverse_40 : decode cX11_changeByInverse 40 = .ok (.getfield 35, 3) := by decide +kernel
theorem dX11_changeByInverse_43 : decode cX11_changeByInverse 43 = .ok (.invokevirtual 353, 3) := by decide +kernel
theorem dX11_changeByInverse_46 : decode cX11_changeByInverse 46 = .ok (.aload_n 0, 1) := by decide +kernel
theorem dX11_changeByInverse_47 : decode cX11_changeByInverse 47 = .ok (.getfield 35, 3) := by decide +kernel
theorem dX11_changeByInverse_50 : decode cX11_changeByInverse 50 = .ok (.aload_n 1, 1) := by decide +kernel
theorem dX11_changeByInverse_51 : decode cX11_changeByInverse 51 = .ok (.aload_n 2, 1) := by decide +kernel
theorem dX11_changeByInverse_52 : decode cX11_changeByInverse 52 = .ok (.aload_n 3, 1) := by decide +kernel
theorem dX11_changeByInverse_53 : decode cX11_changeByInverse 53 = .ok (.iload 4, 2) := by decide +kernel
theorem dX11_changeByInverse_55 : decode cX11_changeByInverse 55 = .ok (.invokevirtual 434, 3) := by decide +kernel
theorem dX11_changeByInverse_58 : decode cX11_changeByInverse 58 = .ok (.aload_n 1, 1) := by decide +kernel
theorem dX11_changeByInverse_59 : decode cX11_changeByInverse 59 = .ok (.getfield 161, 3) := by decide +kernel
theorem dX11_changeByInverse_62 : decode cX11_changeByInverse 62 = .ok (.getfield 131, 3) := by decide +kernel
theorem dX11_changeByInverse_65 : decode cX11_changeByInverse 65 = .ok (.ireturn, 1) := by decide +kernel
theorem dX11_draw_0 : decode cX11_draw 0 = .ok (.ldc2_w 438, 3) := by decide +kernel
theorem dX11_draw_3 : decode cX11_draw 3 = .ok (.aload_n 0, 1) := by decide +kernel
theorem dX11_draw_4 : decode cX11_draw 4 = .ok (.getfield 84, 3) := by decide +kernel
theorem dX11_draw_7 : decode cX11_draw 7 = .ok (.i2l, 1) := by decide +kernel
theorem dX11_draw_8 : decode cX11_draw 8 = .ok (.lmul, 1) := by decide +kernel
theorem dX11_draw_9 : decode cX11_draw 9 = .ok (.ldc2_w 440, 3) := by decide +kernel
theorem dX11_draw_12 : decode cX11_draw 12 = .ok (.ladd, 1) := by decide +kernel
theorem dX11_draw_13 : decode cX11_draw 13 = .ok (.ldc2_w 442, 3) := by decide +kernel
theorem dX11_draw_16 : decode cX11_draw 16 = .ok (.land, 1) := by decide +kernel
theorem dX11_draw_17 : decode cX11_draw 17 = .ok (.lstore_n 2, 1) := by decide +kernel
theorem dX11_draw_18 : decode cX11_draw 18 = .ok (.aload_n 0, 1) := by decide +kernel
theorem dX11_draw_19 : decode cX11_draw 19 = .ok (.lload_n 2, 1) := by decide +kernel
theorem dX11_draw_20 : decode cX11_draw 20 = .ok (.l2i, 1) := by decide +kernel
theorem dX11_draw_21 : decode cX11_draw 21 = .ok (.putfield 84, 3) := by decide +kernel
theorem dX11_draw_24 : decode cX11_draw 24 = .ok (.iload_n 1, 1) := by decide +kernel
theorem dX11_draw_25 : decode cX11_draw 25 = .ok (.ifCond .le 15, 3) := by decide +kernel
theorem dX11_draw_28 : decode cX11_draw 28 = .ok (.lload_n 2, 1) := by decide +kernel
theorem dX11_draw_29 : decode cX11_draw 29 = .ok (.ldc2_w 444, 3) := by decide +kernel
theorem dX11_draw_32 : decode cX11_draw 32 = .ok (.ldiv, 1) := by decide +kernel
theorem dX11_draw_33 : decode cX11_draw 33 = .ok (.iload_n 1, 1) := by decide +kernel
theorem dX11_draw_34 : decode cX11_draw 34 = .ok (.i2l, 1) := by decide +kernel
theorem dX11_draw_35 : decode cX11_draw 35 = .ok (.lrem, 1) := by decide +kernel
theorem dX11_draw_36 : decode cX11_draw 36 = .ok (.l2i, 1) := by decide +kernel
theorem dX11_draw_37 : decode cX11_draw 37 = .ok (.goto 4, 3) := by decide +kernel
theorem dX11_draw_40 : decode cX11_draw 40 = .ok (.iconst 0, 1) := by decide +kernel
theorem dX11_draw_41 : decode cX11_draw 41 = .ok (.ireturn, 1) := by decide +kernel
theorem dX11_changeBySeed_0 : decode cX11_changeBySeed 0 = .ok (.aload_n 0, 1) := by decide +kernel
theorem dX11_changeBySeed_1 : decode cX11_changeBySeed 1 = .ok (.iconst 4, 1) := by decide +kernel
theorem dX11_changeBySeed_2 : decode cX11_changeBySeed 2 = .ok (.invokevirtual 446, 3) := by decide +kernel
theorem dX11_changeBySeed_5 : decode cX11_changeBySeed 5 = .ok (.istore_n 1, 1) := by decide +kernel
theorem dX11_changeBySeed_6 : decode cX11_changeBySeed 6 = .ok (.iload_n 1, 1) := by decide +kernel
theorem dX11_changeBySeed_7 : decode cX11_changeBySeed 7 = .ok (.iconst 3, 1) := by decide +kernel
