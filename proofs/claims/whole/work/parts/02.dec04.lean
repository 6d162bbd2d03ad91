theorem dX11_changeBySeed_8 : decode cX11_changeBySeed 8 = .ok (.if_icmp .ne 22, 3) := by decide +kernel
theorem dX11_changeBySeed_11 : decode cX11_changeBySeed 11 = .ok (.aload_n 0, 1) := by decide +kernel
theorem dX11_changeBySeed_12 : decode cX11_changeBySeed 12 = .ok (.getfield 35, 3) := by decide +kernel
theorem dX11_changeBySeed_15 : decode cX11_changeBySeed 15 = .ok (.iconst 1, 1) := by decide +kernel
theorem dX11_changeBySeed_16 : decode cX11_changeBySeed 16 = .ok (.invokevirtual 372, 3) := by decide +kernel
theorem dX11_changeBySeed_19 : decode cX11_changeBySeed 19 = .ok (.ifCond .eq 10, 3) := by decide +kernel
theorem dX11_changeBySeed_22 : decode cX11_changeBySeed 22 = .ok (.aload_n 0, 1) := by decide +kernel
theorem dX11_changeBySeed_23 : decode cX11_changeBySeed 23 = .ok (.getfield 35, 3) := by decide +kernel
theorem dX11_changeBySeed_26 : decode cX11_changeBySeed 26 = .ok (.invokevirtual 282, 3) := by decide +kernel
theorem dX11_changeBySeed_29 : decode cX11_changeBySeed 29 = .ok (.return_, 1) := by decide +kernel
theorem dX11_changeBySeed_30 : decode cX11_changeBySeed 30 = .ok (.aload_n 0, 1) := by decide +kernel
theorem dX11_changeBySeed_31 : decode cX11_changeBySeed 31 = .ok (.aload_n 0, 1) := by decide +kernel
theorem dX11_changeBySeed_32 : decode cX11_changeBySeed 32 = .ok (.getfield 35, 3) := by decide +kernel
theorem dX11_changeBySeed_35 : decode cX11_changeBySeed 35 = .ok (.getfield 124, 3) := by decide +kernel
theorem dX11_changeBySeed_38 : decode cX11_changeBySeed 38 = .ok (.invokevirtual 446, 3) := by decide +kernel
theorem dX11_changeBySeed_41 : decode cX11_changeBySeed 41 = .ok (.istore_n 2, 1) := by decide +kernel
theorem dX11_changeBySeed_42 : decode cX11_changeBySeed 42 = .ok (.aload_n 0, 1) := by decide +kernel
theorem dX11_changeBySeed_43 : decode cX11_changeBySeed 43 = .ok (.getfield 35, 3) := by decide +kernel
theorem dX11_changeBySeed_46 : decode cX11_changeBySeed 46 = .ok (.iload_n 2, 1) := by decide +kernel
theorem dX11_changeBySeed_47 : decode cX11_changeBySeed 47 = .ok (.invokevirtual 154, 3) := by decide +kernel
theorem dX11_changeBySeed_50 : decode cX11_changeBySeed 50 = .ok (.ifCond .ne 4, 3) := by decide +kernel
theorem dX11_changeBySeed_53 : decode cX11_changeBySeed 53 = .ok (.return_, 1) := by decide +kernel
theorem dX11_changeBySeed_54 : decode cX11_changeBySeed 54 = .ok (.aload_n 0, 1) := by decide +kernel
theorem dX11_changeBySeed_55 : decode cX11_changeBySeed 55 = .ok (.getfield 35, 3) := by decide +kernel
theorem dX11_changeBySeed_58 : decode cX11_changeBySeed 58 = .ok (.getfield 157, 3) := by decide +kernel
theorem dX11_changeBySeed_61 : decode cX11_changeBySeed 61 = .ok (.iload_n 2, 1) := by decide +kernel
theorem dX11_changeBySeed_62 : decode cX11_changeBySeed 62 = .ok (.aaload, 1) := by decide +kernel
theorem dX11_changeBySeed_63 : decode cX11_changeBySeed 63 = .ok (.astore_n 3, 1) := by decide +kernel
theorem dX11_changeBySeed_64 : decode cX11_changeBySeed 64 = .ok (.aload_n 3, 1) := by decide +kernel
theorem dX11_changeBySeed_65 : decode cX11_changeBySeed 65 = .ok (.getfield 161, 3) := by decide +kernel
theorem dX11_changeBySeed_68 : decode cX11_changeBySeed 68 = .ok (.getfield 131, 3) := by decide +kernel
theorem dX11_changeBySeed_71 : decode cX11_changeBySeed 71 = .ok (.istore 4, 2) := by decide +kernel
theorem dX11_changeBySeed_73 : decode cX11_changeBySeed 73 = .ok (.iload_n 1, 1) := by decide +kernel
theorem dX11_changeBySeed_74 : decode cX11_changeBySeed 74 = .ok (.iconst 2, 1) := by decide +kernel
theorem dX11_changeBySeed_75 : decode cX11_changeBySeed 75 = .ok (.if_icmp .ge 35, 3) := by decide +kernel
theorem dX11_changeBySeed_78 : decode cX11_changeBySeed 78 = .ok (.aload_n 0, 1) := by decide +kernel
theorem dX11_changeBySeed_79 : decode cX11_changeBySeed 79 = .ok (.iload 4, 2) := by decide +kernel
theorem dX11_changeBySeed_81 : decode cX11_changeBySeed 81 = .ok (.iconst 1, 1) := by decide +kernel
theorem dX11_changeBySeed_82 : decode cX11_changeBySeed 82 = .ok (.iadd, 1) := by decide +kernel
theorem dX11_changeBySeed_83 : decode cX11_changeBySeed 83 = .ok (.invokevirtual 446, 3) := by decide +kernel
theorem dX11_changeBySeed_86 : decode cX11_changeBySeed 86 = .ok (.istore 5, 2) := by decide +kernel
theorem dX11_changeBySeed_88 : decode cX11_changeBySeed 88 = .ok (.aload_n 0, 1) := by decide +kernel
theorem dX11_changeBySeed_89 : decode cX11_changeBySeed 89 = .ok (.getfield 59, 3) := by decide +kernel
theorem dX11_changeBySeed_92 : decode cX11_changeBySeed 92 = .ok (.iload 5, 2) := by decide +kernel
theorem dX11_changeBySeed_94 : decode cX11_changeBySeed 94 = .ok (.aload_n 0, 1) := by decide +kernel
theorem dX11_changeBySeed_95 : decode cX11_changeBySeed 95 = .ok (.bipush 26, 2) := by decide +kernel
theorem dX11_changeBySeed_97 : decode cX11_changeBySeed 97 = .ok (.invokevirtual 446, 3) := by decide +kernel
theorem dX11_changeBySeed_100 : decode cX11_changeBySeed 100 = .ok (.iconst 1, 1) := by decide +kernel
theorem dX11_changeBySeed_101 : decode cX11_changeBySeed 101 = .ok (.iadd, 1) := by decide +kernel
theorem dX11_changeBySeed_102 : decode cX11_changeBySeed 102 = .ok (.iload 4, 2) := by decide +kernel
theorem dX11_changeBySeed_104 : decode cX11_changeBySeed 104 = .ok (.invokevirtual 340, 3) := by decide +kernel
theorem dX11_changeBySeed_107 : decode cX11_changeBySeed 107 = .ok (.goto 28, 3) := by decide +kernel
theorem dX11_changeBySeed_110 : decode cX11_changeBySeed 110 = .ok (.iload 4, 2) := by decide +kernel
theorem dX11_changeBySeed_112 : decode cX11_changeBySeed 112 = .ok (.ifCond .le 22, 3) := by decide +kernel
theorem dX11_changeBySeed_115 : decode cX11_changeBySeed 115 = .ok (.aload_n 0, 1) := by decide +kernel
theorem dX11_changeBySeed_116 : decode cX11_changeBySeed 116 = .ok (.getfield 59, 3) := by decide +kernel
theorem dX11_changeBySeed_119 : decode cX11_changeBySeed 119 = .ok (.aload_n 0, 1) := by decide +kernel
theorem dX11_changeBySeed_120 : decode cX11_changeBySeed 120 = .ok (.iload 4, 2) := by decide +kernel
theorem dX11_changeBySeed_122 : decode cX11_changeBySeed 122 = .ok (.invokevirtual 446, 3) := by decide +kernel
theorem dX11_changeBySeed_125 : decode cX11_changeBySeed 125 = .ok (.iconst 1, 1) := by decide +kernel
theorem dX11_changeBySeed_126 : decode cX11_changeBySeed 126 = .ok (.iload 4, 2) := by decide +kernel
theorem dX11_changeBySeed_128 : decode cX11_changeBySeed 128 = .ok (.invokevirtual 347, 3) := by decide +kernel
theorem dX11_changeBySeed_131 : decode cX11_changeBySeed 131 = .ok (.goto 4, 3) := by decide +kernel
theorem dX11_changeBySeed_134 : decode cX11_changeBySeed 134 = .ok (.return_, 1) := by decide +kernel
theorem dX11_changeBySeed_135 : decode cX11_changeBySeed 135 = .ok (.aload_n 0, 1) := by decide +kernel
theorem dX11_changeBySeed_136 : decode cX11_changeBySeed 136 = .ok (.getfield 35, 3) := by decide +kernel
theorem dX11_changeBySeed_139 : decode cX11_changeBySeed 139 = .ok (.aload_n 0, 1) := by decide +kernel
theorem dX11_changeBySeed_140 : decode cX11_changeBySeed 140 = .ok (.getfield 59, 3) := by decide +kernel
theorem dX11_changeBySeed_143 : decode cX11_changeBySeed 143 = .ok (.invokevirtual 422, 3) := by decide +kernel
theorem dX11_changeBySeed_146 : decode cX11_changeBySeed 146 = .ok (.ifCond .eq 15, 3) := by decide +kernel
theorem dX11_changeBySeed_149 : decode cX11_changeBySeed 149 = .ok (.aload_n 0, 1) := by decide +kernel
theorem dX11_changeBySeed_150 : decode cX11_changeBySeed 150 = .ok (.getfield 35, 3) := by decide +kernel
theorem dX11_changeBySeed_153 : decode cX11_changeBySeed 153 = .ok (.aload_n 3, 1) := by decide +kernel
theorem dX11_changeBySeed_154 : decode cX11_changeBySeed 154 = .ok (.aload_n 0, 1) := by decide +kernel
theorem dX11_changeBySeed_155 : decode cX11_changeBySeed 155 = .ok (.getfield 59, 3) := by decide +kernel
theorem dX11_changeBySeed_158 : decode cX11_changeBySeed 158 = .ok (.invokevirtual 426, 3) := by decide +kernel
theorem dX11_changeBySeed_161 : decode cX11_changeBySeed 161 = .ok (.return_, 1) := by decide +kernel
theorem dX12_init_0 : decode cX12_init 0 = .ok (.aload_n 0, 1) := by decide +kernel
theorem dX12_init_1 : decode cX12_init 1 = .ok (.invokespecial 1, 3) := by decide +kernel
theorem dX12_init_4 : decode cX12_init 4 = .ok (.aload_n 0, 1) := by decide +kernel
theorem dX12_init_5 : decode cX12_init 5 = .ok (.sipush 1600, 3) := by decide +kernel
theorem dX12_init_8 : decode cX12_init 8 = .ok (.newarray .int, 2) := by decide +kernel
theorem dX12_init_10 : decode cX12_init 10 = .ok (.putfield 7, 3) := by decide +kernel
theorem dX12_init_13 : decode cX12_init 13 = .ok (.aload_n 0, 1) := by decide +kernel
theorem dX12_init_14 : decode cX12_init 14 = .ok (.iconst (-1), 1) := by decide +kernel
theorem dX12_init_15 : decode cX12_init 15 = .ok (.putfield 13, 3) := by decide +kernel
theorem dX12_init_18 : decode cX12_init 18 = .ok (.aload_n 0, 1) := by decide +kernel
theorem dX12_init_19 : decode cX12_init 19 = .ok (.bipush 7, 2) := by decide +kernel
theorem dX12_init_21 : decode cX12_init 21 = .ok (.newarray .int, 2) := by decide +kernel
theorem dX12_init_23 : decode cX12_init 23 = .ok (.putfield 17, 3) := by decide +kernel
theorem dX12_init_26 : decode cX12_init 26 = .ok (.aload_n 0, 1) := by decide +kernel
theorem dX12_init_27 : decode cX12_init 27 = .ok (.iconst 4, 1) := by decide +kernel
theorem dX12_init_28 : decode cX12_init 28 = .ok (.newarray .char, 2) := by decide +kernel
theorem dX12_init_30 : decode cX12_init 30 = .ok (.dup, 1) := by decide +kernel
theorem dX12_init_31 : decode cX12_init 31 = .ok (.iconst 0, 1) := by decide +kernel
theorem dX12_init_32 : decode cX12_init 32 = .ok (.bipush 116, 2) := by decide +kernel
theorem dX12_init_34 : decode cX12_init 34 = .ok (.castore, 1) := by decide +kernel
theorem dX12_init_35 : decode cX12_init 35 = .ok (.dup, 1) := by decide +kernel
theorem dX12_init_36 : decode cX12_init 36 = .ok (.iconst 1, 1) := by decide +kernel
theorem dX12_init_37 : decode cX12_init 37 = .ok (.bipush 101, 2) := by decide +kernel
theorem dX12_init_39 : decode cX12_init 39 = .ok (.castore, 1) := by decide +kernel
theorem dX12_init_40 : decode cX12_init 40 = .ok (.dup, 1) := by decide +kernel
theorem dX12_init_41 : decode cX12_init 41 = .ok (.iconst 2, 1) := by decide +kernel
theorem dX12_init_42 : decode cX12_init 42 = .ok (.bipush 120, 2) := by decide +kernel
theorem dX12_init_44 : decode cX12_init 44 = .ok (.castore, 1) := by decide +kernel
theorem dX12_init_45 : decode cX12_init 45 = .ok (.dup, 1) := by decide +kernel
theorem dX12_init_46 : decode cX12_init 46 = .ok (.iconst 3, 1) := by decide +kernel
theorem dX12_init_47 : decode cX12_init 47 = .ok (.bipush 116, 2) := by decide +kernel
theorem dX12_init_49 : decode cX12_init 49 = .ok (.castore, 1) := by decide +kernel
theorem dX12_init_50 : decode cX12_init 50 = .ok (.putfield 20, 3) := by decide +kernel
theorem dX12_init_53 : decode cX12_init 53 = .ok (.aload_n 0, 1) := by decide +kernel
theorem dX12_init_54 : decode cX12_init 54 = .ok (.bipush 7, 2) := by decide +kernel
theorem dX12_init_56 : decode cX12_init 56 = .ok (.newarray .char, 2) := by decide +kernel
theorem dX12_init_58 : decode cX12_init 58 = .ok (.dup, 1) := by decide +kernel
theorem dX12_init_59 : decode cX12_init 59 = .ok (.iconst 0, 1) := by decide +kernel
theorem dX12_init_60 : decode cX12_init 60 = .ok (.bipush 101, 2) := by decide +kernel
theorem dX12_init_62 : decode cX12_init 62 = .ok (.castore, 1) := by decide +kernel
theorem dX12_init_63 : decode cX12_init 63 = .ok (.dup, 1) := by decide +kernel
theorem dX12_init_64 : decode cX12_init 64 = .ok (.iconst 1, 1) := by decide +kernel
theorem dX12_init_65 : decode cX12_init 65 = .ok (.bipush 100, 2) := by decide +kernel
theorem dX12_init_67 : decode cX12_init 67 = .ok (.castore, 1) := by decide +kernel
theorem dX12_init_68 : decode cX12_init 68 = .ok (.dup, 1) := by decide +kernel
theorem dX12_init_69 : decode cX12_init 69 = .ok (.iconst 2, 1) := by decide +kernel
theorem dX12_init_70 : decode cX12_init 70 = .ok (.bipush 105, 2) := by decide +kernel
theorem dX12_init_72 : decode cX12_init 72 = .ok (.castore, 1) := by decide +kernel
theorem dX12_init_73 : decode cX12_init 73 = .ok (.dup, 1) := by decide +kernel
theorem dX12_init_74 : decode cX12_init 74 = .ok (.iconst 3, 1) := by decide +kernel
theorem dX12_init_75 : decode cX12_init 75 = .ok (.bipush 116, 2) := by decide +kernel
theorem dX12_init_77 : decode cX12_init 77 = .ok (.castore, 1) := by decide +kernel
theorem dX12_init_78 : decode cX12_init 78 = .ok (.dup, 1) := by decide +kernel
theorem dX12_init_79 : decode cX12_init 79 = .ok (.iconst 4, 1) := by decide +kernel
theorem dX12_init_80 : decode cX12_init 80 = .ok (.bipush 111, 2) := by decide +kernel
theorem dX12_init_82 : decode cX12_init 82 = .ok (.castore, 1) := by decide +kernel
theorem dX12_init_83 : decode cX12_init 83 = .ok (.dup, 1) := by decide +kernel
theorem dX12_init_84 : decode cX12_init 84 = .ok (.iconst 5, 1) := by decide +kernel
theorem dX12_init_85 : decode cX12_init 85 = .ok (.bipush 114, 2) := by decide +kernel
theorem dX12_init_87 : decode cX12_init 87 = .ok (.castore, 1) := by decide +kernel
theorem dX12_init_88 : decode cX12_init 88 = .ok (.dup, 1) := by decide +kernel
theorem dX12_init_89 : decode cX12_init 89 = .ok (.bipush 6, 2) := by decide +kernel
theorem dX12_init_91 : decode cX12_init 91 = .ok (.bipush 115, 2) := by decide +kernel
theorem dX12_init_93 : decode cX12_init 93 = .ok (.castore, 1) := by decide +kernel
theorem dX12_init_94 : decode cX12_init 94 = .ok (.putfield 24, 3) := by decide +kernel
theorem dX12_init_97 : decode cX12_init 97 = .ok (.aload_n 0, 1) := by decide +kernel
theorem dX12_init_98 : decode cX12_init 98 = .ok (.iconst 5, 1) := by decide +kernel
theorem dX12_init_99 : decode cX12_init 99 = .ok (.newarray .char, 2) := by decide +kernel
theorem dX12_init_101 : decode cX12_init 101 = .ok (.dup, 1) := by decide +kernel
theorem dX12_init_102 : decode cX12_init 102 = .ok (.iconst 0, 1) := by decide +kernel
theorem dX12_init_103 : decode cX12_init 103 = .ok (.bipush 100, 2) := by decide +kernel
theorem dX12_init_105 : decode cX12_init 105 = .ok (.castore, 1) := by decide +kernel
theorem dX12_init_106 : decode cX12_init 106 = .ok (.dup, 1) := by decide +kernel
theorem dX12_init_107 : decode cX12_init 107 = .ok (.iconst 1, 1) := by decide +kernel
theorem dX12_init_108 : decode cX12_init 108 = .ok (.bipush 101, 2) := by decide +kernel
theorem dX12_init_110 : decode cX12_init 110 = .ok (.castore, 1) := by decide +kernel
theorem dX12_init_111 : decode cX12_init 111 = .ok (.dup, 1) := by decide +kernel
theorem dX12_init_112 : decode cX12_init 112 = .ok (.iconst 2, 1) := by decide +kernel
theorem dX12_init_113 : decode cX12_init 113 = .ok (.bipush 108, 2) := by decide +kernel
theorem dX12_init_115 : decode cX12_init 115 = .ok (.castore, 1) := by decide +kernel
theorem dX12_init_116 : decode cX12_init 116 = .ok (.dup, 1) := by decide +kernel
theorem dX12_init_117 : decode cX12_init 117 = .ok (.iconst 3, 1) := by decide +kernel
theorem dX12_init_118 : decode cX12_init 118 = .ok (.bipush 97, 2) := by decide +kernel
theorem dX12_init_120 : decode cX12_init 120 = .ok (.castore, 1) := by decide +kernel
theorem dX12_init_121 : decode cX12_init 121 = .ok (.dup, 1) := by decide +kernel
theorem dX12_init_122 : decode cX12_init 122 = .ok (.iconst 4, 1) := by decide +kernel
theorem dX12_init_123 : decode cX12_init 123 = .ok (.bipush 121, 2) := by decide +kernel
theorem dX12_init_125 : decode cX12_init 125 = .ok (.castore, 1) := by decide +kernel
theorem dX12_init_126 : decode cX12_init 126 = .ok (.putfield 27, 3) := by decide +kernel
theorem dX12_init_129 : decode cX12_init 129 = .ok (.aload_n 0, 1) := by decide +kernel
theorem dX12_init_130 : decode cX12_init 130 = .ok (.iconst 4, 1) := by decide +kernel
theorem dX12_init_131 : decode cX12_init 131 = .ok (.newarray .char, 2) := by decide +kernel
theorem dX12_init_133 : decode cX12_init 133 = .ok (.dup, 1) := by decide +kernel
theorem dX12_init_134 : decode cX12_init 134 = .ok (.iconst 0, 1) := by decide +kernel
theorem dX12_init_135 : decode cX12_init 135 = .ok (.bipush 116, 2) := by decide +kernel
theorem dX12_init_137 : decode cX12_init 137 = .ok (.castore, 1) := by decide +kernel
theorem dX12_init_138 : decode cX12_init 138 = .ok (.dup, 1) := by decide +kernel
theorem dX12_init_139 : decode cX12_init 139 = .ok (.iconst 1, 1) := by decide +kernel
theorem dX12_init_140 : decode cX12_init 140 = .ok (.bipush 105, 2) := by decide +kernel
theorem dX12_init_142 : decode cX12_init 142 = .ok (.castore, 1) := by decide +kernel
theorem dX12_init_143 : decode cX12_init 143 = .ok (.dup, 1) := by decide +kernel
theorem dX12_init_144 : decode cX12_init 144 = .ok (.iconst 2, 1) := by decide +kernel
theorem dX12_init_145 : decode cX12_init 145 = .ok (.bipush 101, 2) := by decide +kernel
theorem dX12_init_147 : decode cX12_init 147 = .ok (.castore, 1) := by decide +kernel
theorem dX12_init_148 : decode cX12_init 148 = .ok (.dup, 1) := by decide +kernel
theorem dX12_init_149 : decode cX12_init 149 = .ok (.iconst 3, 1) := by decide +kernel
theorem dX12_init_150 : decode cX12_init 150 = .ok (.bipush 115, 2) := by decide +kernel
theorem dX12_init_152 : decode cX12_init 152 = .ok (.castore, 1) := by decide +kernel
theorem dX12_init_153 : decode cX12_init 153 = .ok (.putfield 30, 3) := by decide +kernel
theorem dX12_init_156 : decode cX12_init 156 = .ok (.aload_n 0, 1) := by decide +kernel
theorem dX12_init_157 : decode cX12_init 157 = .ok (.iconst 4, 1) := by decide +kernel
theorem dX12_init_158 : decode cX12_init 158 = .ok (.newarray .char, 2) := by decide +kernel
theorem dX12_init_160 : decode cX12_init 160 = .ok (.dup, 1) := by decide +kernel
theorem dX12_init_161 : decode cX12_init 161 = .ok (.iconst 0, 1) := by decide +kernel
theorem dX12_init_162 : decode cX12_init 162 = .ok (.bipush 101, 2) := by decide +kernel
theorem dX12_init_164 : decode cX12_init 164 = .ok (.castore, 1) := by decide +kernel
theorem dX12_init_165 : decode cX12_init 165 = .ok (.dup, 1) := by decide +kernel
theorem dX12_init_166 : decode cX12_init 166 = .ok (.iconst 1, 1) := by decide +kernel
theorem dX12_init_167 : decode cX12_init 167 = .ok (.bipush 100, 2) := by decide +kernel
theorem dX12_init_169 : decode cX12_init 169 = .ok (.castore, 1) := by decide +kernel
theorem dX12_init_170 : decode cX12_init 170 = .ok (.dup, 1) := by decide +kernel
theorem dX12_init_171 : decode cX12_init 171 = .ok (.iconst 2, 1) := by decide +kernel
theorem dX12_init_172 : decode cX12_init 172 = .ok (.bipush 105, 2) := by decide +kernel
theorem dX12_init_174 : decode cX12_init 174 = .ok (.castore, 1) := by decide +kernel
theorem dX12_init_175 : decode cX12_init 175 = .ok (.dup, 1) := by decide +kernel
theorem dX12_init_176 : decode cX12_init 176 = .ok (.iconst 3, 1) := by decide +kernel
theorem dX12_init_177 : decode cX12_init 177 = .ok (.bipush 116, 2) := by decide +kernel
theorem dX12_init_179 : decode cX12_init 179 = .ok (.castore, 1) := by decide +kernel
theorem dX12_init_180 : decode cX12_init 180 = .ok (.putfield 33, 3) := by decide +kernel
theorem dX12_init_183 : decode cX12_init 183 = .ok (.aload_n 0, 1) := by decide +kernel
theorem dX12_init_184 : decode cX12_init 184 = .ok (.bipush 6, 2) := by decide +kernel
theorem dX12_init_186 : decode cX12_init 186 = .ok (.newarray .char, 2) := by decide +kernel
theorem dX12_init_188 : decode cX12_init 188 = .ok (.dup, 1) := by decide +kernel
theorem dX12_init_189 : decode cX12_init 189 = .ok (.iconst 0, 1) := by decide +kernel
theorem dX12_init_190 : decode cX12_init 190 = .ok (.bipush 99, 2) := by decide +kernel
theorem dX12_init_192 : decode cX12_init 192 = .ok (.castore, 1) := by decide +kernel
theorem dX12_init_193 : decode cX12_init 193 = .ok (.dup, 1) := by decide +kernel
theorem dX12_init_194 : decode cX12_init 194 = .ok (.iconst 1, 1) := by decide +kernel
theorem dX12_init_195 : decode cX12_init 195 = .ok (.bipush 117, 2) := by decide +kernel
theorem dX12_init_197 : decode cX12_init 197 = .ok (.castore, 1) := by decide +kernel
theorem dX12_init_198 : decode cX12_init 198 = .ok (.dup, 1) := by decide +kernel
theorem dX12_init_199 : decode cX12_init 199 = .ok (.iconst 2, 1) := by decide +kernel
theorem dX12_init_200 : decode cX12_init 200 = .ok (.bipush 114, 2) := by decide +kernel
theorem dX12_init_202 : decode cX12_init 202 = .ok (.castore, 1) := by decide +kernel
theorem dX12_init_203 : decode cX12_init 203 = .ok (.dup, 1) := by decide +kernel
theorem dX12_init_204 : decode cX12_init 204 = .ok (.iconst 3, 1) := by decide +kernel
theorem dX12_init_205 : decode cX12_init 205 = .ok (.bipush 115, 2) := by decide +kernel
theorem dX12_init_207 : decode cX12_init 207 = .ok (.castore, 1) := by decide +kernel
theorem dX12_init_208 : decode cX12_init 208 = .ok (.dup, 1) := by decide +kernel
theorem dX12_init_209 : decode cX12_init 209 = .ok (.iconst 4, 1) := by decide +kernel
theorem dX12_init_210 : decode cX12_init 210 = .ok (.bipush 111, 2) := by decide +kernel
theorem dX12_init_212 : decode cX12_init 212 = .ok (.castore, 1) := by decide +kernel
theorem dX12_init_213 : decode cX12_init 213 = .ok (.dup, 1) := by decide +kernel
theorem dX12_init_214 : decode cX12_init 214 = .ok (.iconst 5, 1) := by decide +kernel
theorem dX12_init_215 : decode cX12_init 215 = .ok (.bipush 114, 2) := by decide +kernel
theorem dX12_init_217 : decode cX12_init 217 = .ok (.castore, 1) := by decide +kernel
theorem dX12_init_218 : decode cX12_init 218 = .ok (.putfield 36, 3) := by decide +kernel
theorem dX12_init_221 : decode cX12_init 221 = .ok (.aload_n 0, 1) := by decide +kernel
theorem dX12_init_222 : decode cX12_init 222 = .ok (.iconst 4, 1) := by decide +kernel
theorem dX12_init_223 : decode cX12_init 223 = .ok (.newarray .char, 2) := by decide +kernel
theorem dX12_init_225 : decode cX12_init 225 = .ok (.dup, 1) := by decide +kernel
theorem dX12_init_226 : decode cX12_init 226 = .ok (.iconst 0, 1) := by decide +kernel
theorem dX12_init_227 : decode cX12_init 227 = .ok (.bipush 109, 2) := by decide +kernel
theorem dX12_init_229 : decode cX12_init 229 = .ok (.castore, 1) := by decide +kernel
theorem dX12_init_230 : decode cX12_init 230 = .ok (.dup, 1) := by decide +kernel
theorem dX12_init_231 : decode cX12_init 231 = .ok (.iconst 1, 1) := by decide +kernel
theorem dX12_init_232 : decode cX12_init 232 = .ok (.bipush 97, 2) := by decide +kernel
theorem dX12_init_234 : decode cX12_init 234 = .ok (.castore, 1) := by decide +kernel
theorem dX12_init_235 : decode cX12_init 235 = .ok (.dup, 1) := by decide +kernel
theorem dX12_init_236 : decode cX12_init 236 = .ok (.iconst 2, 1) := by decide +kernel
theorem dX12_init_237 : decode cX12_init 237 = .ok (.bipush 114, 2) := by decide +kernel
theorem dX12_init_239 : decode cX12_init 239 = .ok (.castore, 1) := by decide +kernel
theorem dX12_init_240 : decode cX12_init 240 = .ok (.dup, 1) := by decide +kernel
theorem dX12_init_241 : decode cX12_init 241 = .ok (.iconst 3, 1) := by decide +kernel
theorem dX12_init_242 : decode cX12_init 242 = .ok (.bipush 107, 2) := by decide +kernel
theorem dX12_init_244 : decode cX12_init 244 = .ok (.castore, 1) := by decide +kernel
theorem dX12_init_245 : decode cX12_init 245 = .ok (.putfield 39, 3) := by decide +kernel
theorem dX12_init_248 : decode cX12_init 248 = .ok (.aload_n 0, 1) := by decide +kernel
theorem dX12_init_249 : decode cX12_init 249 = .ok (.iconst 3, 1) := by decide +kernel
theorem dX12_init_250 : decode cX12_init 250 = .ok (.newarray .char, 2) := by decide +kernel
theorem dX12_init_252 : decode cX12_init 252 = .ok (.dup, 1) := by decide +kernel
theorem dX12_init_253 : decode cX12_init 253 = .ok (.iconst 0, 1) := by decide +kernel
theorem dX12_init_254 : decode cX12_init 254 = .ok (.bipush 111, 2) := by decide +kernel
theorem dX12_init_256 : decode cX12_init 256 = .ok (.castore, 1) := by decide +kernel
theorem dX12_init_257 : decode cX12_init 257 = .ok (.dup, 1) := by decide +kernel
theorem dX12_init_258 : decode cX12_init 258 = .ok (.iconst 1, 1) := by decide +kernel
theorem dX12_init_259 : decode cX12_init 259 = .ok (.bipush 102, 2) := by decide +kernel
theorem dX12_init_261 : decode cX12_init 261 = .ok (.castore, 1) := by decide +kernel
theorem dX12_init_262 : decode cX12_init 262 = .ok (.dup, 1) := by decide +kernel
theorem dX12_init_263 : decode cX12_init 263 = .ok (.iconst 2, 1) := by decide +kernel
theorem dX12_init_264 : decode cX12_init 264 = .ok (.bipush 102, 2) := by decide +kernel
theorem dX12_init_266 : decode cX12_init 266 = .ok (.castore, 1) := by decide +kernel
theorem dX12_init_267 : decode cX12_init 267 = .ok (.putfield 42, 3) := by decide +kernel
theorem dX12_init_270 : decode cX12_init 270 = .ok (.aload_n 0, 1) := by decide +kernel
theorem dX12_init_271 : decode cX12_init 271 = .ok (.iconst 2, 1) := by decide +kernel
theorem dX12_init_272 : decode cX12_init 272 = .ok (.newarray .char, 2) := by decide +kernel
theorem dX12_init_274 : decode cX12_init 274 = .ok (.dup, 1) := by decide +kernel
theorem dX12_init_275 : decode cX12_init 275 = .ok (.iconst 0, 1) := by decide +kernel
theorem dX12_init_276 : decode cX12_init 276 = .ok (.bipush 111, 2) := by decide +kernel
theorem dX12_init_278 : decode cX12_init 278 = .ok (.castore, 1) := by decide +kernel
theorem dX12_init_279 : decode cX12_init 279 = .ok (.dup, 1) := by decide +kernel
theorem dX12_init_280 : decode cX12_init 280 = .ok (.iconst 1, 1) := by decide +kernel
theorem dX12_init_281 : decode cX12_init 281 = .ok (.bipush 110, 2) := by decide +kernel
theorem dX12_init_283 : decode cX12_init 283 = .ok (.castore, 1) := by decide +kernel
theorem dX12_init_284 : decode cX12_init 284 = .ok (.putfield 45, 3) := by decide +kernel
theorem dX12_init_287 : decode cX12_init 287 = .ok (.aload_n 0, 1) := by decide +kernel
theorem dX12_init_288 : decode cX12_init 288 = .ok (.iconst 4, 1) := by decide +kernel
theorem dX12_init_289 : decode cX12_init 289 = .ok (.newarray .char, 2) := by decide +kernel
theorem dX12_init_291 : decode cX12_init 291 = .ok (.dup, 1) := by decide +kernel
theorem dX12_init_292 : decode cX12_init 292 = .ok (.iconst 0, 1) := by decide +kernel
theorem dX12_init_293 : decode cX12_init 293 = .ok (.bipush 116, 2) := by decide +kernel
theorem dX12_init_295 : decode cX12_init 295 = .ok (.castore, 1) := by decide +kernel
theorem dX12_init_296 : decode cX12_init 296 = .ok (.dup, 1) := by decide +kernel
theorem dX12_init_297 : decode cX12_init 297 = .ok (.iconst 1, 1) := by decide +kernel
theorem dX12_init_298 : decode cX12_init 298 = .ok (.bipush 105, 2) := by decide +kernel
theorem dX12_init_300 : decode cX12_init 300 = .ok (.castore, 1) := by decide +kernel
theorem dX12_init_301 : decode cX12_init 301 = .ok (.dup, 1) := by decide +kernel
theorem dX12_init_302 : decode cX12_init 302 = .ok (.iconst 2, 1) := by decide +kernel
theorem dX12_init_303 : decode cX12_init 303 = .ok (.bipush 99, 2) := by decide +kernel
theorem dX12_init_305 : decode cX12_init 305 = .ok (.castore, 1) := by decide +kernel
theorem dX12_init_306 : decode cX12_init 306 = .ok (.dup, 1) := by decide +kernel
theorem dX12_init_307 : decode cX12_init 307 = .ok (.iconst 3, 1) := by decide +kernel
theorem dX12_init_308 : decode cX12_init 308 = .ok (.bipush 107, 2) := by decide +kernel
theorem dX12_init_310 : decode cX12_init 310 = .ok (.castore, 1) := by decide +kernel
theorem dX12_init_311 : decode cX12_init 311 = .ok (.putfield 48, 3) := by decide +kernel
theorem dX12_init_314 : decode cX12_init 314 = .ok (.aload_n 0, 1) := by decide +kernel
theorem dX12_init_315 : decode cX12_init 315 = .ok (.sipush 700, 3) := by decide +kernel
theorem dX12_init_318 : decode cX12_init 318 = .ok (.newarray .int, 2) := by decide +kernel
theorem dX12_init_320 : decode cX12_init 320 = .ok (.putfield 51, 3) := by decide +kernel
theorem dX12_init_323 : decode cX12_init 323 = .ok (.aload_n 0, 1) := by decide +kernel
theorem dX12_init_324 : decode cX12_init 324 = .ok (.sipush 700, 3) := by decide +kernel
theorem dX12_init_327 : decode cX12_init 327 = .ok (.newarray .int, 2) := by decide +kernel
theorem dX12_init_329 : decode cX12_init 329 = .ok (.putfield 54, 3) := by decide +kernel
theorem dX12_init_332 : decode cX12_init 332 = .ok (.aload_n 0, 1) := by decide +kernel
theorem dX12_init_333 : decode cX12_init 333 = .ok (.sipush 700, 3) := by decide +kernel
theorem dX12_init_336 : decode cX12_init 336 = .ok (.newarray .int, 2) := by decide +kernel
theorem dX12_init_338 : decode cX12_init 338 = .ok (.putfield 57, 3) := by decide +kernel
theorem dX12_init_341 : decode cX12_init 341 = .ok (.aload_n 0, 1) := by decide +kernel
theorem dX12_init_342 : decode cX12_init 342 = .ok (.sipush 700, 3) := by decide +kernel
theorem dX12_init_345 : decode cX12_init 345 = .ok (.newarray .int, 2) := by decide +kernel
theorem dX12_init_347 : decode cX12_init 347 = .ok (.putfield 60, 3) := by decide +kernel
theorem dX12_init_350 : decode cX12_init 350 = .ok (.aload_n 0, 1) := by decide +kernel
theorem dX12_init_351 : decode cX12_init 351 = .ok (.sipush 700, 3) := by decide +kernel
theorem dX12_init_354 : decode cX12_init 354 = .ok (.newarray .int, 2) := by decide +kernel
theorem dX12_init_356 : decode cX12_init 356 = .ok (.putfield 63, 3) := by decide +kernel
theorem dX12_init_359 : decode cX12_init 359 = .ok (.aload_n 0, 1) := by decide +kernel
theorem dX12_init_360 : decode cX12_init 360 = .ok (.sipush 700, 3) := by decide +kernel
theorem dX12_init_363 : decode cX12_init 363 = .ok (.newarray .int, 2) := by decide +kernel
theorem dX12_init_365 : decode cX12_init 365 = .ok (.putfield 66, 3) := by decide +kernel
theorem dX12_init_368 : decode cX12_init 368 = .ok (.aload_n 0, 1) := by decide +kernel
theorem dX12_init_369 : decode cX12_init 369 = .ok (.sipush 10476, 3) := by decide +kernel
theorem dX12_init_372 : decode cX12_init 372 = .ok (.newarray .int, 2) := by decide +kernel
theorem dX12_init_374 : decode cX12_init 374 = .ok (.putfield 69, 3) := by decide +kernel
theorem dX12_init_377 : decode cX12_init 377 = .ok (.aload_n 0, 1) := by decide +kernel
theorem dX12_init_378 : decode cX12_init 378 = .ok (.bipush 40, 2) := by decide +kernel
theorem dX12_init_380 : decode cX12_init 380 = .ok (.newarray .int, 2) := by decide +kernel
theorem dX12_init_382 : decode cX12_init 382 = .ok (.putfield 72, 3) := by decide +kernel
theorem dX12_init_385 : decode cX12_init 385 = .ok (.aload_n 0, 1) := by decide +kernel
theorem dX12_init_386 : decode cX12_init 386 = .ok (.bipush 108, 2) := by decide +kernel
theorem dX12_init_388 : decode cX12_init 388 = .ok (.newarray .int, 2) := by decide +kernel
theorem dX12_init_390 : decode cX12_init 390 = .ok (.putfield 75, 3) := by decide +kernel
theorem dX12_init_393 : decode cX12_init 393 = .ok (.aload_n 0, 1) := by decide +kernel
theorem dX12_init_394 : decode cX12_init 394 = .ok (.bipush 108, 2) := by decide +kernel
theorem dX12_init_396 : decode cX12_init 396 = .ok (.newarray .int, 2) := by decide +kernel
theorem dX12_init_398 : decode cX12_init 398 = .ok (.putfield 78, 3) := by decide +kernel
theorem dX12_init_401 : decode cX12_init 401 = .ok (.aload_n 0, 1) := by decide +kernel
theorem dX12_init_402 : decode cX12_init 402 = .ok (.bipush 108, 2) := by decide +kernel
theorem dX12_init_404 : decode cX12_init 404 = .ok (.newarray .int, 2) := by decide +kernel
theorem dX12_init_406 : decode cX12_init 406 = .ok (.putfield 81, 3) := by decide +kernel
theorem dX12_init_409 : decode cX12_init 409 = .ok (.aload_n 0, 1) := by decide +kernel
theorem dX12_init_410 : decode cX12_init 410 = .ok (.bipush 108, 2) := by decide +kernel
theorem dX12_init_412 : decode cX12_init 412 = .ok (.newarray .int, 2) := by decide +kernel
theorem dX12_init_414 : decode cX12_init 414 = .ok (.putfield 84, 3) := by decide +kernel
theorem dX12_init_417 : decode cX12_init 417 = .ok (.aload_n 0, 1) := by decide +kernel
theorem dX12_init_418 : decode cX12_init 418 = .ok (.sipush 3000, 3) := by decide +kernel
theorem dX12_init_421 : decode cX12_init 421 = .ok (.newarray .int, 2) := by decide +kernel
theorem dX12_init_423 : decode cX12_init 423 = .ok (.putfield 87, 3) := by decide +kernel
theorem dX12_init_426 : decode cX12_init 426 = .ok (.aload_n 0, 1) := by decide +kernel
theorem dX12_init_427 : decode cX12_init 427 = .ok (.sipush 700, 3) := by decide +kernel
theorem dX12_init_430 : decode cX12_init 430 = .ok (.newarray .int, 2) := by decide +kernel
theorem dX12_init_432 : decode cX12_init 432 = .ok (.putfield 90, 3) := by decide +kernel
theorem dX12_init_435 : decode cX12_init 435 = .ok (.aload_n 0, 1) := by decide +kernel
theorem dX12_init_436 : decode cX12_init 436 = .ok (.sipush 300, 3) := by decide +kernel
theorem dX12_init_439 : decode cX12_init 439 = .ok (.newarray .int, 2) := by decide +kernel
theorem dX12_init_441 : decode cX12_init 441 = .ok (.putfield 93, 3) := by decide +kernel
theorem dX12_init_444 : decode cX12_init 444 = .ok (.aload_n 0, 1) := by decide +kernel
theorem dX12_init_445 : decode cX12_init 445 = .ok (.sipush 300, 3) := by decide +kernel
theorem dX12_init_448 : decode cX12_init 448 = .ok (.newarray .int, 2) := by decide +kernel
theorem dX12_init_450 : decode cX12_init 450 = .ok (.putfield 96, 3) := by decide +kernel
theorem dX12_init_453 : decode cX12_init 453 = .ok (.aload_n 0, 1) := by decide +kernel
theorem dX12_init_454 : decode cX12_init 454 = .ok (.sipush 300, 3) := by decide +kernel
theorem dX12_init_457 : decode cX12_init 457 = .ok (.newarray .int, 2) := by decide +kernel
theorem dX12_init_459 : decode cX12_init 459 = .ok (.putfield 99, 3) := by decide +kernel
theorem dX12_init_462 : decode cX12_init 462 = .ok (.aload_n 0, 1) := by decide +kernel
theorem dX12_init_463 : decode cX12_init 463 = .ok (.sipush 10476, 3) := by decide +kernel
theorem dX12_init_466 : decode cX12_init 466 = .ok (.newarray .int, 2) := by decide +kernel
theorem dX12_init_468 : decode cX12_init 468 = .ok (.putfield 102, 3) := by decide +kernel
theorem dX12_init_471 : decode cX12_init 471 = .ok (.aload_n 0, 1) := by decide +kernel
theorem dX12_init_472 : decode cX12_init 472 = .ok (.bipush 24, 2) := by decide +kernel
theorem dX12_init_474 : decode cX12_init 474 = .ok (.newarray .int, 2) := by decide +kernel
theorem dX12_init_476 : decode cX12_init 476 = .ok (.putfield 105, 3) := by decide +kernel
theorem dX12_init_479 : decode cX12_init 479 = .ok (.aload_n 0, 1) := by decide +kernel
theorem dX12_init_480 : decode cX12_init 480 = .ok (.sipush 6000, 3) := by decide +kernel
theorem dX12_init_483 : decode cX12_init 483 = .ok (.newarray .int, 2) := by decide +kernel
theorem dX12_init_485 : decode cX12_init 485 = .ok (.putfield 108, 3) := by decide +kernel
theorem dX12_init_488 : decode cX12_init 488 = .ok (.aload_n 0, 1) := by decide +kernel
theorem dX12_init_489 : decode cX12_init 489 = .ok (.bipush 32, 2) := by decide +kernel
theorem dX12_init_491 : decode cX12_init 491 = .ok (.newarray .int, 2) := by decide +kernel
theorem dX12_init_493 : decode cX12_init 493 = .ok (.putfield 111, 3) := by decide +kernel
theorem dX12_init_496 : decode cX12_init 496 = .ok (.aload_n 0, 1) := by decide +kernel
theorem dX12_init_497 : decode cX12_init 497 = .ok (.bipush 24, 2) := by decide +kernel
theorem dX12_init_499 : decode cX12_init 499 = .ok (.newarray .boolean, 2) := by decide +kernel
theorem dX12_init_501 : decode cX12_init 501 = .ok (.putfield 114, 3) := by decide +kernel
theorem dX12_init_504 : decode cX12_init 504 = .ok (.aload_n 0, 1) := by decide +kernel
theorem dX12_init_505 : decode cX12_init 505 = .ok (.ldc 118, 2) := by decide +kernel
theorem dX12_init_507 : decode cX12_init 507 = .ok (.newarray .int, 2) := by decide +kernel
theorem dX12_init_509 : decode cX12_init 509 = .ok (.putfield 119, 3) := by decide +kernel
theorem dX12_init_512 : decode cX12_init 512 = .ok (.aload_n 0, 1) := by decide +kernel
theorem dX12_init_513 : decode cX12_init 513 = .ok (.lconst 1, 1) := by decide +kernel
theorem dX12_init_514 : decode cX12_init 514 = .ok (.putfield 122, 3) := by decide +kernel
theorem dX12_init_517 : decode cX12_init 517 = .ok (.return_, 1) := by decide +kernel
theorem dX12_isIn_0 : decode cX12_isIn 0 = .ok (.lload_n 0, 1) := by decide +kernel
theorem dX12_isIn_1 : decode cX12_isIn 1 = .ok (.lload_n 2, 1) := by decide +kernel
theorem dX12_isIn_2 : decode cX12_isIn 2 = .ok (.lcmp, 1) := by decide +kernel
theorem dX12_isIn_3 : decode cX12_isIn 3 = .ok (.ifCond .lt 14, 3) := by decide +kernel
theorem dX12_isIn_6 : decode cX12_isIn 6 = .ok (.lload_n 0, 1) := by decide +kernel
theorem dX12_isIn_7 : decode cX12_isIn 7 = .ok (.lload 4, 2) := by decide +kernel
theorem dX12_isIn_9 : decode cX12_isIn 9 = .ok (.lcmp, 1) := by decide +kernel
theorem dX12_isIn_10 : decode cX12_isIn 10 = .ok (.ifCond .gt 7, 3) := by decide +kernel
theorem dX12_isIn_13 : decode cX12_isIn 13 = .ok (.iconst 1, 1) := by decide +kernel
theorem dX12_isIn_14 : decode cX12_isIn 14 = .ok (.goto 4, 3) := by decide +kernel
theorem dX12_isIn_17 : decode cX12_isIn 17 = .ok (.iconst 0, 1) := by decide +kernel
theorem dX12_isIn_18 : decode cX12_isIn 18 = .ok (.ireturn, 1) := by decide +kernel
theorem dX12_refuses_0 : decode cX12_refuses 0 = .ok (.aload_n 0, 1) := by decide +kernel
theorem dX12_refuses_1 : decode cX12_refuses 1 = .ok (.getfield 17, 3) := by decide +kernel
theorem dX12_refuses_4 : decode cX12_refuses 4 = .ok (.iload_n 1, 1) := by decide +kernel
theorem dX12_refuses_5 : decode cX12_refuses 5 = .ok (.dup2, 1) := by decide +kernel
theorem dX12_refuses_6 : decode cX12_refuses 6 = .ok (.iaload, 1) := by decide +kernel
theorem dX12_refuses_7 : decode cX12_refuses 7 = .ok (.iconst 1, 1) := by decide +kernel
theorem dX12_refuses_8 : decode cX12_refuses 8 = .ok (.iadd, 1) := by decide +kernel
theorem dX12_refuses_9 : decode cX12_refuses 9 = .ok (.iastore, 1) := by decide +kernel
theorem dX12_refuses_10 : decode cX12_refuses 10 = .ok (.iconst (-1), 1) := by decide +kernel
theorem dX12_refuses_11 : decode cX12_refuses 11 = .ok (.ireturn, 1) := by decide +kernel
theorem dX12_isRefused_0 : decode cX12_isRefused 0 = .ok (.aload_n 0, 1) := by decide +kernel
theorem dX12_isRefused_1 : decode cX12_isRefused 1 = .ok (.getfield 17, 3) := by decide +kernel
theorem dX12_isRefused_4 : decode cX12_isRefused 4 = .ok (.iload_n 1, 1) := by decide +kernel
theorem dX12_isRefused_5 : decode cX12_isRefused 5 = .ok (.dup2, 1) := by decide +kernel
theorem dX12_isRefused_6 : decode cX12_isRefused 6 = .ok (.iaload, 1) := by decide +kernel
theorem dX12_isRefused_7 : decode cX12_isRefused 7 = .ok (.iconst 1, 1) := by decide +kernel
theorem dX12_isRefused_8 : decode cX12_isRefused 8 = .ok (.iadd, 1) := by decide +kernel
theorem dX12_isRefused_9 : decode cX12_isRefused 9 = .ok (.iastore, 1) := by decide +kernel
theorem dX12_isRefused_10 : decode cX12_isRefused 10 = .ok (.iconst 0, 1) := by decide +kernel
theorem dX12_isRefused_11 : decode cX12_isRefused 11 = .ok (.ireturn, 1) := by decide +kernel
theorem dX12_feed_0 : decode cX12_feed 0 = .ok (.aload_n 0, 1) := by decide +kernel
theorem dX12_feed_1 : decode cX12_feed 1 = .ok (.getfield 126, 3) := by decide +kernel
theorem dX12_feed_4 : decode cX12_feed 4 = .ok (.bipush 20, 2) := by decide +kernel
theorem dX12_feed_6 : decode cX12_feed 6 = .ok (.iadd, 1) := by decide +kernel
theorem dX12_feed_7 : decode cX12_feed 7 = .ok (.sipush 1600, 3) := by decide +kernel
theorem dX12_feed_10 : decode cX12_feed 10 = .ok (.if_icmp .le 9, 3) := by decide +kernel
theorem dX12_feed_13 : decode cX12_feed 13 = .ok (.aload_n 0, 1) := by decide +kernel
theorem dX12_feed_14 : decode cX12_feed 14 = .ok (.iconst 0, 1) := by decide +kernel
theorem dX12_feed_15 : decode cX12_feed 15 = .ok (.invokevirtual 129, 3) := by decide +kernel
theorem dX12_feed_18 : decode cX12_feed 18 = .ok (.ireturn, 1) := by decide +kernel
theorem dX12_feed_19 : decode cX12_feed 19 = .ok (.iconst 0, 1) := by decide +kernel
theorem dX12_feed_20 : decode cX12_feed 20 = .ok (.istore 6, 2) := by decide +kernel
theorem dX12_feed_22 : decode cX12_feed 22 = .ok (.iload 6, 2) := by decide +kernel
theorem dX12_feed_24 : decode cX12_feed 24 = .ok (.bipush 20, 2) := by decide +kernel
theorem dX12_feed_26 : decode cX12_feed 26 = .ok (.if_icmp .ge 92, 3) := by decide +kernel
theorem dX12_feed_29 : decode cX12_feed 29 = .ok (.iload 6, 2) := by decide +kernel
theorem dX12_feed_31 : decode cX12_feed 31 = .ok (.iconst 4, 1) := by decide +kernel
theorem dX12_feed_32 : decode cX12_feed 32 = .ok (.if_icmp .ge 7, 3) := by decide +kernel
theorem dX12_feed_35 : decode cX12_feed 35 = .ok (.iload_n 1, 1) := by decide +kernel
theorem dX12_feed_36 : decode cX12_feed 36 = .ok (.goto 39, 3) := by decide +kernel
theorem dX12_feed_39 : decode cX12_feed 39 = .ok (.iload 6, 2) := by decide +kernel
theorem dX12_feed_41 : decode cX12_feed 41 = .ok (.bipush 8, 2) := by decide +kernel
theorem dX12_feed_43 : decode cX12_feed 43 = .ok (.if_icmp .ge 7, 3) := by decide +kernel
theorem dX12_feed_46 : decode cX12_feed 46 = .ok (.iload_n 2, 1) := by decide +kernel
theorem dX12_feed_47 : decode cX12_feed 47 = .ok (.goto 28, 3) := by decide +kernel
theorem dX12_feed_50 : decode cX12_feed 50 = .ok (.iload 6, 2) := by decide +kernel
theorem dX12_feed_52 : decode cX12_feed 52 = .ok (.bipush 12, 2) := by decide +kernel
theorem dX12_feed_54 : decode cX12_feed 54 = .ok (.if_icmp .ge 7, 3) := by decide +kernel
theorem dX12_feed_57 : decode cX12_feed 57 = .ok (.iload_n 3, 1) := by decide +kernel
theorem dX12_feed_58 : decode cX12_feed 58 = .ok (.goto 17, 3) := by decide +kernel
theorem dX12_feed_61 : decode cX12_feed 61 = .ok (.iload 6, 2) := by decide +kernel
theorem dX12_feed_63 : decode cX12_feed 63 = .ok (.bipush 16, 2) := by decide +kernel
theorem dX12_feed_65 : decode cX12_feed 65 = .ok (.if_icmp .ge 8, 3) := by decide +kernel
theorem dX12_feed_68 : decode cX12_feed 68 = .ok (.iload 4, 2) := by decide +kernel
theorem dX12_feed_70 : decode cX12_feed 70 = .ok (.goto 5, 3) := by decide +kernel
theorem dX12_feed_73 : decode cX12_feed 73 = .ok (.iload 5, 2) := by decide +kernel
theorem dX12_feed_75 : decode cX12_feed 75 = .ok (.istore 7, 2) := by decide +kernel
theorem dX12_feed_77 : decode cX12_feed 77 = .ok (.aload_n 0, 1) := by decide +kernel
theorem dX12_feed_78 : decode cX12_feed 78 = .ok (.getfield 7, 3) := by decide +kernel
theorem dX12_feed_81 : decode cX12_feed 81 = .ok (.aload_n 0, 1) := by decide +kernel
theorem dX12_feed_82 : decode cX12_feed 82 = .ok (.getfield 126, 3) := by decide +kernel
theorem dX12_feed_85 : decode cX12_feed 85 = .ok (.iload 7, 2) := by decide +kernel
theorem dX12_feed_87 : decode cX12_feed 87 = .ok (.bipush 8, 2) := by decide +kernel
theorem dX12_feed_89 : decode cX12_feed 89 = .ok (.iconst 3, 1) := by decide +kernel
theorem dX12_feed_90 : decode cX12_feed 90 = .ok (.iload 6, 2) := by decide +kernel
theorem dX12_feed_92 : decode cX12_feed 92 = .ok (.iconst 4, 1) := by decide +kernel
theorem dX12_feed_93 : decode cX12_feed 93 = .ok (.irem, 1) := by decide +kernel
theorem dX12_feed_94 : decode cX12_feed 94 = .ok (.isub, 1) := by decide +kernel
theorem dX12_feed_95 : decode cX12_feed 95 = .ok (.imul, 1) := by decide +kernel
theorem dX12_feed_96 : decode cX12_feed 96 = .ok (.ishr, 1) := by decide +kernel
theorem dX12_feed_97 : decode cX12_feed 97 = .ok (.sipush 255, 3) := by decide +kernel
theorem dX12_feed_100 : decode cX12_feed 100 = .ok (.iand, 1) := by decide +kernel
theorem dX12_feed_101 : decode cX12_feed 101 = .ok (.iastore, 1) := by decide +kernel
theorem dX12_feed_102 : decode cX12_feed 102 = .ok (.aload_n 0, 1) := by decide +kernel
theorem dX12_feed_103 : decode cX12_feed 103 = .ok (.dup, 1) := by decide +kernel
theorem dX12_feed_104 : decode cX12_feed 104 = .ok (.getfield 126, 3) := by decide +kernel
theorem dX12_feed_107 : decode cX12_feed 107 = .ok (.iconst 1, 1) := by decide +kernel
theorem dX12_feed_108 : decode cX12_feed 108 = .ok (.iadd, 1) := by decide +kernel
theorem dX12_feed_109 : decode cX12_feed 109 = .ok (.putfield 126, 3) := by decide +kernel
theorem dX12_feed_112 : decode cX12_feed 112 = .ok (.iinc 6 1, 3) := by decide +kernel
theorem dX12_feed_115 : decode cX12_feed 115 = .ok (.goto (-93), 3) := by decide +kernel
theorem dX12_feed_118 : decode cX12_feed 118 = .ok (.aload_n 0, 1) := by decide +kernel
theorem dX12_feed_119 : decode cX12_feed 119 = .ok (.getfield 126, 3) := by decide +kernel
theorem dX12_feed_122 : decode cX12_feed 122 = .ok (.ireturn, 1) := by decide +kernel
theorem dX12_end_0 : decode cX12_end 0 = .ok (.iload_n 1, 1) := by decide +kernel
theorem dX12_end_1 : decode cX12_end 1 = .ok (.ifCond .lt 11, 3) := by decide +kernel
theorem dX12_end_4 : decode cX12_end 4 = .ok (.iload_n 1, 1) := by decide +kernel
theorem dX12_end_5 : decode cX12_end 5 = .ok (.aload_n 0, 1) := by decide +kernel
theorem dX12_end_6 : decode cX12_end 6 = .ok (.getfield 126, 3) := by decide +kernel
theorem dX12_end_9 : decode cX12_end 9 = .ok (.if_icmp .le 9, 3) := by decide +kernel
theorem dX12_end_12 : decode cX12_end 12 = .ok (.aload_n 0, 1) := by decide +kernel
theorem dX12_end_13 : decode cX12_end 13 = .ok (.iconst 0, 1) := by decide +kernel
theorem dX12_end_14 : decode cX12_end 14 = .ok (.invokevirtual 133, 3) := by decide +kernel
theorem dX12_end_17 : decode cX12_end 17 = .ok (.ireturn, 1) := by decide +kernel
theorem dX12_end_18 : decode cX12_end 18 = .ok (.aload_n 0, 1) := by decide +kernel
theorem dX12_end_19 : decode cX12_end 19 = .ok (.iload_n 1, 1) := by decide +kernel
theorem dX12_end_20 : decode cX12_end 20 = .ok (.putfield 126, 3) := by decide +kernel
theorem dX12_end_23 : decode cX12_end 23 = .ok (.iconst 1, 1) := by decide +kernel
theorem dX12_end_24 : decode cX12_end 24 = .ok (.ireturn, 1) := by decide +kernel
theorem dX12_status_0 : decode cX12_status 0 = .ok (.iload_n 1, 1) := by decide +kernel
theorem dX12_status_1 : decode cX12_status 1 = .ok (.i2l, 1) := by decide +kernel
theorem dX12_status_2 : decode cX12_status 2 = .ok (.lconst 0, 1) := by decide +kernel
theorem dX12_status_3 : decode cX12_status 3 = .ok (.ldc2_w 137, 3) := by decide +kernel
theorem dX12_status_6 : decode cX12_status 6 = .ok (.invokestatic 139, 3) := by decide +kernel
theorem dX12_status_9 : decode cX12_status 9 = .ok (.ifCond .eq 12, 3) := by decide +kernel
theorem dX12_status_12 : decode cX12_status 12 = .ok (.aload_n 0, 1) := by decide +kernel
theorem dX12_status_13 : decode cX12_status 13 = .ok (.getfield 17, 3) := by decide +kernel
theorem dX12_status_16 : decode cX12_status 16 = .ok (.iload_n 1, 1) := by decide +kernel
theorem dX12_status_17 : decode cX12_status 17 = .ok (.iaload, 1) := by decide +kernel
theorem dX12_status_18 : decode cX12_status 18 = .ok (.goto 4, 3) := by decide +kernel
theorem dX12_status_21 : decode cX12_status 21 = .ok (.iconst (-1), 1) := by decide +kernel
theorem dX12_status_22 : decode cX12_status 22 = .ok (.ireturn, 1) := by decide +kernel
theorem dX12_fault_0 : decode cX12_fault 0 = .ok (.iload_n 1, 1) := by decide +kernel
theorem dX12_fault_1 : decode cX12_fault 1 = .ok (.ifCond .ne 10, 3) := by decide +kernel
theorem dX12_fault_4 : decode cX12_fault 4 = .ok (.aload_n 0, 1) := by decide +kernel
theorem dX12_fault_5 : decode cX12_fault 5 = .ok (.getfield 143, 3) := by decide +kernel
theorem dX12_fault_8 : decode cX12_fault 8 = .ok (.goto 16, 3) := by decide +kernel
theorem dX12_fault_11 : decode cX12_fault 11 = .ok (.iload_n 1, 1) := by decide +kernel
theorem dX12_fault_12 : decode cX12_fault 12 = .ok (.iconst 1, 1) := by decide +kernel
theorem dX12_fault_13 : decode cX12_fault 13 = .ok (.if_icmp .ne 10, 3) := by decide +kernel
theorem dX12_fault_16 : decode cX12_fault 16 = .ok (.aload_n 0, 1) := by decide +kernel
theorem dX12_fault_17 : decode cX12_fault 17 = .ok (.getfield 13, 3) := by decide +kernel
theorem dX12_fault_20 : decode cX12_fault 20 = .ok (.goto 4, 3) := by decide +kernel
theorem dX12_fault_23 : decode cX12_fault 23 = .ok (.iconst (-1), 1) := by decide +kernel
theorem dX12_fault_24 : decode cX12_fault 24 = .ok (.ireturn, 1) := by decide +kernel
theorem dX12_begins_0 : decode cX12_begins 0 = .ok (.aload_n 0, 1) := by decide +kernel
theorem dX12_begins_1 : decode cX12_begins 1 = .ok (.aload_n 0, 1) := by decide +kernel
theorem dX12_begins_2 : decode cX12_begins 2 = .ok (.getfield 126, 3) := by decide +kernel
theorem dX12_begins_5 : decode cX12_begins 5 = .ok (.putfield 146, 3) := by decide +kernel
theorem dX12_begins_8 : decode cX12_begins 8 = .ok (.aload_n 0, 1) := by decide +kernel
theorem dX12_begins_9 : decode cX12_begins 9 = .ok (.iconst 0, 1) := by decide +kernel
theorem dX12_begins_10 : decode cX12_begins 10 = .ok (.putfield 126, 3) := by decide +kernel
theorem dX12_begins_13 : decode cX12_begins 13 = .ok (.aload_n 0, 1) := by decide +kernel
theorem dX12_begins_14 : decode cX12_begins 14 = .ok (.iconst 0, 1) := by decide +kernel
theorem dX12_begins_15 : decode cX12_begins 15 = .ok (.putfield 149, 3) := by decide +kernel
theorem dX12_begins_18 : decode cX12_begins 18 = .ok (.aload_n 0, 1) := by decide +kernel
theorem dX12_begins_19 : decode cX12_begins 19 = .ok (.iconst (-1), 1) := by decide +kernel
theorem dX12_begins_20 : decode cX12_begins 20 = .ok (.putfield 152, 3) := by decide +kernel
theorem dX12_begins_23 : decode cX12_begins 23 = .ok (.aload_n 0, 1) := by decide +kernel
theorem dX12_begins_24 : decode cX12_begins 24 = .ok (.iconst 0, 1) := by decide +kernel
theorem dX12_begins_25 : decode cX12_begins 25 = .ok (.invokevirtual 155, 3) := by decide +kernel
theorem dX12_begins_28 : decode cX12_begins 28 = .ok (.return_, 1) := by decide +kernel
theorem dX12_goesTo_0 : decode cX12_goesTo 0 = .ok (.aload_n 0, 1) := by decide +kernel
theorem dX12_goesTo_1 : decode cX12_goesTo 1 = .ok (.iload_n 1, 1) := by decide +kernel
theorem dX12_goesTo_2 : decode cX12_goesTo 2 = .ok (.putfield 159, 3) := by decide +kernel
theorem dX12_goesTo_5 : decode cX12_goesTo 5 = .ok (.aload_n 0, 1) := by decide +kernel
theorem dX12_goesTo_6 : decode cX12_goesTo 6 = .ok (.iconst (-1), 1) := by decide +kernel
theorem dX12_goesTo_7 : decode cX12_goesTo 7 = .ok (.putfield 162, 3) := by decide +kernel
theorem dX12_goesTo_10 : decode cX12_goesTo 10 = .ok (.return_, 1) := by decide +kernel
theorem dX12_fail_0 : decode cX12_fail 0 = .ok (.aload_n 0, 1) := by decide +kernel
theorem dX12_fail_1 : decode cX12_fail 1 = .ok (.getfield 149, 3) := by decide +kernel
theorem dX12_fail_4 : decode cX12_fail 4 = .ok (.ifCond .eq 4, 3) := by decide +kernel
theorem dX12_fail_7 : decode cX12_fail 7 = .ok (.return_, 1) := by decide +kernel
theorem dX12_fail_8 : decode cX12_fail 8 = .ok (.aload_n 0, 1) := by decide +kernel
theorem dX12_fail_9 : decode cX12_fail 9 = .ok (.iload_n 1, 1) := by decide +kernel
theorem dX12_fail_10 : decode cX12_fail 10 = .ok (.putfield 149, 3) := by decide +kernel
theorem dX12_fail_13 : decode cX12_fail 13 = .ok (.aload_n 0, 1) := by decide +kernel
theorem dX12_fail_14 : decode cX12_fail 14 = .ok (.iload_n 2, 1) := by decide +kernel
theorem dX12_fail_15 : decode cX12_fail 15 = .ok (.putfield 152, 3) := by decide +kernel
theorem dX12_fail_18 : decode cX12_fail 18 = .ok (.return_, 1) := by decide +kernel
theorem dX12_isLetter_0 : decode cX12_isLetter 0 = .ok (.iload_n 0, 1) := by decide +kernel
theorem dX12_isLetter_1 : decode cX12_isLetter 1 = .ok (.bipush 97, 2) := by decide +kernel
theorem dX12_isLetter_3 : decode cX12_isLetter 3 = .ok (.if_icmp .lt 13, 3) := by decide +kernel
theorem dX12_isLetter_6 : decode cX12_isLetter 6 = .ok (.iload_n 0, 1) := by decide +kernel
theorem dX12_isLetter_7 : decode cX12_isLetter 7 = .ok (.bipush 122, 2) := by decide +kernel
theorem dX12_isLetter_9 : decode cX12_isLetter 9 = .ok (.if_icmp .gt 7, 3) := by decide +kernel
theorem dX12_isLetter_12 : decode cX12_isLetter 12 = .ok (.iconst 1, 1) := by decide +kernel
theorem dX12_isLetter_13 : decode cX12_isLetter 13 = .ok (.goto 4, 3) := by decide +kernel
theorem dX12_isLetter_16 : decode cX12_isLetter 16 = .ok (.iconst 0, 1) := by decide +kernel
theorem dX12_isLetter_17 : decode cX12_isLetter 17 = .ok (.ireturn, 1) := by decide +kernel
theorem dX12_isDigit_0 : decode cX12_isDigit 0 = .ok (.iload_n 0, 1) := by decide +kernel
theorem dX12_isDigit_1 : decode cX12_isDigit 1 = .ok (.bipush 48, 2) := by decide +kernel
theorem dX12_isDigit_3 : decode cX12_isDigit 3 = .ok (.if_icmp .lt 13, 3) := by decide +kernel
theorem dX12_isDigit_6 : decode cX12_isDigit 6 = .ok (.iload_n 0, 1) := by decide +kernel
theorem dX12_isDigit_7 : decode cX12_isDigit 7 = .ok (.bipush 57, 2) := by decide +kernel
theorem dX12_isDigit_9 : decode cX12_isDigit 9 = .ok (.if_icmp .gt 7, 3) := by decide +kernel
theorem dX12_isDigit_12 : decode cX12_isDigit 12 = .ok (.iconst 1, 1) := by decide +kernel
theorem dX12_isDigit_13 : decode cX12_isDigit 13 = .ok (.goto 4, 3) := by decide +kernel
theorem dX12_isDigit_16 : decode cX12_isDigit 16 = .ok (.iconst 0, 1) := by decide +kernel
theorem dX12_isDigit_17 : decode cX12_isDigit 17 = .ok (.ireturn, 1) := by decide +kernel
theorem dX12_look_0 : decode cX12_look 0 = .ok (.aload_n 0, 1) := by decide +kernel
theorem dX12_look_1 : decode cX12_look 1 = .ok (.getfield 159, 3) := by decide +kernel
theorem dX12_look_4 : decode cX12_look 4 = .ok (.aload_n 0, 1) := by decide +kernel
theorem dX12_look_5 : decode cX12_look 5 = .ok (.getfield 146, 3) := by decide +kernel
theorem dX12_look_8 : decode cX12_look 8 = .ok (.if_icmp .ge 44, 3) := by decide +kernel
theorem dX12_look_11 : decode cX12_look 11 = .ok (.aload_n 0, 1) := by decide +kernel
theorem dX12_look_12 : decode cX12_look 12 = .ok (.getfield 7, 3) := by decide +kernel
theorem dX12_look_15 : decode cX12_look 15 = .ok (.aload_n 0, 1) := by decide +kernel
theorem dX12_look_16 : decode cX12_look 16 = .ok (.getfield 159, 3) := by decide +kernel
theorem dX12_look_19 : decode cX12_look 19 = .ok (.iaload, 1) := by decide +kernel
theorem dX12_look_20 : decode cX12_look 20 = .ok (.bipush 10, 2) := by decide +kernel
theorem dX12_look_22 : decode cX12_look 22 = .ok (.if_icmp .eq 17, 3) := by decide +kernel
theorem dX12_look_25 : decode cX12_look 25 = .ok (.aload_n 0, 1) := by decide +kernel
theorem dX12_look_26 : decode cX12_look 26 = .ok (.getfield 7, 3) := by decide +kernel
theorem dX12_look_29 : decode cX12_look 29 = .ok (.aload_n 0, 1) := by decide +kernel
theorem dX12_look_30 : decode cX12_look 30 = .ok (.getfield 159, 3) := by decide +kernel
theorem dX12_look_33 : decode cX12_look 33 = .ok (.iaload, 1) := by decide +kernel
theorem dX12_look_34 : decode cX12_look 34 = .ok (.bipush 32, 2) := by decide +kernel
theorem dX12_look_36 : decode cX12_look 36 = .ok (.if_icmp .ne 16, 3) := by decide +kernel
theorem dX12_look_39 : decode cX12_look 39 = .ok (.aload_n 0, 1) := by decide +kernel
theorem dX12_look_40 : decode cX12_look 40 = .ok (.dup, 1) := by decide +kernel
theorem dX12_look_41 : decode cX12_look 41 = .ok (.getfield 159, 3) := by decide +kernel
theorem dX12_look_44 : decode cX12_look 44 = .ok (.iconst 1, 1) := by decide +kernel
theorem dX12_look_45 : decode cX12_look 45 = .ok (.iadd, 1) := by decide +kernel
theorem dX12_look_46 : decode cX12_look 46 = .ok (.putfield 159, 3) := by decide +kernel
theorem dX12_look_49 : decode cX12_look 49 = .ok (.goto (-49), 3) := by decide +kernel
theorem dX12_look_52 : decode cX12_look 52 = .ok (.aload_n 0, 1) := by decide +kernel
theorem dX12_look_53 : decode cX12_look 53 = .ok (.getfield 159, 3) := by decide +kernel
theorem dX12_look_56 : decode cX12_look 56 = .ok (.aload_n 0, 1) := by decide +kernel
theorem dX12_look_57 : decode cX12_look 57 = .ok (.getfield 146, 3) := by decide +kernel
theorem dX12_look_60 : decode cX12_look 60 = .ok (.if_icmp .ge 15, 3) := by decide +kernel
theorem dX12_look_63 : decode cX12_look 63 = .ok (.aload_n 0, 1) := by decide +kernel
theorem dX12_look_64 : decode cX12_look 64 = .ok (.getfield 7, 3) := by decide +kernel
theorem dX12_look_67 : decode cX12_look 67 = .ok (.aload_n 0, 1) := by decide +kernel
theorem dX12_look_68 : decode cX12_look 68 = .ok (.getfield 159, 3) := by decide +kernel
theorem dX12_look_71 : decode cX12_look 71 = .ok (.iaload, 1) := by decide +kernel
theorem dX12_look_72 : decode cX12_look 72 = .ok (.goto 4, 3) := by decide +kernel
theorem dX12_look_75 : decode cX12_look 75 = .ok (.iconst (-1), 1) := by decide +kernel
theorem dX12_look_76 : decode cX12_look 76 = .ok (.ireturn, 1) := by decide +kernel
theorem dX12_isHere_0 : decode cX12_isHere 0 = .ok (.aload_n 0, 1) := by decide +kernel
theorem dX12_isHere_1 : decode cX12_isHere 1 = .ok (.getfield 149, 3) := by decide +kernel
theorem dX12_isHere_4 : decode cX12_isHere 4 = .ok (.ifCond .ne 24, 3) := by decide +kernel
theorem dX12_isHere_7 : decode cX12_isHere 7 = .ok (.aload_n 0, 1) := by decide +kernel
theorem dX12_isHere_8 : decode cX12_isHere 8 = .ok (.invokevirtual 165, 3) := by decide +kernel
theorem dX12_isHere_11 : decode cX12_isHere 11 = .ok (.invokestatic 169, 3) := by decide +kernel
theorem dX12_isHere_14 : decode cX12_isHere 14 = .ok (.ifCond .eq 14, 3) := by decide +kernel
theorem dX12_isHere_17 : decode cX12_isHere 17 = .ok (.aload_n 0, 1) := by decide +kernel
theorem dX12_isHere_18 : decode cX12_isHere 18 = .ok (.getfield 159, 3) := by decide +kernel
theorem dX12_isHere_21 : decode cX12_isHere 21 = .ok (.aload_n 0, 1) := by decide +kernel
theorem dX12_isHere_22 : decode cX12_isHere 22 = .ok (.getfield 162, 3) := by decide +kernel
theorem dX12_isHere_25 : decode cX12_isHere 25 = .ok (.if_icmp .ne 5, 3) := by decide +kernel
theorem dX12_isHere_28 : decode cX12_isHere 28 = .ok (.iconst 0, 1) := by decide +kernel
theorem dX12_isHere_29 : decode cX12_isHere 29 = .ok (.ireturn, 1) := by decide +kernel
theorem dX12_isHere_30 : decode cX12_isHere 30 = .ok (.aload_n 0, 1) := by decide +kernel
theorem dX12_isHere_31 : decode cX12_isHere 31 = .ok (.getfield 159, 3) := by decide +kernel
theorem dX12_isHere_34 : decode cX12_isHere 34 = .ok (.istore_n 2, 1) := by decide +kernel
theorem dX12_isHere_35 : decode cX12_isHere 35 = .ok (.iload_n 2, 1) := by decide +kernel
theorem dX12_isHere_36 : decode cX12_isHere 36 = .ok (.aload_n 0, 1) := by decide +kernel
theorem dX12_isHere_37 : decode cX12_isHere 37 = .ok (.getfield 146, 3) := by decide +kernel
theorem dX12_isHere_40 : decode cX12_isHere 40 = .ok (.if_icmp .ge 21, 3) := by decide +kernel
theorem dX12_isHere_43 : decode cX12_isHere 43 = .ok (.aload_n 0, 1) := by decide +kernel
theorem dX12_isHere_44 : decode cX12_isHere 44 = .ok (.getfield 7, 3) := by decide +kernel
theorem dX12_isHere_47 : decode cX12_isHere 47 = .ok (.iload_n 2, 1) := by decide +kernel
theorem dX12_isHere_48 : decode cX12_isHere 48 = .ok (.iaload, 1) := by decide +kernel
theorem dX12_isHere_49 : decode cX12_isHere 49 = .ok (.invokestatic 169, 3) := by decide +kernel
theorem dX12_isHere_52 : decode cX12_isHere 52 = .ok (.ifCond .eq 9, 3) := by decide +kernel
theorem dX12_isHere_55 : decode cX12_isHere 55 = .ok (.iinc 2 1, 3) := by decide +kernel
theorem dX12_isHere_58 : decode cX12_isHere 58 = .ok (.goto (-23), 3) := by decide +kernel
theorem dX12_isHere_61 : decode cX12_isHere 61 = .ok (.iload_n 2, 1) := by decide +kernel
theorem dX12_isHere_62 : decode cX12_isHere 62 = .ok (.aload_n 0, 1) := by decide +kernel
theorem dX12_isHere_63 : decode cX12_isHere 63 = .ok (.getfield 159, 3) := by decide +kernel
theorem dX12_isHere_66 : decode cX12_isHere 66 = .ok (.isub, 1) := by decide +kernel
theorem dX12_isHere_67 : decode cX12_isHere 67 = .ok (.aload_n 1, 1) := by decide +kernel
theorem dX12_isHere_68 : decode cX12_isHere 68 = .ok (.arraylength, 1) := by decide +kernel
theorem dX12_isHere_69 : decode cX12_isHere 69 = .ok (.if_icmp .eq 5, 3) := by decide +kernel
theorem dX12_isHere_72 : decode cX12_isHere 72 = .ok (.iconst 0, 1) := by decide +kernel
theorem dX12_isHere_73 : decode cX12_isHere 73 = .ok (.ireturn, 1) := by decide +kernel
theorem dX12_isHere_74 : decode cX12_isHere 74 = .ok (.iconst 0, 1) := by decide +kernel
theorem dX12_isHere_75 : decode cX12_isHere 75 = .ok (.istore_n 3, 1) := by decide +kernel
theorem dX12_isHere_76 : decode cX12_isHere 76 = .ok (.iload_n 3, 1) := by decide +kernel
theorem dX12_isHere_77 : decode cX12_isHere 77 = .ok (.aload_n 1, 1) := by decide +kernel
theorem dX12_isHere_78 : decode cX12_isHere 78 = .ok (.arraylength, 1) := by decide +kernel
theorem dX12_isHere_79 : decode cX12_isHere 79 = .ok (.if_icmp .ge 28, 3) := by decide +kernel
theorem dX12_isHere_82 : decode cX12_isHere 82 = .ok (.aload_n 0, 1) := by decide +kernel
theorem dX12_isHere_83 : decode cX12_isHere 83 = .ok (.getfield 7, 3) := by decide +kernel
theorem dX12_isHere_86 : decode cX12_isHere 86 = .ok (.aload_n 0, 1) := by decide +kernel
theorem dX12_isHere_87 : decode cX12_isHere 87 = .ok (.getfield 159, 3) := by decide +kernel
theorem dX12_isHere_90 : decode cX12_isHere 90 = .ok (.iload_n 3, 1) := by decide +kernel
theorem dX12_isHere_91 : decode cX12_isHere 91 = .ok (.iadd, 1) := by decide +kernel
theorem dX12_isHere_92 : decode cX12_isHere 92 = .ok (.iaload, 1) := by decide +kernel
theorem dX12_isHere_93 : decode cX12_isHere 93 = .ok (.aload_n 1, 1) := by decide +kernel
theorem dX12_isHere_94 : decode cX12_isHere 94 = .ok (.iload_n 3, 1) := by decide +kernel
theorem dX12_isHere_95 : decode cX12_isHere 95 = .ok (.caload, 1) := by decide +kernel
theorem dX12_isHere_96 : decode cX12_isHere 96 = .ok (.if_icmp .eq 5, 3) := by decide +kernel
theorem dX12_isHere_99 : decode cX12_isHere 99 = .ok (.iconst 0, 1) := by decide +kernel
theorem dX12_isHere_100 : decode cX12_isHere 100 = .ok (.ireturn, 1) := by decide +kernel
theorem dX12_isHere_101 : decode cX12_isHere 101 = .ok (.iinc 3 1, 3) := by decide +kernel
theorem dX12_isHere_104 : decode cX12_isHere 104 = .ok (.goto (-28), 3) := by decide +kernel
theorem dX12_isHere_107 : decode cX12_isHere 107 = .ok (.iconst 1, 1) := by decide +kernel
theorem dX12_isHere_108 : decode cX12_isHere 108 = .ok (.ireturn, 1) := by decide +kernel
theorem dX12_takes_0 : decode cX12_takes 0 = .ok (.aload_n 0, 1) := by decide +kernel
theorem dX12_takes_1 : decode cX12_takes 1 = .ok (.aload_n 1, 1) := by decide +kernel
theorem dX12_takes_2 : decode cX12_takes 2 = .ok (.invokevirtual 172, 3) := by decide +kernel
theorem dX12_takes_5 : decode cX12_takes 5 = .ok (.ifCond .ne 5, 3) := by decide +kernel
theorem dX12_takes_8 : decode cX12_takes 8 = .ok (.iconst 0, 1) := by decide +kernel
theorem dX12_takes_9 : decode cX12_takes 9 = .ok (.ireturn, 1) := by decide +kernel
theorem dX12_takes_10 : decode cX12_takes 10 = .ok (.aload_n 0, 1) := by decide +kernel
theorem dX12_takes_11 : decode cX12_takes 11 = .ok (.dup, 1) := by decide +kernel
theorem dX12_takes_12 : decode cX12_takes 12 = .ok (.getfield 159, 3) := by decide +kernel
theorem dX12_takes_15 : decode cX12_takes 15 = .ok (.aload_n 1, 1) := by decide +kernel
theorem dX12_takes_16 : decode cX12_takes 16 = .ok (.arraylength, 1) := by decide +kernel
theorem dX12_takes_17 : decode cX12_takes 17 = .ok (.iadd, 1) := by decide +kernel
theorem dX12_takes_18 : decode cX12_takes 18 = .ok (.putfield 159, 3) := by decide +kernel
theorem dX12_takes_21 : decode cX12_takes 21 = .ok (.aload_n 0, 1) := by decide +kernel
theorem dX12_takes_22 : decode cX12_takes 22 = .ok (.aload_n 0, 1) := by decide +kernel
theorem dX12_takes_23 : decode cX12_takes 23 = .ok (.getfield 159, 3) := by decide +kernel
theorem dX12_takes_26 : decode cX12_takes 26 = .ok (.putfield 162, 3) := by decide +kernel
theorem dX12_takes_29 : decode cX12_takes 29 = .ok (.iconst 1, 1) := by decide +kernel
theorem dX12_takes_30 : decode cX12_takes 30 = .ok (.ireturn, 1) := by decide +kernel
theorem dX12_asks_0 : decode cX12_asks 0 = .ok (.aload_n 0, 1) := by decide +kernel
theorem dX12_asks_1 : decode cX12_asks 1 = .ok (.getfield 149, 3) := by decide +kernel
theorem dX12_asks_4 : decode cX12_asks 4 = .ok (.ifCond .ne 20, 3) := by decide +kernel
theorem dX12_asks_7 : decode cX12_asks 7 = .ok (.aload_n 0, 1) := by decide +kernel
theorem dX12_asks_8 : decode cX12_asks 8 = .ok (.aload_n 1, 1) := by decide +kernel
theorem dX12_asks_9 : decode cX12_asks 9 = .ok (.invokevirtual 176, 3) := by decide +kernel
theorem dX12_asks_12 : decode cX12_asks 12 = .ok (.ifCond .ne 12, 3) := by decide +kernel
theorem dX12_asks_15 : decode cX12_asks 15 = .ok (.aload_n 0, 1) := by decide +kernel
theorem dX12_asks_16 : decode cX12_asks 16 = .ok (.iconst 1, 1) := by decide +kernel
theorem dX12_asks_17 : decode cX12_asks 17 = .ok (.aload_n 0, 1) := by decide +kernel
theorem dX12_asks_18 : decode cX12_asks 18 = .ok (.getfield 159, 3) := by decide +kernel
theorem dX12_asks_21 : decode cX12_asks 21 = .ok (.invokevirtual 179, 3) := by decide +kernel
theorem dX12_asks_24 : decode cX12_asks 24 = .ok (.return_, 1) := by decide +kernel
theorem dX12_takesSign_0 : decode cX12_takesSign 0 = .ok (.aload_n 0, 1) := by decide +kernel
theorem dX12_takesSign_1 : decode cX12_takesSign 1 = .ok (.getfield 149, 3) := by decide +kernel
theorem dX12_takesSign_4 : decode cX12_takesSign 4 = .ok (.ifCond .ne 11, 3) := by decide +kernel
theorem dX12_takesSign_7 : decode cX12_takesSign 7 = .ok (.aload_n 0, 1) := by decide +kernel
theorem dX12_takesSign_8 : decode cX12_takesSign 8 = .ok (.invokevirtual 165, 3) := by decide +kernel
theorem dX12_takesSign_11 : decode cX12_takesSign 11 = .ok (.iload_n 1, 1) := by decide +kernel
theorem dX12_takesSign_12 : decode cX12_takesSign 12 = .ok (.if_icmp .eq 5, 3) := by decide +kernel
theorem dX12_takesSign_15 : decode cX12_takesSign 15 = .ok (.iconst 0, 1) := by decide +kernel
theorem dX12_takesSign_16 : decode cX12_takesSign 16 = .ok (.ireturn, 1) := by decide +kernel
theorem dX12_takesSign_17 : decode cX12_takesSign 17 = .ok (.aload_n 0, 1) := by decide +kernel
theorem dX12_takesSign_18 : decode cX12_takesSign 18 = .ok (.dup, 1) := by decide +kernel
theorem dX12_takesSign_19 : decode cX12_takesSign 19 = .ok (.getfield 159, 3) := by decide +kernel
theorem dX12_takesSign_22 : decode cX12_takesSign 22 = .ok (.iconst 1, 1) := by decide +kernel
theorem dX12_takesSign_23 : decode cX12_takesSign 23 = .ok (.iadd, 1) := by decide +kernel
theorem dX12_takesSign_24 : decode cX12_takesSign 24 = .ok (.putfield 159, 3) := by decide +kernel
theorem dX12_takesSign_27 : decode cX12_takesSign 27 = .ok (.iconst 1, 1) := by decide +kernel
theorem dX12_takesSign_28 : decode cX12_takesSign 28 = .ok (.ireturn, 1) := by decide +kernel
theorem dX12_asksSign_0 : decode cX12_asksSign 0 = .ok (.aload_n 0, 1) := by decide +kernel
theorem dX12_asksSign_1 : decode cX12_asksSign 1 = .ok (.getfield 149, 3) := by decide +kernel
theorem dX12_asksSign_4 : decode cX12_asksSign 4 = .ok (.ifCond .ne 20, 3) := by decide +kernel
theorem dX12_asksSign_7 : decode cX12_asksSign 7 = .ok (.aload_n 0, 1) := by decide +kernel
theorem dX12_asksSign_8 : decode cX12_asksSign 8 = .ok (.iload_n 1, 1) := by decide +kernel
theorem dX12_asksSign_9 : decode cX12_asksSign 9 = .ok (.invokevirtual 183, 3) := by decide +kernel
theorem dX12_asksSign_12 : decode cX12_asksSign 12 = .ok (.ifCond .ne 12, 3) := by decide +kernel
theorem dX12_asksSign_15 : decode cX12_asksSign 15 = .ok (.aload_n 0, 1) := by decide +kernel
theorem dX12_asksSign_16 : decode cX12_asksSign 16 = .ok (.iconst 1, 1) := by decide +kernel
theorem dX12_asksSign_17 : decode cX12_asksSign 17 = .ok (.aload_n 0, 1) := by decide +kernel
theorem dX12_asksSign_18 : decode cX12_asksSign 18 = .ok (.getfield 159, 3) := by decide +kernel
theorem dX12_asksSign_21 : decode cX12_asksSign 21 = .ok (.invokevirtual 179, 3) := by decide +kernel
theorem dX12_asksSign_24 : decode cX12_asksSign 24 = .ok (.return_, 1) := by decide +kernel
theorem dX12_number_0 : decode cX12_number 0 = .ok (.aload_n 0, 1) := by decide +kernel
theorem dX12_number_1 : decode cX12_number 1 = .ok (.getfield 149, 3) := by decide +kernel
theorem dX12_number_4 : decode cX12_number 4 = .ok (.ifCond .eq 5, 3) := by decide +kernel
theorem dX12_number_7 : decode cX12_number 7 = .ok (.iload_n 1, 1) := by decide +kernel
theorem dX12_number_8 : decode cX12_number 8 = .ok (.ireturn, 1) := by decide +kernel
theorem dX12_number_9 : decode cX12_number 9 = .ok (.aload_n 0, 1) := by decide +kernel
theorem dX12_number_10 : decode cX12_number 10 = .ok (.invokevirtual 165, 3) := by decide +kernel
theorem dX12_number_13 : decode cX12_number 13 = .ok (.invokestatic 186, 3) := by decide +kernel
theorem dX12_number_16 : decode cX12_number 16 = .ok (.ifCond .eq 14, 3) := by decide +kernel
theorem dX12_number_19 : decode cX12_number 19 = .ok (.aload_n 0, 1) := by decide +kernel
theorem dX12_number_20 : decode cX12_number 20 = .ok (.getfield 159, 3) := by decide +kernel
theorem dX12_number_23 : decode cX12_number 23 = .ok (.aload_n 0, 1) := by decide +kernel
theorem dX12_number_24 : decode cX12_number 24 = .ok (.getfield 162, 3) := by decide +kernel
theorem dX12_number_27 : decode cX12_number 27 = .ok (.if_icmp .ne 14, 3) := by decide +kernel
theorem dX12_number_30 : decode cX12_number 30 = .ok (.aload_n 0, 1) := by decide +kernel
theorem dX12_number_31 : decode cX12_number 31 = .ok (.iconst 1, 1) := by decide +kernel
theorem dX12_number_32 : decode cX12_number 32 = .ok (.aload_n 0, 1) := by decide +kernel
theorem dX12_number_33 : decode cX12_number 33 = .ok (.getfield 159, 3) := by decide +kernel
theorem dX12_number_36 : decode cX12_number 36 = .ok (.invokevirtual 179, 3) := by decide +kernel
theorem dX12_number_39 : decode cX12_number 39 = .ok (.iload_n 1, 1) := by decide +kernel
theorem dX12_number_40 : decode cX12_number 40 = .ok (.ireturn, 1) := by decide +kernel
theorem dX12_number_41 : decode cX12_number 41 = .ok (.aload_n 0, 1) := by decide +kernel
theorem dX12_number_42 : decode cX12_number 42 = .ok (.getfield 159, 3) := by decide +kernel
theorem dX12_number_45 : decode cX12_number 45 = .ok (.istore_n 3, 1) := by decide +kernel
theorem dX12_number_46 : decode cX12_number 46 = .ok (.iconst 0, 1) := by decide +kernel
theorem dX12_number_47 : decode cX12_number 47 = .ok (.istore 4, 2) := by decide +kernel
theorem dX12_number_49 : decode cX12_number 49 = .ok (.aload_n 0, 1) := by decide +kernel
theorem dX12_number_50 : decode cX12_number 50 = .ok (.getfield 159, 3) := by decide +kernel
theorem dX12_number_53 : decode cX12_number 53 = .ok (.aload_n 0, 1) := by decide +kernel
theorem dX12_number_54 : decode cX12_number 54 = .ok (.getfield 146, 3) := by decide +kernel
theorem dX12_number_57 : decode cX12_number 57 = .ok (.if_icmp .ge 72, 3) := by decide +kernel
theorem dX12_number_60 : decode cX12_number 60 = .ok (.aload_n 0, 1) := by decide +kernel
theorem dX12_number_61 : decode cX12_number 61 = .ok (.getfield 7, 3) := by decide +kernel
theorem dX12_number_64 : decode cX12_number 64 = .ok (.aload_n 0, 1) := by decide +kernel
theorem dX12_number_65 : decode cX12_number 65 = .ok (.getfield 159, 3) := by decide +kernel
theorem dX12_number_68 : decode cX12_number 68 = .ok (.iaload, 1) := by decide +kernel
theorem dX12_number_69 : decode cX12_number 69 = .ok (.invokestatic 186, 3) := by decide +kernel
theorem dX12_number_72 : decode cX12_number 72 = .ok (.ifCond .eq 57, 3) := by decide +kernel
theorem dX12_number_75 : decode cX12_number 75 = .ok (.aload_n 0, 1) := by decide +kernel
theorem dX12_number_76 : decode cX12_number 76 = .ok (.getfield 159, 3) := by decide +kernel
theorem dX12_number_79 : decode cX12_number 79 = .ok (.iload_n 3, 1) := by decide +kernel
theorem dX12_number_80 : decode cX12_number 80 = .ok (.isub, 1) := by decide +kernel
theorem dX12_number_81 : decode cX12_number 81 = .ok (.iconst 2, 1) := by decide +kernel
theorem dX12_number_82 : decode cX12_number 82 = .ok (.if_icmp .ne 14, 3) := by decide +kernel
theorem dX12_number_85 : decode cX12_number 85 = .ok (.aload_n 0, 1) := by decide +kernel
theorem dX12_number_86 : decode cX12_number 86 = .ok (.iconst 1, 1) := by decide +kernel
theorem dX12_number_87 : decode cX12_number 87 = .ok (.aload_n 0, 1) := by decide +kernel
theorem dX12_number_88 : decode cX12_number 88 = .ok (.getfield 159, 3) := by decide +kernel
theorem dX12_number_91 : decode cX12_number 91 = .ok (.invokevirtual 179, 3) := by decide +kernel
theorem dX12_number_94 : decode cX12_number 94 = .ok (.iload_n 1, 1) := by decide +kernel
theorem dX12_number_95 : decode cX12_number 95 = .ok (.ireturn, 1) := by decide +kernel
theorem dX12_number_96 : decode cX12_number 96 = .ok (.bipush 10, 2) := by decide +kernel
theorem dX12_number_98 : decode cX12_number 98 = .ok (.iload 4, 2) := by decide +kernel
theorem dX12_number_100 : decode cX12_number 100 = .ok (.imul, 1) := by decide +kernel
theorem dX12_number_101 : decode cX12_number 101 = .ok (.aload_n 0, 1) := by decide +kernel
theorem dX12_number_102 : decode cX12_number 102 = .ok (.getfield 7, 3) := by decide +kernel
theorem dX12_number_105 : decode cX12_number 105 = .ok (.aload_n 0, 1) := by decide +kernel
theorem dX12_number_106 : decode cX12_number 106 = .ok (.getfield 159, 3) := by decide +kernel
theorem dX12_number_109 : decode cX12_number 109 = .ok (.iaload, 1) := by decide +kernel
theorem dX12_number_110 : decode cX12_number 110 = .ok (.iadd, 1) := by decide +kernel
theorem dX12_number_111 : decode cX12_number 111 = .ok (.bipush 48, 2) := by decide +kernel
theorem dX12_number_113 : decode cX12_number 113 = .ok (.isub, 1) := by decide +kernel
theorem dX12_number_114 : decode cX12_number 114 = .ok (.istore 4, 2) := by decide +kernel
theorem dX12_number_116 : decode cX12_number 116 = .ok (.aload_n 0, 1) := by decide +kernel
theorem dX12_number_117 : decode cX12_number 117 = .ok (.dup, 1) := by decide +kernel
theorem dX12_number_118 : decode cX12_number 118 = .ok (.getfield 159, 3) := by decide +kernel
theorem dX12_number_121 : decode cX12_number 121 = .ok (.iconst 1, 1) := by decide +kernel
theorem dX12_number_122 : decode cX12_number 122 = .ok (.iadd, 1) := by decide +kernel
theorem dX12_number_123 : decode cX12_number 123 = .ok (.putfield 159, 3) := by decide +kernel
theorem dX12_number_126 : decode cX12_number 126 = .ok (.goto (-77), 3) := by decide +kernel
theorem dX12_number_129 : decode cX12_number 129 = .ok (.aload_n 0, 1) := by decide +kernel
theorem dX12_number_130 : decode cX12_number 130 = .ok (.aload_n 0, 1) := by decide +kernel
theorem dX12_number_131 : decode cX12_number 131 = .ok (.getfield 159, 3) := by decide +kernel
theorem dX12_number_134 : decode cX12_number 134 = .ok (.putfield 162, 3) := by decide +kernel
theorem dX12_number_137 : decode cX12_number 137 = .ok (.iload 4, 2) := by decide +kernel
theorem dX12_number_139 : decode cX12_number 139 = .ok (.i2l, 1) := by decide +kernel
theorem dX12_number_140 : decode cX12_number 140 = .ok (.iload_n 1, 1) := by decide +kernel
theorem dX12_number_141 : decode cX12_number 141 = .ok (.i2l, 1) := by decide +kernel
theorem dX12_number_142 : decode cX12_number 142 = .ok (.iload_n 2, 1) := by decide +kernel
theorem dX12_number_143 : decode cX12_number 143 = .ok (.i2l, 1) := by decide +kernel
theorem dX12_number_144 : decode cX12_number 144 = .ok (.invokestatic 139, 3) := by decide +kernel
theorem dX12_number_147 : decode cX12_number 147 = .ok (.ifCond .ne 9, 3) := by decide +kernel
theorem dX12_number_150 : decode cX12_number 150 = .ok (.aload_n 0, 1) := by decide +kernel
theorem dX12_number_151 : decode cX12_number 151 = .ok (.iconst 2, 1) := by decide +kernel
theorem dX12_number_152 : decode cX12_number 152 = .ok (.iload_n 3, 1) := by decide +kernel
theorem dX12_number_153 : decode cX12_number 153 = .ok (.invokevirtual 179, 3) := by decide +kernel
theorem dX12_number_156 : decode cX12_number 156 = .ok (.iload 4, 2) := by decide +kernel
theorem dX12_number_158 : decode cX12_number 158 = .ok (.ireturn, 1) := by decide +kernel
theorem dX12_word_0 : decode cX12_word 0 = .ok (.aload_n 0, 1) := by decide +kernel
theorem dX12_word_1 : decode cX12_word 1 = .ok (.getfield 149, 3) := by decide +kernel
theorem dX12_word_4 : decode cX12_word 4 = .ok (.ifCond .eq 8, 3) := by decide +kernel
theorem dX12_word_7 : decode cX12_word 7 = .ok (.aload_n 0, 1) := by decide +kernel
theorem dX12_word_8 : decode cX12_word 8 = .ok (.getfield 159, 3) := by decide +kernel
theorem dX12_word_11 : decode cX12_word 11 = .ok (.ireturn, 1) := by decide +kernel
theorem dX12_word_12 : decode cX12_word 12 = .ok (.aload_n 0, 1) := by decide +kernel
theorem dX12_word_13 : decode cX12_word 13 = .ok (.invokevirtual 165, 3) := by decide +kernel
theorem dX12_word_16 : decode cX12_word 16 = .ok (.invokestatic 169, 3) := by decide +kernel
theorem dX12_word_19 : decode cX12_word 19 = .ok (.ifCond .eq 14, 3) := by decide +kernel
theorem dX12_word_22 : decode cX12_word 22 = .ok (.aload_n 0, 1) := by decide +kernel
theorem dX12_word_23 : decode cX12_word 23 = .ok (.getfield 159, 3) := by decide +kernel
theorem dX12_word_26 : decode cX12_word 26 = .ok (.aload_n 0, 1) := by decide +kernel
theorem dX12_word_27 : decode cX12_word 27 = .ok (.getfield 162, 3) := by decide +kernel
theorem dX12_word_30 : decode cX12_word 30 = .ok (.if_icmp .ne 12, 3) := by decide +kernel
theorem dX12_word_33 : decode cX12_word 33 = .ok (.aload_n 0, 1) := by decide +kernel
theorem dX12_word_34 : decode cX12_word 34 = .ok (.iconst 1, 1) := by decide +kernel
theorem dX12_word_35 : decode cX12_word 35 = .ok (.aload_n 0, 1) := by decide +kernel
theorem dX12_word_36 : decode cX12_word 36 = .ok (.getfield 159, 3) := by decide +kernel
theorem dX12_word_39 : decode cX12_word 39 = .ok (.invokevirtual 179, 3) := by decide +kernel
theorem dX12_word_42 : decode cX12_word 42 = .ok (.aload_n 0, 1) := by decide +kernel
theorem dX12_word_43 : decode cX12_word 43 = .ok (.getfield 159, 3) := by decide +kernel
theorem dX12_word_46 : decode cX12_word 46 = .ok (.istore_n 2, 1) := by decide +kernel
theorem dX12_word_47 : decode cX12_word 47 = .ok (.aload_n 0, 1) := by decide +kernel
theorem dX12_word_48 : decode cX12_word 48 = .ok (.getfield 149, 3) := by decide +kernel
theorem dX12_word_51 : decode cX12_word 51 = .ok (.ifCond .ne 64, 3) := by decide +kernel
theorem dX12_word_54 : decode cX12_word 54 = .ok (.aload_n 0, 1) := by decide +kernel
theorem dX12_word_55 : decode cX12_word 55 = .ok (.getfield 159, 3) := by decide +kernel
theorem dX12_word_58 : decode cX12_word 58 = .ok (.aload_n 0, 1) := by decide +kernel
theorem dX12_word_59 : decode cX12_word 59 = .ok (.getfield 146, 3) := by decide +kernel
theorem dX12_word_62 : decode cX12_word 62 = .ok (.if_icmp .ge 53, 3) := by decide +kernel
theorem dX12_word_65 : decode cX12_word 65 = .ok (.aload_n 0, 1) := by decide +kernel
theorem dX12_word_66 : decode cX12_word 66 = .ok (.getfield 7, 3) := by decide +kernel
theorem dX12_word_69 : decode cX12_word 69 = .ok (.aload_n 0, 1) := by decide +kernel
theorem dX12_word_70 : decode cX12_word 70 = .ok (.getfield 159, 3) := by decide +kernel
theorem dX12_word_73 : decode cX12_word 73 = .ok (.iaload, 1) := by decide +kernel
theorem dX12_word_74 : decode cX12_word 74 = .ok (.invokestatic 169, 3) := by decide +kernel
theorem dX12_word_77 : decode cX12_word 77 = .ok (.ifCond .eq 38, 3) := by decide +kernel
theorem dX12_word_80 : decode cX12_word 80 = .ok (.aload_n 0, 1) := by decide +kernel
theorem dX12_word_81 : decode cX12_word 81 = .ok (.getfield 159, 3) := by decide +kernel
theorem dX12_word_84 : decode cX12_word 84 = .ok (.iload_n 2, 1) := by decide +kernel
theorem dX12_word_85 : decode cX12_word 85 = .ok (.isub, 1) := by decide +kernel
theorem dX12_word_86 : decode cX12_word 86 = .ok (.iload_n 1, 1) := by decide +kernel
theorem dX12_word_87 : decode cX12_word 87 = .ok (.if_icmp .ne 15, 3) := by decide +kernel
theorem dX12_word_90 : decode cX12_word 90 = .ok (.aload_n 0, 1) := by decide +kernel
theorem dX12_word_91 : decode cX12_word 91 = .ok (.iconst 1, 1) := by decide +kernel
theorem dX12_word_92 : decode cX12_word 92 = .ok (.aload_n 0, 1) := by decide +kernel
theorem dX12_word_93 : decode cX12_word 93 = .ok (.getfield 159, 3) := by decide +kernel
theorem dX12_word_96 : decode cX12_word 96 = .ok (.invokevirtual 179, 3) := by decide +kernel
theorem dX12_word_99 : decode cX12_word 99 = .ok (.goto (-52), 3) := by decide +kernel
theorem dX12_word_102 : decode cX12_word 102 = .ok (.aload_n 0, 1) := by decide +kernel
theorem dX12_word_103 : decode cX12_word 103 = .ok (.dup, 1) := by decide +kernel
theorem dX12_word_104 : decode cX12_word 104 = .ok (.getfield 159, 3) := by decide +kernel
theorem dX12_word_107 : decode cX12_word 107 = .ok (.iconst 1, 1) := by decide +kernel
theorem dX12_word_108 : decode cX12_word 108 = .ok (.iadd, 1) := by decide +kernel
theorem dX12_word_109 : decode cX12_word 109 = .ok (.putfield 159, 3) := by decide +kernel
theorem dX12_word_112 : decode cX12_word 112 = .ok (.goto (-65), 3) := by decide +kernel
theorem dX12_word_115 : decode cX12_word 115 = .ok (.aload_n 0, 1) := by decide +kernel
theorem dX12_word_116 : decode cX12_word 116 = .ok (.aload_n 0, 1) := by decide +kernel
theorem dX12_word_117 : decode cX12_word 117 = .ok (.getfield 159, 3) := by decide +kernel
theorem dX12_word_120 : decode cX12_word 120 = .ok (.putfield 162, 3) := by decide +kernel
theorem dX12_word_123 : decode cX12_word 123 = .ok (.iload_n 2, 1) := by decide +kernel
theorem dX12_word_124 : decode cX12_word 124 = .ok (.ireturn, 1) := by decide +kernel
theorem dX12_spreads_0 : decode cX12_spreads 0 = .ok (.iconst 0, 1) := by decide +kernel
theorem dX12_spreads_1 : decode cX12_spreads 1 = .ok (.istore 5, 2) := by decide +kernel
theorem dX12_spreads_3 : decode cX12_spreads 3 = .ok (.iconst 0, 1) := by decide +kernel
theorem dX12_spreads_4 : decode cX12_spreads 4 = .ok (.istore 6, 2) := by decide +kernel
theorem dX12_spreads_6 : decode cX12_spreads 6 = .ok (.iconst 0, 1) := by decide +kernel
theorem dX12_spreads_7 : decode cX12_spreads 7 = .ok (.istore 7, 2) := by decide +kernel
theorem dX12_spreads_9 : decode cX12_spreads 9 = .ok (.iload 7, 2) := by decide +kernel
theorem dX12_spreads_11 : decode cX12_spreads 11 = .ok (.iload_n 2, 1) := by decide +kernel
theorem dX12_spreads_12 : decode cX12_spreads 12 = .ok (.if_icmp .gt 102, 3) := by decide +kernel
theorem dX12_spreads_15 : decode cX12_spreads 15 = .ok (.iload 7, 2) := by decide +kernel
theorem dX12_spreads_17 : decode cX12_spreads 17 = .ok (.iload_n 2, 1) := by decide +kernel
theorem dX12_spreads_18 : decode cX12_spreads 18 = .ok (.if_icmp .ne 7, 3) := by decide +kernel
theorem dX12_spreads_21 : decode cX12_spreads 21 = .ok (.iload_n 3, 1) := by decide +kernel
theorem dX12_spreads_22 : decode cX12_spreads 22 = .ok (.goto 11, 3) := by decide +kernel
theorem dX12_spreads_25 : decode cX12_spreads 25 = .ok (.aload_n 0, 1) := by decide +kernel
theorem dX12_spreads_26 : decode cX12_spreads 26 = .ok (.iload_n 1, 1) := by decide +kernel
theorem dX12_spreads_27 : decode cX12_spreads 27 = .ok (.iload 7, 2) := by decide +kernel
theorem dX12_spreads_29 : decode cX12_spreads 29 = .ok (.iadd, 1) := by decide +kernel
theorem dX12_spreads_30 : decode cX12_spreads 30 = .ok (.iaload, 1) := by decide +kernel
theorem dX12_spreads_31 : decode cX12_spreads 31 = .ok (.iconst 5, 1) := by decide +kernel
theorem dX12_spreads_32 : decode cX12_spreads 32 = .ok (.ishr, 1) := by decide +kernel
theorem dX12_spreads_33 : decode cX12_spreads 33 = .ok (.istore 8, 2) := by decide +kernel
theorem dX12_spreads_35 : decode cX12_spreads 35 = .ok (.iload 6, 2) := by decide +kernel
theorem dX12_spreads_37 : decode cX12_spreads 37 = .ok (.iload 8, 2) := by decide +kernel
theorem dX12_spreads_39 : decode cX12_spreads 39 = .ok (.if_icmp .ge 18, 3) := by decide +kernel
theorem dX12_spreads_42 : decode cX12_spreads 42 = .ok (.aload 4, 2) := by decide +kernel
theorem dX12_spreads_44 : decode cX12_spreads 44 = .ok (.iload 5, 2) := by decide +kernel
theorem dX12_spreads_46 : decode cX12_spreads 46 = .ok (.iconst 0, 1) := by decide +kernel
theorem dX12_spreads_47 : decode cX12_spreads 47 = .ok (.iastore, 1) := by decide +kernel
theorem dX12_spreads_48 : decode cX12_spreads 48 = .ok (.iinc 5 1, 3) := by decide +kernel
theorem dX12_spreads_51 : decode cX12_spreads 51 = .ok (.iinc 6 1, 3) := by decide +kernel
theorem dX12_spreads_54 : decode cX12_spreads 54 = .ok (.goto (-19), 3) := by decide +kernel
theorem dX12_spreads_57 : decode cX12_spreads 57 = .ok (.iload 7, 2) := by decide +kernel
theorem dX12_spreads_59 : decode cX12_spreads 59 = .ok (.iload_n 2, 1) := by decide +kernel
theorem dX12_spreads_60 : decode cX12_spreads 60 = .ok (.if_icmp .ne 6, 3) := by decide +kernel
theorem dX12_spreads_63 : decode cX12_spreads 63 = .ok (.iload 5, 2) := by decide +kernel
theorem dX12_spreads_65 : decode cX12_spreads 65 = .ok (.ireturn, 1) := by decide +kernel
theorem dX12_spreads_66 : decode cX12_spreads 66 = .ok (.aload_n 0, 1) := by decide +kernel
theorem dX12_spreads_67 : decode cX12_spreads 67 = .ok (.iload_n 1, 1) := by decide +kernel
theorem dX12_spreads_68 : decode cX12_spreads 68 = .ok (.iload 7, 2) := by decide +kernel
theorem dX12_spreads_70 : decode cX12_spreads 70 = .ok (.iadd, 1) := by decide +kernel
theorem dX12_spreads_71 : decode cX12_spreads 71 = .ok (.iaload, 1) := by decide +kernel
theorem dX12_spreads_72 : decode cX12_spreads 72 = .ok (.bipush 31, 2) := by decide +kernel
theorem dX12_spreads_74 : decode cX12_spreads 74 = .ok (.iand, 1) := by decide +kernel
theorem dX12_spreads_75 : decode cX12_spreads 75 = .ok (.istore 9, 2) := by decide +kernel
theorem dX12_spreads_77 : decode cX12_spreads 77 = .ok (.aload 4, 2) := by decide +kernel
theorem dX12_spreads_79 : decode cX12_spreads 79 = .ok (.iload 5, 2) := by decide +kernel
theorem dX12_spreads_81 : decode cX12_spreads 81 = .ok (.iload 9, 2) := by decide +kernel
theorem dX12_spreads_83 : decode cX12_spreads 83 = .ok (.bipush 27, 2) := by decide +kernel
theorem dX12_spreads_85 : decode cX12_spreads 85 = .ok (.if_icmp .ne 7, 3) := by decide +kernel
theorem dX12_spreads_88 : decode cX12_spreads 88 = .ok (.iconst (-1), 1) := by decide +kernel
theorem dX12_spreads_89 : decode cX12_spreads 89 = .ok (.goto 5, 3) := by decide +kernel
theorem dX12_spreads_92 : decode cX12_spreads 92 = .ok (.iload 9, 2) := by decide +kernel
theorem dX12_spreads_94 : decode cX12_spreads 94 = .ok (.iastore, 1) := by decide +kernel
theorem dX12_spreads_95 : decode cX12_spreads 95 = .ok (.iinc 5 1, 3) := by decide +kernel
theorem dX12_spreads_98 : decode cX12_spreads 98 = .ok (.iload 9, 2) := by decide +kernel
theorem dX12_spreads_100 : decode cX12_spreads 100 = .ok (.bipush 27, 2) := by decide +kernel
theorem dX12_spreads_102 : decode cX12_spreads 102 = .ok (.if_icmp .ne 6, 3) := by decide +kernel
theorem dX12_spreads_105 : decode cX12_spreads 105 = .ok (.iinc 6 1, 3) := by decide +kernel
theorem dX12_spreads_108 : decode cX12_spreads 108 = .ok (.iinc 7 1, 3) := by decide +kernel
theorem dX12_spreads_111 : decode cX12_spreads 111 = .ok (.goto (-102), 3) := by decide +kernel
theorem dX12_spreads_114 : decode cX12_spreads 114 = .ok (.iload 5, 2) := by decide +kernel
theorem dX12_spreads_116 : decode cX12_spreads 116 = .ok (.ireturn, 1) := by decide +kernel
theorem dX12_gathers_0 : decode cX12_gathers 0 = .ok (.iconst 0, 1) := by decide +kernel
theorem dX12_gathers_1 : decode cX12_gathers 1 = .ok (.istore 4, 2) := by decide +kernel
theorem dX12_gathers_3 : decode cX12_gathers 3 = .ok (.iconst 0, 1) := by decide +kernel
theorem dX12_gathers_4 : decode cX12_gathers 4 = .ok (.istore 5, 2) := by decide +kernel
theorem dX12_gathers_6 : decode cX12_gathers 6 = .ok (.iconst 0, 1) := by decide +kernel
theorem dX12_gathers_7 : decode cX12_gathers 7 = .ok (.istore 6, 2) := by decide +kernel
theorem dX12_gathers_9 : decode cX12_gathers 9 = .ok (.iload 6, 2) := by decide +kernel
theorem dX12_gathers_11 : decode cX12_gathers 11 = .ok (.iload_n 1, 1) := by decide +kernel
theorem dX12_gathers_12 : decode cX12_gathers 12 = .ok (.if_icmp .ge 57, 3) := by decide +kernel
theorem dX12_gathers_15 : decode cX12_gathers 15 = .ok (.aload_n 0, 1) := by decide +kernel
theorem dX12_gathers_16 : decode cX12_gathers 16 = .ok (.iload 6, 2) := by decide +kernel
theorem dX12_gathers_18 : decode cX12_gathers 18 = .ok (.iaload, 1) := by decide +kernel
theorem dX12_gathers_19 : decode cX12_gathers 19 = .ok (.ifCond .eq 34, 3) := by decide +kernel
theorem dX12_gathers_22 : decode cX12_gathers 22 = .ok (.aload_n 2, 1) := by decide +kernel
theorem dX12_gathers_23 : decode cX12_gathers 23 = .ok (.iload_n 3, 1) := by decide +kernel
theorem dX12_gathers_24 : decode cX12_gathers 24 = .ok (.iload 4, 2) := by decide +kernel
theorem dX12_gathers_26 : decode cX12_gathers 26 = .ok (.iadd, 1) := by decide +kernel
theorem dX12_gathers_27 : decode cX12_gathers 27 = .ok (.iload 5, 2) := by decide +kernel
theorem dX12_gathers_29 : decode cX12_gathers 29 = .ok (.iconst 5, 1) := by decide +kernel
theorem dX12_gathers_30 : decode cX12_gathers 30 = .ok (.ishl, 1) := by decide +kernel
theorem dX12_gathers_31 : decode cX12_gathers 31 = .ok (.aload_n 0, 1) := by decide +kernel
theorem dX12_gathers_32 : decode cX12_gathers 32 = .ok (.iload 6, 2) := by decide +kernel
theorem dX12_gathers_34 : decode cX12_gathers 34 = .ok (.iaload, 1) := by decide +kernel
theorem dX12_gathers_35 : decode cX12_gathers 35 = .ok (.iconst (-1), 1) := by decide +kernel
theorem dX12_gathers_36 : decode cX12_gathers 36 = .ok (.if_icmp .ne 8, 3) := by decide +kernel
theorem dX12_gathers_39 : decode cX12_gathers 39 = .ok (.bipush 27, 2) := by decide +kernel
theorem dX12_gathers_41 : decode cX12_gathers 41 = .ok (.goto 7, 3) := by decide +kernel
theorem dX12_gathers_44 : decode cX12_gathers 44 = .ok (.aload_n 0, 1) := by decide +kernel
theorem dX12_gathers_45 : decode cX12_gathers 45 = .ok (.iload 6, 2) := by decide +kernel
theorem dX12_gathers_47 : decode cX12_gathers 47 = .ok (.iaload, 1) := by decide +kernel
theorem dX12_gathers_48 : decode cX12_gathers 48 = .ok (.ior, 1) := by decide +kernel
theorem dX12_gathers_49 : decode cX12_gathers 49 = .ok (.iastore, 1) := by decide +kernel
theorem dX12_gathers_50 : decode cX12_gathers 50 = .ok (.iinc 4 1, 3) := by decide +kernel
theorem dX12_gathers_53 : decode cX12_gathers 53 = .ok (.aload_n 0, 1) := by decide +kernel
theorem dX12_gathers_54 : decode cX12_gathers 54 = .ok (.iload 6, 2) := by decide +kernel
theorem dX12_gathers_56 : decode cX12_gathers 56 = .ok (.iaload, 1) := by decide +kernel
theorem dX12_gathers_57 : decode cX12_gathers 57 = .ok (.ifCond .gt 6, 3) := by decide +kernel
theorem dX12_gathers_60 : decode cX12_gathers 60 = .ok (.iinc 5 1, 3) := by decide +kernel
theorem dX12_gathers_63 : decode cX12_gathers 63 = .ok (.iinc 6 1, 3) := by decide +kernel
theorem dX12_gathers_66 : decode cX12_gathers 66 = .ok (.goto (-57), 3) := by decide +kernel
theorem dX12_gathers_69 : decode cX12_gathers 69 = .ok (.iload 4, 2) := by decide +kernel
theorem dX12_gathers_71 : decode cX12_gathers 71 = .ok (.ireturn, 1) := by decide +kernel
theorem dX12_settles_0 : decode cX12_settles 0 = .ok (.iconst 0, 1) := by decide +kernel
theorem dX12_settles_1 : decode cX12_settles 1 = .ok (.istore_n 3, 1) := by decide +kernel
theorem dX12_settles_2 : decode cX12_settles 2 = .ok (.iload_n 3, 1) := by decide +kernel
theorem dX12_settles_3 : decode cX12_settles 3 = .ok (.iload_n 2, 1) := by decide +kernel
theorem dX12_settles_4 : decode cX12_settles 4 = .ok (.if_icmp .ge 122, 3) := by decide +kernel
theorem dX12_settles_7 : decode cX12_settles 7 = .ok (.iload_n 3, 1) := by decide +kernel
theorem dX12_settles_8 : decode cX12_settles 8 = .ok (.istore 4, 2) := by decide +kernel
theorem dX12_settles_10 : decode cX12_settles 10 = .ok (.iload 4, 2) := by decide +kernel
theorem dX12_settles_12 : decode cX12_settles 12 = .ok (.iload_n 2, 1) := by decide +kernel
theorem dX12_settles_13 : decode cX12_settles 13 = .ok (.if_icmp .ge 16, 3) := by decide +kernel
theorem dX12_settles_16 : decode cX12_settles 16 = .ok (.aload_n 1, 1) := by decide +kernel
theorem dX12_settles_17 : decode cX12_settles 17 = .ok (.iload 4, 2) := by decide +kernel
theorem dX12_settles_19 : decode cX12_settles 19 = .ok (.iaload, 1) := by decide +kernel
theorem dX12_settles_20 : decode cX12_settles 20 = .ok (.ifCond .eq 9, 3) := by decide +kernel
theorem dX12_settles_23 : decode cX12_settles 23 = .ok (.iinc 4 1, 3) := by decide +kernel
theorem dX12_settles_26 : decode cX12_settles 26 = .ok (.goto (-16), 3) := by decide +kernel
theorem dX12_settles_29 : decode cX12_settles 29 = .ok (.iload_n 3, 1) := by decide +kernel
theorem dX12_settles_30 : decode cX12_settles 30 = .ok (.istore 5, 2) := by decide +kernel
theorem dX12_settles_32 : decode cX12_settles 32 = .ok (.iload_n 3, 1) := by decide +kernel
theorem dX12_settles_33 : decode cX12_settles 33 = .ok (.istore 6, 2) := by decide +kernel
theorem dX12_settles_35 : decode cX12_settles 35 = .ok (.iload 6, 2) := by decide +kernel
theorem dX12_settles_37 : decode cX12_settles 37 = .ok (.iload 4, 2) := by decide +kernel
theorem dX12_settles_39 : decode cX12_settles 39 = .ok (.if_icmp .ge 31, 3) := by decide +kernel
theorem dX12_settles_42 : decode cX12_settles 42 = .ok (.aload_n 1, 1) := by decide +kernel
theorem dX12_settles_43 : decode cX12_settles 43 = .ok (.iload 6, 2) := by decide +kernel
theorem dX12_settles_45 : decode cX12_settles 45 = .ok (.iaload, 1) := by decide +kernel
theorem dX12_settles_46 : decode cX12_settles 46 = .ok (.iconst (-1), 1) := by decide +kernel
theorem dX12_settles_47 : decode cX12_settles 47 = .ok (.if_icmp .eq 17, 3) := by decide +kernel
theorem dX12_settles_50 : decode cX12_settles 50 = .ok (.aload_n 0, 1) := by decide +kernel
theorem dX12_settles_51 : decode cX12_settles 51 = .ok (.getfield 63, 3) := by decide +kernel
theorem dX12_settles_54 : decode cX12_settles 54 = .ok (.iload 5, 2) := by decide +kernel
theorem dX12_settles_56 : decode cX12_settles 56 = .ok (.aload_n 1, 1) := by decide +kernel
theorem dX12_settles_57 : decode cX12_settles 57 = .ok (.iload 6, 2) := by decide +kernel
theorem dX12_settles_59 : decode cX12_settles 59 = .ok (.iaload, 1) := by decide +kernel
theorem dX12_settles_60 : decode cX12_settles 60 = .ok (.iastore, 1) := by decide +kernel
theorem dX12_settles_61 : decode cX12_settles 61 = .ok (.iinc 5 1, 3) := by decide +kernel
theorem dX12_settles_64 : decode cX12_settles 64 = .ok (.iinc 6 1, 3) := by decide +kernel
theorem dX12_settles_67 : decode cX12_settles 67 = .ok (.goto (-32), 3) := by decide +kernel
theorem dX12_settles_70 : decode cX12_settles 70 = .ok (.iload 5, 2) := by decide +kernel
theorem dX12_settles_72 : decode cX12_settles 72 = .ok (.iload 4, 2) := by decide +kernel
theorem dX12_settles_74 : decode cX12_settles 74 = .ok (.if_icmp .ge 17, 3) := by decide +kernel
theorem dX12_settles_77 : decode cX12_settles 77 = .ok (.aload_n 0, 1) := by decide +kernel
theorem dX12_settles_78 : decode cX12_settles 78 = .ok (.getfield 63, 3) := by decide +kernel
theorem dX12_settles_81 : decode cX12_settles 81 = .ok (.iload 5, 2) := by decide +kernel
theorem dX12_settles_83 : decode cX12_settles 83 = .ok (.iconst (-1), 1) := by decide +kernel
theorem dX12_settles_84 : decode cX12_settles 84 = .ok (.iastore, 1) := by decide +kernel
theorem dX12_settles_85 : decode cX12_settles 85 = .ok (.iinc 5 1, 3) := by decide +kernel
theorem dX12_settles_88 : decode cX12_settles 88 = .ok (.goto (-18), 3) := by decide +kernel
theorem dX12_settles_91 : decode cX12_settles 91 = .ok (.iload_n 3, 1) := by decide +kernel
theorem dX12_settles_92 : decode cX12_settles 92 = .ok (.istore 6, 2) := by decide +kernel
theorem dX12_settles_94 : decode cX12_settles 94 = .ok (.iload 6, 2) := by decide +kernel
theorem dX12_settles_96 : decode cX12_settles 96 = .ok (.iload 4, 2) := by decide +kernel
theorem dX12_settles_98 : decode cX12_settles 98 = .ok (.if_icmp .ge 20, 3) := by decide +kernel
theorem dX12_settles_101 : decode cX12_settles 101 = .ok (.aload_n 1, 1) := by decide +kernel
theorem dX12_settles_102 : decode cX12_settles 102 = .ok (.iload 6, 2) := by decide +kernel
theorem dX12_settles_104 : decode cX12_settles 104 = .ok (.aload_n 0, 1) := by decide +kernel
theorem dX12_settles_105 : decode cX12_settles 105 = .ok (.getfield 63, 3) := by decide +kernel
theorem dX12_settles_108 : decode cX12_settles 108 = .ok (.iload 6, 2) := by decide +kernel
theorem dX12_settles_110 : decode cX12_settles 110 = .ok (.iaload, 1) := by decide +kernel
theorem dX12_settles_111 : decode cX12_settles 111 = .ok (.iastore, 1) := by decide +kernel
theorem dX12_settles_112 : decode cX12_settles 112 = .ok (.iinc 6 1, 3) := by decide +kernel
theorem dX12_settles_115 : decode cX12_settles 115 = .ok (.goto (-21), 3) := by decide +kernel
theorem dX12_settles_118 : decode cX12_settles 118 = .ok (.iload 4, 2) := by decide +kernel
theorem dX12_settles_120 : decode cX12_settles 120 = .ok (.iconst 1, 1) := by decide +kernel
theorem dX12_settles_121 : decode cX12_settles 121 = .ok (.iadd, 1) := by decide +kernel
theorem dX12_settles_122 : decode cX12_settles 122 = .ok (.istore_n 3, 1) := by decide +kernel
theorem dX12_settles_123 : decode cX12_settles 123 = .ok (.goto (-121), 3) := by decide +kernel
theorem dX12_settles_126 : decode cX12_settles 126 = .ok (.return_, 1) := by decide +kernel
theorem dX12_oldOf_0 : decode cX12_oldOf 0 = .ok (.iconst 0, 1) := by decide +kernel
theorem dX12_oldOf_1 : decode cX12_oldOf 1 = .ok (.istore_n 2, 1) := by decide +kernel
theorem dX12_oldOf_2 : decode cX12_oldOf 2 = .ok (.iconst 0, 1) := by decide +kernel
theorem dX12_oldOf_3 : decode cX12_oldOf 3 = .ok (.istore_n 3, 1) := by decide +kernel
theorem dX12_oldOf_4 : decode cX12_oldOf 4 = .ok (.iload_n 3, 1) := by decide +kernel
theorem dX12_oldOf_5 : decode cX12_oldOf 5 = .ok (.iload_n 1, 1) := by decide +kernel
theorem dX12_oldOf_6 : decode cX12_oldOf 6 = .ok (.if_icmp .ge 18, 3) := by decide +kernel
theorem dX12_oldOf_9 : decode cX12_oldOf 9 = .ok (.aload_n 0, 1) := by decide +kernel
theorem dX12_oldOf_10 : decode cX12_oldOf 10 = .ok (.iload_n 3, 1) := by decide +kernel
theorem dX12_oldOf_11 : decode cX12_oldOf 11 = .ok (.iaload, 1) := by decide +kernel
theorem dX12_oldOf_12 : decode cX12_oldOf 12 = .ok (.ifCond .gt 6, 3) := by decide +kernel
theorem dX12_oldOf_15 : decode cX12_oldOf 15 = .ok (.iinc 2 1, 3) := by decide +kernel
theorem dX12_oldOf_18 : decode cX12_oldOf 18 = .ok (.iinc 3 1, 3) := by decide +kernel
theorem dX12_oldOf_21 : decode cX12_oldOf 21 = .ok (.goto (-17), 3) := by decide +kernel
theorem dX12_oldOf_24 : decode cX12_oldOf 24 = .ok (.iload_n 2, 1) := by decide +kernel
theorem dX12_oldOf_25 : decode cX12_oldOf 25 = .ok (.ireturn, 1) := by decide +kernel
theorem dX12_putsOf_0 : decode cX12_putsOf 0 = .ok (.iconst 0, 1) := by decide +kernel
theorem dX12_putsOf_1 : decode cX12_putsOf 1 = .ok (.istore_n 2, 1) := by decide +kernel
theorem dX12_putsOf_2 : decode cX12_putsOf 2 = .ok (.iconst 0, 1) := by decide +kernel
theorem dX12_putsOf_3 : decode cX12_putsOf 3 = .ok (.istore_n 3, 1) := by decide +kernel
theorem dX12_putsOf_4 : decode cX12_putsOf 4 = .ok (.iload_n 3, 1) := by decide +kernel
theorem dX12_putsOf_5 : decode cX12_putsOf 5 = .ok (.iload_n 1, 1) := by decide +kernel
theorem dX12_putsOf_6 : decode cX12_putsOf 6 = .ok (.if_icmp .ge 18, 3) := by decide +kernel
theorem dX12_putsOf_9 : decode cX12_putsOf 9 = .ok (.aload_n 0, 1) := by decide +kernel
theorem dX12_putsOf_10 : decode cX12_putsOf 10 = .ok (.iload_n 3, 1) := by decide +kernel
theorem dX12_putsOf_11 : decode cX12_putsOf 11 = .ok (.iaload, 1) := by decide +kernel
theorem dX12_putsOf_12 : decode cX12_putsOf 12 = .ok (.ifCond .le 6, 3) := by decide +kernel
theorem dX12_putsOf_15 : decode cX12_putsOf 15 = .ok (.iinc 2 1, 3) := by decide +kernel
theorem dX12_putsOf_18 : decode cX12_putsOf 18 = .ok (.iinc 3 1, 3) := by decide +kernel
theorem dX12_putsOf_21 : decode cX12_putsOf 21 = .ok (.goto (-17), 3) := by decide +kernel
theorem dX12_putsOf_24 : decode cX12_putsOf 24 = .ok (.iload_n 2, 1) := by decide +kernel
theorem dX12_putsOf_25 : decode cX12_putsOf 25 = .ok (.ireturn, 1) := by decide +kernel
theorem dX12_isIdle_0 : decode cX12_isIdle 0 = .ok (.iconst 0, 1) := by decide +kernel
theorem dX12_isIdle_1 : decode cX12_isIdle 1 = .ok (.istore_n 2, 1) := by decide +kernel
theorem dX12_isIdle_2 : decode cX12_isIdle 2 = .ok (.iload_n 2, 1) := by decide +kernel
theorem dX12_isIdle_3 : decode cX12_isIdle 3 = .ok (.iload_n 1, 1) := by decide +kernel
theorem dX12_isIdle_4 : decode cX12_isIdle 4 = .ok (.if_icmp .ge 17, 3) := by decide +kernel
theorem dX12_isIdle_7 : decode cX12_isIdle 7 = .ok (.aload_n 0, 1) := by decide +kernel
theorem dX12_isIdle_8 : decode cX12_isIdle 8 = .ok (.iload_n 2, 1) := by decide +kernel
theorem dX12_isIdle_9 : decode cX12_isIdle 9 = .ok (.iaload, 1) := by decide +kernel
theorem dX12_isIdle_10 : decode cX12_isIdle 10 = .ok (.ifCond .eq 5, 3) := by decide +kernel
theorem dX12_isIdle_13 : decode cX12_isIdle 13 = .ok (.iconst 0, 1) := by decide +kernel
theorem dX12_isIdle_14 : decode cX12_isIdle 14 = .ok (.ireturn, 1) := by decide +kernel
theorem dX12_isIdle_15 : decode cX12_isIdle 15 = .ok (.iinc 2 1, 3) := by decide +kernel
theorem dX12_isIdle_18 : decode cX12_isIdle 18 = .ok (.goto (-16), 3) := by decide +kernel
theorem dX12_isIdle_21 : decode cX12_isIdle 21 = .ok (.iconst 1, 1) := by decide +kernel
theorem dX12_isIdle_22 : decode cX12_isIdle 22 = .ok (.ireturn, 1) := by decide +kernel
theorem dX12_givesC_0 : decode cX12_givesC 0 = .ok (.aload_n 0, 1) := by decide +kernel
theorem dX12_givesC_1 : decode cX12_givesC 1 = .ok (.getfield 57, 3) := by decide +kernel
theorem dX12_givesC_4 : decode cX12_givesC 4 = .ok (.aload_n 0, 1) := by decide +kernel
theorem dX12_givesC_5 : decode cX12_givesC 5 = .ok (.getfield 189, 3) := by decide +kernel
theorem dX12_givesC_8 : decode cX12_givesC 8 = .ok (.iload_n 1, 1) := by decide +kernel
theorem dX12_givesC_9 : decode cX12_givesC 9 = .ok (.iastore, 1) := by decide +kernel
theorem dX12_givesC_10 : decode cX12_givesC 10 = .ok (.aload_n 0, 1) := by decide +kernel
theorem dX12_givesC_11 : decode cX12_givesC 11 = .ok (.dup, 1) := by decide +kernel
theorem dX12_givesC_12 : decode cX12_givesC 12 = .ok (.getfield 189, 3) := by decide +kernel
theorem dX12_givesC_15 : decode cX12_givesC 15 = .ok (.iconst 1, 1) := by decide +kernel
theorem dX12_givesC_16 : decode cX12_givesC 16 = .ok (.iadd, 1) := by decide +kernel
theorem dX12_givesC_17 : decode cX12_givesC 17 = .ok (.putfield 189, 3) := by decide +kernel
theorem dX12_givesC_20 : decode cX12_givesC 20 = .ok (.return_, 1) := by decide +kernel
theorem dX12_givesD_0 : decode cX12_givesD 0 = .ok (.aload_n 0, 1) := by decide +kernel
theorem dX12_givesD_1 : decode cX12_givesD 1 = .ok (.getfield 60, 3) := by decide +kernel
theorem dX12_givesD_4 : decode cX12_givesD 4 = .ok (.aload_n 0, 1) := by decide +kernel
theorem dX12_givesD_5 : decode cX12_givesD 5 = .ok (.getfield 192, 3) := by decide +kernel
theorem dX12_givesD_8 : decode cX12_givesD 8 = .ok (.iload_n 1, 1) := by decide +kernel
theorem dX12_givesD_9 : decode cX12_givesD 9 = .ok (.iastore, 1) := by decide +kernel
theorem dX12_givesD_10 : decode cX12_givesD 10 = .ok (.aload_n 0, 1) := by decide +kernel
theorem dX12_givesD_11 : decode cX12_givesD 11 = .ok (.dup, 1) := by decide +kernel
theorem dX12_givesD_12 : decode cX12_givesD 12 = .ok (.getfield 192, 3) := by decide +kernel
theorem dX12_givesD_15 : decode cX12_givesD 15 = .ok (.iconst 1, 1) := by decide +kernel
theorem dX12_givesD_16 : decode cX12_givesD 16 = .ok (.iadd, 1) := by decide +kernel
theorem dX12_givesD_17 : decode cX12_givesD 17 = .ok (.putfield 192, 3) := by decide +kernel
theorem dX12_givesD_20 : decode cX12_givesD 20 = .ok (.return_, 1) := by decide +kernel
theorem dX12_turns_0 : decode cX12_turns 0 = .ok (.iconst 0, 1) := by decide +kernel
theorem dX12_turns_1 : decode cX12_turns 1 = .ok (.istore_n 2, 1) := by decide +kernel
theorem dX12_turns_2 : decode cX12_turns 2 = .ok (.iconst 0, 1) := by decide +kernel
theorem dX12_turns_3 : decode cX12_turns 3 = .ok (.istore_n 3, 1) := by decide +kernel
theorem dX12_turns_4 : decode cX12_turns 4 = .ok (.aload_n 0, 1) := by decide +kernel
theorem dX12_turns_5 : decode cX12_turns 5 = .ok (.iconst 0, 1) := by decide +kernel
theorem dX12_turns_6 : decode cX12_turns 6 = .ok (.putfield 189, 3) := by decide +kernel
theorem dX12_turns_9 : decode cX12_turns 9 = .ok (.aload_n 0, 1) := by decide +kernel
theorem dX12_turns_10 : decode cX12_turns 10 = .ok (.iconst 0, 1) := by decide +kernel
theorem dX12_turns_11 : decode cX12_turns 11 = .ok (.putfield 192, 3) := by decide +kernel
theorem dX12_turns_14 : decode cX12_turns 14 = .ok (.iload_n 2, 1) := by decide +kernel
theorem dX12_turns_15 : decode cX12_turns 15 = .ok (.aload_n 0, 1) := by decide +kernel
theorem dX12_turns_16 : decode cX12_turns 16 = .ok (.getfield 195, 3) := by decide +kernel
theorem dX12_turns_19 : decode cX12_turns 19 = .ok (.if_icmp .lt 11, 3) := by decide +kernel
theorem dX12_turns_22 : decode cX12_turns 22 = .ok (.iload_n 3, 1) := by decide +kernel
theorem dX12_turns_23 : decode cX12_turns 23 = .ok (.aload_n 0, 1) := by decide +kernel
theorem dX12_turns_24 : decode cX12_turns 24 = .ok (.getfield 198, 3) := by decide +kernel
theorem dX12_turns_27 : decode cX12_turns 27 = .ok (.if_icmp .ge 159, 3) := by decide +kernel
theorem dX12_turns_30 : decode cX12_turns 30 = .ok (.iload_n 2, 1) := by decide +kernel
theorem dX12_turns_31 : decode cX12_turns 31 = .ok (.aload_n 0, 1) := by decide +kernel
theorem dX12_turns_32 : decode cX12_turns 32 = .ok (.getfield 195, 3) := by decide +kernel
theorem dX12_turns_35 : decode cX12_turns 35 = .ok (.if_icmp .ge 16, 3) := by decide +kernel
theorem dX12_turns_38 : decode cX12_turns 38 = .ok (.aload_n 0, 1) := by decide +kernel
theorem dX12_turns_39 : decode cX12_turns 39 = .ok (.getfield 51, 3) := by decide +kernel
theorem dX12_turns_42 : decode cX12_turns 42 = .ok (.iload_n 2, 1) := by decide +kernel
theorem dX12_turns_43 : decode cX12_turns 43 = .ok (.iaload, 1) := by decide +kernel
theorem dX12_turns_44 : decode cX12_turns 44 = .ok (.ifCond .le 7, 3) := by decide +kernel
theorem dX12_turns_47 : decode cX12_turns 47 = .ok (.iconst 1, 1) := by decide +kernel
theorem dX12_turns_48 : decode cX12_turns 48 = .ok (.goto 4, 3) := by decide +kernel
theorem dX12_turns_51 : decode cX12_turns 51 = .ok (.iconst 0, 1) := by decide +kernel
theorem dX12_turns_52 : decode cX12_turns 52 = .ok (.istore 4, 2) := by decide +kernel
theorem dX12_turns_54 : decode cX12_turns 54 = .ok (.iload_n 3, 1) := by decide +kernel
theorem dX12_turns_55 : decode cX12_turns 55 = .ok (.aload_n 0, 1) := by decide +kernel
theorem dX12_turns_56 : decode cX12_turns 56 = .ok (.getfield 198, 3) := by decide +kernel
theorem dX12_turns_59 : decode cX12_turns 59 = .ok (.if_icmp .ge 16, 3) := by decide +kernel
theorem dX12_turns_62 : decode cX12_turns 62 = .ok (.aload_n 0, 1) := by decide +kernel
theorem dX12_turns_63 : decode cX12_turns 63 = .ok (.getfield 54, 3) := by decide +kernel
theorem dX12_turns_66 : decode cX12_turns 66 = .ok (.iload_n 3, 1) := by decide +kernel
theorem dX12_turns_67 : decode cX12_turns 67 = .ok (.iaload, 1) := by decide +kernel
theorem dX12_turns_68 : decode cX12_turns 68 = .ok (.ifCond .le 7, 3) := by decide +kernel
theorem dX12_turns_71 : decode cX12_turns 71 = .ok (.iconst 1, 1) := by decide +kernel
theorem dX12_turns_72 : decode cX12_turns 72 = .ok (.goto 4, 3) := by decide +kernel
theorem dX12_turns_75 : decode cX12_turns 75 = .ok (.iconst 0, 1) := by decide +kernel
theorem dX12_turns_76 : decode cX12_turns 76 = .ok (.istore 5, 2) := by decide +kernel
theorem dX12_turns_78 : decode cX12_turns 78 = .ok (.iload 4, 2) := by decide +kernel
theorem dX12_turns_80 : decode cX12_turns 80 = .ok (.ifCond .eq 33, 3) := by decide +kernel
theorem dX12_turns_83 : decode cX12_turns 83 = .ok (.iload_n 1, 1) := by decide +kernel
theorem dX12_turns_84 : decode cX12_turns 84 = .ok (.ifCond .ne 8, 3) := by decide +kernel
theorem dX12_turns_87 : decode cX12_turns 87 = .ok (.iload 5, 2) := by decide +kernel
theorem dX12_turns_89 : decode cX12_turns 89 = .ok (.ifCond .ne 24, 3) := by decide +kernel
theorem dX12_turns_92 : decode cX12_turns 92 = .ok (.aload_n 0, 1) := by decide +kernel
theorem dX12_turns_93 : decode cX12_turns 93 = .ok (.aload_n 0, 1) := by decide +kernel
theorem dX12_turns_94 : decode cX12_turns 94 = .ok (.getfield 51, 3) := by decide +kernel
theorem dX12_turns_97 : decode cX12_turns 97 = .ok (.iload_n 2, 1) := by decide +kernel
theorem dX12_turns_98 : decode cX12_turns 98 = .ok (.iaload, 1) := by decide +kernel
theorem dX12_turns_99 : decode cX12_turns 99 = .ok (.invokevirtual 201, 3) := by decide +kernel
theorem dX12_turns_102 : decode cX12_turns 102 = .ok (.aload_n 0, 1) := by decide +kernel
theorem dX12_turns_103 : decode cX12_turns 103 = .ok (.iconst 0, 1) := by decide +kernel
theorem dX12_turns_104 : decode cX12_turns 104 = .ok (.invokevirtual 204, 3) := by decide +kernel
theorem dX12_turns_107 : decode cX12_turns 107 = .ok (.iinc 2 1, 3) := by decide +kernel
theorem dX12_turns_110 : decode cX12_turns 110 = .ok (.goto 73, 3) := by decide +kernel
theorem dX12_turns_113 : decode cX12_turns 113 = .ok (.iload 5, 2) := by decide +kernel
theorem dX12_turns_115 : decode cX12_turns 115 = .ok (.ifCond .eq 24, 3) := by decide +kernel
theorem dX12_turns_118 : decode cX12_turns 118 = .ok (.aload_n 0, 1) := by decide +kernel
theorem dX12_turns_119 : decode cX12_turns 119 = .ok (.iconst 0, 1) := by decide +kernel
theorem dX12_turns_120 : decode cX12_turns 120 = .ok (.invokevirtual 201, 3) := by decide +kernel
theorem dX12_turns_123 : decode cX12_turns 123 = .ok (.aload_n 0, 1) := by decide +kernel
theorem dX12_turns_124 : decode cX12_turns 124 = .ok (.aload_n 0, 1) := by decide +kernel
theorem dX12_turns_125 : decode cX12_turns 125 = .ok (.getfield 54, 3) := by decide +kernel
theorem dX12_turns_128 : decode cX12_turns 128 = .ok (.iload_n 3, 1) := by decide +kernel
theorem dX12_turns_129 : decode cX12_turns 129 = .ok (.iaload, 1) := by decide +kernel
theorem dX12_turns_130 : decode cX12_turns 130 = .ok (.invokevirtual 204, 3) := by decide +kernel
theorem dX12_turns_133 : decode cX12_turns 133 = .ok (.iinc 3 1, 3) := by decide +kernel
theorem dX12_turns_136 : decode cX12_turns 136 = .ok (.goto 47, 3) := by decide +kernel
theorem dX12_turns_139 : decode cX12_turns 139 = .ok (.aload_n 0, 1) := by decide +kernel
theorem dX12_turns_140 : decode cX12_turns 140 = .ok (.getfield 54, 3) := by decide +kernel
theorem dX12_turns_143 : decode cX12_turns 143 = .ok (.iload_n 3, 1) := by decide +kernel
theorem dX12_turns_144 : decode cX12_turns 144 = .ok (.iaload, 1) := by decide +kernel
theorem dX12_turns_145 : decode cX12_turns 145 = .ok (.ifCond .ne 13, 3) := by decide +kernel
theorem dX12_turns_148 : decode cX12_turns 148 = .ok (.aload_n 0, 1) := by decide +kernel
theorem dX12_turns_149 : decode cX12_turns 149 = .ok (.aload_n 0, 1) := by decide +kernel
theorem dX12_turns_150 : decode cX12_turns 150 = .ok (.getfield 51, 3) := by decide +kernel
theorem dX12_turns_153 : decode cX12_turns 153 = .ok (.iload_n 2, 1) := by decide +kernel
theorem dX12_turns_154 : decode cX12_turns 154 = .ok (.iaload, 1) := by decide +kernel
theorem dX12_turns_155 : decode cX12_turns 155 = .ok (.invokevirtual 201, 3) := by decide +kernel
theorem dX12_turns_158 : decode cX12_turns 158 = .ok (.aload_n 0, 1) := by decide +kernel
theorem dX12_turns_159 : decode cX12_turns 159 = .ok (.getfield 51, 3) := by decide +kernel
theorem dX12_turns_162 : decode cX12_turns 162 = .ok (.iload_n 2, 1) := by decide +kernel
theorem dX12_turns_163 : decode cX12_turns 163 = .ok (.iaload, 1) := by decide +kernel
theorem dX12_turns_164 : decode cX12_turns 164 = .ok (.ifCond .ne 13, 3) := by decide +kernel
theorem dX12_turns_167 : decode cX12_turns 167 = .ok (.aload_n 0, 1) := by decide +kernel
theorem dX12_turns_168 : decode cX12_turns 168 = .ok (.aload_n 0, 1) := by decide +kernel
theorem dX12_turns_169 : decode cX12_turns 169 = .ok (.getfield 54, 3) := by decide +kernel
theorem dX12_turns_172 : decode cX12_turns 172 = .ok (.iload_n 3, 1) := by decide +kernel
theorem dX12_turns_173 : decode cX12_turns 173 = .ok (.iaload, 1) := by decide +kernel
theorem dX12_turns_174 : decode cX12_turns 174 = .ok (.invokevirtual 204, 3) := by decide +kernel
theorem dX12_turns_177 : decode cX12_turns 177 = .ok (.iinc 2 1, 3) := by decide +kernel
theorem dX12_turns_180 : decode cX12_turns 180 = .ok (.iinc 3 1, 3) := by decide +kernel
theorem dX12_turns_183 : decode cX12_turns 183 = .ok (.goto (-169), 3) := by decide +kernel
theorem dX12_turns_186 : decode cX12_turns 186 = .ok (.aload_n 0, 1) := by decide +kernel
theorem dX12_turns_187 : decode cX12_turns 187 = .ok (.aload_n 0, 1) := by decide +kernel
theorem dX12_turns_188 : decode cX12_turns 188 = .ok (.getfield 57, 3) := by decide +kernel
theorem dX12_turns_191 : decode cX12_turns 191 = .ok (.aload_n 0, 1) := by decide +kernel
theorem dX12_turns_192 : decode cX12_turns 192 = .ok (.getfield 189, 3) := by decide +kernel
theorem dX12_turns_195 : decode cX12_turns 195 = .ok (.invokevirtual 207, 3) := by decide +kernel
theorem dX12_turns_198 : decode cX12_turns 198 = .ok (.aload_n 0, 1) := by decide +kernel
theorem dX12_turns_199 : decode cX12_turns 199 = .ok (.aload_n 0, 1) := by decide +kernel
theorem dX12_turns_200 : decode cX12_turns 200 = .ok (.getfield 60, 3) := by decide +kernel
theorem dX12_turns_203 : decode cX12_turns 203 = .ok (.aload_n 0, 1) := by decide +kernel
theorem dX12_turns_204 : decode cX12_turns 204 = .ok (.getfield 192, 3) := by decide +kernel
theorem dX12_turns_207 : decode cX12_turns 207 = .ok (.invokevirtual 207, 3) := by decide +kernel
theorem dX12_turns_210 : decode cX12_turns 210 = .ok (.return_, 1) := by decide +kernel
theorem dX12_joins_0 : decode cX12_joins 0 = .ok (.iconst 0, 1) := by decide +kernel
theorem dX12_joins_1 : decode cX12_joins 1 = .ok (.istore_n 1, 1) := by decide +kernel
theorem dX12_joins_2 : decode cX12_joins 2 = .ok (.iconst 0, 1) := by decide +kernel
theorem dX12_joins_3 : decode cX12_joins 3 = .ok (.istore_n 2, 1) := by decide +kernel
theorem dX12_joins_4 : decode cX12_joins 4 = .ok (.aload_n 0, 1) := by decide +kernel
theorem dX12_joins_5 : decode cX12_joins 5 = .ok (.iconst 0, 1) := by decide +kernel
theorem dX12_joins_6 : decode cX12_joins 6 = .ok (.putfield 189, 3) := by decide +kernel
theorem dX12_joins_9 : decode cX12_joins 9 = .ok (.iload_n 1, 1) := by decide +kernel
theorem dX12_joins_10 : decode cX12_joins 10 = .ok (.aload_n 0, 1) := by decide +kernel
theorem dX12_joins_11 : decode cX12_joins 11 = .ok (.getfield 195, 3) := by decide +kernel
theorem dX12_joins_14 : decode cX12_joins 14 = .ok (.if_icmp .lt 11, 3) := by decide +kernel
theorem dX12_joins_17 : decode cX12_joins 17 = .ok (.iload_n 2, 1) := by decide +kernel
theorem dX12_joins_18 : decode cX12_joins 18 = .ok (.aload_n 0, 1) := by decide +kernel
theorem dX12_joins_19 : decode cX12_joins 19 = .ok (.getfield 198, 3) := by decide +kernel
theorem dX12_joins_22 : decode cX12_joins 22 = .ok (.if_icmp .ge 110, 3) := by decide +kernel
theorem dX12_joins_25 : decode cX12_joins 25 = .ok (.iload_n 1, 1) := by decide +kernel
theorem dX12_joins_26 : decode cX12_joins 26 = .ok (.aload_n 0, 1) := by decide +kernel
theorem dX12_joins_27 : decode cX12_joins 27 = .ok (.getfield 195, 3) := by decide +kernel
theorem dX12_joins_30 : decode cX12_joins 30 = .ok (.if_icmp .ge 24, 3) := by decide +kernel
theorem dX12_joins_33 : decode cX12_joins 33 = .ok (.aload_n 0, 1) := by decide +kernel
theorem dX12_joins_34 : decode cX12_joins 34 = .ok (.getfield 51, 3) := by decide +kernel
theorem dX12_joins_37 : decode cX12_joins 37 = .ok (.iload_n 1, 1) := by decide +kernel
theorem dX12_joins_38 : decode cX12_joins 38 = .ok (.iaload, 1) := by decide +kernel
theorem dX12_joins_39 : decode cX12_joins 39 = .ok (.iconst (-1), 1) := by decide +kernel
theorem dX12_joins_40 : decode cX12_joins 40 = .ok (.if_icmp .ne 14, 3) := by decide +kernel
theorem dX12_joins_43 : decode cX12_joins 43 = .ok (.aload_n 0, 1) := by decide +kernel
theorem dX12_joins_44 : decode cX12_joins 44 = .ok (.iconst (-1), 1) := by decide +kernel
theorem dX12_joins_45 : decode cX12_joins 45 = .ok (.invokevirtual 201, 3) := by decide +kernel
theorem dX12_joins_48 : decode cX12_joins 48 = .ok (.iinc 1 1, 3) := by decide +kernel
theorem dX12_joins_51 : decode cX12_joins 51 = .ok (.goto (-42), 3) := by decide +kernel
theorem dX12_joins_54 : decode cX12_joins 54 = .ok (.iload_n 2, 1) := by decide +kernel
theorem dX12_joins_55 : decode cX12_joins 55 = .ok (.aload_n 0, 1) := by decide +kernel
theorem dX12_joins_56 : decode cX12_joins 56 = .ok (.getfield 198, 3) := by decide +kernel
theorem dX12_joins_59 : decode cX12_joins 59 = .ok (.if_icmp .ge 28, 3) := by decide +kernel
theorem dX12_joins_62 : decode cX12_joins 62 = .ok (.aload_n 0, 1) := by decide +kernel
theorem dX12_joins_63 : decode cX12_joins 63 = .ok (.getfield 54, 3) := by decide +kernel
theorem dX12_joins_66 : decode cX12_joins 66 = .ok (.iload_n 2, 1) := by decide +kernel
theorem dX12_joins_67 : decode cX12_joins 67 = .ok (.iaload, 1) := by decide +kernel
theorem dX12_joins_68 : decode cX12_joins 68 = .ok (.ifCond .le 19, 3) := by decide +kernel
theorem dX12_joins_71 : decode cX12_joins 71 = .ok (.aload_n 0, 1) := by decide +kernel
theorem dX12_joins_72 : decode cX12_joins 72 = .ok (.aload_n 0, 1) := by decide +kernel
theorem dX12_joins_73 : decode cX12_joins 73 = .ok (.getfield 54, 3) := by decide +kernel
theorem dX12_joins_76 : decode cX12_joins 76 = .ok (.iload_n 2, 1) := by decide +kernel
theorem dX12_joins_77 : decode cX12_joins 77 = .ok (.iaload, 1) := by decide +kernel
theorem dX12_joins_78 : decode cX12_joins 78 = .ok (.invokevirtual 201, 3) := by decide +kernel
theorem dX12_joins_81 : decode cX12_joins 81 = .ok (.iinc 2 1, 3) := by decide +kernel
theorem dX12_joins_84 : decode cX12_joins 84 = .ok (.goto (-75), 3) := by decide +kernel
theorem dX12_joins_87 : decode cX12_joins 87 = .ok (.aload_n 0, 1) := by decide +kernel
theorem dX12_joins_88 : decode cX12_joins 88 = .ok (.getfield 54, 3) := by decide +kernel
theorem dX12_joins_91 : decode cX12_joins 91 = .ok (.iload_n 2, 1) := by decide +kernel
theorem dX12_joins_92 : decode cX12_joins 92 = .ok (.iaload, 1) := by decide +kernel
theorem dX12_joins_93 : decode cX12_joins 93 = .ok (.ifCond .ne 16, 3) := by decide +kernel
theorem dX12_joins_96 : decode cX12_joins 96 = .ok (.aload_n 0, 1) := by decide +kernel
theorem dX12_joins_97 : decode cX12_joins 97 = .ok (.aload_n 0, 1) := by decide +kernel
theorem dX12_joins_98 : decode cX12_joins 98 = .ok (.getfield 51, 3) := by decide +kernel
theorem dX12_joins_101 : decode cX12_joins 101 = .ok (.iload_n 1, 1) := by decide +kernel
theorem dX12_joins_102 : decode cX12_joins 102 = .ok (.iaload, 1) := by decide +kernel
theorem dX12_joins_103 : decode cX12_joins 103 = .ok (.invokevirtual 201, 3) := by decide +kernel
theorem dX12_joins_106 : decode cX12_joins 106 = .ok (.goto 17, 3) := by decide +kernel
theorem dX12_joins_109 : decode cX12_joins 109 = .ok (.aload_n 0, 1) := by decide +kernel
theorem dX12_joins_110 : decode cX12_joins 110 = .ok (.getfield 51, 3) := by decide +kernel
theorem dX12_joins_113 : decode cX12_joins 113 = .ok (.iload_n 1, 1) := by decide +kernel
theorem dX12_joins_114 : decode cX12_joins 114 = .ok (.iaload, 1) := by decide +kernel
theorem dX12_joins_115 : decode cX12_joins 115 = .ok (.ifCond .ne 8, 3) := by decide +kernel
theorem dX12_joins_118 : decode cX12_joins 118 = .ok (.aload_n 0, 1) := by decide +kernel
theorem dX12_joins_119 : decode cX12_joins 119 = .ok (.iconst (-1), 1) := by decide +kernel
theorem dX12_joins_120 : decode cX12_joins 120 = .ok (.invokevirtual 201, 3) := by decide +kernel
theorem dX12_joins_123 : decode cX12_joins 123 = .ok (.iinc 1 1, 3) := by decide +kernel
theorem dX12_joins_126 : decode cX12_joins 126 = .ok (.iinc 2 1, 3) := by decide +kernel
theorem dX12_joins_129 : decode cX12_joins 129 = .ok (.goto (-120), 3) := by decide +kernel
theorem dX12_joins_132 : decode cX12_joins 132 = .ok (.aload_n 0, 1) := by decide +kernel
theorem dX12_joins_133 : decode cX12_joins 133 = .ok (.aload_n 0, 1) := by decide +kernel
theorem dX12_joins_134 : decode cX12_joins 134 = .ok (.getfield 57, 3) := by decide +kernel
theorem dX12_joins_137 : decode cX12_joins 137 = .ok (.aload_n 0, 1) := by decide +kernel
theorem dX12_joins_138 : decode cX12_joins 138 = .ok (.getfield 189, 3) := by decide +kernel
theorem dX12_joins_141 : decode cX12_joins 141 = .ok (.invokevirtual 207, 3) := by decide +kernel
theorem dX12_joins_144 : decode cX12_joins 144 = .ok (.return_, 1) := by decide +kernel
theorem dX12_inverts_0 : decode cX12_inverts 0 = .ok (.iload_n 2, 1) := by decide +kernel
theorem dX12_inverts_1 : decode cX12_inverts 1 = .ok (.istore_n 3, 1) := by decide +kernel
theorem dX12_inverts_2 : decode cX12_inverts 2 = .ok (.aload_n 0, 1) := by decide +kernel
theorem dX12_inverts_3 : decode cX12_inverts 3 = .ok (.iconst 0, 1) := by decide +kernel
theorem dX12_inverts_4 : decode cX12_inverts 4 = .ok (.putfield 189, 3) := by decide +kernel
theorem dX12_inverts_7 : decode cX12_inverts 7 = .ok (.iconst 0, 1) := by decide +kernel
theorem dX12_inverts_8 : decode cX12_inverts 8 = .ok (.istore 4, 2) := by decide +kernel
theorem dX12_inverts_10 : decode cX12_inverts 10 = .ok (.iload 4, 2) := by decide +kernel
theorem dX12_inverts_12 : decode cX12_inverts 12 = .ok (.aload_n 0, 1) := by decide +kernel
theorem dX12_inverts_13 : decode cX12_inverts 13 = .ok (.getfield 195, 3) := by decide +kernel
theorem dX12_inverts_16 : decode cX12_inverts 16 = .ok (.if_icmp .ge 58, 3) := by decide +kernel
theorem dX12_inverts_19 : decode cX12_inverts 19 = .ok (.aload_n 0, 1) := by decide +kernel
theorem dX12_inverts_20 : decode cX12_inverts 20 = .ok (.aload_n 0, 1) := by decide +kernel
theorem dX12_inverts_21 : decode cX12_inverts 21 = .ok (.getfield 51, 3) := by decide +kernel
theorem dX12_inverts_24 : decode cX12_inverts 24 = .ok (.iload 4, 2) := by decide +kernel
theorem dX12_inverts_26 : decode cX12_inverts 26 = .ok (.iaload, 1) := by decide +kernel
theorem dX12_inverts_27 : decode cX12_inverts 27 = .ok (.ifCond .ne 7, 3) := by decide +kernel
theorem dX12_inverts_30 : decode cX12_inverts 30 = .ok (.iconst 0, 1) := by decide +kernel
theorem dX12_inverts_31 : decode cX12_inverts 31 = .ok (.goto 21, 3) := by decide +kernel
theorem dX12_inverts_34 : decode cX12_inverts 34 = .ok (.aload_n 0, 1) := by decide +kernel
theorem dX12_inverts_35 : decode cX12_inverts 35 = .ok (.getfield 51, 3) := by decide +kernel
theorem dX12_inverts_38 : decode cX12_inverts 38 = .ok (.iload 4, 2) := by decide +kernel
theorem dX12_inverts_40 : decode cX12_inverts 40 = .ok (.iaload, 1) := by decide +kernel
theorem dX12_inverts_41 : decode cX12_inverts 41 = .ok (.iconst (-1), 1) := by decide +kernel
theorem dX12_inverts_42 : decode cX12_inverts 42 = .ok (.if_icmp .ne 9, 3) := by decide +kernel
theorem dX12_inverts_45 : decode cX12_inverts 45 = .ok (.aload_n 1, 1) := by decide +kernel
theorem dX12_inverts_46 : decode cX12_inverts 46 = .ok (.iload_n 3, 1) := by decide +kernel
theorem dX12_inverts_47 : decode cX12_inverts 47 = .ok (.iaload, 1) := by decide +kernel
theorem dX12_inverts_48 : decode cX12_inverts 48 = .ok (.goto 4, 3) := by decide +kernel
theorem dX12_inverts_51 : decode cX12_inverts 51 = .ok (.iconst (-1), 1) := by decide +kernel
theorem dX12_inverts_52 : decode cX12_inverts 52 = .ok (.invokevirtual 201, 3) := by decide +kernel
theorem dX12_inverts_55 : decode cX12_inverts 55 = .ok (.aload_n 0, 1) := by decide +kernel
theorem dX12_inverts_56 : decode cX12_inverts 56 = .ok (.getfield 51, 3) := by decide +kernel
theorem dX12_inverts_59 : decode cX12_inverts 59 = .ok (.iload 4, 2) := by decide +kernel
theorem dX12_inverts_61 : decode cX12_inverts 61 = .ok (.iaload, 1) := by decide +kernel
theorem dX12_inverts_62 : decode cX12_inverts 62 = .ok (.ifCond .gt 6, 3) := by decide +kernel
theorem dX12_inverts_65 : decode cX12_inverts 65 = .ok (.iinc 3 1, 3) := by decide +kernel
theorem dX12_inverts_68 : decode cX12_inverts 68 = .ok (.iinc 4 1, 3) := by decide +kernel
theorem dX12_inverts_71 : decode cX12_inverts 71 = .ok (.goto (-61), 3) := by decide +kernel
theorem dX12_inverts_74 : decode cX12_inverts 74 = .ok (.aload_n 0, 1) := by decide +kernel
theorem dX12_inverts_75 : decode cX12_inverts 75 = .ok (.aload_n 0, 1) := by decide +kernel
theorem dX12_inverts_76 : decode cX12_inverts 76 = .ok (.getfield 57, 3) := by decide +kernel
theorem dX12_inverts_79 : decode cX12_inverts 79 = .ok (.aload_n 0, 1) := by decide +kernel
theorem dX12_inverts_80 : decode cX12_inverts 80 = .ok (.getfield 189, 3) := by decide +kernel
theorem dX12_inverts_83 : decode cX12_inverts 83 = .ok (.invokevirtual 207, 3) := by decide +kernel
theorem dX12_inverts_86 : decode cX12_inverts 86 = .ok (.return_, 1) := by decide +kernel
theorem dX12_takesCAsA_0 : decode cX12_takesCAsA 0 = .ok (.aload_n 0, 1) := by decide +kernel
theorem dX12_takesCAsA_1 : decode cX12_takesCAsA 1 = .ok (.aload_n 0, 1) := by decide +kernel
theorem dX12_takesCAsA_2 : decode cX12_takesCAsA 2 = .ok (.getfield 189, 3) := by decide +kernel
theorem dX12_takesCAsA_5 : decode cX12_takesCAsA 5 = .ok (.putfield 195, 3) := by decide +kernel
theorem dX12_takesCAsA_8 : decode cX12_takesCAsA 8 = .ok (.iconst 0, 1) := by decide +kernel
theorem dX12_takesCAsA_9 : decode cX12_takesCAsA 9 = .ok (.istore_n 1, 1) := by decide +kernel
theorem dX12_takesCAsA_10 : decode cX12_takesCAsA 10 = .ok (.iload_n 1, 1) := by decide +kernel
theorem dX12_takesCAsA_11 : decode cX12_takesCAsA 11 = .ok (.aload_n 0, 1) := by decide +kernel
theorem dX12_takesCAsA_12 : decode cX12_takesCAsA 12 = .ok (.getfield 189, 3) := by decide +kernel
theorem dX12_takesCAsA_15 : decode cX12_takesCAsA 15 = .ok (.if_icmp .ge 21, 3) := by decide +kernel
theorem dX12_takesCAsA_18 : decode cX12_takesCAsA 18 = .ok (.aload_n 0, 1) := by decide +kernel
theorem dX12_takesCAsA_19 : decode cX12_takesCAsA 19 = .ok (.getfield 51, 3) := by decide +kernel
theorem dX12_takesCAsA_22 : decode cX12_takesCAsA 22 = .ok (.iload_n 1, 1) := by decide +kernel
theorem dX12_takesCAsA_23 : decode cX12_takesCAsA 23 = .ok (.aload_n 0, 1) := by decide +kernel
theorem dX12_takesCAsA_24 : decode cX12_takesCAsA 24 = .ok (.getfield 57, 3) := by decide +kernel
theorem dX12_takesCAsA_27 : decode cX12_takesCAsA 27 = .ok (.iload_n 1, 1) := by decide +kernel
theorem dX12_takesCAsA_28 : decode cX12_takesCAsA 28 = .ok (.iaload, 1) := by decide +kernel
theorem dX12_takesCAsA_29 : decode cX12_takesCAsA 29 = .ok (.iastore, 1) := by decide +kernel
theorem dX12_takesCAsA_30 : decode cX12_takesCAsA 30 = .ok (.iinc 1 1, 3) := by decide +kernel
theorem dX12_takesCAsA_33 : decode cX12_takesCAsA 33 = .ok (.goto (-23), 3) := by decide +kernel
theorem dX12_takesCAsA_36 : decode cX12_takesCAsA 36 = .ok (.return_, 1) := by decide +kernel
theorem dX12_takesDAsB_0 : decode cX12_takesDAsB 0 = .ok (.aload_n 0, 1) := by decide +kernel
theorem dX12_takesDAsB_1 : decode cX12_takesDAsB 1 = .ok (.aload_n 0, 1) := by decide +kernel
theorem dX12_takesDAsB_2 : decode cX12_takesDAsB 2 = .ok (.getfield 192, 3) := by decide +kernel
theorem dX12_takesDAsB_5 : decode cX12_takesDAsB 5 = .ok (.putfield 198, 3) := by decide +kernel
theorem dX12_takesDAsB_8 : decode cX12_takesDAsB 8 = .ok (.iconst 0, 1) := by decide +kernel
theorem dX12_takesDAsB_9 : decode cX12_takesDAsB 9 = .ok (.istore_n 1, 1) := by decide +kernel
theorem dX12_takesDAsB_10 : decode cX12_takesDAsB 10 = .ok (.iload_n 1, 1) := by decide +kernel
theorem dX12_takesDAsB_11 : decode cX12_takesDAsB 11 = .ok (.aload_n 0, 1) := by decide +kernel
theorem dX12_takesDAsB_12 : decode cX12_takesDAsB 12 = .ok (.getfield 192, 3) := by decide +kernel
theorem dX12_takesDAsB_15 : decode cX12_takesDAsB 15 = .ok (.if_icmp .ge 21, 3) := by decide +kernel
theorem dX12_takesDAsB_18 : decode cX12_takesDAsB 18 = .ok (.aload_n 0, 1) := by decide +kernel
theorem dX12_takesDAsB_19 : decode cX12_takesDAsB 19 = .ok (.getfield 54, 3) := by decide +kernel
theorem dX12_takesDAsB_22 : decode cX12_takesDAsB 22 = .ok (.iload_n 1, 1) := by decide +kernel
theorem dX12_takesDAsB_23 : decode cX12_takesDAsB 23 = .ok (.aload_n 0, 1) := by decide +kernel
theorem dX12_takesDAsB_24 : decode cX12_takesDAsB 24 = .ok (.getfield 60, 3) := by decide +kernel
theorem dX12_takesDAsB_27 : decode cX12_takesDAsB 27 = .ok (.iload_n 1, 1) := by decide +kernel
theorem dX12_takesDAsB_28 : decode cX12_takesDAsB 28 = .ok (.iaload, 1) := by decide +kernel
theorem dX12_takesDAsB_29 : decode cX12_takesDAsB 29 = .ok (.iastore, 1) := by decide +kernel
theorem dX12_takesDAsB_30 : decode cX12_takesDAsB 30 = .ok (.iinc 1 1, 3) := by decide +kernel
theorem dX12_takesDAsB_33 : decode cX12_takesDAsB 33 = .ok (.goto (-23), 3) := by decide +kernel
theorem dX12_takesDAsB_36 : decode cX12_takesDAsB 36 = .ok (.return_, 1) := by decide +kernel
theorem dX12_changes_0 : decode cX12_changes 0 = .ok (.iconst 0, 1) := by decide +kernel
theorem dX12_changes_1 : decode cX12_changes 1 = .ok (.istore 5, 2) := by decide +kernel
theorem dX12_changes_3 : decode cX12_changes 3 = .ok (.iload_n 2, 1) := by decide +kernel
theorem dX12_changes_4 : decode cX12_changes 4 = .ok (.istore 6, 2) := by decide +kernel
theorem dX12_changes_6 : decode cX12_changes 6 = .ok (.iconst 0, 1) := by decide +kernel
theorem dX12_changes_7 : decode cX12_changes 7 = .ok (.istore 7, 2) := by decide +kernel
theorem dX12_changes_9 : decode cX12_changes 9 = .ok (.iload 7, 2) := by decide +kernel
theorem dX12_changes_11 : decode cX12_changes 11 = .ok (.iload 4, 2) := by decide +kernel
theorem dX12_changes_13 : decode cX12_changes 13 = .ok (.if_icmp .ge 54, 3) := by decide +kernel
theorem dX12_changes_16 : decode cX12_changes 16 = .ok (.aload_n 3, 1) := by decide +kernel
theorem dX12_changes_17 : decode cX12_changes 17 = .ok (.iload 7, 2) := by decide +kernel
theorem dX12_changes_19 : decode cX12_changes 19 = .ok (.iaload, 1) := by decide +kernel
theorem dX12_changes_20 : decode cX12_changes 20 = .ok (.ifCond .lt 31, 3) := by decide +kernel
theorem dX12_changes_23 : decode cX12_changes 23 = .ok (.aload_n 0, 1) := by decide +kernel
theorem dX12_changes_24 : decode cX12_changes 24 = .ok (.getfield 66, 3) := by decide +kernel
theorem dX12_changes_27 : decode cX12_changes 27 = .ok (.iload 5, 2) := by decide +kernel
theorem dX12_changes_29 : decode cX12_changes 29 = .ok (.aload_n 3, 1) := by decide +kernel
theorem dX12_changes_30 : decode cX12_changes 30 = .ok (.iload 7, 2) := by decide +kernel
theorem dX12_changes_32 : decode cX12_changes 32 = .ok (.iaload, 1) := by decide +kernel
theorem dX12_changes_33 : decode cX12_changes 33 = .ok (.ifCond .ne 10, 3) := by decide +kernel
theorem dX12_changes_36 : decode cX12_changes 36 = .ok (.aload_n 1, 1) := by decide +kernel
theorem dX12_changes_37 : decode cX12_changes 37 = .ok (.iload 6, 2) := by decide +kernel
theorem dX12_changes_39 : decode cX12_changes 39 = .ok (.iaload, 1) := by decide +kernel
theorem dX12_changes_40 : decode cX12_changes 40 = .ok (.goto 7, 3) := by decide +kernel
theorem dX12_changes_43 : decode cX12_changes 43 = .ok (.aload_n 3, 1) := by decide +kernel
theorem dX12_changes_44 : decode cX12_changes 44 = .ok (.iload 7, 2) := by decide +kernel
theorem dX12_changes_46 : decode cX12_changes 46 = .ok (.iaload, 1) := by decide +kernel
theorem dX12_changes_47 : decode cX12_changes 47 = .ok (.iastore, 1) := by decide +kernel
theorem dX12_changes_48 : decode cX12_changes 48 = .ok (.iinc 5 1, 3) := by decide +kernel
theorem dX12_changes_51 : decode cX12_changes 51 = .ok (.aload_n 3, 1) := by decide +kernel
theorem dX12_changes_52 : decode cX12_changes 52 = .ok (.iload 7, 2) := by decide +kernel
theorem dX12_changes_54 : decode cX12_changes 54 = .ok (.iaload, 1) := by decide +kernel
theorem dX12_changes_55 : decode cX12_changes 55 = .ok (.ifCond .gt 6, 3) := by decide +kernel
theorem dX12_changes_58 : decode cX12_changes 58 = .ok (.iinc 6 1, 3) := by decide +kernel
theorem dX12_changes_61 : decode cX12_changes 61 = .ok (.iinc 7 1, 3) := by decide +kernel
theorem dX12_changes_64 : decode cX12_changes 64 = .ok (.goto (-55), 3) := by decide +kernel
theorem dX12_changes_67 : decode cX12_changes 67 = .ok (.iconst 0, 1) := by decide +kernel
theorem dX12_changes_68 : decode cX12_changes 68 = .ok (.istore 7, 2) := by decide +kernel
theorem dX12_changes_70 : decode cX12_changes 70 = .ok (.iload 7, 2) := by decide +kernel
theorem dX12_changes_72 : decode cX12_changes 72 = .ok (.iload 5, 2) := by decide +kernel
theorem dX12_changes_74 : decode cX12_changes 74 = .ok (.if_icmp .ge 22, 3) := by decide +kernel
theorem dX12_changes_77 : decode cX12_changes 77 = .ok (.aload_n 1, 1) := by decide +kernel
theorem dX12_changes_78 : decode cX12_changes 78 = .ok (.iload_n 2, 1) := by decide +kernel
theorem dX12_changes_79 : decode cX12_changes 79 = .ok (.iload 7, 2) := by decide +kernel
theorem dX12_changes_81 : decode cX12_changes 81 = .ok (.iadd, 1) := by decide +kernel
theorem dX12_changes_82 : decode cX12_changes 82 = .ok (.aload_n 0, 1) := by decide +kernel
theorem dX12_changes_83 : decode cX12_changes 83 = .ok (.getfield 66, 3) := by decide +kernel
theorem dX12_changes_86 : decode cX12_changes 86 = .ok (.iload 7, 2) := by decide +kernel
theorem dX12_changes_88 : decode cX12_changes 88 = .ok (.iaload, 1) := by decide +kernel
theorem dX12_changes_89 : decode cX12_changes 89 = .ok (.iastore, 1) := by decide +kernel
theorem dX12_changes_90 : decode cX12_changes 90 = .ok (.iinc 7 1, 3) := by decide +kernel
theorem dX12_changes_93 : decode cX12_changes 93 = .ok (.goto (-23), 3) := by decide +kernel
theorem dX12_changes_96 : decode cX12_changes 96 = .ok (.iload 5, 2) := by decide +kernel
theorem dX12_changes_98 : decode cX12_changes 98 = .ok (.ireturn, 1) := by decide +kernel
theorem dX12_carried_0 : decode cX12_carried 0 = .ok (.iconst 0, 1) := by decide +kernel
theorem dX12_carried_1 : decode cX12_carried 1 = .ok (.istore 4, 2) := by decide +kernel
theorem dX12_carried_3 : decode cX12_carried 3 = .ok (.iload_n 2, 1) := by decide +kernel
theorem dX12_carried_4 : decode cX12_carried 4 = .ok (.istore 5, 2) := by decide +kernel
theorem dX12_carried_6 : decode cX12_carried 6 = .ok (.iconst 0, 1) := by decide +kernel
theorem dX12_carried_7 : decode cX12_carried 7 = .ok (.istore 6, 2) := by decide +kernel
theorem dX12_carried_9 : decode cX12_carried 9 = .ok (.iload 6, 2) := by decide +kernel
theorem dX12_carried_11 : decode cX12_carried 11 = .ok (.iload_n 1, 1) := by decide +kernel
theorem dX12_carried_12 : decode cX12_carried 12 = .ok (.if_icmp .ge 58, 3) := by decide +kernel
theorem dX12_carried_15 : decode cX12_carried 15 = .ok (.aload_n 0, 1) := by decide +kernel
theorem dX12_carried_16 : decode cX12_carried 16 = .ok (.iload 6, 2) := by decide +kernel
theorem dX12_carried_18 : decode cX12_carried 18 = .ok (.iaload, 1) := by decide +kernel
theorem dX12_carried_19 : decode cX12_carried 19 = .ok (.ifCond .le 25, 3) := by decide +kernel
theorem dX12_carried_22 : decode cX12_carried 22 = .ok (.iload 4, 2) := by decide +kernel
theorem dX12_carried_24 : decode cX12_carried 24 = .ok (.iload_n 2, 1) := by decide +kernel
theorem dX12_carried_25 : decode cX12_carried 25 = .ok (.if_icmp .lt 13, 3) := by decide +kernel
theorem dX12_carried_28 : decode cX12_carried 28 = .ok (.iload 4, 2) := by decide +kernel
theorem dX12_carried_30 : decode cX12_carried 30 = .ok (.iload_n 2, 1) := by decide +kernel
theorem dX12_carried_31 : decode cX12_carried 31 = .ok (.if_icmp .ne 33, 3) := by decide +kernel
theorem dX12_carried_34 : decode cX12_carried 34 = .ok (.iload_n 3, 1) := by decide +kernel
