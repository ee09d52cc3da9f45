theorem dX7_power_6 : decode cX7_power 6 = .ok (.if_icmp .ge 13, 3) := by decide +kernel
theorem dX7_power_9 : decode cX7_power 9 = .ok (.iload_n 2, 1) := by decide +kernel
theorem dX7_power_10 : decode cX7_power 10 = .ok (.iload_n 0, 1) := by decide +kernel
theorem dX7_power_11 : decode cX7_power 11 = .ok (.imul, 1) := by decide +kernel
theorem dX7_power_12 : decode cX7_power 12 = .ok (.istore_n 2, 1) := by decide +kernel
theorem dX7_power_13 : decode cX7_power 13 = .ok (.iinc 3 1, 3) := by decide +kernel
theorem dX7_power_16 : decode cX7_power 16 = .ok (.goto (-12), 3) := by decide +kernel
theorem dX7_power_19 : decode cX7_power 19 = .ok (.iload_n 2, 1) := by decide +kernel
theorem dX7_power_20 : decode cX7_power 20 = .ok (.ireturn, 1) := by decide +kernel
theorem dX7_greatestDivisor_0 : decode cX7_greatestDivisor 0 = .ok (.iload_n 0, 1) := by decide +kernel
theorem dX7_greatestDivisor_1 : decode cX7_greatestDivisor 1 = .ok (.istore_n 2, 1) := by decide +kernel
theorem dX7_greatestDivisor_2 : decode cX7_greatestDivisor 2 = .ok (.iload_n 1, 1) := by decide +kernel
theorem dX7_greatestDivisor_3 : decode cX7_greatestDivisor 3 = .ok (.istore_n 3, 1) := by decide +kernel
theorem dX7_greatestDivisor_4 : decode cX7_greatestDivisor 4 = .ok (.iconst 0, 1) := by decide +kernel
theorem dX7_greatestDivisor_5 : decode cX7_greatestDivisor 5 = .ok (.istore 4, 2) := by decide +kernel
theorem dX7_greatestDivisor_7 : decode cX7_greatestDivisor 7 = .ok (.iload 4, 2) := by decide +kernel
theorem dX7_greatestDivisor_9 : decode cX7_greatestDivisor 9 = .ok (.bipush 100, 2) := by decide +kernel
theorem dX7_greatestDivisor_11 : decode cX7_greatestDivisor 11 = .ok (.if_icmp .ge 23, 3) := by decide +kernel
theorem dX7_greatestDivisor_14 : decode cX7_greatestDivisor 14 = .ok (.iload_n 3, 1) := by decide +kernel
theorem dX7_greatestDivisor_15 : decode cX7_greatestDivisor 15 = .ok (.ifCond .eq 19, 3) := by decide +kernel
theorem dX7_greatestDivisor_18 : decode cX7_greatestDivisor 18 = .ok (.iload_n 2, 1) := by decide +kernel
theorem dX7_greatestDivisor_19 : decode cX7_greatestDivisor 19 = .ok (.iload_n 3, 1) := by decide +kernel
theorem dX7_greatestDivisor_20 : decode cX7_greatestDivisor 20 = .ok (.irem, 1) := by decide +kernel
theorem dX7_greatestDivisor_21 : decode cX7_greatestDivisor 21 = .ok (.istore 5, 2) := by decide +kernel
theorem dX7_greatestDivisor_23 : decode cX7_greatestDivisor 23 = .ok (.iload_n 3, 1) := by decide +kernel
theorem dX7_greatestDivisor_24 : decode cX7_greatestDivisor 24 = .ok (.istore_n 2, 1) := by decide +kernel
theorem dX7_greatestDivisor_25 : decode cX7_greatestDivisor 25 = .ok (.iload 5, 2) := by decide +kernel
theorem dX7_greatestDivisor_27 : decode cX7_greatestDivisor 27 = .ok (.istore_n 3, 1) := by decide +kernel
theorem dX7_greatestDivisor_28 : decode cX7_greatestDivisor 28 = .ok (.iinc 4 1, 3) := by decide +kernel
theorem dX7_greatestDivisor_31 : decode cX7_greatestDivisor 31 = .ok (.goto (-24), 3) := by decide +kernel
theorem dX7_greatestDivisor_34 : decode cX7_greatestDivisor 34 = .ok (.iload_n 2, 1) := by decide +kernel
theorem dX7_greatestDivisor_35 : decode cX7_greatestDivisor 35 = .ok (.ireturn, 1) := by decide +kernel
theorem dX8_init_0 : decode cX8_init 0 = .ok (.aload_n 0, 1) := by decide +kernel
theorem dX8_init_1 : decode cX8_init 1 = .ok (.invokespecial 1, 3) := by decide +kernel
theorem dX8_init_4 : decode cX8_init 4 = .ok (.aload_n 0, 1) := by decide +kernel
theorem dX8_init_5 : decode cX8_init 5 = .ok (.sipush 792, 3) := by decide +kernel
theorem dX8_init_8 : decode cX8_init 8 = .ok (.newarray .int, 2) := by decide +kernel
theorem dX8_init_10 : decode cX8_init 10 = .ok (.putfield 7, 3) := by decide +kernel
theorem dX8_init_13 : decode cX8_init 13 = .ok (.aload_n 0, 1) := by decide +kernel
theorem dX8_init_14 : decode cX8_init 14 = .ok (.bipush 9, 2) := by decide +kernel
theorem dX8_init_16 : decode cX8_init 16 = .ok (.newarray .int, 2) := by decide +kernel
theorem dX8_init_18 : decode cX8_init 18 = .ok (.putfield 13, 3) := by decide +kernel
theorem dX8_init_21 : decode cX8_init 21 = .ok (.aload_n 0, 1) := by decide +kernel
theorem dX8_init_22 : decode cX8_init 22 = .ok (.bipush 6, 2) := by decide +kernel
theorem dX8_init_24 : decode cX8_init 24 = .ok (.newarray .int, 2) := by decide +kernel
theorem dX8_init_26 : decode cX8_init 26 = .ok (.putfield 16, 3) := by decide +kernel
theorem dX8_init_29 : decode cX8_init 29 = .ok (.aload_n 0, 1) := by decide +kernel
theorem dX8_init_30 : decode cX8_init 30 = .ok (.bipush 6, 2) := by decide +kernel
theorem dX8_init_32 : decode cX8_init 32 = .ok (.newarray .int, 2) := by decide +kernel
theorem dX8_init_34 : decode cX8_init 34 = .ok (.putfield 19, 3) := by decide +kernel
theorem dX8_init_37 : decode cX8_init 37 = .ok (.aload_n 0, 1) := by decide +kernel
theorem dX8_init_38 : decode cX8_init 38 = .ok (.bipush 6, 2) := by decide +kernel
theorem dX8_init_40 : decode cX8_init 40 = .ok (.newarray .boolean, 2) := by decide +kernel
theorem dX8_init_42 : decode cX8_init 42 = .ok (.putfield 22, 3) := by decide +kernel
theorem dX8_init_45 : decode cX8_init 45 = .ok (.aload_n 0, 1) := by decide +kernel
theorem dX8_init_46 : decode cX8_init 46 = .ok (.sipush 200, 3) := by decide +kernel
theorem dX8_init_49 : decode cX8_init 49 = .ok (.newarray .int, 2) := by decide +kernel
theorem dX8_init_51 : decode cX8_init 51 = .ok (.putfield 26, 3) := by decide +kernel
theorem dX8_init_54 : decode cX8_init 54 = .ok (.aload_n 0, 1) := by decide +kernel
theorem dX8_init_55 : decode cX8_init 55 = .ok (.bipush 9, 2) := by decide +kernel
theorem dX8_init_57 : decode cX8_init 57 = .ok (.newarray .int, 2) := by decide +kernel
theorem dX8_init_59 : decode cX8_init 59 = .ok (.putfield 29, 3) := by decide +kernel
theorem dX8_init_62 : decode cX8_init 62 = .ok (.aload_n 0, 1) := by decide +kernel
theorem dX8_init_63 : decode cX8_init 63 = .ok (.bipush 9, 2) := by decide +kernel
theorem dX8_init_65 : decode cX8_init 65 = .ok (.newarray .int, 2) := by decide +kernel
theorem dX8_init_67 : decode cX8_init 67 = .ok (.putfield 32, 3) := by decide +kernel
theorem dX8_init_70 : decode cX8_init 70 = .ok (.aload_n 0, 1) := by decide +kernel
theorem dX8_init_71 : decode cX8_init 71 = .ok (.bipush 9, 2) := by decide +kernel
theorem dX8_init_73 : decode cX8_init 73 = .ok (.newarray .int, 2) := by decide +kernel
theorem dX8_init_75 : decode cX8_init 75 = .ok (.putfield 35, 3) := by decide +kernel
theorem dX8_init_78 : decode cX8_init 78 = .ok (.aload_n 0, 1) := by decide +kernel
theorem dX8_init_79 : decode cX8_init 79 = .ok (.iconst 5, 1) := by decide +kernel
theorem dX8_init_80 : decode cX8_init 80 = .ok (.newarray .int, 2) := by decide +kernel
theorem dX8_init_82 : decode cX8_init 82 = .ok (.putfield 38, 3) := by decide +kernel
theorem dX8_init_85 : decode cX8_init 85 = .ok (.aload_n 0, 1) := by decide +kernel
theorem dX8_init_86 : decode cX8_init 86 = .ok (.iconst 5, 1) := by decide +kernel
theorem dX8_init_87 : decode cX8_init 87 = .ok (.newarray .int, 2) := by decide +kernel
theorem dX8_init_89 : decode cX8_init 89 = .ok (.putfield 41, 3) := by decide +kernel
theorem dX8_init_92 : decode cX8_init 92 = .ok (.aload_n 0, 1) := by decide +kernel
theorem dX8_init_93 : decode cX8_init 93 = .ok (.iconst 5, 1) := by decide +kernel
theorem dX8_init_94 : decode cX8_init 94 = .ok (.newarray .int, 2) := by decide +kernel
theorem dX8_init_96 : decode cX8_init 96 = .ok (.putfield 44, 3) := by decide +kernel
theorem dX8_init_99 : decode cX8_init 99 = .ok (.aload_n 0, 1) := by decide +kernel
theorem dX8_init_100 : decode cX8_init 100 = .ok (.iconst 0, 1) := by decide +kernel
theorem dX8_init_101 : decode cX8_init 101 = .ok (.putfield 47, 3) := by decide +kernel
theorem dX8_init_104 : decode cX8_init 104 = .ok (.aload_n 0, 1) := by decide +kernel
theorem dX8_init_105 : decode cX8_init 105 = .ok (.iconst 0, 1) := by decide +kernel
theorem dX8_init_106 : decode cX8_init 106 = .ok (.iconst 0, 1) := by decide +kernel
theorem dX8_init_107 : decode cX8_init 107 = .ok (.iconst 0, 1) := by decide +kernel
theorem dX8_init_108 : decode cX8_init 108 = .ok (.invokevirtual 51, 3) := by decide +kernel
theorem dX8_init_111 : decode cX8_init 111 = .ok (.aload_n 0, 1) := by decide +kernel
theorem dX8_init_112 : decode cX8_init 112 = .ok (.iconst 1, 1) := by decide +kernel
theorem dX8_init_113 : decode cX8_init 113 = .ok (.iconst 0, 1) := by decide +kernel
theorem dX8_init_114 : decode cX8_init 114 = .ok (.iconst 1, 1) := by decide +kernel
theorem dX8_init_115 : decode cX8_init 115 = .ok (.invokevirtual 51, 3) := by decide +kernel
theorem dX8_init_118 : decode cX8_init 118 = .ok (.aload_n 0, 1) := by decide +kernel
theorem dX8_init_119 : decode cX8_init 119 = .ok (.iconst 0, 1) := by decide +kernel
theorem dX8_init_120 : decode cX8_init 120 = .ok (.iconst 1, 1) := by decide +kernel
theorem dX8_init_121 : decode cX8_init 121 = .ok (.iconst 1, 1) := by decide +kernel
theorem dX8_init_122 : decode cX8_init 122 = .ok (.invokevirtual 51, 3) := by decide +kernel
theorem dX8_init_125 : decode cX8_init 125 = .ok (.aload_n 0, 1) := by decide +kernel
theorem dX8_init_126 : decode cX8_init 126 = .ok (.iconst 2, 1) := by decide +kernel
theorem dX8_init_127 : decode cX8_init 127 = .ok (.iconst 2, 1) := by decide +kernel
theorem dX8_init_128 : decode cX8_init 128 = .ok (.iconst 0, 1) := by decide +kernel
theorem dX8_init_129 : decode cX8_init 129 = .ok (.invokevirtual 51, 3) := by decide +kernel
theorem dX8_init_132 : decode cX8_init 132 = .ok (.aload_n 0, 1) := by decide +kernel
theorem dX8_init_133 : decode cX8_init 133 = .ok (.iconst 0, 1) := by decide +kernel
theorem dX8_init_134 : decode cX8_init 134 = .ok (.iconst 3, 1) := by decide +kernel
theorem dX8_init_135 : decode cX8_init 135 = .ok (.iconst 2, 1) := by decide +kernel
theorem dX8_init_136 : decode cX8_init 136 = .ok (.invokevirtual 51, 3) := by decide +kernel
theorem dX8_init_139 : decode cX8_init 139 = .ok (.aload_n 0, 1) := by decide +kernel
theorem dX8_init_140 : decode cX8_init 140 = .ok (.iconst 3, 1) := by decide +kernel
theorem dX8_init_141 : decode cX8_init 141 = .ok (.iconst 4, 1) := by decide +kernel
theorem dX8_init_142 : decode cX8_init 142 = .ok (.iconst 2, 1) := by decide +kernel
theorem dX8_init_143 : decode cX8_init 143 = .ok (.invokevirtual 51, 3) := by decide +kernel
theorem dX8_init_146 : decode cX8_init 146 = .ok (.aload_n 0, 1) := by decide +kernel
theorem dX8_init_147 : decode cX8_init 147 = .ok (.iconst 1, 1) := by decide +kernel
theorem dX8_init_148 : decode cX8_init 148 = .ok (.bipush 6, 2) := by decide +kernel
theorem dX8_init_150 : decode cX8_init 150 = .ok (.iconst 0, 1) := by decide +kernel
theorem dX8_init_151 : decode cX8_init 151 = .ok (.invokevirtual 51, 3) := by decide +kernel
theorem dX8_init_154 : decode cX8_init 154 = .ok (.aload_n 0, 1) := by decide +kernel
theorem dX8_init_155 : decode cX8_init 155 = .ok (.iconst 0, 1) := by decide +kernel
theorem dX8_init_156 : decode cX8_init 156 = .ok (.bipush 8, 2) := by decide +kernel
theorem dX8_init_158 : decode cX8_init 158 = .ok (.iconst 0, 1) := by decide +kernel
theorem dX8_init_159 : decode cX8_init 159 = .ok (.invokevirtual 51, 3) := by decide +kernel
theorem dX8_init_162 : decode cX8_init 162 = .ok (.aload_n 0, 1) := by decide +kernel
theorem dX8_init_163 : decode cX8_init 163 = .ok (.iconst 2, 1) := by decide +kernel
theorem dX8_init_164 : decode cX8_init 164 = .ok (.bipush 9, 2) := by decide +kernel
theorem dX8_init_166 : decode cX8_init 166 = .ok (.iconst 1, 1) := by decide +kernel
theorem dX8_init_167 : decode cX8_init 167 = .ok (.invokevirtual 51, 3) := by decide +kernel
theorem dX8_init_170 : decode cX8_init 170 = .ok (.aload_n 0, 1) := by decide +kernel
theorem dX8_init_171 : decode cX8_init 171 = .ok (.iconst 3, 1) := by decide +kernel
theorem dX8_init_172 : decode cX8_init 172 = .ok (.putfield 55, 3) := by decide +kernel
theorem dX8_init_175 : decode cX8_init 175 = .ok (.aload_n 0, 1) := by decide +kernel
theorem dX8_init_176 : decode cX8_init 176 = .ok (.bipush 20, 2) := by decide +kernel
theorem dX8_init_178 : decode cX8_init 178 = .ok (.putfield 58, 3) := by decide +kernel
theorem dX8_init_181 : decode cX8_init 181 = .ok (.aload_n 0, 1) := by decide +kernel
theorem dX8_init_182 : decode cX8_init 182 = .ok (.bipush 7, 2) := by decide +kernel
theorem dX8_init_184 : decode cX8_init 184 = .ok (.putfield 61, 3) := by decide +kernel
theorem dX8_init_187 : decode cX8_init 187 = .ok (.aload_n 0, 1) := by decide +kernel
theorem dX8_init_188 : decode cX8_init 188 = .ok (.invokevirtual 64, 3) := by decide +kernel
theorem dX8_init_191 : decode cX8_init 191 = .ok (.return_, 1) := by decide +kernel
theorem dX8_in_0 : decode cX8_in 0 = .ok (.lload_n 0, 1) := by decide +kernel
theorem dX8_in_1 : decode cX8_in 1 = .ok (.lload_n 2, 1) := by decide +kernel
theorem dX8_in_2 : decode cX8_in 2 = .ok (.lcmp, 1) := by decide +kernel
theorem dX8_in_3 : decode cX8_in 3 = .ok (.ifCond .lt 14, 3) := by decide +kernel
theorem dX8_in_6 : decode cX8_in 6 = .ok (.lload_n 0, 1) := by decide +kernel
theorem dX8_in_7 : decode cX8_in 7 = .ok (.lload 4, 2) := by decide +kernel
theorem dX8_in_9 : decode cX8_in 9 = .ok (.lcmp, 1) := by decide +kernel
theorem dX8_in_10 : decode cX8_in 10 = .ok (.ifCond .gt 7, 3) := by decide +kernel
theorem dX8_in_13 : decode cX8_in 13 = .ok (.iconst 1, 1) := by decide +kernel
theorem dX8_in_14 : decode cX8_in 14 = .ok (.goto 4, 3) := by decide +kernel
theorem dX8_in_17 : decode cX8_in 17 = .ok (.iconst 0, 1) := by decide +kernel
theorem dX8_in_18 : decode cX8_in 18 = .ok (.ireturn, 1) := by decide +kernel
theorem dX8_isIn_0 : decode cX8_isIn 0 = .ok (.iload_n 0, 1) := by decide +kernel
theorem dX8_isIn_1 : decode cX8_isIn 1 = .ok (.iload_n 1, 1) := by decide +kernel
theorem dX8_isIn_2 : decode cX8_isIn 2 = .ok (.ishr, 1) := by decide +kernel
theorem dX8_isIn_3 : decode cX8_isIn 3 = .ok (.iconst 1, 1) := by decide +kernel
theorem dX8_isIn_4 : decode cX8_isIn 4 = .ok (.iand, 1) := by decide +kernel
theorem dX8_isIn_5 : decode cX8_isIn 5 = .ok (.iconst 1, 1) := by decide +kernel
theorem dX8_isIn_6 : decode cX8_isIn 6 = .ok (.if_icmp .ne 7, 3) := by decide +kernel
theorem dX8_isIn_9 : decode cX8_isIn 9 = .ok (.iconst 1, 1) := by decide +kernel
theorem dX8_isIn_10 : decode cX8_isIn 10 = .ok (.goto 4, 3) := by decide +kernel
theorem dX8_isIn_13 : decode cX8_isIn 13 = .ok (.iconst 0, 1) := by decide +kernel
theorem dX8_isIn_14 : decode cX8_isIn 14 = .ok (.ireturn, 1) := by decide +kernel
theorem dX8_copy_0 : decode cX8_copy 0 = .ok (.iconst 0, 1) := by decide +kernel
theorem dX8_copy_1 : decode cX8_copy 1 = .ok (.istore_n 3, 1) := by decide +kernel
theorem dX8_copy_2 : decode cX8_copy 2 = .ok (.iload_n 3, 1) := by decide +kernel
theorem dX8_copy_3 : decode cX8_copy 3 = .ok (.bipush 66, 2) := by decide +kernel
theorem dX8_copy_5 : decode cX8_copy 5 = .ok (.if_icmp .ge 25, 3) := by decide +kernel
theorem dX8_copy_8 : decode cX8_copy 8 = .ok (.aload_n 0, 1) := by decide +kernel
theorem dX8_copy_9 : decode cX8_copy 9 = .ok (.getfield 7, 3) := by decide +kernel
theorem dX8_copy_12 : decode cX8_copy 12 = .ok (.iload_n 2, 1) := by decide +kernel
theorem dX8_copy_13 : decode cX8_copy 13 = .ok (.iload_n 3, 1) := by decide +kernel
theorem dX8_copy_14 : decode cX8_copy 14 = .ok (.iadd, 1) := by decide +kernel
theorem dX8_copy_15 : decode cX8_copy 15 = .ok (.aload_n 0, 1) := by decide +kernel
theorem dX8_copy_16 : decode cX8_copy 16 = .ok (.getfield 7, 3) := by decide +kernel
theorem dX8_copy_19 : decode cX8_copy 19 = .ok (.iload_n 1, 1) := by decide +kernel
theorem dX8_copy_20 : decode cX8_copy 20 = .ok (.iload_n 3, 1) := by decide +kernel
theorem dX8_copy_21 : decode cX8_copy 21 = .ok (.iadd, 1) := by decide +kernel
theorem dX8_copy_22 : decode cX8_copy 22 = .ok (.iaload, 1) := by decide +kernel
theorem dX8_copy_23 : decode cX8_copy 23 = .ok (.iastore, 1) := by decide +kernel
theorem dX8_copy_24 : decode cX8_copy 24 = .ok (.iinc 3 1, 3) := by decide +kernel
theorem dX8_copy_27 : decode cX8_copy 27 = .ok (.goto (-25), 3) := by decide +kernel
theorem dX8_copy_30 : decode cX8_copy 30 = .ok (.return_, 1) := by decide +kernel
theorem dX8_isPerson_0 : decode cX8_isPerson 0 = .ok (.iload_n 1, 1) := by decide +kernel
theorem dX8_isPerson_1 : decode cX8_isPerson 1 = .ok (.i2l, 1) := by decide +kernel
theorem dX8_isPerson_2 : decode cX8_isPerson 2 = .ok (.lconst 0, 1) := by decide +kernel
theorem dX8_isPerson_3 : decode cX8_isPerson 3 = .ok (.aload_n 0, 1) := by decide +kernel
theorem dX8_isPerson_4 : decode cX8_isPerson 4 = .ok (.getfield 67, 3) := by decide +kernel
theorem dX8_isPerson_7 : decode cX8_isPerson 7 = .ok (.iconst 1, 1) := by decide +kernel
theorem dX8_isPerson_8 : decode cX8_isPerson 8 = .ok (.isub, 1) := by decide +kernel
theorem dX8_isPerson_9 : decode cX8_isPerson 9 = .ok (.i2l, 1) := by decide +kernel
theorem dX8_isPerson_10 : decode cX8_isPerson 10 = .ok (.invokestatic 70, 3) := by decide +kernel
theorem dX8_isPerson_13 : decode cX8_isPerson 13 = .ok (.ireturn, 1) := by decide +kernel
theorem dX8_adds_0 : decode cX8_adds 0 = .ok (.aload_n 0, 1) := by decide +kernel
theorem dX8_adds_1 : decode cX8_adds 1 = .ok (.getfield 29, 3) := by decide +kernel
theorem dX8_adds_4 : decode cX8_adds 4 = .ok (.aload_n 0, 1) := by decide +kernel
theorem dX8_adds_5 : decode cX8_adds 5 = .ok (.getfield 47, 3) := by decide +kernel
theorem dX8_adds_8 : decode cX8_adds 8 = .ok (.iload_n 1, 1) := by decide +kernel
theorem dX8_adds_9 : decode cX8_adds 9 = .ok (.iastore, 1) := by decide +kernel
theorem dX8_adds_10 : decode cX8_adds 10 = .ok (.aload_n 0, 1) := by decide +kernel
theorem dX8_adds_11 : decode cX8_adds 11 = .ok (.getfield 32, 3) := by decide +kernel
theorem dX8_adds_14 : decode cX8_adds 14 = .ok (.aload_n 0, 1) := by decide +kernel
theorem dX8_adds_15 : decode cX8_adds 15 = .ok (.getfield 47, 3) := by decide +kernel
theorem dX8_adds_18 : decode cX8_adds 18 = .ok (.iload_n 2, 1) := by decide +kernel
theorem dX8_adds_19 : decode cX8_adds 19 = .ok (.iastore, 1) := by decide +kernel
theorem dX8_adds_20 : decode cX8_adds 20 = .ok (.aload_n 0, 1) := by decide +kernel
theorem dX8_adds_21 : decode cX8_adds 21 = .ok (.getfield 35, 3) := by decide +kernel
theorem dX8_adds_24 : decode cX8_adds 24 = .ok (.aload_n 0, 1) := by decide +kernel
theorem dX8_adds_25 : decode cX8_adds 25 = .ok (.getfield 47, 3) := by decide +kernel
theorem dX8_adds_28 : decode cX8_adds 28 = .ok (.iload_n 3, 1) := by decide +kernel
theorem dX8_adds_29 : decode cX8_adds 29 = .ok (.iastore, 1) := by decide +kernel
theorem dX8_adds_30 : decode cX8_adds 30 = .ok (.aload_n 0, 1) := by decide +kernel
theorem dX8_adds_31 : decode cX8_adds 31 = .ok (.dup, 1) := by decide +kernel
theorem dX8_adds_32 : decode cX8_adds 32 = .ok (.getfield 47, 3) := by decide +kernel
theorem dX8_adds_35 : decode cX8_adds 35 = .ok (.iconst 1, 1) := by decide +kernel
theorem dX8_adds_36 : decode cX8_adds 36 = .ok (.iadd, 1) := by decide +kernel
theorem dX8_adds_37 : decode cX8_adds 37 = .ok (.putfield 47, 3) := by decide +kernel
theorem dX8_adds_40 : decode cX8_adds 40 = .ok (.return_, 1) := by decide +kernel
theorem dX8_begins_0 : decode cX8_begins 0 = .ok (.aload_n 0, 1) := by decide +kernel
theorem dX8_begins_1 : decode cX8_begins 1 = .ok (.aload_n 0, 1) := by decide +kernel
theorem dX8_begins_2 : decode cX8_begins 2 = .ok (.getfield 47, 3) := by decide +kernel
theorem dX8_begins_5 : decode cX8_begins 5 = .ok (.putfield 67, 3) := by decide +kernel
theorem dX8_begins_8 : decode cX8_begins 8 = .ok (.aload_n 0, 1) := by decide +kernel
theorem dX8_begins_9 : decode cX8_begins 9 = .ok (.aload_n 0, 1) := by decide +kernel
theorem dX8_begins_10 : decode cX8_begins 10 = .ok (.getfield 55, 3) := by decide +kernel
theorem dX8_begins_13 : decode cX8_begins 13 = .ok (.putfield 74, 3) := by decide +kernel
theorem dX8_begins_16 : decode cX8_begins 16 = .ok (.aload_n 0, 1) := by decide +kernel
theorem dX8_begins_17 : decode cX8_begins 17 = .ok (.aload_n 0, 1) := by decide +kernel
theorem dX8_begins_18 : decode cX8_begins 18 = .ok (.getfield 58, 3) := by decide +kernel
theorem dX8_begins_21 : decode cX8_begins 21 = .ok (.putfield 77, 3) := by decide +kernel
theorem dX8_begins_24 : decode cX8_begins 24 = .ok (.aload_n 0, 1) := by decide +kernel
theorem dX8_begins_25 : decode cX8_begins 25 = .ok (.aload_n 0, 1) := by decide +kernel
theorem dX8_begins_26 : decode cX8_begins 26 = .ok (.getfield 61, 3) := by decide +kernel
theorem dX8_begins_29 : decode cX8_begins 29 = .ok (.putfield 80, 3) := by decide +kernel
theorem dX8_begins_32 : decode cX8_begins 32 = .ok (.iconst 0, 1) := by decide +kernel
theorem dX8_begins_33 : decode cX8_begins 33 = .ok (.istore_n 1, 1) := by decide +kernel
theorem dX8_begins_34 : decode cX8_begins 34 = .ok (.iload_n 1, 1) := by decide +kernel
theorem dX8_begins_35 : decode cX8_begins 35 = .ok (.bipush 66, 2) := by decide +kernel
theorem dX8_begins_37 : decode cX8_begins 37 = .ok (.if_icmp .ge 16, 3) := by decide +kernel
theorem dX8_begins_40 : decode cX8_begins 40 = .ok (.aload_n 0, 1) := by decide +kernel
theorem dX8_begins_41 : decode cX8_begins 41 = .ok (.getfield 7, 3) := by decide +kernel
theorem dX8_begins_44 : decode cX8_begins 44 = .ok (.iload_n 1, 1) := by decide +kernel
theorem dX8_begins_45 : decode cX8_begins 45 = .ok (.iconst 0, 1) := by decide +kernel
theorem dX8_begins_46 : decode cX8_begins 46 = .ok (.iastore, 1) := by decide +kernel
theorem dX8_begins_47 : decode cX8_begins 47 = .ok (.iinc 1 1, 3) := by decide +kernel
theorem dX8_begins_50 : decode cX8_begins 50 = .ok (.goto (-16), 3) := by decide +kernel
theorem dX8_begins_53 : decode cX8_begins 53 = .ok (.iconst 0, 1) := by decide +kernel
theorem dX8_begins_54 : decode cX8_begins 54 = .ok (.istore_n 1, 1) := by decide +kernel
theorem dX8_begins_55 : decode cX8_begins 55 = .ok (.iload_n 1, 1) := by decide +kernel
theorem dX8_begins_56 : decode cX8_begins 56 = .ok (.aload_n 0, 1) := by decide +kernel
theorem dX8_begins_57 : decode cX8_begins 57 = .ok (.getfield 67, 3) := by decide +kernel
theorem dX8_begins_60 : decode cX8_begins 60 = .ok (.if_icmp .ge 73, 3) := by decide +kernel
theorem dX8_begins_63 : decode cX8_begins 63 = .ok (.aload_n 0, 1) := by decide +kernel
theorem dX8_begins_64 : decode cX8_begins 64 = .ok (.getfield 13, 3) := by decide +kernel
theorem dX8_begins_67 : decode cX8_begins 67 = .ok (.iload_n 1, 1) := by decide +kernel
theorem dX8_begins_68 : decode cX8_begins 68 = .ok (.aload_n 0, 1) := by decide +kernel
theorem dX8_begins_69 : decode cX8_begins 69 = .ok (.getfield 35, 3) := by decide +kernel
theorem dX8_begins_72 : decode cX8_begins 72 = .ok (.iload_n 1, 1) := by decide +kernel
theorem dX8_begins_73 : decode cX8_begins 73 = .ok (.iaload, 1) := by decide +kernel
theorem dX8_begins_74 : decode cX8_begins 74 = .ok (.iastore, 1) := by decide +kernel
theorem dX8_begins_75 : decode cX8_begins 75 = .ok (.aload_n 0, 1) := by decide +kernel
theorem dX8_begins_76 : decode cX8_begins 76 = .ok (.getfield 7, 3) := by decide +kernel
theorem dX8_begins_79 : decode cX8_begins 79 = .ok (.bipush 48, 2) := by decide +kernel
theorem dX8_begins_81 : decode cX8_begins 81 = .ok (.iload_n 1, 1) := by decide +kernel
theorem dX8_begins_82 : decode cX8_begins 82 = .ok (.iadd, 1) := by decide +kernel
theorem dX8_begins_83 : decode cX8_begins 83 = .ok (.aload_n 0, 1) := by decide +kernel
theorem dX8_begins_84 : decode cX8_begins 84 = .ok (.getfield 32, 3) := by decide +kernel
theorem dX8_begins_87 : decode cX8_begins 87 = .ok (.iload_n 1, 1) := by decide +kernel
theorem dX8_begins_88 : decode cX8_begins 88 = .ok (.iaload, 1) := by decide +kernel
theorem dX8_begins_89 : decode cX8_begins 89 = .ok (.iastore, 1) := by decide +kernel
theorem dX8_begins_90 : decode cX8_begins 90 = .ok (.aload_n 0, 1) := by decide +kernel
theorem dX8_begins_91 : decode cX8_begins 91 = .ok (.getfield 7, 3) := by decide +kernel
theorem dX8_begins_94 : decode cX8_begins 94 = .ok (.bipush 57, 2) := by decide +kernel
theorem dX8_begins_96 : decode cX8_begins 96 = .ok (.iload_n 1, 1) := by decide +kernel
theorem dX8_begins_97 : decode cX8_begins 97 = .ok (.iadd, 1) := by decide +kernel
theorem dX8_begins_98 : decode cX8_begins 98 = .ok (.aload_n 0, 1) := by decide +kernel
theorem dX8_begins_99 : decode cX8_begins 99 = .ok (.getfield 29, 3) := by decide +kernel
theorem dX8_begins_102 : decode cX8_begins 102 = .ok (.iload_n 1, 1) := by decide +kernel
theorem dX8_begins_103 : decode cX8_begins 103 = .ok (.iaload, 1) := by decide +kernel
theorem dX8_begins_104 : decode cX8_begins 104 = .ok (.iastore, 1) := by decide +kernel
theorem dX8_begins_105 : decode cX8_begins 105 = .ok (.aload_n 0, 1) := by decide +kernel
theorem dX8_begins_106 : decode cX8_begins 106 = .ok (.getfield 7, 3) := by decide +kernel
theorem dX8_begins_109 : decode cX8_begins 109 = .ok (.bipush 30, 2) := by decide +kernel
theorem dX8_begins_111 : decode cX8_begins 111 = .ok (.iload_n 1, 1) := by decide +kernel
theorem dX8_begins_112 : decode cX8_begins 112 = .ok (.iadd, 1) := by decide +kernel
theorem dX8_begins_113 : decode cX8_begins 113 = .ok (.bipush (-4), 2) := by decide +kernel
theorem dX8_begins_115 : decode cX8_begins 115 = .ok (.iastore, 1) := by decide +kernel
theorem dX8_begins_116 : decode cX8_begins 116 = .ok (.aload_n 0, 1) := by decide +kernel
theorem dX8_begins_117 : decode cX8_begins 117 = .ok (.getfield 7, 3) := by decide +kernel
theorem dX8_begins_120 : decode cX8_begins 120 = .ok (.bipush 39, 2) := by decide +kernel
theorem dX8_begins_122 : decode cX8_begins 122 = .ok (.iload_n 1, 1) := by decide +kernel
theorem dX8_begins_123 : decode cX8_begins 123 = .ok (.iadd, 1) := by decide +kernel
theorem dX8_begins_124 : decode cX8_begins 124 = .ok (.bipush (-4), 2) := by decide +kernel
theorem dX8_begins_126 : decode cX8_begins 126 = .ok (.iastore, 1) := by decide +kernel
theorem dX8_begins_127 : decode cX8_begins 127 = .ok (.iinc 1 1, 3) := by decide +kernel
theorem dX8_begins_130 : decode cX8_begins 130 = .ok (.goto (-75), 3) := by decide +kernel
theorem dX8_begins_133 : decode cX8_begins 133 = .ok (.aload_n 0, 1) := by decide +kernel
theorem dX8_begins_134 : decode cX8_begins 134 = .ok (.iconst 0, 1) := by decide +kernel
theorem dX8_begins_135 : decode cX8_begins 135 = .ok (.putfield 83, 3) := by decide +kernel
theorem dX8_begins_138 : decode cX8_begins 138 = .ok (.aload_n 0, 1) := by decide +kernel
theorem dX8_begins_139 : decode cX8_begins 139 = .ok (.iconst 0, 1) := by decide +kernel
theorem dX8_begins_140 : decode cX8_begins 140 = .ok (.putfield 86, 3) := by decide +kernel
theorem dX8_begins_143 : decode cX8_begins 143 = .ok (.aload_n 0, 1) := by decide +kernel
theorem dX8_begins_144 : decode cX8_begins 144 = .ok (.iconst 0, 1) := by decide +kernel
theorem dX8_begins_145 : decode cX8_begins 145 = .ok (.putfield 89, 3) := by decide +kernel
theorem dX8_begins_148 : decode cX8_begins 148 = .ok (.return_, 1) := by decide +kernel
theorem dX8_write_0 : decode cX8_write 0 = .ok (.iload_n 1, 1) := by decide +kernel
theorem dX8_write_1 : decode cX8_write 1 = .ok (.i2l, 1) := by decide +kernel
theorem dX8_write_2 : decode cX8_write 2 = .ok (.ldc2_w 92, 3) := by decide +kernel
theorem dX8_write_5 : decode cX8_write 5 = .ok (.ldc2_w 94, 3) := by decide +kernel
theorem dX8_write_8 : decode cX8_write 8 = .ok (.invokestatic 70, 3) := by decide +kernel
theorem dX8_write_11 : decode cX8_write 11 = .ok (.ifCond .ne 5, 3) := by decide +kernel
theorem dX8_write_14 : decode cX8_write 14 = .ok (.iconst (-1), 1) := by decide +kernel
theorem dX8_write_15 : decode cX8_write 15 = .ok (.ireturn, 1) := by decide +kernel
theorem dX8_write_16 : decode cX8_write 16 = .ok (.aload_n 0, 1) := by decide +kernel
theorem dX8_write_17 : decode cX8_write 17 = .ok (.getfield 96, 3) := by decide +kernel
theorem dX8_write_20 : decode cX8_write 20 = .ok (.sipush 200, 3) := by decide +kernel
theorem dX8_write_23 : decode cX8_write 23 = .ok (.if_icmp .ne 6, 3) := by decide +kernel
theorem dX8_write_26 : decode cX8_write 26 = .ok (.bipush (-3), 2) := by decide +kernel
theorem dX8_write_28 : decode cX8_write 28 = .ok (.ireturn, 1) := by decide +kernel
theorem dX8_write_29 : decode cX8_write 29 = .ok (.aload_n 0, 1) := by decide +kernel
theorem dX8_write_30 : decode cX8_write 30 = .ok (.getfield 26, 3) := by decide +kernel
theorem dX8_write_33 : decode cX8_write 33 = .ok (.aload_n 0, 1) := by decide +kernel
theorem dX8_write_34 : decode cX8_write 34 = .ok (.getfield 96, 3) := by decide +kernel
theorem dX8_write_37 : decode cX8_write 37 = .ok (.iload_n 1, 1) := by decide +kernel
theorem dX8_write_38 : decode cX8_write 38 = .ok (.iastore, 1) := by decide +kernel
theorem dX8_write_39 : decode cX8_write 39 = .ok (.aload_n 0, 1) := by decide +kernel
theorem dX8_write_40 : decode cX8_write 40 = .ok (.dup, 1) := by decide +kernel
theorem dX8_write_41 : decode cX8_write 41 = .ok (.getfield 96, 3) := by decide +kernel
theorem dX8_write_44 : decode cX8_write 44 = .ok (.iconst 1, 1) := by decide +kernel
theorem dX8_write_45 : decode cX8_write 45 = .ok (.iadd, 1) := by decide +kernel
theorem dX8_write_46 : decode cX8_write 46 = .ok (.putfield 96, 3) := by decide +kernel
theorem dX8_write_49 : decode cX8_write 49 = .ok (.aload_n 0, 1) := by decide +kernel
theorem dX8_write_50 : decode cX8_write 50 = .ok (.getfield 96, 3) := by decide +kernel
theorem dX8_write_53 : decode cX8_write 53 = .ok (.ireturn, 1) := by decide +kernel
theorem dX8_wipe_0 : decode cX8_wipe 0 = .ok (.aload_n 0, 1) := by decide +kernel
theorem dX8_wipe_1 : decode cX8_wipe 1 = .ok (.getfield 96, 3) := by decide +kernel
theorem dX8_wipe_4 : decode cX8_wipe 4 = .ok (.istore_n 1, 1) := by decide +kernel
theorem dX8_wipe_5 : decode cX8_wipe 5 = .ok (.aload_n 0, 1) := by decide +kernel
theorem dX8_wipe_6 : decode cX8_wipe 6 = .ok (.iconst 0, 1) := by decide +kernel
theorem dX8_wipe_7 : decode cX8_wipe 7 = .ok (.putfield 96, 3) := by decide +kernel
theorem dX8_wipe_10 : decode cX8_wipe 10 = .ok (.iload_n 1, 1) := by decide +kernel
theorem dX8_wipe_11 : decode cX8_wipe 11 = .ok (.ireturn, 1) := by decide +kernel
theorem dX8_letterAt_0 : decode cX8_letterAt 0 = .ok (.iload_n 1, 1) := by decide +kernel
theorem dX8_letterAt_1 : decode cX8_letterAt 1 = .ok (.aload_n 0, 1) := by decide +kernel
theorem dX8_letterAt_2 : decode cX8_letterAt 2 = .ok (.getfield 96, 3) := by decide +kernel
theorem dX8_letterAt_5 : decode cX8_letterAt 5 = .ok (.if_icmp .ge 12, 3) := by decide +kernel
theorem dX8_letterAt_8 : decode cX8_letterAt 8 = .ok (.aload_n 0, 1) := by decide +kernel
theorem dX8_letterAt_9 : decode cX8_letterAt 9 = .ok (.getfield 26, 3) := by decide +kernel
theorem dX8_letterAt_12 : decode cX8_letterAt 12 = .ok (.iload_n 1, 1) := by decide +kernel
theorem dX8_letterAt_13 : decode cX8_letterAt 13 = .ok (.iaload, 1) := by decide +kernel
theorem dX8_letterAt_14 : decode cX8_letterAt 14 = .ok (.goto 4, 3) := by decide +kernel
theorem dX8_letterAt_17 : decode cX8_letterAt 17 = .ok (.iconst (-1), 1) := by decide +kernel
theorem dX8_letterAt_18 : decode cX8_letterAt 18 = .ok (.ireturn, 1) := by decide +kernel
theorem dX8_takesNumber_0 : decode cX8_takesNumber 0 = .ok (.aload_n 0, 1) := by decide +kernel
theorem dX8_takesNumber_1 : decode cX8_takesNumber 1 = .ok (.getfield 99, 3) := by decide +kernel
theorem dX8_takesNumber_4 : decode cX8_takesNumber 4 = .ok (.istore 4, 2) := by decide +kernel
theorem dX8_takesNumber_6 : decode cX8_takesNumber 6 = .ok (.aload_n 0, 1) := by decide +kernel
theorem dX8_takesNumber_7 : decode cX8_takesNumber 7 = .ok (.iconst 0, 1) := by decide +kernel
theorem dX8_takesNumber_8 : decode cX8_takesNumber 8 = .ok (.putfield 102, 3) := by decide +kernel
theorem dX8_takesNumber_11 : decode cX8_takesNumber 11 = .ok (.aload_n 0, 1) := by decide +kernel
theorem dX8_takesNumber_12 : decode cX8_takesNumber 12 = .ok (.getfield 99, 3) := by decide +kernel
theorem dX8_takesNumber_15 : decode cX8_takesNumber 15 = .ok (.iload 4, 2) := by decide +kernel
theorem dX8_takesNumber_17 : decode cX8_takesNumber 17 = .ok (.isub, 1) := by decide +kernel
theorem dX8_takesNumber_18 : decode cX8_takesNumber 18 = .ok (.iconst 2, 1) := by decide +kernel
theorem dX8_takesNumber_19 : decode cX8_takesNumber 19 = .ok (.if_icmp .ge 60, 3) := by decide +kernel
theorem dX8_takesNumber_22 : decode cX8_takesNumber 22 = .ok (.aload_n 0, 1) := by decide +kernel
theorem dX8_takesNumber_23 : decode cX8_takesNumber 23 = .ok (.aload_n 0, 1) := by decide +kernel
theorem dX8_takesNumber_24 : decode cX8_takesNumber 24 = .ok (.getfield 99, 3) := by decide +kernel
theorem dX8_takesNumber_27 : decode cX8_takesNumber 27 = .ok (.invokevirtual 105, 3) := by decide +kernel
theorem dX8_takesNumber_30 : decode cX8_takesNumber 30 = .ok (.i2l, 1) := by decide +kernel
theorem dX8_takesNumber_31 : decode cX8_takesNumber 31 = .ok (.ldc2_w 109, 3) := by decide +kernel
theorem dX8_takesNumber_34 : decode cX8_takesNumber 34 = .ok (.ldc2_w 111, 3) := by decide +kernel
theorem dX8_takesNumber_37 : decode cX8_takesNumber 37 = .ok (.invokestatic 70, 3) := by decide +kernel
theorem dX8_takesNumber_40 : decode cX8_takesNumber 40 = .ok (.ifCond .eq 39, 3) := by decide +kernel
theorem dX8_takesNumber_43 : decode cX8_takesNumber 43 = .ok (.aload_n 0, 1) := by decide +kernel
theorem dX8_takesNumber_44 : decode cX8_takesNumber 44 = .ok (.bipush 10, 2) := by decide +kernel
theorem dX8_takesNumber_46 : decode cX8_takesNumber 46 = .ok (.aload_n 0, 1) := by decide +kernel
theorem dX8_takesNumber_47 : decode cX8_takesNumber 47 = .ok (.getfield 102, 3) := by decide +kernel
theorem dX8_takesNumber_50 : decode cX8_takesNumber 50 = .ok (.imul, 1) := by decide +kernel
theorem dX8_takesNumber_51 : decode cX8_takesNumber 51 = .ok (.aload_n 0, 1) := by decide +kernel
theorem dX8_takesNumber_52 : decode cX8_takesNumber 52 = .ok (.aload_n 0, 1) := by decide +kernel
theorem dX8_takesNumber_53 : decode cX8_takesNumber 53 = .ok (.getfield 99, 3) := by decide +kernel
theorem dX8_takesNumber_56 : decode cX8_takesNumber 56 = .ok (.invokevirtual 105, 3) := by decide +kernel
theorem dX8_takesNumber_59 : decode cX8_takesNumber 59 = .ok (.iadd, 1) := by decide +kernel
theorem dX8_takesNumber_60 : decode cX8_takesNumber 60 = .ok (.bipush 48, 2) := by decide +kernel
theorem dX8_takesNumber_62 : decode cX8_takesNumber 62 = .ok (.isub, 1) := by decide +kernel
theorem dX8_takesNumber_63 : decode cX8_takesNumber 63 = .ok (.putfield 102, 3) := by decide +kernel
theorem dX8_takesNumber_66 : decode cX8_takesNumber 66 = .ok (.aload_n 0, 1) := by decide +kernel
theorem dX8_takesNumber_67 : decode cX8_takesNumber 67 = .ok (.dup, 1) := by decide +kernel
theorem dX8_takesNumber_68 : decode cX8_takesNumber 68 = .ok (.getfield 99, 3) := by decide +kernel
theorem dX8_takesNumber_71 : decode cX8_takesNumber 71 = .ok (.iconst 1, 1) := by decide +kernel
theorem dX8_takesNumber_72 : decode cX8_takesNumber 72 = .ok (.iadd, 1) := by decide +kernel
theorem dX8_takesNumber_73 : decode cX8_takesNumber 73 = .ok (.putfield 99, 3) := by decide +kernel
theorem dX8_takesNumber_76 : decode cX8_takesNumber 76 = .ok (.goto (-65), 3) := by decide +kernel
theorem dX8_takesNumber_79 : decode cX8_takesNumber 79 = .ok (.aload_n 0, 1) := by decide +kernel
theorem dX8_takesNumber_80 : decode cX8_takesNumber 80 = .ok (.getfield 99, 3) := by decide +kernel
theorem dX8_takesNumber_83 : decode cX8_takesNumber 83 = .ok (.iload 4, 2) := by decide +kernel
theorem dX8_takesNumber_85 : decode cX8_takesNumber 85 = .ok (.if_icmp .eq 30, 3) := by decide +kernel
theorem dX8_takesNumber_88 : decode cX8_takesNumber 88 = .ok (.aload_n 0, 1) := by decide +kernel
theorem dX8_takesNumber_89 : decode cX8_takesNumber 89 = .ok (.getfield 102, 3) := by decide +kernel
theorem dX8_takesNumber_92 : decode cX8_takesNumber 92 = .ok (.i2l, 1) := by decide +kernel
theorem dX8_takesNumber_93 : decode cX8_takesNumber 93 = .ok (.iload_n 1, 1) := by decide +kernel
theorem dX8_takesNumber_94 : decode cX8_takesNumber 94 = .ok (.i2l, 1) := by decide +kernel
theorem dX8_takesNumber_95 : decode cX8_takesNumber 95 = .ok (.iload_n 2, 1) := by decide +kernel
theorem dX8_takesNumber_96 : decode cX8_takesNumber 96 = .ok (.i2l, 1) := by decide +kernel
theorem dX8_takesNumber_97 : decode cX8_takesNumber 97 = .ok (.invokestatic 70, 3) := by decide +kernel
theorem dX8_takesNumber_100 : decode cX8_takesNumber 100 = .ok (.ifCond .eq 15, 3) := by decide +kernel
theorem dX8_takesNumber_103 : decode cX8_takesNumber 103 = .ok (.aload_n 0, 1) := by decide +kernel
theorem dX8_takesNumber_104 : decode cX8_takesNumber 104 = .ok (.aload_n 0, 1) := by decide +kernel
theorem dX8_takesNumber_105 : decode cX8_takesNumber 105 = .ok (.getfield 99, 3) := by decide +kernel
theorem dX8_takesNumber_108 : decode cX8_takesNumber 108 = .ok (.invokevirtual 105, 3) := by decide +kernel
theorem dX8_takesNumber_111 : decode cX8_takesNumber 111 = .ok (.iload_n 3, 1) := by decide +kernel
theorem dX8_takesNumber_112 : decode cX8_takesNumber 112 = .ok (.if_icmp .eq 5, 3) := by decide +kernel
theorem dX8_takesNumber_115 : decode cX8_takesNumber 115 = .ok (.iconst 0, 1) := by decide +kernel
theorem dX8_takesNumber_116 : decode cX8_takesNumber 116 = .ok (.ireturn, 1) := by decide +kernel
theorem dX8_takesNumber_117 : decode cX8_takesNumber 117 = .ok (.aload_n 0, 1) := by decide +kernel
theorem dX8_takesNumber_118 : decode cX8_takesNumber 118 = .ok (.dup, 1) := by decide +kernel
theorem dX8_takesNumber_119 : decode cX8_takesNumber 119 = .ok (.getfield 99, 3) := by decide +kernel
theorem dX8_takesNumber_122 : decode cX8_takesNumber 122 = .ok (.iconst 1, 1) := by decide +kernel
theorem dX8_takesNumber_123 : decode cX8_takesNumber 123 = .ok (.iadd, 1) := by decide +kernel
theorem dX8_takesNumber_124 : decode cX8_takesNumber 124 = .ok (.putfield 99, 3) := by decide +kernel
theorem dX8_takesNumber_127 : decode cX8_takesNumber 127 = .ok (.iconst 1, 1) := by decide +kernel
theorem dX8_takesNumber_128 : decode cX8_takesNumber 128 = .ok (.ireturn, 1) := by decide +kernel
theorem dX8_takesPerson_0 : decode cX8_takesPerson 0 = .ok (.aload_n 0, 1) := by decide +kernel
theorem dX8_takesPerson_1 : decode cX8_takesPerson 1 = .ok (.getfield 47, 3) := by decide +kernel
theorem dX8_takesPerson_4 : decode cX8_takesPerson 4 = .ok (.bipush 9, 2) := by decide +kernel
theorem dX8_takesPerson_6 : decode cX8_takesPerson 6 = .ok (.if_icmp .eq 14, 3) := by decide +kernel
theorem dX8_takesPerson_9 : decode cX8_takesPerson 9 = .ok (.aload_n 0, 1) := by decide +kernel
theorem dX8_takesPerson_10 : decode cX8_takesPerson 10 = .ok (.iconst 0, 1) := by decide +kernel
theorem dX8_takesPerson_11 : decode cX8_takesPerson 11 = .ok (.iconst 3, 1) := by decide +kernel
theorem dX8_takesPerson_12 : decode cX8_takesPerson 12 = .ok (.bipush 44, 2) := by decide +kernel
theorem dX8_takesPerson_14 : decode cX8_takesPerson 14 = .ok (.invokevirtual 113, 3) := by decide +kernel
theorem dX8_takesPerson_17 : decode cX8_takesPerson 17 = .ok (.ifCond .ne 5, 3) := by decide +kernel
theorem dX8_takesPerson_20 : decode cX8_takesPerson 20 = .ok (.iconst 0, 1) := by decide +kernel
theorem dX8_takesPerson_21 : decode cX8_takesPerson 21 = .ok (.ireturn, 1) := by decide +kernel
theorem dX8_takesPerson_22 : decode cX8_takesPerson 22 = .ok (.aload_n 0, 1) := by decide +kernel
theorem dX8_takesPerson_23 : decode cX8_takesPerson 23 = .ok (.getfield 102, 3) := by decide +kernel
theorem dX8_takesPerson_26 : decode cX8_takesPerson 26 = .ok (.istore_n 1, 1) := by decide +kernel
theorem dX8_takesPerson_27 : decode cX8_takesPerson 27 = .ok (.aload_n 0, 1) := by decide +kernel
theorem dX8_takesPerson_28 : decode cX8_takesPerson 28 = .ok (.iconst 0, 1) := by decide +kernel
theorem dX8_takesPerson_29 : decode cX8_takesPerson 29 = .ok (.bipush 99, 2) := by decide +kernel
theorem dX8_takesPerson_31 : decode cX8_takesPerson 31 = .ok (.bipush 44, 2) := by decide +kernel
theorem dX8_takesPerson_33 : decode cX8_takesPerson 33 = .ok (.invokevirtual 113, 3) := by decide +kernel
theorem dX8_takesPerson_36 : decode cX8_takesPerson 36 = .ok (.ifCond .ne 5, 3) := by decide +kernel
theorem dX8_takesPerson_39 : decode cX8_takesPerson 39 = .ok (.iconst 0, 1) := by decide +kernel
theorem dX8_takesPerson_40 : decode cX8_takesPerson 40 = .ok (.ireturn, 1) := by decide +kernel
theorem dX8_takesPerson_41 : decode cX8_takesPerson 41 = .ok (.aload_n 0, 1) := by decide +kernel
theorem dX8_takesPerson_42 : decode cX8_takesPerson 42 = .ok (.getfield 102, 3) := by decide +kernel
theorem dX8_takesPerson_45 : decode cX8_takesPerson 45 = .ok (.istore_n 2, 1) := by decide +kernel
theorem dX8_takesPerson_46 : decode cX8_takesPerson 46 = .ok (.aload_n 0, 1) := by decide +kernel
theorem dX8_takesPerson_47 : decode cX8_takesPerson 47 = .ok (.iconst 0, 1) := by decide +kernel
theorem dX8_takesPerson_48 : decode cX8_takesPerson 48 = .ok (.iconst 4, 1) := by decide +kernel
theorem dX8_takesPerson_49 : decode cX8_takesPerson 49 = .ok (.bipush 59, 2) := by decide +kernel
theorem dX8_takesPerson_51 : decode cX8_takesPerson 51 = .ok (.invokevirtual 113, 3) := by decide +kernel
theorem dX8_takesPerson_54 : decode cX8_takesPerson 54 = .ok (.ifCond .ne 5, 3) := by decide +kernel
theorem dX8_takesPerson_57 : decode cX8_takesPerson 57 = .ok (.iconst 0, 1) := by decide +kernel
theorem dX8_takesPerson_58 : decode cX8_takesPerson 58 = .ok (.ireturn, 1) := by decide +kernel
theorem dX8_takesPerson_59 : decode cX8_takesPerson 59 = .ok (.iconst 0, 1) := by decide +kernel
theorem dX8_takesPerson_60 : decode cX8_takesPerson 60 = .ok (.istore_n 3, 1) := by decide +kernel
theorem dX8_takesPerson_61 : decode cX8_takesPerson 61 = .ok (.iconst 0, 1) := by decide +kernel
theorem dX8_takesPerson_62 : decode cX8_takesPerson 62 = .ok (.istore 4, 2) := by decide +kernel
theorem dX8_takesPerson_64 : decode cX8_takesPerson 64 = .ok (.iload 4, 2) := by decide +kernel
theorem dX8_takesPerson_66 : decode cX8_takesPerson 66 = .ok (.aload_n 0, 1) := by decide +kernel
theorem dX8_takesPerson_67 : decode cX8_takesPerson 67 = .ok (.getfield 47, 3) := by decide +kernel
theorem dX8_takesPerson_70 : decode cX8_takesPerson 70 = .ok (.if_icmp .ge 38, 3) := by decide +kernel
theorem dX8_takesPerson_73 : decode cX8_takesPerson 73 = .ok (.iload_n 3, 1) := by decide +kernel
theorem dX8_takesPerson_74 : decode cX8_takesPerson 74 = .ok (.aload_n 0, 1) := by decide +kernel
theorem dX8_takesPerson_75 : decode cX8_takesPerson 75 = .ok (.getfield 102, 3) := by decide +kernel
theorem dX8_takesPerson_78 : decode cX8_takesPerson 78 = .ok (.ifCond .le 21, 3) := by decide +kernel
theorem dX8_takesPerson_81 : decode cX8_takesPerson 81 = .ok (.aload_n 0, 1) := by decide +kernel
theorem dX8_takesPerson_82 : decode cX8_takesPerson 82 = .ok (.getfield 35, 3) := by decide +kernel
theorem dX8_takesPerson_85 : decode cX8_takesPerson 85 = .ok (.iload 4, 2) := by decide +kernel
theorem dX8_takesPerson_87 : decode cX8_takesPerson 87 = .ok (.iaload, 1) := by decide +kernel
theorem dX8_takesPerson_88 : decode cX8_takesPerson 88 = .ok (.aload_n 0, 1) := by decide +kernel
theorem dX8_takesPerson_89 : decode cX8_takesPerson 89 = .ok (.getfield 102, 3) := by decide +kernel
theorem dX8_takesPerson_92 : decode cX8_takesPerson 92 = .ok (.if_icmp .ne 7, 3) := by decide +kernel
theorem dX8_takesPerson_95 : decode cX8_takesPerson 95 = .ok (.iconst 1, 1) := by decide +kernel
theorem dX8_takesPerson_96 : decode cX8_takesPerson 96 = .ok (.goto 4, 3) := by decide +kernel
theorem dX8_takesPerson_99 : decode cX8_takesPerson 99 = .ok (.iconst 0, 1) := by decide +kernel
theorem dX8_takesPerson_100 : decode cX8_takesPerson 100 = .ok (.iadd, 1) := by decide +kernel
theorem dX8_takesPerson_101 : decode cX8_takesPerson 101 = .ok (.istore_n 3, 1) := by decide +kernel
theorem dX8_takesPerson_102 : decode cX8_takesPerson 102 = .ok (.iinc 4 1, 3) := by decide +kernel
theorem dX8_takesPerson_105 : decode cX8_takesPerson 105 = .ok (.goto (-41), 3) := by decide +kernel
theorem dX8_takesPerson_108 : decode cX8_takesPerson 108 = .ok (.iload_n 3, 1) := by decide +kernel
theorem dX8_takesPerson_109 : decode cX8_takesPerson 109 = .ok (.iconst 5, 1) := by decide +kernel
theorem dX8_takesPerson_110 : decode cX8_takesPerson 110 = .ok (.if_icmp .ne 5, 3) := by decide +kernel
theorem dX8_takesPerson_113 : decode cX8_takesPerson 113 = .ok (.iconst 0, 1) := by decide +kernel
theorem dX8_takesPerson_114 : decode cX8_takesPerson 114 = .ok (.ireturn, 1) := by decide +kernel
theorem dX8_takesPerson_115 : decode cX8_takesPerson 115 = .ok (.aload_n 0, 1) := by decide +kernel
theorem dX8_takesPerson_116 : decode cX8_takesPerson 116 = .ok (.iload_n 1, 1) := by decide +kernel
theorem dX8_takesPerson_117 : decode cX8_takesPerson 117 = .ok (.iload_n 2, 1) := by decide +kernel
theorem dX8_takesPerson_118 : decode cX8_takesPerson 118 = .ok (.aload_n 0, 1) := by decide +kernel
theorem dX8_takesPerson_119 : decode cX8_takesPerson 119 = .ok (.getfield 102, 3) := by decide +kernel
theorem dX8_takesPerson_122 : decode cX8_takesPerson 122 = .ok (.invokevirtual 51, 3) := by decide +kernel
theorem dX8_takesPerson_125 : decode cX8_takesPerson 125 = .ok (.iconst 1, 1) := by decide +kernel
theorem dX8_takesPerson_126 : decode cX8_takesPerson 126 = .ok (.ireturn, 1) := by decide +kernel
theorem dX8_takesBaker_0 : decode cX8_takesBaker 0 = .ok (.aload_n 0, 1) := by decide +kernel
theorem dX8_takesBaker_1 : decode cX8_takesBaker 1 = .ok (.iconst 1, 1) := by decide +kernel
theorem dX8_takesBaker_2 : decode cX8_takesBaker 2 = .ok (.bipush 9, 2) := by decide +kernel
theorem dX8_takesBaker_4 : decode cX8_takesBaker 4 = .ok (.bipush 44, 2) := by decide +kernel
theorem dX8_takesBaker_6 : decode cX8_takesBaker 6 = .ok (.invokevirtual 113, 3) := by decide +kernel
theorem dX8_takesBaker_9 : decode cX8_takesBaker 9 = .ok (.ifCond .ne 5, 3) := by decide +kernel
theorem dX8_takesBaker_12 : decode cX8_takesBaker 12 = .ok (.iconst 0, 1) := by decide +kernel
theorem dX8_takesBaker_13 : decode cX8_takesBaker 13 = .ok (.ireturn, 1) := by decide +kernel
theorem dX8_takesBaker_14 : decode cX8_takesBaker 14 = .ok (.aload_n 0, 1) := by decide +kernel
theorem dX8_takesBaker_15 : decode cX8_takesBaker 15 = .ok (.getfield 102, 3) := by decide +kernel
theorem dX8_takesBaker_18 : decode cX8_takesBaker 18 = .ok (.istore_n 1, 1) := by decide +kernel
theorem dX8_takesBaker_19 : decode cX8_takesBaker 19 = .ok (.aload_n 0, 1) := by decide +kernel
theorem dX8_takesBaker_20 : decode cX8_takesBaker 20 = .ok (.iconst 0, 1) := by decide +kernel
theorem dX8_takesBaker_21 : decode cX8_takesBaker 21 = .ok (.bipush 40, 2) := by decide +kernel
theorem dX8_takesBaker_23 : decode cX8_takesBaker 23 = .ok (.bipush 59, 2) := by decide +kernel
theorem dX8_takesBaker_25 : decode cX8_takesBaker 25 = .ok (.invokevirtual 113, 3) := by decide +kernel
theorem dX8_takesBaker_28 : decode cX8_takesBaker 28 = .ok (.ifCond .ne 5, 3) := by decide +kernel
theorem dX8_takesBaker_31 : decode cX8_takesBaker 31 = .ok (.iconst 0, 1) := by decide +kernel
theorem dX8_takesBaker_32 : decode cX8_takesBaker 32 = .ok (.ireturn, 1) := by decide +kernel
theorem dX8_takesBaker_33 : decode cX8_takesBaker 33 = .ok (.aload_n 0, 1) := by decide +kernel
theorem dX8_takesBaker_34 : decode cX8_takesBaker 34 = .ok (.iload_n 1, 1) := by decide +kernel
theorem dX8_takesBaker_35 : decode cX8_takesBaker 35 = .ok (.putfield 55, 3) := by decide +kernel
theorem dX8_takesBaker_38 : decode cX8_takesBaker 38 = .ok (.aload_n 0, 1) := by decide +kernel
theorem dX8_takesBaker_39 : decode cX8_takesBaker 39 = .ok (.aload_n 0, 1) := by decide +kernel
theorem dX8_takesBaker_40 : decode cX8_takesBaker 40 = .ok (.getfield 102, 3) := by decide +kernel
theorem dX8_takesBaker_43 : decode cX8_takesBaker 43 = .ok (.putfield 58, 3) := by decide +kernel
theorem dX8_takesBaker_46 : decode cX8_takesBaker 46 = .ok (.iconst 1, 1) := by decide +kernel
theorem dX8_takesBaker_47 : decode cX8_takesBaker 47 = .ok (.ireturn, 1) := by decide +kernel
theorem dX8_takesRumour_0 : decode cX8_takesRumour 0 = .ok (.aload_n 0, 1) := by decide +kernel
theorem dX8_takesRumour_1 : decode cX8_takesRumour 1 = .ok (.iconst 2, 1) := by decide +kernel
theorem dX8_takesRumour_2 : decode cX8_takesRumour 2 = .ok (.bipush 30, 2) := by decide +kernel
theorem dX8_takesRumour_4 : decode cX8_takesRumour 4 = .ok (.bipush 59, 2) := by decide +kernel
theorem dX8_takesRumour_6 : decode cX8_takesRumour 6 = .ok (.invokevirtual 113, 3) := by decide +kernel
theorem dX8_takesRumour_9 : decode cX8_takesRumour 9 = .ok (.ifCond .ne 5, 3) := by decide +kernel
theorem dX8_takesRumour_12 : decode cX8_takesRumour 12 = .ok (.iconst 0, 1) := by decide +kernel
theorem dX8_takesRumour_13 : decode cX8_takesRumour 13 = .ok (.ireturn, 1) := by decide +kernel
theorem dX8_takesRumour_14 : decode cX8_takesRumour 14 = .ok (.aload_n 0, 1) := by decide +kernel
theorem dX8_takesRumour_15 : decode cX8_takesRumour 15 = .ok (.aload_n 0, 1) := by decide +kernel
theorem dX8_takesRumour_16 : decode cX8_takesRumour 16 = .ok (.getfield 102, 3) := by decide +kernel
theorem dX8_takesRumour_19 : decode cX8_takesRumour 19 = .ok (.putfield 61, 3) := by decide +kernel
theorem dX8_takesRumour_22 : decode cX8_takesRumour 22 = .ok (.iconst 1, 1) := by decide +kernel
theorem dX8_takesRumour_23 : decode cX8_takesRumour 23 = .ok (.ireturn, 1) := by decide +kernel
theorem dX8_takesItem_0 : decode cX8_takesItem 0 = .ok (.aload_n 0, 1) := by decide +kernel
theorem dX8_takesItem_1 : decode cX8_takesItem 1 = .ok (.aload_n 0, 1) := by decide +kernel
theorem dX8_takesItem_2 : decode cX8_takesItem 2 = .ok (.getfield 99, 3) := by decide +kernel
theorem dX8_takesItem_5 : decode cX8_takesItem 5 = .ok (.invokevirtual 105, 3) := by decide +kernel
theorem dX8_takesItem_8 : decode cX8_takesItem 8 = .ok (.istore_n 1, 1) := by decide +kernel
theorem dX8_takesItem_9 : decode cX8_takesItem 9 = .ok (.aload_n 0, 1) := by decide +kernel
theorem dX8_takesItem_10 : decode cX8_takesItem 10 = .ok (.dup, 1) := by decide +kernel
theorem dX8_takesItem_11 : decode cX8_takesItem 11 = .ok (.getfield 99, 3) := by decide +kernel
theorem dX8_takesItem_14 : decode cX8_takesItem 14 = .ok (.iconst 1, 1) := by decide +kernel
theorem dX8_takesItem_15 : decode cX8_takesItem 15 = .ok (.iadd, 1) := by decide +kernel
theorem dX8_takesItem_16 : decode cX8_takesItem 16 = .ok (.putfield 99, 3) := by decide +kernel
theorem dX8_takesItem_19 : decode cX8_takesItem 19 = .ok (.iload_n 1, 1) := by decide +kernel
theorem dX8_takesItem_20 : decode cX8_takesItem 20 = .ok (.bipush 112, 2) := by decide +kernel
theorem dX8_takesItem_22 : decode cX8_takesItem 22 = .ok (.if_icmp .ne 10, 3) := by decide +kernel
theorem dX8_takesItem_25 : decode cX8_takesItem 25 = .ok (.aload_n 0, 1) := by decide +kernel
theorem dX8_takesItem_26 : decode cX8_takesItem 26 = .ok (.invokevirtual 117, 3) := by decide +kernel
theorem dX8_takesItem_29 : decode cX8_takesItem 29 = .ok (.goto 34, 3) := by decide +kernel
theorem dX8_takesItem_32 : decode cX8_takesItem 32 = .ok (.iload_n 1, 1) := by decide +kernel
theorem dX8_takesItem_33 : decode cX8_takesItem 33 = .ok (.bipush 98, 2) := by decide +kernel
theorem dX8_takesItem_35 : decode cX8_takesItem 35 = .ok (.if_icmp .ne 10, 3) := by decide +kernel
theorem dX8_takesItem_38 : decode cX8_takesItem 38 = .ok (.aload_n 0, 1) := by decide +kernel
theorem dX8_takesItem_39 : decode cX8_takesItem 39 = .ok (.invokevirtual 121, 3) := by decide +kernel
theorem dX8_takesItem_42 : decode cX8_takesItem 42 = .ok (.goto 21, 3) := by decide +kernel
theorem dX8_takesItem_45 : decode cX8_takesItem 45 = .ok (.iload_n 1, 1) := by decide +kernel
theorem dX8_takesItem_46 : decode cX8_takesItem 46 = .ok (.bipush 114, 2) := by decide +kernel
theorem dX8_takesItem_48 : decode cX8_takesItem 48 = .ok (.if_icmp .ne 14, 3) := by decide +kernel
theorem dX8_takesItem_51 : decode cX8_takesItem 51 = .ok (.aload_n 0, 1) := by decide +kernel
theorem dX8_takesItem_52 : decode cX8_takesItem 52 = .ok (.invokevirtual 124, 3) := by decide +kernel
theorem dX8_takesItem_55 : decode cX8_takesItem 55 = .ok (.ifCond .eq 7, 3) := by decide +kernel
theorem dX8_takesItem_58 : decode cX8_takesItem 58 = .ok (.iconst 1, 1) := by decide +kernel
theorem dX8_takesItem_59 : decode cX8_takesItem 59 = .ok (.goto 4, 3) := by decide +kernel
theorem dX8_takesItem_62 : decode cX8_takesItem 62 = .ok (.iconst 0, 1) := by decide +kernel
theorem dX8_takesItem_63 : decode cX8_takesItem 63 = .ok (.ireturn, 1) := by decide +kernel
theorem dX8_faultOf_0 : decode cX8_faultOf 0 = .ok (.aload_n 0, 1) := by decide +kernel
theorem dX8_faultOf_1 : decode cX8_faultOf 1 = .ok (.iconst 0, 1) := by decide +kernel
theorem dX8_faultOf_2 : decode cX8_faultOf 2 = .ok (.putfield 47, 3) := by decide +kernel
theorem dX8_faultOf_5 : decode cX8_faultOf 5 = .ok (.aload_n 0, 1) := by decide +kernel
theorem dX8_faultOf_6 : decode cX8_faultOf 6 = .ok (.iconst 2, 1) := by decide +kernel
theorem dX8_faultOf_7 : decode cX8_faultOf 7 = .ok (.putfield 55, 3) := by decide +kernel
theorem dX8_faultOf_10 : decode cX8_faultOf 10 = .ok (.aload_n 0, 1) := by decide +kernel
theorem dX8_faultOf_11 : decode cX8_faultOf 11 = .ok (.bipush 20, 2) := by decide +kernel
theorem dX8_faultOf_13 : decode cX8_faultOf 13 = .ok (.putfield 58, 3) := by decide +kernel
theorem dX8_faultOf_16 : decode cX8_faultOf 16 = .ok (.aload_n 0, 1) := by decide +kernel
theorem dX8_faultOf_17 : decode cX8_faultOf 17 = .ok (.iconst 0, 1) := by decide +kernel
theorem dX8_faultOf_18 : decode cX8_faultOf 18 = .ok (.putfield 61, 3) := by decide +kernel
theorem dX8_faultOf_21 : decode cX8_faultOf 21 = .ok (.aload_n 0, 1) := by decide +kernel
theorem dX8_faultOf_22 : decode cX8_faultOf 22 = .ok (.iconst 0, 1) := by decide +kernel
theorem dX8_faultOf_23 : decode cX8_faultOf 23 = .ok (.putfield 99, 3) := by decide +kernel
theorem dX8_faultOf_26 : decode cX8_faultOf 26 = .ok (.aload_n 0, 1) := by decide +kernel
theorem dX8_faultOf_27 : decode cX8_faultOf 27 = .ok (.getfield 99, 3) := by decide +kernel
theorem dX8_faultOf_30 : decode cX8_faultOf 30 = .ok (.aload_n 0, 1) := by decide +kernel
theorem dX8_faultOf_31 : decode cX8_faultOf 31 = .ok (.getfield 96, 3) := by decide +kernel
theorem dX8_faultOf_34 : decode cX8_faultOf 34 = .ok (.if_icmp .ge 20, 3) := by decide +kernel
theorem dX8_faultOf_37 : decode cX8_faultOf 37 = .ok (.aload_n 0, 1) := by decide +kernel
theorem dX8_faultOf_38 : decode cX8_faultOf 38 = .ok (.getfield 99, 3) := by decide +kernel
theorem dX8_faultOf_41 : decode cX8_faultOf 41 = .ok (.istore_n 1, 1) := by decide +kernel
theorem dX8_faultOf_42 : decode cX8_faultOf 42 = .ok (.aload_n 0, 1) := by decide +kernel
theorem dX8_faultOf_43 : decode cX8_faultOf 43 = .ok (.invokevirtual 127, 3) := by decide +kernel
theorem dX8_faultOf_46 : decode cX8_faultOf 46 = .ok (.ifCond .ne 5, 3) := by decide +kernel
theorem dX8_faultOf_49 : decode cX8_faultOf 49 = .ok (.iload_n 1, 1) := by decide +kernel
theorem dX8_faultOf_50 : decode cX8_faultOf 50 = .ok (.ireturn, 1) := by decide +kernel
theorem dX8_faultOf_51 : decode cX8_faultOf 51 = .ok (.goto (-25), 3) := by decide +kernel
theorem dX8_faultOf_54 : decode cX8_faultOf 54 = .ok (.bipush (-4), 2) := by decide +kernel
theorem dX8_faultOf_56 : decode cX8_faultOf 56 = .ok (.ireturn, 1) := by decide +kernel
theorem dX8_fault_0 : decode cX8_fault 0 = .ok (.aload_n 0, 1) := by decide +kernel
theorem dX8_fault_1 : decode cX8_fault 1 = .ok (.invokevirtual 130, 3) := by decide +kernel
theorem dX8_fault_4 : decode cX8_fault 4 = .ok (.ireturn, 1) := by decide +kernel
theorem dX8_lay_0 : decode cX8_lay 0 = .ok (.aload_n 0, 1) := by decide +kernel
theorem dX8_lay_1 : decode cX8_lay 1 = .ok (.invokevirtual 130, 3) := by decide +kernel
theorem dX8_lay_4 : decode cX8_lay 4 = .ok (.bipush (-4), 2) := by decide +kernel
theorem dX8_lay_6 : decode cX8_lay 6 = .ok (.if_icmp .ne 10, 3) := by decide +kernel
theorem dX8_lay_9 : decode cX8_lay 9 = .ok (.aload_n 0, 1) := by decide +kernel
theorem dX8_lay_10 : decode cX8_lay 10 = .ok (.getfield 47, 3) := by decide +kernel
theorem dX8_lay_13 : decode cX8_lay 13 = .ok (.ifCond .ne 6, 3) := by decide +kernel
theorem dX8_lay_16 : decode cX8_lay 16 = .ok (.bipush (-2), 2) := by decide +kernel
theorem dX8_lay_18 : decode cX8_lay 18 = .ok (.ireturn, 1) := by decide +kernel
theorem dX8_lay_19 : decode cX8_lay 19 = .ok (.aload_n 0, 1) := by decide +kernel
theorem dX8_lay_20 : decode cX8_lay 20 = .ok (.invokevirtual 64, 3) := by decide +kernel
theorem dX8_lay_23 : decode cX8_lay 23 = .ok (.aload_n 0, 1) := by decide +kernel
theorem dX8_lay_24 : decode cX8_lay 24 = .ok (.getfield 67, 3) := by decide +kernel
theorem dX8_lay_27 : decode cX8_lay 27 = .ok (.ireturn, 1) := by decide +kernel
theorem dX8_placeOf_0 : decode cX8_placeOf 0 = .ok (.iconst 0, 1) := by decide +kernel
theorem dX8_placeOf_1 : decode cX8_placeOf 1 = .ok (.istore_n 3, 1) := by decide +kernel
theorem dX8_placeOf_2 : decode cX8_placeOf 2 = .ok (.iload_n 3, 1) := by decide +kernel
theorem dX8_placeOf_3 : decode cX8_placeOf 3 = .ok (.aload_n 0, 1) := by decide +kernel
theorem dX8_placeOf_4 : decode cX8_placeOf 4 = .ok (.getfield 7, 3) := by decide +kernel
theorem dX8_placeOf_7 : decode cX8_placeOf 7 = .ok (.iload_n 1, 1) := by decide +kernel
theorem dX8_placeOf_8 : decode cX8_placeOf 8 = .ok (.iconst 2, 1) := by decide +kernel
theorem dX8_placeOf_9 : decode cX8_placeOf 9 = .ok (.iadd, 1) := by decide +kernel
theorem dX8_placeOf_10 : decode cX8_placeOf 10 = .ok (.iaload, 1) := by decide +kernel
theorem dX8_placeOf_11 : decode cX8_placeOf 11 = .ok (.if_icmp .ge 25, 3) := by decide +kernel
theorem dX8_placeOf_14 : decode cX8_placeOf 14 = .ok (.aload_n 0, 1) := by decide +kernel
theorem dX8_placeOf_15 : decode cX8_placeOf 15 = .ok (.getfield 7, 3) := by decide +kernel
theorem dX8_placeOf_18 : decode cX8_placeOf 18 = .ok (.iload_n 1, 1) := by decide +kernel
theorem dX8_placeOf_19 : decode cX8_placeOf 19 = .ok (.iconst 3, 1) := by decide +kernel
theorem dX8_placeOf_20 : decode cX8_placeOf 20 = .ok (.iadd, 1) := by decide +kernel
theorem dX8_placeOf_21 : decode cX8_placeOf 21 = .ok (.iload_n 3, 1) := by decide +kernel
theorem dX8_placeOf_22 : decode cX8_placeOf 22 = .ok (.iadd, 1) := by decide +kernel
theorem dX8_placeOf_23 : decode cX8_placeOf 23 = .ok (.iaload, 1) := by decide +kernel
theorem dX8_placeOf_24 : decode cX8_placeOf 24 = .ok (.iload_n 2, 1) := by decide +kernel
theorem dX8_placeOf_25 : decode cX8_placeOf 25 = .ok (.if_icmp .ne 5, 3) := by decide +kernel
theorem dX8_placeOf_28 : decode cX8_placeOf 28 = .ok (.iload_n 3, 1) := by decide +kernel
theorem dX8_placeOf_29 : decode cX8_placeOf 29 = .ok (.ireturn, 1) := by decide +kernel
theorem dX8_placeOf_30 : decode cX8_placeOf 30 = .ok (.iinc 3 1, 3) := by decide +kernel
theorem dX8_placeOf_33 : decode cX8_placeOf 33 = .ok (.goto (-31), 3) := by decide +kernel
theorem dX8_placeOf_36 : decode cX8_placeOf 36 = .ok (.bipush (-4), 2) := by decide +kernel
theorem dX8_placeOf_38 : decode cX8_placeOf 38 = .ok (.ireturn, 1) := by decide +kernel
theorem dX8_stands_0 : decode cX8_stands 0 = .ok (.aload_n 0, 1) := by decide +kernel
theorem dX8_stands_1 : decode cX8_stands 1 = .ok (.getfield 7, 3) := by decide +kernel
theorem dX8_stands_4 : decode cX8_stands 4 = .ok (.iload_n 1, 1) := by decide +kernel
theorem dX8_stands_5 : decode cX8_stands 5 = .ok (.iconst 2, 1) := by decide +kernel
theorem dX8_stands_6 : decode cX8_stands 6 = .ok (.iadd, 1) := by decide +kernel
theorem dX8_stands_7 : decode cX8_stands 7 = .ok (.iaload, 1) := by decide +kernel
theorem dX8_stands_8 : decode cX8_stands 8 = .ok (.istore 4, 2) := by decide +kernel
theorem dX8_stands_10 : decode cX8_stands 10 = .ok (.iload 4, 2) := by decide +kernel
theorem dX8_stands_12 : decode cX8_stands 12 = .ok (.iload_n 3, 1) := by decide +kernel
theorem dX8_stands_13 : decode cX8_stands 13 = .ok (.if_icmp .le 33, 3) := by decide +kernel
theorem dX8_stands_16 : decode cX8_stands 16 = .ok (.aload_n 0, 1) := by decide +kernel
theorem dX8_stands_17 : decode cX8_stands 17 = .ok (.getfield 7, 3) := by decide +kernel
theorem dX8_stands_20 : decode cX8_stands 20 = .ok (.iload_n 1, 1) := by decide +kernel
theorem dX8_stands_21 : decode cX8_stands 21 = .ok (.iconst 3, 1) := by decide +kernel
theorem dX8_stands_22 : decode cX8_stands 22 = .ok (.iadd, 1) := by decide +kernel
theorem dX8_stands_23 : decode cX8_stands 23 = .ok (.iload 4, 2) := by decide +kernel
theorem dX8_stands_25 : decode cX8_stands 25 = .ok (.iadd, 1) := by decide +kernel
theorem dX8_stands_26 : decode cX8_stands 26 = .ok (.aload_n 0, 1) := by decide +kernel
theorem dX8_stands_27 : decode cX8_stands 27 = .ok (.getfield 7, 3) := by decide +kernel
theorem dX8_stands_30 : decode cX8_stands 30 = .ok (.iload_n 1, 1) := by decide +kernel
theorem dX8_stands_31 : decode cX8_stands 31 = .ok (.iconst 3, 1) := by decide +kernel
theorem dX8_stands_32 : decode cX8_stands 32 = .ok (.iadd, 1) := by decide +kernel
theorem dX8_stands_33 : decode cX8_stands 33 = .ok (.iload 4, 2) := by decide +kernel
theorem dX8_stands_35 : decode cX8_stands 35 = .ok (.iadd, 1) := by decide +kernel
theorem dX8_stands_36 : decode cX8_stands 36 = .ok (.iconst 1, 1) := by decide +kernel
theorem dX8_stands_37 : decode cX8_stands 37 = .ok (.isub, 1) := by decide +kernel
theorem dX8_stands_38 : decode cX8_stands 38 = .ok (.iaload, 1) := by decide +kernel
theorem dX8_stands_39 : decode cX8_stands 39 = .ok (.iastore, 1) := by decide +kernel
theorem dX8_stands_40 : decode cX8_stands 40 = .ok (.iinc 4 (-1), 3) := by decide +kernel
theorem dX8_stands_43 : decode cX8_stands 43 = .ok (.goto (-33), 3) := by decide +kernel
theorem dX8_stands_46 : decode cX8_stands 46 = .ok (.aload_n 0, 1) := by decide +kernel
theorem dX8_stands_47 : decode cX8_stands 47 = .ok (.getfield 7, 3) := by decide +kernel
theorem dX8_stands_50 : decode cX8_stands 50 = .ok (.iload_n 1, 1) := by decide +kernel
theorem dX8_stands_51 : decode cX8_stands 51 = .ok (.iconst 3, 1) := by decide +kernel
theorem dX8_stands_52 : decode cX8_stands 52 = .ok (.iadd, 1) := by decide +kernel
theorem dX8_stands_53 : decode cX8_stands 53 = .ok (.iload_n 3, 1) := by decide +kernel
theorem dX8_stands_54 : decode cX8_stands 54 = .ok (.iadd, 1) := by decide +kernel
theorem dX8_stands_55 : decode cX8_stands 55 = .ok (.iload_n 2, 1) := by decide +kernel
theorem dX8_stands_56 : decode cX8_stands 56 = .ok (.iastore, 1) := by decide +kernel
theorem dX8_stands_57 : decode cX8_stands 57 = .ok (.aload_n 0, 1) := by decide +kernel
theorem dX8_stands_58 : decode cX8_stands 58 = .ok (.getfield 7, 3) := by decide +kernel
theorem dX8_stands_61 : decode cX8_stands 61 = .ok (.iload_n 1, 1) := by decide +kernel
theorem dX8_stands_62 : decode cX8_stands 62 = .ok (.iconst 2, 1) := by decide +kernel
theorem dX8_stands_63 : decode cX8_stands 63 = .ok (.iadd, 1) := by decide +kernel
theorem dX8_stands_64 : decode cX8_stands 64 = .ok (.dup2, 1) := by decide +kernel
theorem dX8_stands_65 : decode cX8_stands 65 = .ok (.iaload, 1) := by decide +kernel
theorem dX8_stands_66 : decode cX8_stands 66 = .ok (.iconst 1, 1) := by decide +kernel
theorem dX8_stands_67 : decode cX8_stands 67 = .ok (.iadd, 1) := by decide +kernel
theorem dX8_stands_68 : decode cX8_stands 68 = .ok (.iastore, 1) := by decide +kernel
theorem dX8_stands_69 : decode cX8_stands 69 = .ok (.aload_n 0, 1) := by decide +kernel
theorem dX8_stands_70 : decode cX8_stands 70 = .ok (.getfield 7, 3) := by decide +kernel
theorem dX8_stands_73 : decode cX8_stands 73 = .ok (.iload_n 1, 1) := by decide +kernel
theorem dX8_stands_74 : decode cX8_stands 74 = .ok (.bipush 12, 2) := by decide +kernel
theorem dX8_stands_76 : decode cX8_stands 76 = .ok (.iadd, 1) := by decide +kernel
theorem dX8_stands_77 : decode cX8_stands 77 = .ok (.iload_n 2, 1) := by decide +kernel
theorem dX8_stands_78 : decode cX8_stands 78 = .ok (.iadd, 1) := by decide +kernel
theorem dX8_stands_79 : decode cX8_stands 79 = .ok (.iconst 1, 1) := by decide +kernel
theorem dX8_stands_80 : decode cX8_stands 80 = .ok (.iastore, 1) := by decide +kernel
theorem dX8_stands_81 : decode cX8_stands 81 = .ok (.aload_n 0, 1) := by decide +kernel
theorem dX8_stands_82 : decode cX8_stands 82 = .ok (.getfield 7, 3) := by decide +kernel
theorem dX8_stands_85 : decode cX8_stands 85 = .ok (.iload_n 1, 1) := by decide +kernel
theorem dX8_stands_86 : decode cX8_stands 86 = .ok (.bipush 21, 2) := by decide +kernel
theorem dX8_stands_88 : decode cX8_stands 88 = .ok (.iadd, 1) := by decide +kernel
theorem dX8_stands_89 : decode cX8_stands 89 = .ok (.iload_n 2, 1) := by decide +kernel
theorem dX8_stands_90 : decode cX8_stands 90 = .ok (.iadd, 1) := by decide +kernel
theorem dX8_stands_91 : decode cX8_stands 91 = .ok (.iconst 0, 1) := by decide +kernel
theorem dX8_stands_92 : decode cX8_stands 92 = .ok (.iastore, 1) := by decide +kernel
theorem dX8_stands_93 : decode cX8_stands 93 = .ok (.return_, 1) := by decide +kernel
theorem dX8_goes_0 : decode cX8_goes 0 = .ok (.aload_n 0, 1) := by decide +kernel
theorem dX8_goes_1 : decode cX8_goes 1 = .ok (.iload_n 1, 1) := by decide +kernel
theorem dX8_goes_2 : decode cX8_goes 2 = .ok (.iload_n 2, 1) := by decide +kernel
theorem dX8_goes_3 : decode cX8_goes 3 = .ok (.invokevirtual 134, 3) := by decide +kernel
theorem dX8_goes_6 : decode cX8_goes 6 = .ok (.istore 4, 2) := by decide +kernel
theorem dX8_goes_8 : decode cX8_goes 8 = .ok (.iload 4, 2) := by decide +kernel
theorem dX8_goes_10 : decode cX8_goes 10 = .ok (.aload_n 0, 1) := by decide +kernel
theorem dX8_goes_11 : decode cX8_goes 11 = .ok (.getfield 7, 3) := by decide +kernel
theorem dX8_goes_14 : decode cX8_goes 14 = .ok (.iload_n 1, 1) := by decide +kernel
theorem dX8_goes_15 : decode cX8_goes 15 = .ok (.iconst 2, 1) := by decide +kernel
theorem dX8_goes_16 : decode cX8_goes 16 = .ok (.iadd, 1) := by decide +kernel
theorem dX8_goes_17 : decode cX8_goes 17 = .ok (.iaload, 1) := by decide +kernel
theorem dX8_goes_18 : decode cX8_goes 18 = .ok (.iconst 1, 1) := by decide +kernel
theorem dX8_goes_19 : decode cX8_goes 19 = .ok (.isub, 1) := by decide +kernel
theorem dX8_goes_20 : decode cX8_goes 20 = .ok (.if_icmp .ge 33, 3) := by decide +kernel
theorem dX8_goes_23 : decode cX8_goes 23 = .ok (.aload_n 0, 1) := by decide +kernel
theorem dX8_goes_24 : decode cX8_goes 24 = .ok (.getfield 7, 3) := by decide +kernel
theorem dX8_goes_27 : decode cX8_goes 27 = .ok (.iload_n 1, 1) := by decide +kernel
theorem dX8_goes_28 : decode cX8_goes 28 = .ok (.iconst 3, 1) := by decide +kernel
theorem dX8_goes_29 : decode cX8_goes 29 = .ok (.iadd, 1) := by decide +kernel
theorem dX8_goes_30 : decode cX8_goes 30 = .ok (.iload 4, 2) := by decide +kernel
theorem dX8_goes_32 : decode cX8_goes 32 = .ok (.iadd, 1) := by decide +kernel
theorem dX8_goes_33 : decode cX8_goes 33 = .ok (.aload_n 0, 1) := by decide +kernel
theorem dX8_goes_34 : decode cX8_goes 34 = .ok (.getfield 7, 3) := by decide +kernel
theorem dX8_goes_37 : decode cX8_goes 37 = .ok (.iload_n 1, 1) := by decide +kernel
theorem dX8_goes_38 : decode cX8_goes 38 = .ok (.iconst 3, 1) := by decide +kernel
theorem dX8_goes_39 : decode cX8_goes 39 = .ok (.iadd, 1) := by decide +kernel
theorem dX8_goes_40 : decode cX8_goes 40 = .ok (.iload 4, 2) := by decide +kernel
theorem dX8_goes_42 : decode cX8_goes 42 = .ok (.iadd, 1) := by decide +kernel
theorem dX8_goes_43 : decode cX8_goes 43 = .ok (.iconst 1, 1) := by decide +kernel
theorem dX8_goes_44 : decode cX8_goes 44 = .ok (.iadd, 1) := by decide +kernel
theorem dX8_goes_45 : decode cX8_goes 45 = .ok (.iaload, 1) := by decide +kernel
theorem dX8_goes_46 : decode cX8_goes 46 = .ok (.iastore, 1) := by decide +kernel
theorem dX8_goes_47 : decode cX8_goes 47 = .ok (.iinc 4 1, 3) := by decide +kernel
theorem dX8_goes_50 : decode cX8_goes 50 = .ok (.goto (-42), 3) := by decide +kernel
theorem dX8_goes_53 : decode cX8_goes 53 = .ok (.aload_n 0, 1) := by decide +kernel
theorem dX8_goes_54 : decode cX8_goes 54 = .ok (.getfield 7, 3) := by decide +kernel
theorem dX8_goes_57 : decode cX8_goes 57 = .ok (.iload_n 1, 1) := by decide +kernel
theorem dX8_goes_58 : decode cX8_goes 58 = .ok (.iconst 2, 1) := by decide +kernel
theorem dX8_goes_59 : decode cX8_goes 59 = .ok (.iadd, 1) := by decide +kernel
theorem dX8_goes_60 : decode cX8_goes 60 = .ok (.dup2, 1) := by decide +kernel
theorem dX8_goes_61 : decode cX8_goes 61 = .ok (.iaload, 1) := by decide +kernel
theorem dX8_goes_62 : decode cX8_goes 62 = .ok (.iconst 1, 1) := by decide +kernel
theorem dX8_goes_63 : decode cX8_goes 63 = .ok (.isub, 1) := by decide +kernel
theorem dX8_goes_64 : decode cX8_goes 64 = .ok (.iastore, 1) := by decide +kernel
theorem dX8_goes_65 : decode cX8_goes 65 = .ok (.aload_n 0, 1) := by decide +kernel
theorem dX8_goes_66 : decode cX8_goes 66 = .ok (.getfield 7, 3) := by decide +kernel
theorem dX8_goes_69 : decode cX8_goes 69 = .ok (.iload_n 1, 1) := by decide +kernel
theorem dX8_goes_70 : decode cX8_goes 70 = .ok (.bipush 12, 2) := by decide +kernel
theorem dX8_goes_72 : decode cX8_goes 72 = .ok (.iadd, 1) := by decide +kernel
theorem dX8_goes_73 : decode cX8_goes 73 = .ok (.iload_n 2, 1) := by decide +kernel
theorem dX8_goes_74 : decode cX8_goes 74 = .ok (.iadd, 1) := by decide +kernel
theorem dX8_goes_75 : decode cX8_goes 75 = .ok (.iload_n 3, 1) := by decide +kernel
theorem dX8_goes_76 : decode cX8_goes 76 = .ok (.iastore, 1) := by decide +kernel
theorem dX8_goes_77 : decode cX8_goes 77 = .ok (.aload_n 0, 1) := by decide +kernel
theorem dX8_goes_78 : decode cX8_goes 78 = .ok (.getfield 7, 3) := by decide +kernel
theorem dX8_goes_81 : decode cX8_goes 81 = .ok (.iload_n 1, 1) := by decide +kernel
theorem dX8_goes_82 : decode cX8_goes 82 = .ok (.bipush 21, 2) := by decide +kernel
theorem dX8_goes_84 : decode cX8_goes 84 = .ok (.iadd, 1) := by decide +kernel
theorem dX8_goes_85 : decode cX8_goes 85 = .ok (.iload_n 2, 1) := by decide +kernel
theorem dX8_goes_86 : decode cX8_goes 86 = .ok (.iadd, 1) := by decide +kernel
theorem dX8_goes_87 : decode cX8_goes 87 = .ok (.iconst 0, 1) := by decide +kernel
theorem dX8_goes_88 : decode cX8_goes 88 = .ok (.iastore, 1) := by decide +kernel
theorem dX8_goes_89 : decode cX8_goes 89 = .ok (.return_, 1) := by decide +kernel
theorem dX8_joins_0 : decode cX8_joins 0 = .ok (.aload_n 0, 1) := by decide +kernel
theorem dX8_joins_1 : decode cX8_joins 1 = .ok (.getfield 7, 3) := by decide +kernel
theorem dX8_joins_4 : decode cX8_joins 4 = .ok (.iload_n 1, 1) := by decide +kernel
theorem dX8_joins_5 : decode cX8_joins 5 = .ok (.iconst 2, 1) := by decide +kernel
theorem dX8_joins_6 : decode cX8_joins 6 = .ok (.iadd, 1) := by decide +kernel
theorem dX8_joins_7 : decode cX8_joins 7 = .ok (.iaload, 1) := by decide +kernel
theorem dX8_joins_8 : decode cX8_joins 8 = .ok (.ifCond .ne 8, 3) := by decide +kernel
theorem dX8_joins_11 : decode cX8_joins 11 = .ok (.bipush (-4), 2) := by decide +kernel
theorem dX8_joins_13 : decode cX8_joins 13 = .ok (.goto 11, 3) := by decide +kernel
theorem dX8_joins_16 : decode cX8_joins 16 = .ok (.aload_n 0, 1) := by decide +kernel
theorem dX8_joins_17 : decode cX8_joins 17 = .ok (.getfield 7, 3) := by decide +kernel
theorem dX8_joins_20 : decode cX8_joins 20 = .ok (.iload_n 1, 1) := by decide +kernel
theorem dX8_joins_21 : decode cX8_joins 21 = .ok (.iconst 3, 1) := by decide +kernel
theorem dX8_joins_22 : decode cX8_joins 22 = .ok (.iadd, 1) := by decide +kernel
theorem dX8_joins_23 : decode cX8_joins 23 = .ok (.iaload, 1) := by decide +kernel
theorem dX8_joins_24 : decode cX8_joins 24 = .ok (.istore_n 3, 1) := by decide +kernel
theorem dX8_joins_25 : decode cX8_joins 25 = .ok (.iload_n 3, 1) := by decide +kernel
theorem dX8_joins_26 : decode cX8_joins 26 = .ok (.bipush (-4), 2) := by decide +kernel
theorem dX8_joins_28 : decode cX8_joins 28 = .ok (.if_icmp .eq 46, 3) := by decide +kernel
theorem dX8_joins_31 : decode cX8_joins 31 = .ok (.aload_n 0, 1) := by decide +kernel
theorem dX8_joins_32 : decode cX8_joins 32 = .ok (.getfield 7, 3) := by decide +kernel
theorem dX8_joins_35 : decode cX8_joins 35 = .ok (.iload_n 1, 1) := by decide +kernel
theorem dX8_joins_36 : decode cX8_joins 36 = .ok (.bipush 57, 2) := by decide +kernel
theorem dX8_joins_38 : decode cX8_joins 38 = .ok (.iadd, 1) := by decide +kernel
theorem dX8_joins_39 : decode cX8_joins 39 = .ok (.iload_n 3, 1) := by decide +kernel
theorem dX8_joins_40 : decode cX8_joins 40 = .ok (.iadd, 1) := by decide +kernel
theorem dX8_joins_41 : decode cX8_joins 41 = .ok (.iaload, 1) := by decide +kernel
theorem dX8_joins_42 : decode cX8_joins 42 = .ok (.iconst 1, 1) := by decide +kernel
theorem dX8_joins_43 : decode cX8_joins 43 = .ok (.if_icmp .ne 31, 3) := by decide +kernel
theorem dX8_joins_46 : decode cX8_joins 46 = .ok (.aload_n 0, 1) := by decide +kernel
theorem dX8_joins_47 : decode cX8_joins 47 = .ok (.getfield 13, 3) := by decide +kernel
theorem dX8_joins_50 : decode cX8_joins 50 = .ok (.iload_n 2, 1) := by decide +kernel
theorem dX8_joins_51 : decode cX8_joins 51 = .ok (.iaload, 1) := by decide +kernel
theorem dX8_joins_52 : decode cX8_joins 52 = .ok (.ifCond .eq 18, 3) := by decide +kernel
theorem dX8_joins_55 : decode cX8_joins 55 = .ok (.aload_n 0, 1) := by decide +kernel
theorem dX8_joins_56 : decode cX8_joins 56 = .ok (.getfield 13, 3) := by decide +kernel
theorem dX8_joins_59 : decode cX8_joins 59 = .ok (.iload_n 2, 1) := by decide +kernel
theorem dX8_joins_60 : decode cX8_joins 60 = .ok (.iaload, 1) := by decide +kernel
theorem dX8_joins_61 : decode cX8_joins 61 = .ok (.aload_n 0, 1) := by decide +kernel
theorem dX8_joins_62 : decode cX8_joins 62 = .ok (.getfield 13, 3) := by decide +kernel
theorem dX8_joins_65 : decode cX8_joins 65 = .ok (.iload_n 3, 1) := by decide +kernel
theorem dX8_joins_66 : decode cX8_joins 66 = .ok (.iaload, 1) := by decide +kernel
theorem dX8_joins_67 : decode cX8_joins 67 = .ok (.if_icmp .eq 7, 3) := by decide +kernel
theorem dX8_joins_70 : decode cX8_joins 70 = .ok (.iconst 1, 1) := by decide +kernel
theorem dX8_joins_71 : decode cX8_joins 71 = .ok (.goto 4, 3) := by decide +kernel
theorem dX8_joins_74 : decode cX8_joins 74 = .ok (.iconst 0, 1) := by decide +kernel
theorem dX8_joins_75 : decode cX8_joins 75 = .ok (.istore 4, 2) := by decide +kernel
theorem dX8_joins_77 : decode cX8_joins 77 = .ok (.aload_n 0, 1) := by decide +kernel
theorem dX8_joins_78 : decode cX8_joins 78 = .ok (.iload_n 1, 1) := by decide +kernel
theorem dX8_joins_79 : decode cX8_joins 79 = .ok (.iload_n 2, 1) := by decide +kernel
theorem dX8_joins_80 : decode cX8_joins 80 = .ok (.iload 4, 2) := by decide +kernel
theorem dX8_joins_82 : decode cX8_joins 82 = .ok (.ifCond .eq 7, 3) := by decide +kernel
theorem dX8_joins_85 : decode cX8_joins 85 = .ok (.iconst 1, 1) := by decide +kernel
theorem dX8_joins_86 : decode cX8_joins 86 = .ok (.goto 4, 3) := by decide +kernel
theorem dX8_joins_89 : decode cX8_joins 89 = .ok (.iconst 0, 1) := by decide +kernel
theorem dX8_joins_90 : decode cX8_joins 90 = .ok (.invokevirtual 138, 3) := by decide +kernel
theorem dX8_joins_93 : decode cX8_joins 93 = .ok (.return_, 1) := by decide +kernel
theorem dX8_sneezes_0 : decode cX8_sneezes 0 = .ok (.aload_n 0, 1) := by decide +kernel
theorem dX8_sneezes_1 : decode cX8_sneezes 1 = .ok (.iload_n 1, 1) := by decide +kernel
theorem dX8_sneezes_2 : decode cX8_sneezes 2 = .ok (.iload_n 2, 1) := by decide +kernel
theorem dX8_sneezes_3 : decode cX8_sneezes 3 = .ok (.iconst 1, 1) := by decide +kernel
theorem dX8_sneezes_4 : decode cX8_sneezes 4 = .ok (.invokevirtual 141, 3) := by decide +kernel
theorem dX8_sneezes_7 : decode cX8_sneezes 7 = .ok (.aload_n 0, 1) := by decide +kernel
theorem dX8_sneezes_8 : decode cX8_sneezes 8 = .ok (.iload_n 1, 1) := by decide +kernel
theorem dX8_sneezes_9 : decode cX8_sneezes 9 = .ok (.iload_n 2, 1) := by decide +kernel
theorem dX8_sneezes_10 : decode cX8_sneezes 10 = .ok (.aload_n 0, 1) := by decide +kernel
theorem dX8_sneezes_11 : decode cX8_sneezes 11 = .ok (.getfield 7, 3) := by decide +kernel
theorem dX8_sneezes_14 : decode cX8_sneezes 14 = .ok (.iload_n 1, 1) := by decide +kernel
theorem dX8_sneezes_15 : decode cX8_sneezes 15 = .ok (.iconst 2, 1) := by decide +kernel
theorem dX8_sneezes_16 : decode cX8_sneezes 16 = .ok (.iadd, 1) := by decide +kernel
theorem dX8_sneezes_17 : decode cX8_sneezes 17 = .ok (.iaload, 1) := by decide +kernel
theorem dX8_sneezes_18 : decode cX8_sneezes 18 = .ok (.invokevirtual 138, 3) := by decide +kernel
theorem dX8_sneezes_21 : decode cX8_sneezes 21 = .ok (.return_, 1) := by decide +kernel
theorem dX8_givesOne_0 : decode cX8_givesOne 0 = .ok (.aload_n 0, 1) := by decide +kernel
theorem dX8_givesOne_1 : decode cX8_givesOne 1 = .ok (.getfield 7, 3) := by decide +kernel
theorem dX8_givesOne_4 : decode cX8_givesOne 4 = .ok (.iload_n 1, 1) := by decide +kernel
theorem dX8_givesOne_5 : decode cX8_givesOne 5 = .ok (.iconst 2, 1) := by decide +kernel
theorem dX8_givesOne_6 : decode cX8_givesOne 6 = .ok (.iadd, 1) := by decide +kernel
theorem dX8_givesOne_7 : decode cX8_givesOne 7 = .ok (.iaload, 1) := by decide +kernel
theorem dX8_givesOne_8 : decode cX8_givesOne 8 = .ok (.istore_n 3, 1) := by decide +kernel
theorem dX8_givesOne_9 : decode cX8_givesOne 9 = .ok (.iload_n 3, 1) := by decide +kernel
theorem dX8_givesOne_10 : decode cX8_givesOne 10 = .ok (.ifCond .ne 4, 3) := by decide +kernel
theorem dX8_givesOne_13 : decode cX8_givesOne 13 = .ok (.return_, 1) := by decide +kernel
theorem dX8_givesOne_14 : decode cX8_givesOne 14 = .ok (.aload_n 0, 1) := by decide +kernel
theorem dX8_givesOne_15 : decode cX8_givesOne 15 = .ok (.getfield 7, 3) := by decide +kernel
theorem dX8_givesOne_18 : decode cX8_givesOne 18 = .ok (.iload_n 1, 1) := by decide +kernel
theorem dX8_givesOne_19 : decode cX8_givesOne 19 = .ok (.iconst 3, 1) := by decide +kernel
theorem dX8_givesOne_20 : decode cX8_givesOne 20 = .ok (.iadd, 1) := by decide +kernel
theorem dX8_givesOne_21 : decode cX8_givesOne 21 = .ok (.iload_n 2, 1) := by decide +kernel
theorem dX8_givesOne_22 : decode cX8_givesOne 22 = .ok (.ifCond .eq 9, 3) := by decide +kernel
theorem dX8_givesOne_25 : decode cX8_givesOne 25 = .ok (.iload_n 3, 1) := by decide +kernel
theorem dX8_givesOne_26 : decode cX8_givesOne 26 = .ok (.iconst 1, 1) := by decide +kernel
theorem dX8_givesOne_27 : decode cX8_givesOne 27 = .ok (.isub, 1) := by decide +kernel
theorem dX8_givesOne_28 : decode cX8_givesOne 28 = .ok (.goto 4, 3) := by decide +kernel
theorem dX8_givesOne_31 : decode cX8_givesOne 31 = .ok (.iconst 0, 1) := by decide +kernel
theorem dX8_givesOne_32 : decode cX8_givesOne 32 = .ok (.iadd, 1) := by decide +kernel
theorem dX8_givesOne_33 : decode cX8_givesOne 33 = .ok (.iaload, 1) := by decide +kernel
theorem dX8_givesOne_34 : decode cX8_givesOne 34 = .ok (.istore 4, 2) := by decide +kernel
theorem dX8_givesOne_36 : decode cX8_givesOne 36 = .ok (.aload_n 0, 1) := by decide +kernel
theorem dX8_givesOne_37 : decode cX8_givesOne 37 = .ok (.getfield 7, 3) := by decide +kernel
theorem dX8_givesOne_40 : decode cX8_givesOne 40 = .ok (.iload_n 1, 1) := by decide +kernel
theorem dX8_givesOne_41 : decode cX8_givesOne 41 = .ok (.bipush 57, 2) := by decide +kernel
theorem dX8_givesOne_43 : decode cX8_givesOne 43 = .ok (.iadd, 1) := by decide +kernel
theorem dX8_givesOne_44 : decode cX8_givesOne 44 = .ok (.iload 4, 2) := by decide +kernel
theorem dX8_givesOne_46 : decode cX8_givesOne 46 = .ok (.iadd, 1) := by decide +kernel
theorem dX8_givesOne_47 : decode cX8_givesOne 47 = .ok (.iaload, 1) := by decide +kernel
theorem dX8_givesOne_48 : decode cX8_givesOne 48 = .ok (.iconst 3, 1) := by decide +kernel
theorem dX8_givesOne_49 : decode cX8_givesOne 49 = .ok (.if_icmp .ne 7, 3) := by decide +kernel
theorem dX8_givesOne_52 : decode cX8_givesOne 52 = .ok (.iconst 1, 1) := by decide +kernel
theorem dX8_givesOne_53 : decode cX8_givesOne 53 = .ok (.goto 4, 3) := by decide +kernel
theorem dX8_givesOne_56 : decode cX8_givesOne 56 = .ok (.iconst 0, 1) := by decide +kernel
theorem dX8_givesOne_57 : decode cX8_givesOne 57 = .ok (.istore 5, 2) := by decide +kernel
theorem dX8_givesOne_59 : decode cX8_givesOne 59 = .ok (.iconst 0, 1) := by decide +kernel
theorem dX8_givesOne_60 : decode cX8_givesOne 60 = .ok (.istore 6, 2) := by decide +kernel
theorem dX8_givesOne_62 : decode cX8_givesOne 62 = .ok (.iload 6, 2) := by decide +kernel
theorem dX8_givesOne_64 : decode cX8_givesOne 64 = .ok (.iload_n 3, 1) := by decide +kernel
theorem dX8_givesOne_65 : decode cX8_givesOne 65 = .ok (.if_icmp .ge 63, 3) := by decide +kernel
theorem dX8_givesOne_68 : decode cX8_givesOne 68 = .ok (.iload 5, 2) := by decide +kernel
theorem dX8_givesOne_70 : decode cX8_givesOne 70 = .ok (.ifCond .eq 58, 3) := by decide +kernel
theorem dX8_givesOne_73 : decode cX8_givesOne 73 = .ok (.aload_n 0, 1) := by decide +kernel
theorem dX8_givesOne_74 : decode cX8_givesOne 74 = .ok (.getfield 7, 3) := by decide +kernel
theorem dX8_givesOne_77 : decode cX8_givesOne 77 = .ok (.iload_n 1, 1) := by decide +kernel
theorem dX8_givesOne_78 : decode cX8_givesOne 78 = .ok (.iconst 3, 1) := by decide +kernel
theorem dX8_givesOne_79 : decode cX8_givesOne 79 = .ok (.iadd, 1) := by decide +kernel
theorem dX8_givesOne_80 : decode cX8_givesOne 80 = .ok (.iload_n 2, 1) := by decide +kernel
theorem dX8_givesOne_81 : decode cX8_givesOne 81 = .ok (.ifCond .eq 12, 3) := by decide +kernel
theorem dX8_givesOne_84 : decode cX8_givesOne 84 = .ok (.iload_n 3, 1) := by decide +kernel
theorem dX8_givesOne_85 : decode cX8_givesOne 85 = .ok (.iconst 1, 1) := by decide +kernel
theorem dX8_givesOne_86 : decode cX8_givesOne 86 = .ok (.isub, 1) := by decide +kernel
theorem dX8_givesOne_87 : decode cX8_givesOne 87 = .ok (.iload 6, 2) := by decide +kernel
theorem dX8_givesOne_89 : decode cX8_givesOne 89 = .ok (.isub, 1) := by decide +kernel
theorem dX8_givesOne_90 : decode cX8_givesOne 90 = .ok (.goto 5, 3) := by decide +kernel
theorem dX8_givesOne_93 : decode cX8_givesOne 93 = .ok (.iload 6, 2) := by decide +kernel
theorem dX8_givesOne_95 : decode cX8_givesOne 95 = .ok (.iadd, 1) := by decide +kernel
theorem dX8_givesOne_96 : decode cX8_givesOne 96 = .ok (.iaload, 1) := by decide +kernel
theorem dX8_givesOne_97 : decode cX8_givesOne 97 = .ok (.istore 7, 2) := by decide +kernel
theorem dX8_givesOne_99 : decode cX8_givesOne 99 = .ok (.aload_n 0, 1) := by decide +kernel
theorem dX8_givesOne_100 : decode cX8_givesOne 100 = .ok (.getfield 7, 3) := by decide +kernel
theorem dX8_givesOne_103 : decode cX8_givesOne 103 = .ok (.iload_n 1, 1) := by decide +kernel
theorem dX8_givesOne_104 : decode cX8_givesOne 104 = .ok (.bipush 57, 2) := by decide +kernel
theorem dX8_givesOne_106 : decode cX8_givesOne 106 = .ok (.iadd, 1) := by decide +kernel
theorem dX8_givesOne_107 : decode cX8_givesOne 107 = .ok (.iload 7, 2) := by decide +kernel
theorem dX8_givesOne_109 : decode cX8_givesOne 109 = .ok (.iadd, 1) := by decide +kernel
theorem dX8_givesOne_110 : decode cX8_givesOne 110 = .ok (.iaload, 1) := by decide +kernel
theorem dX8_givesOne_111 : decode cX8_givesOne 111 = .ok (.iconst 3, 1) := by decide +kernel
theorem dX8_givesOne_112 : decode cX8_givesOne 112 = .ok (.if_icmp .eq 10, 3) := by decide +kernel
theorem dX8_givesOne_115 : decode cX8_givesOne 115 = .ok (.iload 7, 2) := by decide +kernel
theorem dX8_givesOne_117 : decode cX8_givesOne 117 = .ok (.istore 4, 2) := by decide +kernel
theorem dX8_givesOne_119 : decode cX8_givesOne 119 = .ok (.iconst 0, 1) := by decide +kernel
theorem dX8_givesOne_120 : decode cX8_givesOne 120 = .ok (.istore 5, 2) := by decide +kernel
theorem dX8_givesOne_122 : decode cX8_givesOne 122 = .ok (.iinc 6 1, 3) := by decide +kernel
theorem dX8_givesOne_125 : decode cX8_givesOne 125 = .ok (.goto (-63), 3) := by decide +kernel
theorem dX8_givesOne_128 : decode cX8_givesOne 128 = .ok (.aload_n 0, 1) := by decide +kernel
theorem dX8_givesOne_129 : decode cX8_givesOne 129 = .ok (.iload_n 1, 1) := by decide +kernel
theorem dX8_givesOne_130 : decode cX8_givesOne 130 = .ok (.iload 4, 2) := by decide +kernel
theorem dX8_givesOne_132 : decode cX8_givesOne 132 = .ok (.iconst 3, 1) := by decide +kernel
theorem dX8_givesOne_133 : decode cX8_givesOne 133 = .ok (.invokevirtual 141, 3) := by decide +kernel
theorem dX8_givesOne_136 : decode cX8_givesOne 136 = .ok (.aload_n 0, 1) := by decide +kernel
theorem dX8_givesOne_137 : decode cX8_givesOne 137 = .ok (.getfield 77, 3) := by decide +kernel
theorem dX8_givesOne_140 : decode cX8_givesOne 140 = .ok (.aload_n 0, 1) := by decide +kernel
theorem dX8_givesOne_141 : decode cX8_givesOne 141 = .ok (.getfield 7, 3) := by decide +kernel
theorem dX8_givesOne_144 : decode cX8_givesOne 144 = .ok (.iload_n 1, 1) := by decide +kernel
theorem dX8_givesOne_145 : decode cX8_givesOne 145 = .ok (.iconst 1, 1) := by decide +kernel
theorem dX8_givesOne_146 : decode cX8_givesOne 146 = .ok (.iadd, 1) := by decide +kernel
theorem dX8_givesOne_147 : decode cX8_givesOne 147 = .ok (.iaload, 1) := by decide +kernel
theorem dX8_givesOne_148 : decode cX8_givesOne 148 = .ok (.isub, 1) := by decide +kernel
theorem dX8_givesOne_149 : decode cX8_givesOne 149 = .ok (.istore 6, 2) := by decide +kernel
theorem dX8_givesOne_151 : decode cX8_givesOne 151 = .ok (.aload_n 0, 1) := by decide +kernel
theorem dX8_givesOne_152 : decode cX8_givesOne 152 = .ok (.getfield 7, 3) := by decide +kernel
theorem dX8_givesOne_155 : decode cX8_givesOne 155 = .ok (.iload_n 1, 1) := by decide +kernel
theorem dX8_givesOne_156 : decode cX8_givesOne 156 = .ok (.bipush 30, 2) := by decide +kernel
theorem dX8_givesOne_158 : decode cX8_givesOne 158 = .ok (.iadd, 1) := by decide +kernel
theorem dX8_givesOne_159 : decode cX8_givesOne 159 = .ok (.iload 4, 2) := by decide +kernel
theorem dX8_givesOne_161 : decode cX8_givesOne 161 = .ok (.iadd, 1) := by decide +kernel
theorem dX8_givesOne_162 : decode cX8_givesOne 162 = .ok (.aload_n 0, 1) := by decide +kernel
theorem dX8_givesOne_163 : decode cX8_givesOne 163 = .ok (.getfield 7, 3) := by decide +kernel
theorem dX8_givesOne_166 : decode cX8_givesOne 166 = .ok (.iload_n 1, 1) := by decide +kernel
theorem dX8_givesOne_167 : decode cX8_givesOne 167 = .ok (.iconst 0, 1) := by decide +kernel
theorem dX8_givesOne_168 : decode cX8_givesOne 168 = .ok (.iadd, 1) := by decide +kernel
theorem dX8_givesOne_169 : decode cX8_givesOne 169 = .ok (.iaload, 1) := by decide +kernel
theorem dX8_givesOne_170 : decode cX8_givesOne 170 = .ok (.iastore, 1) := by decide +kernel
theorem dX8_givesOne_171 : decode cX8_givesOne 171 = .ok (.aload_n 0, 1) := by decide +kernel
theorem dX8_givesOne_172 : decode cX8_givesOne 172 = .ok (.getfield 7, 3) := by decide +kernel
theorem dX8_givesOne_175 : decode cX8_givesOne 175 = .ok (.iload_n 1, 1) := by decide +kernel
theorem dX8_givesOne_176 : decode cX8_givesOne 176 = .ok (.bipush 39, 2) := by decide +kernel
theorem dX8_givesOne_178 : decode cX8_givesOne 178 = .ok (.iadd, 1) := by decide +kernel
theorem dX8_givesOne_179 : decode cX8_givesOne 179 = .ok (.iload 4, 2) := by decide +kernel
theorem dX8_givesOne_181 : decode cX8_givesOne 181 = .ok (.iadd, 1) := by decide +kernel
theorem dX8_givesOne_182 : decode cX8_givesOne 182 = .ok (.iload 6, 2) := by decide +kernel
theorem dX8_givesOne_184 : decode cX8_givesOne 184 = .ok (.ifCond .ge 7, 3) := by decide +kernel
theorem dX8_givesOne_187 : decode cX8_givesOne 187 = .ok (.iconst 0, 1) := by decide +kernel
theorem dX8_givesOne_188 : decode cX8_givesOne 188 = .ok (.goto 5, 3) := by decide +kernel
theorem dX8_givesOne_191 : decode cX8_givesOne 191 = .ok (.iload 6, 2) := by decide +kernel
theorem dX8_givesOne_193 : decode cX8_givesOne 193 = .ok (.iastore, 1) := by decide +kernel
theorem dX8_givesOne_194 : decode cX8_givesOne 194 = .ok (.aload_n 0, 1) := by decide +kernel
theorem dX8_givesOne_195 : decode cX8_givesOne 195 = .ok (.getfield 7, 3) := by decide +kernel
theorem dX8_givesOne_198 : decode cX8_givesOne 198 = .ok (.iload_n 1, 1) := by decide +kernel
theorem dX8_givesOne_199 : decode cX8_givesOne 199 = .ok (.iconst 1, 1) := by decide +kernel
theorem dX8_givesOne_200 : decode cX8_givesOne 200 = .ok (.iadd, 1) := by decide +kernel
theorem dX8_givesOne_201 : decode cX8_givesOne 201 = .ok (.dup2, 1) := by decide +kernel
theorem dX8_givesOne_202 : decode cX8_givesOne 202 = .ok (.iaload, 1) := by decide +kernel
theorem dX8_givesOne_203 : decode cX8_givesOne 203 = .ok (.iconst 1, 1) := by decide +kernel
theorem dX8_givesOne_204 : decode cX8_givesOne 204 = .ok (.iadd, 1) := by decide +kernel
theorem dX8_givesOne_205 : decode cX8_givesOne 205 = .ok (.iastore, 1) := by decide +kernel
theorem dX8_givesOne_206 : decode cX8_givesOne 206 = .ok (.return_, 1) := by decide +kernel
theorem dX8_passesBy_0 : decode cX8_passesBy 0 = .ok (.iconst 0, 1) := by decide +kernel
theorem dX8_passesBy_1 : decode cX8_passesBy 1 = .ok (.istore 4, 2) := by decide +kernel
theorem dX8_passesBy_3 : decode cX8_passesBy 3 = .ok (.iload 4, 2) := by decide +kernel
theorem dX8_passesBy_5 : decode cX8_passesBy 5 = .ok (.aload_n 0, 1) := by decide +kernel
theorem dX8_passesBy_6 : decode cX8_passesBy 6 = .ok (.getfield 67, 3) := by decide +kernel
theorem dX8_passesBy_9 : decode cX8_passesBy 9 = .ok (.if_icmp .ge 54, 3) := by decide +kernel
theorem dX8_passesBy_12 : decode cX8_passesBy 12 = .ok (.aload_n 0, 1) := by decide +kernel
theorem dX8_passesBy_13 : decode cX8_passesBy 13 = .ok (.getfield 7, 3) := by decide +kernel
theorem dX8_passesBy_16 : decode cX8_passesBy 16 = .ok (.iload_n 1, 1) := by decide +kernel
theorem dX8_passesBy_17 : decode cX8_passesBy 17 = .ok (.bipush 12, 2) := by decide +kernel
theorem dX8_passesBy_19 : decode cX8_passesBy 19 = .ok (.iadd, 1) := by decide +kernel
theorem dX8_passesBy_20 : decode cX8_passesBy 20 = .ok (.iload 4, 2) := by decide +kernel
theorem dX8_passesBy_22 : decode cX8_passesBy 22 = .ok (.iadd, 1) := by decide +kernel
theorem dX8_passesBy_23 : decode cX8_passesBy 23 = .ok (.iaload, 1) := by decide +kernel
theorem dX8_passesBy_24 : decode cX8_passesBy 24 = .ok (.ifCond .ne 33, 3) := by decide +kernel
theorem dX8_passesBy_27 : decode cX8_passesBy 27 = .ok (.aload_n 0, 1) := by decide +kernel
theorem dX8_passesBy_28 : decode cX8_passesBy 28 = .ok (.getfield 7, 3) := by decide +kernel
theorem dX8_passesBy_31 : decode cX8_passesBy 31 = .ok (.iload_n 1, 1) := by decide +kernel
theorem dX8_passesBy_32 : decode cX8_passesBy 32 = .ok (.bipush 48, 2) := by decide +kernel
theorem dX8_passesBy_34 : decode cX8_passesBy 34 = .ok (.iadd, 1) := by decide +kernel
theorem dX8_passesBy_35 : decode cX8_passesBy 35 = .ok (.iload 4, 2) := by decide +kernel
theorem dX8_passesBy_37 : decode cX8_passesBy 37 = .ok (.iadd, 1) := by decide +kernel
theorem dX8_passesBy_38 : decode cX8_passesBy 38 = .ok (.iaload, 1) := by decide +kernel
theorem dX8_passesBy_39 : decode cX8_passesBy 39 = .ok (.aload_n 0, 1) := by decide +kernel
theorem dX8_passesBy_40 : decode cX8_passesBy 40 = .ok (.getfield 7, 3) := by decide +kernel
theorem dX8_passesBy_43 : decode cX8_passesBy 43 = .ok (.iload_n 1, 1) := by decide +kernel
theorem dX8_passesBy_44 : decode cX8_passesBy 44 = .ok (.iconst 0, 1) := by decide +kernel
theorem dX8_passesBy_45 : decode cX8_passesBy 45 = .ok (.iadd, 1) := by decide +kernel
theorem dX8_passesBy_46 : decode cX8_passesBy 46 = .ok (.iaload, 1) := by decide +kernel
theorem dX8_passesBy_47 : decode cX8_passesBy 47 = .ok (.if_icmp .ne 10, 3) := by decide +kernel
theorem dX8_passesBy_50 : decode cX8_passesBy 50 = .ok (.aload_n 0, 1) := by decide +kernel
theorem dX8_passesBy_51 : decode cX8_passesBy 51 = .ok (.iload_n 1, 1) := by decide +kernel
theorem dX8_passesBy_52 : decode cX8_passesBy 52 = .ok (.iload 4, 2) := by decide +kernel
theorem dX8_passesBy_54 : decode cX8_passesBy 54 = .ok (.invokevirtual 144, 3) := by decide +kernel
theorem dX8_passesBy_57 : decode cX8_passesBy 57 = .ok (.iinc 4 1, 3) := by decide +kernel
theorem dX8_passesBy_60 : decode cX8_passesBy 60 = .ok (.goto (-57), 3) := by decide +kernel
theorem dX8_passesBy_63 : decode cX8_passesBy 63 = .ok (.iconst 0, 1) := by decide +kernel
theorem dX8_passesBy_64 : decode cX8_passesBy 64 = .ok (.istore 4, 2) := by decide +kernel
theorem dX8_passesBy_66 : decode cX8_passesBy 66 = .ok (.iload 4, 2) := by decide +kernel
theorem dX8_passesBy_68 : decode cX8_passesBy 68 = .ok (.aload_n 0, 1) := by decide +kernel
theorem dX8_passesBy_69 : decode cX8_passesBy 69 = .ok (.getfield 67, 3) := by decide +kernel
theorem dX8_passesBy_72 : decode cX8_passesBy 72 = .ok (.if_icmp .ge 64, 3) := by decide +kernel
theorem dX8_passesBy_75 : decode cX8_passesBy 75 = .ok (.aload_n 0, 1) := by decide +kernel
theorem dX8_passesBy_76 : decode cX8_passesBy 76 = .ok (.getfield 7, 3) := by decide +kernel
theorem dX8_passesBy_79 : decode cX8_passesBy 79 = .ok (.iload_n 1, 1) := by decide +kernel
theorem dX8_passesBy_80 : decode cX8_passesBy 80 = .ok (.bipush 57, 2) := by decide +kernel
theorem dX8_passesBy_82 : decode cX8_passesBy 82 = .ok (.iadd, 1) := by decide +kernel
theorem dX8_passesBy_83 : decode cX8_passesBy 83 = .ok (.iload 4, 2) := by decide +kernel
theorem dX8_passesBy_85 : decode cX8_passesBy 85 = .ok (.iadd, 1) := by decide +kernel
theorem dX8_passesBy_86 : decode cX8_passesBy 86 = .ok (.iaload, 1) := by decide +kernel
theorem dX8_passesBy_87 : decode cX8_passesBy 87 = .ok (.iconst 2, 1) := by decide +kernel
theorem dX8_passesBy_88 : decode cX8_passesBy 88 = .ok (.if_icmp .ne 42, 3) := by decide +kernel
theorem dX8_passesBy_91 : decode cX8_passesBy 91 = .ok (.aload_n 0, 1) := by decide +kernel
theorem dX8_passesBy_92 : decode cX8_passesBy 92 = .ok (.getfield 7, 3) := by decide +kernel
theorem dX8_passesBy_95 : decode cX8_passesBy 95 = .ok (.iload_n 1, 1) := by decide +kernel
theorem dX8_passesBy_96 : decode cX8_passesBy 96 = .ok (.bipush 12, 2) := by decide +kernel
theorem dX8_passesBy_98 : decode cX8_passesBy 98 = .ok (.iadd, 1) := by decide +kernel
theorem dX8_passesBy_99 : decode cX8_passesBy 99 = .ok (.iload 4, 2) := by decide +kernel
theorem dX8_passesBy_101 : decode cX8_passesBy 101 = .ok (.iadd, 1) := by decide +kernel
theorem dX8_passesBy_102 : decode cX8_passesBy 102 = .ok (.iaload, 1) := by decide +kernel
theorem dX8_passesBy_103 : decode cX8_passesBy 103 = .ok (.iconst 1, 1) := by decide +kernel
theorem dX8_passesBy_104 : decode cX8_passesBy 104 = .ok (.if_icmp .ne 26, 3) := by decide +kernel
theorem dX8_passesBy_107 : decode cX8_passesBy 107 = .ok (.aload_n 0, 1) := by decide +kernel
theorem dX8_passesBy_108 : decode cX8_passesBy 108 = .ok (.getfield 7, 3) := by decide +kernel
theorem dX8_passesBy_111 : decode cX8_passesBy 111 = .ok (.iload_n 1, 1) := by decide +kernel
theorem dX8_passesBy_112 : decode cX8_passesBy 112 = .ok (.bipush 21, 2) := by decide +kernel
theorem dX8_passesBy_114 : decode cX8_passesBy 114 = .ok (.iadd, 1) := by decide +kernel
theorem dX8_passesBy_115 : decode cX8_passesBy 115 = .ok (.iload 4, 2) := by decide +kernel
theorem dX8_passesBy_117 : decode cX8_passesBy 117 = .ok (.iadd, 1) := by decide +kernel
theorem dX8_passesBy_118 : decode cX8_passesBy 118 = .ok (.iaload, 1) := by decide +kernel
theorem dX8_passesBy_119 : decode cX8_passesBy 119 = .ok (.iconst 4, 1) := by decide +kernel
theorem dX8_passesBy_120 : decode cX8_passesBy 120 = .ok (.if_icmp .lt 10, 3) := by decide +kernel
theorem dX8_passesBy_123 : decode cX8_passesBy 123 = .ok (.aload_n 0, 1) := by decide +kernel
theorem dX8_passesBy_124 : decode cX8_passesBy 124 = .ok (.iload_n 1, 1) := by decide +kernel
theorem dX8_passesBy_125 : decode cX8_passesBy 125 = .ok (.iload 4, 2) := by decide +kernel
theorem dX8_passesBy_127 : decode cX8_passesBy 127 = .ok (.invokevirtual 148, 3) := by decide +kernel
theorem dX8_passesBy_130 : decode cX8_passesBy 130 = .ok (.iinc 4 1, 3) := by decide +kernel
theorem dX8_passesBy_133 : decode cX8_passesBy 133 = .ok (.goto (-67), 3) := by decide +kernel
theorem dX8_passesBy_136 : decode cX8_passesBy 136 = .ok (.aload_n 0, 1) := by decide +kernel
theorem dX8_passesBy_137 : decode cX8_passesBy 137 = .ok (.getfield 7, 3) := by decide +kernel
theorem dX8_passesBy_140 : decode cX8_passesBy 140 = .ok (.iload_n 1, 1) := by decide +kernel
theorem dX8_passesBy_141 : decode cX8_passesBy 141 = .ok (.iconst 0, 1) := by decide +kernel
theorem dX8_passesBy_142 : decode cX8_passesBy 142 = .ok (.iadd, 1) := by decide +kernel
theorem dX8_passesBy_143 : decode cX8_passesBy 143 = .ok (.iaload, 1) := by decide +kernel
theorem dX8_passesBy_144 : decode cX8_passesBy 144 = .ok (.aload_n 0, 1) := by decide +kernel
theorem dX8_passesBy_145 : decode cX8_passesBy 145 = .ok (.getfield 74, 3) := by decide +kernel
theorem dX8_passesBy_148 : decode cX8_passesBy 148 = .ok (.irem, 1) := by decide +kernel
theorem dX8_passesBy_149 : decode cX8_passesBy 149 = .ok (.ifCond .ne 27, 3) := by decide +kernel
theorem dX8_passesBy_152 : decode cX8_passesBy 152 = .ok (.aload_n 0, 1) := by decide +kernel
theorem dX8_passesBy_153 : decode cX8_passesBy 153 = .ok (.iload_n 1, 1) := by decide +kernel
theorem dX8_passesBy_154 : decode cX8_passesBy 154 = .ok (.iload_n 3, 1) := by decide +kernel
theorem dX8_passesBy_155 : decode cX8_passesBy 155 = .ok (.invokevirtual 151, 3) := by decide +kernel
theorem dX8_passesBy_158 : decode cX8_passesBy 158 = .ok (.iload_n 2, 1) := by decide +kernel
theorem dX8_passesBy_159 : decode cX8_passesBy 159 = .ok (.ifCond .eq 17, 3) := by decide +kernel
theorem dX8_passesBy_162 : decode cX8_passesBy 162 = .ok (.aload_n 0, 1) := by decide +kernel
theorem dX8_passesBy_163 : decode cX8_passesBy 163 = .ok (.iload_n 1, 1) := by decide +kernel
theorem dX8_passesBy_164 : decode cX8_passesBy 164 = .ok (.iload_n 3, 1) := by decide +kernel
theorem dX8_passesBy_165 : decode cX8_passesBy 165 = .ok (.ifCond .ne 7, 3) := by decide +kernel
theorem dX8_passesBy_168 : decode cX8_passesBy 168 = .ok (.iconst 1, 1) := by decide +kernel
theorem dX8_passesBy_169 : decode cX8_passesBy 169 = .ok (.goto 4, 3) := by decide +kernel
theorem dX8_passesBy_172 : decode cX8_passesBy 172 = .ok (.iconst 0, 1) := by decide +kernel
theorem dX8_passesBy_173 : decode cX8_passesBy 173 = .ok (.invokevirtual 151, 3) := by decide +kernel
theorem dX8_passesBy_176 : decode cX8_passesBy 176 = .ok (.iconst 0, 1) := by decide +kernel
theorem dX8_passesBy_177 : decode cX8_passesBy 177 = .ok (.istore 4, 2) := by decide +kernel
theorem dX8_passesBy_179 : decode cX8_passesBy 179 = .ok (.iload 4, 2) := by decide +kernel
theorem dX8_passesBy_181 : decode cX8_passesBy 181 = .ok (.aload_n 0, 1) := by decide +kernel
theorem dX8_passesBy_182 : decode cX8_passesBy 182 = .ok (.getfield 7, 3) := by decide +kernel
theorem dX8_passesBy_185 : decode cX8_passesBy 185 = .ok (.iload_n 1, 1) := by decide +kernel
theorem dX8_passesBy_186 : decode cX8_passesBy 186 = .ok (.iconst 2, 1) := by decide +kernel
theorem dX8_passesBy_187 : decode cX8_passesBy 187 = .ok (.iadd, 1) := by decide +kernel
theorem dX8_passesBy_188 : decode cX8_passesBy 188 = .ok (.iaload, 1) := by decide +kernel
theorem dX8_passesBy_189 : decode cX8_passesBy 189 = .ok (.if_icmp .ge 34, 3) := by decide +kernel
theorem dX8_passesBy_192 : decode cX8_passesBy 192 = .ok (.aload_n 0, 1) := by decide +kernel
theorem dX8_passesBy_193 : decode cX8_passesBy 193 = .ok (.getfield 7, 3) := by decide +kernel
theorem dX8_passesBy_196 : decode cX8_passesBy 196 = .ok (.iload_n 1, 1) := by decide +kernel
theorem dX8_passesBy_197 : decode cX8_passesBy 197 = .ok (.bipush 21, 2) := by decide +kernel
theorem dX8_passesBy_199 : decode cX8_passesBy 199 = .ok (.iadd, 1) := by decide +kernel
theorem dX8_passesBy_200 : decode cX8_passesBy 200 = .ok (.aload_n 0, 1) := by decide +kernel
theorem dX8_passesBy_201 : decode cX8_passesBy 201 = .ok (.getfield 7, 3) := by decide +kernel
theorem dX8_passesBy_204 : decode cX8_passesBy 204 = .ok (.iload_n 1, 1) := by decide +kernel
theorem dX8_passesBy_205 : decode cX8_passesBy 205 = .ok (.iconst 3, 1) := by decide +kernel
theorem dX8_passesBy_206 : decode cX8_passesBy 206 = .ok (.iadd, 1) := by decide +kernel
theorem dX8_passesBy_207 : decode cX8_passesBy 207 = .ok (.iload 4, 2) := by decide +kernel
theorem dX8_passesBy_209 : decode cX8_passesBy 209 = .ok (.iadd, 1) := by decide +kernel
theorem dX8_passesBy_210 : decode cX8_passesBy 210 = .ok (.iaload, 1) := by decide +kernel
theorem dX8_passesBy_211 : decode cX8_passesBy 211 = .ok (.iadd, 1) := by decide +kernel
theorem dX8_passesBy_212 : decode cX8_passesBy 212 = .ok (.dup2, 1) := by decide +kernel
theorem dX8_passesBy_213 : decode cX8_passesBy 213 = .ok (.iaload, 1) := by decide +kernel
theorem dX8_passesBy_214 : decode cX8_passesBy 214 = .ok (.iconst 1, 1) := by decide +kernel
theorem dX8_passesBy_215 : decode cX8_passesBy 215 = .ok (.iadd, 1) := by decide +kernel
theorem dX8_passesBy_216 : decode cX8_passesBy 216 = .ok (.iastore, 1) := by decide +kernel
theorem dX8_passesBy_217 : decode cX8_passesBy 217 = .ok (.iinc 4 1, 3) := by decide +kernel
theorem dX8_passesBy_220 : decode cX8_passesBy 220 = .ok (.goto (-41), 3) := by decide +kernel
theorem dX8_passesBy_223 : decode cX8_passesBy 223 = .ok (.aload_n 0, 1) := by decide +kernel
theorem dX8_passesBy_224 : decode cX8_passesBy 224 = .ok (.getfield 7, 3) := by decide +kernel
theorem dX8_passesBy_227 : decode cX8_passesBy 227 = .ok (.iload_n 1, 1) := by decide +kernel
theorem dX8_passesBy_228 : decode cX8_passesBy 228 = .ok (.iconst 0, 1) := by decide +kernel
theorem dX8_passesBy_229 : decode cX8_passesBy 229 = .ok (.iadd, 1) := by decide +kernel
theorem dX8_passesBy_230 : decode cX8_passesBy 230 = .ok (.dup2, 1) := by decide +kernel
theorem dX8_passesBy_231 : decode cX8_passesBy 231 = .ok (.iaload, 1) := by decide +kernel
theorem dX8_passesBy_232 : decode cX8_passesBy 232 = .ok (.iconst 1, 1) := by decide +kernel
theorem dX8_passesBy_233 : decode cX8_passesBy 233 = .ok (.iadd, 1) := by decide +kernel
theorem dX8_passesBy_234 : decode cX8_passesBy 234 = .ok (.iastore, 1) := by decide +kernel
theorem dX8_passesBy_235 : decode cX8_passesBy 235 = .ok (.return_, 1) := by decide +kernel
theorem dX8_isRumour_0 : decode cX8_isRumour 0 = .ok (.aload_n 0, 1) := by decide +kernel
theorem dX8_isRumour_1 : decode cX8_isRumour 1 = .ok (.getfield 80, 3) := by decide +kernel
theorem dX8_isRumour_4 : decode cX8_isRumour 4 = .ok (.ifCond .le 23, 3) := by decide +kernel
theorem dX8_isRumour_7 : decode cX8_isRumour 7 = .ok (.aload_n 0, 1) := by decide +kernel
theorem dX8_isRumour_8 : decode cX8_isRumour 8 = .ok (.getfield 7, 3) := by decide +kernel
theorem dX8_isRumour_11 : decode cX8_isRumour 11 = .ok (.iload_n 1, 1) := by decide +kernel
theorem dX8_isRumour_12 : decode cX8_isRumour 12 = .ok (.iconst 0, 1) := by decide +kernel
theorem dX8_isRumour_13 : decode cX8_isRumour 13 = .ok (.iadd, 1) := by decide +kernel
theorem dX8_isRumour_14 : decode cX8_isRumour 14 = .ok (.iaload, 1) := by decide +kernel
theorem dX8_isRumour_15 : decode cX8_isRumour 15 = .ok (.aload_n 0, 1) := by decide +kernel
theorem dX8_isRumour_16 : decode cX8_isRumour 16 = .ok (.getfield 80, 3) := by decide +kernel
theorem dX8_isRumour_19 : decode cX8_isRumour 19 = .ok (.irem, 1) := by decide +kernel
theorem dX8_isRumour_20 : decode cX8_isRumour 20 = .ok (.ifCond .ne 7, 3) := by decide +kernel
theorem dX8_isRumour_23 : decode cX8_isRumour 23 = .ok (.iconst 1, 1) := by decide +kernel
theorem dX8_isRumour_24 : decode cX8_isRumour 24 = .ok (.goto 4, 3) := by decide +kernel
theorem dX8_isRumour_27 : decode cX8_isRumour 27 = .ok (.iconst 0, 1) := by decide +kernel
theorem dX8_isRumour_28 : decode cX8_isRumour 28 = .ok (.ireturn, 1) := by decide +kernel
theorem dX8_passes_0 : decode cX8_passes 0 = .ok (.aload_n 0, 1) := by decide +kernel
theorem dX8_passes_1 : decode cX8_passes 1 = .ok (.iload_n 1, 1) := by decide +kernel
theorem dX8_passes_2 : decode cX8_passes 2 = .ok (.iconst 0, 1) := by decide +kernel
theorem dX8_passes_3 : decode cX8_passes 3 = .ok (.aload_n 0, 1) := by decide +kernel
theorem dX8_passes_4 : decode cX8_passes 4 = .ok (.iload_n 1, 1) := by decide +kernel
theorem dX8_passes_5 : decode cX8_passes 5 = .ok (.invokevirtual 155, 3) := by decide +kernel
theorem dX8_passes_8 : decode cX8_passes 8 = .ok (.invokevirtual 159, 3) := by decide +kernel
theorem dX8_passes_11 : decode cX8_passes 11 = .ok (.return_, 1) := by decide +kernel
theorem dX8_isWhere_0 : decode cX8_isWhere 0 = .ok (.aload_n 0, 1) := by decide +kernel
theorem dX8_isWhere_1 : decode cX8_isWhere 1 = .ok (.getfield 7, 3) := by decide +kernel
theorem dX8_isWhere_4 : decode cX8_isWhere 4 = .ok (.iload_n 1, 1) := by decide +kernel
theorem dX8_isWhere_5 : decode cX8_isWhere 5 = .ok (.bipush 12, 2) := by decide +kernel
theorem dX8_isWhere_7 : decode cX8_isWhere 7 = .ok (.iadd, 1) := by decide +kernel
theorem dX8_isWhere_8 : decode cX8_isWhere 8 = .ok (.iload_n 2, 1) := by decide +kernel
theorem dX8_isWhere_9 : decode cX8_isWhere 9 = .ok (.iadd, 1) := by decide +kernel
theorem dX8_isWhere_10 : decode cX8_isWhere 10 = .ok (.iaload, 1) := by decide +kernel
theorem dX8_isWhere_11 : decode cX8_isWhere 11 = .ok (.iload_n 3, 1) := by decide +kernel
theorem dX8_isWhere_12 : decode cX8_isWhere 12 = .ok (.if_icmp .ne 7, 3) := by decide +kernel
theorem dX8_isWhere_15 : decode cX8_isWhere 15 = .ok (.iconst 1, 1) := by decide +kernel
theorem dX8_isWhere_16 : decode cX8_isWhere 16 = .ok (.goto 4, 3) := by decide +kernel
theorem dX8_isWhere_19 : decode cX8_isWhere 19 = .ok (.iconst 0, 1) := by decide +kernel
theorem dX8_isWhere_20 : decode cX8_isWhere 20 = .ok (.ireturn, 1) := by decide +kernel
theorem dX8_manyWhere_0 : decode cX8_manyWhere 0 = .ok (.iconst 0, 1) := by decide +kernel
theorem dX8_manyWhere_1 : decode cX8_manyWhere 1 = .ok (.istore_n 2, 1) := by decide +kernel
theorem dX8_manyWhere_2 : decode cX8_manyWhere 2 = .ok (.iconst 0, 1) := by decide +kernel
theorem dX8_manyWhere_3 : decode cX8_manyWhere 3 = .ok (.istore_n 3, 1) := by decide +kernel
theorem dX8_manyWhere_4 : decode cX8_manyWhere 4 = .ok (.iload_n 3, 1) := by decide +kernel
theorem dX8_manyWhere_5 : decode cX8_manyWhere 5 = .ok (.aload_n 0, 1) := by decide +kernel
theorem dX8_manyWhere_6 : decode cX8_manyWhere 6 = .ok (.getfield 67, 3) := by decide +kernel
theorem dX8_manyWhere_9 : decode cX8_manyWhere 9 = .ok (.if_icmp .ge 27, 3) := by decide +kernel
theorem dX8_manyWhere_12 : decode cX8_manyWhere 12 = .ok (.iload_n 2, 1) := by decide +kernel
theorem dX8_manyWhere_13 : decode cX8_manyWhere 13 = .ok (.aload_n 0, 1) := by decide +kernel
theorem dX8_manyWhere_14 : decode cX8_manyWhere 14 = .ok (.iconst 0, 1) := by decide +kernel
theorem dX8_manyWhere_15 : decode cX8_manyWhere 15 = .ok (.iload_n 3, 1) := by decide +kernel
theorem dX8_manyWhere_16 : decode cX8_manyWhere 16 = .ok (.iload_n 1, 1) := by decide +kernel
theorem dX8_manyWhere_17 : decode cX8_manyWhere 17 = .ok (.invokevirtual 163, 3) := by decide +kernel
theorem dX8_manyWhere_20 : decode cX8_manyWhere 20 = .ok (.ifCond .eq 7, 3) := by decide +kernel
theorem dX8_manyWhere_23 : decode cX8_manyWhere 23 = .ok (.iconst 1, 1) := by decide +kernel
theorem dX8_manyWhere_24 : decode cX8_manyWhere 24 = .ok (.goto 4, 3) := by decide +kernel
theorem dX8_manyWhere_27 : decode cX8_manyWhere 27 = .ok (.iconst 0, 1) := by decide +kernel
theorem dX8_manyWhere_28 : decode cX8_manyWhere 28 = .ok (.iadd, 1) := by decide +kernel
theorem dX8_manyWhere_29 : decode cX8_manyWhere 29 = .ok (.istore_n 2, 1) := by decide +kernel
theorem dX8_manyWhere_30 : decode cX8_manyWhere 30 = .ok (.iinc 3 1, 3) := by decide +kernel
theorem dX8_manyWhere_33 : decode cX8_manyWhere 33 = .ok (.goto (-29), 3) := by decide +kernel
theorem dX8_manyWhere_36 : decode cX8_manyWhere 36 = .ok (.iload_n 2, 1) := by decide +kernel
theorem dX8_manyWhere_37 : decode cX8_manyWhere 37 = .ok (.ireturn, 1) := by decide +kernel
theorem dX8_person_0 : decode cX8_person 0 = .ok (.aload_n 0, 1) := by decide +kernel
theorem dX8_person_1 : decode cX8_person 1 = .ok (.iload_n 1, 1) := by decide +kernel
theorem dX8_person_2 : decode cX8_person 2 = .ok (.invokevirtual 166, 3) := by decide +kernel
theorem dX8_person_5 : decode cX8_person 5 = .ok (.ifCond .ne 5, 3) := by decide +kernel
theorem dX8_person_8 : decode cX8_person 8 = .ok (.iconst (-1), 1) := by decide +kernel
theorem dX8_person_9 : decode cX8_person 9 = .ok (.ireturn, 1) := by decide +kernel
theorem dX8_person_10 : decode cX8_person 10 = .ok (.iload_n 2, 1) := by decide +kernel
theorem dX8_person_11 : decode cX8_person 11 = .ok (.tableswitch 119 0 7 #[45, 55, 65, 72, 82, 89, 99, 109], 45) := by decide +kernel
theorem dX8_person_56 : decode cX8_person 56 = .ok (.aload_n 0, 1) := by decide +kernel
theorem dX8_person_57 : decode cX8_person 57 = .ok (.getfield 7, 3) := by decide +kernel
theorem dX8_person_60 : decode cX8_person 60 = .ok (.bipush 57, 2) := by decide +kernel
theorem dX8_person_62 : decode cX8_person 62 = .ok (.iload_n 1, 1) := by decide +kernel
theorem dX8_person_63 : decode cX8_person 63 = .ok (.iadd, 1) := by decide +kernel
theorem dX8_person_64 : decode cX8_person 64 = .ok (.iaload, 1) := by decide +kernel
theorem dX8_person_65 : decode cX8_person 65 = .ok (.ireturn, 1) := by decide +kernel
theorem dX8_person_66 : decode cX8_person 66 = .ok (.aload_n 0, 1) := by decide +kernel
theorem dX8_person_67 : decode cX8_person 67 = .ok (.getfield 7, 3) := by decide +kernel
theorem dX8_person_70 : decode cX8_person 70 = .ok (.bipush 48, 2) := by decide +kernel
theorem dX8_person_72 : decode cX8_person 72 = .ok (.iload_n 1, 1) := by decide +kernel
theorem dX8_person_73 : decode cX8_person 73 = .ok (.iadd, 1) := by decide +kernel
theorem dX8_person_74 : decode cX8_person 74 = .ok (.iaload, 1) := by decide +kernel
theorem dX8_person_75 : decode cX8_person 75 = .ok (.ireturn, 1) := by decide +kernel
theorem dX8_person_76 : decode cX8_person 76 = .ok (.aload_n 0, 1) := by decide +kernel
theorem dX8_person_77 : decode cX8_person 77 = .ok (.getfield 13, 3) := by decide +kernel
theorem dX8_person_80 : decode cX8_person 80 = .ok (.iload_n 1, 1) := by decide +kernel
theorem dX8_person_81 : decode cX8_person 81 = .ok (.iaload, 1) := by decide +kernel
theorem dX8_person_82 : decode cX8_person 82 = .ok (.ireturn, 1) := by decide +kernel
theorem dX8_person_83 : decode cX8_person 83 = .ok (.aload_n 0, 1) := by decide +kernel
theorem dX8_person_84 : decode cX8_person 84 = .ok (.getfield 7, 3) := by decide +kernel
theorem dX8_person_87 : decode cX8_person 87 = .ok (.bipush 12, 2) := by decide +kernel
theorem dX8_person_89 : decode cX8_person 89 = .ok (.iload_n 1, 1) := by decide +kernel
theorem dX8_person_90 : decode cX8_person 90 = .ok (.iadd, 1) := by decide +kernel
theorem dX8_person_91 : decode cX8_person 91 = .ok (.iaload, 1) := by decide +kernel
theorem dX8_person_92 : decode cX8_person 92 = .ok (.ireturn, 1) := by decide +kernel
theorem dX8_person_93 : decode cX8_person 93 = .ok (.aload_n 0, 1) := by decide +kernel
theorem dX8_person_94 : decode cX8_person 94 = .ok (.iconst 0, 1) := by decide +kernel
theorem dX8_person_95 : decode cX8_person 95 = .ok (.iload_n 1, 1) := by decide +kernel
theorem dX8_person_96 : decode cX8_person 96 = .ok (.invokevirtual 134, 3) := by decide +kernel
theorem dX8_person_99 : decode cX8_person 99 = .ok (.ireturn, 1) := by decide +kernel
theorem dX8_person_100 : decode cX8_person 100 = .ok (.aload_n 0, 1) := by decide +kernel
theorem dX8_person_101 : decode cX8_person 101 = .ok (.getfield 7, 3) := by decide +kernel
theorem dX8_person_104 : decode cX8_person 104 = .ok (.bipush 21, 2) := by decide +kernel
theorem dX8_person_106 : decode cX8_person 106 = .ok (.iload_n 1, 1) := by decide +kernel
theorem dX8_person_107 : decode cX8_person 107 = .ok (.iadd, 1) := by decide +kernel
theorem dX8_person_108 : decode cX8_person 108 = .ok (.iaload, 1) := by decide +kernel
theorem dX8_person_109 : decode cX8_person 109 = .ok (.ireturn, 1) := by decide +kernel
theorem dX8_person_110 : decode cX8_person 110 = .ok (.aload_n 0, 1) := by decide +kernel
theorem dX8_person_111 : decode cX8_person 111 = .ok (.getfield 7, 3) := by decide +kernel
theorem dX8_person_114 : decode cX8_person 114 = .ok (.bipush 30, 2) := by decide +kernel
theorem dX8_person_116 : decode cX8_person 116 = .ok (.iload_n 1, 1) := by decide +kernel
theorem dX8_person_117 : decode cX8_person 117 = .ok (.iadd, 1) := by decide +kernel
theorem dX8_person_118 : decode cX8_person 118 = .ok (.iaload, 1) := by decide +kernel
theorem dX8_person_119 : decode cX8_person 119 = .ok (.ireturn, 1) := by decide +kernel
theorem dX8_person_120 : decode cX8_person 120 = .ok (.aload_n 0, 1) := by decide +kernel
theorem dX8_person_121 : decode cX8_person 121 = .ok (.getfield 7, 3) := by decide +kernel
theorem dX8_person_124 : decode cX8_person 124 = .ok (.bipush 39, 2) := by decide +kernel
theorem dX8_person_126 : decode cX8_person 126 = .ok (.iload_n 1, 1) := by decide +kernel
theorem dX8_person_127 : decode cX8_person 127 = .ok (.iadd, 1) := by decide +kernel
theorem dX8_person_128 : decode cX8_person 128 = .ok (.iaload, 1) := by decide +kernel
theorem dX8_person_129 : decode cX8_person 129 = .ok (.ireturn, 1) := by decide +kernel
theorem dX8_person_130 : decode cX8_person 130 = .ok (.iconst (-1), 1) := by decide +kernel
theorem dX8_person_131 : decode cX8_person 131 = .ok (.ireturn, 1) := by decide +kernel
theorem dX8_at_0 : decode cX8_at 0 = .ok (.iload_n 1, 1) := by decide +kernel
theorem dX8_at_1 : decode cX8_at 1 = .ok (.ifCond .ge 5, 3) := by decide +kernel
theorem dX8_at_4 : decode cX8_at 4 = .ok (.iconst (-1), 1) := by decide +kernel
theorem dX8_at_5 : decode cX8_at 5 = .ok (.ireturn, 1) := by decide +kernel
theorem dX8_at_6 : decode cX8_at 6 = .ok (.iload_n 1, 1) := by decide +kernel
theorem dX8_at_7 : decode cX8_at 7 = .ok (.aload_n 0, 1) := by decide +kernel
theorem dX8_at_8 : decode cX8_at 8 = .ok (.getfield 7, 3) := by decide +kernel
theorem dX8_at_11 : decode cX8_at 11 = .ok (.iconst 2, 1) := by decide +kernel
theorem dX8_at_12 : decode cX8_at 12 = .ok (.iaload, 1) := by decide +kernel
theorem dX8_at_13 : decode cX8_at 13 = .ok (.if_icmp .ge 14, 3) := by decide +kernel
theorem dX8_at_16 : decode cX8_at 16 = .ok (.aload_n 0, 1) := by decide +kernel
theorem dX8_at_17 : decode cX8_at 17 = .ok (.getfield 7, 3) := by decide +kernel
theorem dX8_at_20 : decode cX8_at 20 = .ok (.iconst 3, 1) := by decide +kernel
theorem dX8_at_21 : decode cX8_at 21 = .ok (.iload_n 1, 1) := by decide +kernel
theorem dX8_at_22 : decode cX8_at 22 = .ok (.iadd, 1) := by decide +kernel
theorem dX8_at_23 : decode cX8_at 23 = .ok (.iaload, 1) := by decide +kernel
theorem dX8_at_24 : decode cX8_at 24 = .ok (.goto 5, 3) := by decide +kernel
theorem dX8_at_27 : decode cX8_at 27 = .ok (.bipush (-4), 2) := by decide +kernel
theorem dX8_at_29 : decode cX8_at 29 = .ok (.ireturn, 1) := by decide +kernel
theorem dX8_minds_0 : decode cX8_minds 0 = .ok (.aload_n 0, 1) := by decide +kernel
theorem dX8_minds_1 : decode cX8_minds 1 = .ok (.getfield 83, 3) := by decide +kernel
theorem dX8_minds_4 : decode cX8_minds 4 = .ok (.bipush 8, 2) := by decide +kernel
theorem dX8_minds_6 : decode cX8_minds 6 = .ok (.if_icmp .ne 51, 3) := by decide +kernel
theorem dX8_minds_9 : decode cX8_minds 9 = .ok (.iconst 0, 1) := by decide +kernel
theorem dX8_minds_10 : decode cX8_minds 10 = .ok (.istore_n 1, 1) := by decide +kernel
theorem dX8_minds_11 : decode cX8_minds 11 = .ok (.iload_n 1, 1) := by decide +kernel
theorem dX8_minds_12 : decode cX8_minds 12 = .ok (.sipush 462, 3) := by decide +kernel
theorem dX8_minds_15 : decode cX8_minds 15 = .ok (.if_icmp .ge 32, 3) := by decide +kernel
theorem dX8_minds_18 : decode cX8_minds 18 = .ok (.aload_n 0, 1) := by decide +kernel
theorem dX8_minds_19 : decode cX8_minds 19 = .ok (.getfield 7, 3) := by decide +kernel
theorem dX8_minds_22 : decode cX8_minds 22 = .ok (.sipush 264, 3) := by decide +kernel
theorem dX8_minds_25 : decode cX8_minds 25 = .ok (.iload_n 1, 1) := by decide +kernel
theorem dX8_minds_26 : decode cX8_minds 26 = .ok (.iadd, 1) := by decide +kernel
theorem dX8_minds_27 : decode cX8_minds 27 = .ok (.aload_n 0, 1) := by decide +kernel
theorem dX8_minds_28 : decode cX8_minds 28 = .ok (.getfield 7, 3) := by decide +kernel
theorem dX8_minds_31 : decode cX8_minds 31 = .ok (.sipush 264, 3) := by decide +kernel
theorem dX8_minds_34 : decode cX8_minds 34 = .ok (.iload_n 1, 1) := by decide +kernel
theorem dX8_minds_35 : decode cX8_minds 35 = .ok (.iadd, 1) := by decide +kernel
theorem dX8_minds_36 : decode cX8_minds 36 = .ok (.bipush 66, 2) := by decide +kernel
theorem dX8_minds_38 : decode cX8_minds 38 = .ok (.iadd, 1) := by decide +kernel
theorem dX8_minds_39 : decode cX8_minds 39 = .ok (.iaload, 1) := by decide +kernel
theorem dX8_minds_40 : decode cX8_minds 40 = .ok (.iastore, 1) := by decide +kernel
theorem dX8_minds_41 : decode cX8_minds 41 = .ok (.iinc 1 1, 3) := by decide +kernel
theorem dX8_minds_44 : decode cX8_minds 44 = .ok (.goto (-33), 3) := by decide +kernel
theorem dX8_minds_47 : decode cX8_minds 47 = .ok (.aload_n 0, 1) := by decide +kernel
theorem dX8_minds_48 : decode cX8_minds 48 = .ok (.dup, 1) := by decide +kernel
theorem dX8_minds_49 : decode cX8_minds 49 = .ok (.getfield 83, 3) := by decide +kernel
theorem dX8_minds_52 : decode cX8_minds 52 = .ok (.iconst 1, 1) := by decide +kernel
theorem dX8_minds_53 : decode cX8_minds 53 = .ok (.isub, 1) := by decide +kernel
theorem dX8_minds_54 : decode cX8_minds 54 = .ok (.putfield 83, 3) := by decide +kernel
theorem dX8_minds_57 : decode cX8_minds 57 = .ok (.aload_n 0, 1) := by decide +kernel
theorem dX8_minds_58 : decode cX8_minds 58 = .ok (.iconst 0, 1) := by decide +kernel
theorem dX8_minds_59 : decode cX8_minds 59 = .ok (.sipush 264, 3) := by decide +kernel
theorem dX8_minds_62 : decode cX8_minds 62 = .ok (.bipush 66, 2) := by decide +kernel
theorem dX8_minds_64 : decode cX8_minds 64 = .ok (.aload_n 0, 1) := by decide +kernel
theorem dX8_minds_65 : decode cX8_minds 65 = .ok (.getfield 83, 3) := by decide +kernel
theorem dX8_minds_68 : decode cX8_minds 68 = .ok (.imul, 1) := by decide +kernel
theorem dX8_minds_69 : decode cX8_minds 69 = .ok (.iadd, 1) := by decide +kernel
theorem dX8_minds_70 : decode cX8_minds 70 = .ok (.invokevirtual 169, 3) := by decide +kernel
theorem dX8_minds_73 : decode cX8_minds 73 = .ok (.aload_n 0, 1) := by decide +kernel
theorem dX8_minds_74 : decode cX8_minds 74 = .ok (.dup, 1) := by decide +kernel
theorem dX8_minds_75 : decode cX8_minds 75 = .ok (.getfield 83, 3) := by decide +kernel
theorem dX8_minds_78 : decode cX8_minds 78 = .ok (.iconst 1, 1) := by decide +kernel
theorem dX8_minds_79 : decode cX8_minds 79 = .ok (.iadd, 1) := by decide +kernel
theorem dX8_minds_80 : decode cX8_minds 80 = .ok (.putfield 83, 3) := by decide +kernel
theorem dX8_minds_83 : decode cX8_minds 83 = .ok (.return_, 1) := by decide +kernel
theorem dX8_pass_0 : decode cX8_pass 0 = .ok (.iload_n 1, 1) := by decide +kernel
theorem dX8_pass_1 : decode cX8_pass 1 = .ok (.i2l, 1) := by decide +kernel
theorem dX8_pass_2 : decode cX8_pass 2 = .ok (.lconst 1, 1) := by decide +kernel
theorem dX8_pass_3 : decode cX8_pass 3 = .ok (.ldc2_w 172, 3) := by decide +kernel
theorem dX8_pass_6 : decode cX8_pass 6 = .ok (.invokestatic 70, 3) := by decide +kernel
theorem dX8_pass_9 : decode cX8_pass 9 = .ok (.ifCond .ne 5, 3) := by decide +kernel
theorem dX8_pass_12 : decode cX8_pass 12 = .ok (.iconst (-1), 1) := by decide +kernel
theorem dX8_pass_13 : decode cX8_pass 13 = .ok (.ireturn, 1) := by decide +kernel
theorem dX8_pass_14 : decode cX8_pass 14 = .ok (.aload_n 0, 1) := by decide +kernel
theorem dX8_pass_15 : decode cX8_pass 15 = .ok (.invokevirtual 174, 3) := by decide +kernel
theorem dX8_pass_18 : decode cX8_pass 18 = .ok (.iconst 0, 1) := by decide +kernel
theorem dX8_pass_19 : decode cX8_pass 19 = .ok (.istore_n 2, 1) := by decide +kernel
theorem dX8_pass_20 : decode cX8_pass 20 = .ok (.iload_n 2, 1) := by decide +kernel
theorem dX8_pass_21 : decode cX8_pass 21 = .ok (.iload_n 1, 1) := by decide +kernel
theorem dX8_pass_22 : decode cX8_pass 22 = .ok (.if_icmp .ge 14, 3) := by decide +kernel
theorem dX8_pass_25 : decode cX8_pass 25 = .ok (.aload_n 0, 1) := by decide +kernel
theorem dX8_pass_26 : decode cX8_pass 26 = .ok (.iconst 0, 1) := by decide +kernel
theorem dX8_pass_27 : decode cX8_pass 27 = .ok (.invokevirtual 177, 3) := by decide +kernel
theorem dX8_pass_30 : decode cX8_pass 30 = .ok (.iinc 2 1, 3) := by decide +kernel
theorem dX8_pass_33 : decode cX8_pass 33 = .ok (.goto (-13), 3) := by decide +kernel
theorem dX8_pass_36 : decode cX8_pass 36 = .ok (.aload_n 0, 1) := by decide +kernel
theorem dX8_pass_37 : decode cX8_pass 37 = .ok (.iconst 3, 1) := by decide +kernel
theorem dX8_pass_38 : decode cX8_pass 38 = .ok (.invokevirtual 181, 3) := by decide +kernel
theorem dX8_pass_41 : decode cX8_pass 41 = .ok (.ireturn, 1) := by decide +kernel
theorem dX8_canGiveUp_0 : decode cX8_canGiveUp 0 = .ok (.aload_n 0, 1) := by decide +kernel
theorem dX8_canGiveUp_1 : decode cX8_canGiveUp 1 = .ok (.iload_n 1, 1) := by decide +kernel
theorem dX8_canGiveUp_2 : decode cX8_canGiveUp 2 = .ok (.iload_n 2, 1) := by decide +kernel
theorem dX8_canGiveUp_3 : decode cX8_canGiveUp 3 = .ok (.iconst 1, 1) := by decide +kernel
theorem dX8_canGiveUp_4 : decode cX8_canGiveUp 4 = .ok (.invokevirtual 163, 3) := by decide +kernel
theorem dX8_canGiveUp_7 : decode cX8_canGiveUp 7 = .ok (.ifCond .eq 26, 3) := by decide +kernel
theorem dX8_canGiveUp_10 : decode cX8_canGiveUp 10 = .ok (.aload_n 0, 1) := by decide +kernel
theorem dX8_canGiveUp_11 : decode cX8_canGiveUp 11 = .ok (.iload_n 1, 1) := by decide +kernel
theorem dX8_canGiveUp_12 : decode cX8_canGiveUp 12 = .ok (.iload_n 2, 1) := by decide +kernel
theorem dX8_canGiveUp_13 : decode cX8_canGiveUp 13 = .ok (.invokevirtual 134, 3) := by decide +kernel
theorem dX8_canGiveUp_16 : decode cX8_canGiveUp 16 = .ok (.aload_n 0, 1) := by decide +kernel
theorem dX8_canGiveUp_17 : decode cX8_canGiveUp 17 = .ok (.getfield 7, 3) := by decide +kernel
theorem dX8_canGiveUp_20 : decode cX8_canGiveUp 20 = .ok (.iload_n 1, 1) := by decide +kernel
theorem dX8_canGiveUp_21 : decode cX8_canGiveUp 21 = .ok (.iconst 2, 1) := by decide +kernel
theorem dX8_canGiveUp_22 : decode cX8_canGiveUp 22 = .ok (.iadd, 1) := by decide +kernel
theorem dX8_canGiveUp_23 : decode cX8_canGiveUp 23 = .ok (.iaload, 1) := by decide +kernel
theorem dX8_canGiveUp_24 : decode cX8_canGiveUp 24 = .ok (.iconst 1, 1) := by decide +kernel
theorem dX8_canGiveUp_25 : decode cX8_canGiveUp 25 = .ok (.isub, 1) := by decide +kernel
theorem dX8_canGiveUp_26 : decode cX8_canGiveUp 26 = .ok (.if_icmp .ge 7, 3) := by decide +kernel
theorem dX8_canGiveUp_29 : decode cX8_canGiveUp 29 = .ok (.iconst 1, 1) := by decide +kernel
theorem dX8_canGiveUp_30 : decode cX8_canGiveUp 30 = .ok (.goto 4, 3) := by decide +kernel
theorem dX8_canGiveUp_33 : decode cX8_canGiveUp 33 = .ok (.iconst 0, 1) := by decide +kernel
theorem dX8_canGiveUp_34 : decode cX8_canGiveUp 34 = .ok (.ireturn, 1) := by decide +kernel
theorem dX8_givesUp_0 : decode cX8_givesUp 0 = .ok (.aload_n 0, 1) := by decide +kernel
theorem dX8_givesUp_1 : decode cX8_givesUp 1 = .ok (.iload_n 1, 1) := by decide +kernel
theorem dX8_givesUp_2 : decode cX8_givesUp 2 = .ok (.iload_n 2, 1) := by decide +kernel
theorem dX8_givesUp_3 : decode cX8_givesUp 3 = .ok (.invokevirtual 134, 3) := by decide +kernel
theorem dX8_givesUp_6 : decode cX8_givesUp 6 = .ok (.istore_n 3, 1) := by decide +kernel
theorem dX8_givesUp_7 : decode cX8_givesUp 7 = .ok (.aload_n 0, 1) := by decide +kernel
theorem dX8_givesUp_8 : decode cX8_givesUp 8 = .ok (.getfield 7, 3) := by decide +kernel
theorem dX8_givesUp_11 : decode cX8_givesUp 11 = .ok (.iload_n 1, 1) := by decide +kernel
theorem dX8_givesUp_12 : decode cX8_givesUp 12 = .ok (.iconst 3, 1) := by decide +kernel
theorem dX8_givesUp_13 : decode cX8_givesUp 13 = .ok (.iadd, 1) := by decide +kernel
theorem dX8_givesUp_14 : decode cX8_givesUp 14 = .ok (.iload_n 3, 1) := by decide +kernel
theorem dX8_givesUp_15 : decode cX8_givesUp 15 = .ok (.iadd, 1) := by decide +kernel
theorem dX8_givesUp_16 : decode cX8_givesUp 16 = .ok (.aload_n 0, 1) := by decide +kernel
theorem dX8_givesUp_17 : decode cX8_givesUp 17 = .ok (.getfield 7, 3) := by decide +kernel
theorem dX8_givesUp_20 : decode cX8_givesUp 20 = .ok (.iload_n 1, 1) := by decide +kernel
theorem dX8_givesUp_21 : decode cX8_givesUp 21 = .ok (.iconst 3, 1) := by decide +kernel
theorem dX8_givesUp_22 : decode cX8_givesUp 22 = .ok (.iadd, 1) := by decide +kernel
theorem dX8_givesUp_23 : decode cX8_givesUp 23 = .ok (.iload_n 3, 1) := by decide +kernel
theorem dX8_givesUp_24 : decode cX8_givesUp 24 = .ok (.iadd, 1) := by decide +kernel
theorem dX8_givesUp_25 : decode cX8_givesUp 25 = .ok (.iconst 1, 1) := by decide +kernel
theorem dX8_givesUp_26 : decode cX8_givesUp 26 = .ok (.iadd, 1) := by decide +kernel
theorem dX8_givesUp_27 : decode cX8_givesUp 27 = .ok (.iaload, 1) := by decide +kernel
theorem dX8_givesUp_28 : decode cX8_givesUp 28 = .ok (.iastore, 1) := by decide +kernel
theorem dX8_givesUp_29 : decode cX8_givesUp 29 = .ok (.aload_n 0, 1) := by decide +kernel
theorem dX8_givesUp_30 : decode cX8_givesUp 30 = .ok (.getfield 7, 3) := by decide +kernel
theorem dX8_givesUp_33 : decode cX8_givesUp 33 = .ok (.iload_n 1, 1) := by decide +kernel
theorem dX8_givesUp_34 : decode cX8_givesUp 34 = .ok (.iconst 3, 1) := by decide +kernel
theorem dX8_givesUp_35 : decode cX8_givesUp 35 = .ok (.iadd, 1) := by decide +kernel
theorem dX8_givesUp_36 : decode cX8_givesUp 36 = .ok (.iload_n 3, 1) := by decide +kernel
theorem dX8_givesUp_37 : decode cX8_givesUp 37 = .ok (.iadd, 1) := by decide +kernel
theorem dX8_givesUp_38 : decode cX8_givesUp 38 = .ok (.iconst 1, 1) := by decide +kernel
theorem dX8_givesUp_39 : decode cX8_givesUp 39 = .ok (.iadd, 1) := by decide +kernel
theorem dX8_givesUp_40 : decode cX8_givesUp 40 = .ok (.iload_n 2, 1) := by decide +kernel
theorem dX8_givesUp_41 : decode cX8_givesUp 41 = .ok (.iastore, 1) := by decide +kernel
theorem dX8_givesUp_42 : decode cX8_givesUp 42 = .ok (.return_, 1) := by decide +kernel
theorem dX8_giveUp_0 : decode cX8_giveUp 0 = .ok (.aload_n 0, 1) := by decide +kernel
theorem dX8_giveUp_1 : decode cX8_giveUp 1 = .ok (.iload_n 1, 1) := by decide +kernel
theorem dX8_giveUp_2 : decode cX8_giveUp 2 = .ok (.invokevirtual 166, 3) := by decide +kernel
theorem dX8_giveUp_5 : decode cX8_giveUp 5 = .ok (.ifCond .ne 5, 3) := by decide +kernel
theorem dX8_giveUp_8 : decode cX8_giveUp 8 = .ok (.iconst (-1), 1) := by decide +kernel
theorem dX8_giveUp_9 : decode cX8_giveUp 9 = .ok (.ireturn, 1) := by decide +kernel
theorem dX8_giveUp_10 : decode cX8_giveUp 10 = .ok (.aload_n 0, 1) := by decide +kernel
theorem dX8_giveUp_11 : decode cX8_giveUp 11 = .ok (.iconst 0, 1) := by decide +kernel
theorem dX8_giveUp_12 : decode cX8_giveUp 12 = .ok (.iload_n 1, 1) := by decide +kernel
theorem dX8_giveUp_13 : decode cX8_giveUp 13 = .ok (.invokevirtual 184, 3) := by decide +kernel
theorem dX8_giveUp_16 : decode cX8_giveUp 16 = .ok (.ifCond .ne 6, 3) := by decide +kernel
theorem dX8_giveUp_19 : decode cX8_giveUp 19 = .ok (.bipush (-2), 2) := by decide +kernel
theorem dX8_giveUp_21 : decode cX8_giveUp 21 = .ok (.ireturn, 1) := by decide +kernel
theorem dX8_giveUp_22 : decode cX8_giveUp 22 = .ok (.aload_n 0, 1) := by decide +kernel
theorem dX8_giveUp_23 : decode cX8_giveUp 23 = .ok (.invokevirtual 174, 3) := by decide +kernel
theorem dX8_giveUp_26 : decode cX8_giveUp 26 = .ok (.aload_n 0, 1) := by decide +kernel
theorem dX8_giveUp_27 : decode cX8_giveUp 27 = .ok (.iconst 0, 1) := by decide +kernel
theorem dX8_giveUp_28 : decode cX8_giveUp 28 = .ok (.iload_n 1, 1) := by decide +kernel
theorem dX8_giveUp_29 : decode cX8_giveUp 29 = .ok (.invokevirtual 188, 3) := by decide +kernel
theorem dX8_giveUp_32 : decode cX8_giveUp 32 = .ok (.aload_n 0, 1) := by decide +kernel
theorem dX8_giveUp_33 : decode cX8_giveUp 33 = .ok (.iconst 0, 1) := by decide +kernel
theorem dX8_giveUp_34 : decode cX8_giveUp 34 = .ok (.iload_n 1, 1) := by decide +kernel
theorem dX8_giveUp_35 : decode cX8_giveUp 35 = .ok (.invokevirtual 134, 3) := by decide +kernel
theorem dX8_giveUp_38 : decode cX8_giveUp 38 = .ok (.ireturn, 1) := by decide +kernel
theorem dX8_sneeze_0 : decode cX8_sneeze 0 = .ok (.aload_n 0, 1) := by decide +kernel
theorem dX8_sneeze_1 : decode cX8_sneeze 1 = .ok (.iload_n 1, 1) := by decide +kernel
theorem dX8_sneeze_2 : decode cX8_sneeze 2 = .ok (.invokevirtual 166, 3) := by decide +kernel
theorem dX8_sneeze_5 : decode cX8_sneeze 5 = .ok (.ifCond .ne 5, 3) := by decide +kernel
theorem dX8_sneeze_8 : decode cX8_sneeze 8 = .ok (.iconst (-1), 1) := by decide +kernel
theorem dX8_sneeze_9 : decode cX8_sneeze 9 = .ok (.ireturn, 1) := by decide +kernel
theorem dX8_sneeze_10 : decode cX8_sneeze 10 = .ok (.aload_n 0, 1) := by decide +kernel
theorem dX8_sneeze_11 : decode cX8_sneeze 11 = .ok (.iconst 0, 1) := by decide +kernel
theorem dX8_sneeze_12 : decode cX8_sneeze 12 = .ok (.iload_n 1, 1) := by decide +kernel
theorem dX8_sneeze_13 : decode cX8_sneeze 13 = .ok (.iconst 1, 1) := by decide +kernel
theorem dX8_sneeze_14 : decode cX8_sneeze 14 = .ok (.invokevirtual 163, 3) := by decide +kernel
theorem dX8_sneeze_17 : decode cX8_sneeze 17 = .ok (.ifCond .ne 6, 3) := by decide +kernel
theorem dX8_sneeze_20 : decode cX8_sneeze 20 = .ok (.bipush (-2), 2) := by decide +kernel
theorem dX8_sneeze_22 : decode cX8_sneeze 22 = .ok (.ireturn, 1) := by decide +kernel
theorem dX8_sneeze_23 : decode cX8_sneeze 23 = .ok (.aload_n 0, 1) := by decide +kernel
theorem dX8_sneeze_24 : decode cX8_sneeze 24 = .ok (.invokevirtual 174, 3) := by decide +kernel
theorem dX8_sneeze_27 : decode cX8_sneeze 27 = .ok (.aload_n 0, 1) := by decide +kernel
theorem dX8_sneeze_28 : decode cX8_sneeze 28 = .ok (.iconst 0, 1) := by decide +kernel
theorem dX8_sneeze_29 : decode cX8_sneeze 29 = .ok (.iload_n 1, 1) := by decide +kernel
theorem dX8_sneeze_30 : decode cX8_sneeze 30 = .ok (.invokevirtual 148, 3) := by decide +kernel
theorem dX8_sneeze_33 : decode cX8_sneeze 33 = .ok (.aload_n 0, 1) := by decide +kernel
theorem dX8_sneeze_34 : decode cX8_sneeze 34 = .ok (.getfield 7, 3) := by decide +kernel
theorem dX8_sneeze_37 : decode cX8_sneeze 37 = .ok (.iconst 2, 1) := by decide +kernel
theorem dX8_sneeze_38 : decode cX8_sneeze 38 = .ok (.iaload, 1) := by decide +kernel
theorem dX8_sneeze_39 : decode cX8_sneeze 39 = .ok (.ireturn, 1) := by decide +kernel
theorem dX8_leave_0 : decode cX8_leave 0 = .ok (.aload_n 0, 1) := by decide +kernel
theorem dX8_leave_1 : decode cX8_leave 1 = .ok (.iload_n 1, 1) := by decide +kernel
theorem dX8_leave_2 : decode cX8_leave 2 = .ok (.invokevirtual 166, 3) := by decide +kernel
theorem dX8_leave_5 : decode cX8_leave 5 = .ok (.ifCond .ne 5, 3) := by decide +kernel
theorem dX8_leave_8 : decode cX8_leave 8 = .ok (.iconst (-1), 1) := by decide +kernel
theorem dX8_leave_9 : decode cX8_leave 9 = .ok (.ireturn, 1) := by decide +kernel
theorem dX8_leave_10 : decode cX8_leave 10 = .ok (.aload_n 0, 1) := by decide +kernel
theorem dX8_leave_11 : decode cX8_leave 11 = .ok (.iconst 0, 1) := by decide +kernel
theorem dX8_leave_12 : decode cX8_leave 12 = .ok (.iload_n 1, 1) := by decide +kernel
theorem dX8_leave_13 : decode cX8_leave 13 = .ok (.iconst 1, 1) := by decide +kernel
theorem dX8_leave_14 : decode cX8_leave 14 = .ok (.invokevirtual 163, 3) := by decide +kernel
theorem dX8_leave_17 : decode cX8_leave 17 = .ok (.ifCond .ne 6, 3) := by decide +kernel
theorem dX8_leave_20 : decode cX8_leave 20 = .ok (.bipush (-2), 2) := by decide +kernel
theorem dX8_leave_22 : decode cX8_leave 22 = .ok (.ireturn, 1) := by decide +kernel
theorem dX8_leave_23 : decode cX8_leave 23 = .ok (.aload_n 0, 1) := by decide +kernel
theorem dX8_leave_24 : decode cX8_leave 24 = .ok (.invokevirtual 174, 3) := by decide +kernel
theorem dX8_leave_27 : decode cX8_leave 27 = .ok (.aload_n 0, 1) := by decide +kernel
theorem dX8_leave_28 : decode cX8_leave 28 = .ok (.iconst 0, 1) := by decide +kernel
theorem dX8_leave_29 : decode cX8_leave 29 = .ok (.iload_n 1, 1) := by decide +kernel
theorem dX8_leave_30 : decode cX8_leave 30 = .ok (.iconst 2, 1) := by decide +kernel
theorem dX8_leave_31 : decode cX8_leave 31 = .ok (.invokevirtual 141, 3) := by decide +kernel
theorem dX8_leave_34 : decode cX8_leave 34 = .ok (.aload_n 0, 1) := by decide +kernel
theorem dX8_leave_35 : decode cX8_leave 35 = .ok (.getfield 7, 3) := by decide +kernel
theorem dX8_leave_38 : decode cX8_leave 38 = .ok (.iconst 2, 1) := by decide +kernel
theorem dX8_leave_39 : decode cX8_leave 39 = .ok (.iaload, 1) := by decide +kernel
theorem dX8_leave_40 : decode cX8_leave 40 = .ok (.ireturn, 1) := by decide +kernel
theorem dX8_again_0 : decode cX8_again 0 = .ok (.aload_n 0, 1) := by decide +kernel
theorem dX8_again_1 : decode cX8_again 1 = .ok (.iload_n 1, 1) := by decide +kernel
theorem dX8_again_2 : decode cX8_again 2 = .ok (.invokevirtual 166, 3) := by decide +kernel
theorem dX8_again_5 : decode cX8_again 5 = .ok (.ifCond .ne 5, 3) := by decide +kernel
theorem dX8_again_8 : decode cX8_again 8 = .ok (.iconst (-1), 1) := by decide +kernel
theorem dX8_again_9 : decode cX8_again 9 = .ok (.ireturn, 1) := by decide +kernel
theorem dX8_again_10 : decode cX8_again 10 = .ok (.aload_n 0, 1) := by decide +kernel
theorem dX8_again_11 : decode cX8_again 11 = .ok (.iconst 0, 1) := by decide +kernel
theorem dX8_again_12 : decode cX8_again 12 = .ok (.iload_n 1, 1) := by decide +kernel
theorem dX8_again_13 : decode cX8_again 13 = .ok (.iconst 2, 1) := by decide +kernel
theorem dX8_again_14 : decode cX8_again 14 = .ok (.invokevirtual 163, 3) := by decide +kernel
theorem dX8_again_17 : decode cX8_again 17 = .ok (.ifCond .ne 6, 3) := by decide +kernel
theorem dX8_again_20 : decode cX8_again 20 = .ok (.bipush (-2), 2) := by decide +kernel
theorem dX8_again_22 : decode cX8_again 22 = .ok (.ireturn, 1) := by decide +kernel
theorem dX8_again_23 : decode cX8_again 23 = .ok (.aload_n 0, 1) := by decide +kernel
theorem dX8_again_24 : decode cX8_again 24 = .ok (.invokevirtual 174, 3) := by decide +kernel
theorem dX8_again_27 : decode cX8_again 27 = .ok (.aload_n 0, 1) := by decide +kernel
theorem dX8_again_28 : decode cX8_again 28 = .ok (.iconst 0, 1) := by decide +kernel
theorem dX8_again_29 : decode cX8_again 29 = .ok (.iload_n 1, 1) := by decide +kernel
theorem dX8_again_30 : decode cX8_again 30 = .ok (.invokevirtual 144, 3) := by decide +kernel
theorem dX8_again_33 : decode cX8_again 33 = .ok (.aload_n 0, 1) := by decide +kernel
theorem dX8_again_34 : decode cX8_again 34 = .ok (.iconst 0, 1) := by decide +kernel
theorem dX8_again_35 : decode cX8_again 35 = .ok (.iload_n 1, 1) := by decide +kernel
