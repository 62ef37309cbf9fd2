theorem dX10_word_59 : decode cX10_word 59 = .ok (.aload_n 0, 1) := by decide +kernel
theorem dX10_word_60 : decode cX10_word 60 = .ok (.iconst 0, 1) := by decide +kernel
theorem dX10_word_61 : decode cX10_word 61 = .ok (.putfield 163, 3) := by decide +kernel
theorem dX10_word_64 : decode cX10_word 64 = .ok (.iload_n 3, 1) := by decide +kernel
theorem dX10_word_65 : decode cX10_word 65 = .ok (.ifCond .eq 12, 3) := by decide +kernel
theorem dX10_word_68 : decode cX10_word 68 = .ok (.aload_n 0, 1) := by decide +kernel
theorem dX10_word_69 : decode cX10_word 69 = .ok (.iload_n 1, 1) := by decide +kernel
theorem dX10_word_70 : decode cX10_word 70 = .ok (.iload_n 2, 1) := by decide +kernel
theorem dX10_word_71 : decode cX10_word 71 = .ok (.invokevirtual 352, 3) := by decide +kernel
theorem dX10_word_74 : decode cX10_word 74 = .ok (.goto 7, 3) := by decide +kernel
theorem dX10_word_77 : decode cX10_word 77 = .ok (.aload_n 0, 1) := by decide +kernel
theorem dX10_word_78 : decode cX10_word 78 = .ok (.getfield 170, 3) := by decide +kernel
theorem dX10_word_81 : decode cX10_word 81 = .ok (.ireturn, 1) := by decide +kernel
theorem dX10_walk_0 : decode cX10_walk 0 = .ok (.iload_n 1, 1) := by decide +kernel
theorem dX10_walk_1 : decode cX10_walk 1 = .ok (.invokestatic 343, 3) := by decide +kernel
theorem dX10_walk_4 : decode cX10_walk 4 = .ok (.ifCond .eq 38, 3) := by decide +kernel
theorem dX10_walk_7 : decode cX10_walk 7 = .ok (.iload_n 2, 1) := by decide +kernel
theorem dX10_walk_8 : decode cX10_walk 8 = .ok (.invokestatic 137, 3) := by decide +kernel
theorem dX10_walk_11 : decode cX10_walk 11 = .ok (.ifCond .eq 31, 3) := by decide +kernel
theorem dX10_walk_14 : decode cX10_walk 14 = .ok (.iload_n 3, 1) := by decide +kernel
theorem dX10_walk_15 : decode cX10_walk 15 = .ok (.invokestatic 355, 3) := by decide +kernel
theorem dX10_walk_18 : decode cX10_walk 18 = .ok (.ifCond .eq 24, 3) := by decide +kernel
theorem dX10_walk_21 : decode cX10_walk 21 = .ok (.iload 4, 2) := by decide +kernel
theorem dX10_walk_23 : decode cX10_walk 23 = .ok (.iconst 0, 1) := by decide +kernel
theorem dX10_walk_24 : decode cX10_walk 24 = .ok (.iconst 2, 1) := by decide +kernel
theorem dX10_walk_25 : decode cX10_walk 25 = .ok (.invokestatic 133, 3) := by decide +kernel
theorem dX10_walk_28 : decode cX10_walk 28 = .ok (.ifCond .eq 14, 3) := by decide +kernel
theorem dX10_walk_31 : decode cX10_walk 31 = .ok (.iload 6, 2) := by decide +kernel
theorem dX10_walk_33 : decode cX10_walk 33 = .ok (.iconst 0, 1) := by decide +kernel
theorem dX10_walk_34 : decode cX10_walk 34 = .ok (.bipush 16, 2) := by decide +kernel
theorem dX10_walk_36 : decode cX10_walk 36 = .ok (.invokestatic 133, 3) := by decide +kernel
theorem dX10_walk_39 : decode cX10_walk 39 = .ok (.ifCond .ne 5, 3) := by decide +kernel
theorem dX10_walk_42 : decode cX10_walk 42 = .ok (.iconst (-1), 1) := by decide +kernel
theorem dX10_walk_43 : decode cX10_walk 43 = .ok (.ireturn, 1) := by decide +kernel
theorem dX10_walk_44 : decode cX10_walk 44 = .ok (.aload_n 0, 1) := by decide +kernel
theorem dX10_walk_45 : decode cX10_walk 45 = .ok (.getfield 124, 3) := by decide +kernel
theorem dX10_walk_48 : decode cX10_walk 48 = .ok (.iload_n 3, 1) := by decide +kernel
theorem dX10_walk_49 : decode cX10_walk 49 = .ok (.iaload, 1) := by decide +kernel
theorem dX10_walk_50 : decode cX10_walk 50 = .ok (.ifCond .ge 6, 3) := by decide +kernel
theorem dX10_walk_53 : decode cX10_walk 53 = .ok (.bipush (-11), 2) := by decide +kernel
theorem dX10_walk_55 : decode cX10_walk 55 = .ok (.ireturn, 1) := by decide +kernel
theorem dX10_walk_56 : decode cX10_walk 56 = .ok (.aload_n 0, 1) := by decide +kernel
theorem dX10_walk_57 : decode cX10_walk 57 = .ok (.getfield 124, 3) := by decide +kernel
theorem dX10_walk_60 : decode cX10_walk 60 = .ok (.iload_n 3, 1) := by decide +kernel
theorem dX10_walk_61 : decode cX10_walk 61 = .ok (.iaload, 1) := by decide +kernel
theorem dX10_walk_62 : decode cX10_walk 62 = .ok (.iload 4, 2) := by decide +kernel
theorem dX10_walk_64 : decode cX10_walk 64 = .ok (.if_icmp .eq 6, 3) := by decide +kernel
theorem dX10_walk_67 : decode cX10_walk 67 = .ok (.bipush (-12), 2) := by decide +kernel
theorem dX10_walk_69 : decode cX10_walk 69 = .ok (.ireturn, 1) := by decide +kernel
theorem dX10_walk_70 : decode cX10_walk 70 = .ok (.iload 5, 2) := by decide +kernel
theorem dX10_walk_72 : decode cX10_walk 72 = .ok (.ifCond .lt 21, 3) := by decide +kernel
theorem dX10_walk_75 : decode cX10_walk 75 = .ok (.iload 5, 2) := by decide +kernel
theorem dX10_walk_77 : decode cX10_walk 77 = .ok (.i2l, 1) := by decide +kernel
theorem dX10_walk_78 : decode cX10_walk 78 = .ok (.iload 6, 2) := by decide +kernel
theorem dX10_walk_80 : decode cX10_walk 80 = .ok (.i2l, 1) := by decide +kernel
theorem dX10_walk_81 : decode cX10_walk 81 = .ok (.ladd, 1) := by decide +kernel
theorem dX10_walk_82 : decode cX10_walk 82 = .ok (.aload_n 0, 1) := by decide +kernel
theorem dX10_walk_83 : decode cX10_walk 83 = .ok (.getfield 127, 3) := by decide +kernel
theorem dX10_walk_86 : decode cX10_walk 86 = .ok (.iload_n 3, 1) := by decide +kernel
theorem dX10_walk_87 : decode cX10_walk 87 = .ok (.iaload, 1) := by decide +kernel
theorem dX10_walk_88 : decode cX10_walk 88 = .ok (.i2l, 1) := by decide +kernel
theorem dX10_walk_89 : decode cX10_walk 89 = .ok (.lcmp, 1) := by decide +kernel
theorem dX10_walk_90 : decode cX10_walk 90 = .ok (.ifCond .le 6, 3) := by decide +kernel
theorem dX10_walk_93 : decode cX10_walk 93 = .ok (.bipush (-13), 2) := by decide +kernel
theorem dX10_walk_95 : decode cX10_walk 95 = .ok (.ireturn, 1) := by decide +kernel
theorem dX10_walk_96 : decode cX10_walk 96 = .ok (.iconst 0, 1) := by decide +kernel
theorem dX10_walk_97 : decode cX10_walk 97 = .ok (.istore 7, 2) := by decide +kernel
theorem dX10_walk_99 : decode cX10_walk 99 = .ok (.iload 7, 2) := by decide +kernel
theorem dX10_walk_101 : decode cX10_walk 101 = .ok (.iload 6, 2) := by decide +kernel
theorem dX10_walk_103 : decode cX10_walk 103 = .ok (.if_icmp .ge 120, 3) := by decide +kernel
theorem dX10_walk_106 : decode cX10_walk 106 = .ok (.aload_n 0, 1) := by decide +kernel
theorem dX10_walk_107 : decode cX10_walk 107 = .ok (.getfield 130, 3) := by decide +kernel
theorem dX10_walk_110 : decode cX10_walk 110 = .ok (.bipush 20, 2) := by decide +kernel
theorem dX10_walk_112 : decode cX10_walk 112 = .ok (.iload_n 3, 1) := by decide +kernel
theorem dX10_walk_113 : decode cX10_walk 113 = .ok (.imul, 1) := by decide +kernel
theorem dX10_walk_114 : decode cX10_walk 114 = .ok (.iload 5, 2) := by decide +kernel
theorem dX10_walk_116 : decode cX10_walk 116 = .ok (.iadd, 1) := by decide +kernel
theorem dX10_walk_117 : decode cX10_walk 117 = .ok (.iload 7, 2) := by decide +kernel
theorem dX10_walk_119 : decode cX10_walk 119 = .ok (.iadd, 1) := by decide +kernel
theorem dX10_walk_120 : decode cX10_walk 120 = .ok (.iaload, 1) := by decide +kernel
theorem dX10_walk_121 : decode cX10_walk 121 = .ok (.istore 8, 2) := by decide +kernel
theorem dX10_walk_123 : decode cX10_walk 123 = .ok (.iload 8, 2) := by decide +kernel
theorem dX10_walk_125 : decode cX10_walk 125 = .ok (.ifCond .le 22, 3) := by decide +kernel
theorem dX10_walk_128 : decode cX10_walk 128 = .ok (.iload 8, 2) := by decide +kernel
theorem dX10_walk_130 : decode cX10_walk 130 = .ok (.aload_n 0, 1) := by decide +kernel
theorem dX10_walk_131 : decode cX10_walk 131 = .ok (.getfield 13, 3) := by decide +kernel
theorem dX10_walk_134 : decode cX10_walk 134 = .ok (.iload_n 2, 1) := by decide +kernel
theorem dX10_walk_135 : decode cX10_walk 135 = .ok (.iaload, 1) := by decide +kernel
theorem dX10_walk_136 : decode cX10_walk 136 = .ok (.if_icmp .gt 7, 3) := by decide +kernel
theorem dX10_walk_139 : decode cX10_walk 139 = .ok (.iconst 1, 1) := by decide +kernel
theorem dX10_walk_140 : decode cX10_walk 140 = .ok (.goto 29, 3) := by decide +kernel
theorem dX10_walk_143 : decode cX10_walk 143 = .ok (.iconst 0, 1) := by decide +kernel
theorem dX10_walk_144 : decode cX10_walk 144 = .ok (.goto 25, 3) := by decide +kernel
theorem dX10_walk_147 : decode cX10_walk 147 = .ok (.iload 8, 2) := by decide +kernel
theorem dX10_walk_149 : decode cX10_walk 149 = .ok (.ifCond .ge 19, 3) := by decide +kernel
theorem dX10_walk_152 : decode cX10_walk 152 = .ok (.iload 8, 2) := by decide +kernel
theorem dX10_walk_154 : decode cX10_walk 154 = .ok (.aload_n 0, 1) := by decide +kernel
theorem dX10_walk_155 : decode cX10_walk 155 = .ok (.getfield 13, 3) := by decide +kernel
theorem dX10_walk_158 : decode cX10_walk 158 = .ok (.iload_n 2, 1) := by decide +kernel
theorem dX10_walk_159 : decode cX10_walk 159 = .ok (.iaload, 1) := by decide +kernel
theorem dX10_walk_160 : decode cX10_walk 160 = .ok (.ineg, 1) := by decide +kernel
theorem dX10_walk_161 : decode cX10_walk 161 = .ok (.if_icmp .lt 7, 3) := by decide +kernel
theorem dX10_walk_164 : decode cX10_walk 164 = .ok (.iconst 1, 1) := by decide +kernel
theorem dX10_walk_165 : decode cX10_walk 165 = .ok (.goto 4, 3) := by decide +kernel
theorem dX10_walk_168 : decode cX10_walk 168 = .ok (.iconst 0, 1) := by decide +kernel
theorem dX10_walk_169 : decode cX10_walk 169 = .ok (.istore 9, 2) := by decide +kernel
theorem dX10_walk_171 : decode cX10_walk 171 = .ok (.iload 9, 2) := by decide +kernel
theorem dX10_walk_173 : decode cX10_walk 173 = .ok (.ifCond .eq 32, 3) := by decide +kernel
theorem dX10_walk_176 : decode cX10_walk 176 = .ok (.iload 7, 2) := by decide +kernel
theorem dX10_walk_178 : decode cX10_walk 178 = .ok (.ifCond .le 30, 3) := by decide +kernel
theorem dX10_walk_181 : decode cX10_walk 181 = .ok (.aload_n 0, 1) := by decide +kernel
theorem dX10_walk_182 : decode cX10_walk 182 = .ok (.iload_n 2, 1) := by decide +kernel
theorem dX10_walk_183 : decode cX10_walk 183 = .ok (.aload_n 0, 1) := by decide +kernel
theorem dX10_walk_184 : decode cX10_walk 184 = .ok (.getfield 34, 3) := by decide +kernel
theorem dX10_walk_187 : decode cX10_walk 187 = .ok (.iload 7, 2) := by decide +kernel
theorem dX10_walk_189 : decode cX10_walk 189 = .ok (.iconst 1, 1) := by decide +kernel
theorem dX10_walk_190 : decode cX10_walk 190 = .ok (.isub, 1) := by decide +kernel
theorem dX10_walk_191 : decode cX10_walk 191 = .ok (.iaload, 1) := by decide +kernel
theorem dX10_walk_192 : decode cX10_walk 192 = .ok (.invokevirtual 189, 3) := by decide +kernel
theorem dX10_walk_195 : decode cX10_walk 195 = .ok (.aload_n 0, 1) := by decide +kernel
theorem dX10_walk_196 : decode cX10_walk 196 = .ok (.iload_n 2, 1) := by decide +kernel
theorem dX10_walk_197 : decode cX10_walk 197 = .ok (.iload 8, 2) := by decide +kernel
theorem dX10_walk_199 : decode cX10_walk 199 = .ok (.invokevirtual 145, 3) := by decide +kernel
theorem dX10_walk_202 : decode cX10_walk 202 = .ok (.if_icmp .eq 6, 3) := by decide +kernel
theorem dX10_walk_205 : decode cX10_walk 205 = .ok (.bipush (-2), 2) := by decide +kernel
theorem dX10_walk_207 : decode cX10_walk 207 = .ok (.ireturn, 1) := by decide +kernel
theorem dX10_walk_208 : decode cX10_walk 208 = .ok (.aload_n 0, 1) := by decide +kernel
theorem dX10_walk_209 : decode cX10_walk 209 = .ok (.getfield 34, 3) := by decide +kernel
theorem dX10_walk_212 : decode cX10_walk 212 = .ok (.iload 7, 2) := by decide +kernel
theorem dX10_walk_214 : decode cX10_walk 214 = .ok (.iload 8, 2) := by decide +kernel
theorem dX10_walk_216 : decode cX10_walk 216 = .ok (.iastore, 1) := by decide +kernel
theorem dX10_walk_217 : decode cX10_walk 217 = .ok (.iinc 7 1, 3) := by decide +kernel
theorem dX10_walk_220 : decode cX10_walk 220 = .ok (.goto (-121), 3) := by decide +kernel
theorem dX10_walk_223 : decode cX10_walk 223 = .ok (.aload_n 0, 1) := by decide +kernel
theorem dX10_walk_224 : decode cX10_walk 224 = .ok (.iload 6, 2) := by decide +kernel
theorem dX10_walk_226 : decode cX10_walk 226 = .ok (.putfield 186, 3) := by decide +kernel
theorem dX10_walk_229 : decode cX10_walk 229 = .ok (.aload_n 0, 1) := by decide +kernel
theorem dX10_walk_230 : decode cX10_walk 230 = .ok (.iload_n 1, 1) := by decide +kernel
theorem dX10_walk_231 : decode cX10_walk 231 = .ok (.iload_n 2, 1) := by decide +kernel
theorem dX10_walk_232 : decode cX10_walk 232 = .ok (.invokevirtual 352, 3) := by decide +kernel
theorem dX10_walk_235 : decode cX10_walk 235 = .ok (.ireturn, 1) := by decide +kernel
theorem dX10_about_0 : decode cX10_about 0 = .ok (.iload_n 1, 1) := by decide +kernel
theorem dX10_about_1 : decode cX10_about 1 = .ok (.invokestatic 343, 3) := by decide +kernel
theorem dX10_about_4 : decode cX10_about 4 = .ok (.ifCond .eq 12, 3) := by decide +kernel
theorem dX10_about_7 : decode cX10_about 7 = .ok (.iload_n 2, 1) := by decide +kernel
theorem dX10_about_8 : decode cX10_about 8 = .ok (.iconst 0, 1) := by decide +kernel
theorem dX10_about_9 : decode cX10_about 9 = .ok (.iconst 3, 1) := by decide +kernel
theorem dX10_about_10 : decode cX10_about 10 = .ok (.invokestatic 133, 3) := by decide +kernel
theorem dX10_about_13 : decode cX10_about 13 = .ok (.ifCond .ne 5, 3) := by decide +kernel
theorem dX10_about_16 : decode cX10_about 16 = .ok (.iconst (-1), 1) := by decide +kernel
theorem dX10_about_17 : decode cX10_about 17 = .ok (.ireturn, 1) := by decide +kernel
theorem dX10_about_18 : decode cX10_about 18 = .ok (.aload_n 0, 1) := by decide +kernel
theorem dX10_about_19 : decode cX10_about 19 = .ok (.getfield 100, 3) := by decide +kernel
theorem dX10_about_22 : decode cX10_about 22 = .ok (.iload_n 1, 1) := by decide +kernel
theorem dX10_about_23 : decode cX10_about 23 = .ok (.iaload, 1) := by decide +kernel
theorem dX10_about_24 : decode cX10_about 24 = .ok (.ifCond .ge 6, 3) := by decide +kernel
theorem dX10_about_27 : decode cX10_about 27 = .ok (.bipush (-4), 2) := by decide +kernel
theorem dX10_about_29 : decode cX10_about 29 = .ok (.ireturn, 1) := by decide +kernel
theorem dX10_about_30 : decode cX10_about 30 = .ok (.iload_n 2, 1) := by decide +kernel
theorem dX10_about_31 : decode cX10_about 31 = .ok (.ifCond .ne 12, 3) := by decide +kernel
theorem dX10_about_34 : decode cX10_about 34 = .ok (.aload_n 0, 1) := by decide +kernel
theorem dX10_about_35 : decode cX10_about 35 = .ok (.getfield 103, 3) := by decide +kernel
theorem dX10_about_38 : decode cX10_about 38 = .ok (.iload_n 1, 1) := by decide +kernel
theorem dX10_about_39 : decode cX10_about 39 = .ok (.iaload, 1) := by decide +kernel
theorem dX10_about_40 : decode cX10_about 40 = .ok (.goto 37, 3) := by decide +kernel
theorem dX10_about_43 : decode cX10_about 43 = .ok (.iload_n 2, 1) := by decide +kernel
theorem dX10_about_44 : decode cX10_about 44 = .ok (.iconst 1, 1) := by decide +kernel
theorem dX10_about_45 : decode cX10_about 45 = .ok (.if_icmp .ne 12, 3) := by decide +kernel
theorem dX10_about_48 : decode cX10_about 48 = .ok (.aload_n 0, 1) := by decide +kernel
theorem dX10_about_49 : decode cX10_about 49 = .ok (.getfield 100, 3) := by decide +kernel
theorem dX10_about_52 : decode cX10_about 52 = .ok (.iload_n 1, 1) := by decide +kernel
theorem dX10_about_53 : decode cX10_about 53 = .ok (.iaload, 1) := by decide +kernel
theorem dX10_about_54 : decode cX10_about 54 = .ok (.goto 23, 3) := by decide +kernel
theorem dX10_about_57 : decode cX10_about 57 = .ok (.iload_n 2, 1) := by decide +kernel
theorem dX10_about_58 : decode cX10_about 58 = .ok (.iconst 2, 1) := by decide +kernel
theorem dX10_about_59 : decode cX10_about 59 = .ok (.if_icmp .ne 12, 3) := by decide +kernel
theorem dX10_about_62 : decode cX10_about 62 = .ok (.aload_n 0, 1) := by decide +kernel
theorem dX10_about_63 : decode cX10_about 63 = .ok (.getfield 106, 3) := by decide +kernel
theorem dX10_about_66 : decode cX10_about 66 = .ok (.iload_n 1, 1) := by decide +kernel
theorem dX10_about_67 : decode cX10_about 67 = .ok (.iaload, 1) := by decide +kernel
theorem dX10_about_68 : decode cX10_about 68 = .ok (.goto 9, 3) := by decide +kernel
theorem dX10_about_71 : decode cX10_about 71 = .ok (.aload_n 0, 1) := by decide +kernel
theorem dX10_about_72 : decode cX10_about 72 = .ok (.getfield 109, 3) := by decide +kernel
theorem dX10_about_75 : decode cX10_about 75 = .ok (.iload_n 1, 1) := by decide +kernel
theorem dX10_about_76 : decode cX10_about 76 = .ok (.iaload, 1) := by decide +kernel
theorem dX10_about_77 : decode cX10_about 77 = .ok (.ireturn, 1) := by decide +kernel
theorem dX10_step_0 : decode cX10_step 0 = .ok (.iload_n 1, 1) := by decide +kernel
theorem dX10_step_1 : decode cX10_step 1 = .ok (.invokestatic 343, 3) := by decide +kernel
theorem dX10_step_4 : decode cX10_step 4 = .ok (.ifCond .eq 7, 3) := by decide +kernel
theorem dX10_step_7 : decode cX10_step 7 = .ok (.iload_n 2, 1) := by decide +kernel
theorem dX10_step_8 : decode cX10_step 8 = .ok (.ifCond .ge 5, 3) := by decide +kernel
theorem dX10_step_11 : decode cX10_step 11 = .ok (.iconst (-1), 1) := by decide +kernel
theorem dX10_step_12 : decode cX10_step 12 = .ok (.ireturn, 1) := by decide +kernel
theorem dX10_step_13 : decode cX10_step 13 = .ok (.aload_n 0, 1) := by decide +kernel
theorem dX10_step_14 : decode cX10_step 14 = .ok (.getfield 100, 3) := by decide +kernel
theorem dX10_step_17 : decode cX10_step 17 = .ok (.iload_n 1, 1) := by decide +kernel
theorem dX10_step_18 : decode cX10_step 18 = .ok (.iaload, 1) := by decide +kernel
theorem dX10_step_19 : decode cX10_step 19 = .ok (.ifCond .ge 6, 3) := by decide +kernel
theorem dX10_step_22 : decode cX10_step 22 = .ok (.bipush (-4), 2) := by decide +kernel
theorem dX10_step_24 : decode cX10_step 24 = .ok (.ireturn, 1) := by decide +kernel
theorem dX10_step_25 : decode cX10_step 25 = .ok (.iload_n 2, 1) := by decide +kernel
theorem dX10_step_26 : decode cX10_step 26 = .ok (.iconst 0, 1) := by decide +kernel
theorem dX10_step_27 : decode cX10_step 27 = .ok (.aload_n 0, 1) := by decide +kernel
theorem dX10_step_28 : decode cX10_step 28 = .ok (.getfield 103, 3) := by decide +kernel
theorem dX10_step_31 : decode cX10_step 31 = .ok (.iload_n 1, 1) := by decide +kernel
theorem dX10_step_32 : decode cX10_step 32 = .ok (.iaload, 1) := by decide +kernel
theorem dX10_step_33 : decode cX10_step 33 = .ok (.iconst 1, 1) := by decide +kernel
theorem dX10_step_34 : decode cX10_step 34 = .ok (.isub, 1) := by decide +kernel
theorem dX10_step_35 : decode cX10_step 35 = .ok (.invokestatic 133, 3) := by decide +kernel
theorem dX10_step_38 : decode cX10_step 38 = .ok (.ifCond .eq 20, 3) := by decide +kernel
theorem dX10_step_41 : decode cX10_step 41 = .ok (.aload_n 0, 1) := by decide +kernel
theorem dX10_step_42 : decode cX10_step 42 = .ok (.getfield 112, 3) := by decide +kernel
theorem dX10_step_45 : decode cX10_step 45 = .ok (.bipush 16, 2) := by decide +kernel
theorem dX10_step_47 : decode cX10_step 47 = .ok (.iload_n 1, 1) := by decide +kernel
theorem dX10_step_48 : decode cX10_step 48 = .ok (.imul, 1) := by decide +kernel
theorem dX10_step_49 : decode cX10_step 49 = .ok (.iload_n 2, 1) := by decide +kernel
theorem dX10_step_50 : decode cX10_step 50 = .ok (.iadd, 1) := by decide +kernel
theorem dX10_step_51 : decode cX10_step 51 = .ok (.iaload, 1) := by decide +kernel
theorem dX10_step_52 : decode cX10_step 52 = .ok (.invokestatic 230, 3) := by decide +kernel
theorem dX10_step_55 : decode cX10_step 55 = .ok (.goto 4, 3) := by decide +kernel
theorem dX10_step_58 : decode cX10_step 58 = .ok (.iconst (-1), 1) := by decide +kernel
theorem dX10_step_59 : decode cX10_step 59 = .ok (.ireturn, 1) := by decide +kernel
theorem dX10_list_0 : decode cX10_list 0 = .ok (.lconst 0, 1) := by decide +kernel
theorem dX10_list_1 : decode cX10_list 1 = .ok (.lstore_n 2, 1) := by decide +kernel
theorem dX10_list_2 : decode cX10_list 2 = .ok (.aload_n 0, 1) := by decide +kernel
theorem dX10_list_3 : decode cX10_list 3 = .ok (.getfield 346, 3) := by decide +kernel
theorem dX10_list_6 : decode cX10_list 6 = .ok (.i2l, 1) := by decide +kernel
theorem dX10_list_7 : decode cX10_list 7 = .ok (.lstore 4, 2) := by decide +kernel
theorem dX10_list_9 : decode cX10_list 9 = .ok (.iconst 0, 1) := by decide +kernel
theorem dX10_list_10 : decode cX10_list 10 = .ok (.istore 6, 2) := by decide +kernel
theorem dX10_list_12 : decode cX10_list 12 = .ok (.iload 6, 2) := by decide +kernel
theorem dX10_list_14 : decode cX10_list 14 = .ok (.aload_n 0, 1) := by decide +kernel
theorem dX10_list_15 : decode cX10_list 15 = .ok (.getfield 346, 3) := by decide +kernel
theorem dX10_list_18 : decode cX10_list 18 = .ok (.if_icmp .ge 59, 3) := by decide +kernel
theorem dX10_list_21 : decode cX10_list 21 = .ok (.iload 6, 2) := by decide +kernel
theorem dX10_list_23 : decode cX10_list 23 = .ok (.bipush 12, 2) := by decide +kernel
theorem dX10_list_25 : decode cX10_list 25 = .ok (.if_icmp .ge 25, 3) := by decide +kernel
theorem dX10_list_28 : decode cX10_list 28 = .ok (.ldc2_w 358, 3) := by decide +kernel
theorem dX10_list_31 : decode cX10_list 31 = .ok (.lload_n 2, 1) := by decide +kernel
theorem dX10_list_32 : decode cX10_list 32 = .ok (.lmul, 1) := by decide +kernel
theorem dX10_list_33 : decode cX10_list 33 = .ok (.aload_n 0, 1) := by decide +kernel
theorem dX10_list_34 : decode cX10_list 34 = .ok (.getfield 115, 3) := by decide +kernel
theorem dX10_list_37 : decode cX10_list 37 = .ok (.iload 6, 2) := by decide +kernel
theorem dX10_list_39 : decode cX10_list 39 = .ok (.iaload, 1) := by decide +kernel
theorem dX10_list_40 : decode cX10_list 40 = .ok (.i2l, 1) := by decide +kernel
theorem dX10_list_41 : decode cX10_list 41 = .ok (.ladd, 1) := by decide +kernel
theorem dX10_list_42 : decode cX10_list 42 = .ok (.ldc2_w 360, 3) := by decide +kernel
theorem dX10_list_45 : decode cX10_list 45 = .ok (.ladd, 1) := by decide +kernel
theorem dX10_list_46 : decode cX10_list 46 = .ok (.lstore_n 2, 1) := by decide +kernel
theorem dX10_list_47 : decode cX10_list 47 = .ok (.goto 24, 3) := by decide +kernel
theorem dX10_list_50 : decode cX10_list 50 = .ok (.ldc2_w 358, 3) := by decide +kernel
theorem dX10_list_53 : decode cX10_list 53 = .ok (.lload 4, 2) := by decide +kernel
theorem dX10_list_55 : decode cX10_list 55 = .ok (.lmul, 1) := by decide +kernel
theorem dX10_list_56 : decode cX10_list 56 = .ok (.aload_n 0, 1) := by decide +kernel
theorem dX10_list_57 : decode cX10_list 57 = .ok (.getfield 115, 3) := by decide +kernel
theorem dX10_list_60 : decode cX10_list 60 = .ok (.iload 6, 2) := by decide +kernel
theorem dX10_list_62 : decode cX10_list 62 = .ok (.iaload, 1) := by decide +kernel
theorem dX10_list_63 : decode cX10_list 63 = .ok (.i2l, 1) := by decide +kernel
theorem dX10_list_64 : decode cX10_list 64 = .ok (.ladd, 1) := by decide +kernel
theorem dX10_list_65 : decode cX10_list 65 = .ok (.ldc2_w 360, 3) := by decide +kernel
theorem dX10_list_68 : decode cX10_list 68 = .ok (.ladd, 1) := by decide +kernel
theorem dX10_list_69 : decode cX10_list 69 = .ok (.lstore 4, 2) := by decide +kernel
theorem dX10_list_71 : decode cX10_list 71 = .ok (.iinc 6 1, 3) := by decide +kernel
theorem dX10_list_74 : decode cX10_list 74 = .ok (.goto (-62), 3) := by decide +kernel
theorem dX10_list_77 : decode cX10_list 77 = .ok (.aload_n 0, 1) := by decide +kernel
theorem dX10_list_78 : decode cX10_list 78 = .ok (.getfield 118, 3) := by decide +kernel
theorem dX10_list_81 : decode cX10_list 81 = .ok (.iload_n 1, 1) := by decide +kernel
theorem dX10_list_82 : decode cX10_list 82 = .ok (.lload_n 2, 1) := by decide +kernel
theorem dX10_list_83 : decode cX10_list 83 = .ok (.lastore, 1) := by decide +kernel
theorem dX10_list_84 : decode cX10_list 84 = .ok (.aload_n 0, 1) := by decide +kernel
theorem dX10_list_85 : decode cX10_list 85 = .ok (.getfield 121, 3) := by decide +kernel
theorem dX10_list_88 : decode cX10_list 88 = .ok (.iload_n 1, 1) := by decide +kernel
theorem dX10_list_89 : decode cX10_list 89 = .ok (.lload 4, 2) := by decide +kernel
theorem dX10_list_91 : decode cX10_list 91 = .ok (.lastore, 1) := by decide +kernel
theorem dX10_list_92 : decode cX10_list 92 = .ok (.return_, 1) := by decide +kernel
theorem dX10_putIn_0 : decode cX10_putIn 0 = .ok (.aload_n 0, 1) := by decide +kernel
theorem dX10_putIn_1 : decode cX10_putIn 1 = .ok (.getfield 100, 3) := by decide +kernel
theorem dX10_putIn_4 : decode cX10_putIn 4 = .ok (.iload_n 1, 1) := by decide +kernel
theorem dX10_putIn_5 : decode cX10_putIn 5 = .ok (.iaload, 1) := by decide +kernel
theorem dX10_putIn_6 : decode cX10_putIn 6 = .ok (.istore 6, 2) := by decide +kernel
theorem dX10_putIn_8 : decode cX10_putIn 8 = .ok (.aload_n 0, 1) := by decide +kernel
theorem dX10_putIn_9 : decode cX10_putIn 9 = .ok (.getfield 25, 3) := by decide +kernel
theorem dX10_putIn_12 : decode cX10_putIn 12 = .ok (.bipush 32, 2) := by decide +kernel
theorem dX10_putIn_14 : decode cX10_putIn 14 = .ok (.iload 6, 2) := by decide +kernel
theorem dX10_putIn_16 : decode cX10_putIn 16 = .ok (.imul, 1) := by decide +kernel
theorem dX10_putIn_17 : decode cX10_putIn 17 = .ok (.iload_n 3, 1) := by decide +kernel
theorem dX10_putIn_18 : decode cX10_putIn 18 = .ok (.iadd, 1) := by decide +kernel
theorem dX10_putIn_19 : decode cX10_putIn 19 = .ok (.iaload, 1) := by decide +kernel
theorem dX10_putIn_20 : decode cX10_putIn 20 = .ok (.istore 7, 2) := by decide +kernel
theorem dX10_putIn_22 : decode cX10_putIn 22 = .ok (.aload_n 0, 1) := by decide +kernel
theorem dX10_putIn_23 : decode cX10_putIn 23 = .ok (.iconst 0, 1) := by decide +kernel
theorem dX10_putIn_24 : decode cX10_putIn 24 = .ok (.putfield 346, 3) := by decide +kernel
theorem dX10_putIn_27 : decode cX10_putIn 27 = .ok (.iconst 0, 1) := by decide +kernel
theorem dX10_putIn_28 : decode cX10_putIn 28 = .ok (.istore 8, 2) := by decide +kernel
theorem dX10_putIn_30 : decode cX10_putIn 30 = .ok (.iload 8, 2) := by decide +kernel
theorem dX10_putIn_32 : decode cX10_putIn 32 = .ok (.iload_n 2, 1) := by decide +kernel
theorem dX10_putIn_33 : decode cX10_putIn 33 = .ok (.if_icmp .ge 25, 3) := by decide +kernel
theorem dX10_putIn_36 : decode cX10_putIn 36 = .ok (.aload_n 0, 1) := by decide +kernel
theorem dX10_putIn_37 : decode cX10_putIn 37 = .ok (.aload_n 0, 1) := by decide +kernel
theorem dX10_putIn_38 : decode cX10_putIn 38 = .ok (.getfield 112, 3) := by decide +kernel
theorem dX10_putIn_41 : decode cX10_putIn 41 = .ok (.bipush 16, 2) := by decide +kernel
theorem dX10_putIn_43 : decode cX10_putIn 43 = .ok (.iload_n 1, 1) := by decide +kernel
theorem dX10_putIn_44 : decode cX10_putIn 44 = .ok (.imul, 1) := by decide +kernel
theorem dX10_putIn_45 : decode cX10_putIn 45 = .ok (.iload 8, 2) := by decide +kernel
theorem dX10_putIn_47 : decode cX10_putIn 47 = .ok (.iadd, 1) := by decide +kernel
theorem dX10_putIn_48 : decode cX10_putIn 48 = .ok (.iaload, 1) := by decide +kernel
theorem dX10_putIn_49 : decode cX10_putIn 49 = .ok (.invokevirtual 349, 3) := by decide +kernel
theorem dX10_putIn_52 : decode cX10_putIn 52 = .ok (.iinc 8 1, 3) := by decide +kernel
theorem dX10_putIn_55 : decode cX10_putIn 55 = .ok (.goto (-25), 3) := by decide +kernel
theorem dX10_putIn_58 : decode cX10_putIn 58 = .ok (.iconst 0, 1) := by decide +kernel
theorem dX10_putIn_59 : decode cX10_putIn 59 = .ok (.istore 8, 2) := by decide +kernel
theorem dX10_putIn_61 : decode cX10_putIn 61 = .ok (.iload 8, 2) := by decide +kernel
theorem dX10_putIn_63 : decode cX10_putIn 63 = .ok (.iload 7, 2) := by decide +kernel
theorem dX10_putIn_65 : decode cX10_putIn 65 = .ok (.if_icmp .ge 57, 3) := by decide +kernel
theorem dX10_putIn_68 : decode cX10_putIn 68 = .ok (.aload_n 0, 1) := by decide +kernel
theorem dX10_putIn_69 : decode cX10_putIn 69 = .ok (.iload 5, 2) := by decide +kernel
theorem dX10_putIn_71 : decode cX10_putIn 71 = .ok (.ifCond .eq 27, 3) := by decide +kernel
theorem dX10_putIn_74 : decode cX10_putIn 74 = .ok (.aload_n 0, 1) := by decide +kernel
theorem dX10_putIn_75 : decode cX10_putIn 75 = .ok (.iload 6, 2) := by decide +kernel
theorem dX10_putIn_77 : decode cX10_putIn 77 = .ok (.iload_n 3, 1) := by decide +kernel
theorem dX10_putIn_78 : decode cX10_putIn 78 = .ok (.iload 4, 2) := by decide +kernel
theorem dX10_putIn_80 : decode cX10_putIn 80 = .ok (.iload 7, 2) := by decide +kernel
theorem dX10_putIn_82 : decode cX10_putIn 82 = .ok (.iadd, 1) := by decide +kernel
theorem dX10_putIn_83 : decode cX10_putIn 83 = .ok (.iconst 1, 1) := by decide +kernel
theorem dX10_putIn_84 : decode cX10_putIn 84 = .ok (.isub, 1) := by decide +kernel
theorem dX10_putIn_85 : decode cX10_putIn 85 = .ok (.iload 8, 2) := by decide +kernel
theorem dX10_putIn_87 : decode cX10_putIn 87 = .ok (.isub, 1) := by decide +kernel
theorem dX10_putIn_88 : decode cX10_putIn 88 = .ok (.iload 7, 2) := by decide +kernel
theorem dX10_putIn_90 : decode cX10_putIn 90 = .ok (.irem, 1) := by decide +kernel
theorem dX10_putIn_91 : decode cX10_putIn 91 = .ok (.invokevirtual 221, 3) := by decide +kernel
theorem dX10_putIn_94 : decode cX10_putIn 94 = .ok (.ineg, 1) := by decide +kernel
theorem dX10_putIn_95 : decode cX10_putIn 95 = .ok (.goto 18, 3) := by decide +kernel
theorem dX10_putIn_98 : decode cX10_putIn 98 = .ok (.aload_n 0, 1) := by decide +kernel
theorem dX10_putIn_99 : decode cX10_putIn 99 = .ok (.iload 6, 2) := by decide +kernel
theorem dX10_putIn_101 : decode cX10_putIn 101 = .ok (.iload_n 3, 1) := by decide +kernel
theorem dX10_putIn_102 : decode cX10_putIn 102 = .ok (.iload 4, 2) := by decide +kernel
theorem dX10_putIn_104 : decode cX10_putIn 104 = .ok (.iload 8, 2) := by decide +kernel
theorem dX10_putIn_106 : decode cX10_putIn 106 = .ok (.iadd, 1) := by decide +kernel
theorem dX10_putIn_107 : decode cX10_putIn 107 = .ok (.iload 7, 2) := by decide +kernel
theorem dX10_putIn_109 : decode cX10_putIn 109 = .ok (.irem, 1) := by decide +kernel
theorem dX10_putIn_110 : decode cX10_putIn 110 = .ok (.invokevirtual 221, 3) := by decide +kernel
theorem dX10_putIn_113 : decode cX10_putIn 113 = .ok (.invokevirtual 349, 3) := by decide +kernel
theorem dX10_putIn_116 : decode cX10_putIn 116 = .ok (.iinc 8 1, 3) := by decide +kernel
theorem dX10_putIn_119 : decode cX10_putIn 119 = .ok (.goto (-58), 3) := by decide +kernel
theorem dX10_putIn_122 : decode cX10_putIn 122 = .ok (.iload_n 2, 1) := by decide +kernel
theorem dX10_putIn_123 : decode cX10_putIn 123 = .ok (.istore 8, 2) := by decide +kernel
theorem dX10_putIn_125 : decode cX10_putIn 125 = .ok (.iload 8, 2) := by decide +kernel
theorem dX10_putIn_127 : decode cX10_putIn 127 = .ok (.aload_n 0, 1) := by decide +kernel
theorem dX10_putIn_128 : decode cX10_putIn 128 = .ok (.getfield 103, 3) := by decide +kernel
theorem dX10_putIn_131 : decode cX10_putIn 131 = .ok (.iload_n 1, 1) := by decide +kernel
theorem dX10_putIn_132 : decode cX10_putIn 132 = .ok (.iaload, 1) := by decide +kernel
theorem dX10_putIn_133 : decode cX10_putIn 133 = .ok (.if_icmp .ge 25, 3) := by decide +kernel
theorem dX10_putIn_136 : decode cX10_putIn 136 = .ok (.aload_n 0, 1) := by decide +kernel
theorem dX10_putIn_137 : decode cX10_putIn 137 = .ok (.aload_n 0, 1) := by decide +kernel
theorem dX10_putIn_138 : decode cX10_putIn 138 = .ok (.getfield 112, 3) := by decide +kernel
theorem dX10_putIn_141 : decode cX10_putIn 141 = .ok (.bipush 16, 2) := by decide +kernel
theorem dX10_putIn_143 : decode cX10_putIn 143 = .ok (.iload_n 1, 1) := by decide +kernel
theorem dX10_putIn_144 : decode cX10_putIn 144 = .ok (.imul, 1) := by decide +kernel
theorem dX10_putIn_145 : decode cX10_putIn 145 = .ok (.iload 8, 2) := by decide +kernel
theorem dX10_putIn_147 : decode cX10_putIn 147 = .ok (.iadd, 1) := by decide +kernel
theorem dX10_putIn_148 : decode cX10_putIn 148 = .ok (.iaload, 1) := by decide +kernel
theorem dX10_putIn_149 : decode cX10_putIn 149 = .ok (.invokevirtual 349, 3) := by decide +kernel
theorem dX10_putIn_152 : decode cX10_putIn 152 = .ok (.iinc 8 1, 3) := by decide +kernel
theorem dX10_putIn_155 : decode cX10_putIn 155 = .ok (.goto (-30), 3) := by decide +kernel
theorem dX10_putIn_158 : decode cX10_putIn 158 = .ok (.return_, 1) := by decide +kernel
theorem dX10_cornerAt_0 : decode cX10_cornerAt 0 = .ok (.iload_n 2, 1) := by decide +kernel
theorem dX10_cornerAt_1 : decode cX10_cornerAt 1 = .ok (.ifCond .ne 12, 3) := by decide +kernel
theorem dX10_cornerAt_4 : decode cX10_cornerAt 4 = .ok (.aload_n 0, 1) := by decide +kernel
theorem dX10_cornerAt_5 : decode cX10_cornerAt 5 = .ok (.getfield 106, 3) := by decide +kernel
theorem dX10_cornerAt_8 : decode cX10_cornerAt 8 = .ok (.iload_n 1, 1) := by decide +kernel
theorem dX10_cornerAt_9 : decode cX10_cornerAt 9 = .ok (.iaload, 1) := by decide +kernel
theorem dX10_cornerAt_10 : decode cX10_cornerAt 10 = .ok (.goto 26, 3) := by decide +kernel
theorem dX10_cornerAt_13 : decode cX10_cornerAt 13 = .ok (.aload_n 0, 1) := by decide +kernel
theorem dX10_cornerAt_14 : decode cX10_cornerAt 14 = .ok (.aload_n 0, 1) := by decide +kernel
theorem dX10_cornerAt_15 : decode cX10_cornerAt 15 = .ok (.getfield 100, 3) := by decide +kernel
theorem dX10_cornerAt_18 : decode cX10_cornerAt 18 = .ok (.iload_n 1, 1) := by decide +kernel
theorem dX10_cornerAt_19 : decode cX10_cornerAt 19 = .ok (.iaload, 1) := by decide +kernel
theorem dX10_cornerAt_20 : decode cX10_cornerAt 20 = .ok (.aload_n 0, 1) := by decide +kernel
theorem dX10_cornerAt_21 : decode cX10_cornerAt 21 = .ok (.getfield 112, 3) := by decide +kernel
theorem dX10_cornerAt_24 : decode cX10_cornerAt 24 = .ok (.bipush 16, 2) := by decide +kernel
theorem dX10_cornerAt_26 : decode cX10_cornerAt 26 = .ok (.iload_n 1, 1) := by decide +kernel
theorem dX10_cornerAt_27 : decode cX10_cornerAt 27 = .ok (.imul, 1) := by decide +kernel
theorem dX10_cornerAt_28 : decode cX10_cornerAt 28 = .ok (.iload_n 2, 1) := by decide +kernel
theorem dX10_cornerAt_29 : decode cX10_cornerAt 29 = .ok (.iadd, 1) := by decide +kernel
theorem dX10_cornerAt_30 : decode cX10_cornerAt 30 = .ok (.iconst 1, 1) := by decide +kernel
theorem dX10_cornerAt_31 : decode cX10_cornerAt 31 = .ok (.isub, 1) := by decide +kernel
theorem dX10_cornerAt_32 : decode cX10_cornerAt 32 = .ok (.iaload, 1) := by decide +kernel
theorem dX10_cornerAt_33 : decode cX10_cornerAt 33 = .ok (.invokevirtual 189, 3) := by decide +kernel
theorem dX10_cornerAt_36 : decode cX10_cornerAt 36 = .ok (.ireturn, 1) := by decide +kernel
theorem dX10_layNext_0 : decode cX10_layNext 0 = .ok (.aload_n 0, 1) := by decide +kernel
theorem dX10_layNext_1 : decode cX10_layNext 1 = .ok (.getfield 100, 3) := by decide +kernel
theorem dX10_layNext_4 : decode cX10_layNext 4 = .ok (.iload_n 1, 1) := by decide +kernel
theorem dX10_layNext_5 : decode cX10_layNext 5 = .ok (.iaload, 1) := by decide +kernel
theorem dX10_layNext_6 : decode cX10_layNext 6 = .ok (.istore_n 3, 1) := by decide +kernel
theorem dX10_layNext_7 : decode cX10_layNext 7 = .ok (.aload_n 0, 1) := by decide +kernel
theorem dX10_layNext_8 : decode cX10_layNext 8 = .ok (.iconst 0, 1) := by decide +kernel
theorem dX10_layNext_9 : decode cX10_layNext 9 = .ok (.putfield 362, 3) := by decide +kernel
theorem dX10_layNext_12 : decode cX10_layNext 12 = .ok (.iconst 0, 1) := by decide +kernel
theorem dX10_layNext_13 : decode cX10_layNext 13 = .ok (.istore 4, 2) := by decide +kernel
theorem dX10_layNext_15 : decode cX10_layNext 15 = .ok (.iload 4, 2) := by decide +kernel
theorem dX10_layNext_17 : decode cX10_layNext 17 = .ok (.aload_n 0, 1) := by decide +kernel
theorem dX10_layNext_18 : decode cX10_layNext 18 = .ok (.getfield 103, 3) := by decide +kernel
theorem dX10_layNext_21 : decode cX10_layNext 21 = .ok (.iload_n 1, 1) := by decide +kernel
theorem dX10_layNext_22 : decode cX10_layNext 22 = .ok (.iaload, 1) := by decide +kernel
theorem dX10_layNext_23 : decode cX10_layNext 23 = .ok (.if_icmp .gt 145, 3) := by decide +kernel
theorem dX10_layNext_26 : decode cX10_layNext 26 = .ok (.iconst 0, 1) := by decide +kernel
theorem dX10_layNext_27 : decode cX10_layNext 27 = .ok (.istore 5, 2) := by decide +kernel
theorem dX10_layNext_29 : decode cX10_layNext 29 = .ok (.iload 5, 2) := by decide +kernel
theorem dX10_layNext_31 : decode cX10_layNext 31 = .ok (.aload_n 0, 1) := by decide +kernel
theorem dX10_layNext_32 : decode cX10_layNext 32 = .ok (.getfield 16, 3) := by decide +kernel
theorem dX10_layNext_35 : decode cX10_layNext 35 = .ok (.iload_n 3, 1) := by decide +kernel
theorem dX10_layNext_36 : decode cX10_layNext 36 = .ok (.iaload, 1) := by decide +kernel
theorem dX10_layNext_37 : decode cX10_layNext 37 = .ok (.if_icmp .ge 125, 3) := by decide +kernel
theorem dX10_layNext_40 : decode cX10_layNext 40 = .ok (.iconst 0, 1) := by decide +kernel
theorem dX10_layNext_41 : decode cX10_layNext 41 = .ok (.istore 6, 2) := by decide +kernel
theorem dX10_layNext_43 : decode cX10_layNext 43 = .ok (.iload 6, 2) := by decide +kernel
theorem dX10_layNext_45 : decode cX10_layNext 45 = .ok (.aload_n 0, 1) := by decide +kernel
theorem dX10_layNext_46 : decode cX10_layNext 46 = .ok (.getfield 25, 3) := by decide +kernel
theorem dX10_layNext_49 : decode cX10_layNext 49 = .ok (.bipush 32, 2) := by decide +kernel
theorem dX10_layNext_51 : decode cX10_layNext 51 = .ok (.iload_n 3, 1) := by decide +kernel
theorem dX10_layNext_52 : decode cX10_layNext 52 = .ok (.imul, 1) := by decide +kernel
theorem dX10_layNext_53 : decode cX10_layNext 53 = .ok (.iload 5, 2) := by decide +kernel
theorem dX10_layNext_55 : decode cX10_layNext 55 = .ok (.iadd, 1) := by decide +kernel
theorem dX10_layNext_56 : decode cX10_layNext 56 = .ok (.iaload, 1) := by decide +kernel
theorem dX10_layNext_57 : decode cX10_layNext 57 = .ok (.if_icmp .ge 99, 3) := by decide +kernel
theorem dX10_layNext_60 : decode cX10_layNext 60 = .ok (.aload_n 0, 1) := by decide +kernel
theorem dX10_layNext_61 : decode cX10_layNext 61 = .ok (.iload_n 3, 1) := by decide +kernel
theorem dX10_layNext_62 : decode cX10_layNext 62 = .ok (.aload_n 0, 1) := by decide +kernel
theorem dX10_layNext_63 : decode cX10_layNext 63 = .ok (.iload_n 3, 1) := by decide +kernel
theorem dX10_layNext_64 : decode cX10_layNext 64 = .ok (.iload 5, 2) := by decide +kernel
theorem dX10_layNext_66 : decode cX10_layNext 66 = .ok (.iload 6, 2) := by decide +kernel
theorem dX10_layNext_68 : decode cX10_layNext 68 = .ok (.invokevirtual 221, 3) := by decide +kernel
theorem dX10_layNext_71 : decode cX10_layNext 71 = .ok (.invokevirtual 145, 3) := by decide +kernel
theorem dX10_layNext_74 : decode cX10_layNext 74 = .ok (.aload_n 0, 1) := by decide +kernel
theorem dX10_layNext_75 : decode cX10_layNext 75 = .ok (.iload_n 1, 1) := by decide +kernel
theorem dX10_layNext_76 : decode cX10_layNext 76 = .ok (.iload 4, 2) := by decide +kernel
theorem dX10_layNext_78 : decode cX10_layNext 78 = .ok (.invokevirtual 365, 3) := by decide +kernel
theorem dX10_layNext_81 : decode cX10_layNext 81 = .ok (.if_icmp .ne 69, 3) := by decide +kernel
theorem dX10_layNext_84 : decode cX10_layNext 84 = .ok (.iconst 0, 1) := by decide +kernel
theorem dX10_layNext_85 : decode cX10_layNext 85 = .ok (.istore 7, 2) := by decide +kernel
theorem dX10_layNext_87 : decode cX10_layNext 87 = .ok (.iload 7, 2) := by decide +kernel
theorem dX10_layNext_89 : decode cX10_layNext 89 = .ok (.iconst 2, 1) := by decide +kernel
theorem dX10_layNext_90 : decode cX10_layNext 90 = .ok (.if_icmp .ge 60, 3) := by decide +kernel
theorem dX10_layNext_93 : decode cX10_layNext 93 = .ok (.aload_n 0, 1) := by decide +kernel
theorem dX10_layNext_94 : decode cX10_layNext 94 = .ok (.iload_n 1, 1) := by decide +kernel
theorem dX10_layNext_95 : decode cX10_layNext 95 = .ok (.iload 4, 2) := by decide +kernel
theorem dX10_layNext_97 : decode cX10_layNext 97 = .ok (.iload 5, 2) := by decide +kernel
theorem dX10_layNext_99 : decode cX10_layNext 99 = .ok (.iload 6, 2) := by decide +kernel
theorem dX10_layNext_101 : decode cX10_layNext 101 = .ok (.iload 7, 2) := by decide +kernel
theorem dX10_layNext_103 : decode cX10_layNext 103 = .ok (.iconst 1, 1) := by decide +kernel
theorem dX10_layNext_104 : decode cX10_layNext 104 = .ok (.if_icmp .ne 7, 3) := by decide +kernel
theorem dX10_layNext_107 : decode cX10_layNext 107 = .ok (.iconst 1, 1) := by decide +kernel
theorem dX10_layNext_108 : decode cX10_layNext 108 = .ok (.goto 4, 3) := by decide +kernel
theorem dX10_layNext_111 : decode cX10_layNext 111 = .ok (.iconst 0, 1) := by decide +kernel
theorem dX10_layNext_112 : decode cX10_layNext 112 = .ok (.invokevirtual 368, 3) := by decide +kernel
theorem dX10_layNext_115 : decode cX10_layNext 115 = .ok (.aload_n 0, 1) := by decide +kernel
theorem dX10_layNext_116 : decode cX10_layNext 116 = .ok (.getfield 346, 3) := by decide +kernel
theorem dX10_layNext_119 : decode cX10_layNext 119 = .ok (.bipush 16, 2) := by decide +kernel
theorem dX10_layNext_121 : decode cX10_layNext 121 = .ok (.if_icmp .gt 23, 3) := by decide +kernel
theorem dX10_layNext_124 : decode cX10_layNext 124 = .ok (.aload_n 0, 1) := by decide +kernel
theorem dX10_layNext_125 : decode cX10_layNext 125 = .ok (.iload_n 2, 1) := by decide +kernel
theorem dX10_layNext_126 : decode cX10_layNext 126 = .ok (.aload_n 0, 1) := by decide +kernel
theorem dX10_layNext_127 : decode cX10_layNext 127 = .ok (.getfield 362, 3) := by decide +kernel
theorem dX10_layNext_130 : decode cX10_layNext 130 = .ok (.iadd, 1) := by decide +kernel
theorem dX10_layNext_131 : decode cX10_layNext 131 = .ok (.invokevirtual 372, 3) := by decide +kernel
theorem dX10_layNext_134 : decode cX10_layNext 134 = .ok (.aload_n 0, 1) := by decide +kernel
theorem dX10_layNext_135 : decode cX10_layNext 135 = .ok (.dup, 1) := by decide +kernel
theorem dX10_layNext_136 : decode cX10_layNext 136 = .ok (.getfield 362, 3) := by decide +kernel
theorem dX10_layNext_139 : decode cX10_layNext 139 = .ok (.iconst 1, 1) := by decide +kernel
theorem dX10_layNext_140 : decode cX10_layNext 140 = .ok (.iadd, 1) := by decide +kernel
theorem dX10_layNext_141 : decode cX10_layNext 141 = .ok (.putfield 362, 3) := by decide +kernel
theorem dX10_layNext_144 : decode cX10_layNext 144 = .ok (.iinc 7 1, 3) := by decide +kernel
theorem dX10_layNext_147 : decode cX10_layNext 147 = .ok (.goto (-60), 3) := by decide +kernel
theorem dX10_layNext_150 : decode cX10_layNext 150 = .ok (.iinc 6 1, 3) := by decide +kernel
theorem dX10_layNext_153 : decode cX10_layNext 153 = .ok (.goto (-110), 3) := by decide +kernel
theorem dX10_layNext_156 : decode cX10_layNext 156 = .ok (.iinc 5 1, 3) := by decide +kernel
theorem dX10_layNext_159 : decode cX10_layNext 159 = .ok (.goto (-130), 3) := by decide +kernel
theorem dX10_layNext_162 : decode cX10_layNext 162 = .ok (.iinc 4 1, 3) := by decide +kernel
theorem dX10_layNext_165 : decode cX10_layNext 165 = .ok (.goto (-150), 3) := by decide +kernel
theorem dX10_layNext_168 : decode cX10_layNext 168 = .ok (.return_, 1) := by decide +kernel
theorem dX10_isListed_0 : decode cX10_isListed 0 = .ok (.iconst 0, 1) := by decide +kernel
theorem dX10_isListed_1 : decode cX10_isListed 1 = .ok (.istore 7, 2) := by decide +kernel
theorem dX10_isListed_3 : decode cX10_isListed 3 = .ok (.iload 5, 2) := by decide +kernel
theorem dX10_isListed_5 : decode cX10_isListed 5 = .ok (.istore 8, 2) := by decide +kernel
theorem dX10_isListed_7 : decode cX10_isListed 7 = .ok (.iload 8, 2) := by decide +kernel
theorem dX10_isListed_9 : decode cX10_isListed 9 = .ok (.iload 5, 2) := by decide +kernel
theorem dX10_isListed_11 : decode cX10_isListed 11 = .ok (.iload 6, 2) := by decide +kernel
theorem dX10_isListed_13 : decode cX10_isListed 13 = .ok (.iadd, 1) := by decide +kernel
theorem dX10_isListed_14 : decode cX10_isListed 14 = .ok (.if_icmp .ge 45, 3) := by decide +kernel
theorem dX10_isListed_17 : decode cX10_isListed 17 = .ok (.iload 7, 2) := by decide +kernel
theorem dX10_isListed_19 : decode cX10_isListed 19 = .ok (.ifCond .ne 40, 3) := by decide +kernel
theorem dX10_isListed_22 : decode cX10_isListed 22 = .ok (.aload_n 0, 1) := by decide +kernel
theorem dX10_isListed_23 : decode cX10_isListed 23 = .ok (.getfield 118, 3) := by decide +kernel
theorem dX10_isListed_26 : decode cX10_isListed 26 = .ok (.iload 8, 2) := by decide +kernel
theorem dX10_isListed_28 : decode cX10_isListed 28 = .ok (.laload, 1) := by decide +kernel
theorem dX10_isListed_29 : decode cX10_isListed 29 = .ok (.lload_n 1, 1) := by decide +kernel
theorem dX10_isListed_30 : decode cX10_isListed 30 = .ok (.lcmp, 1) := by decide +kernel
theorem dX10_isListed_31 : decode cX10_isListed 31 = .ok (.ifCond .ne 19, 3) := by decide +kernel
theorem dX10_isListed_34 : decode cX10_isListed 34 = .ok (.aload_n 0, 1) := by decide +kernel
theorem dX10_isListed_35 : decode cX10_isListed 35 = .ok (.getfield 121, 3) := by decide +kernel
theorem dX10_isListed_38 : decode cX10_isListed 38 = .ok (.iload 8, 2) := by decide +kernel
theorem dX10_isListed_40 : decode cX10_isListed 40 = .ok (.laload, 1) := by decide +kernel
theorem dX10_isListed_41 : decode cX10_isListed 41 = .ok (.lload_n 3, 1) := by decide +kernel
theorem dX10_isListed_42 : decode cX10_isListed 42 = .ok (.lcmp, 1) := by decide +kernel
theorem dX10_isListed_43 : decode cX10_isListed 43 = .ok (.ifCond .ne 7, 3) := by decide +kernel
theorem dX10_isListed_46 : decode cX10_isListed 46 = .ok (.iconst 1, 1) := by decide +kernel
theorem dX10_isListed_47 : decode cX10_isListed 47 = .ok (.goto 4, 3) := by decide +kernel
theorem dX10_isListed_50 : decode cX10_isListed 50 = .ok (.iconst 0, 1) := by decide +kernel
theorem dX10_isListed_51 : decode cX10_isListed 51 = .ok (.istore 7, 2) := by decide +kernel
theorem dX10_isListed_53 : decode cX10_isListed 53 = .ok (.iinc 8 1, 3) := by decide +kernel
theorem dX10_isListed_56 : decode cX10_isListed 56 = .ok (.goto (-49), 3) := by decide +kernel
theorem dX10_isListed_59 : decode cX10_isListed 59 = .ok (.iload 7, 2) := by decide +kernel
theorem dX10_isListed_61 : decode cX10_isListed 61 = .ok (.ireturn, 1) := by decide +kernel
theorem dX10_makeSlot_0 : decode cX10_makeSlot 0 = .ok (.aload_n 0, 1) := by decide +kernel
theorem dX10_makeSlot_1 : decode cX10_makeSlot 1 = .ok (.iconst 0, 1) := by decide +kernel
theorem dX10_makeSlot_2 : decode cX10_makeSlot 2 = .ok (.putfield 346, 3) := by decide +kernel
theorem dX10_makeSlot_5 : decode cX10_makeSlot 5 = .ok (.iconst 0, 1) := by decide +kernel
theorem dX10_makeSlot_6 : decode cX10_makeSlot 6 = .ok (.istore_n 2, 1) := by decide +kernel
theorem dX10_makeSlot_7 : decode cX10_makeSlot 7 = .ok (.iload_n 2, 1) := by decide +kernel
theorem dX10_makeSlot_8 : decode cX10_makeSlot 8 = .ok (.aload_n 0, 1) := by decide +kernel
theorem dX10_makeSlot_9 : decode cX10_makeSlot 9 = .ok (.getfield 103, 3) := by decide +kernel
theorem dX10_makeSlot_12 : decode cX10_makeSlot 12 = .ok (.iload_n 1, 1) := by decide +kernel
theorem dX10_makeSlot_13 : decode cX10_makeSlot 13 = .ok (.iaload, 1) := by decide +kernel
theorem dX10_makeSlot_14 : decode cX10_makeSlot 14 = .ok (.if_icmp .ge 24, 3) := by decide +kernel
theorem dX10_makeSlot_17 : decode cX10_makeSlot 17 = .ok (.aload_n 0, 1) := by decide +kernel
theorem dX10_makeSlot_18 : decode cX10_makeSlot 18 = .ok (.aload_n 0, 1) := by decide +kernel
theorem dX10_makeSlot_19 : decode cX10_makeSlot 19 = .ok (.getfield 112, 3) := by decide +kernel
theorem dX10_makeSlot_22 : decode cX10_makeSlot 22 = .ok (.bipush 16, 2) := by decide +kernel
theorem dX10_makeSlot_24 : decode cX10_makeSlot 24 = .ok (.iload_n 1, 1) := by decide +kernel
theorem dX10_makeSlot_25 : decode cX10_makeSlot 25 = .ok (.imul, 1) := by decide +kernel
theorem dX10_makeSlot_26 : decode cX10_makeSlot 26 = .ok (.iload_n 2, 1) := by decide +kernel
theorem dX10_makeSlot_27 : decode cX10_makeSlot 27 = .ok (.iadd, 1) := by decide +kernel
theorem dX10_makeSlot_28 : decode cX10_makeSlot 28 = .ok (.iaload, 1) := by decide +kernel
theorem dX10_makeSlot_29 : decode cX10_makeSlot 29 = .ok (.invokevirtual 349, 3) := by decide +kernel
theorem dX10_makeSlot_32 : decode cX10_makeSlot 32 = .ok (.iinc 2 1, 3) := by decide +kernel
theorem dX10_makeSlot_35 : decode cX10_makeSlot 35 = .ok (.goto (-28), 3) := by decide +kernel
theorem dX10_makeSlot_38 : decode cX10_makeSlot 38 = .ok (.return_, 1) := by decide +kernel
theorem dX10_drawn_0 : decode cX10_drawn 0 = .ok (.iload_n 1, 1) := by decide +kernel
theorem dX10_drawn_1 : decode cX10_drawn 1 = .ok (.invokestatic 343, 3) := by decide +kernel
theorem dX10_drawn_4 : decode cX10_drawn 4 = .ok (.ifCond .eq 10, 3) := by decide +kernel
theorem dX10_drawn_7 : decode cX10_drawn 7 = .ok (.iload_n 2, 1) := by decide +kernel
theorem dX10_drawn_8 : decode cX10_drawn 8 = .ok (.invokestatic 343, 3) := by decide +kernel
theorem dX10_drawn_11 : decode cX10_drawn 11 = .ok (.ifCond .ne 5, 3) := by decide +kernel
theorem dX10_drawn_14 : decode cX10_drawn 14 = .ok (.iconst (-1), 1) := by decide +kernel
theorem dX10_drawn_15 : decode cX10_drawn 15 = .ok (.ireturn, 1) := by decide +kernel
theorem dX10_drawn_16 : decode cX10_drawn 16 = .ok (.aload_n 0, 1) := by decide +kernel
theorem dX10_drawn_17 : decode cX10_drawn 17 = .ok (.getfield 100, 3) := by decide +kernel
theorem dX10_drawn_20 : decode cX10_drawn 20 = .ok (.iload_n 1, 1) := by decide +kernel
theorem dX10_drawn_21 : decode cX10_drawn 21 = .ok (.iaload, 1) := by decide +kernel
theorem dX10_drawn_22 : decode cX10_drawn 22 = .ok (.ifCond .lt 52, 3) := by decide +kernel
theorem dX10_drawn_25 : decode cX10_drawn 25 = .ok (.aload_n 0, 1) := by decide +kernel
theorem dX10_drawn_26 : decode cX10_drawn 26 = .ok (.getfield 100, 3) := by decide +kernel
theorem dX10_drawn_29 : decode cX10_drawn 29 = .ok (.iload_n 1, 1) := by decide +kernel
theorem dX10_drawn_30 : decode cX10_drawn 30 = .ok (.iaload, 1) := by decide +kernel
theorem dX10_drawn_31 : decode cX10_drawn 31 = .ok (.aload_n 0, 1) := by decide +kernel
theorem dX10_drawn_32 : decode cX10_drawn 32 = .ok (.getfield 100, 3) := by decide +kernel
theorem dX10_drawn_35 : decode cX10_drawn 35 = .ok (.iload_n 2, 1) := by decide +kernel
theorem dX10_drawn_36 : decode cX10_drawn 36 = .ok (.iaload, 1) := by decide +kernel
theorem dX10_drawn_37 : decode cX10_drawn 37 = .ok (.if_icmp .ne 37, 3) := by decide +kernel
theorem dX10_drawn_40 : decode cX10_drawn 40 = .ok (.aload_n 0, 1) := by decide +kernel
theorem dX10_drawn_41 : decode cX10_drawn 41 = .ok (.getfield 106, 3) := by decide +kernel
theorem dX10_drawn_44 : decode cX10_drawn 44 = .ok (.iload_n 1, 1) := by decide +kernel
theorem dX10_drawn_45 : decode cX10_drawn 45 = .ok (.iaload, 1) := by decide +kernel
theorem dX10_drawn_46 : decode cX10_drawn 46 = .ok (.aload_n 0, 1) := by decide +kernel
theorem dX10_drawn_47 : decode cX10_drawn 47 = .ok (.getfield 106, 3) := by decide +kernel
theorem dX10_drawn_50 : decode cX10_drawn 50 = .ok (.iload_n 2, 1) := by decide +kernel
theorem dX10_drawn_51 : decode cX10_drawn 51 = .ok (.iaload, 1) := by decide +kernel
theorem dX10_drawn_52 : decode cX10_drawn 52 = .ok (.if_icmp .ne 22, 3) := by decide +kernel
theorem dX10_drawn_55 : decode cX10_drawn 55 = .ok (.aload_n 0, 1) := by decide +kernel
theorem dX10_drawn_56 : decode cX10_drawn 56 = .ok (.getfield 109, 3) := by decide +kernel
theorem dX10_drawn_59 : decode cX10_drawn 59 = .ok (.iload_n 1, 1) := by decide +kernel
theorem dX10_drawn_60 : decode cX10_drawn 60 = .ok (.iaload, 1) := by decide +kernel
theorem dX10_drawn_61 : decode cX10_drawn 61 = .ok (.aload_n 0, 1) := by decide +kernel
theorem dX10_drawn_62 : decode cX10_drawn 62 = .ok (.getfield 109, 3) := by decide +kernel
theorem dX10_drawn_65 : decode cX10_drawn 65 = .ok (.iload_n 2, 1) := by decide +kernel
theorem dX10_drawn_66 : decode cX10_drawn 66 = .ok (.iaload, 1) := by decide +kernel
theorem dX10_drawn_67 : decode cX10_drawn 67 = .ok (.if_icmp .ne 7, 3) := by decide +kernel
theorem dX10_drawn_70 : decode cX10_drawn 70 = .ok (.iconst 1, 1) := by decide +kernel
theorem dX10_drawn_71 : decode cX10_drawn 71 = .ok (.goto 4, 3) := by decide +kernel
theorem dX10_drawn_74 : decode cX10_drawn 74 = .ok (.iconst 0, 1) := by decide +kernel
theorem dX10_drawn_75 : decode cX10_drawn 75 = .ok (.istore_n 3, 1) := by decide +kernel
theorem dX10_drawn_76 : decode cX10_drawn 76 = .ok (.iload_n 3, 1) := by decide +kernel
theorem dX10_drawn_77 : decode cX10_drawn 77 = .ok (.ifCond .ne 6, 3) := by decide +kernel
theorem dX10_drawn_80 : decode cX10_drawn 80 = .ok (.bipush (-2), 2) := by decide +kernel
theorem dX10_drawn_82 : decode cX10_drawn 82 = .ok (.ireturn, 1) := by decide +kernel
theorem dX10_drawn_83 : decode cX10_drawn 83 = .ok (.sipush 4799, 3) := by decide +kernel
theorem dX10_drawn_86 : decode cX10_drawn 86 = .ok (.istore 4, 2) := by decide +kernel
theorem dX10_drawn_88 : decode cX10_drawn 88 = .ok (.aload_n 0, 1) := by decide +kernel
theorem dX10_drawn_89 : decode cX10_drawn 89 = .ok (.iload_n 1, 1) := by decide +kernel
theorem dX10_drawn_90 : decode cX10_drawn 90 = .ok (.invokevirtual 375, 3) := by decide +kernel
theorem dX10_drawn_93 : decode cX10_drawn 93 = .ok (.aload_n 0, 1) := by decide +kernel
theorem dX10_drawn_94 : decode cX10_drawn 94 = .ok (.iload 4, 2) := by decide +kernel
theorem dX10_drawn_96 : decode cX10_drawn 96 = .ok (.invokevirtual 372, 3) := by decide +kernel
theorem dX10_drawn_99 : decode cX10_drawn 99 = .ok (.aload_n 0, 1) := by decide +kernel
theorem dX10_drawn_100 : decode cX10_drawn 100 = .ok (.getfield 118, 3) := by decide +kernel
theorem dX10_drawn_103 : decode cX10_drawn 103 = .ok (.iload 4, 2) := by decide +kernel
theorem dX10_drawn_105 : decode cX10_drawn 105 = .ok (.laload, 1) := by decide +kernel
theorem dX10_drawn_106 : decode cX10_drawn 106 = .ok (.lstore 5, 2) := by decide +kernel
theorem dX10_drawn_108 : decode cX10_drawn 108 = .ok (.aload_n 0, 1) := by decide +kernel
theorem dX10_drawn_109 : decode cX10_drawn 109 = .ok (.getfield 121, 3) := by decide +kernel
theorem dX10_drawn_112 : decode cX10_drawn 112 = .ok (.iload 4, 2) := by decide +kernel
theorem dX10_drawn_114 : decode cX10_drawn 114 = .ok (.laload, 1) := by decide +kernel
theorem dX10_drawn_115 : decode cX10_drawn 115 = .ok (.lstore 7, 2) := by decide +kernel
theorem dX10_drawn_117 : decode cX10_drawn 117 = .ok (.aload_n 0, 1) := by decide +kernel
theorem dX10_drawn_118 : decode cX10_drawn 118 = .ok (.iload_n 2, 1) := by decide +kernel
theorem dX10_drawn_119 : decode cX10_drawn 119 = .ok (.invokevirtual 375, 3) := by decide +kernel
theorem dX10_drawn_122 : decode cX10_drawn 122 = .ok (.aload_n 0, 1) := by decide +kernel
theorem dX10_drawn_123 : decode cX10_drawn 123 = .ok (.iload 4, 2) := by decide +kernel
theorem dX10_drawn_125 : decode cX10_drawn 125 = .ok (.invokevirtual 372, 3) := by decide +kernel
theorem dX10_drawn_128 : decode cX10_drawn 128 = .ok (.aload_n 0, 1) := by decide +kernel
theorem dX10_drawn_129 : decode cX10_drawn 129 = .ok (.getfield 118, 3) := by decide +kernel
theorem dX10_drawn_132 : decode cX10_drawn 132 = .ok (.iload 4, 2) := by decide +kernel
theorem dX10_drawn_134 : decode cX10_drawn 134 = .ok (.laload, 1) := by decide +kernel
theorem dX10_drawn_135 : decode cX10_drawn 135 = .ok (.lstore 9, 2) := by decide +kernel
theorem dX10_drawn_137 : decode cX10_drawn 137 = .ok (.aload_n 0, 1) := by decide +kernel
theorem dX10_drawn_138 : decode cX10_drawn 138 = .ok (.getfield 121, 3) := by decide +kernel
theorem dX10_drawn_141 : decode cX10_drawn 141 = .ok (.iload 4, 2) := by decide +kernel
theorem dX10_drawn_143 : decode cX10_drawn 143 = .ok (.laload, 1) := by decide +kernel
theorem dX10_drawn_144 : decode cX10_drawn 144 = .ok (.lstore 11, 2) := by decide +kernel
theorem dX10_drawn_146 : decode cX10_drawn 146 = .ok (.lload 5, 2) := by decide +kernel
theorem dX10_drawn_148 : decode cX10_drawn 148 = .ok (.lload 9, 2) := by decide +kernel
theorem dX10_drawn_150 : decode cX10_drawn 150 = .ok (.lcmp, 1) := by decide +kernel
theorem dX10_drawn_151 : decode cX10_drawn 151 = .ok (.ifCond .ne 13, 3) := by decide +kernel
theorem dX10_drawn_154 : decode cX10_drawn 154 = .ok (.lload 7, 2) := by decide +kernel
theorem dX10_drawn_156 : decode cX10_drawn 156 = .ok (.lload 11, 2) := by decide +kernel
theorem dX10_drawn_158 : decode cX10_drawn 158 = .ok (.lcmp, 1) := by decide +kernel
theorem dX10_drawn_159 : decode cX10_drawn 159 = .ok (.ifCond .ne 5, 3) := by decide +kernel
theorem dX10_drawn_162 : decode cX10_drawn 162 = .ok (.iconst 0, 1) := by decide +kernel
theorem dX10_drawn_163 : decode cX10_drawn 163 = .ok (.ireturn, 1) := by decide +kernel
theorem dX10_drawn_164 : decode cX10_drawn 164 = .ok (.aload_n 0, 1) := by decide +kernel
theorem dX10_drawn_165 : decode cX10_drawn 165 = .ok (.iload_n 1, 1) := by decide +kernel
theorem dX10_drawn_166 : decode cX10_drawn 166 = .ok (.iconst 0, 1) := by decide +kernel
theorem dX10_drawn_167 : decode cX10_drawn 167 = .ok (.invokevirtual 378, 3) := by decide +kernel
theorem dX10_drawn_170 : decode cX10_drawn 170 = .ok (.aload_n 0, 1) := by decide +kernel
theorem dX10_drawn_171 : decode cX10_drawn 171 = .ok (.getfield 362, 3) := by decide +kernel
theorem dX10_drawn_174 : decode cX10_drawn 174 = .ok (.istore 13, 2) := by decide +kernel
theorem dX10_drawn_176 : decode cX10_drawn 176 = .ok (.aload_n 0, 1) := by decide +kernel
theorem dX10_drawn_177 : decode cX10_drawn 177 = .ok (.iload_n 2, 1) := by decide +kernel
theorem dX10_drawn_178 : decode cX10_drawn 178 = .ok (.sipush 2400, 3) := by decide +kernel
theorem dX10_drawn_181 : decode cX10_drawn 181 = .ok (.invokevirtual 378, 3) := by decide +kernel
theorem dX10_drawn_184 : decode cX10_drawn 184 = .ok (.aload_n 0, 1) := by decide +kernel
theorem dX10_drawn_185 : decode cX10_drawn 185 = .ok (.lload 9, 2) := by decide +kernel
theorem dX10_drawn_187 : decode cX10_drawn 187 = .ok (.lload 11, 2) := by decide +kernel
theorem dX10_drawn_189 : decode cX10_drawn 189 = .ok (.iconst 0, 1) := by decide +kernel
theorem dX10_drawn_190 : decode cX10_drawn 190 = .ok (.iload 13, 2) := by decide +kernel
theorem dX10_drawn_192 : decode cX10_drawn 192 = .ok (.invokevirtual 381, 3) := by decide +kernel
theorem dX10_drawn_195 : decode cX10_drawn 195 = .ok (.ifCond .ne 21, 3) := by decide +kernel
theorem dX10_drawn_198 : decode cX10_drawn 198 = .ok (.aload_n 0, 1) := by decide +kernel
theorem dX10_drawn_199 : decode cX10_drawn 199 = .ok (.lload 5, 2) := by decide +kernel
theorem dX10_drawn_201 : decode cX10_drawn 201 = .ok (.lload 7, 2) := by decide +kernel
theorem dX10_drawn_203 : decode cX10_drawn 203 = .ok (.sipush 2400, 3) := by decide +kernel
theorem dX10_drawn_206 : decode cX10_drawn 206 = .ok (.aload_n 0, 1) := by decide +kernel
theorem dX10_drawn_207 : decode cX10_drawn 207 = .ok (.getfield 362, 3) := by decide +kernel
theorem dX10_drawn_210 : decode cX10_drawn 210 = .ok (.invokevirtual 381, 3) := by decide +kernel
theorem dX10_drawn_213 : decode cX10_drawn 213 = .ok (.ifCond .eq 5, 3) := by decide +kernel
theorem dX10_drawn_216 : decode cX10_drawn 216 = .ok (.iconst 1, 1) := by decide +kernel
theorem dX10_drawn_217 : decode cX10_drawn 217 = .ok (.ireturn, 1) := by decide +kernel
theorem dX10_drawn_218 : decode cX10_drawn 218 = .ok (.iconst 0, 1) := by decide +kernel
theorem dX10_drawn_219 : decode cX10_drawn 219 = .ok (.istore 14, 2) := by decide +kernel
theorem dX10_drawn_221 : decode cX10_drawn 221 = .ok (.iload 14, 2) := by decide +kernel
theorem dX10_drawn_223 : decode cX10_drawn 223 = .ok (.iload 13, 2) := by decide +kernel
theorem dX10_drawn_225 : decode cX10_drawn 225 = .ok (.if_icmp .ge 39, 3) := by decide +kernel
theorem dX10_drawn_228 : decode cX10_drawn 228 = .ok (.aload_n 0, 1) := by decide +kernel
theorem dX10_drawn_229 : decode cX10_drawn 229 = .ok (.aload_n 0, 1) := by decide +kernel
theorem dX10_drawn_230 : decode cX10_drawn 230 = .ok (.getfield 118, 3) := by decide +kernel
theorem dX10_drawn_233 : decode cX10_drawn 233 = .ok (.iload 14, 2) := by decide +kernel
theorem dX10_drawn_235 : decode cX10_drawn 235 = .ok (.laload, 1) := by decide +kernel
theorem dX10_drawn_236 : decode cX10_drawn 236 = .ok (.aload_n 0, 1) := by decide +kernel
theorem dX10_drawn_237 : decode cX10_drawn 237 = .ok (.getfield 121, 3) := by decide +kernel
theorem dX10_drawn_240 : decode cX10_drawn 240 = .ok (.iload 14, 2) := by decide +kernel
theorem dX10_drawn_242 : decode cX10_drawn 242 = .ok (.laload, 1) := by decide +kernel
theorem dX10_drawn_243 : decode cX10_drawn 243 = .ok (.sipush 2400, 3) := by decide +kernel
theorem dX10_drawn_246 : decode cX10_drawn 246 = .ok (.aload_n 0, 1) := by decide +kernel
theorem dX10_drawn_247 : decode cX10_drawn 247 = .ok (.getfield 362, 3) := by decide +kernel
theorem dX10_drawn_250 : decode cX10_drawn 250 = .ok (.invokevirtual 381, 3) := by decide +kernel
theorem dX10_drawn_253 : decode cX10_drawn 253 = .ok (.ifCond .eq 5, 3) := by decide +kernel
theorem dX10_drawn_256 : decode cX10_drawn 256 = .ok (.iconst 2, 1) := by decide +kernel
theorem dX10_drawn_257 : decode cX10_drawn 257 = .ok (.ireturn, 1) := by decide +kernel
theorem dX10_drawn_258 : decode cX10_drawn 258 = .ok (.iinc 14 1, 3) := by decide +kernel
theorem dX10_drawn_261 : decode cX10_drawn 261 = .ok (.goto (-40), 3) := by decide +kernel
theorem dX10_drawn_264 : decode cX10_drawn 264 = .ok (.bipush (-5), 2) := by decide +kernel
theorem dX10_drawn_266 : decode cX10_drawn 266 = .ok (.ireturn, 1) := by decide +kernel
theorem dX10_areBits_0 : decode cX10_areBits 0 = .ok (.iload_n 0, 1) := by decide +kernel
theorem dX10_areBits_1 : decode cX10_areBits 1 = .ok (.ifCond .lt 14, 3) := by decide +kernel
theorem dX10_areBits_4 : decode cX10_areBits 4 = .ok (.iload_n 0, 1) := by decide +kernel
theorem dX10_areBits_5 : decode cX10_areBits 5 = .ok (.iconst 1, 1) := by decide +kernel
theorem dX10_areBits_6 : decode cX10_areBits 6 = .ok (.iload_n 1, 1) := by decide +kernel
theorem dX10_areBits_7 : decode cX10_areBits 7 = .ok (.ishl, 1) := by decide +kernel
theorem dX10_areBits_8 : decode cX10_areBits 8 = .ok (.if_icmp .ge 7, 3) := by decide +kernel
theorem dX10_areBits_11 : decode cX10_areBits 11 = .ok (.iconst 1, 1) := by decide +kernel
theorem dX10_areBits_12 : decode cX10_areBits 12 = .ok (.goto 4, 3) := by decide +kernel
theorem dX10_areBits_15 : decode cX10_areBits 15 = .ok (.iconst 0, 1) := by decide +kernel
theorem dX10_areBits_16 : decode cX10_areBits 16 = .ok (.ireturn, 1) := by decide +kernel
theorem dX10_oddFaces_0 : decode cX10_oddFaces 0 = .ok (.iconst 0, 1) := by decide +kernel
theorem dX10_oddFaces_1 : decode cX10_oddFaces 1 = .ok (.istore_n 3, 1) := by decide +kernel
theorem dX10_oddFaces_2 : decode cX10_oddFaces 2 = .ok (.iconst 0, 1) := by decide +kernel
theorem dX10_oddFaces_3 : decode cX10_oddFaces 3 = .ok (.istore 4, 2) := by decide +kernel
theorem dX10_oddFaces_5 : decode cX10_oddFaces 5 = .ok (.iload 4, 2) := by decide +kernel
theorem dX10_oddFaces_7 : decode cX10_oddFaces 7 = .ok (.aload_n 0, 1) := by decide +kernel
theorem dX10_oddFaces_8 : decode cX10_oddFaces 8 = .ok (.getfield 16, 3) := by decide +kernel
theorem dX10_oddFaces_11 : decode cX10_oddFaces 11 = .ok (.iload_n 1, 1) := by decide +kernel
theorem dX10_oddFaces_12 : decode cX10_oddFaces 12 = .ok (.iaload, 1) := by decide +kernel
theorem dX10_oddFaces_13 : decode cX10_oddFaces 13 = .ok (.if_icmp .ge 69, 3) := by decide +kernel
theorem dX10_oddFaces_16 : decode cX10_oddFaces 16 = .ok (.iconst 0, 1) := by decide +kernel
theorem dX10_oddFaces_17 : decode cX10_oddFaces 17 = .ok (.istore 5, 2) := by decide +kernel
theorem dX10_oddFaces_19 : decode cX10_oddFaces 19 = .ok (.iconst 0, 1) := by decide +kernel
theorem dX10_oddFaces_20 : decode cX10_oddFaces 20 = .ok (.istore 6, 2) := by decide +kernel
theorem dX10_oddFaces_22 : decode cX10_oddFaces 22 = .ok (.iload 6, 2) := by decide +kernel
theorem dX10_oddFaces_24 : decode cX10_oddFaces 24 = .ok (.aload_n 0, 1) := by decide +kernel
theorem dX10_oddFaces_25 : decode cX10_oddFaces 25 = .ok (.getfield 25, 3) := by decide +kernel
theorem dX10_oddFaces_28 : decode cX10_oddFaces 28 = .ok (.bipush 32, 2) := by decide +kernel
theorem dX10_oddFaces_30 : decode cX10_oddFaces 30 = .ok (.iload_n 1, 1) := by decide +kernel
theorem dX10_oddFaces_31 : decode cX10_oddFaces 31 = .ok (.imul, 1) := by decide +kernel
theorem dX10_oddFaces_32 : decode cX10_oddFaces 32 = .ok (.iload 4, 2) := by decide +kernel
theorem dX10_oddFaces_34 : decode cX10_oddFaces 34 = .ok (.iadd, 1) := by decide +kernel
theorem dX10_oddFaces_35 : decode cX10_oddFaces 35 = .ok (.iaload, 1) := by decide +kernel
theorem dX10_oddFaces_36 : decode cX10_oddFaces 36 = .ok (.if_icmp .ge 30, 3) := by decide +kernel
theorem dX10_oddFaces_39 : decode cX10_oddFaces 39 = .ok (.iload 5, 2) := by decide +kernel
theorem dX10_oddFaces_41 : decode cX10_oddFaces 41 = .ok (.iload_n 2, 1) := by decide +kernel
theorem dX10_oddFaces_42 : decode cX10_oddFaces 42 = .ok (.aload_n 0, 1) := by decide +kernel
theorem dX10_oddFaces_43 : decode cX10_oddFaces 43 = .ok (.iload_n 1, 1) := by decide +kernel
theorem dX10_oddFaces_44 : decode cX10_oddFaces 44 = .ok (.iload 4, 2) := by decide +kernel
theorem dX10_oddFaces_46 : decode cX10_oddFaces 46 = .ok (.iload 6, 2) := by decide +kernel
theorem dX10_oddFaces_48 : decode cX10_oddFaces 48 = .ok (.invokevirtual 221, 3) := by decide +kernel
theorem dX10_oddFaces_51 : decode cX10_oddFaces 51 = .ok (.invokestatic 385, 3) := by decide +kernel
theorem dX10_oddFaces_54 : decode cX10_oddFaces 54 = .ok (.ishr, 1) := by decide +kernel
theorem dX10_oddFaces_55 : decode cX10_oddFaces 55 = .ok (.iconst 1, 1) := by decide +kernel
theorem dX10_oddFaces_56 : decode cX10_oddFaces 56 = .ok (.iand, 1) := by decide +kernel
theorem dX10_oddFaces_57 : decode cX10_oddFaces 57 = .ok (.iadd, 1) := by decide +kernel
theorem dX10_oddFaces_58 : decode cX10_oddFaces 58 = .ok (.istore 5, 2) := by decide +kernel
theorem dX10_oddFaces_60 : decode cX10_oddFaces 60 = .ok (.iinc 6 1, 3) := by decide +kernel
theorem dX10_oddFaces_63 : decode cX10_oddFaces 63 = .ok (.goto (-41), 3) := by decide +kernel
theorem dX10_oddFaces_66 : decode cX10_oddFaces 66 = .ok (.iload_n 3, 1) := by decide +kernel
theorem dX10_oddFaces_67 : decode cX10_oddFaces 67 = .ok (.iload 5, 2) := by decide +kernel
theorem dX10_oddFaces_69 : decode cX10_oddFaces 69 = .ok (.iconst 2, 1) := by decide +kernel
theorem dX10_oddFaces_70 : decode cX10_oddFaces 70 = .ok (.irem, 1) := by decide +kernel
theorem dX10_oddFaces_71 : decode cX10_oddFaces 71 = .ok (.iload 4, 2) := by decide +kernel
theorem dX10_oddFaces_73 : decode cX10_oddFaces 73 = .ok (.ishl, 1) := by decide +kernel
theorem dX10_oddFaces_74 : decode cX10_oddFaces 74 = .ok (.ior, 1) := by decide +kernel
theorem dX10_oddFaces_75 : decode cX10_oddFaces 75 = .ok (.istore_n 3, 1) := by decide +kernel
theorem dX10_oddFaces_76 : decode cX10_oddFaces 76 = .ok (.iinc 4 1, 3) := by decide +kernel
theorem dX10_oddFaces_79 : decode cX10_oddFaces 79 = .ok (.goto (-74), 3) := by decide +kernel
theorem dX10_oddFaces_82 : decode cX10_oddFaces 82 = .ok (.iload_n 3, 1) := by decide +kernel
theorem dX10_oddFaces_83 : decode cX10_oddFaces 83 = .ok (.ireturn, 1) := by decide +kernel
theorem dX10_edgeOf_0 : decode cX10_edgeOf 0 = .ok (.iload_n 0, 1) := by decide +kernel
theorem dX10_edgeOf_1 : decode cX10_edgeOf 1 = .ok (.ifCond .le 9, 3) := by decide +kernel
theorem dX10_edgeOf_4 : decode cX10_edgeOf 4 = .ok (.iload_n 0, 1) := by decide +kernel
theorem dX10_edgeOf_5 : decode cX10_edgeOf 5 = .ok (.iconst 1, 1) := by decide +kernel
theorem dX10_edgeOf_6 : decode cX10_edgeOf 6 = .ok (.isub, 1) := by decide +kernel
theorem dX10_edgeOf_7 : decode cX10_edgeOf 7 = .ok (.goto 7, 3) := by decide +kernel
theorem dX10_edgeOf_10 : decode cX10_edgeOf 10 = .ok (.iload_n 0, 1) := by decide +kernel
theorem dX10_edgeOf_11 : decode cX10_edgeOf 11 = .ok (.ineg, 1) := by decide +kernel
theorem dX10_edgeOf_12 : decode cX10_edgeOf 12 = .ok (.iconst 1, 1) := by decide +kernel
theorem dX10_edgeOf_13 : decode cX10_edgeOf 13 = .ok (.isub, 1) := by decide +kernel
theorem dX10_edgeOf_14 : decode cX10_edgeOf 14 = .ok (.ireturn, 1) := by decide +kernel
theorem dX10_product_0 : decode cX10_product 0 = .ok (.iload_n 1, 1) := by decide +kernel
theorem dX10_product_1 : decode cX10_product 1 = .ok (.invokestatic 137, 3) := by decide +kernel
theorem dX10_product_4 : decode cX10_product 4 = .ok (.ifCond .eq 29, 3) := by decide +kernel
theorem dX10_product_7 : decode cX10_product 7 = .ok (.iload_n 2, 1) := by decide +kernel
theorem dX10_product_8 : decode cX10_product 8 = .ok (.aload_n 0, 1) := by decide +kernel
theorem dX10_product_9 : decode cX10_product 9 = .ok (.getfield 13, 3) := by decide +kernel
theorem dX10_product_12 : decode cX10_product 12 = .ok (.iload_n 1, 1) := by decide +kernel
theorem dX10_product_13 : decode cX10_product 13 = .ok (.iaload, 1) := by decide +kernel
theorem dX10_product_14 : decode cX10_product 14 = .ok (.invokestatic 388, 3) := by decide +kernel
theorem dX10_product_17 : decode cX10_product 17 = .ok (.ifCond .eq 16, 3) := by decide +kernel
theorem dX10_product_20 : decode cX10_product 20 = .ok (.iload_n 3, 1) := by decide +kernel
theorem dX10_product_21 : decode cX10_product 21 = .ok (.aload_n 0, 1) := by decide +kernel
theorem dX10_product_22 : decode cX10_product 22 = .ok (.getfield 13, 3) := by decide +kernel
theorem dX10_product_25 : decode cX10_product 25 = .ok (.iload_n 1, 1) := by decide +kernel
theorem dX10_product_26 : decode cX10_product 26 = .ok (.iaload, 1) := by decide +kernel
theorem dX10_product_27 : decode cX10_product 27 = .ok (.invokestatic 388, 3) := by decide +kernel
theorem dX10_product_30 : decode cX10_product 30 = .ok (.ifCond .ne 5, 3) := by decide +kernel
theorem dX10_product_33 : decode cX10_product 33 = .ok (.iconst (-1), 1) := by decide +kernel
theorem dX10_product_34 : decode cX10_product 34 = .ok (.ireturn, 1) := by decide +kernel
theorem dX10_product_35 : decode cX10_product 35 = .ok (.aload_n 0, 1) := by decide +kernel
theorem dX10_product_36 : decode cX10_product 36 = .ok (.iload_n 1, 1) := by decide +kernel
theorem dX10_product_37 : decode cX10_product 37 = .ok (.iload_n 2, 1) := by decide +kernel
theorem dX10_product_38 : decode cX10_product 38 = .ok (.invokevirtual 391, 3) := by decide +kernel
theorem dX10_product_41 : decode cX10_product 41 = .ok (.ifCond .ne 12, 3) := by decide +kernel
theorem dX10_product_44 : decode cX10_product 44 = .ok (.aload_n 0, 1) := by decide +kernel
theorem dX10_product_45 : decode cX10_product 45 = .ok (.iload_n 1, 1) := by decide +kernel
theorem dX10_product_46 : decode cX10_product 46 = .ok (.iload_n 3, 1) := by decide +kernel
theorem dX10_product_47 : decode cX10_product 47 = .ok (.invokevirtual 391, 3) := by decide +kernel
theorem dX10_product_50 : decode cX10_product 50 = .ok (.ifCond .eq 6, 3) := by decide +kernel
theorem dX10_product_53 : decode cX10_product 53 = .ok (.bipush (-2), 2) := by decide +kernel
theorem dX10_product_55 : decode cX10_product 55 = .ok (.ireturn, 1) := by decide +kernel
theorem dX10_product_56 : decode cX10_product 56 = .ok (.iconst 0, 1) := by decide +kernel
theorem dX10_product_57 : decode cX10_product 57 = .ok (.istore 4, 2) := by decide +kernel
theorem dX10_product_59 : decode cX10_product 59 = .ok (.iconst 0, 1) := by decide +kernel
theorem dX10_product_60 : decode cX10_product 60 = .ok (.istore 5, 2) := by decide +kernel
theorem dX10_product_62 : decode cX10_product 62 = .ok (.iload 5, 2) := by decide +kernel
theorem dX10_product_64 : decode cX10_product 64 = .ok (.aload_n 0, 1) := by decide +kernel
theorem dX10_product_65 : decode cX10_product 65 = .ok (.getfield 16, 3) := by decide +kernel
theorem dX10_product_68 : decode cX10_product 68 = .ok (.iload_n 1, 1) := by decide +kernel
theorem dX10_product_69 : decode cX10_product 69 = .ok (.iaload, 1) := by decide +kernel
theorem dX10_product_70 : decode cX10_product 70 = .ok (.if_icmp .ge 129, 3) := by decide +kernel
theorem dX10_product_73 : decode cX10_product 73 = .ok (.iconst 0, 1) := by decide +kernel
theorem dX10_product_74 : decode cX10_product 74 = .ok (.istore 6, 2) := by decide +kernel
theorem dX10_product_76 : decode cX10_product 76 = .ok (.iconst 0, 1) := by decide +kernel
theorem dX10_product_77 : decode cX10_product 77 = .ok (.istore 7, 2) := by decide +kernel
theorem dX10_product_79 : decode cX10_product 79 = .ok (.iconst 0, 1) := by decide +kernel
theorem dX10_product_80 : decode cX10_product 80 = .ok (.istore 8, 2) := by decide +kernel
theorem dX10_product_82 : decode cX10_product 82 = .ok (.iload 8, 2) := by decide +kernel
theorem dX10_product_84 : decode cX10_product 84 = .ok (.aload_n 0, 1) := by decide +kernel
theorem dX10_product_85 : decode cX10_product 85 = .ok (.getfield 25, 3) := by decide +kernel
theorem dX10_product_88 : decode cX10_product 88 = .ok (.bipush 32, 2) := by decide +kernel
theorem dX10_product_90 : decode cX10_product 90 = .ok (.iload_n 1, 1) := by decide +kernel
theorem dX10_product_91 : decode cX10_product 91 = .ok (.imul, 1) := by decide +kernel
theorem dX10_product_92 : decode cX10_product 92 = .ok (.iload 5, 2) := by decide +kernel
theorem dX10_product_94 : decode cX10_product 94 = .ok (.iadd, 1) := by decide +kernel
theorem dX10_product_95 : decode cX10_product 95 = .ok (.iaload, 1) := by decide +kernel
theorem dX10_product_96 : decode cX10_product 96 = .ok (.if_icmp .ge 85, 3) := by decide +kernel
theorem dX10_product_99 : decode cX10_product 99 = .ok (.aload_n 0, 1) := by decide +kernel
theorem dX10_product_100 : decode cX10_product 100 = .ok (.iload_n 1, 1) := by decide +kernel
theorem dX10_product_101 : decode cX10_product 101 = .ok (.iload 5, 2) := by decide +kernel
theorem dX10_product_103 : decode cX10_product 103 = .ok (.iload 8, 2) := by decide +kernel
theorem dX10_product_105 : decode cX10_product 105 = .ok (.invokevirtual 221, 3) := by decide +kernel
theorem dX10_product_108 : decode cX10_product 108 = .ok (.istore 9, 2) := by decide +kernel
theorem dX10_product_110 : decode cX10_product 110 = .ok (.iload_n 2, 1) := by decide +kernel
theorem dX10_product_111 : decode cX10_product 111 = .ok (.iload 9, 2) := by decide +kernel
theorem dX10_product_113 : decode cX10_product 113 = .ok (.invokestatic 385, 3) := by decide +kernel
theorem dX10_product_116 : decode cX10_product 116 = .ok (.ishr, 1) := by decide +kernel
theorem dX10_product_117 : decode cX10_product 117 = .ok (.iconst 1, 1) := by decide +kernel
theorem dX10_product_118 : decode cX10_product 118 = .ok (.iand, 1) := by decide +kernel
theorem dX10_product_119 : decode cX10_product 119 = .ok (.istore 10, 2) := by decide +kernel
theorem dX10_product_121 : decode cX10_product 121 = .ok (.iload_n 3, 1) := by decide +kernel
theorem dX10_product_122 : decode cX10_product 122 = .ok (.iload 9, 2) := by decide +kernel
theorem dX10_product_124 : decode cX10_product 124 = .ok (.invokestatic 385, 3) := by decide +kernel
theorem dX10_product_127 : decode cX10_product 127 = .ok (.ishr, 1) := by decide +kernel
theorem dX10_product_128 : decode cX10_product 128 = .ok (.iconst 1, 1) := by decide +kernel
theorem dX10_product_129 : decode cX10_product 129 = .ok (.iand, 1) := by decide +kernel
theorem dX10_product_130 : decode cX10_product 130 = .ok (.istore 11, 2) := by decide +kernel
theorem dX10_product_132 : decode cX10_product 132 = .ok (.iload 6, 2) := by decide +kernel
theorem dX10_product_134 : decode cX10_product 134 = .ok (.iload 11, 2) := by decide +kernel
theorem dX10_product_136 : decode cX10_product 136 = .ok (.iconst 1, 1) := by decide +kernel
theorem dX10_product_137 : decode cX10_product 137 = .ok (.if_icmp .ne 8, 3) := by decide +kernel
theorem dX10_product_140 : decode cX10_product 140 = .ok (.iload 7, 2) := by decide +kernel
theorem dX10_product_142 : decode cX10_product 142 = .ok (.goto 4, 3) := by decide +kernel
theorem dX10_product_145 : decode cX10_product 145 = .ok (.iconst 0, 1) := by decide +kernel
theorem dX10_product_146 : decode cX10_product 146 = .ok (.iadd, 1) := by decide +kernel
theorem dX10_product_147 : decode cX10_product 147 = .ok (.istore 6, 2) := by decide +kernel
theorem dX10_product_149 : decode cX10_product 149 = .ok (.iload 6, 2) := by decide +kernel
theorem dX10_product_151 : decode cX10_product 151 = .ok (.iload 9, 2) := by decide +kernel
theorem dX10_product_153 : decode cX10_product 153 = .ok (.ifCond .ge 11, 3) := by decide +kernel
theorem dX10_product_156 : decode cX10_product 156 = .ok (.iload 10, 2) := by decide +kernel
theorem dX10_product_158 : decode cX10_product 158 = .ok (.iload 11, 2) := by decide +kernel
theorem dX10_product_160 : decode cX10_product 160 = .ok (.imul, 1) := by decide +kernel
theorem dX10_product_161 : decode cX10_product 161 = .ok (.goto 4, 3) := by decide +kernel
theorem dX10_product_164 : decode cX10_product 164 = .ok (.iconst 0, 1) := by decide +kernel
theorem dX10_product_165 : decode cX10_product 165 = .ok (.iadd, 1) := by decide +kernel
theorem dX10_product_166 : decode cX10_product 166 = .ok (.istore 6, 2) := by decide +kernel
theorem dX10_product_168 : decode cX10_product 168 = .ok (.iload 7, 2) := by decide +kernel
theorem dX10_product_170 : decode cX10_product 170 = .ok (.iload 10, 2) := by decide +kernel
theorem dX10_product_172 : decode cX10_product 172 = .ok (.iadd, 1) := by decide +kernel
theorem dX10_product_173 : decode cX10_product 173 = .ok (.istore 7, 2) := by decide +kernel
theorem dX10_product_175 : decode cX10_product 175 = .ok (.iinc 8 1, 3) := by decide +kernel
theorem dX10_product_178 : decode cX10_product 178 = .ok (.goto (-96), 3) := by decide +kernel
theorem dX10_product_181 : decode cX10_product 181 = .ok (.iload 4, 2) := by decide +kernel
theorem dX10_product_183 : decode cX10_product 183 = .ok (.iload 6, 2) := by decide +kernel
theorem dX10_product_185 : decode cX10_product 185 = .ok (.iconst 2, 1) := by decide +kernel
theorem dX10_product_186 : decode cX10_product 186 = .ok (.irem, 1) := by decide +kernel
theorem dX10_product_187 : decode cX10_product 187 = .ok (.iload 5, 2) := by decide +kernel
theorem dX10_product_189 : decode cX10_product 189 = .ok (.ishl, 1) := by decide +kernel
theorem dX10_product_190 : decode cX10_product 190 = .ok (.ior, 1) := by decide +kernel
theorem dX10_product_191 : decode cX10_product 191 = .ok (.istore 4, 2) := by decide +kernel
theorem dX10_product_193 : decode cX10_product 193 = .ok (.iinc 5 1, 3) := by decide +kernel
theorem dX10_product_196 : decode cX10_product 196 = .ok (.goto (-134), 3) := by decide +kernel
theorem dX10_product_199 : decode cX10_product 199 = .ok (.iload 4, 2) := by decide +kernel
theorem dX10_product_201 : decode cX10_product 201 = .ok (.ireturn, 1) := by decide +kernel
theorem dX10_nought_0 : decode cX10_nought 0 = .ok (.iload_n 1, 1) := by decide +kernel
theorem dX10_nought_1 : decode cX10_nought 1 = .ok (.invokestatic 137, 3) := by decide +kernel
theorem dX10_nought_4 : decode cX10_nought 4 = .ok (.ifCond .eq 16, 3) := by decide +kernel
theorem dX10_nought_7 : decode cX10_nought 7 = .ok (.iload_n 2, 1) := by decide +kernel
theorem dX10_nought_8 : decode cX10_nought 8 = .ok (.aload_n 0, 1) := by decide +kernel
theorem dX10_nought_9 : decode cX10_nought 9 = .ok (.getfield 16, 3) := by decide +kernel
theorem dX10_nought_12 : decode cX10_nought 12 = .ok (.iload_n 1, 1) := by decide +kernel
theorem dX10_nought_13 : decode cX10_nought 13 = .ok (.iaload, 1) := by decide +kernel
theorem dX10_nought_14 : decode cX10_nought 14 = .ok (.invokestatic 388, 3) := by decide +kernel
theorem dX10_nought_17 : decode cX10_nought 17 = .ok (.ifCond .ne 5, 3) := by decide +kernel
theorem dX10_nought_20 : decode cX10_nought 20 = .ok (.iconst (-1), 1) := by decide +kernel
theorem dX10_nought_21 : decode cX10_nought 21 = .ok (.ireturn, 1) := by decide +kernel
theorem dX10_nought_22 : decode cX10_nought 22 = .ok (.iconst 0, 1) := by decide +kernel
theorem dX10_nought_23 : decode cX10_nought 23 = .ok (.istore_n 3, 1) := by decide +kernel
theorem dX10_nought_24 : decode cX10_nought 24 = .ok (.iload_n 3, 1) := by decide +kernel
theorem dX10_nought_25 : decode cX10_nought 25 = .ok (.iconst 1, 1) := by decide +kernel
theorem dX10_nought_26 : decode cX10_nought 26 = .ok (.aload_n 0, 1) := by decide +kernel
theorem dX10_nought_27 : decode cX10_nought 27 = .ok (.getfield 13, 3) := by decide +kernel
theorem dX10_nought_30 : decode cX10_nought 30 = .ok (.iload_n 1, 1) := by decide +kernel
theorem dX10_nought_31 : decode cX10_nought 31 = .ok (.iaload, 1) := by decide +kernel
theorem dX10_nought_32 : decode cX10_nought 32 = .ok (.ishl, 1) := by decide +kernel
theorem dX10_nought_33 : decode cX10_nought 33 = .ok (.if_icmp .ge 21, 3) := by decide +kernel
theorem dX10_nought_36 : decode cX10_nought 36 = .ok (.aload_n 0, 1) := by decide +kernel
theorem dX10_nought_37 : decode cX10_nought 37 = .ok (.iload_n 1, 1) := by decide +kernel
theorem dX10_nought_38 : decode cX10_nought 38 = .ok (.iload_n 3, 1) := by decide +kernel
theorem dX10_nought_39 : decode cX10_nought 39 = .ok (.invokevirtual 391, 3) := by decide +kernel
theorem dX10_nought_42 : decode cX10_nought 42 = .ok (.iload_n 2, 1) := by decide +kernel
theorem dX10_nought_43 : decode cX10_nought 43 = .ok (.if_icmp .ne 5, 3) := by decide +kernel
theorem dX10_nought_46 : decode cX10_nought 46 = .ok (.iconst 1, 1) := by decide +kernel
theorem dX10_nought_47 : decode cX10_nought 47 = .ok (.ireturn, 1) := by decide +kernel
theorem dX10_nought_48 : decode cX10_nought 48 = .ok (.iinc 3 1, 3) := by decide +kernel
theorem dX10_nought_51 : decode cX10_nought 51 = .ok (.goto (-27), 3) := by decide +kernel
theorem dX10_nought_54 : decode cX10_nought 54 = .ok (.iconst 0, 1) := by decide +kernel
theorem dX10_nought_55 : decode cX10_nought 55 = .ok (.ireturn, 1) := by decide +kernel
theorem dX10_lonely_0 : decode cX10_lonely 0 = .ok (.iconst 0, 1) := by decide +kernel
theorem dX10_lonely_1 : decode cX10_lonely 1 = .ok (.istore_n 2, 1) := by decide +kernel
theorem dX10_lonely_2 : decode cX10_lonely 2 = .ok (.iload_n 2, 1) := by decide +kernel
theorem dX10_lonely_3 : decode cX10_lonely 3 = .ok (.aload_n 0, 1) := by decide +kernel
theorem dX10_lonely_4 : decode cX10_lonely 4 = .ok (.getfield 13, 3) := by decide +kernel
theorem dX10_lonely_7 : decode cX10_lonely 7 = .ok (.iload_n 1, 1) := by decide +kernel
theorem dX10_lonely_8 : decode cX10_lonely 8 = .ok (.iaload, 1) := by decide +kernel
theorem dX10_lonely_9 : decode cX10_lonely 9 = .ok (.if_icmp .ge 88, 3) := by decide +kernel
theorem dX10_lonely_12 : decode cX10_lonely 12 = .ok (.iconst 0, 1) := by decide +kernel
theorem dX10_lonely_13 : decode cX10_lonely 13 = .ok (.istore_n 3, 1) := by decide +kernel
theorem dX10_lonely_14 : decode cX10_lonely 14 = .ok (.iconst 0, 1) := by decide +kernel
theorem dX10_lonely_15 : decode cX10_lonely 15 = .ok (.istore 4, 2) := by decide +kernel
theorem dX10_lonely_17 : decode cX10_lonely 17 = .ok (.iload 4, 2) := by decide +kernel
theorem dX10_lonely_19 : decode cX10_lonely 19 = .ok (.aload_n 0, 1) := by decide +kernel
theorem dX10_lonely_20 : decode cX10_lonely 20 = .ok (.getfield 16, 3) := by decide +kernel
theorem dX10_lonely_23 : decode cX10_lonely 23 = .ok (.iload_n 1, 1) := by decide +kernel
theorem dX10_lonely_24 : decode cX10_lonely 24 = .ok (.iaload, 1) := by decide +kernel
theorem dX10_lonely_25 : decode cX10_lonely 25 = .ok (.if_icmp .ge 59, 3) := by decide +kernel
theorem dX10_lonely_28 : decode cX10_lonely 28 = .ok (.iconst 0, 1) := by decide +kernel
theorem dX10_lonely_29 : decode cX10_lonely 29 = .ok (.istore 5, 2) := by decide +kernel
theorem dX10_lonely_31 : decode cX10_lonely 31 = .ok (.iload 5, 2) := by decide +kernel
theorem dX10_lonely_33 : decode cX10_lonely 33 = .ok (.aload_n 0, 1) := by decide +kernel
theorem dX10_lonely_34 : decode cX10_lonely 34 = .ok (.getfield 25, 3) := by decide +kernel
theorem dX10_lonely_37 : decode cX10_lonely 37 = .ok (.bipush 32, 2) := by decide +kernel
theorem dX10_lonely_39 : decode cX10_lonely 39 = .ok (.iload_n 1, 1) := by decide +kernel
theorem dX10_lonely_40 : decode cX10_lonely 40 = .ok (.imul, 1) := by decide +kernel
theorem dX10_lonely_41 : decode cX10_lonely 41 = .ok (.iload 4, 2) := by decide +kernel
theorem dX10_lonely_43 : decode cX10_lonely 43 = .ok (.iadd, 1) := by decide +kernel
theorem dX10_lonely_44 : decode cX10_lonely 44 = .ok (.iaload, 1) := by decide +kernel
theorem dX10_lonely_45 : decode cX10_lonely 45 = .ok (.if_icmp .ge 33, 3) := by decide +kernel
theorem dX10_lonely_48 : decode cX10_lonely 48 = .ok (.iload_n 3, 1) := by decide +kernel
theorem dX10_lonely_49 : decode cX10_lonely 49 = .ok (.aload_n 0, 1) := by decide +kernel
theorem dX10_lonely_50 : decode cX10_lonely 50 = .ok (.iload_n 1, 1) := by decide +kernel
theorem dX10_lonely_51 : decode cX10_lonely 51 = .ok (.iload 4, 2) := by decide +kernel
theorem dX10_lonely_53 : decode cX10_lonely 53 = .ok (.iload 5, 2) := by decide +kernel
theorem dX10_lonely_55 : decode cX10_lonely 55 = .ok (.invokevirtual 221, 3) := by decide +kernel
theorem dX10_lonely_58 : decode cX10_lonely 58 = .ok (.invokestatic 385, 3) := by decide +kernel
theorem dX10_lonely_61 : decode cX10_lonely 61 = .ok (.iload_n 2, 1) := by decide +kernel
theorem dX10_lonely_62 : decode cX10_lonely 62 = .ok (.if_icmp .ne 7, 3) := by decide +kernel
theorem dX10_lonely_65 : decode cX10_lonely 65 = .ok (.iconst 1, 1) := by decide +kernel
theorem dX10_lonely_66 : decode cX10_lonely 66 = .ok (.goto 4, 3) := by decide +kernel
theorem dX10_lonely_69 : decode cX10_lonely 69 = .ok (.iconst 0, 1) := by decide +kernel
theorem dX10_lonely_70 : decode cX10_lonely 70 = .ok (.iadd, 1) := by decide +kernel
theorem dX10_lonely_71 : decode cX10_lonely 71 = .ok (.istore_n 3, 1) := by decide +kernel
theorem dX10_lonely_72 : decode cX10_lonely 72 = .ok (.iinc 5 1, 3) := by decide +kernel
theorem dX10_lonely_75 : decode cX10_lonely 75 = .ok (.goto (-44), 3) := by decide +kernel
theorem dX10_lonely_78 : decode cX10_lonely 78 = .ok (.iinc 4 1, 3) := by decide +kernel
theorem dX10_lonely_81 : decode cX10_lonely 81 = .ok (.goto (-64), 3) := by decide +kernel
theorem dX10_lonely_84 : decode cX10_lonely 84 = .ok (.iload_n 3, 1) := by decide +kernel
theorem dX10_lonely_85 : decode cX10_lonely 85 = .ok (.iconst 1, 1) := by decide +kernel
theorem dX10_lonely_86 : decode cX10_lonely 86 = .ok (.if_icmp .ne 5, 3) := by decide +kernel
theorem dX10_lonely_89 : decode cX10_lonely 89 = .ok (.iload_n 2, 1) := by decide +kernel
theorem dX10_lonely_90 : decode cX10_lonely 90 = .ok (.ireturn, 1) := by decide +kernel
theorem dX10_lonely_91 : decode cX10_lonely 91 = .ok (.iinc 2 1, 3) := by decide +kernel
theorem dX10_lonely_94 : decode cX10_lonely 94 = .ok (.goto (-92), 3) := by decide +kernel
theorem dX10_lonely_97 : decode cX10_lonely 97 = .ok (.bipush (-4), 2) := by decide +kernel
theorem dX10_lonely_99 : decode cX10_lonely 99 = .ok (.ireturn, 1) := by decide +kernel
theorem dX10_foldOne_0 : decode cX10_foldOne 0 = .ok (.iconst 0, 1) := by decide +kernel
theorem dX10_foldOne_1 : decode cX10_foldOne 1 = .ok (.istore_n 3, 1) := by decide +kernel
theorem dX10_foldOne_2 : decode cX10_foldOne 2 = .ok (.iconst 0, 1) := by decide +kernel
theorem dX10_foldOne_3 : decode cX10_foldOne 3 = .ok (.istore 4, 2) := by decide +kernel
theorem dX10_foldOne_5 : decode cX10_foldOne 5 = .ok (.iload 4, 2) := by decide +kernel
theorem dX10_foldOne_7 : decode cX10_foldOne 7 = .ok (.aload_n 0, 1) := by decide +kernel
theorem dX10_foldOne_8 : decode cX10_foldOne 8 = .ok (.getfield 16, 3) := by decide +kernel
theorem dX10_foldOne_11 : decode cX10_foldOne 11 = .ok (.iload_n 1, 1) := by decide +kernel
theorem dX10_foldOne_12 : decode cX10_foldOne 12 = .ok (.iaload, 1) := by decide +kernel
theorem dX10_foldOne_13 : decode cX10_foldOne 13 = .ok (.if_icmp .ge 185, 3) := by decide +kernel
theorem dX10_foldOne_16 : decode cX10_foldOne 16 = .ok (.iconst 0, 1) := by decide +kernel
theorem dX10_foldOne_17 : decode cX10_foldOne 17 = .ok (.istore 5, 2) := by decide +kernel
theorem dX10_foldOne_19 : decode cX10_foldOne 19 = .ok (.iconst 0, 1) := by decide +kernel
theorem dX10_foldOne_20 : decode cX10_foldOne 20 = .ok (.istore 6, 2) := by decide +kernel
theorem dX10_foldOne_22 : decode cX10_foldOne 22 = .ok (.iload 6, 2) := by decide +kernel
theorem dX10_foldOne_24 : decode cX10_foldOne 24 = .ok (.aload_n 0, 1) := by decide +kernel
theorem dX10_foldOne_25 : decode cX10_foldOne 25 = .ok (.getfield 25, 3) := by decide +kernel
theorem dX10_foldOne_28 : decode cX10_foldOne 28 = .ok (.bipush 32, 2) := by decide +kernel
theorem dX10_foldOne_30 : decode cX10_foldOne 30 = .ok (.iload_n 1, 1) := by decide +kernel
theorem dX10_foldOne_31 : decode cX10_foldOne 31 = .ok (.imul, 1) := by decide +kernel
theorem dX10_foldOne_32 : decode cX10_foldOne 32 = .ok (.iload 4, 2) := by decide +kernel
theorem dX10_foldOne_34 : decode cX10_foldOne 34 = .ok (.iadd, 1) := by decide +kernel
theorem dX10_foldOne_35 : decode cX10_foldOne 35 = .ok (.iaload, 1) := by decide +kernel
theorem dX10_foldOne_36 : decode cX10_foldOne 36 = .ok (.if_icmp .ge 37, 3) := by decide +kernel
theorem dX10_foldOne_39 : decode cX10_foldOne 39 = .ok (.iload 5, 2) := by decide +kernel
theorem dX10_foldOne_41 : decode cX10_foldOne 41 = .ok (.ifCond .ne 19, 3) := by decide +kernel
theorem dX10_foldOne_44 : decode cX10_foldOne 44 = .ok (.aload_n 0, 1) := by decide +kernel
theorem dX10_foldOne_45 : decode cX10_foldOne 45 = .ok (.iload_n 1, 1) := by decide +kernel
theorem dX10_foldOne_46 : decode cX10_foldOne 46 = .ok (.iload 4, 2) := by decide +kernel
theorem dX10_foldOne_48 : decode cX10_foldOne 48 = .ok (.iload 6, 2) := by decide +kernel
theorem dX10_foldOne_50 : decode cX10_foldOne 50 = .ok (.invokevirtual 221, 3) := by decide +kernel
theorem dX10_foldOne_53 : decode cX10_foldOne 53 = .ok (.invokestatic 385, 3) := by decide +kernel
theorem dX10_foldOne_56 : decode cX10_foldOne 56 = .ok (.iload_n 2, 1) := by decide +kernel
theorem dX10_foldOne_57 : decode cX10_foldOne 57 = .ok (.if_icmp .ne 7, 3) := by decide +kernel
theorem dX10_foldOne_60 : decode cX10_foldOne 60 = .ok (.iconst 1, 1) := by decide +kernel
theorem dX10_foldOne_61 : decode cX10_foldOne 61 = .ok (.goto 4, 3) := by decide +kernel
theorem dX10_foldOne_64 : decode cX10_foldOne 64 = .ok (.iconst 0, 1) := by decide +kernel
theorem dX10_foldOne_65 : decode cX10_foldOne 65 = .ok (.istore 5, 2) := by decide +kernel
theorem dX10_foldOne_67 : decode cX10_foldOne 67 = .ok (.iinc 6 1, 3) := by decide +kernel
theorem dX10_foldOne_70 : decode cX10_foldOne 70 = .ok (.goto (-48), 3) := by decide +kernel
theorem dX10_foldOne_73 : decode cX10_foldOne 73 = .ok (.iload 5, 2) := by decide +kernel
theorem dX10_foldOne_75 : decode cX10_foldOne 75 = .ok (.ifCond .ne 117, 3) := by decide +kernel
theorem dX10_foldOne_78 : decode cX10_foldOne 78 = .ok (.aload_n 0, 1) := by decide +kernel
theorem dX10_foldOne_79 : decode cX10_foldOne 79 = .ok (.getfield 25, 3) := by decide +kernel
theorem dX10_foldOne_82 : decode cX10_foldOne 82 = .ok (.bipush 32, 2) := by decide +kernel
theorem dX10_foldOne_84 : decode cX10_foldOne 84 = .ok (.iload_n 1, 1) := by decide +kernel
theorem dX10_foldOne_85 : decode cX10_foldOne 85 = .ok (.imul, 1) := by decide +kernel
theorem dX10_foldOne_86 : decode cX10_foldOne 86 = .ok (.iload_n 3, 1) := by decide +kernel
theorem dX10_foldOne_87 : decode cX10_foldOne 87 = .ok (.iadd, 1) := by decide +kernel
theorem dX10_foldOne_88 : decode cX10_foldOne 88 = .ok (.aload_n 0, 1) := by decide +kernel
theorem dX10_foldOne_89 : decode cX10_foldOne 89 = .ok (.getfield 25, 3) := by decide +kernel
theorem dX10_foldOne_92 : decode cX10_foldOne 92 = .ok (.bipush 32, 2) := by decide +kernel
theorem dX10_foldOne_94 : decode cX10_foldOne 94 = .ok (.iload_n 1, 1) := by decide +kernel
theorem dX10_foldOne_95 : decode cX10_foldOne 95 = .ok (.imul, 1) := by decide +kernel
theorem dX10_foldOne_96 : decode cX10_foldOne 96 = .ok (.iload 4, 2) := by decide +kernel
theorem dX10_foldOne_98 : decode cX10_foldOne 98 = .ok (.iadd, 1) := by decide +kernel
theorem dX10_foldOne_99 : decode cX10_foldOne 99 = .ok (.iaload, 1) := by decide +kernel
theorem dX10_foldOne_100 : decode cX10_foldOne 100 = .ok (.iastore, 1) := by decide +kernel
theorem dX10_foldOne_101 : decode cX10_foldOne 101 = .ok (.iconst 0, 1) := by decide +kernel
theorem dX10_foldOne_102 : decode cX10_foldOne 102 = .ok (.istore 6, 2) := by decide +kernel
theorem dX10_foldOne_104 : decode cX10_foldOne 104 = .ok (.iload 6, 2) := by decide +kernel
theorem dX10_foldOne_106 : decode cX10_foldOne 106 = .ok (.aload_n 0, 1) := by decide +kernel
theorem dX10_foldOne_107 : decode cX10_foldOne 107 = .ok (.getfield 25, 3) := by decide +kernel
theorem dX10_foldOne_110 : decode cX10_foldOne 110 = .ok (.bipush 32, 2) := by decide +kernel
theorem dX10_foldOne_112 : decode cX10_foldOne 112 = .ok (.iload_n 1, 1) := by decide +kernel
theorem dX10_foldOne_113 : decode cX10_foldOne 113 = .ok (.imul, 1) := by decide +kernel
theorem dX10_foldOne_114 : decode cX10_foldOne 114 = .ok (.iload 4, 2) := by decide +kernel
theorem dX10_foldOne_116 : decode cX10_foldOne 116 = .ok (.iadd, 1) := by decide +kernel
theorem dX10_foldOne_117 : decode cX10_foldOne 117 = .ok (.iaload, 1) := by decide +kernel
theorem dX10_foldOne_118 : decode cX10_foldOne 118 = .ok (.if_icmp .ge 71, 3) := by decide +kernel
theorem dX10_foldOne_121 : decode cX10_foldOne 121 = .ok (.aload_n 0, 1) := by decide +kernel
theorem dX10_foldOne_122 : decode cX10_foldOne 122 = .ok (.iload_n 1, 1) := by decide +kernel
theorem dX10_foldOne_123 : decode cX10_foldOne 123 = .ok (.iload 4, 2) := by decide +kernel
theorem dX10_foldOne_125 : decode cX10_foldOne 125 = .ok (.iload 6, 2) := by decide +kernel
theorem dX10_foldOne_127 : decode cX10_foldOne 127 = .ok (.invokevirtual 221, 3) := by decide +kernel
theorem dX10_foldOne_130 : decode cX10_foldOne 130 = .ok (.istore 7, 2) := by decide +kernel
theorem dX10_foldOne_132 : decode cX10_foldOne 132 = .ok (.iload 7, 2) := by decide +kernel
theorem dX10_foldOne_134 : decode cX10_foldOne 134 = .ok (.invokestatic 385, 3) := by decide +kernel
theorem dX10_foldOne_137 : decode cX10_foldOne 137 = .ok (.iload_n 2, 1) := by decide +kernel
theorem dX10_foldOne_138 : decode cX10_foldOne 138 = .ok (.if_icmp .le 7, 3) := by decide +kernel
theorem dX10_foldOne_141 : decode cX10_foldOne 141 = .ok (.iconst 1, 1) := by decide +kernel
theorem dX10_foldOne_142 : decode cX10_foldOne 142 = .ok (.goto 4, 3) := by decide +kernel
theorem dX10_foldOne_145 : decode cX10_foldOne 145 = .ok (.iconst 0, 1) := by decide +kernel
theorem dX10_foldOne_146 : decode cX10_foldOne 146 = .ok (.istore 8, 2) := by decide +kernel
theorem dX10_foldOne_148 : decode cX10_foldOne 148 = .ok (.aload_n 0, 1) := by decide +kernel
theorem dX10_foldOne_149 : decode cX10_foldOne 149 = .ok (.getfield 28, 3) := by decide +kernel
theorem dX10_foldOne_152 : decode cX10_foldOne 152 = .ok (.bipush 8, 2) := by decide +kernel
theorem dX10_foldOne_154 : decode cX10_foldOne 154 = .ok (.bipush 32, 2) := by decide +kernel
theorem dX10_foldOne_156 : decode cX10_foldOne 156 = .ok (.iload_n 1, 1) := by decide +kernel
theorem dX10_foldOne_157 : decode cX10_foldOne 157 = .ok (.imul, 1) := by decide +kernel
theorem dX10_foldOne_158 : decode cX10_foldOne 158 = .ok (.iload_n 3, 1) := by decide +kernel
theorem dX10_foldOne_159 : decode cX10_foldOne 159 = .ok (.iadd, 1) := by decide +kernel
theorem dX10_foldOne_160 : decode cX10_foldOne 160 = .ok (.imul, 1) := by decide +kernel
theorem dX10_foldOne_161 : decode cX10_foldOne 161 = .ok (.iload 6, 2) := by decide +kernel
theorem dX10_foldOne_163 : decode cX10_foldOne 163 = .ok (.iadd, 1) := by decide +kernel
theorem dX10_foldOne_164 : decode cX10_foldOne 164 = .ok (.iload 7, 2) := by decide +kernel
theorem dX10_foldOne_166 : decode cX10_foldOne 166 = .ok (.ifCond .le 11, 3) := by decide +kernel
theorem dX10_foldOne_169 : decode cX10_foldOne 169 = .ok (.iload 7, 2) := by decide +kernel
theorem dX10_foldOne_171 : decode cX10_foldOne 171 = .ok (.iload 8, 2) := by decide +kernel
theorem dX10_foldOne_173 : decode cX10_foldOne 173 = .ok (.isub, 1) := by decide +kernel
theorem dX10_foldOne_174 : decode cX10_foldOne 174 = .ok (.goto 8, 3) := by decide +kernel
theorem dX10_foldOne_177 : decode cX10_foldOne 177 = .ok (.iload 7, 2) := by decide +kernel
theorem dX10_foldOne_179 : decode cX10_foldOne 179 = .ok (.iload 8, 2) := by decide +kernel
theorem dX10_foldOne_181 : decode cX10_foldOne 181 = .ok (.iadd, 1) := by decide +kernel
theorem dX10_foldOne_182 : decode cX10_foldOne 182 = .ok (.iastore, 1) := by decide +kernel
theorem dX10_foldOne_183 : decode cX10_foldOne 183 = .ok (.iinc 6 1, 3) := by decide +kernel
theorem dX10_foldOne_186 : decode cX10_foldOne 186 = .ok (.goto (-82), 3) := by decide +kernel
theorem dX10_foldOne_189 : decode cX10_foldOne 189 = .ok (.iinc 3 1, 3) := by decide +kernel
theorem dX10_foldOne_192 : decode cX10_foldOne 192 = .ok (.iinc 4 1, 3) := by decide +kernel
theorem dX10_foldOne_195 : decode cX10_foldOne 195 = .ok (.goto (-190), 3) := by decide +kernel
theorem dX10_foldOne_198 : decode cX10_foldOne 198 = .ok (.aload_n 0, 1) := by decide +kernel
theorem dX10_foldOne_199 : decode cX10_foldOne 199 = .ok (.getfield 16, 3) := by decide +kernel
theorem dX10_foldOne_202 : decode cX10_foldOne 202 = .ok (.iload_n 1, 1) := by decide +kernel
theorem dX10_foldOne_203 : decode cX10_foldOne 203 = .ok (.iload_n 3, 1) := by decide +kernel
theorem dX10_foldOne_204 : decode cX10_foldOne 204 = .ok (.iastore, 1) := by decide +kernel
theorem dX10_foldOne_205 : decode cX10_foldOne 205 = .ok (.iload_n 2, 1) := by decide +kernel
theorem dX10_foldOne_206 : decode cX10_foldOne 206 = .ok (.istore 4, 2) := by decide +kernel
theorem dX10_foldOne_208 : decode cX10_foldOne 208 = .ok (.iload 4, 2) := by decide +kernel
theorem dX10_foldOne_210 : decode cX10_foldOne 210 = .ok (.iconst 1, 1) := by decide +kernel
theorem dX10_foldOne_211 : decode cX10_foldOne 211 = .ok (.iadd, 1) := by decide +kernel
theorem dX10_foldOne_212 : decode cX10_foldOne 212 = .ok (.aload_n 0, 1) := by decide +kernel
theorem dX10_foldOne_213 : decode cX10_foldOne 213 = .ok (.getfield 13, 3) := by decide +kernel
theorem dX10_foldOne_216 : decode cX10_foldOne 216 = .ok (.iload_n 1, 1) := by decide +kernel
theorem dX10_foldOne_217 : decode cX10_foldOne 217 = .ok (.iaload, 1) := by decide +kernel
theorem dX10_foldOne_218 : decode cX10_foldOne 218 = .ok (.if_icmp .ge 61, 3) := by decide +kernel
theorem dX10_foldOne_221 : decode cX10_foldOne 221 = .ok (.aload_n 0, 1) := by decide +kernel
theorem dX10_foldOne_222 : decode cX10_foldOne 222 = .ok (.getfield 19, 3) := by decide +kernel
theorem dX10_foldOne_225 : decode cX10_foldOne 225 = .ok (.bipush 48, 2) := by decide +kernel
theorem dX10_foldOne_227 : decode cX10_foldOne 227 = .ok (.iload_n 1, 1) := by decide +kernel
theorem dX10_foldOne_228 : decode cX10_foldOne 228 = .ok (.imul, 1) := by decide +kernel
theorem dX10_foldOne_229 : decode cX10_foldOne 229 = .ok (.iload 4, 2) := by decide +kernel
theorem dX10_foldOne_231 : decode cX10_foldOne 231 = .ok (.iadd, 1) := by decide +kernel
theorem dX10_foldOne_232 : decode cX10_foldOne 232 = .ok (.aload_n 0, 1) := by decide +kernel
theorem dX10_foldOne_233 : decode cX10_foldOne 233 = .ok (.getfield 19, 3) := by decide +kernel
theorem dX10_foldOne_236 : decode cX10_foldOne 236 = .ok (.bipush 48, 2) := by decide +kernel
theorem dX10_foldOne_238 : decode cX10_foldOne 238 = .ok (.iload_n 1, 1) := by decide +kernel
theorem dX10_foldOne_239 : decode cX10_foldOne 239 = .ok (.imul, 1) := by decide +kernel
theorem dX10_foldOne_240 : decode cX10_foldOne 240 = .ok (.iload 4, 2) := by decide +kernel
theorem dX10_foldOne_242 : decode cX10_foldOne 242 = .ok (.iadd, 1) := by decide +kernel
theorem dX10_foldOne_243 : decode cX10_foldOne 243 = .ok (.iconst 1, 1) := by decide +kernel
theorem dX10_foldOne_244 : decode cX10_foldOne 244 = .ok (.iadd, 1) := by decide +kernel
theorem dX10_foldOne_245 : decode cX10_foldOne 245 = .ok (.iaload, 1) := by decide +kernel
theorem dX10_foldOne_246 : decode cX10_foldOne 246 = .ok (.iastore, 1) := by decide +kernel
theorem dX10_foldOne_247 : decode cX10_foldOne 247 = .ok (.aload_n 0, 1) := by decide +kernel
theorem dX10_foldOne_248 : decode cX10_foldOne 248 = .ok (.getfield 22, 3) := by decide +kernel
theorem dX10_foldOne_251 : decode cX10_foldOne 251 = .ok (.bipush 48, 2) := by decide +kernel
theorem dX10_foldOne_253 : decode cX10_foldOne 253 = .ok (.iload_n 1, 1) := by decide +kernel
theorem dX10_foldOne_254 : decode cX10_foldOne 254 = .ok (.imul, 1) := by decide +kernel
theorem dX10_foldOne_255 : decode cX10_foldOne 255 = .ok (.iload 4, 2) := by decide +kernel
theorem dX10_foldOne_257 : decode cX10_foldOne 257 = .ok (.iadd, 1) := by decide +kernel
theorem dX10_foldOne_258 : decode cX10_foldOne 258 = .ok (.aload_n 0, 1) := by decide +kernel
theorem dX10_foldOne_259 : decode cX10_foldOne 259 = .ok (.getfield 22, 3) := by decide +kernel
theorem dX10_foldOne_262 : decode cX10_foldOne 262 = .ok (.bipush 48, 2) := by decide +kernel
theorem dX10_foldOne_264 : decode cX10_foldOne 264 = .ok (.iload_n 1, 1) := by decide +kernel
theorem dX10_foldOne_265 : decode cX10_foldOne 265 = .ok (.imul, 1) := by decide +kernel
theorem dX10_foldOne_266 : decode cX10_foldOne 266 = .ok (.iload 4, 2) := by decide +kernel
theorem dX10_foldOne_268 : decode cX10_foldOne 268 = .ok (.iadd, 1) := by decide +kernel
theorem dX10_foldOne_269 : decode cX10_foldOne 269 = .ok (.iconst 1, 1) := by decide +kernel
theorem dX10_foldOne_270 : decode cX10_foldOne 270 = .ok (.iadd, 1) := by decide +kernel
theorem dX10_foldOne_271 : decode cX10_foldOne 271 = .ok (.iaload, 1) := by decide +kernel
theorem dX10_foldOne_272 : decode cX10_foldOne 272 = .ok (.iastore, 1) := by decide +kernel
theorem dX10_foldOne_273 : decode cX10_foldOne 273 = .ok (.iinc 4 1, 3) := by decide +kernel
theorem dX10_foldOne_276 : decode cX10_foldOne 276 = .ok (.goto (-68), 3) := by decide +kernel
theorem dX10_foldOne_279 : decode cX10_foldOne 279 = .ok (.aload_n 0, 1) := by decide +kernel
theorem dX10_foldOne_280 : decode cX10_foldOne 280 = .ok (.getfield 13, 3) := by decide +kernel
theorem dX10_foldOne_283 : decode cX10_foldOne 283 = .ok (.iload_n 1, 1) := by decide +kernel
theorem dX10_foldOne_284 : decode cX10_foldOne 284 = .ok (.dup2, 1) := by decide +kernel
theorem dX10_foldOne_285 : decode cX10_foldOne 285 = .ok (.iaload, 1) := by decide +kernel
theorem dX10_foldOne_286 : decode cX10_foldOne 286 = .ok (.iconst 1, 1) := by decide +kernel
theorem dX10_foldOne_287 : decode cX10_foldOne 287 = .ok (.isub, 1) := by decide +kernel
theorem dX10_foldOne_288 : decode cX10_foldOne 288 = .ok (.iastore, 1) := by decide +kernel
theorem dX10_foldOne_289 : decode cX10_foldOne 289 = .ok (.return_, 1) := by decide +kernel
theorem dX10_fold_0 : decode cX10_fold 0 = .ok (.iload_n 1, 1) := by decide +kernel
theorem dX10_fold_1 : decode cX10_fold 1 = .ok (.invokestatic 137, 3) := by decide +kernel
theorem dX10_fold_4 : decode cX10_fold 4 = .ok (.ifCond .ne 5, 3) := by decide +kernel
theorem dX10_fold_7 : decode cX10_fold 7 = .ok (.iconst (-1), 1) := by decide +kernel
theorem dX10_fold_8 : decode cX10_fold 8 = .ok (.ireturn, 1) := by decide +kernel
theorem dX10_fold_9 : decode cX10_fold 9 = .ok (.iconst 0, 1) := by decide +kernel
theorem dX10_fold_10 : decode cX10_fold 10 = .ok (.istore_n 2, 1) := by decide +kernel
theorem dX10_fold_11 : decode cX10_fold 11 = .ok (.aload_n 0, 1) := by decide +kernel
theorem dX10_fold_12 : decode cX10_fold 12 = .ok (.iload_n 1, 1) := by decide +kernel
theorem dX10_fold_13 : decode cX10_fold 13 = .ok (.invokevirtual 394, 3) := by decide +kernel
theorem dX10_fold_16 : decode cX10_fold 16 = .ok (.istore_n 3, 1) := by decide +kernel
theorem dX10_fold_17 : decode cX10_fold 17 = .ok (.iload_n 3, 1) := by decide +kernel
theorem dX10_fold_18 : decode cX10_fold 18 = .ok (.ifCond .lt 21, 3) := by decide +kernel
theorem dX10_fold_21 : decode cX10_fold 21 = .ok (.aload_n 0, 1) := by decide +kernel
theorem dX10_fold_22 : decode cX10_fold 22 = .ok (.iload_n 1, 1) := by decide +kernel
theorem dX10_fold_23 : decode cX10_fold 23 = .ok (.iload_n 3, 1) := by decide +kernel
theorem dX10_fold_24 : decode cX10_fold 24 = .ok (.invokevirtual 397, 3) := by decide +kernel
theorem dX10_fold_27 : decode cX10_fold 27 = .ok (.iinc 2 1, 3) := by decide +kernel
theorem dX10_fold_30 : decode cX10_fold 30 = .ok (.aload_n 0, 1) := by decide +kernel
theorem dX10_fold_31 : decode cX10_fold 31 = .ok (.iload_n 1, 1) := by decide +kernel
theorem dX10_fold_32 : decode cX10_fold 32 = .ok (.invokevirtual 394, 3) := by decide +kernel
theorem dX10_fold_35 : decode cX10_fold 35 = .ok (.istore_n 3, 1) := by decide +kernel
theorem dX10_fold_36 : decode cX10_fold 36 = .ok (.goto (-19), 3) := by decide +kernel
theorem dX10_fold_39 : decode cX10_fold 39 = .ok (.aload_n 0, 1) := by decide +kernel
theorem dX10_fold_40 : decode cX10_fold 40 = .ok (.iload_n 1, 1) := by decide +kernel
theorem dX10_fold_41 : decode cX10_fold 41 = .ok (.invokevirtual 153, 3) := by decide +kernel
theorem dX10_fold_44 : decode cX10_fold 44 = .ok (.iload_n 2, 1) := by decide +kernel
theorem dX10_fold_45 : decode cX10_fold 45 = .ok (.ireturn, 1) := by decide +kernel
theorem dX10_joinedCorner_0 : decode cX10_joinedCorner 0 = .ok (.iload_n 1, 1) := by decide +kernel
theorem dX10_joinedCorner_1 : decode cX10_joinedCorner 1 = .ok (.ifCond .ne 7, 3) := by decide +kernel
theorem dX10_joinedCorner_4 : decode cX10_joinedCorner 4 = .ok (.iconst 0, 1) := by decide +kernel
theorem dX10_joinedCorner_5 : decode cX10_joinedCorner 5 = .ok (.goto 13, 3) := by decide +kernel
theorem dX10_joinedCorner_8 : decode cX10_joinedCorner 8 = .ok (.aload_n 0, 1) := by decide +kernel
theorem dX10_joinedCorner_9 : decode cX10_joinedCorner 9 = .ok (.getfield 7, 3) := by decide +kernel
theorem dX10_joinedCorner_12 : decode cX10_joinedCorner 12 = .ok (.iconst 0, 1) := by decide +kernel
theorem dX10_joinedCorner_13 : decode cX10_joinedCorner 13 = .ok (.iaload, 1) := by decide +kernel
theorem dX10_joinedCorner_14 : decode cX10_joinedCorner 14 = .ok (.iload_n 1, 1) := by decide +kernel
theorem dX10_joinedCorner_15 : decode cX10_joinedCorner 15 = .ok (.iadd, 1) := by decide +kernel
theorem dX10_joinedCorner_16 : decode cX10_joinedCorner 16 = .ok (.iconst 1, 1) := by decide +kernel
theorem dX10_joinedCorner_17 : decode cX10_joinedCorner 17 = .ok (.isub, 1) := by decide +kernel
theorem dX10_joinedCorner_18 : decode cX10_joinedCorner 18 = .ok (.ireturn, 1) := by decide +kernel
theorem dX10_join_0 : decode cX10_join 0 = .ok (.aload_n 0, 1) := by decide +kernel
theorem dX10_join_1 : decode cX10_join 1 = .ok (.getfield 7, 3) := by decide +kernel
theorem dX10_join_4 : decode cX10_join 4 = .ok (.iconst 0, 1) := by decide +kernel
theorem dX10_join_5 : decode cX10_join 5 = .ok (.iaload, 1) := by decide +kernel
theorem dX10_join_6 : decode cX10_join 6 = .ok (.aload_n 0, 1) := by decide +kernel
theorem dX10_join_7 : decode cX10_join 7 = .ok (.getfield 7, 3) := by decide +kernel
theorem dX10_join_10 : decode cX10_join 10 = .ok (.iconst 1, 1) := by decide +kernel
theorem dX10_join_11 : decode cX10_join 11 = .ok (.iaload, 1) := by decide +kernel
theorem dX10_join_12 : decode cX10_join 12 = .ok (.iadd, 1) := by decide +kernel
theorem dX10_join_13 : decode cX10_join 13 = .ok (.iconst 1, 1) := by decide +kernel
theorem dX10_join_14 : decode cX10_join 14 = .ok (.isub, 1) := by decide +kernel
theorem dX10_join_15 : decode cX10_join 15 = .ok (.bipush 8, 2) := by decide +kernel
theorem dX10_join_17 : decode cX10_join 17 = .ok (.if_icmp .gt 39, 3) := by decide +kernel
theorem dX10_join_20 : decode cX10_join 20 = .ok (.aload_n 0, 1) := by decide +kernel
theorem dX10_join_21 : decode cX10_join 21 = .ok (.getfield 13, 3) := by decide +kernel
theorem dX10_join_24 : decode cX10_join 24 = .ok (.iconst 0, 1) := by decide +kernel
theorem dX10_join_25 : decode cX10_join 25 = .ok (.iaload, 1) := by decide +kernel
theorem dX10_join_26 : decode cX10_join 26 = .ok (.aload_n 0, 1) := by decide +kernel
theorem dX10_join_27 : decode cX10_join 27 = .ok (.getfield 13, 3) := by decide +kernel
theorem dX10_join_30 : decode cX10_join 30 = .ok (.iconst 1, 1) := by decide +kernel
theorem dX10_join_31 : decode cX10_join 31 = .ok (.iaload, 1) := by decide +kernel
theorem dX10_join_32 : decode cX10_join 32 = .ok (.iadd, 1) := by decide +kernel
theorem dX10_join_33 : decode cX10_join 33 = .ok (.bipush 12, 2) := by decide +kernel
theorem dX10_join_35 : decode cX10_join 35 = .ok (.if_icmp .gt 21, 3) := by decide +kernel
theorem dX10_join_38 : decode cX10_join 38 = .ok (.aload_n 0, 1) := by decide +kernel
theorem dX10_join_39 : decode cX10_join 39 = .ok (.getfield 16, 3) := by decide +kernel
theorem dX10_join_42 : decode cX10_join 42 = .ok (.iconst 0, 1) := by decide +kernel
theorem dX10_join_43 : decode cX10_join 43 = .ok (.iaload, 1) := by decide +kernel
theorem dX10_join_44 : decode cX10_join 44 = .ok (.aload_n 0, 1) := by decide +kernel
theorem dX10_join_45 : decode cX10_join 45 = .ok (.getfield 16, 3) := by decide +kernel
theorem dX10_join_48 : decode cX10_join 48 = .ok (.iconst 1, 1) := by decide +kernel
theorem dX10_join_49 : decode cX10_join 49 = .ok (.iaload, 1) := by decide +kernel
theorem dX10_join_50 : decode cX10_join 50 = .ok (.iadd, 1) := by decide +kernel
theorem dX10_join_51 : decode cX10_join 51 = .ok (.bipush 8, 2) := by decide +kernel
theorem dX10_join_53 : decode cX10_join 53 = .ok (.if_icmp .le 6, 3) := by decide +kernel
theorem dX10_join_56 : decode cX10_join 56 = .ok (.bipush (-3), 2) := by decide +kernel
theorem dX10_join_58 : decode cX10_join 58 = .ok (.ireturn, 1) := by decide +kernel
theorem dX10_join_59 : decode cX10_join 59 = .ok (.aload_n 0, 1) := by decide +kernel
theorem dX10_join_60 : decode cX10_join 60 = .ok (.getfield 13, 3) := by decide +kernel
theorem dX10_join_63 : decode cX10_join 63 = .ok (.iconst 0, 1) := by decide +kernel
theorem dX10_join_64 : decode cX10_join 64 = .ok (.iaload, 1) := by decide +kernel
theorem dX10_join_65 : decode cX10_join 65 = .ok (.istore_n 1, 1) := by decide +kernel
theorem dX10_join_66 : decode cX10_join 66 = .ok (.iconst 0, 1) := by decide +kernel
theorem dX10_join_67 : decode cX10_join 67 = .ok (.istore_n 2, 1) := by decide +kernel
theorem dX10_join_68 : decode cX10_join 68 = .ok (.iload_n 2, 1) := by decide +kernel
theorem dX10_join_69 : decode cX10_join 69 = .ok (.aload_n 0, 1) := by decide +kernel
theorem dX10_join_70 : decode cX10_join 70 = .ok (.getfield 13, 3) := by decide +kernel
theorem dX10_join_73 : decode cX10_join 73 = .ok (.iconst 1, 1) := by decide +kernel
theorem dX10_join_74 : decode cX10_join 74 = .ok (.iaload, 1) := by decide +kernel
theorem dX10_join_75 : decode cX10_join 75 = .ok (.if_icmp .ge 41, 3) := by decide +kernel
theorem dX10_join_78 : decode cX10_join 78 = .ok (.aload_n 0, 1) := by decide +kernel
theorem dX10_join_79 : decode cX10_join 79 = .ok (.iconst 0, 1) := by decide +kernel
theorem dX10_join_80 : decode cX10_join 80 = .ok (.aload_n 0, 1) := by decide +kernel
theorem dX10_join_81 : decode cX10_join 81 = .ok (.aload_n 0, 1) := by decide +kernel
theorem dX10_join_82 : decode cX10_join 82 = .ok (.getfield 19, 3) := by decide +kernel
theorem dX10_join_85 : decode cX10_join 85 = .ok (.bipush 48, 2) := by decide +kernel
theorem dX10_join_87 : decode cX10_join 87 = .ok (.iload_n 2, 1) := by decide +kernel
theorem dX10_join_88 : decode cX10_join 88 = .ok (.iadd, 1) := by decide +kernel
theorem dX10_join_89 : decode cX10_join 89 = .ok (.iaload, 1) := by decide +kernel
theorem dX10_join_90 : decode cX10_join 90 = .ok (.invokevirtual 400, 3) := by decide +kernel
theorem dX10_join_93 : decode cX10_join 93 = .ok (.aload_n 0, 1) := by decide +kernel
theorem dX10_join_94 : decode cX10_join 94 = .ok (.aload_n 0, 1) := by decide +kernel
theorem dX10_join_95 : decode cX10_join 95 = .ok (.getfield 22, 3) := by decide +kernel
theorem dX10_join_98 : decode cX10_join 98 = .ok (.bipush 48, 2) := by decide +kernel
theorem dX10_join_100 : decode cX10_join 100 = .ok (.iload_n 2, 1) := by decide +kernel
theorem dX10_join_101 : decode cX10_join 101 = .ok (.iadd, 1) := by decide +kernel
theorem dX10_join_102 : decode cX10_join 102 = .ok (.iaload, 1) := by decide +kernel
theorem dX10_join_103 : decode cX10_join 103 = .ok (.invokevirtual 400, 3) := by decide +kernel
theorem dX10_join_106 : decode cX10_join 106 = .ok (.invokevirtual 157, 3) := by decide +kernel
theorem dX10_join_109 : decode cX10_join 109 = .ok (.pop, 1) := by decide +kernel
theorem dX10_join_110 : decode cX10_join 110 = .ok (.iinc 2 1, 3) := by decide +kernel
theorem dX10_join_113 : decode cX10_join 113 = .ok (.goto (-45), 3) := by decide +kernel
theorem dX10_join_116 : decode cX10_join 116 = .ok (.iconst 0, 1) := by decide +kernel
theorem dX10_join_117 : decode cX10_join 117 = .ok (.istore_n 2, 1) := by decide +kernel
theorem dX10_join_118 : decode cX10_join 118 = .ok (.iload_n 2, 1) := by decide +kernel
theorem dX10_join_119 : decode cX10_join 119 = .ok (.aload_n 0, 1) := by decide +kernel
theorem dX10_join_120 : decode cX10_join 120 = .ok (.getfield 16, 3) := by decide +kernel
theorem dX10_join_123 : decode cX10_join 123 = .ok (.iconst 1, 1) := by decide +kernel
theorem dX10_join_124 : decode cX10_join 124 = .ok (.iaload, 1) := by decide +kernel
theorem dX10_join_125 : decode cX10_join 125 = .ok (.if_icmp .ge 75, 3) := by decide +kernel
theorem dX10_join_128 : decode cX10_join 128 = .ok (.aload_n 0, 1) := by decide +kernel
theorem dX10_join_129 : decode cX10_join 129 = .ok (.aload_n 0, 1) := by decide +kernel
theorem dX10_join_130 : decode cX10_join 130 = .ok (.getfield 25, 3) := by decide +kernel
theorem dX10_join_133 : decode cX10_join 133 = .ok (.bipush 32, 2) := by decide +kernel
theorem dX10_join_135 : decode cX10_join 135 = .ok (.iload_n 2, 1) := by decide +kernel
theorem dX10_join_136 : decode cX10_join 136 = .ok (.iadd, 1) := by decide +kernel
theorem dX10_join_137 : decode cX10_join 137 = .ok (.iaload, 1) := by decide +kernel
theorem dX10_join_138 : decode cX10_join 138 = .ok (.putfield 186, 3) := by decide +kernel
theorem dX10_join_141 : decode cX10_join 141 = .ok (.iconst 0, 1) := by decide +kernel
theorem dX10_join_142 : decode cX10_join 142 = .ok (.istore_n 3, 1) := by decide +kernel
theorem dX10_join_143 : decode cX10_join 143 = .ok (.iload_n 3, 1) := by decide +kernel
theorem dX10_join_144 : decode cX10_join 144 = .ok (.aload_n 0, 1) := by decide +kernel
theorem dX10_join_145 : decode cX10_join 145 = .ok (.getfield 186, 3) := by decide +kernel
theorem dX10_join_148 : decode cX10_join 148 = .ok (.if_icmp .ge 40, 3) := by decide +kernel
theorem dX10_join_151 : decode cX10_join 151 = .ok (.aload_n 0, 1) := by decide +kernel
theorem dX10_join_152 : decode cX10_join 152 = .ok (.iconst 1, 1) := by decide +kernel
theorem dX10_join_153 : decode cX10_join 153 = .ok (.iload_n 2, 1) := by decide +kernel
theorem dX10_join_154 : decode cX10_join 154 = .ok (.iload_n 3, 1) := by decide +kernel
theorem dX10_join_155 : decode cX10_join 155 = .ok (.invokevirtual 221, 3) := by decide +kernel
theorem dX10_join_158 : decode cX10_join 158 = .ok (.istore 4, 2) := by decide +kernel
theorem dX10_join_160 : decode cX10_join 160 = .ok (.aload_n 0, 1) := by decide +kernel
theorem dX10_join_161 : decode cX10_join 161 = .ok (.getfield 34, 3) := by decide +kernel
theorem dX10_join_164 : decode cX10_join 164 = .ok (.iload_n 3, 1) := by decide +kernel
theorem dX10_join_165 : decode cX10_join 165 = .ok (.iload 4, 2) := by decide +kernel
theorem dX10_join_167 : decode cX10_join 167 = .ok (.ifCond .le 10, 3) := by decide +kernel
theorem dX10_join_170 : decode cX10_join 170 = .ok (.iload 4, 2) := by decide +kernel
theorem dX10_join_172 : decode cX10_join 172 = .ok (.iload_n 1, 1) := by decide +kernel
theorem dX10_join_173 : decode cX10_join 173 = .ok (.iadd, 1) := by decide +kernel
theorem dX10_join_174 : decode cX10_join 174 = .ok (.goto 7, 3) := by decide +kernel
theorem dX10_join_177 : decode cX10_join 177 = .ok (.iload 4, 2) := by decide +kernel
theorem dX10_join_179 : decode cX10_join 179 = .ok (.iload_n 1, 1) := by decide +kernel
theorem dX10_join_180 : decode cX10_join 180 = .ok (.isub, 1) := by decide +kernel
theorem dX10_join_181 : decode cX10_join 181 = .ok (.iastore, 1) := by decide +kernel
theorem dX10_join_182 : decode cX10_join 182 = .ok (.iinc 3 1, 3) := by decide +kernel
theorem dX10_join_185 : decode cX10_join 185 = .ok (.goto (-42), 3) := by decide +kernel
theorem dX10_join_188 : decode cX10_join 188 = .ok (.aload_n 0, 1) := by decide +kernel
theorem dX10_join_189 : decode cX10_join 189 = .ok (.iconst 0, 1) := by decide +kernel
theorem dX10_join_190 : decode cX10_join 190 = .ok (.invokevirtual 199, 3) := by decide +kernel
theorem dX10_join_193 : decode cX10_join 193 = .ok (.pop, 1) := by decide +kernel
theorem dX10_join_194 : decode cX10_join 194 = .ok (.iinc 2 1, 3) := by decide +kernel
theorem dX10_join_197 : decode cX10_join 197 = .ok (.goto (-79), 3) := by decide +kernel
theorem dX10_join_200 : decode cX10_join 200 = .ok (.aload_n 0, 1) := by decide +kernel
theorem dX10_join_201 : decode cX10_join 201 = .ok (.getfield 7, 3) := by decide +kernel
theorem dX10_join_204 : decode cX10_join 204 = .ok (.iconst 0, 1) := by decide +kernel
theorem dX10_join_205 : decode cX10_join 205 = .ok (.dup2, 1) := by decide +kernel
theorem dX10_join_206 : decode cX10_join 206 = .ok (.iaload, 1) := by decide +kernel
theorem dX10_join_207 : decode cX10_join 207 = .ok (.aload_n 0, 1) := by decide +kernel
theorem dX10_join_208 : decode cX10_join 208 = .ok (.getfield 7, 3) := by decide +kernel
theorem dX10_join_211 : decode cX10_join 211 = .ok (.iconst 1, 1) := by decide +kernel
theorem dX10_join_212 : decode cX10_join 212 = .ok (.iaload, 1) := by decide +kernel
theorem dX10_join_213 : decode cX10_join 213 = .ok (.iconst 1, 1) := by decide +kernel
theorem dX10_join_214 : decode cX10_join 214 = .ok (.isub, 1) := by decide +kernel
theorem dX10_join_215 : decode cX10_join 215 = .ok (.iadd, 1) := by decide +kernel
theorem dX10_join_216 : decode cX10_join 216 = .ok (.iastore, 1) := by decide +kernel
theorem dX10_join_217 : decode cX10_join 217 = .ok (.aload_n 0, 1) := by decide +kernel
theorem dX10_join_218 : decode cX10_join 218 = .ok (.iconst 0, 1) := by decide +kernel
theorem dX10_join_219 : decode cX10_join 219 = .ok (.invokevirtual 153, 3) := by decide +kernel
theorem dX10_join_222 : decode cX10_join 222 = .ok (.aload_n 0, 1) := by decide +kernel
theorem dX10_join_223 : decode cX10_join 223 = .ok (.getfield 7, 3) := by decide +kernel
theorem dX10_join_226 : decode cX10_join 226 = .ok (.iconst 0, 1) := by decide +kernel
theorem dX10_join_227 : decode cX10_join 227 = .ok (.iaload, 1) := by decide +kernel
theorem dX10_join_228 : decode cX10_join 228 = .ok (.ireturn, 1) := by decide +kernel
theorem dX10_isSheet_0 : decode cX10_isSheet 0 = .ok (.iload_n 0, 1) := by decide +kernel
theorem dX10_isSheet_1 : decode cX10_isSheet 1 = .ok (.iconst 0, 1) := by decide +kernel
theorem dX10_isSheet_2 : decode cX10_isSheet 2 = .ok (.iconst 3, 1) := by decide +kernel
theorem dX10_isSheet_3 : decode cX10_isSheet 3 = .ok (.invokestatic 133, 3) := by decide +kernel
theorem dX10_isSheet_6 : decode cX10_isSheet 6 = .ok (.ireturn, 1) := by decide +kernel
theorem dX10_sheet_0 : decode cX10_sheet 0 = .ok (.iload_n 1, 1) := by decide +kernel
theorem dX10_sheet_1 : decode cX10_sheet 1 = .ok (.invokestatic 355, 3) := by decide +kernel
theorem dX10_sheet_4 : decode cX10_sheet 4 = .ok (.ifCond .eq 18, 3) := by decide +kernel
theorem dX10_sheet_7 : decode cX10_sheet 7 = .ok (.iload_n 2, 1) := by decide +kernel
theorem dX10_sheet_8 : decode cX10_sheet 8 = .ok (.iconst 0, 1) := by decide +kernel
theorem dX10_sheet_9 : decode cX10_sheet 9 = .ok (.iconst 2, 1) := by decide +kernel
theorem dX10_sheet_10 : decode cX10_sheet 10 = .ok (.invokestatic 133, 3) := by decide +kernel
theorem dX10_sheet_13 : decode cX10_sheet 13 = .ok (.ifCond .eq 9, 3) := by decide +kernel
theorem dX10_sheet_16 : decode cX10_sheet 16 = .ok (.iload_n 3, 1) := by decide +kernel
theorem dX10_sheet_17 : decode cX10_sheet 17 = .ok (.bipush 20, 2) := by decide +kernel
theorem dX10_sheet_19 : decode cX10_sheet 19 = .ok (.if_icmp .le 5, 3) := by decide +kernel
theorem dX10_sheet_22 : decode cX10_sheet 22 = .ok (.iconst (-1), 1) := by decide +kernel
theorem dX10_sheet_23 : decode cX10_sheet 23 = .ok (.ireturn, 1) := by decide +kernel
theorem dX10_sheet_24 : decode cX10_sheet 24 = .ok (.iload_n 3, 1) := by decide +kernel
theorem dX10_sheet_25 : decode cX10_sheet 25 = .ok (.ifCond .ge 6, 3) := by decide +kernel
theorem dX10_sheet_28 : decode cX10_sheet 28 = .ok (.bipush (-14), 2) := by decide +kernel
theorem dX10_sheet_30 : decode cX10_sheet 30 = .ok (.ireturn, 1) := by decide +kernel
theorem dX10_sheet_31 : decode cX10_sheet 31 = .ok (.aload_n 0, 1) := by decide +kernel
theorem dX10_sheet_32 : decode cX10_sheet 32 = .ok (.getfield 124, 3) := by decide +kernel
theorem dX10_sheet_35 : decode cX10_sheet 35 = .ok (.iload_n 1, 1) := by decide +kernel
theorem dX10_sheet_36 : decode cX10_sheet 36 = .ok (.iload_n 2, 1) := by decide +kernel
theorem dX10_sheet_37 : decode cX10_sheet 37 = .ok (.iastore, 1) := by decide +kernel
theorem dX10_sheet_38 : decode cX10_sheet 38 = .ok (.aload_n 0, 1) := by decide +kernel
theorem dX10_sheet_39 : decode cX10_sheet 39 = .ok (.getfield 127, 3) := by decide +kernel
theorem dX10_sheet_42 : decode cX10_sheet 42 = .ok (.iload_n 1, 1) := by decide +kernel
theorem dX10_sheet_43 : decode cX10_sheet 43 = .ok (.iload_n 3, 1) := by decide +kernel
theorem dX10_sheet_44 : decode cX10_sheet 44 = .ok (.iastore, 1) := by decide +kernel
theorem dX10_sheet_45 : decode cX10_sheet 45 = .ok (.iconst 0, 1) := by decide +kernel
theorem dX10_sheet_46 : decode cX10_sheet 46 = .ok (.istore 4, 2) := by decide +kernel
theorem dX10_sheet_48 : decode cX10_sheet 48 = .ok (.iload 4, 2) := by decide +kernel
theorem dX10_sheet_50 : decode cX10_sheet 50 = .ok (.bipush 20, 2) := by decide +kernel
theorem dX10_sheet_52 : decode cX10_sheet 52 = .ok (.if_icmp .ge 22, 3) := by decide +kernel
theorem dX10_sheet_55 : decode cX10_sheet 55 = .ok (.aload_n 0, 1) := by decide +kernel
theorem dX10_sheet_56 : decode cX10_sheet 56 = .ok (.getfield 130, 3) := by decide +kernel
theorem dX10_sheet_59 : decode cX10_sheet 59 = .ok (.bipush 20, 2) := by decide +kernel
theorem dX10_sheet_61 : decode cX10_sheet 61 = .ok (.iload_n 1, 1) := by decide +kernel
theorem dX10_sheet_62 : decode cX10_sheet 62 = .ok (.imul, 1) := by decide +kernel
theorem dX10_sheet_63 : decode cX10_sheet 63 = .ok (.iload 4, 2) := by decide +kernel
theorem dX10_sheet_65 : decode cX10_sheet 65 = .ok (.iadd, 1) := by decide +kernel
theorem dX10_sheet_66 : decode cX10_sheet 66 = .ok (.iconst 0, 1) := by decide +kernel
theorem dX10_sheet_67 : decode cX10_sheet 67 = .ok (.iastore, 1) := by decide +kernel
theorem dX10_sheet_68 : decode cX10_sheet 68 = .ok (.iinc 4 1, 3) := by decide +kernel
theorem dX10_sheet_71 : decode cX10_sheet 71 = .ok (.goto (-23), 3) := by decide +kernel
theorem dX10_sheet_74 : decode cX10_sheet 74 = .ok (.iload_n 3, 1) := by decide +kernel
theorem dX10_sheet_75 : decode cX10_sheet 75 = .ok (.ireturn, 1) := by decide +kernel
theorem dX10_drop_0 : decode cX10_drop 0 = .ok (.iload_n 1, 1) := by decide +kernel
theorem dX10_drop_1 : decode cX10_drop 1 = .ok (.invokestatic 355, 3) := by decide +kernel
theorem dX10_drop_4 : decode cX10_drop 4 = .ok (.ifCond .ne 5, 3) := by decide +kernel
theorem dX10_drop_7 : decode cX10_drop 7 = .ok (.iconst (-1), 1) := by decide +kernel
theorem dX10_drop_8 : decode cX10_drop 8 = .ok (.ireturn, 1) := by decide +kernel
theorem dX10_drop_9 : decode cX10_drop 9 = .ok (.aload_n 0, 1) := by decide +kernel
theorem dX10_drop_10 : decode cX10_drop 10 = .ok (.getfield 124, 3) := by decide +kernel
theorem dX10_drop_13 : decode cX10_drop 13 = .ok (.iload_n 1, 1) := by decide +kernel
theorem dX10_drop_14 : decode cX10_drop 14 = .ok (.iaload, 1) := by decide +kernel
theorem dX10_drop_15 : decode cX10_drop 15 = .ok (.ifCond .ge 6, 3) := by decide +kernel
theorem dX10_drop_18 : decode cX10_drop 18 = .ok (.bipush (-11), 2) := by decide +kernel
theorem dX10_drop_20 : decode cX10_drop 20 = .ok (.ireturn, 1) := by decide +kernel
theorem dX10_drop_21 : decode cX10_drop 21 = .ok (.aload_n 0, 1) := by decide +kernel
theorem dX10_drop_22 : decode cX10_drop 22 = .ok (.getfield 124, 3) := by decide +kernel
theorem dX10_drop_25 : decode cX10_drop 25 = .ok (.iload_n 1, 1) := by decide +kernel
theorem dX10_drop_26 : decode cX10_drop 26 = .ok (.bipush (-4), 2) := by decide +kernel
theorem dX10_drop_28 : decode cX10_drop 28 = .ok (.iastore, 1) := by decide +kernel
theorem dX10_drop_29 : decode cX10_drop 29 = .ok (.aload_n 0, 1) := by decide +kernel
theorem dX10_drop_30 : decode cX10_drop 30 = .ok (.getfield 127, 3) := by decide +kernel
theorem dX10_drop_33 : decode cX10_drop 33 = .ok (.iload_n 1, 1) := by decide +kernel
theorem dX10_drop_34 : decode cX10_drop 34 = .ok (.iaload, 1) := by decide +kernel
theorem dX10_drop_35 : decode cX10_drop 35 = .ok (.ireturn, 1) := by decide +kernel
theorem dX10_item_0 : decode cX10_item 0 = .ok (.iload_n 1, 1) := by decide +kernel
theorem dX10_item_1 : decode cX10_item 1 = .ok (.invokestatic 355, 3) := by decide +kernel
theorem dX10_item_4 : decode cX10_item 4 = .ok (.ifCond .eq 12, 3) := by decide +kernel
theorem dX10_item_7 : decode cX10_item 7 = .ok (.iload_n 2, 1) := by decide +kernel
theorem dX10_item_8 : decode cX10_item 8 = .ok (.iconst 0, 1) := by decide +kernel
theorem dX10_item_9 : decode cX10_item 9 = .ok (.iconst 2, 1) := by decide +kernel
theorem dX10_item_10 : decode cX10_item 10 = .ok (.invokestatic 133, 3) := by decide +kernel
theorem dX10_item_13 : decode cX10_item 13 = .ok (.ifCond .ne 5, 3) := by decide +kernel
theorem dX10_item_16 : decode cX10_item 16 = .ok (.iconst (-1), 1) := by decide +kernel
theorem dX10_item_17 : decode cX10_item 17 = .ok (.ireturn, 1) := by decide +kernel
theorem dX10_item_18 : decode cX10_item 18 = .ok (.aload_n 0, 1) := by decide +kernel
theorem dX10_item_19 : decode cX10_item 19 = .ok (.getfield 124, 3) := by decide +kernel
theorem dX10_item_22 : decode cX10_item 22 = .ok (.iload_n 1, 1) := by decide +kernel
theorem dX10_item_23 : decode cX10_item 23 = .ok (.iaload, 1) := by decide +kernel
theorem dX10_item_24 : decode cX10_item 24 = .ok (.ifCond .ge 6, 3) := by decide +kernel
theorem dX10_item_27 : decode cX10_item 27 = .ok (.bipush (-11), 2) := by decide +kernel
theorem dX10_item_29 : decode cX10_item 29 = .ok (.ireturn, 1) := by decide +kernel
theorem dX10_item_30 : decode cX10_item 30 = .ok (.aload_n 0, 1) := by decide +kernel
theorem dX10_item_31 : decode cX10_item 31 = .ok (.getfield 124, 3) := by decide +kernel
theorem dX10_item_34 : decode cX10_item 34 = .ok (.iload_n 1, 1) := by decide +kernel
theorem dX10_item_35 : decode cX10_item 35 = .ok (.iaload, 1) := by decide +kernel
theorem dX10_item_36 : decode cX10_item 36 = .ok (.iload_n 2, 1) := by decide +kernel
theorem dX10_item_37 : decode cX10_item 37 = .ok (.if_icmp .eq 6, 3) := by decide +kernel
theorem dX10_item_40 : decode cX10_item 40 = .ok (.bipush (-12), 2) := by decide +kernel
theorem dX10_item_42 : decode cX10_item 42 = .ok (.ireturn, 1) := by decide +kernel
theorem dX10_item_43 : decode cX10_item 43 = .ok (.iload_n 3, 1) := by decide +kernel
theorem dX10_item_44 : decode cX10_item 44 = .ok (.iconst 0, 1) := by decide +kernel
theorem dX10_item_45 : decode cX10_item 45 = .ok (.aload_n 0, 1) := by decide +kernel
theorem dX10_item_46 : decode cX10_item 46 = .ok (.getfield 127, 3) := by decide +kernel
theorem dX10_item_49 : decode cX10_item 49 = .ok (.iload_n 1, 1) := by decide +kernel
theorem dX10_item_50 : decode cX10_item 50 = .ok (.iaload, 1) := by decide +kernel
theorem dX10_item_51 : decode cX10_item 51 = .ok (.iconst 1, 1) := by decide +kernel
theorem dX10_item_52 : decode cX10_item 52 = .ok (.isub, 1) := by decide +kernel
theorem dX10_item_53 : decode cX10_item 53 = .ok (.invokestatic 133, 3) := by decide +kernel
theorem dX10_item_56 : decode cX10_item 56 = .ok (.ifCond .ne 6, 3) := by decide +kernel
theorem dX10_item_59 : decode cX10_item 59 = .ok (.bipush (-13), 2) := by decide +kernel
theorem dX10_item_61 : decode cX10_item 61 = .ok (.ireturn, 1) := by decide +kernel
theorem dX10_item_62 : decode cX10_item 62 = .ok (.aload_n 0, 1) := by decide +kernel
theorem dX10_item_63 : decode cX10_item 63 = .ok (.getfield 130, 3) := by decide +kernel
theorem dX10_item_66 : decode cX10_item 66 = .ok (.bipush 20, 2) := by decide +kernel
theorem dX10_item_68 : decode cX10_item 68 = .ok (.iload_n 1, 1) := by decide +kernel
theorem dX10_item_69 : decode cX10_item 69 = .ok (.imul, 1) := by decide +kernel
theorem dX10_item_70 : decode cX10_item 70 = .ok (.iload_n 3, 1) := by decide +kernel
theorem dX10_item_71 : decode cX10_item 71 = .ok (.iadd, 1) := by decide +kernel
theorem dX10_item_72 : decode cX10_item 72 = .ok (.iload_n 2, 1) := by decide +kernel
theorem dX10_item_73 : decode cX10_item 73 = .ok (.ifCond .ne 9, 3) := by decide +kernel
theorem dX10_item_76 : decode cX10_item 76 = .ok (.iload 4, 2) := by decide +kernel
theorem dX10_item_78 : decode cX10_item 78 = .ok (.i2b, 1) := by decide +kernel
theorem dX10_item_79 : decode cX10_item 79 = .ok (.goto 16, 3) := by decide +kernel
theorem dX10_item_82 : decode cX10_item 82 = .ok (.iload_n 2, 1) := by decide +kernel
theorem dX10_item_83 : decode cX10_item 83 = .ok (.iconst 1, 1) := by decide +kernel
theorem dX10_item_84 : decode cX10_item 84 = .ok (.if_icmp .ne 9, 3) := by decide +kernel
theorem dX10_item_87 : decode cX10_item 87 = .ok (.iload 4, 2) := by decide +kernel
theorem dX10_item_89 : decode cX10_item 89 = .ok (.i2s, 1) := by decide +kernel
theorem dX10_item_90 : decode cX10_item 90 = .ok (.goto 5, 3) := by decide +kernel
theorem dX10_item_93 : decode cX10_item 93 = .ok (.iload 4, 2) := by decide +kernel
theorem dX10_item_95 : decode cX10_item 95 = .ok (.iastore, 1) := by decide +kernel
theorem dX10_item_96 : decode cX10_item 96 = .ok (.iconst 1, 1) := by decide +kernel
theorem dX10_item_97 : decode cX10_item 97 = .ok (.ireturn, 1) := by decide +kernel
theorem dJ9_floorMod_f86c9_0 : decode cJ9_floorMod_f86c9 0 = .ok (.lload_n 0, 1) := by decide +kernel
theorem dJ9_floorMod_f86c9_1 : decode cJ9_floorMod_f86c9 1 = .ok (.lload_n 2, 1) := by decide +kernel
theorem dJ9_floorMod_f86c9_2 : decode cJ9_floorMod_f86c9 2 = .ok (.lrem, 1) := by decide +kernel
theorem dJ9_floorMod_f86c9_3 : decode cJ9_floorMod_f86c9 3 = .ok (.lstore 4, 2) := by decide +kernel
theorem dJ9_floorMod_f86c9_5 : decode cJ9_floorMod_f86c9 5 = .ok (.lload_n 0, 1) := by decide +kernel
theorem dJ9_floorMod_f86c9_6 : decode cJ9_floorMod_f86c9 6 = .ok (.lload_n 2, 1) := by decide +kernel
theorem dJ9_floorMod_f86c9_7 : decode cJ9_floorMod_f86c9 7 = .ok (.lxor, 1) := by decide +kernel
theorem dJ9_floorMod_f86c9_8 : decode cJ9_floorMod_f86c9 8 = .ok (.lconst 0, 1) := by decide +kernel
theorem dJ9_floorMod_f86c9_9 : decode cJ9_floorMod_f86c9 9 = .ok (.lcmp, 1) := by decide +kernel
theorem dJ9_floorMod_f86c9_10 : decode cJ9_floorMod_f86c9 10 = .ok (.ifCond .ge 15, 3) := by decide +kernel
theorem dJ9_floorMod_f86c9_13 : decode cJ9_floorMod_f86c9 13 = .ok (.lload 4, 2) := by decide +kernel
theorem dJ9_floorMod_f86c9_15 : decode cJ9_floorMod_f86c9 15 = .ok (.lconst 0, 1) := by decide +kernel
theorem dJ9_floorMod_f86c9_16 : decode cJ9_floorMod_f86c9 16 = .ok (.lcmp, 1) := by decide +kernel
theorem dJ9_floorMod_f86c9_17 : decode cJ9_floorMod_f86c9 17 = .ok (.ifCond .eq 8, 3) := by decide +kernel
theorem dJ9_floorMod_f86c9_20 : decode cJ9_floorMod_f86c9 20 = .ok (.lload 4, 2) := by decide +kernel
theorem dJ9_floorMod_f86c9_22 : decode cJ9_floorMod_f86c9 22 = .ok (.lload_n 2, 1) := by decide +kernel
theorem dJ9_floorMod_f86c9_23 : decode cJ9_floorMod_f86c9 23 = .ok (.ladd, 1) := by decide +kernel
theorem dJ9_floorMod_f86c9_24 : decode cJ9_floorMod_f86c9 24 = .ok (.lreturn, 1) := by decide +kernel
theorem dJ9_floorMod_f86c9_25 : decode cJ9_floorMod_f86c9 25 = .ok (.lload 4, 2) := by decide +kernel
theorem dJ9_floorMod_f86c9_27 : decode cJ9_floorMod_f86c9 27 = .ok (.lreturn, 1) := by decide +kernel
theorem dJ9_abs_067f4_0 : decode cJ9_abs_067f4 0 = .ok (.lload_n 0, 1) := by decide +kernel
theorem dJ9_abs_067f4_1 : decode cJ9_abs_067f4 1 = .ok (.lconst 0, 1) := by decide +kernel
theorem dJ9_abs_067f4_2 : decode cJ9_abs_067f4 2 = .ok (.lcmp, 1) := by decide +kernel
theorem dJ9_abs_067f4_3 : decode cJ9_abs_067f4 3 = .ok (.ifCond .ge 8, 3) := by decide +kernel
theorem dJ9_abs_067f4_6 : decode cJ9_abs_067f4 6 = .ok (.lload_n 0, 1) := by decide +kernel
theorem dJ9_abs_067f4_7 : decode cJ9_abs_067f4 7 = .ok (.lneg, 1) := by decide +kernel
theorem dJ9_abs_067f4_8 : decode cJ9_abs_067f4 8 = .ok (.goto 4, 3) := by decide +kernel
theorem dJ9_abs_067f4_11 : decode cJ9_abs_067f4 11 = .ok (.lload_n 0, 1) := by decide +kernel
theorem dJ9_abs_067f4_12 : decode cJ9_abs_067f4 12 = .ok (.lreturn, 1) := by decide +kernel
theorem dJ9_max_7cf53_0 : decode cJ9_max_7cf53 0 = .ok (.iload_n 0, 1) := by decide +kernel
theorem dJ9_max_7cf53_1 : decode cJ9_max_7cf53 1 = .ok (.iload_n 1, 1) := by decide +kernel
theorem dJ9_max_7cf53_2 : decode cJ9_max_7cf53 2 = .ok (.if_icmp .lt 7, 3) := by decide +kernel
theorem dJ9_max_7cf53_5 : decode cJ9_max_7cf53 5 = .ok (.iload_n 0, 1) := by decide +kernel
theorem dJ9_max_7cf53_6 : decode cJ9_max_7cf53 6 = .ok (.goto 4, 3) := by decide +kernel
theorem dJ9_max_7cf53_9 : decode cJ9_max_7cf53 9 = .ok (.iload_n 1, 1) := by decide +kernel
theorem dJ9_max_7cf53_10 : decode cJ9_max_7cf53 10 = .ok (.ireturn, 1) := by decide +kernel
theorem dJ9_max_f86c9_0 : decode cJ9_max_f86c9 0 = .ok (.lload_n 0, 1) := by decide +kernel
theorem dJ9_max_f86c9_1 : decode cJ9_max_f86c9 1 = .ok (.lload_n 2, 1) := by decide +kernel
theorem dJ9_max_f86c9_2 : decode cJ9_max_f86c9 2 = .ok (.lcmp, 1) := by decide +kernel
theorem dJ9_max_f86c9_3 : decode cJ9_max_f86c9 3 = .ok (.ifCond .lt 7, 3) := by decide +kernel
theorem dJ9_max_f86c9_6 : decode cJ9_max_f86c9 6 = .ok (.lload_n 0, 1) := by decide +kernel
theorem dJ9_max_f86c9_7 : decode cJ9_max_f86c9 7 = .ok (.goto 4, 3) := by decide +kernel
theorem dJ9_max_f86c9_10 : decode cJ9_max_f86c9 10 = .ok (.lload_n 2, 1) := by decide +kernel
theorem dJ9_max_f86c9_11 : decode cJ9_max_f86c9 11 = .ok (.lreturn, 1) := by decide +kernel
theorem dJ9_min_7cf53_0 : decode cJ9_min_7cf53 0 = .ok (.iload_n 0, 1) := by decide +kernel
theorem dJ9_min_7cf53_1 : decode cJ9_min_7cf53 1 = .ok (.iload_n 1, 1) := by decide +kernel
theorem dJ9_min_7cf53_2 : decode cJ9_min_7cf53 2 = .ok (.if_icmp .gt 7, 3) := by decide +kernel
theorem dJ9_min_7cf53_5 : decode cJ9_min_7cf53 5 = .ok (.iload_n 0, 1) := by decide +kernel
theorem dJ9_min_7cf53_6 : decode cJ9_min_7cf53 6 = .ok (.goto 4, 3) := by decide +kernel
theorem dJ9_min_7cf53_9 : decode cJ9_min_7cf53 9 = .ok (.iload_n 1, 1) := by decide +kernel
theorem dJ9_min_7cf53_10 : decode cJ9_min_7cf53 10 = .ok (.ireturn, 1) := by decide +kernel
theorem dJ7_fill_d0a16_0 : decode cJ7_fill_d0a16 0 = .ok (.iconst 0, 1) := by decide +kernel
theorem dJ7_fill_d0a16_1 : decode cJ7_fill_d0a16 1 = .ok (.istore_n 3, 1) := by decide +kernel
theorem dJ7_fill_d0a16_2 : decode cJ7_fill_d0a16 2 = .ok (.aload_n 0, 1) := by decide +kernel
theorem dJ7_fill_d0a16_3 : decode cJ7_fill_d0a16 3 = .ok (.arraylength, 1) := by decide +kernel
theorem dJ7_fill_d0a16_4 : decode cJ7_fill_d0a16 4 = .ok (.istore 4, 2) := by decide +kernel
theorem dJ7_fill_d0a16_6 : decode cJ7_fill_d0a16 6 = .ok (.iload_n 3, 1) := by decide +kernel
theorem dJ7_fill_d0a16_7 : decode cJ7_fill_d0a16 7 = .ok (.iload 4, 2) := by decide +kernel
theorem dJ7_fill_d0a16_9 : decode cJ7_fill_d0a16 9 = .ok (.if_icmp .ge 13, 3) := by decide +kernel
theorem dJ7_fill_d0a16_12 : decode cJ7_fill_d0a16 12 = .ok (.aload_n 0, 1) := by decide +kernel
theorem dJ7_fill_d0a16_13 : decode cJ7_fill_d0a16 13 = .ok (.iload_n 3, 1) := by decide +kernel
theorem dJ7_fill_d0a16_14 : decode cJ7_fill_d0a16 14 = .ok (.lload_n 1, 1) := by decide +kernel
theorem dJ7_fill_d0a16_15 : decode cJ7_fill_d0a16 15 = .ok (.lastore, 1) := by decide +kernel
theorem dJ7_fill_d0a16_16 : decode cJ7_fill_d0a16 16 = .ok (.iinc 3 1, 3) := by decide +kernel
theorem dJ7_fill_d0a16_19 : decode cJ7_fill_d0a16 19 = .ok (.goto (-13), 3) := by decide +kernel
theorem dJ7_fill_d0a16_22 : decode cJ7_fill_d0a16 22 = .ok (.return_, 1) := by decide +kernel
theorem dJ7_fill_53178_0 : decode cJ7_fill_53178 0 = .ok (.iconst 0, 1) := by decide +kernel
theorem dJ7_fill_53178_1 : decode cJ7_fill_53178 1 = .ok (.istore_n 2, 1) := by decide +kernel
theorem dJ7_fill_53178_2 : decode cJ7_fill_53178 2 = .ok (.aload_n 0, 1) := by decide +kernel
theorem dJ7_fill_53178_3 : decode cJ7_fill_53178 3 = .ok (.arraylength, 1) := by decide +kernel
theorem dJ7_fill_53178_4 : decode cJ7_fill_53178 4 = .ok (.istore_n 3, 1) := by decide +kernel
theorem dJ7_fill_53178_5 : decode cJ7_fill_53178 5 = .ok (.iload_n 2, 1) := by decide +kernel
theorem dJ7_fill_53178_6 : decode cJ7_fill_53178 6 = .ok (.iload_n 3, 1) := by decide +kernel
theorem dJ7_fill_53178_7 : decode cJ7_fill_53178 7 = .ok (.if_icmp .ge 13, 3) := by decide +kernel
theorem dJ7_fill_53178_10 : decode cJ7_fill_53178 10 = .ok (.aload_n 0, 1) := by decide +kernel
theorem dJ7_fill_53178_11 : decode cJ7_fill_53178 11 = .ok (.iload_n 2, 1) := by decide +kernel
theorem dJ7_fill_53178_12 : decode cJ7_fill_53178 12 = .ok (.iload_n 1, 1) := by decide +kernel
theorem dJ7_fill_53178_13 : decode cJ7_fill_53178 13 = .ok (.iastore, 1) := by decide +kernel
theorem dJ7_fill_53178_14 : decode cJ7_fill_53178 14 = .ok (.iinc 2 1, 3) := by decide +kernel
theorem dJ7_fill_53178_17 : decode cJ7_fill_53178 17 = .ok (.goto (-12), 3) := by decide +kernel
theorem dJ7_fill_53178_20 : decode cJ7_fill_53178 20 = .ok (.return_, 1) := by decide +kernel
theorem dL_law_0 : decode cL_law 0 = .ok (.new 7, 3) := by decide +kernel
theorem dL_law_3 : decode cL_law 3 = .ok (.dup, 1) := by decide +kernel
theorem dL_law_4 : decode cL_law 4 = .ok (.invokespecial 9, 3) := by decide +kernel
theorem dL_law_7 : decode cL_law 7 = .ok (.astore_n 1, 1) := by decide +kernel
theorem dL_law_8 : decode cL_law 8 = .ok (.new 10, 3) := by decide +kernel
theorem dL_law_11 : decode cL_law 11 = .ok (.dup, 1) := by decide +kernel
theorem dL_law_12 : decode cL_law 12 = .ok (.invokespecial 12, 3) := by decide +kernel
theorem dL_law_15 : decode cL_law 15 = .ok (.astore_n 2, 1) := by decide +kernel
theorem dL_law_16 : decode cL_law 16 = .ok (.iconst 0, 1) := by decide +kernel
theorem dL_law_17 : decode cL_law 17 = .ok (.istore_n 3, 1) := by decide +kernel
theorem dL_law_18 : decode cL_law 18 = .ok (.iload_n 3, 1) := by decide +kernel
theorem dL_law_19 : decode cL_law 19 = .ok (.aload_n 0, 1) := by decide +kernel
theorem dL_law_20 : decode cL_law 20 = .ok (.arraylength, 1) := by decide +kernel
theorem dL_law_21 : decode cL_law 21 = .ok (.bipush 7, 2) := by decide +kernel
theorem dL_law_23 : decode cL_law 23 = .ok (.isub, 1) := by decide +kernel
theorem dL_law_24 : decode cL_law 24 = .ok (.if_icmp .gt 1186, 3) := by decide +kernel
theorem dL_law_27 : decode cL_law 27 = .ok (.aload_n 0, 1) := by decide +kernel
theorem dL_law_28 : decode cL_law 28 = .ok (.iload_n 3, 1) := by decide +kernel
theorem dL_law_29 : decode cL_law 29 = .ok (.iaload, 1) := by decide +kernel
theorem dL_law_30 : decode cL_law 30 = .ok (.bipush 31, 2) := by decide +kernel
theorem dL_law_32 : decode cL_law 32 = .ok (.iand, 1) := by decide +kernel
theorem dL_law_33 : decode cL_law 33 = .ok (.tableswitch 1171 0 28 #[131, 164, 207, 270, 293, 316, 349, 392, 435, 478, 512, 545, 578, 621, 644, 677, 710, 733, 766, 841, 874, 907, 940, 983, 1016, 1039, 1052, 1095, 1118], 131) := by decide +kernel
theorem dL_law_164 : decode cL_law 164 = .ok (.aload_n 1, 1) := by decide +kernel
theorem dL_law_165 : decode cL_law 165 = .ok (.aload_n 0, 1) := by decide +kernel
theorem dL_law_166 : decode cL_law 166 = .ok (.iload_n 3, 1) := by decide +kernel
theorem dL_law_167 : decode cL_law 167 = .ok (.iconst 1, 1) := by decide +kernel
theorem dL_law_168 : decode cL_law 168 = .ok (.iadd, 1) := by decide +kernel
theorem dL_law_169 : decode cL_law 169 = .ok (.iaload, 1) := by decide +kernel
theorem dL_law_170 : decode cL_law 170 = .ok (.aload_n 0, 1) := by decide +kernel
theorem dL_law_171 : decode cL_law 171 = .ok (.iload_n 3, 1) := by decide +kernel
theorem dL_law_172 : decode cL_law 172 = .ok (.iconst 2, 1) := by decide +kernel
theorem dL_law_173 : decode cL_law 173 = .ok (.iadd, 1) := by decide +kernel
theorem dL_law_174 : decode cL_law 174 = .ok (.iaload, 1) := by decide +kernel
theorem dL_law_175 : decode cL_law 175 = .ok (.invokevirtual 13, 3) := by decide +kernel
theorem dL_law_178 : decode cL_law 178 = .ok (.aload_n 2, 1) := by decide +kernel
theorem dL_law_179 : decode cL_law 179 = .ok (.aload_n 0, 1) := by decide +kernel
theorem dL_law_180 : decode cL_law 180 = .ok (.iload_n 3, 1) := by decide +kernel
theorem dL_law_181 : decode cL_law 181 = .ok (.iconst 1, 1) := by decide +kernel
theorem dL_law_182 : decode cL_law 182 = .ok (.iadd, 1) := by decide +kernel
theorem dL_law_183 : decode cL_law 183 = .ok (.iaload, 1) := by decide +kernel
theorem dL_law_184 : decode cL_law 184 = .ok (.aload_n 0, 1) := by decide +kernel
theorem dL_law_185 : decode cL_law 185 = .ok (.iload_n 3, 1) := by decide +kernel
theorem dL_law_186 : decode cL_law 186 = .ok (.iconst 2, 1) := by decide +kernel
theorem dL_law_187 : decode cL_law 187 = .ok (.iadd, 1) := by decide +kernel
theorem dL_law_188 : decode cL_law 188 = .ok (.iaload, 1) := by decide +kernel
theorem dL_law_189 : decode cL_law 189 = .ok (.invokevirtual 17, 3) := by decide +kernel
theorem dL_law_192 : decode cL_law 192 = .ok (.if_icmp .eq 1012, 3) := by decide +kernel
theorem dL_law_195 : decode cL_law 195 = .ok (.iconst 0, 1) := by decide +kernel
theorem dL_law_196 : decode cL_law 196 = .ok (.ireturn, 1) := by decide +kernel
theorem dL_law_197 : decode cL_law 197 = .ok (.aload_n 1, 1) := by decide +kernel
theorem dL_law_198 : decode cL_law 198 = .ok (.aload_n 0, 1) := by decide +kernel
theorem dL_law_199 : decode cL_law 199 = .ok (.iload_n 3, 1) := by decide +kernel
theorem dL_law_200 : decode cL_law 200 = .ok (.iconst 1, 1) := by decide +kernel
theorem dL_law_201 : decode cL_law 201 = .ok (.iadd, 1) := by decide +kernel
theorem dL_law_202 : decode cL_law 202 = .ok (.iaload, 1) := by decide +kernel
theorem dL_law_203 : decode cL_law 203 = .ok (.aload_n 0, 1) := by decide +kernel
theorem dL_law_204 : decode cL_law 204 = .ok (.iload_n 3, 1) := by decide +kernel
theorem dL_law_205 : decode cL_law 205 = .ok (.iconst 2, 1) := by decide +kernel
theorem dL_law_206 : decode cL_law 206 = .ok (.iadd, 1) := by decide +kernel
theorem dL_law_207 : decode cL_law 207 = .ok (.iaload, 1) := by decide +kernel
theorem dL_law_208 : decode cL_law 208 = .ok (.aload_n 0, 1) := by decide +kernel
theorem dL_law_209 : decode cL_law 209 = .ok (.iload_n 3, 1) := by decide +kernel
theorem dL_law_210 : decode cL_law 210 = .ok (.iconst 3, 1) := by decide +kernel
theorem dL_law_211 : decode cL_law 211 = .ok (.iadd, 1) := by decide +kernel
theorem dL_law_212 : decode cL_law 212 = .ok (.iaload, 1) := by decide +kernel
theorem dL_law_213 : decode cL_law 213 = .ok (.invokevirtual 18, 3) := by decide +kernel
theorem dL_law_216 : decode cL_law 216 = .ok (.aload_n 2, 1) := by decide +kernel
theorem dL_law_217 : decode cL_law 217 = .ok (.aload_n 0, 1) := by decide +kernel
theorem dL_law_218 : decode cL_law 218 = .ok (.iload_n 3, 1) := by decide +kernel
theorem dL_law_219 : decode cL_law 219 = .ok (.iconst 1, 1) := by decide +kernel
theorem dL_law_220 : decode cL_law 220 = .ok (.iadd, 1) := by decide +kernel
theorem dL_law_221 : decode cL_law 221 = .ok (.iaload, 1) := by decide +kernel
theorem dL_law_222 : decode cL_law 222 = .ok (.aload_n 0, 1) := by decide +kernel
theorem dL_law_223 : decode cL_law 223 = .ok (.iload_n 3, 1) := by decide +kernel
theorem dL_law_224 : decode cL_law 224 = .ok (.iconst 2, 1) := by decide +kernel
theorem dL_law_225 : decode cL_law 225 = .ok (.iadd, 1) := by decide +kernel
theorem dL_law_226 : decode cL_law 226 = .ok (.iaload, 1) := by decide +kernel
theorem dL_law_227 : decode cL_law 227 = .ok (.aload_n 0, 1) := by decide +kernel
theorem dL_law_228 : decode cL_law 228 = .ok (.iload_n 3, 1) := by decide +kernel
theorem dL_law_229 : decode cL_law 229 = .ok (.iconst 3, 1) := by decide +kernel
theorem dL_law_230 : decode cL_law 230 = .ok (.iadd, 1) := by decide +kernel
theorem dL_law_231 : decode cL_law 231 = .ok (.iaload, 1) := by decide +kernel
theorem dL_law_232 : decode cL_law 232 = .ok (.invokevirtual 22, 3) := by decide +kernel
theorem dL_law_235 : decode cL_law 235 = .ok (.if_icmp .eq 969, 3) := by decide +kernel
theorem dL_law_238 : decode cL_law 238 = .ok (.iconst 0, 1) := by decide +kernel
theorem dL_law_239 : decode cL_law 239 = .ok (.ireturn, 1) := by decide +kernel
theorem dL_law_240 : decode cL_law 240 = .ok (.aload_n 1, 1) := by decide +kernel
theorem dL_law_241 : decode cL_law 241 = .ok (.aload_n 0, 1) := by decide +kernel
theorem dL_law_242 : decode cL_law 242 = .ok (.iload_n 3, 1) := by decide +kernel
theorem dL_law_243 : decode cL_law 243 = .ok (.iconst 1, 1) := by decide +kernel
theorem dL_law_244 : decode cL_law 244 = .ok (.iadd, 1) := by decide +kernel
theorem dL_law_245 : decode cL_law 245 = .ok (.iaload, 1) := by decide +kernel
theorem dL_law_246 : decode cL_law 246 = .ok (.i2l, 1) := by decide +kernel
theorem dL_law_247 : decode cL_law 247 = .ok (.bipush 32, 2) := by decide +kernel
theorem dL_law_249 : decode cL_law 249 = .ok (.lshl, 1) := by decide +kernel
theorem dL_law_250 : decode cL_law 250 = .ok (.aload_n 0, 1) := by decide +kernel
theorem dL_law_251 : decode cL_law 251 = .ok (.iload_n 3, 1) := by decide +kernel
theorem dL_law_252 : decode cL_law 252 = .ok (.iconst 2, 1) := by decide +kernel
theorem dL_law_253 : decode cL_law 253 = .ok (.iadd, 1) := by decide +kernel
theorem dL_law_254 : decode cL_law 254 = .ok (.iaload, 1) := by decide +kernel
theorem dL_law_255 : decode cL_law 255 = .ok (.i2l, 1) := by decide +kernel
theorem dL_law_256 : decode cL_law 256 = .ok (.ldc2_w 23, 3) := by decide +kernel
theorem dL_law_259 : decode cL_law 259 = .ok (.land, 1) := by decide +kernel
theorem dL_law_260 : decode cL_law 260 = .ok (.lor, 1) := by decide +kernel
theorem dL_law_261 : decode cL_law 261 = .ok (.aload_n 0, 1) := by decide +kernel
theorem dL_law_262 : decode cL_law 262 = .ok (.iload_n 3, 1) := by decide +kernel
theorem dL_law_263 : decode cL_law 263 = .ok (.iconst 3, 1) := by decide +kernel
theorem dL_law_264 : decode cL_law 264 = .ok (.iadd, 1) := by decide +kernel
theorem dL_law_265 : decode cL_law 265 = .ok (.iaload, 1) := by decide +kernel
theorem dL_law_266 : decode cL_law 266 = .ok (.invokevirtual 25, 3) := by decide +kernel
theorem dL_law_269 : decode cL_law 269 = .ok (.aload_n 2, 1) := by decide +kernel
theorem dL_law_270 : decode cL_law 270 = .ok (.aload_n 0, 1) := by decide +kernel
theorem dL_law_271 : decode cL_law 271 = .ok (.iload_n 3, 1) := by decide +kernel
theorem dL_law_272 : decode cL_law 272 = .ok (.iconst 1, 1) := by decide +kernel
theorem dL_law_273 : decode cL_law 273 = .ok (.iadd, 1) := by decide +kernel
theorem dL_law_274 : decode cL_law 274 = .ok (.iaload, 1) := by decide +kernel
theorem dL_law_275 : decode cL_law 275 = .ok (.i2l, 1) := by decide +kernel
theorem dL_law_276 : decode cL_law 276 = .ok (.bipush 32, 2) := by decide +kernel
theorem dL_law_278 : decode cL_law 278 = .ok (.lshl, 1) := by decide +kernel
theorem dL_law_279 : decode cL_law 279 = .ok (.aload_n 0, 1) := by decide +kernel
theorem dL_law_280 : decode cL_law 280 = .ok (.iload_n 3, 1) := by decide +kernel
theorem dL_law_281 : decode cL_law 281 = .ok (.iconst 2, 1) := by decide +kernel
theorem dL_law_282 : decode cL_law 282 = .ok (.iadd, 1) := by decide +kernel
theorem dL_law_283 : decode cL_law 283 = .ok (.iaload, 1) := by decide +kernel
theorem dL_law_284 : decode cL_law 284 = .ok (.i2l, 1) := by decide +kernel
theorem dL_law_285 : decode cL_law 285 = .ok (.ldc2_w 23, 3) := by decide +kernel
theorem dL_law_288 : decode cL_law 288 = .ok (.land, 1) := by decide +kernel
theorem dL_law_289 : decode cL_law 289 = .ok (.lor, 1) := by decide +kernel
theorem dL_law_290 : decode cL_law 290 = .ok (.aload_n 0, 1) := by decide +kernel
theorem dL_law_291 : decode cL_law 291 = .ok (.iload_n 3, 1) := by decide +kernel
theorem dL_law_292 : decode cL_law 292 = .ok (.iconst 3, 1) := by decide +kernel
theorem dL_law_293 : decode cL_law 293 = .ok (.iadd, 1) := by decide +kernel
theorem dL_law_294 : decode cL_law 294 = .ok (.iaload, 1) := by decide +kernel
theorem dL_law_295 : decode cL_law 295 = .ok (.invokevirtual 29, 3) := by decide +kernel
theorem dL_law_298 : decode cL_law 298 = .ok (.if_icmp .eq 906, 3) := by decide +kernel
theorem dL_law_301 : decode cL_law 301 = .ok (.iconst 0, 1) := by decide +kernel
theorem dL_law_302 : decode cL_law 302 = .ok (.ireturn, 1) := by decide +kernel
theorem dL_law_303 : decode cL_law 303 = .ok (.aload_n 1, 1) := by decide +kernel
theorem dL_law_304 : decode cL_law 304 = .ok (.aload_n 0, 1) := by decide +kernel
theorem dL_law_305 : decode cL_law 305 = .ok (.iload_n 3, 1) := by decide +kernel
theorem dL_law_306 : decode cL_law 306 = .ok (.iconst 1, 1) := by decide +kernel
theorem dL_law_307 : decode cL_law 307 = .ok (.iadd, 1) := by decide +kernel
theorem dL_law_308 : decode cL_law 308 = .ok (.iaload, 1) := by decide +kernel
theorem dL_law_309 : decode cL_law 309 = .ok (.invokevirtual 30, 3) := by decide +kernel
theorem dL_law_312 : decode cL_law 312 = .ok (.aload_n 2, 1) := by decide +kernel
theorem dL_law_313 : decode cL_law 313 = .ok (.aload_n 0, 1) := by decide +kernel
theorem dL_law_314 : decode cL_law 314 = .ok (.iload_n 3, 1) := by decide +kernel
theorem dL_law_315 : decode cL_law 315 = .ok (.iconst 1, 1) := by decide +kernel
theorem dL_law_316 : decode cL_law 316 = .ok (.iadd, 1) := by decide +kernel
theorem dL_law_317 : decode cL_law 317 = .ok (.iaload, 1) := by decide +kernel
theorem dL_law_318 : decode cL_law 318 = .ok (.invokevirtual 34, 3) := by decide +kernel
theorem dL_law_321 : decode cL_law 321 = .ok (.if_icmp .eq 883, 3) := by decide +kernel
theorem dL_law_324 : decode cL_law 324 = .ok (.iconst 0, 1) := by decide +kernel
theorem dL_law_325 : decode cL_law 325 = .ok (.ireturn, 1) := by decide +kernel
theorem dL_law_326 : decode cL_law 326 = .ok (.aload_n 1, 1) := by decide +kernel
theorem dL_law_327 : decode cL_law 327 = .ok (.aload_n 0, 1) := by decide +kernel
theorem dL_law_328 : decode cL_law 328 = .ok (.iload_n 3, 1) := by decide +kernel
theorem dL_law_329 : decode cL_law 329 = .ok (.iconst 1, 1) := by decide +kernel
theorem dL_law_330 : decode cL_law 330 = .ok (.iadd, 1) := by decide +kernel
theorem dL_law_331 : decode cL_law 331 = .ok (.iaload, 1) := by decide +kernel
theorem dL_law_332 : decode cL_law 332 = .ok (.invokevirtual 35, 3) := by decide +kernel
theorem dL_law_335 : decode cL_law 335 = .ok (.aload_n 2, 1) := by decide +kernel
theorem dL_law_336 : decode cL_law 336 = .ok (.aload_n 0, 1) := by decide +kernel
theorem dL_law_337 : decode cL_law 337 = .ok (.iload_n 3, 1) := by decide +kernel
theorem dL_law_338 : decode cL_law 338 = .ok (.iconst 1, 1) := by decide +kernel
theorem dL_law_339 : decode cL_law 339 = .ok (.iadd, 1) := by decide +kernel
theorem dL_law_340 : decode cL_law 340 = .ok (.iaload, 1) := by decide +kernel
theorem dL_law_341 : decode cL_law 341 = .ok (.invokevirtual 38, 3) := by decide +kernel
theorem dL_law_344 : decode cL_law 344 = .ok (.if_icmp .eq 860, 3) := by decide +kernel
theorem dL_law_347 : decode cL_law 347 = .ok (.iconst 0, 1) := by decide +kernel
theorem dL_law_348 : decode cL_law 348 = .ok (.ireturn, 1) := by decide +kernel
theorem dL_law_349 : decode cL_law 349 = .ok (.aload_n 1, 1) := by decide +kernel
theorem dL_law_350 : decode cL_law 350 = .ok (.aload_n 0, 1) := by decide +kernel
theorem dL_law_351 : decode cL_law 351 = .ok (.iload_n 3, 1) := by decide +kernel
theorem dL_law_352 : decode cL_law 352 = .ok (.iconst 1, 1) := by decide +kernel
theorem dL_law_353 : decode cL_law 353 = .ok (.iadd, 1) := by decide +kernel
theorem dL_law_354 : decode cL_law 354 = .ok (.iaload, 1) := by decide +kernel
theorem dL_law_355 : decode cL_law 355 = .ok (.aload_n 0, 1) := by decide +kernel
theorem dL_law_356 : decode cL_law 356 = .ok (.iload_n 3, 1) := by decide +kernel
theorem dL_law_357 : decode cL_law 357 = .ok (.iconst 2, 1) := by decide +kernel
theorem dL_law_358 : decode cL_law 358 = .ok (.iadd, 1) := by decide +kernel
theorem dL_law_359 : decode cL_law 359 = .ok (.iaload, 1) := by decide +kernel
theorem dL_law_360 : decode cL_law 360 = .ok (.invokevirtual 39, 3) := by decide +kernel
theorem dL_law_363 : decode cL_law 363 = .ok (.aload_n 2, 1) := by decide +kernel
theorem dL_law_364 : decode cL_law 364 = .ok (.aload_n 0, 1) := by decide +kernel
theorem dL_law_365 : decode cL_law 365 = .ok (.iload_n 3, 1) := by decide +kernel
theorem dL_law_366 : decode cL_law 366 = .ok (.iconst 1, 1) := by decide +kernel
theorem dL_law_367 : decode cL_law 367 = .ok (.iadd, 1) := by decide +kernel
theorem dL_law_368 : decode cL_law 368 = .ok (.iaload, 1) := by decide +kernel
theorem dL_law_369 : decode cL_law 369 = .ok (.aload_n 0, 1) := by decide +kernel
theorem dL_law_370 : decode cL_law 370 = .ok (.iload_n 3, 1) := by decide +kernel
theorem dL_law_371 : decode cL_law 371 = .ok (.iconst 2, 1) := by decide +kernel
theorem dL_law_372 : decode cL_law 372 = .ok (.iadd, 1) := by decide +kernel
theorem dL_law_373 : decode cL_law 373 = .ok (.iaload, 1) := by decide +kernel
theorem dL_law_374 : decode cL_law 374 = .ok (.invokevirtual 42, 3) := by decide +kernel
theorem dL_law_377 : decode cL_law 377 = .ok (.if_icmp .eq 827, 3) := by decide +kernel
theorem dL_law_380 : decode cL_law 380 = .ok (.iconst 0, 1) := by decide +kernel
theorem dL_law_381 : decode cL_law 381 = .ok (.ireturn, 1) := by decide +kernel
theorem dL_law_382 : decode cL_law 382 = .ok (.aload_n 1, 1) := by decide +kernel
theorem dL_law_383 : decode cL_law 383 = .ok (.aload_n 0, 1) := by decide +kernel
theorem dL_law_384 : decode cL_law 384 = .ok (.iload_n 3, 1) := by decide +kernel
theorem dL_law_385 : decode cL_law 385 = .ok (.iconst 1, 1) := by decide +kernel
theorem dL_law_386 : decode cL_law 386 = .ok (.iadd, 1) := by decide +kernel
theorem dL_law_387 : decode cL_law 387 = .ok (.iaload, 1) := by decide +kernel
theorem dL_law_388 : decode cL_law 388 = .ok (.aload_n 0, 1) := by decide +kernel
theorem dL_law_389 : decode cL_law 389 = .ok (.iload_n 3, 1) := by decide +kernel
theorem dL_law_390 : decode cL_law 390 = .ok (.iconst 2, 1) := by decide +kernel
theorem dL_law_391 : decode cL_law 391 = .ok (.iadd, 1) := by decide +kernel
theorem dL_law_392 : decode cL_law 392 = .ok (.iaload, 1) := by decide +kernel
theorem dL_law_393 : decode cL_law 393 = .ok (.aload_n 0, 1) := by decide +kernel
theorem dL_law_394 : decode cL_law 394 = .ok (.iload_n 3, 1) := by decide +kernel
theorem dL_law_395 : decode cL_law 395 = .ok (.iconst 3, 1) := by decide +kernel
theorem dL_law_396 : decode cL_law 396 = .ok (.iadd, 1) := by decide +kernel
theorem dL_law_397 : decode cL_law 397 = .ok (.iaload, 1) := by decide +kernel
theorem dL_law_398 : decode cL_law 398 = .ok (.invokevirtual 43, 3) := by decide +kernel
theorem dL_law_401 : decode cL_law 401 = .ok (.aload_n 2, 1) := by decide +kernel
theorem dL_law_402 : decode cL_law 402 = .ok (.aload_n 0, 1) := by decide +kernel
theorem dL_law_403 : decode cL_law 403 = .ok (.iload_n 3, 1) := by decide +kernel
theorem dL_law_404 : decode cL_law 404 = .ok (.iconst 1, 1) := by decide +kernel
theorem dL_law_405 : decode cL_law 405 = .ok (.iadd, 1) := by decide +kernel
theorem dL_law_406 : decode cL_law 406 = .ok (.iaload, 1) := by decide +kernel
theorem dL_law_407 : decode cL_law 407 = .ok (.aload_n 0, 1) := by decide +kernel
theorem dL_law_408 : decode cL_law 408 = .ok (.iload_n 3, 1) := by decide +kernel
theorem dL_law_409 : decode cL_law 409 = .ok (.iconst 2, 1) := by decide +kernel
theorem dL_law_410 : decode cL_law 410 = .ok (.iadd, 1) := by decide +kernel
theorem dL_law_411 : decode cL_law 411 = .ok (.iaload, 1) := by decide +kernel
theorem dL_law_412 : decode cL_law 412 = .ok (.aload_n 0, 1) := by decide +kernel
theorem dL_law_413 : decode cL_law 413 = .ok (.iload_n 3, 1) := by decide +kernel
theorem dL_law_414 : decode cL_law 414 = .ok (.iconst 3, 1) := by decide +kernel
theorem dL_law_415 : decode cL_law 415 = .ok (.iadd, 1) := by decide +kernel
theorem dL_law_416 : decode cL_law 416 = .ok (.iaload, 1) := by decide +kernel
theorem dL_law_417 : decode cL_law 417 = .ok (.invokevirtual 46, 3) := by decide +kernel
theorem dL_law_420 : decode cL_law 420 = .ok (.if_icmp .eq 784, 3) := by decide +kernel
theorem dL_law_423 : decode cL_law 423 = .ok (.iconst 0, 1) := by decide +kernel
theorem dL_law_424 : decode cL_law 424 = .ok (.ireturn, 1) := by decide +kernel
theorem dL_law_425 : decode cL_law 425 = .ok (.aload_n 1, 1) := by decide +kernel
theorem dL_law_426 : decode cL_law 426 = .ok (.aload_n 0, 1) := by decide +kernel
theorem dL_law_427 : decode cL_law 427 = .ok (.iload_n 3, 1) := by decide +kernel
theorem dL_law_428 : decode cL_law 428 = .ok (.iconst 1, 1) := by decide +kernel
theorem dL_law_429 : decode cL_law 429 = .ok (.iadd, 1) := by decide +kernel
theorem dL_law_430 : decode cL_law 430 = .ok (.iaload, 1) := by decide +kernel
theorem dL_law_431 : decode cL_law 431 = .ok (.aload_n 0, 1) := by decide +kernel
theorem dL_law_432 : decode cL_law 432 = .ok (.iload_n 3, 1) := by decide +kernel
theorem dL_law_433 : decode cL_law 433 = .ok (.iconst 2, 1) := by decide +kernel
theorem dL_law_434 : decode cL_law 434 = .ok (.iadd, 1) := by decide +kernel
theorem dL_law_435 : decode cL_law 435 = .ok (.iaload, 1) := by decide +kernel
theorem dL_law_436 : decode cL_law 436 = .ok (.aload_n 0, 1) := by decide +kernel
theorem dL_law_437 : decode cL_law 437 = .ok (.iload_n 3, 1) := by decide +kernel
theorem dL_law_438 : decode cL_law 438 = .ok (.iconst 3, 1) := by decide +kernel
theorem dL_law_439 : decode cL_law 439 = .ok (.iadd, 1) := by decide +kernel
theorem dL_law_440 : decode cL_law 440 = .ok (.iaload, 1) := by decide +kernel
theorem dL_law_441 : decode cL_law 441 = .ok (.invokevirtual 47, 3) := by decide +kernel
theorem dL_law_444 : decode cL_law 444 = .ok (.aload_n 2, 1) := by decide +kernel
theorem dL_law_445 : decode cL_law 445 = .ok (.aload_n 0, 1) := by decide +kernel
theorem dL_law_446 : decode cL_law 446 = .ok (.iload_n 3, 1) := by decide +kernel
theorem dL_law_447 : decode cL_law 447 = .ok (.iconst 1, 1) := by decide +kernel
theorem dL_law_448 : decode cL_law 448 = .ok (.iadd, 1) := by decide +kernel
theorem dL_law_449 : decode cL_law 449 = .ok (.iaload, 1) := by decide +kernel
theorem dL_law_450 : decode cL_law 450 = .ok (.aload_n 0, 1) := by decide +kernel
theorem dL_law_451 : decode cL_law 451 = .ok (.iload_n 3, 1) := by decide +kernel
theorem dL_law_452 : decode cL_law 452 = .ok (.iconst 2, 1) := by decide +kernel
theorem dL_law_453 : decode cL_law 453 = .ok (.iadd, 1) := by decide +kernel
theorem dL_law_454 : decode cL_law 454 = .ok (.iaload, 1) := by decide +kernel
theorem dL_law_455 : decode cL_law 455 = .ok (.aload_n 0, 1) := by decide +kernel
theorem dL_law_456 : decode cL_law 456 = .ok (.iload_n 3, 1) := by decide +kernel
theorem dL_law_457 : decode cL_law 457 = .ok (.iconst 3, 1) := by decide +kernel
theorem dL_law_458 : decode cL_law 458 = .ok (.iadd, 1) := by decide +kernel
theorem dL_law_459 : decode cL_law 459 = .ok (.iaload, 1) := by decide +kernel
theorem dL_law_460 : decode cL_law 460 = .ok (.invokevirtual 50, 3) := by decide +kernel
theorem dL_law_463 : decode cL_law 463 = .ok (.if_icmp .eq 741, 3) := by decide +kernel
theorem dL_law_466 : decode cL_law 466 = .ok (.iconst 0, 1) := by decide +kernel
theorem dL_law_467 : decode cL_law 467 = .ok (.ireturn, 1) := by decide +kernel
theorem dL_law_468 : decode cL_law 468 = .ok (.aload_n 1, 1) := by decide +kernel
theorem dL_law_469 : decode cL_law 469 = .ok (.aload_n 0, 1) := by decide +kernel
theorem dL_law_470 : decode cL_law 470 = .ok (.iload_n 3, 1) := by decide +kernel
theorem dL_law_471 : decode cL_law 471 = .ok (.iconst 1, 1) := by decide +kernel
theorem dL_law_472 : decode cL_law 472 = .ok (.iadd, 1) := by decide +kernel
theorem dL_law_473 : decode cL_law 473 = .ok (.iaload, 1) := by decide +kernel
theorem dL_law_474 : decode cL_law 474 = .ok (.aload_n 0, 1) := by decide +kernel
theorem dL_law_475 : decode cL_law 475 = .ok (.iload_n 3, 1) := by decide +kernel
theorem dL_law_476 : decode cL_law 476 = .ok (.iconst 2, 1) := by decide +kernel
theorem dL_law_477 : decode cL_law 477 = .ok (.iadd, 1) := by decide +kernel
theorem dL_law_478 : decode cL_law 478 = .ok (.iaload, 1) := by decide +kernel
theorem dL_law_479 : decode cL_law 479 = .ok (.aload_n 0, 1) := by decide +kernel
theorem dL_law_480 : decode cL_law 480 = .ok (.iload_n 3, 1) := by decide +kernel
theorem dL_law_481 : decode cL_law 481 = .ok (.iconst 3, 1) := by decide +kernel
theorem dL_law_482 : decode cL_law 482 = .ok (.iadd, 1) := by decide +kernel
theorem dL_law_483 : decode cL_law 483 = .ok (.iaload, 1) := by decide +kernel
theorem dL_law_484 : decode cL_law 484 = .ok (.invokevirtual 51, 3) := by decide +kernel
theorem dL_law_487 : decode cL_law 487 = .ok (.aload_n 2, 1) := by decide +kernel
theorem dL_law_488 : decode cL_law 488 = .ok (.aload_n 0, 1) := by decide +kernel
theorem dL_law_489 : decode cL_law 489 = .ok (.iload_n 3, 1) := by decide +kernel
theorem dL_law_490 : decode cL_law 490 = .ok (.iconst 1, 1) := by decide +kernel
theorem dL_law_491 : decode cL_law 491 = .ok (.iadd, 1) := by decide +kernel
theorem dL_law_492 : decode cL_law 492 = .ok (.iaload, 1) := by decide +kernel
theorem dL_law_493 : decode cL_law 493 = .ok (.aload_n 0, 1) := by decide +kernel
theorem dL_law_494 : decode cL_law 494 = .ok (.iload_n 3, 1) := by decide +kernel
theorem dL_law_495 : decode cL_law 495 = .ok (.iconst 2, 1) := by decide +kernel
theorem dL_law_496 : decode cL_law 496 = .ok (.iadd, 1) := by decide +kernel
theorem dL_law_497 : decode cL_law 497 = .ok (.iaload, 1) := by decide +kernel
theorem dL_law_498 : decode cL_law 498 = .ok (.aload_n 0, 1) := by decide +kernel
theorem dL_law_499 : decode cL_law 499 = .ok (.iload_n 3, 1) := by decide +kernel
theorem dL_law_500 : decode cL_law 500 = .ok (.iconst 3, 1) := by decide +kernel
theorem dL_law_501 : decode cL_law 501 = .ok (.iadd, 1) := by decide +kernel
theorem dL_law_502 : decode cL_law 502 = .ok (.iaload, 1) := by decide +kernel
theorem dL_law_503 : decode cL_law 503 = .ok (.invokevirtual 54, 3) := by decide +kernel
theorem dL_law_506 : decode cL_law 506 = .ok (.if_icmp .eq 698, 3) := by decide +kernel
theorem dL_law_509 : decode cL_law 509 = .ok (.iconst 0, 1) := by decide +kernel
theorem dL_law_510 : decode cL_law 510 = .ok (.ireturn, 1) := by decide +kernel
theorem dL_law_511 : decode cL_law 511 = .ok (.aload_n 1, 1) := by decide +kernel
theorem dL_law_512 : decode cL_law 512 = .ok (.aload_n 0, 1) := by decide +kernel
theorem dL_law_513 : decode cL_law 513 = .ok (.iload_n 3, 1) := by decide +kernel
theorem dL_law_514 : decode cL_law 514 = .ok (.iconst 1, 1) := by decide +kernel
theorem dL_law_515 : decode cL_law 515 = .ok (.iadd, 1) := by decide +kernel
theorem dL_law_516 : decode cL_law 516 = .ok (.iaload, 1) := by decide +kernel
theorem dL_law_517 : decode cL_law 517 = .ok (.aload_n 0, 1) := by decide +kernel
theorem dL_law_518 : decode cL_law 518 = .ok (.iload_n 3, 1) := by decide +kernel
theorem dL_law_519 : decode cL_law 519 = .ok (.iconst 2, 1) := by decide +kernel
theorem dL_law_520 : decode cL_law 520 = .ok (.iadd, 1) := by decide +kernel
theorem dL_law_521 : decode cL_law 521 = .ok (.iaload, 1) := by decide +kernel
theorem dL_law_522 : decode cL_law 522 = .ok (.invokevirtual 55, 3) := by decide +kernel
theorem dL_law_525 : decode cL_law 525 = .ok (.aload_n 2, 1) := by decide +kernel
theorem dL_law_526 : decode cL_law 526 = .ok (.aload_n 0, 1) := by decide +kernel
theorem dL_law_527 : decode cL_law 527 = .ok (.iload_n 3, 1) := by decide +kernel
theorem dL_law_528 : decode cL_law 528 = .ok (.iconst 1, 1) := by decide +kernel
theorem dL_law_529 : decode cL_law 529 = .ok (.iadd, 1) := by decide +kernel
theorem dL_law_530 : decode cL_law 530 = .ok (.iaload, 1) := by decide +kernel
theorem dL_law_531 : decode cL_law 531 = .ok (.aload_n 0, 1) := by decide +kernel
theorem dL_law_532 : decode cL_law 532 = .ok (.iload_n 3, 1) := by decide +kernel
theorem dL_law_533 : decode cL_law 533 = .ok (.iconst 2, 1) := by decide +kernel
theorem dL_law_534 : decode cL_law 534 = .ok (.iadd, 1) := by decide +kernel
theorem dL_law_535 : decode cL_law 535 = .ok (.iaload, 1) := by decide +kernel
theorem dL_law_536 : decode cL_law 536 = .ok (.invokevirtual 59, 3) := by decide +kernel
theorem dL_law_539 : decode cL_law 539 = .ok (.lcmp, 1) := by decide +kernel
theorem dL_law_540 : decode cL_law 540 = .ok (.ifCond .eq 664, 3) := by decide +kernel
theorem dL_law_543 : decode cL_law 543 = .ok (.iconst 0, 1) := by decide +kernel
theorem dL_law_544 : decode cL_law 544 = .ok (.ireturn, 1) := by decide +kernel
theorem dL_law_545 : decode cL_law 545 = .ok (.aload_n 1, 1) := by decide +kernel
theorem dL_law_546 : decode cL_law 546 = .ok (.aload_n 0, 1) := by decide +kernel
theorem dL_law_547 : decode cL_law 547 = .ok (.iload_n 3, 1) := by decide +kernel
theorem dL_law_548 : decode cL_law 548 = .ok (.iconst 1, 1) := by decide +kernel
theorem dL_law_549 : decode cL_law 549 = .ok (.iadd, 1) := by decide +kernel
theorem dL_law_550 : decode cL_law 550 = .ok (.iaload, 1) := by decide +kernel
theorem dL_law_551 : decode cL_law 551 = .ok (.aload_n 0, 1) := by decide +kernel
theorem dL_law_552 : decode cL_law 552 = .ok (.iload_n 3, 1) := by decide +kernel
theorem dL_law_553 : decode cL_law 553 = .ok (.iconst 2, 1) := by decide +kernel
theorem dL_law_554 : decode cL_law 554 = .ok (.iadd, 1) := by decide +kernel
theorem dL_law_555 : decode cL_law 555 = .ok (.iaload, 1) := by decide +kernel
theorem dL_law_556 : decode cL_law 556 = .ok (.invokevirtual 60, 3) := by decide +kernel
theorem dL_law_559 : decode cL_law 559 = .ok (.aload_n 2, 1) := by decide +kernel
theorem dL_law_560 : decode cL_law 560 = .ok (.aload_n 0, 1) := by decide +kernel
theorem dL_law_561 : decode cL_law 561 = .ok (.iload_n 3, 1) := by decide +kernel
theorem dL_law_562 : decode cL_law 562 = .ok (.iconst 1, 1) := by decide +kernel
theorem dL_law_563 : decode cL_law 563 = .ok (.iadd, 1) := by decide +kernel
theorem dL_law_564 : decode cL_law 564 = .ok (.iaload, 1) := by decide +kernel
theorem dL_law_565 : decode cL_law 565 = .ok (.aload_n 0, 1) := by decide +kernel
theorem dL_law_566 : decode cL_law 566 = .ok (.iload_n 3, 1) := by decide +kernel
theorem dL_law_567 : decode cL_law 567 = .ok (.iconst 2, 1) := by decide +kernel
theorem dL_law_568 : decode cL_law 568 = .ok (.iadd, 1) := by decide +kernel
theorem dL_law_569 : decode cL_law 569 = .ok (.iaload, 1) := by decide +kernel
theorem dL_law_570 : decode cL_law 570 = .ok (.invokevirtual 63, 3) := by decide +kernel
theorem dL_law_573 : decode cL_law 573 = .ok (.if_icmp .eq 631, 3) := by decide +kernel
theorem dL_law_576 : decode cL_law 576 = .ok (.iconst 0, 1) := by decide +kernel
theorem dL_law_577 : decode cL_law 577 = .ok (.ireturn, 1) := by decide +kernel
theorem dL_law_578 : decode cL_law 578 = .ok (.aload_n 1, 1) := by decide +kernel
theorem dL_law_579 : decode cL_law 579 = .ok (.aload_n 0, 1) := by decide +kernel
theorem dL_law_580 : decode cL_law 580 = .ok (.iload_n 3, 1) := by decide +kernel
theorem dL_law_581 : decode cL_law 581 = .ok (.iconst 1, 1) := by decide +kernel
theorem dL_law_582 : decode cL_law 582 = .ok (.iadd, 1) := by decide +kernel
theorem dL_law_583 : decode cL_law 583 = .ok (.iaload, 1) := by decide +kernel
theorem dL_law_584 : decode cL_law 584 = .ok (.aload_n 0, 1) := by decide +kernel
theorem dL_law_585 : decode cL_law 585 = .ok (.iload_n 3, 1) := by decide +kernel
theorem dL_law_586 : decode cL_law 586 = .ok (.iconst 2, 1) := by decide +kernel
theorem dL_law_587 : decode cL_law 587 = .ok (.iadd, 1) := by decide +kernel
theorem dL_law_588 : decode cL_law 588 = .ok (.iaload, 1) := by decide +kernel
theorem dL_law_589 : decode cL_law 589 = .ok (.invokevirtual 64, 3) := by decide +kernel
theorem dL_law_592 : decode cL_law 592 = .ok (.aload_n 2, 1) := by decide +kernel
theorem dL_law_593 : decode cL_law 593 = .ok (.aload_n 0, 1) := by decide +kernel
theorem dL_law_594 : decode cL_law 594 = .ok (.iload_n 3, 1) := by decide +kernel
theorem dL_law_595 : decode cL_law 595 = .ok (.iconst 1, 1) := by decide +kernel
theorem dL_law_596 : decode cL_law 596 = .ok (.iadd, 1) := by decide +kernel
theorem dL_law_597 : decode cL_law 597 = .ok (.iaload, 1) := by decide +kernel
theorem dL_law_598 : decode cL_law 598 = .ok (.aload_n 0, 1) := by decide +kernel
theorem dL_law_599 : decode cL_law 599 = .ok (.iload_n 3, 1) := by decide +kernel
theorem dL_law_600 : decode cL_law 600 = .ok (.iconst 2, 1) := by decide +kernel
theorem dL_law_601 : decode cL_law 601 = .ok (.iadd, 1) := by decide +kernel
theorem dL_law_602 : decode cL_law 602 = .ok (.iaload, 1) := by decide +kernel
theorem dL_law_603 : decode cL_law 603 = .ok (.invokevirtual 67, 3) := by decide +kernel
theorem dL_law_606 : decode cL_law 606 = .ok (.if_icmp .eq 598, 3) := by decide +kernel
theorem dL_law_609 : decode cL_law 609 = .ok (.iconst 0, 1) := by decide +kernel
theorem dL_law_610 : decode cL_law 610 = .ok (.ireturn, 1) := by decide +kernel
theorem dL_law_611 : decode cL_law 611 = .ok (.aload_n 1, 1) := by decide +kernel
theorem dL_law_612 : decode cL_law 612 = .ok (.aload_n 0, 1) := by decide +kernel
theorem dL_law_613 : decode cL_law 613 = .ok (.iload_n 3, 1) := by decide +kernel
theorem dL_law_614 : decode cL_law 614 = .ok (.iconst 1, 1) := by decide +kernel
theorem dL_law_615 : decode cL_law 615 = .ok (.iadd, 1) := by decide +kernel
theorem dL_law_616 : decode cL_law 616 = .ok (.iaload, 1) := by decide +kernel
theorem dL_law_617 : decode cL_law 617 = .ok (.aload_n 0, 1) := by decide +kernel
theorem dL_law_618 : decode cL_law 618 = .ok (.iload_n 3, 1) := by decide +kernel
theorem dL_law_619 : decode cL_law 619 = .ok (.iconst 2, 1) := by decide +kernel
theorem dL_law_620 : decode cL_law 620 = .ok (.iadd, 1) := by decide +kernel
theorem dL_law_621 : decode cL_law 621 = .ok (.iaload, 1) := by decide +kernel
theorem dL_law_622 : decode cL_law 622 = .ok (.aload_n 0, 1) := by decide +kernel
theorem dL_law_623 : decode cL_law 623 = .ok (.iload_n 3, 1) := by decide +kernel
theorem dL_law_624 : decode cL_law 624 = .ok (.iconst 3, 1) := by decide +kernel
theorem dL_law_625 : decode cL_law 625 = .ok (.iadd, 1) := by decide +kernel
theorem dL_law_626 : decode cL_law 626 = .ok (.iaload, 1) := by decide +kernel
theorem dL_law_627 : decode cL_law 627 = .ok (.invokevirtual 68, 3) := by decide +kernel
theorem dL_law_630 : decode cL_law 630 = .ok (.aload_n 2, 1) := by decide +kernel
theorem dL_law_631 : decode cL_law 631 = .ok (.aload_n 0, 1) := by decide +kernel
theorem dL_law_632 : decode cL_law 632 = .ok (.iload_n 3, 1) := by decide +kernel
theorem dL_law_633 : decode cL_law 633 = .ok (.iconst 1, 1) := by decide +kernel
theorem dL_law_634 : decode cL_law 634 = .ok (.iadd, 1) := by decide +kernel
theorem dL_law_635 : decode cL_law 635 = .ok (.iaload, 1) := by decide +kernel
theorem dL_law_636 : decode cL_law 636 = .ok (.aload_n 0, 1) := by decide +kernel
theorem dL_law_637 : decode cL_law 637 = .ok (.iload_n 3, 1) := by decide +kernel
theorem dL_law_638 : decode cL_law 638 = .ok (.iconst 2, 1) := by decide +kernel
theorem dL_law_639 : decode cL_law 639 = .ok (.iadd, 1) := by decide +kernel
theorem dL_law_640 : decode cL_law 640 = .ok (.iaload, 1) := by decide +kernel
theorem dL_law_641 : decode cL_law 641 = .ok (.aload_n 0, 1) := by decide +kernel
theorem dL_law_642 : decode cL_law 642 = .ok (.iload_n 3, 1) := by decide +kernel
theorem dL_law_643 : decode cL_law 643 = .ok (.iconst 3, 1) := by decide +kernel
theorem dL_law_644 : decode cL_law 644 = .ok (.iadd, 1) := by decide +kernel
theorem dL_law_645 : decode cL_law 645 = .ok (.iaload, 1) := by decide +kernel
theorem dL_law_646 : decode cL_law 646 = .ok (.invokevirtual 71, 3) := by decide +kernel
theorem dL_law_649 : decode cL_law 649 = .ok (.if_icmp .eq 555, 3) := by decide +kernel
theorem dL_law_652 : decode cL_law 652 = .ok (.iconst 0, 1) := by decide +kernel
theorem dL_law_653 : decode cL_law 653 = .ok (.ireturn, 1) := by decide +kernel
theorem dL_law_654 : decode cL_law 654 = .ok (.aload_n 1, 1) := by decide +kernel
theorem dL_law_655 : decode cL_law 655 = .ok (.aload_n 0, 1) := by decide +kernel
theorem dL_law_656 : decode cL_law 656 = .ok (.iload_n 3, 1) := by decide +kernel
theorem dL_law_657 : decode cL_law 657 = .ok (.iconst 1, 1) := by decide +kernel
theorem dL_law_658 : decode cL_law 658 = .ok (.iadd, 1) := by decide +kernel
theorem dL_law_659 : decode cL_law 659 = .ok (.iaload, 1) := by decide +kernel
theorem dL_law_660 : decode cL_law 660 = .ok (.invokevirtual 72, 3) := by decide +kernel
theorem dL_law_663 : decode cL_law 663 = .ok (.aload_n 2, 1) := by decide +kernel
theorem dL_law_664 : decode cL_law 664 = .ok (.aload_n 0, 1) := by decide +kernel
theorem dL_law_665 : decode cL_law 665 = .ok (.iload_n 3, 1) := by decide +kernel
theorem dL_law_666 : decode cL_law 666 = .ok (.iconst 1, 1) := by decide +kernel
theorem dL_law_667 : decode cL_law 667 = .ok (.iadd, 1) := by decide +kernel
theorem dL_law_668 : decode cL_law 668 = .ok (.iaload, 1) := by decide +kernel
theorem dL_law_669 : decode cL_law 669 = .ok (.invokevirtual 75, 3) := by decide +kernel
theorem dL_law_672 : decode cL_law 672 = .ok (.if_icmp .eq 532, 3) := by decide +kernel
theorem dL_law_675 : decode cL_law 675 = .ok (.iconst 0, 1) := by decide +kernel
theorem dL_law_676 : decode cL_law 676 = .ok (.ireturn, 1) := by decide +kernel
theorem dL_law_677 : decode cL_law 677 = .ok (.aload_n 1, 1) := by decide +kernel
theorem dL_law_678 : decode cL_law 678 = .ok (.aload_n 0, 1) := by decide +kernel
theorem dL_law_679 : decode cL_law 679 = .ok (.iload_n 3, 1) := by decide +kernel
theorem dL_law_680 : decode cL_law 680 = .ok (.iconst 1, 1) := by decide +kernel
theorem dL_law_681 : decode cL_law 681 = .ok (.iadd, 1) := by decide +kernel
theorem dL_law_682 : decode cL_law 682 = .ok (.iaload, 1) := by decide +kernel
theorem dL_law_683 : decode cL_law 683 = .ok (.aload_n 0, 1) := by decide +kernel
theorem dL_law_684 : decode cL_law 684 = .ok (.iload_n 3, 1) := by decide +kernel
theorem dL_law_685 : decode cL_law 685 = .ok (.iconst 2, 1) := by decide +kernel
theorem dL_law_686 : decode cL_law 686 = .ok (.iadd, 1) := by decide +kernel
theorem dL_law_687 : decode cL_law 687 = .ok (.iaload, 1) := by decide +kernel
theorem dL_law_688 : decode cL_law 688 = .ok (.invokevirtual 76, 3) := by decide +kernel
theorem dL_law_691 : decode cL_law 691 = .ok (.aload_n 2, 1) := by decide +kernel
theorem dL_law_692 : decode cL_law 692 = .ok (.aload_n 0, 1) := by decide +kernel
theorem dL_law_693 : decode cL_law 693 = .ok (.iload_n 3, 1) := by decide +kernel
theorem dL_law_694 : decode cL_law 694 = .ok (.iconst 1, 1) := by decide +kernel
theorem dL_law_695 : decode cL_law 695 = .ok (.iadd, 1) := by decide +kernel
theorem dL_law_696 : decode cL_law 696 = .ok (.iaload, 1) := by decide +kernel
theorem dL_law_697 : decode cL_law 697 = .ok (.aload_n 0, 1) := by decide +kernel
theorem dL_law_698 : decode cL_law 698 = .ok (.iload_n 3, 1) := by decide +kernel
theorem dL_law_699 : decode cL_law 699 = .ok (.iconst 2, 1) := by decide +kernel
theorem dL_law_700 : decode cL_law 700 = .ok (.iadd, 1) := by decide +kernel
theorem dL_law_701 : decode cL_law 701 = .ok (.iaload, 1) := by decide +kernel
theorem dL_law_702 : decode cL_law 702 = .ok (.invokevirtual 79, 3) := by decide +kernel
theorem dL_law_705 : decode cL_law 705 = .ok (.if_icmp .eq 499, 3) := by decide +kernel
theorem dL_law_708 : decode cL_law 708 = .ok (.iconst 0, 1) := by decide +kernel
theorem dL_law_709 : decode cL_law 709 = .ok (.ireturn, 1) := by decide +kernel
theorem dL_law_710 : decode cL_law 710 = .ok (.aload_n 1, 1) := by decide +kernel
theorem dL_law_711 : decode cL_law 711 = .ok (.aload_n 0, 1) := by decide +kernel
theorem dL_law_712 : decode cL_law 712 = .ok (.iload_n 3, 1) := by decide +kernel
theorem dL_law_713 : decode cL_law 713 = .ok (.iconst 1, 1) := by decide +kernel
theorem dL_law_714 : decode cL_law 714 = .ok (.iadd, 1) := by decide +kernel
theorem dL_law_715 : decode cL_law 715 = .ok (.iaload, 1) := by decide +kernel
theorem dL_law_716 : decode cL_law 716 = .ok (.aload_n 0, 1) := by decide +kernel
theorem dL_law_717 : decode cL_law 717 = .ok (.iload_n 3, 1) := by decide +kernel
theorem dL_law_718 : decode cL_law 718 = .ok (.iconst 2, 1) := by decide +kernel
theorem dL_law_719 : decode cL_law 719 = .ok (.iadd, 1) := by decide +kernel
theorem dL_law_720 : decode cL_law 720 = .ok (.iaload, 1) := by decide +kernel
theorem dL_law_721 : decode cL_law 721 = .ok (.invokevirtual 80, 3) := by decide +kernel
theorem dL_law_724 : decode cL_law 724 = .ok (.aload_n 2, 1) := by decide +kernel
theorem dL_law_725 : decode cL_law 725 = .ok (.aload_n 0, 1) := by decide +kernel
theorem dL_law_726 : decode cL_law 726 = .ok (.iload_n 3, 1) := by decide +kernel
theorem dL_law_727 : decode cL_law 727 = .ok (.iconst 1, 1) := by decide +kernel
theorem dL_law_728 : decode cL_law 728 = .ok (.iadd, 1) := by decide +kernel
theorem dL_law_729 : decode cL_law 729 = .ok (.iaload, 1) := by decide +kernel
theorem dL_law_730 : decode cL_law 730 = .ok (.aload_n 0, 1) := by decide +kernel
theorem dL_law_731 : decode cL_law 731 = .ok (.iload_n 3, 1) := by decide +kernel
theorem dL_law_732 : decode cL_law 732 = .ok (.iconst 2, 1) := by decide +kernel
theorem dL_law_733 : decode cL_law 733 = .ok (.iadd, 1) := by decide +kernel
theorem dL_law_734 : decode cL_law 734 = .ok (.iaload, 1) := by decide +kernel
theorem dL_law_735 : decode cL_law 735 = .ok (.invokevirtual 83, 3) := by decide +kernel
theorem dL_law_738 : decode cL_law 738 = .ok (.if_icmp .eq 466, 3) := by decide +kernel
theorem dL_law_741 : decode cL_law 741 = .ok (.iconst 0, 1) := by decide +kernel
theorem dL_law_742 : decode cL_law 742 = .ok (.ireturn, 1) := by decide +kernel
theorem dL_law_743 : decode cL_law 743 = .ok (.aload_n 1, 1) := by decide +kernel
theorem dL_law_744 : decode cL_law 744 = .ok (.aload_n 0, 1) := by decide +kernel
theorem dL_law_745 : decode cL_law 745 = .ok (.iload_n 3, 1) := by decide +kernel
theorem dL_law_746 : decode cL_law 746 = .ok (.iconst 1, 1) := by decide +kernel
theorem dL_law_747 : decode cL_law 747 = .ok (.iadd, 1) := by decide +kernel
theorem dL_law_748 : decode cL_law 748 = .ok (.iaload, 1) := by decide +kernel
theorem dL_law_749 : decode cL_law 749 = .ok (.invokevirtual 84, 3) := by decide +kernel
theorem dL_law_752 : decode cL_law 752 = .ok (.aload_n 2, 1) := by decide +kernel
theorem dL_law_753 : decode cL_law 753 = .ok (.aload_n 0, 1) := by decide +kernel
theorem dL_law_754 : decode cL_law 754 = .ok (.iload_n 3, 1) := by decide +kernel
theorem dL_law_755 : decode cL_law 755 = .ok (.iconst 1, 1) := by decide +kernel
theorem dL_law_756 : decode cL_law 756 = .ok (.iadd, 1) := by decide +kernel
theorem dL_law_757 : decode cL_law 757 = .ok (.iaload, 1) := by decide +kernel
theorem dL_law_758 : decode cL_law 758 = .ok (.invokevirtual 87, 3) := by decide +kernel
theorem dL_law_761 : decode cL_law 761 = .ok (.if_icmp .eq 443, 3) := by decide +kernel
theorem dL_law_764 : decode cL_law 764 = .ok (.iconst 0, 1) := by decide +kernel
theorem dL_law_765 : decode cL_law 765 = .ok (.ireturn, 1) := by decide +kernel
theorem dL_law_766 : decode cL_law 766 = .ok (.aload_n 1, 1) := by decide +kernel
theorem dL_law_767 : decode cL_law 767 = .ok (.aload_n 0, 1) := by decide +kernel
theorem dL_law_768 : decode cL_law 768 = .ok (.iload_n 3, 1) := by decide +kernel
theorem dL_law_769 : decode cL_law 769 = .ok (.iconst 1, 1) := by decide +kernel
theorem dL_law_770 : decode cL_law 770 = .ok (.iadd, 1) := by decide +kernel
theorem dL_law_771 : decode cL_law 771 = .ok (.iaload, 1) := by decide +kernel
theorem dL_law_772 : decode cL_law 772 = .ok (.aload_n 0, 1) := by decide +kernel
theorem dL_law_773 : decode cL_law 773 = .ok (.iload_n 3, 1) := by decide +kernel
theorem dL_law_774 : decode cL_law 774 = .ok (.iconst 2, 1) := by decide +kernel
theorem dL_law_775 : decode cL_law 775 = .ok (.iadd, 1) := by decide +kernel
theorem dL_law_776 : decode cL_law 776 = .ok (.iaload, 1) := by decide +kernel
theorem dL_law_777 : decode cL_law 777 = .ok (.invokevirtual 88, 3) := by decide +kernel
theorem dL_law_780 : decode cL_law 780 = .ok (.aload_n 2, 1) := by decide +kernel
theorem dL_law_781 : decode cL_law 781 = .ok (.aload_n 0, 1) := by decide +kernel
theorem dL_law_782 : decode cL_law 782 = .ok (.iload_n 3, 1) := by decide +kernel
theorem dL_law_783 : decode cL_law 783 = .ok (.iconst 1, 1) := by decide +kernel
theorem dL_law_784 : decode cL_law 784 = .ok (.iadd, 1) := by decide +kernel
theorem dL_law_785 : decode cL_law 785 = .ok (.iaload, 1) := by decide +kernel
theorem dL_law_786 : decode cL_law 786 = .ok (.aload_n 0, 1) := by decide +kernel
theorem dL_law_787 : decode cL_law 787 = .ok (.iload_n 3, 1) := by decide +kernel
theorem dL_law_788 : decode cL_law 788 = .ok (.iconst 2, 1) := by decide +kernel
theorem dL_law_789 : decode cL_law 789 = .ok (.iadd, 1) := by decide +kernel
theorem dL_law_790 : decode cL_law 790 = .ok (.iaload, 1) := by decide +kernel
theorem dL_law_791 : decode cL_law 791 = .ok (.invokevirtual 91, 3) := by decide +kernel
theorem dL_law_794 : decode cL_law 794 = .ok (.if_icmp .eq 410, 3) := by decide +kernel
theorem dL_law_797 : decode cL_law 797 = .ok (.iconst 0, 1) := by decide +kernel
theorem dL_law_798 : decode cL_law 798 = .ok (.ireturn, 1) := by decide +kernel
theorem dL_law_799 : decode cL_law 799 = .ok (.aload_n 1, 1) := by decide +kernel
theorem dL_law_800 : decode cL_law 800 = .ok (.aload_n 0, 1) := by decide +kernel
theorem dL_law_801 : decode cL_law 801 = .ok (.iload_n 3, 1) := by decide +kernel
theorem dL_law_802 : decode cL_law 802 = .ok (.iconst 1, 1) := by decide +kernel
theorem dL_law_803 : decode cL_law 803 = .ok (.iadd, 1) := by decide +kernel
theorem dL_law_804 : decode cL_law 804 = .ok (.iaload, 1) := by decide +kernel
theorem dL_law_805 : decode cL_law 805 = .ok (.aload_n 0, 1) := by decide +kernel
theorem dL_law_806 : decode cL_law 806 = .ok (.iload_n 3, 1) := by decide +kernel
theorem dL_law_807 : decode cL_law 807 = .ok (.iconst 2, 1) := by decide +kernel
theorem dL_law_808 : decode cL_law 808 = .ok (.iadd, 1) := by decide +kernel
theorem dL_law_809 : decode cL_law 809 = .ok (.iaload, 1) := by decide +kernel
theorem dL_law_810 : decode cL_law 810 = .ok (.aload_n 0, 1) := by decide +kernel
theorem dL_law_811 : decode cL_law 811 = .ok (.iload_n 3, 1) := by decide +kernel
theorem dL_law_812 : decode cL_law 812 = .ok (.iconst 3, 1) := by decide +kernel
theorem dL_law_813 : decode cL_law 813 = .ok (.iadd, 1) := by decide +kernel
theorem dL_law_814 : decode cL_law 814 = .ok (.iaload, 1) := by decide +kernel
theorem dL_law_815 : decode cL_law 815 = .ok (.aload_n 0, 1) := by decide +kernel
theorem dL_law_816 : decode cL_law 816 = .ok (.iload_n 3, 1) := by decide +kernel
theorem dL_law_817 : decode cL_law 817 = .ok (.iconst 4, 1) := by decide +kernel
theorem dL_law_818 : decode cL_law 818 = .ok (.iadd, 1) := by decide +kernel
theorem dL_law_819 : decode cL_law 819 = .ok (.iaload, 1) := by decide +kernel
theorem dL_law_820 : decode cL_law 820 = .ok (.aload_n 0, 1) := by decide +kernel
theorem dL_law_821 : decode cL_law 821 = .ok (.iload_n 3, 1) := by decide +kernel
theorem dL_law_822 : decode cL_law 822 = .ok (.iconst 5, 1) := by decide +kernel
theorem dL_law_823 : decode cL_law 823 = .ok (.iadd, 1) := by decide +kernel
theorem dL_law_824 : decode cL_law 824 = .ok (.iaload, 1) := by decide +kernel
theorem dL_law_825 : decode cL_law 825 = .ok (.aload_n 0, 1) := by decide +kernel
theorem dL_law_826 : decode cL_law 826 = .ok (.iload_n 3, 1) := by decide +kernel
theorem dL_law_827 : decode cL_law 827 = .ok (.bipush 6, 2) := by decide +kernel
theorem dL_law_829 : decode cL_law 829 = .ok (.iadd, 1) := by decide +kernel
theorem dL_law_830 : decode cL_law 830 = .ok (.iaload, 1) := by decide +kernel
theorem dL_law_831 : decode cL_law 831 = .ok (.invokevirtual 92, 3) := by decide +kernel
theorem dL_law_834 : decode cL_law 834 = .ok (.aload_n 2, 1) := by decide +kernel
theorem dL_law_835 : decode cL_law 835 = .ok (.aload_n 0, 1) := by decide +kernel
theorem dL_law_836 : decode cL_law 836 = .ok (.iload_n 3, 1) := by decide +kernel
theorem dL_law_837 : decode cL_law 837 = .ok (.iconst 1, 1) := by decide +kernel
theorem dL_law_838 : decode cL_law 838 = .ok (.iadd, 1) := by decide +kernel
theorem dL_law_839 : decode cL_law 839 = .ok (.iaload, 1) := by decide +kernel
theorem dL_law_840 : decode cL_law 840 = .ok (.aload_n 0, 1) := by decide +kernel
theorem dL_law_841 : decode cL_law 841 = .ok (.iload_n 3, 1) := by decide +kernel
theorem dL_law_842 : decode cL_law 842 = .ok (.iconst 2, 1) := by decide +kernel
theorem dL_law_843 : decode cL_law 843 = .ok (.iadd, 1) := by decide +kernel
theorem dL_law_844 : decode cL_law 844 = .ok (.iaload, 1) := by decide +kernel
theorem dL_law_845 : decode cL_law 845 = .ok (.aload_n 0, 1) := by decide +kernel
theorem dL_law_846 : decode cL_law 846 = .ok (.iload_n 3, 1) := by decide +kernel
theorem dL_law_847 : decode cL_law 847 = .ok (.iconst 3, 1) := by decide +kernel
theorem dL_law_848 : decode cL_law 848 = .ok (.iadd, 1) := by decide +kernel
theorem dL_law_849 : decode cL_law 849 = .ok (.iaload, 1) := by decide +kernel
theorem dL_law_850 : decode cL_law 850 = .ok (.aload_n 0, 1) := by decide +kernel
theorem dL_law_851 : decode cL_law 851 = .ok (.iload_n 3, 1) := by decide +kernel
theorem dL_law_852 : decode cL_law 852 = .ok (.iconst 4, 1) := by decide +kernel
theorem dL_law_853 : decode cL_law 853 = .ok (.iadd, 1) := by decide +kernel
theorem dL_law_854 : decode cL_law 854 = .ok (.iaload, 1) := by decide +kernel
theorem dL_law_855 : decode cL_law 855 = .ok (.aload_n 0, 1) := by decide +kernel
theorem dL_law_856 : decode cL_law 856 = .ok (.iload_n 3, 1) := by decide +kernel
theorem dL_law_857 : decode cL_law 857 = .ok (.iconst 5, 1) := by decide +kernel
theorem dL_law_858 : decode cL_law 858 = .ok (.iadd, 1) := by decide +kernel
theorem dL_law_859 : decode cL_law 859 = .ok (.iaload, 1) := by decide +kernel
theorem dL_law_860 : decode cL_law 860 = .ok (.aload_n 0, 1) := by decide +kernel
theorem dL_law_861 : decode cL_law 861 = .ok (.iload_n 3, 1) := by decide +kernel
theorem dL_law_862 : decode cL_law 862 = .ok (.bipush 6, 2) := by decide +kernel
theorem dL_law_864 : decode cL_law 864 = .ok (.iadd, 1) := by decide +kernel
theorem dL_law_865 : decode cL_law 865 = .ok (.iaload, 1) := by decide +kernel
theorem dL_law_866 : decode cL_law 866 = .ok (.invokevirtual 96, 3) := by decide +kernel
theorem dL_law_869 : decode cL_law 869 = .ok (.if_icmp .eq 335, 3) := by decide +kernel
theorem dL_law_872 : decode cL_law 872 = .ok (.iconst 0, 1) := by decide +kernel
theorem dL_law_873 : decode cL_law 873 = .ok (.ireturn, 1) := by decide +kernel
theorem dL_law_874 : decode cL_law 874 = .ok (.aload_n 1, 1) := by decide +kernel
theorem dL_law_875 : decode cL_law 875 = .ok (.aload_n 0, 1) := by decide +kernel
theorem dL_law_876 : decode cL_law 876 = .ok (.iload_n 3, 1) := by decide +kernel
theorem dL_law_877 : decode cL_law 877 = .ok (.iconst 1, 1) := by decide +kernel
theorem dL_law_878 : decode cL_law 878 = .ok (.iadd, 1) := by decide +kernel
theorem dL_law_879 : decode cL_law 879 = .ok (.iaload, 1) := by decide +kernel
theorem dL_law_880 : decode cL_law 880 = .ok (.aload_n 0, 1) := by decide +kernel
theorem dL_law_881 : decode cL_law 881 = .ok (.iload_n 3, 1) := by decide +kernel
theorem dL_law_882 : decode cL_law 882 = .ok (.iconst 2, 1) := by decide +kernel
theorem dL_law_883 : decode cL_law 883 = .ok (.iadd, 1) := by decide +kernel
theorem dL_law_884 : decode cL_law 884 = .ok (.iaload, 1) := by decide +kernel
theorem dL_law_885 : decode cL_law 885 = .ok (.invokevirtual 97, 3) := by decide +kernel
theorem dL_law_888 : decode cL_law 888 = .ok (.aload_n 2, 1) := by decide +kernel
theorem dL_law_889 : decode cL_law 889 = .ok (.aload_n 0, 1) := by decide +kernel
theorem dL_law_890 : decode cL_law 890 = .ok (.iload_n 3, 1) := by decide +kernel
theorem dL_law_891 : decode cL_law 891 = .ok (.iconst 1, 1) := by decide +kernel
theorem dL_law_892 : decode cL_law 892 = .ok (.iadd, 1) := by decide +kernel
theorem dL_law_893 : decode cL_law 893 = .ok (.iaload, 1) := by decide +kernel
theorem dL_law_894 : decode cL_law 894 = .ok (.aload_n 0, 1) := by decide +kernel
theorem dL_law_895 : decode cL_law 895 = .ok (.iload_n 3, 1) := by decide +kernel
theorem dL_law_896 : decode cL_law 896 = .ok (.iconst 2, 1) := by decide +kernel
theorem dL_law_897 : decode cL_law 897 = .ok (.iadd, 1) := by decide +kernel
theorem dL_law_898 : decode cL_law 898 = .ok (.iaload, 1) := by decide +kernel
theorem dL_law_899 : decode cL_law 899 = .ok (.invokevirtual 100, 3) := by decide +kernel
theorem dL_law_902 : decode cL_law 902 = .ok (.if_icmp .eq 302, 3) := by decide +kernel
theorem dL_law_905 : decode cL_law 905 = .ok (.iconst 0, 1) := by decide +kernel
theorem dL_law_906 : decode cL_law 906 = .ok (.ireturn, 1) := by decide +kernel
theorem dL_law_907 : decode cL_law 907 = .ok (.aload_n 1, 1) := by decide +kernel
theorem dL_law_908 : decode cL_law 908 = .ok (.aload_n 0, 1) := by decide +kernel
theorem dL_law_909 : decode cL_law 909 = .ok (.iload_n 3, 1) := by decide +kernel
theorem dL_law_910 : decode cL_law 910 = .ok (.iconst 1, 1) := by decide +kernel
theorem dL_law_911 : decode cL_law 911 = .ok (.iadd, 1) := by decide +kernel
theorem dL_law_912 : decode cL_law 912 = .ok (.iaload, 1) := by decide +kernel
theorem dL_law_913 : decode cL_law 913 = .ok (.aload_n 0, 1) := by decide +kernel
theorem dL_law_914 : decode cL_law 914 = .ok (.iload_n 3, 1) := by decide +kernel
theorem dL_law_915 : decode cL_law 915 = .ok (.iconst 2, 1) := by decide +kernel
theorem dL_law_916 : decode cL_law 916 = .ok (.iadd, 1) := by decide +kernel
theorem dL_law_917 : decode cL_law 917 = .ok (.iaload, 1) := by decide +kernel
theorem dL_law_918 : decode cL_law 918 = .ok (.invokevirtual 101, 3) := by decide +kernel
theorem dL_law_921 : decode cL_law 921 = .ok (.aload_n 2, 1) := by decide +kernel
theorem dL_law_922 : decode cL_law 922 = .ok (.aload_n 0, 1) := by decide +kernel
theorem dL_law_923 : decode cL_law 923 = .ok (.iload_n 3, 1) := by decide +kernel
theorem dL_law_924 : decode cL_law 924 = .ok (.iconst 1, 1) := by decide +kernel
theorem dL_law_925 : decode cL_law 925 = .ok (.iadd, 1) := by decide +kernel
theorem dL_law_926 : decode cL_law 926 = .ok (.iaload, 1) := by decide +kernel
theorem dL_law_927 : decode cL_law 927 = .ok (.aload_n 0, 1) := by decide +kernel
theorem dL_law_928 : decode cL_law 928 = .ok (.iload_n 3, 1) := by decide +kernel
theorem dL_law_929 : decode cL_law 929 = .ok (.iconst 2, 1) := by decide +kernel
theorem dL_law_930 : decode cL_law 930 = .ok (.iadd, 1) := by decide +kernel
theorem dL_law_931 : decode cL_law 931 = .ok (.iaload, 1) := by decide +kernel
theorem dL_law_932 : decode cL_law 932 = .ok (.invokevirtual 104, 3) := by decide +kernel
theorem dL_law_935 : decode cL_law 935 = .ok (.if_icmp .eq 269, 3) := by decide +kernel
theorem dL_law_938 : decode cL_law 938 = .ok (.iconst 0, 1) := by decide +kernel
theorem dL_law_939 : decode cL_law 939 = .ok (.ireturn, 1) := by decide +kernel
theorem dL_law_940 : decode cL_law 940 = .ok (.aload_n 1, 1) := by decide +kernel
theorem dL_law_941 : decode cL_law 941 = .ok (.aload_n 0, 1) := by decide +kernel
theorem dL_law_942 : decode cL_law 942 = .ok (.iload_n 3, 1) := by decide +kernel
theorem dL_law_943 : decode cL_law 943 = .ok (.iconst 1, 1) := by decide +kernel
theorem dL_law_944 : decode cL_law 944 = .ok (.iadd, 1) := by decide +kernel
theorem dL_law_945 : decode cL_law 945 = .ok (.iaload, 1) := by decide +kernel
theorem dL_law_946 : decode cL_law 946 = .ok (.aload_n 0, 1) := by decide +kernel
theorem dL_law_947 : decode cL_law 947 = .ok (.iload_n 3, 1) := by decide +kernel
theorem dL_law_948 : decode cL_law 948 = .ok (.iconst 2, 1) := by decide +kernel
theorem dL_law_949 : decode cL_law 949 = .ok (.iadd, 1) := by decide +kernel
theorem dL_law_950 : decode cL_law 950 = .ok (.iaload, 1) := by decide +kernel
theorem dL_law_951 : decode cL_law 951 = .ok (.invokevirtual 105, 3) := by decide +kernel
theorem dL_law_954 : decode cL_law 954 = .ok (.aload_n 2, 1) := by decide +kernel
theorem dL_law_955 : decode cL_law 955 = .ok (.aload_n 0, 1) := by decide +kernel
theorem dL_law_956 : decode cL_law 956 = .ok (.iload_n 3, 1) := by decide +kernel
theorem dL_law_957 : decode cL_law 957 = .ok (.iconst 1, 1) := by decide +kernel
theorem dL_law_958 : decode cL_law 958 = .ok (.iadd, 1) := by decide +kernel
theorem dL_law_959 : decode cL_law 959 = .ok (.iaload, 1) := by decide +kernel
theorem dL_law_960 : decode cL_law 960 = .ok (.aload_n 0, 1) := by decide +kernel
theorem dL_law_961 : decode cL_law 961 = .ok (.iload_n 3, 1) := by decide +kernel
theorem dL_law_962 : decode cL_law 962 = .ok (.iconst 2, 1) := by decide +kernel
theorem dL_law_963 : decode cL_law 963 = .ok (.iadd, 1) := by decide +kernel
theorem dL_law_964 : decode cL_law 964 = .ok (.iaload, 1) := by decide +kernel
theorem dL_law_965 : decode cL_law 965 = .ok (.invokevirtual 108, 3) := by decide +kernel
theorem dL_law_968 : decode cL_law 968 = .ok (.if_icmp .eq 236, 3) := by decide +kernel
theorem dL_law_971 : decode cL_law 971 = .ok (.iconst 0, 1) := by decide +kernel
theorem dL_law_972 : decode cL_law 972 = .ok (.ireturn, 1) := by decide +kernel
theorem dL_law_973 : decode cL_law 973 = .ok (.aload_n 1, 1) := by decide +kernel
theorem dL_law_974 : decode cL_law 974 = .ok (.aload_n 0, 1) := by decide +kernel
theorem dL_law_975 : decode cL_law 975 = .ok (.iload_n 3, 1) := by decide +kernel
theorem dL_law_976 : decode cL_law 976 = .ok (.iconst 1, 1) := by decide +kernel
theorem dL_law_977 : decode cL_law 977 = .ok (.iadd, 1) := by decide +kernel
theorem dL_law_978 : decode cL_law 978 = .ok (.iaload, 1) := by decide +kernel
theorem dL_law_979 : decode cL_law 979 = .ok (.aload_n 0, 1) := by decide +kernel
theorem dL_law_980 : decode cL_law 980 = .ok (.iload_n 3, 1) := by decide +kernel
theorem dL_law_981 : decode cL_law 981 = .ok (.iconst 2, 1) := by decide +kernel
theorem dL_law_982 : decode cL_law 982 = .ok (.iadd, 1) := by decide +kernel
theorem dL_law_983 : decode cL_law 983 = .ok (.iaload, 1) := by decide +kernel
theorem dL_law_984 : decode cL_law 984 = .ok (.aload_n 0, 1) := by decide +kernel
theorem dL_law_985 : decode cL_law 985 = .ok (.iload_n 3, 1) := by decide +kernel
theorem dL_law_986 : decode cL_law 986 = .ok (.iconst 3, 1) := by decide +kernel
theorem dL_law_987 : decode cL_law 987 = .ok (.iadd, 1) := by decide +kernel
theorem dL_law_988 : decode cL_law 988 = .ok (.iaload, 1) := by decide +kernel
theorem dL_law_989 : decode cL_law 989 = .ok (.invokevirtual 109, 3) := by decide +kernel
theorem dL_law_992 : decode cL_law 992 = .ok (.aload_n 2, 1) := by decide +kernel
theorem dL_law_993 : decode cL_law 993 = .ok (.aload_n 0, 1) := by decide +kernel
theorem dL_law_994 : decode cL_law 994 = .ok (.iload_n 3, 1) := by decide +kernel
theorem dL_law_995 : decode cL_law 995 = .ok (.iconst 1, 1) := by decide +kernel
theorem dL_law_996 : decode cL_law 996 = .ok (.iadd, 1) := by decide +kernel
theorem dL_law_997 : decode cL_law 997 = .ok (.iaload, 1) := by decide +kernel
theorem dL_law_998 : decode cL_law 998 = .ok (.aload_n 0, 1) := by decide +kernel
theorem dL_law_999 : decode cL_law 999 = .ok (.iload_n 3, 1) := by decide +kernel
theorem dL_law_1000 : decode cL_law 1000 = .ok (.iconst 2, 1) := by decide +kernel
theorem dL_law_1001 : decode cL_law 1001 = .ok (.iadd, 1) := by decide +kernel
theorem dL_law_1002 : decode cL_law 1002 = .ok (.iaload, 1) := by decide +kernel
theorem dL_law_1003 : decode cL_law 1003 = .ok (.aload_n 0, 1) := by decide +kernel
theorem dL_law_1004 : decode cL_law 1004 = .ok (.iload_n 3, 1) := by decide +kernel
theorem dL_law_1005 : decode cL_law 1005 = .ok (.iconst 3, 1) := by decide +kernel
theorem dL_law_1006 : decode cL_law 1006 = .ok (.iadd, 1) := by decide +kernel
theorem dL_law_1007 : decode cL_law 1007 = .ok (.iaload, 1) := by decide +kernel
theorem dL_law_1008 : decode cL_law 1008 = .ok (.invokevirtual 112, 3) := by decide +kernel
theorem dL_law_1011 : decode cL_law 1011 = .ok (.if_icmp .eq 193, 3) := by decide +kernel
theorem dL_law_1014 : decode cL_law 1014 = .ok (.iconst 0, 1) := by decide +kernel
theorem dL_law_1015 : decode cL_law 1015 = .ok (.ireturn, 1) := by decide +kernel
theorem dL_law_1016 : decode cL_law 1016 = .ok (.aload_n 1, 1) := by decide +kernel
theorem dL_law_1017 : decode cL_law 1017 = .ok (.aload_n 0, 1) := by decide +kernel
theorem dL_law_1018 : decode cL_law 1018 = .ok (.iload_n 3, 1) := by decide +kernel
theorem dL_law_1019 : decode cL_law 1019 = .ok (.iconst 1, 1) := by decide +kernel
theorem dL_law_1020 : decode cL_law 1020 = .ok (.iadd, 1) := by decide +kernel
theorem dL_law_1021 : decode cL_law 1021 = .ok (.iaload, 1) := by decide +kernel
theorem dL_law_1022 : decode cL_law 1022 = .ok (.aload_n 0, 1) := by decide +kernel
theorem dL_law_1023 : decode cL_law 1023 = .ok (.iload_n 3, 1) := by decide +kernel
theorem dL_law_1024 : decode cL_law 1024 = .ok (.iconst 2, 1) := by decide +kernel
theorem dL_law_1025 : decode cL_law 1025 = .ok (.iadd, 1) := by decide +kernel
theorem dL_law_1026 : decode cL_law 1026 = .ok (.iaload, 1) := by decide +kernel
theorem dL_law_1027 : decode cL_law 1027 = .ok (.invokevirtual 113, 3) := by decide +kernel
theorem dL_law_1030 : decode cL_law 1030 = .ok (.aload_n 2, 1) := by decide +kernel
theorem dL_law_1031 : decode cL_law 1031 = .ok (.aload_n 0, 1) := by decide +kernel
theorem dL_law_1032 : decode cL_law 1032 = .ok (.iload_n 3, 1) := by decide +kernel
theorem dL_law_1033 : decode cL_law 1033 = .ok (.iconst 1, 1) := by decide +kernel
theorem dL_law_1034 : decode cL_law 1034 = .ok (.iadd, 1) := by decide +kernel
theorem dL_law_1035 : decode cL_law 1035 = .ok (.iaload, 1) := by decide +kernel
theorem dL_law_1036 : decode cL_law 1036 = .ok (.aload_n 0, 1) := by decide +kernel
theorem dL_law_1037 : decode cL_law 1037 = .ok (.iload_n 3, 1) := by decide +kernel
theorem dL_law_1038 : decode cL_law 1038 = .ok (.iconst 2, 1) := by decide +kernel
theorem dL_law_1039 : decode cL_law 1039 = .ok (.iadd, 1) := by decide +kernel
theorem dL_law_1040 : decode cL_law 1040 = .ok (.iaload, 1) := by decide +kernel
theorem dL_law_1041 : decode cL_law 1041 = .ok (.invokevirtual 116, 3) := by decide +kernel
theorem dL_law_1044 : decode cL_law 1044 = .ok (.if_icmp .eq 160, 3) := by decide +kernel
theorem dL_law_1047 : decode cL_law 1047 = .ok (.iconst 0, 1) := by decide +kernel
theorem dL_law_1048 : decode cL_law 1048 = .ok (.ireturn, 1) := by decide +kernel
theorem dL_law_1049 : decode cL_law 1049 = .ok (.aload_n 1, 1) := by decide +kernel
theorem dL_law_1050 : decode cL_law 1050 = .ok (.aload_n 0, 1) := by decide +kernel
theorem dL_law_1051 : decode cL_law 1051 = .ok (.iload_n 3, 1) := by decide +kernel
theorem dL_law_1052 : decode cL_law 1052 = .ok (.iconst 1, 1) := by decide +kernel
theorem dL_law_1053 : decode cL_law 1053 = .ok (.iadd, 1) := by decide +kernel
theorem dL_law_1054 : decode cL_law 1054 = .ok (.iaload, 1) := by decide +kernel
theorem dL_law_1055 : decode cL_law 1055 = .ok (.invokevirtual 117, 3) := by decide +kernel
theorem dL_law_1058 : decode cL_law 1058 = .ok (.aload_n 2, 1) := by decide +kernel
theorem dL_law_1059 : decode cL_law 1059 = .ok (.aload_n 0, 1) := by decide +kernel
theorem dL_law_1060 : decode cL_law 1060 = .ok (.iload_n 3, 1) := by decide +kernel
theorem dL_law_1061 : decode cL_law 1061 = .ok (.iconst 1, 1) := by decide +kernel
theorem dL_law_1062 : decode cL_law 1062 = .ok (.iadd, 1) := by decide +kernel
theorem dL_law_1063 : decode cL_law 1063 = .ok (.iaload, 1) := by decide +kernel
theorem dL_law_1064 : decode cL_law 1064 = .ok (.invokevirtual 120, 3) := by decide +kernel
theorem dL_law_1067 : decode cL_law 1067 = .ok (.if_icmp .eq 137, 3) := by decide +kernel
theorem dL_law_1070 : decode cL_law 1070 = .ok (.iconst 0, 1) := by decide +kernel
theorem dL_law_1071 : decode cL_law 1071 = .ok (.ireturn, 1) := by decide +kernel
theorem dL_law_1072 : decode cL_law 1072 = .ok (.aload_n 1, 1) := by decide +kernel
theorem dL_law_1073 : decode cL_law 1073 = .ok (.invokevirtual 121, 3) := by decide +kernel
theorem dL_law_1076 : decode cL_law 1076 = .ok (.aload_n 2, 1) := by decide +kernel
theorem dL_law_1077 : decode cL_law 1077 = .ok (.invokevirtual 125, 3) := by decide +kernel
theorem dL_law_1080 : decode cL_law 1080 = .ok (.if_icmp .eq 124, 3) := by decide +kernel
theorem dL_law_1083 : decode cL_law 1083 = .ok (.iconst 0, 1) := by decide +kernel
theorem dL_law_1084 : decode cL_law 1084 = .ok (.ireturn, 1) := by decide +kernel
theorem dL_law_1085 : decode cL_law 1085 = .ok (.aload_n 1, 1) := by decide +kernel
theorem dL_law_1086 : decode cL_law 1086 = .ok (.aload_n 0, 1) := by decide +kernel
theorem dL_law_1087 : decode cL_law 1087 = .ok (.iload_n 3, 1) := by decide +kernel
theorem dL_law_1088 : decode cL_law 1088 = .ok (.iconst 1, 1) := by decide +kernel
theorem dL_law_1089 : decode cL_law 1089 = .ok (.iadd, 1) := by decide +kernel
theorem dL_law_1090 : decode cL_law 1090 = .ok (.iaload, 1) := by decide +kernel
theorem dL_law_1091 : decode cL_law 1091 = .ok (.aload_n 0, 1) := by decide +kernel
theorem dL_law_1092 : decode cL_law 1092 = .ok (.iload_n 3, 1) := by decide +kernel
theorem dL_law_1093 : decode cL_law 1093 = .ok (.iconst 2, 1) := by decide +kernel
theorem dL_law_1094 : decode cL_law 1094 = .ok (.iadd, 1) := by decide +kernel
theorem dL_law_1095 : decode cL_law 1095 = .ok (.iaload, 1) := by decide +kernel
theorem dL_law_1096 : decode cL_law 1096 = .ok (.aload_n 0, 1) := by decide +kernel
theorem dL_law_1097 : decode cL_law 1097 = .ok (.iload_n 3, 1) := by decide +kernel
theorem dL_law_1098 : decode cL_law 1098 = .ok (.iconst 3, 1) := by decide +kernel
theorem dL_law_1099 : decode cL_law 1099 = .ok (.iadd, 1) := by decide +kernel
theorem dL_law_1100 : decode cL_law 1100 = .ok (.iaload, 1) := by decide +kernel
theorem dL_law_1101 : decode cL_law 1101 = .ok (.invokevirtual 126, 3) := by decide +kernel
theorem dL_law_1104 : decode cL_law 1104 = .ok (.aload_n 2, 1) := by decide +kernel
theorem dL_law_1105 : decode cL_law 1105 = .ok (.aload_n 0, 1) := by decide +kernel
theorem dL_law_1106 : decode cL_law 1106 = .ok (.iload_n 3, 1) := by decide +kernel
theorem dL_law_1107 : decode cL_law 1107 = .ok (.iconst 1, 1) := by decide +kernel
theorem dL_law_1108 : decode cL_law 1108 = .ok (.iadd, 1) := by decide +kernel
theorem dL_law_1109 : decode cL_law 1109 = .ok (.iaload, 1) := by decide +kernel
theorem dL_law_1110 : decode cL_law 1110 = .ok (.aload_n 0, 1) := by decide +kernel
theorem dL_law_1111 : decode cL_law 1111 = .ok (.iload_n 3, 1) := by decide +kernel
theorem dL_law_1112 : decode cL_law 1112 = .ok (.iconst 2, 1) := by decide +kernel
theorem dL_law_1113 : decode cL_law 1113 = .ok (.iadd, 1) := by decide +kernel
theorem dL_law_1114 : decode cL_law 1114 = .ok (.iaload, 1) := by decide +kernel
theorem dL_law_1115 : decode cL_law 1115 = .ok (.aload_n 0, 1) := by decide +kernel
theorem dL_law_1116 : decode cL_law 1116 = .ok (.iload_n 3, 1) := by decide +kernel
theorem dL_law_1117 : decode cL_law 1117 = .ok (.iconst 3, 1) := by decide +kernel
theorem dL_law_1118 : decode cL_law 1118 = .ok (.iadd, 1) := by decide +kernel
theorem dL_law_1119 : decode cL_law 1119 = .ok (.iaload, 1) := by decide +kernel
theorem dL_law_1120 : decode cL_law 1120 = .ok (.invokevirtual 129, 3) := by decide +kernel
theorem dL_law_1123 : decode cL_law 1123 = .ok (.if_icmp .eq 81, 3) := by decide +kernel
theorem dL_law_1126 : decode cL_law 1126 = .ok (.iconst 0, 1) := by decide +kernel
theorem dL_law_1127 : decode cL_law 1127 = .ok (.ireturn, 1) := by decide +kernel
theorem dL_law_1128 : decode cL_law 1128 = .ok (.aload_n 1, 1) := by decide +kernel
theorem dL_law_1129 : decode cL_law 1129 = .ok (.aload_n 0, 1) := by decide +kernel
theorem dL_law_1130 : decode cL_law 1130 = .ok (.iload_n 3, 1) := by decide +kernel
theorem dL_law_1131 : decode cL_law 1131 = .ok (.iconst 1, 1) := by decide +kernel
theorem dL_law_1132 : decode cL_law 1132 = .ok (.iadd, 1) := by decide +kernel
theorem dL_law_1133 : decode cL_law 1133 = .ok (.iaload, 1) := by decide +kernel
theorem dL_law_1134 : decode cL_law 1134 = .ok (.invokevirtual 130, 3) := by decide +kernel
theorem dL_law_1137 : decode cL_law 1137 = .ok (.aload_n 2, 1) := by decide +kernel
theorem dL_law_1138 : decode cL_law 1138 = .ok (.aload_n 0, 1) := by decide +kernel
theorem dL_law_1139 : decode cL_law 1139 = .ok (.iload_n 3, 1) := by decide +kernel
theorem dL_law_1140 : decode cL_law 1140 = .ok (.iconst 1, 1) := by decide +kernel
theorem dL_law_1141 : decode cL_law 1141 = .ok (.iadd, 1) := by decide +kernel
theorem dL_law_1142 : decode cL_law 1142 = .ok (.iaload, 1) := by decide +kernel
theorem dL_law_1143 : decode cL_law 1143 = .ok (.invokevirtual 133, 3) := by decide +kernel
theorem dL_law_1146 : decode cL_law 1146 = .ok (.if_icmp .eq 58, 3) := by decide +kernel
theorem dL_law_1149 : decode cL_law 1149 = .ok (.iconst 0, 1) := by decide +kernel
theorem dL_law_1150 : decode cL_law 1150 = .ok (.ireturn, 1) := by decide +kernel
theorem dL_law_1151 : decode cL_law 1151 = .ok (.aload_n 1, 1) := by decide +kernel
theorem dL_law_1152 : decode cL_law 1152 = .ok (.aload_n 0, 1) := by decide +kernel
theorem dL_law_1153 : decode cL_law 1153 = .ok (.iload_n 3, 1) := by decide +kernel
theorem dL_law_1154 : decode cL_law 1154 = .ok (.iconst 1, 1) := by decide +kernel
theorem dL_law_1155 : decode cL_law 1155 = .ok (.iadd, 1) := by decide +kernel
theorem dL_law_1156 : decode cL_law 1156 = .ok (.iaload, 1) := by decide +kernel
theorem dL_law_1157 : decode cL_law 1157 = .ok (.aload_n 0, 1) := by decide +kernel
theorem dL_law_1158 : decode cL_law 1158 = .ok (.iload_n 3, 1) := by decide +kernel
theorem dL_law_1159 : decode cL_law 1159 = .ok (.iconst 2, 1) := by decide +kernel
theorem dL_law_1160 : decode cL_law 1160 = .ok (.iadd, 1) := by decide +kernel
theorem dL_law_1161 : decode cL_law 1161 = .ok (.iaload, 1) := by decide +kernel
theorem dL_law_1162 : decode cL_law 1162 = .ok (.aload_n 0, 1) := by decide +kernel
theorem dL_law_1163 : decode cL_law 1163 = .ok (.iload_n 3, 1) := by decide +kernel
theorem dL_law_1164 : decode cL_law 1164 = .ok (.iconst 3, 1) := by decide +kernel
theorem dL_law_1165 : decode cL_law 1165 = .ok (.iadd, 1) := by decide +kernel
theorem dL_law_1166 : decode cL_law 1166 = .ok (.iaload, 1) := by decide +kernel
theorem dL_law_1167 : decode cL_law 1167 = .ok (.aload_n 0, 1) := by decide +kernel
theorem dL_law_1168 : decode cL_law 1168 = .ok (.iload_n 3, 1) := by decide +kernel
theorem dL_law_1169 : decode cL_law 1169 = .ok (.iconst 4, 1) := by decide +kernel
theorem dL_law_1170 : decode cL_law 1170 = .ok (.iadd, 1) := by decide +kernel
theorem dL_law_1171 : decode cL_law 1171 = .ok (.iaload, 1) := by decide +kernel
theorem dL_law_1172 : decode cL_law 1172 = .ok (.invokevirtual 134, 3) := by decide +kernel
theorem dL_law_1175 : decode cL_law 1175 = .ok (.aload_n 2, 1) := by decide +kernel
theorem dL_law_1176 : decode cL_law 1176 = .ok (.aload_n 0, 1) := by decide +kernel
theorem dL_law_1177 : decode cL_law 1177 = .ok (.iload_n 3, 1) := by decide +kernel
theorem dL_law_1178 : decode cL_law 1178 = .ok (.iconst 1, 1) := by decide +kernel
theorem dL_law_1179 : decode cL_law 1179 = .ok (.iadd, 1) := by decide +kernel
theorem dL_law_1180 : decode cL_law 1180 = .ok (.iaload, 1) := by decide +kernel
theorem dL_law_1181 : decode cL_law 1181 = .ok (.aload_n 0, 1) := by decide +kernel
theorem dL_law_1182 : decode cL_law 1182 = .ok (.iload_n 3, 1) := by decide +kernel
theorem dL_law_1183 : decode cL_law 1183 = .ok (.iconst 2, 1) := by decide +kernel
theorem dL_law_1184 : decode cL_law 1184 = .ok (.iadd, 1) := by decide +kernel
theorem dL_law_1185 : decode cL_law 1185 = .ok (.iaload, 1) := by decide +kernel
theorem dL_law_1186 : decode cL_law 1186 = .ok (.aload_n 0, 1) := by decide +kernel
theorem dL_law_1187 : decode cL_law 1187 = .ok (.iload_n 3, 1) := by decide +kernel
theorem dL_law_1188 : decode cL_law 1188 = .ok (.iconst 3, 1) := by decide +kernel
theorem dL_law_1189 : decode cL_law 1189 = .ok (.iadd, 1) := by decide +kernel
theorem dL_law_1190 : decode cL_law 1190 = .ok (.iaload, 1) := by decide +kernel
theorem dL_law_1191 : decode cL_law 1191 = .ok (.aload_n 0, 1) := by decide +kernel
theorem dL_law_1192 : decode cL_law 1192 = .ok (.iload_n 3, 1) := by decide +kernel
theorem dL_law_1193 : decode cL_law 1193 = .ok (.iconst 4, 1) := by decide +kernel
theorem dL_law_1194 : decode cL_law 1194 = .ok (.iadd, 1) := by decide +kernel
theorem dL_law_1195 : decode cL_law 1195 = .ok (.iaload, 1) := by decide +kernel
theorem dL_law_1196 : decode cL_law 1196 = .ok (.invokevirtual 138, 3) := by decide +kernel
theorem dL_law_1199 : decode cL_law 1199 = .ok (.if_icmp .eq 5, 3) := by decide +kernel
theorem dL_law_1202 : decode cL_law 1202 = .ok (.iconst 0, 1) := by decide +kernel
theorem dL_law_1203 : decode cL_law 1203 = .ok (.ireturn, 1) := by decide +kernel
theorem dL_law_1204 : decode cL_law 1204 = .ok (.iinc 3 7, 3) := by decide +kernel
theorem dL_law_1207 : decode cL_law 1207 = .ok (.goto (-1189), 3) := by decide +kernel
theorem dL_law_1210 : decode cL_law 1210 = .ok (.iconst 1, 1) := by decide +kernel
theorem dL_law_1211 : decode cL_law 1211 = .ok (.ireturn, 1) := by decide +kernel
