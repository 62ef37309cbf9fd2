theorem dX10_readNumber_109 : decode cX10_readNumber 109 = .ok (.iconst 0, 1) := by decide +kernel
theorem dX10_readNumber_110 : decode cX10_readNumber 110 = .ok (.ireturn, 1) := by decide +kernel
theorem dX10_readWord_0 : decode cX10_readWord 0 = .ok (.aload_n 0, 1) := by decide +kernel
theorem dX10_readWord_1 : decode cX10_readWord 1 = .ok (.iconst 0, 1) := by decide +kernel
theorem dX10_readWord_2 : decode cX10_readWord 2 = .ok (.putfield 186, 3) := by decide +kernel
theorem dX10_readWord_5 : decode cX10_readWord 5 = .ok (.aload_n 0, 1) := by decide +kernel
theorem dX10_readWord_6 : decode cX10_readWord 6 = .ok (.invokevirtual 173, 3) := by decide +kernel
theorem dX10_readWord_9 : decode cX10_readWord 9 = .ok (.aload_n 0, 1) := by decide +kernel
theorem dX10_readWord_10 : decode cX10_readWord 10 = .ok (.invokevirtual 179, 3) := by decide +kernel
theorem dX10_readWord_13 : decode cX10_readWord 13 = .ok (.bipush 97, 2) := by decide +kernel
theorem dX10_readWord_15 : decode cX10_readWord 15 = .ok (.bipush 122, 2) := by decide +kernel
theorem dX10_readWord_17 : decode cX10_readWord 17 = .ok (.invokestatic 133, 3) := by decide +kernel
theorem dX10_readWord_20 : decode cX10_readWord 20 = .ok (.ifCond .ne 17, 3) := by decide +kernel
theorem dX10_readWord_23 : decode cX10_readWord 23 = .ok (.aload_n 0, 1) := by decide +kernel
theorem dX10_readWord_24 : decode cX10_readWord 24 = .ok (.invokevirtual 179, 3) := by decide +kernel
theorem dX10_readWord_27 : decode cX10_readWord 27 = .ok (.bipush 65, 2) := by decide +kernel
theorem dX10_readWord_29 : decode cX10_readWord 29 = .ok (.bipush 90, 2) := by decide +kernel
theorem dX10_readWord_31 : decode cX10_readWord 31 = .ok (.invokestatic 133, 3) := by decide +kernel
theorem dX10_readWord_34 : decode cX10_readWord 34 = .ok (.ifCond .eq 170, 3) := by decide +kernel
theorem dX10_readWord_37 : decode cX10_readWord 37 = .ok (.aload_n 0, 1) := by decide +kernel
theorem dX10_readWord_38 : decode cX10_readWord 38 = .ok (.invokevirtual 179, 3) := by decide +kernel
theorem dX10_readWord_41 : decode cX10_readWord 41 = .ok (.bipush 97, 2) := by decide +kernel
theorem dX10_readWord_43 : decode cX10_readWord 43 = .ok (.if_icmp .lt 7, 3) := by decide +kernel
theorem dX10_readWord_46 : decode cX10_readWord 46 = .ok (.iconst 1, 1) := by decide +kernel
theorem dX10_readWord_47 : decode cX10_readWord 47 = .ok (.goto 4, 3) := by decide +kernel
theorem dX10_readWord_50 : decode cX10_readWord 50 = .ok (.iconst 0, 1) := by decide +kernel
theorem dX10_readWord_51 : decode cX10_readWord 51 = .ok (.istore_n 3, 1) := by decide +kernel
theorem dX10_readWord_52 : decode cX10_readWord 52 = .ok (.iload_n 3, 1) := by decide +kernel
theorem dX10_readWord_53 : decode cX10_readWord 53 = .ok (.ifCond .eq 13, 3) := by decide +kernel
theorem dX10_readWord_56 : decode cX10_readWord 56 = .ok (.aload_n 0, 1) := by decide +kernel
theorem dX10_readWord_57 : decode cX10_readWord 57 = .ok (.invokevirtual 179, 3) := by decide +kernel
theorem dX10_readWord_60 : decode cX10_readWord 60 = .ok (.bipush 97, 2) := by decide +kernel
theorem dX10_readWord_62 : decode cX10_readWord 62 = .ok (.isub, 1) := by decide +kernel
theorem dX10_readWord_63 : decode cX10_readWord 63 = .ok (.goto 10, 3) := by decide +kernel
theorem dX10_readWord_66 : decode cX10_readWord 66 = .ok (.aload_n 0, 1) := by decide +kernel
theorem dX10_readWord_67 : decode cX10_readWord 67 = .ok (.invokevirtual 179, 3) := by decide +kernel
theorem dX10_readWord_70 : decode cX10_readWord 70 = .ok (.bipush 65, 2) := by decide +kernel
theorem dX10_readWord_72 : decode cX10_readWord 72 = .ok (.isub, 1) := by decide +kernel
theorem dX10_readWord_73 : decode cX10_readWord 73 = .ok (.istore 4, 2) := by decide +kernel
theorem dX10_readWord_75 : decode cX10_readWord 75 = .ok (.iload_n 3, 1) := by decide +kernel
theorem dX10_readWord_76 : decode cX10_readWord 76 = .ok (.ifCond .eq 10, 3) := by decide +kernel
theorem dX10_readWord_79 : decode cX10_readWord 79 = .ok (.iload 4, 2) := by decide +kernel
theorem dX10_readWord_81 : decode cX10_readWord 81 = .ok (.iconst 1, 1) := by decide +kernel
theorem dX10_readWord_82 : decode cX10_readWord 82 = .ok (.iadd, 1) := by decide +kernel
theorem dX10_readWord_83 : decode cX10_readWord 83 = .ok (.goto 8, 3) := by decide +kernel
theorem dX10_readWord_86 : decode cX10_readWord 86 = .ok (.iload 4, 2) := by decide +kernel
theorem dX10_readWord_88 : decode cX10_readWord 88 = .ok (.ineg, 1) := by decide +kernel
theorem dX10_readWord_89 : decode cX10_readWord 89 = .ok (.iconst 1, 1) := by decide +kernel
theorem dX10_readWord_90 : decode cX10_readWord 90 = .ok (.isub, 1) := by decide +kernel
theorem dX10_readWord_91 : decode cX10_readWord 91 = .ok (.istore 5, 2) := by decide +kernel
theorem dX10_readWord_93 : decode cX10_readWord 93 = .ok (.iload 4, 2) := by decide +kernel
theorem dX10_readWord_95 : decode cX10_readWord 95 = .ok (.aload_n 0, 1) := by decide +kernel
theorem dX10_readWord_96 : decode cX10_readWord 96 = .ok (.getfield 13, 3) := by decide +kernel
theorem dX10_readWord_99 : decode cX10_readWord 99 = .ok (.iload_n 1, 1) := by decide +kernel
theorem dX10_readWord_100 : decode cX10_readWord 100 = .ok (.iaload, 1) := by decide +kernel
theorem dX10_readWord_101 : decode cX10_readWord 101 = .ok (.if_icmp .ge 15, 3) := by decide +kernel
theorem dX10_readWord_104 : decode cX10_readWord 104 = .ok (.aload_n 0, 1) := by decide +kernel
theorem dX10_readWord_105 : decode cX10_readWord 105 = .ok (.getfield 186, 3) := by decide +kernel
theorem dX10_readWord_108 : decode cX10_readWord 108 = .ok (.iload_n 2, 1) := by decide +kernel
theorem dX10_readWord_109 : decode cX10_readWord 109 = .ok (.if_icmp .ge 7, 3) := by decide +kernel
theorem dX10_readWord_112 : decode cX10_readWord 112 = .ok (.iconst 1, 1) := by decide +kernel
theorem dX10_readWord_113 : decode cX10_readWord 113 = .ok (.goto 4, 3) := by decide +kernel
theorem dX10_readWord_116 : decode cX10_readWord 116 = .ok (.iconst 0, 1) := by decide +kernel
theorem dX10_readWord_117 : decode cX10_readWord 117 = .ok (.istore 6, 2) := by decide +kernel
theorem dX10_readWord_119 : decode cX10_readWord 119 = .ok (.iload 6, 2) := by decide +kernel
theorem dX10_readWord_121 : decode cX10_readWord 121 = .ok (.ifCond .eq 36, 3) := by decide +kernel
theorem dX10_readWord_124 : decode cX10_readWord 124 = .ok (.aload_n 0, 1) := by decide +kernel
theorem dX10_readWord_125 : decode cX10_readWord 125 = .ok (.getfield 186, 3) := by decide +kernel
theorem dX10_readWord_128 : decode cX10_readWord 128 = .ok (.ifCond .le 38, 3) := by decide +kernel
theorem dX10_readWord_131 : decode cX10_readWord 131 = .ok (.aload_n 0, 1) := by decide +kernel
theorem dX10_readWord_132 : decode cX10_readWord 132 = .ok (.iload_n 1, 1) := by decide +kernel
theorem dX10_readWord_133 : decode cX10_readWord 133 = .ok (.aload_n 0, 1) := by decide +kernel
theorem dX10_readWord_134 : decode cX10_readWord 134 = .ok (.getfield 34, 3) := by decide +kernel
theorem dX10_readWord_137 : decode cX10_readWord 137 = .ok (.aload_n 0, 1) := by decide +kernel
theorem dX10_readWord_138 : decode cX10_readWord 138 = .ok (.getfield 186, 3) := by decide +kernel
theorem dX10_readWord_141 : decode cX10_readWord 141 = .ok (.iconst 1, 1) := by decide +kernel
theorem dX10_readWord_142 : decode cX10_readWord 142 = .ok (.isub, 1) := by decide +kernel
theorem dX10_readWord_143 : decode cX10_readWord 143 = .ok (.iaload, 1) := by decide +kernel
theorem dX10_readWord_144 : decode cX10_readWord 144 = .ok (.invokevirtual 189, 3) := by decide +kernel
theorem dX10_readWord_147 : decode cX10_readWord 147 = .ok (.aload_n 0, 1) := by decide +kernel
theorem dX10_readWord_148 : decode cX10_readWord 148 = .ok (.iload_n 1, 1) := by decide +kernel
theorem dX10_readWord_149 : decode cX10_readWord 149 = .ok (.iload 5, 2) := by decide +kernel
theorem dX10_readWord_151 : decode cX10_readWord 151 = .ok (.invokevirtual 145, 3) := by decide +kernel
theorem dX10_readWord_154 : decode cX10_readWord 154 = .ok (.if_icmp .eq 12, 3) := by decide +kernel
theorem dX10_readWord_157 : decode cX10_readWord 157 = .ok (.aload_n 0, 1) := by decide +kernel
theorem dX10_readWord_158 : decode cX10_readWord 158 = .ok (.aload_n 0, 1) := by decide +kernel
theorem dX10_readWord_159 : decode cX10_readWord 159 = .ok (.getfield 167, 3) := by decide +kernel
theorem dX10_readWord_162 : decode cX10_readWord 162 = .ok (.invokevirtual 183, 3) := by decide +kernel
theorem dX10_readWord_165 : decode cX10_readWord 165 = .ok (.ireturn, 1) := by decide +kernel
theorem dX10_readWord_166 : decode cX10_readWord 166 = .ok (.aload_n 0, 1) := by decide +kernel
theorem dX10_readWord_167 : decode cX10_readWord 167 = .ok (.getfield 34, 3) := by decide +kernel
theorem dX10_readWord_170 : decode cX10_readWord 170 = .ok (.aload_n 0, 1) := by decide +kernel
theorem dX10_readWord_171 : decode cX10_readWord 171 = .ok (.getfield 186, 3) := by decide +kernel
theorem dX10_readWord_174 : decode cX10_readWord 174 = .ok (.iload 5, 2) := by decide +kernel
theorem dX10_readWord_176 : decode cX10_readWord 176 = .ok (.iastore, 1) := by decide +kernel
theorem dX10_readWord_177 : decode cX10_readWord 177 = .ok (.aload_n 0, 1) := by decide +kernel
theorem dX10_readWord_178 : decode cX10_readWord 178 = .ok (.dup, 1) := by decide +kernel
theorem dX10_readWord_179 : decode cX10_readWord 179 = .ok (.getfield 186, 3) := by decide +kernel
theorem dX10_readWord_182 : decode cX10_readWord 182 = .ok (.iconst 1, 1) := by decide +kernel
theorem dX10_readWord_183 : decode cX10_readWord 183 = .ok (.iadd, 1) := by decide +kernel
theorem dX10_readWord_184 : decode cX10_readWord 184 = .ok (.putfield 186, 3) := by decide +kernel
theorem dX10_readWord_187 : decode cX10_readWord 187 = .ok (.aload_n 0, 1) := by decide +kernel
theorem dX10_readWord_188 : decode cX10_readWord 188 = .ok (.dup, 1) := by decide +kernel
theorem dX10_readWord_189 : decode cX10_readWord 189 = .ok (.getfield 167, 3) := by decide +kernel
theorem dX10_readWord_192 : decode cX10_readWord 192 = .ok (.iconst 1, 1) := by decide +kernel
theorem dX10_readWord_193 : decode cX10_readWord 193 = .ok (.iadd, 1) := by decide +kernel
theorem dX10_readWord_194 : decode cX10_readWord 194 = .ok (.putfield 167, 3) := by decide +kernel
theorem dX10_readWord_197 : decode cX10_readWord 197 = .ok (.aload_n 0, 1) := by decide +kernel
theorem dX10_readWord_198 : decode cX10_readWord 198 = .ok (.invokevirtual 173, 3) := by decide +kernel
theorem dX10_readWord_201 : decode cX10_readWord 201 = .ok (.goto (-192), 3) := by decide +kernel
theorem dX10_readWord_204 : decode cX10_readWord 204 = .ok (.iconst 1, 1) := by decide +kernel
theorem dX10_readWord_205 : decode cX10_readWord 205 = .ok (.ireturn, 1) := by decide +kernel
theorem dX10_readRim_0 : decode cX10_readRim 0 = .ok (.aload_n 0, 1) := by decide +kernel
theorem dX10_readRim_1 : decode cX10_readRim 1 = .ok (.iload_n 1, 1) := by decide +kernel
theorem dX10_readRim_2 : decode cX10_readRim 2 = .ok (.bipush 8, 2) := by decide +kernel
theorem dX10_readRim_4 : decode cX10_readRim 4 = .ok (.invokevirtual 192, 3) := by decide +kernel
theorem dX10_readRim_7 : decode cX10_readRim 7 = .ok (.ifCond .ne 5, 3) := by decide +kernel
theorem dX10_readRim_10 : decode cX10_readRim 10 = .ok (.iconst 0, 1) := by decide +kernel
theorem dX10_readRim_11 : decode cX10_readRim 11 = .ok (.ireturn, 1) := by decide +kernel
theorem dX10_readRim_12 : decode cX10_readRim 12 = .ok (.aload_n 0, 1) := by decide +kernel
theorem dX10_readRim_13 : decode cX10_readRim 13 = .ok (.getfield 186, 3) := by decide +kernel
theorem dX10_readRim_16 : decode cX10_readRim 16 = .ok (.ifCond .le 37, 3) := by decide +kernel
theorem dX10_readRim_19 : decode cX10_readRim 19 = .ok (.aload_n 0, 1) := by decide +kernel
theorem dX10_readRim_20 : decode cX10_readRim 20 = .ok (.iload_n 1, 1) := by decide +kernel
theorem dX10_readRim_21 : decode cX10_readRim 21 = .ok (.aload_n 0, 1) := by decide +kernel
theorem dX10_readRim_22 : decode cX10_readRim 22 = .ok (.getfield 34, 3) := by decide +kernel
theorem dX10_readRim_25 : decode cX10_readRim 25 = .ok (.aload_n 0, 1) := by decide +kernel
theorem dX10_readRim_26 : decode cX10_readRim 26 = .ok (.getfield 186, 3) := by decide +kernel
theorem dX10_readRim_29 : decode cX10_readRim 29 = .ok (.iconst 1, 1) := by decide +kernel
theorem dX10_readRim_30 : decode cX10_readRim 30 = .ok (.isub, 1) := by decide +kernel
theorem dX10_readRim_31 : decode cX10_readRim 31 = .ok (.iaload, 1) := by decide +kernel
theorem dX10_readRim_32 : decode cX10_readRim 32 = .ok (.invokevirtual 189, 3) := by decide +kernel
theorem dX10_readRim_35 : decode cX10_readRim 35 = .ok (.aload_n 0, 1) := by decide +kernel
theorem dX10_readRim_36 : decode cX10_readRim 36 = .ok (.iload_n 1, 1) := by decide +kernel
theorem dX10_readRim_37 : decode cX10_readRim 37 = .ok (.aload_n 0, 1) := by decide +kernel
theorem dX10_readRim_38 : decode cX10_readRim 38 = .ok (.getfield 34, 3) := by decide +kernel
theorem dX10_readRim_41 : decode cX10_readRim 41 = .ok (.iconst 0, 1) := by decide +kernel
theorem dX10_readRim_42 : decode cX10_readRim 42 = .ok (.iaload, 1) := by decide +kernel
theorem dX10_readRim_43 : decode cX10_readRim 43 = .ok (.invokevirtual 145, 3) := by decide +kernel
theorem dX10_readRim_46 : decode cX10_readRim 46 = .ok (.if_icmp .ne 7, 3) := by decide +kernel
theorem dX10_readRim_49 : decode cX10_readRim 49 = .ok (.iconst 1, 1) := by decide +kernel
theorem dX10_readRim_50 : decode cX10_readRim 50 = .ok (.goto 4, 3) := by decide +kernel
theorem dX10_readRim_53 : decode cX10_readRim 53 = .ok (.iconst 0, 1) := by decide +kernel
theorem dX10_readRim_54 : decode cX10_readRim 54 = .ok (.istore_n 2, 1) := by decide +kernel
theorem dX10_readRim_55 : decode cX10_readRim 55 = .ok (.iload_n 2, 1) := by decide +kernel
theorem dX10_readRim_56 : decode cX10_readRim 56 = .ok (.ifCond .ne 14, 3) := by decide +kernel
theorem dX10_readRim_59 : decode cX10_readRim 59 = .ok (.aload_n 0, 1) := by decide +kernel
theorem dX10_readRim_60 : decode cX10_readRim 60 = .ok (.aload_n 0, 1) := by decide +kernel
theorem dX10_readRim_61 : decode cX10_readRim 61 = .ok (.getfield 167, 3) := by decide +kernel
theorem dX10_readRim_64 : decode cX10_readRim 64 = .ok (.invokevirtual 183, 3) := by decide +kernel
theorem dX10_readRim_67 : decode cX10_readRim 67 = .ok (.ifCond .eq 7, 3) := by decide +kernel
theorem dX10_readRim_70 : decode cX10_readRim 70 = .ok (.iconst 1, 1) := by decide +kernel
theorem dX10_readRim_71 : decode cX10_readRim 71 = .ok (.goto 4, 3) := by decide +kernel
theorem dX10_readRim_74 : decode cX10_readRim 74 = .ok (.iconst 0, 1) := by decide +kernel
theorem dX10_readRim_75 : decode cX10_readRim 75 = .ok (.ireturn, 1) := by decide +kernel
theorem dX10_addFace_0 : decode cX10_addFace 0 = .ok (.aload_n 0, 1) := by decide +kernel
theorem dX10_addFace_1 : decode cX10_addFace 1 = .ok (.getfield 16, 3) := by decide +kernel
theorem dX10_addFace_4 : decode cX10_addFace 4 = .ok (.iload_n 1, 1) := by decide +kernel
theorem dX10_addFace_5 : decode cX10_addFace 5 = .ok (.iaload, 1) := by decide +kernel
theorem dX10_addFace_6 : decode cX10_addFace 6 = .ok (.istore_n 2, 1) := by decide +kernel
theorem dX10_addFace_7 : decode cX10_addFace 7 = .ok (.aload_n 0, 1) := by decide +kernel
theorem dX10_addFace_8 : decode cX10_addFace 8 = .ok (.getfield 25, 3) := by decide +kernel
theorem dX10_addFace_11 : decode cX10_addFace 11 = .ok (.bipush 32, 2) := by decide +kernel
theorem dX10_addFace_13 : decode cX10_addFace 13 = .ok (.iload_n 1, 1) := by decide +kernel
theorem dX10_addFace_14 : decode cX10_addFace 14 = .ok (.imul, 1) := by decide +kernel
theorem dX10_addFace_15 : decode cX10_addFace 15 = .ok (.iload_n 2, 1) := by decide +kernel
theorem dX10_addFace_16 : decode cX10_addFace 16 = .ok (.iadd, 1) := by decide +kernel
theorem dX10_addFace_17 : decode cX10_addFace 17 = .ok (.aload_n 0, 1) := by decide +kernel
theorem dX10_addFace_18 : decode cX10_addFace 18 = .ok (.getfield 186, 3) := by decide +kernel
theorem dX10_addFace_21 : decode cX10_addFace 21 = .ok (.iastore, 1) := by decide +kernel
theorem dX10_addFace_22 : decode cX10_addFace 22 = .ok (.iconst 0, 1) := by decide +kernel
theorem dX10_addFace_23 : decode cX10_addFace 23 = .ok (.istore_n 3, 1) := by decide +kernel
theorem dX10_addFace_24 : decode cX10_addFace 24 = .ok (.iload_n 3, 1) := by decide +kernel
theorem dX10_addFace_25 : decode cX10_addFace 25 = .ok (.aload_n 0, 1) := by decide +kernel
theorem dX10_addFace_26 : decode cX10_addFace 26 = .ok (.getfield 186, 3) := by decide +kernel
theorem dX10_addFace_29 : decode cX10_addFace 29 = .ok (.if_icmp .ge 31, 3) := by decide +kernel
theorem dX10_addFace_32 : decode cX10_addFace 32 = .ok (.aload_n 0, 1) := by decide +kernel
theorem dX10_addFace_33 : decode cX10_addFace 33 = .ok (.getfield 28, 3) := by decide +kernel
theorem dX10_addFace_36 : decode cX10_addFace 36 = .ok (.bipush 8, 2) := by decide +kernel
theorem dX10_addFace_38 : decode cX10_addFace 38 = .ok (.bipush 32, 2) := by decide +kernel
theorem dX10_addFace_40 : decode cX10_addFace 40 = .ok (.iload_n 1, 1) := by decide +kernel
theorem dX10_addFace_41 : decode cX10_addFace 41 = .ok (.imul, 1) := by decide +kernel
theorem dX10_addFace_42 : decode cX10_addFace 42 = .ok (.iload_n 2, 1) := by decide +kernel
theorem dX10_addFace_43 : decode cX10_addFace 43 = .ok (.iadd, 1) := by decide +kernel
theorem dX10_addFace_44 : decode cX10_addFace 44 = .ok (.imul, 1) := by decide +kernel
theorem dX10_addFace_45 : decode cX10_addFace 45 = .ok (.iload_n 3, 1) := by decide +kernel
theorem dX10_addFace_46 : decode cX10_addFace 46 = .ok (.iadd, 1) := by decide +kernel
theorem dX10_addFace_47 : decode cX10_addFace 47 = .ok (.aload_n 0, 1) := by decide +kernel
theorem dX10_addFace_48 : decode cX10_addFace 48 = .ok (.getfield 34, 3) := by decide +kernel
theorem dX10_addFace_51 : decode cX10_addFace 51 = .ok (.iload_n 3, 1) := by decide +kernel
theorem dX10_addFace_52 : decode cX10_addFace 52 = .ok (.iaload, 1) := by decide +kernel
theorem dX10_addFace_53 : decode cX10_addFace 53 = .ok (.iastore, 1) := by decide +kernel
theorem dX10_addFace_54 : decode cX10_addFace 54 = .ok (.iinc 3 1, 3) := by decide +kernel
theorem dX10_addFace_57 : decode cX10_addFace 57 = .ok (.goto (-33), 3) := by decide +kernel
theorem dX10_addFace_60 : decode cX10_addFace 60 = .ok (.aload_n 0, 1) := by decide +kernel
theorem dX10_addFace_61 : decode cX10_addFace 61 = .ok (.getfield 16, 3) := by decide +kernel
theorem dX10_addFace_64 : decode cX10_addFace 64 = .ok (.iload_n 1, 1) := by decide +kernel
theorem dX10_addFace_65 : decode cX10_addFace 65 = .ok (.dup2, 1) := by decide +kernel
theorem dX10_addFace_66 : decode cX10_addFace 66 = .ok (.iaload, 1) := by decide +kernel
theorem dX10_addFace_67 : decode cX10_addFace 67 = .ok (.iconst 1, 1) := by decide +kernel
theorem dX10_addFace_68 : decode cX10_addFace 68 = .ok (.iadd, 1) := by decide +kernel
theorem dX10_addFace_69 : decode cX10_addFace 69 = .ok (.iastore, 1) := by decide +kernel
theorem dX10_addFace_70 : decode cX10_addFace 70 = .ok (.iload_n 2, 1) := by decide +kernel
theorem dX10_addFace_71 : decode cX10_addFace 71 = .ok (.ireturn, 1) := by decide +kernel
theorem dX10_face_0 : decode cX10_face 0 = .ok (.iload_n 1, 1) := by decide +kernel
theorem dX10_face_1 : decode cX10_face 1 = .ok (.invokestatic 137, 3) := by decide +kernel
theorem dX10_face_4 : decode cX10_face 4 = .ok (.ifCond .ne 5, 3) := by decide +kernel
theorem dX10_face_7 : decode cX10_face 7 = .ok (.iconst (-1), 1) := by decide +kernel
theorem dX10_face_8 : decode cX10_face 8 = .ok (.ireturn, 1) := by decide +kernel
theorem dX10_face_9 : decode cX10_face 9 = .ok (.aload_n 0, 1) := by decide +kernel
theorem dX10_face_10 : decode cX10_face 10 = .ok (.iconst 0, 1) := by decide +kernel
theorem dX10_face_11 : decode cX10_face 11 = .ok (.putfield 167, 3) := by decide +kernel
theorem dX10_face_14 : decode cX10_face 14 = .ok (.aload_n 0, 1) := by decide +kernel
theorem dX10_face_15 : decode cX10_face 15 = .ok (.iload_n 1, 1) := by decide +kernel
theorem dX10_face_16 : decode cX10_face 16 = .ok (.invokevirtual 196, 3) := by decide +kernel
theorem dX10_face_19 : decode cX10_face 19 = .ok (.ifCond .eq 29, 3) := by decide +kernel
theorem dX10_face_22 : decode cX10_face 22 = .ok (.aload_n 0, 1) := by decide +kernel
theorem dX10_face_23 : decode cX10_face 23 = .ok (.getfield 167, 3) := by decide +kernel
theorem dX10_face_26 : decode cX10_face 26 = .ok (.aload_n 0, 1) := by decide +kernel
theorem dX10_face_27 : decode cX10_face 27 = .ok (.getfield 163, 3) := by decide +kernel
theorem dX10_face_30 : decode cX10_face 30 = .ok (.if_icmp .eq 14, 3) := by decide +kernel
theorem dX10_face_33 : decode cX10_face 33 = .ok (.aload_n 0, 1) := by decide +kernel
theorem dX10_face_34 : decode cX10_face 34 = .ok (.aload_n 0, 1) := by decide +kernel
theorem dX10_face_35 : decode cX10_face 35 = .ok (.getfield 167, 3) := by decide +kernel
theorem dX10_face_38 : decode cX10_face 38 = .ok (.invokevirtual 183, 3) := by decide +kernel
theorem dX10_face_41 : decode cX10_face 41 = .ok (.ifCond .eq 7, 3) := by decide +kernel
theorem dX10_face_44 : decode cX10_face 44 = .ok (.iconst 1, 1) := by decide +kernel
theorem dX10_face_45 : decode cX10_face 45 = .ok (.goto 4, 3) := by decide +kernel
theorem dX10_face_48 : decode cX10_face 48 = .ok (.iconst 0, 1) := by decide +kernel
theorem dX10_face_49 : decode cX10_face 49 = .ok (.istore_n 2, 1) := by decide +kernel
theorem dX10_face_50 : decode cX10_face 50 = .ok (.aload_n 0, 1) := by decide +kernel
theorem dX10_face_51 : decode cX10_face 51 = .ok (.iconst 0, 1) := by decide +kernel
theorem dX10_face_52 : decode cX10_face 52 = .ok (.putfield 163, 3) := by decide +kernel
theorem dX10_face_55 : decode cX10_face 55 = .ok (.iload_n 2, 1) := by decide +kernel
theorem dX10_face_56 : decode cX10_face 56 = .ok (.ifCond .ne 10, 3) := by decide +kernel
theorem dX10_face_59 : decode cX10_face 59 = .ok (.aload_n 0, 1) := by decide +kernel
theorem dX10_face_60 : decode cX10_face 60 = .ok (.getfield 170, 3) := by decide +kernel
theorem dX10_face_63 : decode cX10_face 63 = .ok (.goto 24, 3) := by decide +kernel
theorem dX10_face_66 : decode cX10_face 66 = .ok (.aload_n 0, 1) := by decide +kernel
theorem dX10_face_67 : decode cX10_face 67 = .ok (.getfield 16, 3) := by decide +kernel
theorem dX10_face_70 : decode cX10_face 70 = .ok (.iload_n 1, 1) := by decide +kernel
theorem dX10_face_71 : decode cX10_face 71 = .ok (.iaload, 1) := by decide +kernel
theorem dX10_face_72 : decode cX10_face 72 = .ok (.bipush 8, 2) := by decide +kernel
theorem dX10_face_74 : decode cX10_face 74 = .ok (.if_icmp .ne 8, 3) := by decide +kernel
theorem dX10_face_77 : decode cX10_face 77 = .ok (.bipush (-3), 2) := by decide +kernel
theorem dX10_face_79 : decode cX10_face 79 = .ok (.goto 8, 3) := by decide +kernel
theorem dX10_face_82 : decode cX10_face 82 = .ok (.aload_n 0, 1) := by decide +kernel
theorem dX10_face_83 : decode cX10_face 83 = .ok (.iload_n 1, 1) := by decide +kernel
theorem dX10_face_84 : decode cX10_face 84 = .ok (.invokevirtual 199, 3) := by decide +kernel
theorem dX10_face_87 : decode cX10_face 87 = .ok (.ireturn, 1) := by decide +kernel
theorem dX10_readClause_0 : decode cX10_readClause 0 = .ok (.aload_n 0, 1) := by decide +kernel
theorem dX10_readClause_1 : decode cX10_readClause 1 = .ok (.invokevirtual 173, 3) := by decide +kernel
theorem dX10_readClause_4 : decode cX10_readClause 4 = .ok (.aload_n 0, 1) := by decide +kernel
theorem dX10_readClause_5 : decode cX10_readClause 5 = .ok (.invokevirtual 179, 3) := by decide +kernel
theorem dX10_readClause_8 : decode cX10_readClause 8 = .ok (.bipush 58, 2) := by decide +kernel
theorem dX10_readClause_10 : decode cX10_readClause 10 = .ok (.if_icmp .ne 51, 3) := by decide +kernel
theorem dX10_readClause_13 : decode cX10_readClause 13 = .ok (.aload_n 0, 1) := by decide +kernel
theorem dX10_readClause_14 : decode cX10_readClause 14 = .ok (.getfield 16, 3) := by decide +kernel
theorem dX10_readClause_17 : decode cX10_readClause 17 = .ok (.iload_n 1, 1) := by decide +kernel
theorem dX10_readClause_18 : decode cX10_readClause 18 = .ok (.iaload, 1) := by decide +kernel
theorem dX10_readClause_19 : decode cX10_readClause 19 = .ok (.bipush 8, 2) := by decide +kernel
theorem dX10_readClause_21 : decode cX10_readClause 21 = .ok (.if_icmp .ne 12, 3) := by decide +kernel
theorem dX10_readClause_24 : decode cX10_readClause 24 = .ok (.aload_n 0, 1) := by decide +kernel
theorem dX10_readClause_25 : decode cX10_readClause 25 = .ok (.aload_n 0, 1) := by decide +kernel
theorem dX10_readClause_26 : decode cX10_readClause 26 = .ok (.getfield 167, 3) := by decide +kernel
theorem dX10_readClause_29 : decode cX10_readClause 29 = .ok (.invokevirtual 183, 3) := by decide +kernel
theorem dX10_readClause_32 : decode cX10_readClause 32 = .ok (.ireturn, 1) := by decide +kernel
theorem dX10_readClause_33 : decode cX10_readClause 33 = .ok (.aload_n 0, 1) := by decide +kernel
theorem dX10_readClause_34 : decode cX10_readClause 34 = .ok (.dup, 1) := by decide +kernel
theorem dX10_readClause_35 : decode cX10_readClause 35 = .ok (.getfield 167, 3) := by decide +kernel
theorem dX10_readClause_38 : decode cX10_readClause 38 = .ok (.iconst 1, 1) := by decide +kernel
theorem dX10_readClause_39 : decode cX10_readClause 39 = .ok (.iadd, 1) := by decide +kernel
theorem dX10_readClause_40 : decode cX10_readClause 40 = .ok (.putfield 167, 3) := by decide +kernel
theorem dX10_readClause_43 : decode cX10_readClause 43 = .ok (.aload_n 0, 1) := by decide +kernel
theorem dX10_readClause_44 : decode cX10_readClause 44 = .ok (.iload_n 1, 1) := by decide +kernel
theorem dX10_readClause_45 : decode cX10_readClause 45 = .ok (.invokevirtual 196, 3) := by decide +kernel
theorem dX10_readClause_48 : decode cX10_readClause 48 = .ok (.ifCond .ne 5, 3) := by decide +kernel
theorem dX10_readClause_51 : decode cX10_readClause 51 = .ok (.iconst 0, 1) := by decide +kernel
theorem dX10_readClause_52 : decode cX10_readClause 52 = .ok (.ireturn, 1) := by decide +kernel
theorem dX10_readClause_53 : decode cX10_readClause 53 = .ok (.aload_n 0, 1) := by decide +kernel
theorem dX10_readClause_54 : decode cX10_readClause 54 = .ok (.iload_n 1, 1) := by decide +kernel
theorem dX10_readClause_55 : decode cX10_readClause 55 = .ok (.invokevirtual 199, 3) := by decide +kernel
theorem dX10_readClause_58 : decode cX10_readClause 58 = .ok (.pop, 1) := by decide +kernel
theorem dX10_readClause_59 : decode cX10_readClause 59 = .ok (.iconst 1, 1) := by decide +kernel
theorem dX10_readClause_60 : decode cX10_readClause 60 = .ok (.ireturn, 1) := by decide +kernel
theorem dX10_readClause_61 : decode cX10_readClause 61 = .ok (.aload_n 0, 1) := by decide +kernel
theorem dX10_readClause_62 : decode cX10_readClause 62 = .ok (.getfield 13, 3) := by decide +kernel
theorem dX10_readClause_65 : decode cX10_readClause 65 = .ok (.iload_n 1, 1) := by decide +kernel
theorem dX10_readClause_66 : decode cX10_readClause 66 = .ok (.iaload, 1) := by decide +kernel
theorem dX10_readClause_67 : decode cX10_readClause 67 = .ok (.bipush 12, 2) := by decide +kernel
theorem dX10_readClause_69 : decode cX10_readClause 69 = .ok (.if_icmp .eq 19, 3) := by decide +kernel
theorem dX10_readClause_72 : decode cX10_readClause 72 = .ok (.aload_n 0, 1) := by decide +kernel
theorem dX10_readClause_73 : decode cX10_readClause 73 = .ok (.invokevirtual 179, 3) := by decide +kernel
theorem dX10_readClause_76 : decode cX10_readClause 76 = .ok (.bipush 97, 2) := by decide +kernel
theorem dX10_readClause_78 : decode cX10_readClause 78 = .ok (.aload_n 0, 1) := by decide +kernel
theorem dX10_readClause_79 : decode cX10_readClause 79 = .ok (.getfield 13, 3) := by decide +kernel
theorem dX10_readClause_82 : decode cX10_readClause 82 = .ok (.iload_n 1, 1) := by decide +kernel
theorem dX10_readClause_83 : decode cX10_readClause 83 = .ok (.iaload, 1) := by decide +kernel
theorem dX10_readClause_84 : decode cX10_readClause 84 = .ok (.iadd, 1) := by decide +kernel
theorem dX10_readClause_85 : decode cX10_readClause 85 = .ok (.if_icmp .eq 12, 3) := by decide +kernel
theorem dX10_readClause_88 : decode cX10_readClause 88 = .ok (.aload_n 0, 1) := by decide +kernel
theorem dX10_readClause_89 : decode cX10_readClause 89 = .ok (.aload_n 0, 1) := by decide +kernel
theorem dX10_readClause_90 : decode cX10_readClause 90 = .ok (.getfield 167, 3) := by decide +kernel
theorem dX10_readClause_93 : decode cX10_readClause 93 = .ok (.invokevirtual 183, 3) := by decide +kernel
theorem dX10_readClause_96 : decode cX10_readClause 96 = .ok (.ireturn, 1) := by decide +kernel
theorem dX10_readClause_97 : decode cX10_readClause 97 = .ok (.aload_n 0, 1) := by decide +kernel
theorem dX10_readClause_98 : decode cX10_readClause 98 = .ok (.dup, 1) := by decide +kernel
theorem dX10_readClause_99 : decode cX10_readClause 99 = .ok (.getfield 167, 3) := by decide +kernel
theorem dX10_readClause_102 : decode cX10_readClause 102 = .ok (.iconst 1, 1) := by decide +kernel
theorem dX10_readClause_103 : decode cX10_readClause 103 = .ok (.iadd, 1) := by decide +kernel
theorem dX10_readClause_104 : decode cX10_readClause 104 = .ok (.putfield 167, 3) := by decide +kernel
theorem dX10_readClause_107 : decode cX10_readClause 107 = .ok (.aload_n 0, 1) := by decide +kernel
theorem dX10_readClause_108 : decode cX10_readClause 108 = .ok (.invokevirtual 173, 3) := by decide +kernel
theorem dX10_readClause_111 : decode cX10_readClause 111 = .ok (.aload_n 0, 1) := by decide +kernel
theorem dX10_readClause_112 : decode cX10_readClause 112 = .ok (.invokevirtual 179, 3) := by decide +kernel
theorem dX10_readClause_115 : decode cX10_readClause 115 = .ok (.bipush 61, 2) := by decide +kernel
theorem dX10_readClause_117 : decode cX10_readClause 117 = .ok (.if_icmp .eq 12, 3) := by decide +kernel
theorem dX10_readClause_120 : decode cX10_readClause 120 = .ok (.aload_n 0, 1) := by decide +kernel
theorem dX10_readClause_121 : decode cX10_readClause 121 = .ok (.aload_n 0, 1) := by decide +kernel
theorem dX10_readClause_122 : decode cX10_readClause 122 = .ok (.getfield 167, 3) := by decide +kernel
theorem dX10_readClause_125 : decode cX10_readClause 125 = .ok (.invokevirtual 183, 3) := by decide +kernel
theorem dX10_readClause_128 : decode cX10_readClause 128 = .ok (.ireturn, 1) := by decide +kernel
theorem dX10_readClause_129 : decode cX10_readClause 129 = .ok (.aload_n 0, 1) := by decide +kernel
theorem dX10_readClause_130 : decode cX10_readClause 130 = .ok (.dup, 1) := by decide +kernel
theorem dX10_readClause_131 : decode cX10_readClause 131 = .ok (.getfield 167, 3) := by decide +kernel
theorem dX10_readClause_134 : decode cX10_readClause 134 = .ok (.iconst 1, 1) := by decide +kernel
theorem dX10_readClause_135 : decode cX10_readClause 135 = .ok (.iadd, 1) := by decide +kernel
theorem dX10_readClause_136 : decode cX10_readClause 136 = .ok (.putfield 167, 3) := by decide +kernel
theorem dX10_readClause_139 : decode cX10_readClause 139 = .ok (.aload_n 0, 1) := by decide +kernel
theorem dX10_readClause_140 : decode cX10_readClause 140 = .ok (.iconst 0, 1) := by decide +kernel
theorem dX10_readClause_141 : decode cX10_readClause 141 = .ok (.aload_n 0, 1) := by decide +kernel
theorem dX10_readClause_142 : decode cX10_readClause 142 = .ok (.getfield 7, 3) := by decide +kernel
theorem dX10_readClause_145 : decode cX10_readClause 145 = .ok (.iload_n 1, 1) := by decide +kernel
theorem dX10_readClause_146 : decode cX10_readClause 146 = .ok (.iaload, 1) := by decide +kernel
theorem dX10_readClause_147 : decode cX10_readClause 147 = .ok (.iconst 1, 1) := by decide +kernel
theorem dX10_readClause_148 : decode cX10_readClause 148 = .ok (.isub, 1) := by decide +kernel
theorem dX10_readClause_149 : decode cX10_readClause 149 = .ok (.invokevirtual 203, 3) := by decide +kernel
theorem dX10_readClause_152 : decode cX10_readClause 152 = .ok (.ifCond .ne 5, 3) := by decide +kernel
theorem dX10_readClause_155 : decode cX10_readClause 155 = .ok (.iconst 0, 1) := by decide +kernel
theorem dX10_readClause_156 : decode cX10_readClause 156 = .ok (.ireturn, 1) := by decide +kernel
theorem dX10_readClause_157 : decode cX10_readClause 157 = .ok (.aload_n 0, 1) := by decide +kernel
theorem dX10_readClause_158 : decode cX10_readClause 158 = .ok (.getfield 176, 3) := by decide +kernel
theorem dX10_readClause_161 : decode cX10_readClause 161 = .ok (.istore_n 2, 1) := by decide +kernel
theorem dX10_readClause_162 : decode cX10_readClause 162 = .ok (.aload_n 0, 1) := by decide +kernel
theorem dX10_readClause_163 : decode cX10_readClause 163 = .ok (.invokevirtual 173, 3) := by decide +kernel
theorem dX10_readClause_166 : decode cX10_readClause 166 = .ok (.aload_n 0, 1) := by decide +kernel
theorem dX10_readClause_167 : decode cX10_readClause 167 = .ok (.invokevirtual 179, 3) := by decide +kernel
theorem dX10_readClause_170 : decode cX10_readClause 170 = .ok (.bipush 62, 2) := by decide +kernel
theorem dX10_readClause_172 : decode cX10_readClause 172 = .ok (.if_icmp .eq 12, 3) := by decide +kernel
theorem dX10_readClause_175 : decode cX10_readClause 175 = .ok (.aload_n 0, 1) := by decide +kernel
theorem dX10_readClause_176 : decode cX10_readClause 176 = .ok (.aload_n 0, 1) := by decide +kernel
theorem dX10_readClause_177 : decode cX10_readClause 177 = .ok (.getfield 167, 3) := by decide +kernel
theorem dX10_readClause_180 : decode cX10_readClause 180 = .ok (.invokevirtual 183, 3) := by decide +kernel
theorem dX10_readClause_183 : decode cX10_readClause 183 = .ok (.ireturn, 1) := by decide +kernel
theorem dX10_readClause_184 : decode cX10_readClause 184 = .ok (.aload_n 0, 1) := by decide +kernel
theorem dX10_readClause_185 : decode cX10_readClause 185 = .ok (.dup, 1) := by decide +kernel
theorem dX10_readClause_186 : decode cX10_readClause 186 = .ok (.getfield 167, 3) := by decide +kernel
theorem dX10_readClause_189 : decode cX10_readClause 189 = .ok (.iconst 1, 1) := by decide +kernel
theorem dX10_readClause_190 : decode cX10_readClause 190 = .ok (.iadd, 1) := by decide +kernel
theorem dX10_readClause_191 : decode cX10_readClause 191 = .ok (.putfield 167, 3) := by decide +kernel
theorem dX10_readClause_194 : decode cX10_readClause 194 = .ok (.aload_n 0, 1) := by decide +kernel
theorem dX10_readClause_195 : decode cX10_readClause 195 = .ok (.iconst 0, 1) := by decide +kernel
theorem dX10_readClause_196 : decode cX10_readClause 196 = .ok (.aload_n 0, 1) := by decide +kernel
theorem dX10_readClause_197 : decode cX10_readClause 197 = .ok (.getfield 7, 3) := by decide +kernel
theorem dX10_readClause_200 : decode cX10_readClause 200 = .ok (.iload_n 1, 1) := by decide +kernel
theorem dX10_readClause_201 : decode cX10_readClause 201 = .ok (.iaload, 1) := by decide +kernel
theorem dX10_readClause_202 : decode cX10_readClause 202 = .ok (.iconst 1, 1) := by decide +kernel
theorem dX10_readClause_203 : decode cX10_readClause 203 = .ok (.isub, 1) := by decide +kernel
theorem dX10_readClause_204 : decode cX10_readClause 204 = .ok (.invokevirtual 203, 3) := by decide +kernel
theorem dX10_readClause_207 : decode cX10_readClause 207 = .ok (.ifCond .ne 5, 3) := by decide +kernel
theorem dX10_readClause_210 : decode cX10_readClause 210 = .ok (.iconst 0, 1) := by decide +kernel
theorem dX10_readClause_211 : decode cX10_readClause 211 = .ok (.ireturn, 1) := by decide +kernel
theorem dX10_readClause_212 : decode cX10_readClause 212 = .ok (.aload_n 0, 1) := by decide +kernel
theorem dX10_readClause_213 : decode cX10_readClause 213 = .ok (.iload_n 1, 1) := by decide +kernel
theorem dX10_readClause_214 : decode cX10_readClause 214 = .ok (.iload_n 2, 1) := by decide +kernel
theorem dX10_readClause_215 : decode cX10_readClause 215 = .ok (.aload_n 0, 1) := by decide +kernel
theorem dX10_readClause_216 : decode cX10_readClause 216 = .ok (.getfield 176, 3) := by decide +kernel
theorem dX10_readClause_219 : decode cX10_readClause 219 = .ok (.invokevirtual 157, 3) := by decide +kernel
theorem dX10_readClause_222 : decode cX10_readClause 222 = .ok (.pop, 1) := by decide +kernel
theorem dX10_readClause_223 : decode cX10_readClause 223 = .ok (.iconst 1, 1) := by decide +kernel
theorem dX10_readClause_224 : decode cX10_readClause 224 = .ok (.ireturn, 1) := by decide +kernel
theorem dX10_readSpace_0 : decode cX10_readSpace 0 = .ok (.aload_n 0, 1) := by decide +kernel
theorem dX10_readSpace_1 : decode cX10_readSpace 1 = .ok (.iconst 1, 1) := by decide +kernel
theorem dX10_readSpace_2 : decode cX10_readSpace 2 = .ok (.bipush 8, 2) := by decide +kernel
theorem dX10_readSpace_4 : decode cX10_readSpace 4 = .ok (.invokevirtual 203, 3) := by decide +kernel
theorem dX10_readSpace_7 : decode cX10_readSpace 7 = .ok (.ifCond .ne 5, 3) := by decide +kernel
theorem dX10_readSpace_10 : decode cX10_readSpace 10 = .ok (.iconst 0, 1) := by decide +kernel
theorem dX10_readSpace_11 : decode cX10_readSpace 11 = .ok (.ireturn, 1) := by decide +kernel
theorem dX10_readSpace_12 : decode cX10_readSpace 12 = .ok (.aload_n 0, 1) := by decide +kernel
theorem dX10_readSpace_13 : decode cX10_readSpace 13 = .ok (.iload_n 1, 1) := by decide +kernel
theorem dX10_readSpace_14 : decode cX10_readSpace 14 = .ok (.aload_n 0, 1) := by decide +kernel
theorem dX10_readSpace_15 : decode cX10_readSpace 15 = .ok (.getfield 176, 3) := by decide +kernel
theorem dX10_readSpace_18 : decode cX10_readSpace 18 = .ok (.invokevirtual 149, 3) := by decide +kernel
theorem dX10_readSpace_21 : decode cX10_readSpace 21 = .ok (.aload_n 0, 1) := by decide +kernel
theorem dX10_readSpace_22 : decode cX10_readSpace 22 = .ok (.invokevirtual 173, 3) := by decide +kernel
theorem dX10_readSpace_25 : decode cX10_readSpace 25 = .ok (.aload_n 0, 1) := by decide +kernel
theorem dX10_readSpace_26 : decode cX10_readSpace 26 = .ok (.getfield 167, 3) := by decide +kernel
theorem dX10_readSpace_29 : decode cX10_readSpace 29 = .ok (.aload_n 0, 1) := by decide +kernel
theorem dX10_readSpace_30 : decode cX10_readSpace 30 = .ok (.getfield 163, 3) := by decide +kernel
theorem dX10_readSpace_33 : decode cX10_readSpace 33 = .ok (.if_icmp .ge 48, 3) := by decide +kernel
theorem dX10_readSpace_36 : decode cX10_readSpace 36 = .ok (.aload_n 0, 1) := by decide +kernel
theorem dX10_readSpace_37 : decode cX10_readSpace 37 = .ok (.invokevirtual 179, 3) := by decide +kernel
theorem dX10_readSpace_40 : decode cX10_readSpace 40 = .ok (.bipush 59, 2) := by decide +kernel
theorem dX10_readSpace_42 : decode cX10_readSpace 42 = .ok (.if_icmp .eq 12, 3) := by decide +kernel
theorem dX10_readSpace_45 : decode cX10_readSpace 45 = .ok (.aload_n 0, 1) := by decide +kernel
theorem dX10_readSpace_46 : decode cX10_readSpace 46 = .ok (.aload_n 0, 1) := by decide +kernel
theorem dX10_readSpace_47 : decode cX10_readSpace 47 = .ok (.getfield 167, 3) := by decide +kernel
theorem dX10_readSpace_50 : decode cX10_readSpace 50 = .ok (.invokevirtual 183, 3) := by decide +kernel
theorem dX10_readSpace_53 : decode cX10_readSpace 53 = .ok (.ireturn, 1) := by decide +kernel
theorem dX10_readSpace_54 : decode cX10_readSpace 54 = .ok (.aload_n 0, 1) := by decide +kernel
theorem dX10_readSpace_55 : decode cX10_readSpace 55 = .ok (.dup, 1) := by decide +kernel
theorem dX10_readSpace_56 : decode cX10_readSpace 56 = .ok (.getfield 167, 3) := by decide +kernel
theorem dX10_readSpace_59 : decode cX10_readSpace 59 = .ok (.iconst 1, 1) := by decide +kernel
theorem dX10_readSpace_60 : decode cX10_readSpace 60 = .ok (.iadd, 1) := by decide +kernel
theorem dX10_readSpace_61 : decode cX10_readSpace 61 = .ok (.putfield 167, 3) := by decide +kernel
theorem dX10_readSpace_64 : decode cX10_readSpace 64 = .ok (.aload_n 0, 1) := by decide +kernel
theorem dX10_readSpace_65 : decode cX10_readSpace 65 = .ok (.iload_n 1, 1) := by decide +kernel
theorem dX10_readSpace_66 : decode cX10_readSpace 66 = .ok (.invokevirtual 206, 3) := by decide +kernel
theorem dX10_readSpace_69 : decode cX10_readSpace 69 = .ok (.ifCond .ne 5, 3) := by decide +kernel
theorem dX10_readSpace_72 : decode cX10_readSpace 72 = .ok (.iconst 0, 1) := by decide +kernel
theorem dX10_readSpace_73 : decode cX10_readSpace 73 = .ok (.ireturn, 1) := by decide +kernel
theorem dX10_readSpace_74 : decode cX10_readSpace 74 = .ok (.aload_n 0, 1) := by decide +kernel
theorem dX10_readSpace_75 : decode cX10_readSpace 75 = .ok (.invokevirtual 173, 3) := by decide +kernel
theorem dX10_readSpace_78 : decode cX10_readSpace 78 = .ok (.goto (-53), 3) := by decide +kernel
theorem dX10_readSpace_81 : decode cX10_readSpace 81 = .ok (.iconst 1, 1) := by decide +kernel
theorem dX10_readSpace_82 : decode cX10_readSpace 82 = .ok (.ireturn, 1) := by decide +kernel
theorem dX10_keep_0 : decode cX10_keep 0 = .ok (.iconst 0, 1) := by decide +kernel
theorem dX10_keep_1 : decode cX10_keep 1 = .ok (.istore_n 2, 1) := by decide +kernel
theorem dX10_keep_2 : decode cX10_keep 2 = .ok (.iload_n 2, 1) := by decide +kernel
theorem dX10_keep_3 : decode cX10_keep 3 = .ok (.bipush 48, 2) := by decide +kernel
theorem dX10_keep_5 : decode cX10_keep 5 = .ok (.if_icmp .ge 46, 3) := by decide +kernel
theorem dX10_keep_8 : decode cX10_keep 8 = .ok (.aload_n 0, 1) := by decide +kernel
theorem dX10_keep_9 : decode cX10_keep 9 = .ok (.getfield 37, 3) := by decide +kernel
theorem dX10_keep_12 : decode cX10_keep 12 = .ok (.iload_n 2, 1) := by decide +kernel
theorem dX10_keep_13 : decode cX10_keep 13 = .ok (.aload_n 0, 1) := by decide +kernel
theorem dX10_keep_14 : decode cX10_keep 14 = .ok (.getfield 19, 3) := by decide +kernel
theorem dX10_keep_17 : decode cX10_keep 17 = .ok (.bipush 48, 2) := by decide +kernel
theorem dX10_keep_19 : decode cX10_keep 19 = .ok (.iload_n 1, 1) := by decide +kernel
theorem dX10_keep_20 : decode cX10_keep 20 = .ok (.imul, 1) := by decide +kernel
theorem dX10_keep_21 : decode cX10_keep 21 = .ok (.iload_n 2, 1) := by decide +kernel
theorem dX10_keep_22 : decode cX10_keep 22 = .ok (.iadd, 1) := by decide +kernel
theorem dX10_keep_23 : decode cX10_keep 23 = .ok (.iaload, 1) := by decide +kernel
theorem dX10_keep_24 : decode cX10_keep 24 = .ok (.iastore, 1) := by decide +kernel
theorem dX10_keep_25 : decode cX10_keep 25 = .ok (.aload_n 0, 1) := by decide +kernel
theorem dX10_keep_26 : decode cX10_keep 26 = .ok (.getfield 37, 3) := by decide +kernel
theorem dX10_keep_29 : decode cX10_keep 29 = .ok (.bipush 48, 2) := by decide +kernel
theorem dX10_keep_31 : decode cX10_keep 31 = .ok (.iload_n 2, 1) := by decide +kernel
theorem dX10_keep_32 : decode cX10_keep 32 = .ok (.iadd, 1) := by decide +kernel
theorem dX10_keep_33 : decode cX10_keep 33 = .ok (.aload_n 0, 1) := by decide +kernel
theorem dX10_keep_34 : decode cX10_keep 34 = .ok (.getfield 22, 3) := by decide +kernel
theorem dX10_keep_37 : decode cX10_keep 37 = .ok (.bipush 48, 2) := by decide +kernel
theorem dX10_keep_39 : decode cX10_keep 39 = .ok (.iload_n 1, 1) := by decide +kernel
theorem dX10_keep_40 : decode cX10_keep 40 = .ok (.imul, 1) := by decide +kernel
theorem dX10_keep_41 : decode cX10_keep 41 = .ok (.iload_n 2, 1) := by decide +kernel
theorem dX10_keep_42 : decode cX10_keep 42 = .ok (.iadd, 1) := by decide +kernel
theorem dX10_keep_43 : decode cX10_keep 43 = .ok (.iaload, 1) := by decide +kernel
theorem dX10_keep_44 : decode cX10_keep 44 = .ok (.iastore, 1) := by decide +kernel
theorem dX10_keep_45 : decode cX10_keep 45 = .ok (.iinc 2 1, 3) := by decide +kernel
theorem dX10_keep_48 : decode cX10_keep 48 = .ok (.goto (-46), 3) := by decide +kernel
theorem dX10_keep_51 : decode cX10_keep 51 = .ok (.iconst 0, 1) := by decide +kernel
theorem dX10_keep_52 : decode cX10_keep 52 = .ok (.istore_n 2, 1) := by decide +kernel
theorem dX10_keep_53 : decode cX10_keep 53 = .ok (.iload_n 2, 1) := by decide +kernel
theorem dX10_keep_54 : decode cX10_keep 54 = .ok (.bipush 32, 2) := by decide +kernel
theorem dX10_keep_56 : decode cX10_keep 56 = .ok (.if_icmp .ge 26, 3) := by decide +kernel
theorem dX10_keep_59 : decode cX10_keep 59 = .ok (.aload_n 0, 1) := by decide +kernel
theorem dX10_keep_60 : decode cX10_keep 60 = .ok (.getfield 43, 3) := by decide +kernel
theorem dX10_keep_63 : decode cX10_keep 63 = .ok (.iload_n 2, 1) := by decide +kernel
theorem dX10_keep_64 : decode cX10_keep 64 = .ok (.aload_n 0, 1) := by decide +kernel
theorem dX10_keep_65 : decode cX10_keep 65 = .ok (.getfield 25, 3) := by decide +kernel
theorem dX10_keep_68 : decode cX10_keep 68 = .ok (.bipush 32, 2) := by decide +kernel
theorem dX10_keep_70 : decode cX10_keep 70 = .ok (.iload_n 1, 1) := by decide +kernel
theorem dX10_keep_71 : decode cX10_keep 71 = .ok (.imul, 1) := by decide +kernel
theorem dX10_keep_72 : decode cX10_keep 72 = .ok (.iload_n 2, 1) := by decide +kernel
theorem dX10_keep_73 : decode cX10_keep 73 = .ok (.iadd, 1) := by decide +kernel
theorem dX10_keep_74 : decode cX10_keep 74 = .ok (.iaload, 1) := by decide +kernel
theorem dX10_keep_75 : decode cX10_keep 75 = .ok (.iastore, 1) := by decide +kernel
theorem dX10_keep_76 : decode cX10_keep 76 = .ok (.iinc 2 1, 3) := by decide +kernel
theorem dX10_keep_79 : decode cX10_keep 79 = .ok (.goto (-26), 3) := by decide +kernel
theorem dX10_keep_82 : decode cX10_keep 82 = .ok (.iconst 0, 1) := by decide +kernel
theorem dX10_keep_83 : decode cX10_keep 83 = .ok (.istore_n 2, 1) := by decide +kernel
theorem dX10_keep_84 : decode cX10_keep 84 = .ok (.iload_n 2, 1) := by decide +kernel
theorem dX10_keep_85 : decode cX10_keep 85 = .ok (.sipush 256, 3) := by decide +kernel
theorem dX10_keep_88 : decode cX10_keep 88 = .ok (.if_icmp .ge 27, 3) := by decide +kernel
theorem dX10_keep_91 : decode cX10_keep 91 = .ok (.aload_n 0, 1) := by decide +kernel
theorem dX10_keep_92 : decode cX10_keep 92 = .ok (.getfield 40, 3) := by decide +kernel
theorem dX10_keep_95 : decode cX10_keep 95 = .ok (.iload_n 2, 1) := by decide +kernel
theorem dX10_keep_96 : decode cX10_keep 96 = .ok (.aload_n 0, 1) := by decide +kernel
theorem dX10_keep_97 : decode cX10_keep 97 = .ok (.getfield 28, 3) := by decide +kernel
theorem dX10_keep_100 : decode cX10_keep 100 = .ok (.sipush 256, 3) := by decide +kernel
theorem dX10_keep_103 : decode cX10_keep 103 = .ok (.iload_n 1, 1) := by decide +kernel
theorem dX10_keep_104 : decode cX10_keep 104 = .ok (.imul, 1) := by decide +kernel
theorem dX10_keep_105 : decode cX10_keep 105 = .ok (.iload_n 2, 1) := by decide +kernel
theorem dX10_keep_106 : decode cX10_keep 106 = .ok (.iadd, 1) := by decide +kernel
theorem dX10_keep_107 : decode cX10_keep 107 = .ok (.iaload, 1) := by decide +kernel
theorem dX10_keep_108 : decode cX10_keep 108 = .ok (.iastore, 1) := by decide +kernel
theorem dX10_keep_109 : decode cX10_keep 109 = .ok (.iinc 2 1, 3) := by decide +kernel
theorem dX10_keep_112 : decode cX10_keep 112 = .ok (.goto (-28), 3) := by decide +kernel
theorem dX10_keep_115 : decode cX10_keep 115 = .ok (.return_, 1) := by decide +kernel
theorem dX10_putBack_0 : decode cX10_putBack 0 = .ok (.iconst 0, 1) := by decide +kernel
theorem dX10_putBack_1 : decode cX10_putBack 1 = .ok (.istore_n 2, 1) := by decide +kernel
theorem dX10_putBack_2 : decode cX10_putBack 2 = .ok (.iload_n 2, 1) := by decide +kernel
theorem dX10_putBack_3 : decode cX10_putBack 3 = .ok (.bipush 48, 2) := by decide +kernel
theorem dX10_putBack_5 : decode cX10_putBack 5 = .ok (.if_icmp .ge 46, 3) := by decide +kernel
theorem dX10_putBack_8 : decode cX10_putBack 8 = .ok (.aload_n 0, 1) := by decide +kernel
theorem dX10_putBack_9 : decode cX10_putBack 9 = .ok (.getfield 19, 3) := by decide +kernel
theorem dX10_putBack_12 : decode cX10_putBack 12 = .ok (.bipush 48, 2) := by decide +kernel
theorem dX10_putBack_14 : decode cX10_putBack 14 = .ok (.iload_n 1, 1) := by decide +kernel
theorem dX10_putBack_15 : decode cX10_putBack 15 = .ok (.imul, 1) := by decide +kernel
theorem dX10_putBack_16 : decode cX10_putBack 16 = .ok (.iload_n 2, 1) := by decide +kernel
theorem dX10_putBack_17 : decode cX10_putBack 17 = .ok (.iadd, 1) := by decide +kernel
theorem dX10_putBack_18 : decode cX10_putBack 18 = .ok (.aload_n 0, 1) := by decide +kernel
theorem dX10_putBack_19 : decode cX10_putBack 19 = .ok (.getfield 37, 3) := by decide +kernel
theorem dX10_putBack_22 : decode cX10_putBack 22 = .ok (.iload_n 2, 1) := by decide +kernel
theorem dX10_putBack_23 : decode cX10_putBack 23 = .ok (.iaload, 1) := by decide +kernel
theorem dX10_putBack_24 : decode cX10_putBack 24 = .ok (.iastore, 1) := by decide +kernel
theorem dX10_putBack_25 : decode cX10_putBack 25 = .ok (.aload_n 0, 1) := by decide +kernel
theorem dX10_putBack_26 : decode cX10_putBack 26 = .ok (.getfield 22, 3) := by decide +kernel
theorem dX10_putBack_29 : decode cX10_putBack 29 = .ok (.bipush 48, 2) := by decide +kernel
theorem dX10_putBack_31 : decode cX10_putBack 31 = .ok (.iload_n 1, 1) := by decide +kernel
theorem dX10_putBack_32 : decode cX10_putBack 32 = .ok (.imul, 1) := by decide +kernel
theorem dX10_putBack_33 : decode cX10_putBack 33 = .ok (.iload_n 2, 1) := by decide +kernel
theorem dX10_putBack_34 : decode cX10_putBack 34 = .ok (.iadd, 1) := by decide +kernel
theorem dX10_putBack_35 : decode cX10_putBack 35 = .ok (.aload_n 0, 1) := by decide +kernel
theorem dX10_putBack_36 : decode cX10_putBack 36 = .ok (.getfield 37, 3) := by decide +kernel
theorem dX10_putBack_39 : decode cX10_putBack 39 = .ok (.bipush 48, 2) := by decide +kernel
theorem dX10_putBack_41 : decode cX10_putBack 41 = .ok (.iload_n 2, 1) := by decide +kernel
theorem dX10_putBack_42 : decode cX10_putBack 42 = .ok (.iadd, 1) := by decide +kernel
theorem dX10_putBack_43 : decode cX10_putBack 43 = .ok (.iaload, 1) := by decide +kernel
theorem dX10_putBack_44 : decode cX10_putBack 44 = .ok (.iastore, 1) := by decide +kernel
theorem dX10_putBack_45 : decode cX10_putBack 45 = .ok (.iinc 2 1, 3) := by decide +kernel
theorem dX10_putBack_48 : decode cX10_putBack 48 = .ok (.goto (-46), 3) := by decide +kernel
theorem dX10_putBack_51 : decode cX10_putBack 51 = .ok (.iconst 0, 1) := by decide +kernel
theorem dX10_putBack_52 : decode cX10_putBack 52 = .ok (.istore_n 2, 1) := by decide +kernel
theorem dX10_putBack_53 : decode cX10_putBack 53 = .ok (.iload_n 2, 1) := by decide +kernel
theorem dX10_putBack_54 : decode cX10_putBack 54 = .ok (.bipush 32, 2) := by decide +kernel
theorem dX10_putBack_56 : decode cX10_putBack 56 = .ok (.if_icmp .ge 26, 3) := by decide +kernel
theorem dX10_putBack_59 : decode cX10_putBack 59 = .ok (.aload_n 0, 1) := by decide +kernel
theorem dX10_putBack_60 : decode cX10_putBack 60 = .ok (.getfield 25, 3) := by decide +kernel
theorem dX10_putBack_63 : decode cX10_putBack 63 = .ok (.bipush 32, 2) := by decide +kernel
theorem dX10_putBack_65 : decode cX10_putBack 65 = .ok (.iload_n 1, 1) := by decide +kernel
theorem dX10_putBack_66 : decode cX10_putBack 66 = .ok (.imul, 1) := by decide +kernel
theorem dX10_putBack_67 : decode cX10_putBack 67 = .ok (.iload_n 2, 1) := by decide +kernel
theorem dX10_putBack_68 : decode cX10_putBack 68 = .ok (.iadd, 1) := by decide +kernel
theorem dX10_putBack_69 : decode cX10_putBack 69 = .ok (.aload_n 0, 1) := by decide +kernel
theorem dX10_putBack_70 : decode cX10_putBack 70 = .ok (.getfield 43, 3) := by decide +kernel
theorem dX10_putBack_73 : decode cX10_putBack 73 = .ok (.iload_n 2, 1) := by decide +kernel
theorem dX10_putBack_74 : decode cX10_putBack 74 = .ok (.iaload, 1) := by decide +kernel
theorem dX10_putBack_75 : decode cX10_putBack 75 = .ok (.iastore, 1) := by decide +kernel
theorem dX10_putBack_76 : decode cX10_putBack 76 = .ok (.iinc 2 1, 3) := by decide +kernel
theorem dX10_putBack_79 : decode cX10_putBack 79 = .ok (.goto (-26), 3) := by decide +kernel
theorem dX10_putBack_82 : decode cX10_putBack 82 = .ok (.iconst 0, 1) := by decide +kernel
theorem dX10_putBack_83 : decode cX10_putBack 83 = .ok (.istore_n 2, 1) := by decide +kernel
theorem dX10_putBack_84 : decode cX10_putBack 84 = .ok (.iload_n 2, 1) := by decide +kernel
theorem dX10_putBack_85 : decode cX10_putBack 85 = .ok (.sipush 256, 3) := by decide +kernel
theorem dX10_putBack_88 : decode cX10_putBack 88 = .ok (.if_icmp .ge 27, 3) := by decide +kernel
theorem dX10_putBack_91 : decode cX10_putBack 91 = .ok (.aload_n 0, 1) := by decide +kernel
theorem dX10_putBack_92 : decode cX10_putBack 92 = .ok (.getfield 28, 3) := by decide +kernel
theorem dX10_putBack_95 : decode cX10_putBack 95 = .ok (.sipush 256, 3) := by decide +kernel
theorem dX10_putBack_98 : decode cX10_putBack 98 = .ok (.iload_n 1, 1) := by decide +kernel
theorem dX10_putBack_99 : decode cX10_putBack 99 = .ok (.imul, 1) := by decide +kernel
theorem dX10_putBack_100 : decode cX10_putBack 100 = .ok (.iload_n 2, 1) := by decide +kernel
theorem dX10_putBack_101 : decode cX10_putBack 101 = .ok (.iadd, 1) := by decide +kernel
theorem dX10_putBack_102 : decode cX10_putBack 102 = .ok (.aload_n 0, 1) := by decide +kernel
theorem dX10_putBack_103 : decode cX10_putBack 103 = .ok (.getfield 40, 3) := by decide +kernel
theorem dX10_putBack_106 : decode cX10_putBack 106 = .ok (.iload_n 2, 1) := by decide +kernel
theorem dX10_putBack_107 : decode cX10_putBack 107 = .ok (.iaload, 1) := by decide +kernel
theorem dX10_putBack_108 : decode cX10_putBack 108 = .ok (.iastore, 1) := by decide +kernel
theorem dX10_putBack_109 : decode cX10_putBack 109 = .ok (.iinc 2 1, 3) := by decide +kernel
theorem dX10_putBack_112 : decode cX10_putBack 112 = .ok (.goto (-28), 3) := by decide +kernel
theorem dX10_putBack_115 : decode cX10_putBack 115 = .ok (.return_, 1) := by decide +kernel
theorem dX10_text_0 : decode cX10_text 0 = .ok (.iload_n 1, 1) := by decide +kernel
theorem dX10_text_1 : decode cX10_text 1 = .ok (.invokestatic 137, 3) := by decide +kernel
theorem dX10_text_4 : decode cX10_text 4 = .ok (.ifCond .ne 5, 3) := by decide +kernel
theorem dX10_text_7 : decode cX10_text 7 = .ok (.iconst (-1), 1) := by decide +kernel
theorem dX10_text_8 : decode cX10_text 8 = .ok (.ireturn, 1) := by decide +kernel
theorem dX10_text_9 : decode cX10_text 9 = .ok (.aload_n 0, 1) := by decide +kernel
theorem dX10_text_10 : decode cX10_text 10 = .ok (.getfield 7, 3) := by decide +kernel
theorem dX10_text_13 : decode cX10_text 13 = .ok (.iload_n 1, 1) := by decide +kernel
theorem dX10_text_14 : decode cX10_text 14 = .ok (.iaload, 1) := by decide +kernel
theorem dX10_text_15 : decode cX10_text 15 = .ok (.istore_n 2, 1) := by decide +kernel
theorem dX10_text_16 : decode cX10_text 16 = .ok (.aload_n 0, 1) := by decide +kernel
theorem dX10_text_17 : decode cX10_text 17 = .ok (.getfield 13, 3) := by decide +kernel
theorem dX10_text_20 : decode cX10_text 20 = .ok (.iload_n 1, 1) := by decide +kernel
theorem dX10_text_21 : decode cX10_text 21 = .ok (.iaload, 1) := by decide +kernel
theorem dX10_text_22 : decode cX10_text 22 = .ok (.istore_n 3, 1) := by decide +kernel
theorem dX10_text_23 : decode cX10_text 23 = .ok (.aload_n 0, 1) := by decide +kernel
theorem dX10_text_24 : decode cX10_text 24 = .ok (.getfield 16, 3) := by decide +kernel
theorem dX10_text_27 : decode cX10_text 27 = .ok (.iload_n 1, 1) := by decide +kernel
theorem dX10_text_28 : decode cX10_text 28 = .ok (.iaload, 1) := by decide +kernel
theorem dX10_text_29 : decode cX10_text 29 = .ok (.istore 4, 2) := by decide +kernel
theorem dX10_text_31 : decode cX10_text 31 = .ok (.aload_n 0, 1) := by decide +kernel
theorem dX10_text_32 : decode cX10_text 32 = .ok (.iload_n 1, 1) := by decide +kernel
theorem dX10_text_33 : decode cX10_text 33 = .ok (.invokevirtual 209, 3) := by decide +kernel
theorem dX10_text_36 : decode cX10_text 36 = .ok (.aload_n 0, 1) := by decide +kernel
theorem dX10_text_37 : decode cX10_text 37 = .ok (.iconst 0, 1) := by decide +kernel
theorem dX10_text_38 : decode cX10_text 38 = .ok (.putfield 167, 3) := by decide +kernel
theorem dX10_text_41 : decode cX10_text 41 = .ok (.aload_n 0, 1) := by decide +kernel
theorem dX10_text_42 : decode cX10_text 42 = .ok (.iload_n 1, 1) := by decide +kernel
theorem dX10_text_43 : decode cX10_text 43 = .ok (.invokevirtual 212, 3) := by decide +kernel
theorem dX10_text_46 : decode cX10_text 46 = .ok (.istore 5, 2) := by decide +kernel
theorem dX10_text_48 : decode cX10_text 48 = .ok (.aload_n 0, 1) := by decide +kernel
theorem dX10_text_49 : decode cX10_text 49 = .ok (.iconst 0, 1) := by decide +kernel
theorem dX10_text_50 : decode cX10_text 50 = .ok (.putfield 163, 3) := by decide +kernel
theorem dX10_text_53 : decode cX10_text 53 = .ok (.iload 5, 2) := by decide +kernel
theorem dX10_text_55 : decode cX10_text 55 = .ok (.ifCond .ne 35, 3) := by decide +kernel
theorem dX10_text_58 : decode cX10_text 58 = .ok (.aload_n 0, 1) := by decide +kernel
theorem dX10_text_59 : decode cX10_text 59 = .ok (.iload_n 1, 1) := by decide +kernel
theorem dX10_text_60 : decode cX10_text 60 = .ok (.invokevirtual 215, 3) := by decide +kernel
theorem dX10_text_63 : decode cX10_text 63 = .ok (.aload_n 0, 1) := by decide +kernel
theorem dX10_text_64 : decode cX10_text 64 = .ok (.getfield 7, 3) := by decide +kernel
theorem dX10_text_67 : decode cX10_text 67 = .ok (.iload_n 1, 1) := by decide +kernel
theorem dX10_text_68 : decode cX10_text 68 = .ok (.iload_n 2, 1) := by decide +kernel
theorem dX10_text_69 : decode cX10_text 69 = .ok (.iastore, 1) := by decide +kernel
theorem dX10_text_70 : decode cX10_text 70 = .ok (.aload_n 0, 1) := by decide +kernel
theorem dX10_text_71 : decode cX10_text 71 = .ok (.getfield 13, 3) := by decide +kernel
theorem dX10_text_74 : decode cX10_text 74 = .ok (.iload_n 1, 1) := by decide +kernel
theorem dX10_text_75 : decode cX10_text 75 = .ok (.iload_n 3, 1) := by decide +kernel
theorem dX10_text_76 : decode cX10_text 76 = .ok (.iastore, 1) := by decide +kernel
theorem dX10_text_77 : decode cX10_text 77 = .ok (.aload_n 0, 1) := by decide +kernel
theorem dX10_text_78 : decode cX10_text 78 = .ok (.getfield 16, 3) := by decide +kernel
theorem dX10_text_81 : decode cX10_text 81 = .ok (.iload_n 1, 1) := by decide +kernel
theorem dX10_text_82 : decode cX10_text 82 = .ok (.iload 4, 2) := by decide +kernel
theorem dX10_text_84 : decode cX10_text 84 = .ok (.iastore, 1) := by decide +kernel
theorem dX10_text_85 : decode cX10_text 85 = .ok (.aload_n 0, 1) := by decide +kernel
theorem dX10_text_86 : decode cX10_text 86 = .ok (.getfield 170, 3) := by decide +kernel
theorem dX10_text_89 : decode cX10_text 89 = .ok (.ireturn, 1) := by decide +kernel
theorem dX10_text_90 : decode cX10_text 90 = .ok (.aload_n 0, 1) := by decide +kernel
theorem dX10_text_91 : decode cX10_text 91 = .ok (.iload_n 1, 1) := by decide +kernel
theorem dX10_text_92 : decode cX10_text 92 = .ok (.invokevirtual 153, 3) := by decide +kernel
theorem dX10_text_95 : decode cX10_text 95 = .ok (.aload_n 0, 1) := by decide +kernel
theorem dX10_text_96 : decode cX10_text 96 = .ok (.getfield 16, 3) := by decide +kernel
theorem dX10_text_99 : decode cX10_text 99 = .ok (.iload_n 1, 1) := by decide +kernel
theorem dX10_text_100 : decode cX10_text 100 = .ok (.iaload, 1) := by decide +kernel
theorem dX10_text_101 : decode cX10_text 101 = .ok (.ireturn, 1) := by decide +kernel
theorem dX10_layTree_0 : decode cX10_layTree 0 = .ok (.iconst 0, 1) := by decide +kernel
theorem dX10_layTree_1 : decode cX10_layTree 1 = .ok (.istore_n 2, 1) := by decide +kernel
theorem dX10_layTree_2 : decode cX10_layTree 2 = .ok (.iload_n 2, 1) := by decide +kernel
theorem dX10_layTree_3 : decode cX10_layTree 3 = .ok (.bipush 32, 2) := by decide +kernel
theorem dX10_layTree_5 : decode cX10_layTree 5 = .ok (.if_icmp .ge 24, 3) := by decide +kernel
theorem dX10_layTree_8 : decode cX10_layTree 8 = .ok (.aload_n 0, 1) := by decide +kernel
theorem dX10_layTree_9 : decode cX10_layTree 9 = .ok (.getfield 46, 3) := by decide +kernel
theorem dX10_layTree_12 : decode cX10_layTree 12 = .ok (.iload_n 2, 1) := by decide +kernel
theorem dX10_layTree_13 : decode cX10_layTree 13 = .ok (.iload_n 2, 1) := by decide +kernel
theorem dX10_layTree_14 : decode cX10_layTree 14 = .ok (.ifCond .ne 7, 3) := by decide +kernel
theorem dX10_layTree_17 : decode cX10_layTree 17 = .ok (.iconst 1, 1) := by decide +kernel
theorem dX10_layTree_18 : decode cX10_layTree 18 = .ok (.goto 4, 3) := by decide +kernel
theorem dX10_layTree_21 : decode cX10_layTree 21 = .ok (.iconst 0, 1) := by decide +kernel
theorem dX10_layTree_22 : decode cX10_layTree 22 = .ok (.bastore, 1) := by decide +kernel
theorem dX10_layTree_23 : decode cX10_layTree 23 = .ok (.iinc 2 1, 3) := by decide +kernel
theorem dX10_layTree_26 : decode cX10_layTree 26 = .ok (.goto (-24), 3) := by decide +kernel
theorem dX10_layTree_29 : decode cX10_layTree 29 = .ok (.iconst 0, 1) := by decide +kernel
theorem dX10_layTree_30 : decode cX10_layTree 30 = .ok (.istore_n 2, 1) := by decide +kernel
theorem dX10_layTree_31 : decode cX10_layTree 31 = .ok (.iload_n 2, 1) := by decide +kernel
theorem dX10_layTree_32 : decode cX10_layTree 32 = .ok (.bipush 48, 2) := by decide +kernel
theorem dX10_layTree_34 : decode cX10_layTree 34 = .ok (.if_icmp .ge 16, 3) := by decide +kernel
theorem dX10_layTree_37 : decode cX10_layTree 37 = .ok (.aload_n 0, 1) := by decide +kernel
theorem dX10_layTree_38 : decode cX10_layTree 38 = .ok (.getfield 50, 3) := by decide +kernel
theorem dX10_layTree_41 : decode cX10_layTree 41 = .ok (.iload_n 2, 1) := by decide +kernel
theorem dX10_layTree_42 : decode cX10_layTree 42 = .ok (.iconst 0, 1) := by decide +kernel
theorem dX10_layTree_43 : decode cX10_layTree 43 = .ok (.bastore, 1) := by decide +kernel
theorem dX10_layTree_44 : decode cX10_layTree 44 = .ok (.iinc 2 1, 3) := by decide +kernel
theorem dX10_layTree_47 : decode cX10_layTree 47 = .ok (.goto (-16), 3) := by decide +kernel
theorem dX10_layTree_50 : decode cX10_layTree 50 = .ok (.bipush (-4), 2) := by decide +kernel
theorem dX10_layTree_52 : decode cX10_layTree 52 = .ok (.istore_n 2, 1) := by decide +kernel
theorem dX10_layTree_53 : decode cX10_layTree 53 = .ok (.iconst 0, 1) := by decide +kernel
theorem dX10_layTree_54 : decode cX10_layTree 54 = .ok (.istore_n 3, 1) := by decide +kernel
theorem dX10_layTree_55 : decode cX10_layTree 55 = .ok (.iload_n 3, 1) := by decide +kernel
theorem dX10_layTree_56 : decode cX10_layTree 56 = .ok (.aload_n 0, 1) := by decide +kernel
theorem dX10_layTree_57 : decode cX10_layTree 57 = .ok (.getfield 13, 3) := by decide +kernel
theorem dX10_layTree_60 : decode cX10_layTree 60 = .ok (.iload_n 1, 1) := by decide +kernel
theorem dX10_layTree_61 : decode cX10_layTree 61 = .ok (.iaload, 1) := by decide +kernel
theorem dX10_layTree_62 : decode cX10_layTree 62 = .ok (.if_icmp .ge 57, 3) := by decide +kernel
theorem dX10_layTree_65 : decode cX10_layTree 65 = .ok (.iload_n 2, 1) := by decide +kernel
theorem dX10_layTree_66 : decode cX10_layTree 66 = .ok (.bipush (-4), 2) := by decide +kernel
theorem dX10_layTree_68 : decode cX10_layTree 68 = .ok (.if_icmp .ne 51, 3) := by decide +kernel
theorem dX10_layTree_71 : decode cX10_layTree 71 = .ok (.aload_n 0, 1) := by decide +kernel
theorem dX10_layTree_72 : decode cX10_layTree 72 = .ok (.getfield 46, 3) := by decide +kernel
theorem dX10_layTree_75 : decode cX10_layTree 75 = .ok (.aload_n 0, 1) := by decide +kernel
theorem dX10_layTree_76 : decode cX10_layTree 76 = .ok (.getfield 19, 3) := by decide +kernel
theorem dX10_layTree_79 : decode cX10_layTree 79 = .ok (.bipush 48, 2) := by decide +kernel
theorem dX10_layTree_81 : decode cX10_layTree 81 = .ok (.iload_n 1, 1) := by decide +kernel
theorem dX10_layTree_82 : decode cX10_layTree 82 = .ok (.imul, 1) := by decide +kernel
theorem dX10_layTree_83 : decode cX10_layTree 83 = .ok (.iload_n 3, 1) := by decide +kernel
theorem dX10_layTree_84 : decode cX10_layTree 84 = .ok (.iadd, 1) := by decide +kernel
theorem dX10_layTree_85 : decode cX10_layTree 85 = .ok (.iaload, 1) := by decide +kernel
theorem dX10_layTree_86 : decode cX10_layTree 86 = .ok (.baload, 1) := by decide +kernel
theorem dX10_layTree_87 : decode cX10_layTree 87 = .ok (.aload_n 0, 1) := by decide +kernel
theorem dX10_layTree_88 : decode cX10_layTree 88 = .ok (.getfield 46, 3) := by decide +kernel
theorem dX10_layTree_91 : decode cX10_layTree 91 = .ok (.aload_n 0, 1) := by decide +kernel
theorem dX10_layTree_92 : decode cX10_layTree 92 = .ok (.getfield 22, 3) := by decide +kernel
theorem dX10_layTree_95 : decode cX10_layTree 95 = .ok (.bipush 48, 2) := by decide +kernel
theorem dX10_layTree_97 : decode cX10_layTree 97 = .ok (.iload_n 1, 1) := by decide +kernel
theorem dX10_layTree_98 : decode cX10_layTree 98 = .ok (.imul, 1) := by decide +kernel
theorem dX10_layTree_99 : decode cX10_layTree 99 = .ok (.iload_n 3, 1) := by decide +kernel
theorem dX10_layTree_100 : decode cX10_layTree 100 = .ok (.iadd, 1) := by decide +kernel
theorem dX10_layTree_101 : decode cX10_layTree 101 = .ok (.iaload, 1) := by decide +kernel
theorem dX10_layTree_102 : decode cX10_layTree 102 = .ok (.baload, 1) := by decide +kernel
theorem dX10_layTree_103 : decode cX10_layTree 103 = .ok (.if_icmp .eq 7, 3) := by decide +kernel
theorem dX10_layTree_106 : decode cX10_layTree 106 = .ok (.iload_n 3, 1) := by decide +kernel
theorem dX10_layTree_107 : decode cX10_layTree 107 = .ok (.goto 5, 3) := by decide +kernel
theorem dX10_layTree_110 : decode cX10_layTree 110 = .ok (.bipush (-4), 2) := by decide +kernel
theorem dX10_layTree_112 : decode cX10_layTree 112 = .ok (.istore_n 2, 1) := by decide +kernel
theorem dX10_layTree_113 : decode cX10_layTree 113 = .ok (.iinc 3 1, 3) := by decide +kernel
theorem dX10_layTree_116 : decode cX10_layTree 116 = .ok (.goto (-61), 3) := by decide +kernel
theorem dX10_layTree_119 : decode cX10_layTree 119 = .ok (.iload_n 2, 1) := by decide +kernel
theorem dX10_layTree_120 : decode cX10_layTree 120 = .ok (.bipush (-4), 2) := by decide +kernel
theorem dX10_layTree_122 : decode cX10_layTree 122 = .ok (.if_icmp .eq 44, 3) := by decide +kernel
theorem dX10_layTree_125 : decode cX10_layTree 125 = .ok (.aload_n 0, 1) := by decide +kernel
theorem dX10_layTree_126 : decode cX10_layTree 126 = .ok (.getfield 50, 3) := by decide +kernel
theorem dX10_layTree_129 : decode cX10_layTree 129 = .ok (.iload_n 2, 1) := by decide +kernel
theorem dX10_layTree_130 : decode cX10_layTree 130 = .ok (.iconst 1, 1) := by decide +kernel
theorem dX10_layTree_131 : decode cX10_layTree 131 = .ok (.bastore, 1) := by decide +kernel
theorem dX10_layTree_132 : decode cX10_layTree 132 = .ok (.aload_n 0, 1) := by decide +kernel
theorem dX10_layTree_133 : decode cX10_layTree 133 = .ok (.getfield 46, 3) := by decide +kernel
theorem dX10_layTree_136 : decode cX10_layTree 136 = .ok (.aload_n 0, 1) := by decide +kernel
theorem dX10_layTree_137 : decode cX10_layTree 137 = .ok (.getfield 19, 3) := by decide +kernel
theorem dX10_layTree_140 : decode cX10_layTree 140 = .ok (.bipush 48, 2) := by decide +kernel
theorem dX10_layTree_142 : decode cX10_layTree 142 = .ok (.iload_n 1, 1) := by decide +kernel
theorem dX10_layTree_143 : decode cX10_layTree 143 = .ok (.imul, 1) := by decide +kernel
theorem dX10_layTree_144 : decode cX10_layTree 144 = .ok (.iload_n 2, 1) := by decide +kernel
theorem dX10_layTree_145 : decode cX10_layTree 145 = .ok (.iadd, 1) := by decide +kernel
theorem dX10_layTree_146 : decode cX10_layTree 146 = .ok (.iaload, 1) := by decide +kernel
theorem dX10_layTree_147 : decode cX10_layTree 147 = .ok (.iconst 1, 1) := by decide +kernel
theorem dX10_layTree_148 : decode cX10_layTree 148 = .ok (.bastore, 1) := by decide +kernel
theorem dX10_layTree_149 : decode cX10_layTree 149 = .ok (.aload_n 0, 1) := by decide +kernel
theorem dX10_layTree_150 : decode cX10_layTree 150 = .ok (.getfield 46, 3) := by decide +kernel
theorem dX10_layTree_153 : decode cX10_layTree 153 = .ok (.aload_n 0, 1) := by decide +kernel
theorem dX10_layTree_154 : decode cX10_layTree 154 = .ok (.getfield 22, 3) := by decide +kernel
theorem dX10_layTree_157 : decode cX10_layTree 157 = .ok (.bipush 48, 2) := by decide +kernel
theorem dX10_layTree_159 : decode cX10_layTree 159 = .ok (.iload_n 1, 1) := by decide +kernel
theorem dX10_layTree_160 : decode cX10_layTree 160 = .ok (.imul, 1) := by decide +kernel
theorem dX10_layTree_161 : decode cX10_layTree 161 = .ok (.iload_n 2, 1) := by decide +kernel
theorem dX10_layTree_162 : decode cX10_layTree 162 = .ok (.iadd, 1) := by decide +kernel
theorem dX10_layTree_163 : decode cX10_layTree 163 = .ok (.iaload, 1) := by decide +kernel
theorem dX10_layTree_164 : decode cX10_layTree 164 = .ok (.iconst 1, 1) := by decide +kernel
theorem dX10_layTree_165 : decode cX10_layTree 165 = .ok (.bastore, 1) := by decide +kernel
theorem dX10_layTree_166 : decode cX10_layTree 166 = .ok (.iload_n 2, 1) := by decide +kernel
theorem dX10_layTree_167 : decode cX10_layTree 167 = .ok (.bipush (-4), 2) := by decide +kernel
theorem dX10_layTree_169 : decode cX10_layTree 169 = .ok (.if_icmp .ne (-119), 3) := by decide +kernel
theorem dX10_layTree_172 : decode cX10_layTree 172 = .ok (.aload_n 0, 1) := by decide +kernel
theorem dX10_layTree_173 : decode cX10_layTree 173 = .ok (.iconst 0, 1) := by decide +kernel
theorem dX10_layTree_174 : decode cX10_layTree 174 = .ok (.putfield 218, 3) := by decide +kernel
theorem dX10_layTree_177 : decode cX10_layTree 177 = .ok (.iconst 0, 1) := by decide +kernel
theorem dX10_layTree_178 : decode cX10_layTree 178 = .ok (.istore_n 3, 1) := by decide +kernel
theorem dX10_layTree_179 : decode cX10_layTree 179 = .ok (.iload_n 3, 1) := by decide +kernel
theorem dX10_layTree_180 : decode cX10_layTree 180 = .ok (.aload_n 0, 1) := by decide +kernel
theorem dX10_layTree_181 : decode cX10_layTree 181 = .ok (.getfield 13, 3) := by decide +kernel
theorem dX10_layTree_184 : decode cX10_layTree 184 = .ok (.iload_n 1, 1) := by decide +kernel
theorem dX10_layTree_185 : decode cX10_layTree 185 = .ok (.iaload, 1) := by decide +kernel
theorem dX10_layTree_186 : decode cX10_layTree 186 = .ok (.if_icmp .ge 83, 3) := by decide +kernel
theorem dX10_layTree_189 : decode cX10_layTree 189 = .ok (.aload_n 0, 1) := by decide +kernel
theorem dX10_layTree_190 : decode cX10_layTree 190 = .ok (.getfield 46, 3) := by decide +kernel
theorem dX10_layTree_193 : decode cX10_layTree 193 = .ok (.aload_n 0, 1) := by decide +kernel
theorem dX10_layTree_194 : decode cX10_layTree 194 = .ok (.getfield 19, 3) := by decide +kernel
theorem dX10_layTree_197 : decode cX10_layTree 197 = .ok (.bipush 48, 2) := by decide +kernel
theorem dX10_layTree_199 : decode cX10_layTree 199 = .ok (.iload_n 1, 1) := by decide +kernel
theorem dX10_layTree_200 : decode cX10_layTree 200 = .ok (.imul, 1) := by decide +kernel
theorem dX10_layTree_201 : decode cX10_layTree 201 = .ok (.iload_n 3, 1) := by decide +kernel
theorem dX10_layTree_202 : decode cX10_layTree 202 = .ok (.iadd, 1) := by decide +kernel
theorem dX10_layTree_203 : decode cX10_layTree 203 = .ok (.iaload, 1) := by decide +kernel
theorem dX10_layTree_204 : decode cX10_layTree 204 = .ok (.baload, 1) := by decide +kernel
theorem dX10_layTree_205 : decode cX10_layTree 205 = .ok (.ifCond .eq 16, 3) := by decide +kernel
theorem dX10_layTree_208 : decode cX10_layTree 208 = .ok (.aload_n 0, 1) := by decide +kernel
theorem dX10_layTree_209 : decode cX10_layTree 209 = .ok (.getfield 50, 3) := by decide +kernel
theorem dX10_layTree_212 : decode cX10_layTree 212 = .ok (.iload_n 3, 1) := by decide +kernel
theorem dX10_layTree_213 : decode cX10_layTree 213 = .ok (.baload, 1) := by decide +kernel
theorem dX10_layTree_214 : decode cX10_layTree 214 = .ok (.ifCond .ne 7, 3) := by decide +kernel
theorem dX10_layTree_217 : decode cX10_layTree 217 = .ok (.iconst 1, 1) := by decide +kernel
theorem dX10_layTree_218 : decode cX10_layTree 218 = .ok (.goto 4, 3) := by decide +kernel
theorem dX10_layTree_221 : decode cX10_layTree 221 = .ok (.iconst 0, 1) := by decide +kernel
theorem dX10_layTree_222 : decode cX10_layTree 222 = .ok (.istore 4, 2) := by decide +kernel
theorem dX10_layTree_224 : decode cX10_layTree 224 = .ok (.aload_n 0, 1) := by decide +kernel
theorem dX10_layTree_225 : decode cX10_layTree 225 = .ok (.getfield 53, 3) := by decide +kernel
theorem dX10_layTree_228 : decode cX10_layTree 228 = .ok (.iload_n 3, 1) := by decide +kernel
theorem dX10_layTree_229 : decode cX10_layTree 229 = .ok (.iload 4, 2) := by decide +kernel
theorem dX10_layTree_231 : decode cX10_layTree 231 = .ok (.ifCond .eq 10, 3) := by decide +kernel
theorem dX10_layTree_234 : decode cX10_layTree 234 = .ok (.aload_n 0, 1) := by decide +kernel
theorem dX10_layTree_235 : decode cX10_layTree 235 = .ok (.getfield 218, 3) := by decide +kernel
theorem dX10_layTree_238 : decode cX10_layTree 238 = .ok (.goto 5, 3) := by decide +kernel
theorem dX10_layTree_241 : decode cX10_layTree 241 = .ok (.bipush (-4), 2) := by decide +kernel
theorem dX10_layTree_243 : decode cX10_layTree 243 = .ok (.iastore, 1) := by decide +kernel
theorem dX10_layTree_244 : decode cX10_layTree 244 = .ok (.aload_n 0, 1) := by decide +kernel
theorem dX10_layTree_245 : decode cX10_layTree 245 = .ok (.dup, 1) := by decide +kernel
theorem dX10_layTree_246 : decode cX10_layTree 246 = .ok (.getfield 218, 3) := by decide +kernel
theorem dX10_layTree_249 : decode cX10_layTree 249 = .ok (.iload 4, 2) := by decide +kernel
theorem dX10_layTree_251 : decode cX10_layTree 251 = .ok (.ifCond .eq 7, 3) := by decide +kernel
theorem dX10_layTree_254 : decode cX10_layTree 254 = .ok (.iconst 1, 1) := by decide +kernel
theorem dX10_layTree_255 : decode cX10_layTree 255 = .ok (.goto 4, 3) := by decide +kernel
theorem dX10_layTree_258 : decode cX10_layTree 258 = .ok (.iconst 0, 1) := by decide +kernel
theorem dX10_layTree_259 : decode cX10_layTree 259 = .ok (.iadd, 1) := by decide +kernel
theorem dX10_layTree_260 : decode cX10_layTree 260 = .ok (.putfield 218, 3) := by decide +kernel
theorem dX10_layTree_263 : decode cX10_layTree 263 = .ok (.iinc 3 1, 3) := by decide +kernel
theorem dX10_layTree_266 : decode cX10_layTree 266 = .ok (.goto (-87), 3) := by decide +kernel
theorem dX10_layTree_269 : decode cX10_layTree 269 = .ok (.return_, 1) := by decide +kernel
theorem dX10_isFaceInPart_0 : decode cX10_isFaceInPart 0 = .ok (.aload_n 0, 1) := by decide +kernel
theorem dX10_isFaceInPart_1 : decode cX10_isFaceInPart 1 = .ok (.getfield 46, 3) := by decide +kernel
theorem dX10_isFaceInPart_4 : decode cX10_isFaceInPart 4 = .ok (.aload_n 0, 1) := by decide +kernel
theorem dX10_isFaceInPart_5 : decode cX10_isFaceInPart 5 = .ok (.iload_n 1, 1) := by decide +kernel
theorem dX10_isFaceInPart_6 : decode cX10_isFaceInPart 6 = .ok (.aload_n 0, 1) := by decide +kernel
theorem dX10_isFaceInPart_7 : decode cX10_isFaceInPart 7 = .ok (.iload_n 1, 1) := by decide +kernel
theorem dX10_isFaceInPart_8 : decode cX10_isFaceInPart 8 = .ok (.iload_n 2, 1) := by decide +kernel
theorem dX10_isFaceInPart_9 : decode cX10_isFaceInPart 9 = .ok (.iconst 0, 1) := by decide +kernel
theorem dX10_isFaceInPart_10 : decode cX10_isFaceInPart 10 = .ok (.invokevirtual 221, 3) := by decide +kernel
theorem dX10_isFaceInPart_13 : decode cX10_isFaceInPart 13 = .ok (.invokevirtual 145, 3) := by decide +kernel
theorem dX10_isFaceInPart_16 : decode cX10_isFaceInPart 16 = .ok (.baload, 1) := by decide +kernel
theorem dX10_isFaceInPart_17 : decode cX10_isFaceInPart 17 = .ok (.ireturn, 1) := by decide +kernel
theorem dX10_count_0 : decode cX10_count 0 = .ok (.aload_n 0, 1) := by decide +kernel
theorem dX10_count_1 : decode cX10_count 1 = .ok (.iload_n 1, 1) := by decide +kernel
theorem dX10_count_2 : decode cX10_count 2 = .ok (.invokevirtual 224, 3) := by decide +kernel
theorem dX10_count_5 : decode cX10_count 5 = .ok (.ifCond .eq 12, 3) := by decide +kernel
theorem dX10_count_8 : decode cX10_count 8 = .ok (.iload_n 2, 1) := by decide +kernel
theorem dX10_count_9 : decode cX10_count 9 = .ok (.iconst 0, 1) := by decide +kernel
theorem dX10_count_10 : decode cX10_count 10 = .ok (.iconst 5, 1) := by decide +kernel
theorem dX10_count_11 : decode cX10_count 11 = .ok (.invokestatic 133, 3) := by decide +kernel
theorem dX10_count_14 : decode cX10_count 14 = .ok (.ifCond .ne 7, 3) := by decide +kernel
theorem dX10_count_17 : decode cX10_count 17 = .ok (.sipush (-1001), 3) := by decide +kernel
theorem dX10_count_20 : decode cX10_count 20 = .ok (.ireturn, 1) := by decide +kernel
theorem dX10_count_21 : decode cX10_count 21 = .ok (.iload_n 2, 1) := by decide +kernel
theorem dX10_count_22 : decode cX10_count 22 = .ok (.iconst 3, 1) := by decide +kernel
theorem dX10_count_23 : decode cX10_count 23 = .ok (.if_icmp .ge 37, 3) := by decide +kernel
theorem dX10_count_26 : decode cX10_count 26 = .ok (.iload_n 2, 1) := by decide +kernel
theorem dX10_count_27 : decode cX10_count 27 = .ok (.ifCond .ne 12, 3) := by decide +kernel
theorem dX10_count_30 : decode cX10_count 30 = .ok (.aload_n 0, 1) := by decide +kernel
theorem dX10_count_31 : decode cX10_count 31 = .ok (.getfield 7, 3) := by decide +kernel
theorem dX10_count_34 : decode cX10_count 34 = .ok (.iload_n 1, 1) := by decide +kernel
theorem dX10_count_35 : decode cX10_count 35 = .ok (.iaload, 1) := by decide +kernel
theorem dX10_count_36 : decode cX10_count 36 = .ok (.goto 23, 3) := by decide +kernel
theorem dX10_count_39 : decode cX10_count 39 = .ok (.iload_n 2, 1) := by decide +kernel
theorem dX10_count_40 : decode cX10_count 40 = .ok (.iconst 1, 1) := by decide +kernel
theorem dX10_count_41 : decode cX10_count 41 = .ok (.if_icmp .ne 12, 3) := by decide +kernel
theorem dX10_count_44 : decode cX10_count 44 = .ok (.aload_n 0, 1) := by decide +kernel
theorem dX10_count_45 : decode cX10_count 45 = .ok (.getfield 13, 3) := by decide +kernel
theorem dX10_count_48 : decode cX10_count 48 = .ok (.iload_n 1, 1) := by decide +kernel
theorem dX10_count_49 : decode cX10_count 49 = .ok (.iaload, 1) := by decide +kernel
theorem dX10_count_50 : decode cX10_count 50 = .ok (.goto 9, 3) := by decide +kernel
theorem dX10_count_53 : decode cX10_count 53 = .ok (.aload_n 0, 1) := by decide +kernel
theorem dX10_count_54 : decode cX10_count 54 = .ok (.getfield 16, 3) := by decide +kernel
theorem dX10_count_57 : decode cX10_count 57 = .ok (.iload_n 1, 1) := by decide +kernel
theorem dX10_count_58 : decode cX10_count 58 = .ok (.iaload, 1) := by decide +kernel
theorem dX10_count_59 : decode cX10_count 59 = .ok (.ireturn, 1) := by decide +kernel
theorem dX10_count_60 : decode cX10_count 60 = .ok (.iload_n 2, 1) := by decide +kernel
theorem dX10_count_61 : decode cX10_count 61 = .ok (.iconst 3, 1) := by decide +kernel
theorem dX10_count_62 : decode cX10_count 62 = .ok (.if_icmp .ne 24, 3) := by decide +kernel
theorem dX10_count_65 : decode cX10_count 65 = .ok (.aload_n 0, 1) := by decide +kernel
theorem dX10_count_66 : decode cX10_count 66 = .ok (.getfield 7, 3) := by decide +kernel
theorem dX10_count_69 : decode cX10_count 69 = .ok (.iload_n 1, 1) := by decide +kernel
theorem dX10_count_70 : decode cX10_count 70 = .ok (.iaload, 1) := by decide +kernel
theorem dX10_count_71 : decode cX10_count 71 = .ok (.aload_n 0, 1) := by decide +kernel
theorem dX10_count_72 : decode cX10_count 72 = .ok (.getfield 13, 3) := by decide +kernel
theorem dX10_count_75 : decode cX10_count 75 = .ok (.iload_n 1, 1) := by decide +kernel
theorem dX10_count_76 : decode cX10_count 76 = .ok (.iaload, 1) := by decide +kernel
theorem dX10_count_77 : decode cX10_count 77 = .ok (.isub, 1) := by decide +kernel
theorem dX10_count_78 : decode cX10_count 78 = .ok (.aload_n 0, 1) := by decide +kernel
theorem dX10_count_79 : decode cX10_count 79 = .ok (.getfield 16, 3) := by decide +kernel
theorem dX10_count_82 : decode cX10_count 82 = .ok (.iload_n 1, 1) := by decide +kernel
theorem dX10_count_83 : decode cX10_count 83 = .ok (.iaload, 1) := by decide +kernel
theorem dX10_count_84 : decode cX10_count 84 = .ok (.iadd, 1) := by decide +kernel
theorem dX10_count_85 : decode cX10_count 85 = .ok (.ireturn, 1) := by decide +kernel
theorem dX10_count_86 : decode cX10_count 86 = .ok (.aload_n 0, 1) := by decide +kernel
theorem dX10_count_87 : decode cX10_count 87 = .ok (.iload_n 1, 1) := by decide +kernel
theorem dX10_count_88 : decode cX10_count 88 = .ok (.invokevirtual 227, 3) := by decide +kernel
theorem dX10_count_91 : decode cX10_count 91 = .ok (.iconst 0, 1) := by decide +kernel
theorem dX10_count_92 : decode cX10_count 92 = .ok (.istore_n 3, 1) := by decide +kernel
theorem dX10_count_93 : decode cX10_count 93 = .ok (.iconst 0, 1) := by decide +kernel
theorem dX10_count_94 : decode cX10_count 94 = .ok (.istore 4, 2) := by decide +kernel
theorem dX10_count_96 : decode cX10_count 96 = .ok (.iload 4, 2) := by decide +kernel
theorem dX10_count_98 : decode cX10_count 98 = .ok (.aload_n 0, 1) := by decide +kernel
theorem dX10_count_99 : decode cX10_count 99 = .ok (.getfield 7, 3) := by decide +kernel
theorem dX10_count_102 : decode cX10_count 102 = .ok (.iload_n 1, 1) := by decide +kernel
theorem dX10_count_103 : decode cX10_count 103 = .ok (.iaload, 1) := by decide +kernel
theorem dX10_count_104 : decode cX10_count 104 = .ok (.if_icmp .ge 27, 3) := by decide +kernel
theorem dX10_count_107 : decode cX10_count 107 = .ok (.iload_n 3, 1) := by decide +kernel
theorem dX10_count_108 : decode cX10_count 108 = .ok (.aload_n 0, 1) := by decide +kernel
theorem dX10_count_109 : decode cX10_count 109 = .ok (.getfield 46, 3) := by decide +kernel
theorem dX10_count_112 : decode cX10_count 112 = .ok (.iload 4, 2) := by decide +kernel
theorem dX10_count_114 : decode cX10_count 114 = .ok (.baload, 1) := by decide +kernel
theorem dX10_count_115 : decode cX10_count 115 = .ok (.ifCond .eq 7, 3) := by decide +kernel
theorem dX10_count_118 : decode cX10_count 118 = .ok (.iconst 1, 1) := by decide +kernel
theorem dX10_count_119 : decode cX10_count 119 = .ok (.goto 4, 3) := by decide +kernel
theorem dX10_count_122 : decode cX10_count 122 = .ok (.iconst 0, 1) := by decide +kernel
theorem dX10_count_123 : decode cX10_count 123 = .ok (.iadd, 1) := by decide +kernel
theorem dX10_count_124 : decode cX10_count 124 = .ok (.istore_n 3, 1) := by decide +kernel
theorem dX10_count_125 : decode cX10_count 125 = .ok (.iinc 4 1, 3) := by decide +kernel
theorem dX10_count_128 : decode cX10_count 128 = .ok (.goto (-32), 3) := by decide +kernel
theorem dX10_count_131 : decode cX10_count 131 = .ok (.iload_n 2, 1) := by decide +kernel
theorem dX10_count_132 : decode cX10_count 132 = .ok (.iconst 4, 1) := by decide +kernel
theorem dX10_count_133 : decode cX10_count 133 = .ok (.if_icmp .ne 7, 3) := by decide +kernel
theorem dX10_count_136 : decode cX10_count 136 = .ok (.iload_n 3, 1) := by decide +kernel
theorem dX10_count_137 : decode cX10_count 137 = .ok (.goto 7, 3) := by decide +kernel
theorem dX10_count_140 : decode cX10_count 140 = .ok (.aload_n 0, 1) := by decide +kernel
theorem dX10_count_141 : decode cX10_count 141 = .ok (.getfield 218, 3) := by decide +kernel
theorem dX10_count_144 : decode cX10_count 144 = .ok (.ireturn, 1) := by decide +kernel
theorem dX10_told_0 : decode cX10_told 0 = .ok (.aload_n 0, 1) := by decide +kernel
theorem dX10_told_1 : decode cX10_told 1 = .ok (.iload_n 1, 1) := by decide +kernel
theorem dX10_told_2 : decode cX10_told 2 = .ok (.invokevirtual 224, 3) := by decide +kernel
theorem dX10_told_5 : decode cX10_told 5 = .ok (.ifCond .eq 28, 3) := by decide +kernel
theorem dX10_told_8 : decode cX10_told 8 = .ok (.iload_n 2, 1) := by decide +kernel
theorem dX10_told_9 : decode cX10_told 9 = .ok (.iconst 0, 1) := by decide +kernel
theorem dX10_told_10 : decode cX10_told 10 = .ok (.aload_n 0, 1) := by decide +kernel
theorem dX10_told_11 : decode cX10_told 11 = .ok (.getfield 13, 3) := by decide +kernel
theorem dX10_told_14 : decode cX10_told 14 = .ok (.iload_n 1, 1) := by decide +kernel
theorem dX10_told_15 : decode cX10_told 15 = .ok (.iaload, 1) := by decide +kernel
theorem dX10_told_16 : decode cX10_told 16 = .ok (.iconst 1, 1) := by decide +kernel
theorem dX10_told_17 : decode cX10_told 17 = .ok (.isub, 1) := by decide +kernel
theorem dX10_told_18 : decode cX10_told 18 = .ok (.invokestatic 133, 3) := by decide +kernel
theorem dX10_told_21 : decode cX10_told 21 = .ok (.ifCond .eq 12, 3) := by decide +kernel
theorem dX10_told_24 : decode cX10_told 24 = .ok (.iload_n 3, 1) := by decide +kernel
theorem dX10_told_25 : decode cX10_told 25 = .ok (.iconst 0, 1) := by decide +kernel
theorem dX10_told_26 : decode cX10_told 26 = .ok (.iconst 2, 1) := by decide +kernel
theorem dX10_told_27 : decode cX10_told 27 = .ok (.invokestatic 133, 3) := by decide +kernel
theorem dX10_told_30 : decode cX10_told 30 = .ok (.ifCond .ne 5, 3) := by decide +kernel
theorem dX10_told_33 : decode cX10_told 33 = .ok (.iconst (-1), 1) := by decide +kernel
theorem dX10_told_34 : decode cX10_told 34 = .ok (.ireturn, 1) := by decide +kernel
theorem dX10_told_35 : decode cX10_told 35 = .ok (.aload_n 0, 1) := by decide +kernel
theorem dX10_told_36 : decode cX10_told 36 = .ok (.iload_n 1, 1) := by decide +kernel
theorem dX10_told_37 : decode cX10_told 37 = .ok (.invokevirtual 227, 3) := by decide +kernel
theorem dX10_told_40 : decode cX10_told 40 = .ok (.iload_n 3, 1) := by decide +kernel
theorem dX10_told_41 : decode cX10_told 41 = .ok (.ifCond .ne 17, 3) := by decide +kernel
theorem dX10_told_44 : decode cX10_told 44 = .ok (.aload_n 0, 1) := by decide +kernel
theorem dX10_told_45 : decode cX10_told 45 = .ok (.getfield 19, 3) := by decide +kernel
theorem dX10_told_48 : decode cX10_told 48 = .ok (.bipush 48, 2) := by decide +kernel
theorem dX10_told_50 : decode cX10_told 50 = .ok (.iload_n 1, 1) := by decide +kernel
theorem dX10_told_51 : decode cX10_told 51 = .ok (.imul, 1) := by decide +kernel
theorem dX10_told_52 : decode cX10_told 52 = .ok (.iload_n 2, 1) := by decide +kernel
theorem dX10_told_53 : decode cX10_told 53 = .ok (.iadd, 1) := by decide +kernel
theorem dX10_told_54 : decode cX10_told 54 = .ok (.iaload, 1) := by decide +kernel
theorem dX10_told_55 : decode cX10_told 55 = .ok (.goto 36, 3) := by decide +kernel
theorem dX10_told_58 : decode cX10_told 58 = .ok (.iload_n 3, 1) := by decide +kernel
theorem dX10_told_59 : decode cX10_told 59 = .ok (.iconst 1, 1) := by decide +kernel
theorem dX10_told_60 : decode cX10_told 60 = .ok (.if_icmp .ne 17, 3) := by decide +kernel
theorem dX10_told_63 : decode cX10_told 63 = .ok (.aload_n 0, 1) := by decide +kernel
theorem dX10_told_64 : decode cX10_told 64 = .ok (.getfield 22, 3) := by decide +kernel
theorem dX10_told_67 : decode cX10_told 67 = .ok (.bipush 48, 2) := by decide +kernel
theorem dX10_told_69 : decode cX10_told 69 = .ok (.iload_n 1, 1) := by decide +kernel
theorem dX10_told_70 : decode cX10_told 70 = .ok (.imul, 1) := by decide +kernel
theorem dX10_told_71 : decode cX10_told 71 = .ok (.iload_n 2, 1) := by decide +kernel
theorem dX10_told_72 : decode cX10_told 72 = .ok (.iadd, 1) := by decide +kernel
theorem dX10_told_73 : decode cX10_told 73 = .ok (.iaload, 1) := by decide +kernel
theorem dX10_told_74 : decode cX10_told 74 = .ok (.goto 17, 3) := by decide +kernel
theorem dX10_told_77 : decode cX10_told 77 = .ok (.aload_n 0, 1) := by decide +kernel
theorem dX10_told_78 : decode cX10_told 78 = .ok (.getfield 50, 3) := by decide +kernel
theorem dX10_told_81 : decode cX10_told 81 = .ok (.iload_n 2, 1) := by decide +kernel
theorem dX10_told_82 : decode cX10_told 82 = .ok (.baload, 1) := by decide +kernel
theorem dX10_told_83 : decode cX10_told 83 = .ok (.ifCond .eq 7, 3) := by decide +kernel
theorem dX10_told_86 : decode cX10_told 86 = .ok (.iconst 1, 1) := by decide +kernel
theorem dX10_told_87 : decode cX10_told 87 = .ok (.goto 4, 3) := by decide +kernel
theorem dX10_told_90 : decode cX10_told 90 = .ok (.iconst 0, 1) := by decide +kernel
theorem dX10_told_91 : decode cX10_told 91 = .ok (.ireturn, 1) := by decide +kernel
theorem dX10_tellsStep_0 : decode cX10_tellsStep 0 = .ok (.iload_n 0, 1) := by decide +kernel
theorem dX10_tellsStep_1 : decode cX10_tellsStep 1 = .ok (.ifCond .le 9, 3) := by decide +kernel
theorem dX10_tellsStep_4 : decode cX10_tellsStep 4 = .ok (.iload_n 0, 1) := by decide +kernel
theorem dX10_tellsStep_5 : decode cX10_tellsStep 5 = .ok (.iconst 1, 1) := by decide +kernel
theorem dX10_tellsStep_6 : decode cX10_tellsStep 6 = .ok (.isub, 1) := by decide +kernel
theorem dX10_tellsStep_7 : decode cX10_tellsStep 7 = .ok (.goto 7, 3) := by decide +kernel
theorem dX10_tellsStep_10 : decode cX10_tellsStep 10 = .ok (.bipush 99, 2) := by decide +kernel
theorem dX10_tellsStep_12 : decode cX10_tellsStep 12 = .ok (.iload_n 0, 1) := by decide +kernel
theorem dX10_tellsStep_13 : decode cX10_tellsStep 13 = .ok (.isub, 1) := by decide +kernel
theorem dX10_tellsStep_14 : decode cX10_tellsStep 14 = .ok (.ireturn, 1) := by decide +kernel
theorem dX10_rim_0 : decode cX10_rim 0 = .ok (.aload_n 0, 1) := by decide +kernel
theorem dX10_rim_1 : decode cX10_rim 1 = .ok (.iload_n 1, 1) := by decide +kernel
theorem dX10_rim_2 : decode cX10_rim 2 = .ok (.invokevirtual 224, 3) := by decide +kernel
theorem dX10_rim_5 : decode cX10_rim 5 = .ok (.ifCond .eq 44, 3) := by decide +kernel
theorem dX10_rim_8 : decode cX10_rim 8 = .ok (.iload_n 2, 1) := by decide +kernel
theorem dX10_rim_9 : decode cX10_rim 9 = .ok (.iconst 0, 1) := by decide +kernel
theorem dX10_rim_10 : decode cX10_rim 10 = .ok (.aload_n 0, 1) := by decide +kernel
theorem dX10_rim_11 : decode cX10_rim 11 = .ok (.getfield 16, 3) := by decide +kernel
theorem dX10_rim_14 : decode cX10_rim 14 = .ok (.iload_n 1, 1) := by decide +kernel
theorem dX10_rim_15 : decode cX10_rim 15 = .ok (.iaload, 1) := by decide +kernel
theorem dX10_rim_16 : decode cX10_rim 16 = .ok (.iconst 1, 1) := by decide +kernel
theorem dX10_rim_17 : decode cX10_rim 17 = .ok (.isub, 1) := by decide +kernel
theorem dX10_rim_18 : decode cX10_rim 18 = .ok (.invokestatic 133, 3) := by decide +kernel
theorem dX10_rim_21 : decode cX10_rim 21 = .ok (.ifCond .eq 28, 3) := by decide +kernel
theorem dX10_rim_24 : decode cX10_rim 24 = .ok (.iload_n 3, 1) := by decide +kernel
theorem dX10_rim_25 : decode cX10_rim 25 = .ok (.iconst 0, 1) := by decide +kernel
theorem dX10_rim_26 : decode cX10_rim 26 = .ok (.aload_n 0, 1) := by decide +kernel
theorem dX10_rim_27 : decode cX10_rim 27 = .ok (.getfield 25, 3) := by decide +kernel
theorem dX10_rim_30 : decode cX10_rim 30 = .ok (.bipush 32, 2) := by decide +kernel
theorem dX10_rim_32 : decode cX10_rim 32 = .ok (.iload_n 1, 1) := by decide +kernel
theorem dX10_rim_33 : decode cX10_rim 33 = .ok (.imul, 1) := by decide +kernel
theorem dX10_rim_34 : decode cX10_rim 34 = .ok (.iload_n 2, 1) := by decide +kernel
theorem dX10_rim_35 : decode cX10_rim 35 = .ok (.iadd, 1) := by decide +kernel
theorem dX10_rim_36 : decode cX10_rim 36 = .ok (.iaload, 1) := by decide +kernel
theorem dX10_rim_37 : decode cX10_rim 37 = .ok (.iconst 1, 1) := by decide +kernel
theorem dX10_rim_38 : decode cX10_rim 38 = .ok (.isub, 1) := by decide +kernel
theorem dX10_rim_39 : decode cX10_rim 39 = .ok (.invokestatic 133, 3) := by decide +kernel
theorem dX10_rim_42 : decode cX10_rim 42 = .ok (.ifCond .eq 7, 3) := by decide +kernel
theorem dX10_rim_45 : decode cX10_rim 45 = .ok (.iconst 1, 1) := by decide +kernel
theorem dX10_rim_46 : decode cX10_rim 46 = .ok (.goto 4, 3) := by decide +kernel
theorem dX10_rim_49 : decode cX10_rim 49 = .ok (.iconst 0, 1) := by decide +kernel
theorem dX10_rim_50 : decode cX10_rim 50 = .ok (.istore 4, 2) := by decide +kernel
theorem dX10_rim_52 : decode cX10_rim 52 = .ok (.iload 4, 2) := by decide +kernel
theorem dX10_rim_54 : decode cX10_rim 54 = .ok (.ifCond .eq 16, 3) := by decide +kernel
theorem dX10_rim_57 : decode cX10_rim 57 = .ok (.aload_n 0, 1) := by decide +kernel
theorem dX10_rim_58 : decode cX10_rim 58 = .ok (.iload_n 1, 1) := by decide +kernel
theorem dX10_rim_59 : decode cX10_rim 59 = .ok (.iload_n 2, 1) := by decide +kernel
theorem dX10_rim_60 : decode cX10_rim 60 = .ok (.iload_n 3, 1) := by decide +kernel
theorem dX10_rim_61 : decode cX10_rim 61 = .ok (.invokevirtual 221, 3) := by decide +kernel
theorem dX10_rim_64 : decode cX10_rim 64 = .ok (.invokestatic 230, 3) := by decide +kernel
theorem dX10_rim_67 : decode cX10_rim 67 = .ok (.goto 4, 3) := by decide +kernel
theorem dX10_rim_70 : decode cX10_rim 70 = .ok (.iconst (-1), 1) := by decide +kernel
theorem dX10_rim_71 : decode cX10_rim 71 = .ok (.ireturn, 1) := by decide +kernel
theorem dX10_rankOf_0 : decode cX10_rankOf 0 = .ok (.iconst 0, 1) := by decide +kernel
theorem dX10_rankOf_1 : decode cX10_rankOf 1 = .ok (.istore 4, 2) := by decide +kernel
theorem dX10_rankOf_3 : decode cX10_rankOf 3 = .ok (.iconst 0, 1) := by decide +kernel
theorem dX10_rankOf_4 : decode cX10_rankOf 4 = .ok (.istore 5, 2) := by decide +kernel
theorem dX10_rankOf_6 : decode cX10_rankOf 6 = .ok (.iload 5, 2) := by decide +kernel
theorem dX10_rankOf_8 : decode cX10_rankOf 8 = .ok (.iload_n 2, 1) := by decide +kernel
theorem dX10_rankOf_9 : decode cX10_rankOf 9 = .ok (.if_icmp .ge 244, 3) := by decide +kernel
theorem dX10_rankOf_12 : decode cX10_rankOf 12 = .ok (.iload 4, 2) := by decide +kernel
theorem dX10_rankOf_14 : decode cX10_rankOf 14 = .ok (.iload_n 1, 1) := by decide +kernel
theorem dX10_rankOf_15 : decode cX10_rankOf 15 = .ok (.if_icmp .ge 238, 3) := by decide +kernel
theorem dX10_rankOf_18 : decode cX10_rankOf 18 = .ok (.iload 4, 2) := by decide +kernel
theorem dX10_rankOf_20 : decode cX10_rankOf 20 = .ok (.istore 6, 2) := by decide +kernel
theorem dX10_rankOf_22 : decode cX10_rankOf 22 = .ok (.iload 6, 2) := by decide +kernel
theorem dX10_rankOf_24 : decode cX10_rankOf 24 = .ok (.iload_n 1, 1) := by decide +kernel
theorem dX10_rankOf_25 : decode cX10_rankOf 25 = .ok (.if_icmp .ge 27, 3) := by decide +kernel
theorem dX10_rankOf_28 : decode cX10_rankOf 28 = .ok (.aload_n 0, 1) := by decide +kernel
theorem dX10_rankOf_29 : decode cX10_rankOf 29 = .ok (.getfield 56, 3) := by decide +kernel
theorem dX10_rankOf_32 : decode cX10_rankOf 32 = .ok (.bipush 48, 2) := by decide +kernel
theorem dX10_rankOf_34 : decode cX10_rankOf 34 = .ok (.iload 6, 2) := by decide +kernel
theorem dX10_rankOf_36 : decode cX10_rankOf 36 = .ok (.imul, 1) := by decide +kernel
theorem dX10_rankOf_37 : decode cX10_rankOf 37 = .ok (.iload 5, 2) := by decide +kernel
theorem dX10_rankOf_39 : decode cX10_rankOf 39 = .ok (.iadd, 1) := by decide +kernel
theorem dX10_rankOf_40 : decode cX10_rankOf 40 = .ok (.iaload, 1) := by decide +kernel
theorem dX10_rankOf_41 : decode cX10_rankOf 41 = .ok (.iload_n 3, 1) := by decide +kernel
theorem dX10_rankOf_42 : decode cX10_rankOf 42 = .ok (.irem, 1) := by decide +kernel
theorem dX10_rankOf_43 : decode cX10_rankOf 43 = .ok (.ifCond .ne 9, 3) := by decide +kernel
theorem dX10_rankOf_46 : decode cX10_rankOf 46 = .ok (.iinc 6 1, 3) := by decide +kernel
theorem dX10_rankOf_49 : decode cX10_rankOf 49 = .ok (.goto (-27), 3) := by decide +kernel
theorem dX10_rankOf_52 : decode cX10_rankOf 52 = .ok (.iload 6, 2) := by decide +kernel
theorem dX10_rankOf_54 : decode cX10_rankOf 54 = .ok (.iload_n 1, 1) := by decide +kernel
theorem dX10_rankOf_55 : decode cX10_rankOf 55 = .ok (.if_icmp .ge 192, 3) := by decide +kernel
theorem dX10_rankOf_58 : decode cX10_rankOf 58 = .ok (.iconst 0, 1) := by decide +kernel
theorem dX10_rankOf_59 : decode cX10_rankOf 59 = .ok (.istore 7, 2) := by decide +kernel
theorem dX10_rankOf_61 : decode cX10_rankOf 61 = .ok (.iload 7, 2) := by decide +kernel
theorem dX10_rankOf_63 : decode cX10_rankOf 63 = .ok (.iload_n 2, 1) := by decide +kernel
theorem dX10_rankOf_64 : decode cX10_rankOf 64 = .ok (.if_icmp .ge 65, 3) := by decide +kernel
theorem dX10_rankOf_67 : decode cX10_rankOf 67 = .ok (.aload_n 0, 1) := by decide +kernel
theorem dX10_rankOf_68 : decode cX10_rankOf 68 = .ok (.getfield 56, 3) := by decide +kernel
theorem dX10_rankOf_71 : decode cX10_rankOf 71 = .ok (.bipush 48, 2) := by decide +kernel
theorem dX10_rankOf_73 : decode cX10_rankOf 73 = .ok (.iload 6, 2) := by decide +kernel
theorem dX10_rankOf_75 : decode cX10_rankOf 75 = .ok (.imul, 1) := by decide +kernel
theorem dX10_rankOf_76 : decode cX10_rankOf 76 = .ok (.iload 7, 2) := by decide +kernel
theorem dX10_rankOf_78 : decode cX10_rankOf 78 = .ok (.iadd, 1) := by decide +kernel
theorem dX10_rankOf_79 : decode cX10_rankOf 79 = .ok (.iaload, 1) := by decide +kernel
theorem dX10_rankOf_80 : decode cX10_rankOf 80 = .ok (.istore 8, 2) := by decide +kernel
theorem dX10_rankOf_82 : decode cX10_rankOf 82 = .ok (.aload_n 0, 1) := by decide +kernel
theorem dX10_rankOf_83 : decode cX10_rankOf 83 = .ok (.getfield 56, 3) := by decide +kernel
theorem dX10_rankOf_86 : decode cX10_rankOf 86 = .ok (.bipush 48, 2) := by decide +kernel
theorem dX10_rankOf_88 : decode cX10_rankOf 88 = .ok (.iload 6, 2) := by decide +kernel
theorem dX10_rankOf_90 : decode cX10_rankOf 90 = .ok (.imul, 1) := by decide +kernel
theorem dX10_rankOf_91 : decode cX10_rankOf 91 = .ok (.iload 7, 2) := by decide +kernel
theorem dX10_rankOf_93 : decode cX10_rankOf 93 = .ok (.iadd, 1) := by decide +kernel
theorem dX10_rankOf_94 : decode cX10_rankOf 94 = .ok (.aload_n 0, 1) := by decide +kernel
theorem dX10_rankOf_95 : decode cX10_rankOf 95 = .ok (.getfield 56, 3) := by decide +kernel
theorem dX10_rankOf_98 : decode cX10_rankOf 98 = .ok (.bipush 48, 2) := by decide +kernel
theorem dX10_rankOf_100 : decode cX10_rankOf 100 = .ok (.iload 4, 2) := by decide +kernel
theorem dX10_rankOf_102 : decode cX10_rankOf 102 = .ok (.imul, 1) := by decide +kernel
theorem dX10_rankOf_103 : decode cX10_rankOf 103 = .ok (.iload 7, 2) := by decide +kernel
theorem dX10_rankOf_105 : decode cX10_rankOf 105 = .ok (.iadd, 1) := by decide +kernel
theorem dX10_rankOf_106 : decode cX10_rankOf 106 = .ok (.iaload, 1) := by decide +kernel
theorem dX10_rankOf_107 : decode cX10_rankOf 107 = .ok (.iastore, 1) := by decide +kernel
theorem dX10_rankOf_108 : decode cX10_rankOf 108 = .ok (.aload_n 0, 1) := by decide +kernel
theorem dX10_rankOf_109 : decode cX10_rankOf 109 = .ok (.getfield 56, 3) := by decide +kernel
theorem dX10_rankOf_112 : decode cX10_rankOf 112 = .ok (.bipush 48, 2) := by decide +kernel
theorem dX10_rankOf_114 : decode cX10_rankOf 114 = .ok (.iload 4, 2) := by decide +kernel
theorem dX10_rankOf_116 : decode cX10_rankOf 116 = .ok (.imul, 1) := by decide +kernel
theorem dX10_rankOf_117 : decode cX10_rankOf 117 = .ok (.iload 7, 2) := by decide +kernel
theorem dX10_rankOf_119 : decode cX10_rankOf 119 = .ok (.iadd, 1) := by decide +kernel
theorem dX10_rankOf_120 : decode cX10_rankOf 120 = .ok (.iload 8, 2) := by decide +kernel
theorem dX10_rankOf_122 : decode cX10_rankOf 122 = .ok (.iastore, 1) := by decide +kernel
theorem dX10_rankOf_123 : decode cX10_rankOf 123 = .ok (.iinc 7 1, 3) := by decide +kernel
theorem dX10_rankOf_126 : decode cX10_rankOf 126 = .ok (.goto (-65), 3) := by decide +kernel
theorem dX10_rankOf_129 : decode cX10_rankOf 129 = .ok (.iload 4, 2) := by decide +kernel
theorem dX10_rankOf_131 : decode cX10_rankOf 131 = .ok (.iconst 1, 1) := by decide +kernel
theorem dX10_rankOf_132 : decode cX10_rankOf 132 = .ok (.iadd, 1) := by decide +kernel
theorem dX10_rankOf_133 : decode cX10_rankOf 133 = .ok (.istore 7, 2) := by decide +kernel
theorem dX10_rankOf_135 : decode cX10_rankOf 135 = .ok (.iload 7, 2) := by decide +kernel
theorem dX10_rankOf_137 : decode cX10_rankOf 137 = .ok (.iload_n 1, 1) := by decide +kernel
theorem dX10_rankOf_138 : decode cX10_rankOf 138 = .ok (.if_icmp .ge 106, 3) := by decide +kernel
theorem dX10_rankOf_141 : decode cX10_rankOf 141 = .ok (.aload_n 0, 1) := by decide +kernel
theorem dX10_rankOf_142 : decode cX10_rankOf 142 = .ok (.getfield 56, 3) := by decide +kernel
theorem dX10_rankOf_145 : decode cX10_rankOf 145 = .ok (.bipush 48, 2) := by decide +kernel
theorem dX10_rankOf_147 : decode cX10_rankOf 147 = .ok (.iload 7, 2) := by decide +kernel
theorem dX10_rankOf_149 : decode cX10_rankOf 149 = .ok (.imul, 1) := by decide +kernel
theorem dX10_rankOf_150 : decode cX10_rankOf 150 = .ok (.iload 5, 2) := by decide +kernel
theorem dX10_rankOf_152 : decode cX10_rankOf 152 = .ok (.iadd, 1) := by decide +kernel
theorem dX10_rankOf_153 : decode cX10_rankOf 153 = .ok (.iaload, 1) := by decide +kernel
theorem dX10_rankOf_154 : decode cX10_rankOf 154 = .ok (.istore 8, 2) := by decide +kernel
theorem dX10_rankOf_156 : decode cX10_rankOf 156 = .ok (.aload_n 0, 1) := by decide +kernel
theorem dX10_rankOf_157 : decode cX10_rankOf 157 = .ok (.getfield 56, 3) := by decide +kernel
theorem dX10_rankOf_160 : decode cX10_rankOf 160 = .ok (.bipush 48, 2) := by decide +kernel
theorem dX10_rankOf_162 : decode cX10_rankOf 162 = .ok (.iload 4, 2) := by decide +kernel
theorem dX10_rankOf_164 : decode cX10_rankOf 164 = .ok (.imul, 1) := by decide +kernel
theorem dX10_rankOf_165 : decode cX10_rankOf 165 = .ok (.iload 5, 2) := by decide +kernel
theorem dX10_rankOf_167 : decode cX10_rankOf 167 = .ok (.iadd, 1) := by decide +kernel
theorem dX10_rankOf_168 : decode cX10_rankOf 168 = .ok (.iaload, 1) := by decide +kernel
theorem dX10_rankOf_169 : decode cX10_rankOf 169 = .ok (.istore 9, 2) := by decide +kernel
theorem dX10_rankOf_171 : decode cX10_rankOf 171 = .ok (.iconst 0, 1) := by decide +kernel
theorem dX10_rankOf_172 : decode cX10_rankOf 172 = .ok (.istore 10, 2) := by decide +kernel
theorem dX10_rankOf_174 : decode cX10_rankOf 174 = .ok (.iload 10, 2) := by decide +kernel
theorem dX10_rankOf_176 : decode cX10_rankOf 176 = .ok (.iload_n 2, 1) := by decide +kernel
theorem dX10_rankOf_177 : decode cX10_rankOf 177 = .ok (.if_icmp .ge 61, 3) := by decide +kernel
theorem dX10_rankOf_180 : decode cX10_rankOf 180 = .ok (.aload_n 0, 1) := by decide +kernel
theorem dX10_rankOf_181 : decode cX10_rankOf 181 = .ok (.getfield 56, 3) := by decide +kernel
theorem dX10_rankOf_184 : decode cX10_rankOf 184 = .ok (.bipush 48, 2) := by decide +kernel
theorem dX10_rankOf_186 : decode cX10_rankOf 186 = .ok (.iload 7, 2) := by decide +kernel
theorem dX10_rankOf_188 : decode cX10_rankOf 188 = .ok (.imul, 1) := by decide +kernel
theorem dX10_rankOf_189 : decode cX10_rankOf 189 = .ok (.iload 10, 2) := by decide +kernel
theorem dX10_rankOf_191 : decode cX10_rankOf 191 = .ok (.iadd, 1) := by decide +kernel
theorem dX10_rankOf_192 : decode cX10_rankOf 192 = .ok (.aload_n 0, 1) := by decide +kernel
theorem dX10_rankOf_193 : decode cX10_rankOf 193 = .ok (.getfield 56, 3) := by decide +kernel
theorem dX10_rankOf_196 : decode cX10_rankOf 196 = .ok (.bipush 48, 2) := by decide +kernel
theorem dX10_rankOf_198 : decode cX10_rankOf 198 = .ok (.iload 7, 2) := by decide +kernel
theorem dX10_rankOf_200 : decode cX10_rankOf 200 = .ok (.imul, 1) := by decide +kernel
theorem dX10_rankOf_201 : decode cX10_rankOf 201 = .ok (.iload 10, 2) := by decide +kernel
theorem dX10_rankOf_203 : decode cX10_rankOf 203 = .ok (.iadd, 1) := by decide +kernel
theorem dX10_rankOf_204 : decode cX10_rankOf 204 = .ok (.iaload, 1) := by decide +kernel
theorem dX10_rankOf_205 : decode cX10_rankOf 205 = .ok (.iload 9, 2) := by decide +kernel
theorem dX10_rankOf_207 : decode cX10_rankOf 207 = .ok (.imul, 1) := by decide +kernel
theorem dX10_rankOf_208 : decode cX10_rankOf 208 = .ok (.aload_n 0, 1) := by decide +kernel
theorem dX10_rankOf_209 : decode cX10_rankOf 209 = .ok (.getfield 56, 3) := by decide +kernel
theorem dX10_rankOf_212 : decode cX10_rankOf 212 = .ok (.bipush 48, 2) := by decide +kernel
theorem dX10_rankOf_214 : decode cX10_rankOf 214 = .ok (.iload 4, 2) := by decide +kernel
theorem dX10_rankOf_216 : decode cX10_rankOf 216 = .ok (.imul, 1) := by decide +kernel
theorem dX10_rankOf_217 : decode cX10_rankOf 217 = .ok (.iload 10, 2) := by decide +kernel
theorem dX10_rankOf_219 : decode cX10_rankOf 219 = .ok (.iadd, 1) := by decide +kernel
theorem dX10_rankOf_220 : decode cX10_rankOf 220 = .ok (.iaload, 1) := by decide +kernel
theorem dX10_rankOf_221 : decode cX10_rankOf 221 = .ok (.iload 8, 2) := by decide +kernel
theorem dX10_rankOf_223 : decode cX10_rankOf 223 = .ok (.imul, 1) := by decide +kernel
theorem dX10_rankOf_224 : decode cX10_rankOf 224 = .ok (.isub, 1) := by decide +kernel
theorem dX10_rankOf_225 : decode cX10_rankOf 225 = .ok (.iload_n 3, 1) := by decide +kernel
theorem dX10_rankOf_226 : decode cX10_rankOf 226 = .ok (.irem, 1) := by decide +kernel
theorem dX10_rankOf_227 : decode cX10_rankOf 227 = .ok (.iload_n 3, 1) := by decide +kernel
theorem dX10_rankOf_228 : decode cX10_rankOf 228 = .ok (.iadd, 1) := by decide +kernel
theorem dX10_rankOf_229 : decode cX10_rankOf 229 = .ok (.iload_n 3, 1) := by decide +kernel
theorem dX10_rankOf_230 : decode cX10_rankOf 230 = .ok (.irem, 1) := by decide +kernel
theorem dX10_rankOf_231 : decode cX10_rankOf 231 = .ok (.iastore, 1) := by decide +kernel
theorem dX10_rankOf_232 : decode cX10_rankOf 232 = .ok (.iinc 10 1, 3) := by decide +kernel
theorem dX10_rankOf_235 : decode cX10_rankOf 235 = .ok (.goto (-61), 3) := by decide +kernel
theorem dX10_rankOf_238 : decode cX10_rankOf 238 = .ok (.iinc 7 1, 3) := by decide +kernel
theorem dX10_rankOf_241 : decode cX10_rankOf 241 = .ok (.goto (-106), 3) := by decide +kernel
theorem dX10_rankOf_244 : decode cX10_rankOf 244 = .ok (.iinc 4 1, 3) := by decide +kernel
theorem dX10_rankOf_247 : decode cX10_rankOf 247 = .ok (.iinc 5 1, 3) := by decide +kernel
theorem dX10_rankOf_250 : decode cX10_rankOf 250 = .ok (.goto (-244), 3) := by decide +kernel
theorem dX10_rankOf_253 : decode cX10_rankOf 253 = .ok (.iload 4, 2) := by decide +kernel
theorem dX10_rankOf_255 : decode cX10_rankOf 255 = .ok (.ireturn, 1) := by decide +kernel
theorem dX10_goes_0 : decode cX10_goes 0 = .ok (.iconst 0, 1) := by decide +kernel
theorem dX10_goes_1 : decode cX10_goes 1 = .ok (.istore 4, 2) := by decide +kernel
theorem dX10_goes_3 : decode cX10_goes 3 = .ok (.iconst 0, 1) := by decide +kernel
theorem dX10_goes_4 : decode cX10_goes 4 = .ok (.istore 5, 2) := by decide +kernel
theorem dX10_goes_6 : decode cX10_goes 6 = .ok (.iload 5, 2) := by decide +kernel
theorem dX10_goes_8 : decode cX10_goes 8 = .ok (.aload_n 0, 1) := by decide +kernel
theorem dX10_goes_9 : decode cX10_goes 9 = .ok (.getfield 25, 3) := by decide +kernel
theorem dX10_goes_12 : decode cX10_goes 12 = .ok (.bipush 32, 2) := by decide +kernel
theorem dX10_goes_14 : decode cX10_goes 14 = .ok (.iload_n 1, 1) := by decide +kernel
theorem dX10_goes_15 : decode cX10_goes 15 = .ok (.imul, 1) := by decide +kernel
theorem dX10_goes_16 : decode cX10_goes 16 = .ok (.iload_n 2, 1) := by decide +kernel
theorem dX10_goes_17 : decode cX10_goes 17 = .ok (.iadd, 1) := by decide +kernel
theorem dX10_goes_18 : decode cX10_goes 18 = .ok (.iaload, 1) := by decide +kernel
theorem dX10_goes_19 : decode cX10_goes 19 = .ok (.if_icmp .ge 52, 3) := by decide +kernel
theorem dX10_goes_22 : decode cX10_goes 22 = .ok (.iload 4, 2) := by decide +kernel
theorem dX10_goes_24 : decode cX10_goes 24 = .ok (.aload_n 0, 1) := by decide +kernel
theorem dX10_goes_25 : decode cX10_goes 25 = .ok (.iload_n 1, 1) := by decide +kernel
theorem dX10_goes_26 : decode cX10_goes 26 = .ok (.iload_n 2, 1) := by decide +kernel
theorem dX10_goes_27 : decode cX10_goes 27 = .ok (.iload 5, 2) := by decide +kernel
theorem dX10_goes_29 : decode cX10_goes 29 = .ok (.invokevirtual 221, 3) := by decide +kernel
theorem dX10_goes_32 : decode cX10_goes 32 = .ok (.iload_n 3, 1) := by decide +kernel
theorem dX10_goes_33 : decode cX10_goes 33 = .ok (.iconst 1, 1) := by decide +kernel
theorem dX10_goes_34 : decode cX10_goes 34 = .ok (.iadd, 1) := by decide +kernel
theorem dX10_goes_35 : decode cX10_goes 35 = .ok (.if_icmp .ne 7, 3) := by decide +kernel
theorem dX10_goes_38 : decode cX10_goes 38 = .ok (.iconst 1, 1) := by decide +kernel
theorem dX10_goes_39 : decode cX10_goes 39 = .ok (.goto 23, 3) := by decide +kernel
theorem dX10_goes_42 : decode cX10_goes 42 = .ok (.aload_n 0, 1) := by decide +kernel
theorem dX10_goes_43 : decode cX10_goes 43 = .ok (.iload_n 1, 1) := by decide +kernel
theorem dX10_goes_44 : decode cX10_goes 44 = .ok (.iload_n 2, 1) := by decide +kernel
theorem dX10_goes_45 : decode cX10_goes 45 = .ok (.iload 5, 2) := by decide +kernel
theorem dX10_goes_47 : decode cX10_goes 47 = .ok (.invokevirtual 221, 3) := by decide +kernel
theorem dX10_goes_50 : decode cX10_goes 50 = .ok (.iload_n 3, 1) := by decide +kernel
theorem dX10_goes_51 : decode cX10_goes 51 = .ok (.ineg, 1) := by decide +kernel
theorem dX10_goes_52 : decode cX10_goes 52 = .ok (.iconst 1, 1) := by decide +kernel
theorem dX10_goes_53 : decode cX10_goes 53 = .ok (.isub, 1) := by decide +kernel
theorem dX10_goes_54 : decode cX10_goes 54 = .ok (.if_icmp .ne 7, 3) := by decide +kernel
theorem dX10_goes_57 : decode cX10_goes 57 = .ok (.iconst (-1), 1) := by decide +kernel
theorem dX10_goes_58 : decode cX10_goes 58 = .ok (.goto 4, 3) := by decide +kernel
theorem dX10_goes_61 : decode cX10_goes 61 = .ok (.iconst 0, 1) := by decide +kernel
theorem dX10_goes_62 : decode cX10_goes 62 = .ok (.iadd, 1) := by decide +kernel
theorem dX10_goes_63 : decode cX10_goes 63 = .ok (.istore 4, 2) := by decide +kernel
theorem dX10_goes_65 : decode cX10_goes 65 = .ok (.iinc 5 1, 3) := by decide +kernel
theorem dX10_goes_68 : decode cX10_goes 68 = .ok (.goto (-62), 3) := by decide +kernel
theorem dX10_goes_71 : decode cX10_goes 71 = .ok (.iload 4, 2) := by decide +kernel
theorem dX10_goes_73 : decode cX10_goes 73 = .ok (.ireturn, 1) := by decide +kernel
theorem dX10_faceRank_0 : decode cX10_faceRank 0 = .ok (.iconst 0, 1) := by decide +kernel
theorem dX10_faceRank_1 : decode cX10_faceRank 1 = .ok (.istore_n 3, 1) := by decide +kernel
theorem dX10_faceRank_2 : decode cX10_faceRank 2 = .ok (.iload_n 3, 1) := by decide +kernel
theorem dX10_faceRank_3 : decode cX10_faceRank 3 = .ok (.aload_n 0, 1) := by decide +kernel
theorem dX10_faceRank_4 : decode cX10_faceRank 4 = .ok (.getfield 16, 3) := by decide +kernel
theorem dX10_faceRank_7 : decode cX10_faceRank 7 = .ok (.iload_n 1, 1) := by decide +kernel
theorem dX10_faceRank_8 : decode cX10_faceRank 8 = .ok (.iaload, 1) := by decide +kernel
theorem dX10_faceRank_9 : decode cX10_faceRank 9 = .ok (.if_icmp .ge 55, 3) := by decide +kernel
theorem dX10_faceRank_12 : decode cX10_faceRank 12 = .ok (.iconst 0, 1) := by decide +kernel
theorem dX10_faceRank_13 : decode cX10_faceRank 13 = .ok (.istore 4, 2) := by decide +kernel
theorem dX10_faceRank_15 : decode cX10_faceRank 15 = .ok (.iload 4, 2) := by decide +kernel
theorem dX10_faceRank_17 : decode cX10_faceRank 17 = .ok (.aload_n 0, 1) := by decide +kernel
theorem dX10_faceRank_18 : decode cX10_faceRank 18 = .ok (.getfield 13, 3) := by decide +kernel
theorem dX10_faceRank_21 : decode cX10_faceRank 21 = .ok (.iload_n 1, 1) := by decide +kernel
theorem dX10_faceRank_22 : decode cX10_faceRank 22 = .ok (.iaload, 1) := by decide +kernel
theorem dX10_faceRank_23 : decode cX10_faceRank 23 = .ok (.if_icmp .ge 35, 3) := by decide +kernel
theorem dX10_faceRank_26 : decode cX10_faceRank 26 = .ok (.aload_n 0, 1) := by decide +kernel
theorem dX10_faceRank_27 : decode cX10_faceRank 27 = .ok (.getfield 56, 3) := by decide +kernel
theorem dX10_faceRank_30 : decode cX10_faceRank 30 = .ok (.bipush 48, 2) := by decide +kernel
theorem dX10_faceRank_32 : decode cX10_faceRank 32 = .ok (.iload_n 3, 1) := by decide +kernel
theorem dX10_faceRank_33 : decode cX10_faceRank 33 = .ok (.imul, 1) := by decide +kernel
theorem dX10_faceRank_34 : decode cX10_faceRank 34 = .ok (.iload 4, 2) := by decide +kernel
theorem dX10_faceRank_36 : decode cX10_faceRank 36 = .ok (.iadd, 1) := by decide +kernel
theorem dX10_faceRank_37 : decode cX10_faceRank 37 = .ok (.aload_n 0, 1) := by decide +kernel
theorem dX10_faceRank_38 : decode cX10_faceRank 38 = .ok (.iload_n 1, 1) := by decide +kernel
theorem dX10_faceRank_39 : decode cX10_faceRank 39 = .ok (.iload_n 3, 1) := by decide +kernel
theorem dX10_faceRank_40 : decode cX10_faceRank 40 = .ok (.iload 4, 2) := by decide +kernel
theorem dX10_faceRank_42 : decode cX10_faceRank 42 = .ok (.invokevirtual 233, 3) := by decide +kernel
theorem dX10_faceRank_45 : decode cX10_faceRank 45 = .ok (.iload_n 2, 1) := by decide +kernel
theorem dX10_faceRank_46 : decode cX10_faceRank 46 = .ok (.irem, 1) := by decide +kernel
theorem dX10_faceRank_47 : decode cX10_faceRank 47 = .ok (.iload_n 2, 1) := by decide +kernel
theorem dX10_faceRank_48 : decode cX10_faceRank 48 = .ok (.iadd, 1) := by decide +kernel
theorem dX10_faceRank_49 : decode cX10_faceRank 49 = .ok (.iload_n 2, 1) := by decide +kernel
theorem dX10_faceRank_50 : decode cX10_faceRank 50 = .ok (.irem, 1) := by decide +kernel
theorem dX10_faceRank_51 : decode cX10_faceRank 51 = .ok (.iastore, 1) := by decide +kernel
theorem dX10_faceRank_52 : decode cX10_faceRank 52 = .ok (.iinc 4 1, 3) := by decide +kernel
theorem dX10_faceRank_55 : decode cX10_faceRank 55 = .ok (.goto (-40), 3) := by decide +kernel
theorem dX10_faceRank_58 : decode cX10_faceRank 58 = .ok (.iinc 3 1, 3) := by decide +kernel
theorem dX10_faceRank_61 : decode cX10_faceRank 61 = .ok (.goto (-59), 3) := by decide +kernel
theorem dX10_faceRank_64 : decode cX10_faceRank 64 = .ok (.aload_n 0, 1) := by decide +kernel
theorem dX10_faceRank_65 : decode cX10_faceRank 65 = .ok (.aload_n 0, 1) := by decide +kernel
theorem dX10_faceRank_66 : decode cX10_faceRank 66 = .ok (.getfield 16, 3) := by decide +kernel
theorem dX10_faceRank_69 : decode cX10_faceRank 69 = .ok (.iload_n 1, 1) := by decide +kernel
theorem dX10_faceRank_70 : decode cX10_faceRank 70 = .ok (.iaload, 1) := by decide +kernel
theorem dX10_faceRank_71 : decode cX10_faceRank 71 = .ok (.aload_n 0, 1) := by decide +kernel
theorem dX10_faceRank_72 : decode cX10_faceRank 72 = .ok (.getfield 13, 3) := by decide +kernel
theorem dX10_faceRank_75 : decode cX10_faceRank 75 = .ok (.iload_n 1, 1) := by decide +kernel
theorem dX10_faceRank_76 : decode cX10_faceRank 76 = .ok (.iaload, 1) := by decide +kernel
theorem dX10_faceRank_77 : decode cX10_faceRank 77 = .ok (.iload_n 2, 1) := by decide +kernel
theorem dX10_faceRank_78 : decode cX10_faceRank 78 = .ok (.invokevirtual 236, 3) := by decide +kernel
theorem dX10_faceRank_81 : decode cX10_faceRank 81 = .ok (.ireturn, 1) := by decide +kernel
theorem dX10_edgeRank_0 : decode cX10_edgeRank 0 = .ok (.iconst 0, 1) := by decide +kernel
theorem dX10_edgeRank_1 : decode cX10_edgeRank 1 = .ok (.istore_n 2, 1) := by decide +kernel
theorem dX10_edgeRank_2 : decode cX10_edgeRank 2 = .ok (.iconst 0, 1) := by decide +kernel
theorem dX10_edgeRank_3 : decode cX10_edgeRank 3 = .ok (.istore_n 3, 1) := by decide +kernel
theorem dX10_edgeRank_4 : decode cX10_edgeRank 4 = .ok (.iload_n 3, 1) := by decide +kernel
theorem dX10_edgeRank_5 : decode cX10_edgeRank 5 = .ok (.bipush 32, 2) := by decide +kernel
theorem dX10_edgeRank_7 : decode cX10_edgeRank 7 = .ok (.if_icmp .ge 16, 3) := by decide +kernel
theorem dX10_edgeRank_10 : decode cX10_edgeRank 10 = .ok (.aload_n 0, 1) := by decide +kernel
theorem dX10_edgeRank_11 : decode cX10_edgeRank 11 = .ok (.getfield 46, 3) := by decide +kernel
theorem dX10_edgeRank_14 : decode cX10_edgeRank 14 = .ok (.iload_n 3, 1) := by decide +kernel
theorem dX10_edgeRank_15 : decode cX10_edgeRank 15 = .ok (.iconst 0, 1) := by decide +kernel
theorem dX10_edgeRank_16 : decode cX10_edgeRank 16 = .ok (.bastore, 1) := by decide +kernel
theorem dX10_edgeRank_17 : decode cX10_edgeRank 17 = .ok (.iinc 3 1, 3) := by decide +kernel
theorem dX10_edgeRank_20 : decode cX10_edgeRank 20 = .ok (.goto (-16), 3) := by decide +kernel
theorem dX10_edgeRank_23 : decode cX10_edgeRank 23 = .ok (.iconst 0, 1) := by decide +kernel
theorem dX10_edgeRank_24 : decode cX10_edgeRank 24 = .ok (.istore_n 3, 1) := by decide +kernel
theorem dX10_edgeRank_25 : decode cX10_edgeRank 25 = .ok (.iload_n 3, 1) := by decide +kernel
theorem dX10_edgeRank_26 : decode cX10_edgeRank 26 = .ok (.aload_n 0, 1) := by decide +kernel
theorem dX10_edgeRank_27 : decode cX10_edgeRank 27 = .ok (.getfield 7, 3) := by decide +kernel
theorem dX10_edgeRank_30 : decode cX10_edgeRank 30 = .ok (.iload_n 1, 1) := by decide +kernel
theorem dX10_edgeRank_31 : decode cX10_edgeRank 31 = .ok (.iaload, 1) := by decide +kernel
theorem dX10_edgeRank_32 : decode cX10_edgeRank 32 = .ok (.if_icmp .ge 126, 3) := by decide +kernel
theorem dX10_edgeRank_35 : decode cX10_edgeRank 35 = .ok (.aload_n 0, 1) := by decide +kernel
theorem dX10_edgeRank_36 : decode cX10_edgeRank 36 = .ok (.getfield 46, 3) := by decide +kernel
theorem dX10_edgeRank_39 : decode cX10_edgeRank 39 = .ok (.iload_n 3, 1) := by decide +kernel
theorem dX10_edgeRank_40 : decode cX10_edgeRank 40 = .ok (.baload, 1) := by decide +kernel
theorem dX10_edgeRank_41 : decode cX10_edgeRank 41 = .ok (.ifCond .ne 111, 3) := by decide +kernel
theorem dX10_edgeRank_44 : decode cX10_edgeRank 44 = .ok (.aload_n 0, 1) := by decide +kernel
theorem dX10_edgeRank_45 : decode cX10_edgeRank 45 = .ok (.getfield 46, 3) := by decide +kernel
theorem dX10_edgeRank_48 : decode cX10_edgeRank 48 = .ok (.iload_n 3, 1) := by decide +kernel
theorem dX10_edgeRank_49 : decode cX10_edgeRank 49 = .ok (.iconst 1, 1) := by decide +kernel
theorem dX10_edgeRank_50 : decode cX10_edgeRank 50 = .ok (.bastore, 1) := by decide +kernel
theorem dX10_edgeRank_51 : decode cX10_edgeRank 51 = .ok (.iconst 1, 1) := by decide +kernel
theorem dX10_edgeRank_52 : decode cX10_edgeRank 52 = .ok (.istore 4, 2) := by decide +kernel
theorem dX10_edgeRank_54 : decode cX10_edgeRank 54 = .ok (.iload 4, 2) := by decide +kernel
theorem dX10_edgeRank_56 : decode cX10_edgeRank 56 = .ok (.ifCond .le 96, 3) := by decide +kernel
theorem dX10_edgeRank_59 : decode cX10_edgeRank 59 = .ok (.iconst 0, 1) := by decide +kernel
theorem dX10_edgeRank_60 : decode cX10_edgeRank 60 = .ok (.istore 4, 2) := by decide +kernel
theorem dX10_edgeRank_62 : decode cX10_edgeRank 62 = .ok (.iconst 0, 1) := by decide +kernel
theorem dX10_edgeRank_63 : decode cX10_edgeRank 63 = .ok (.istore 5, 2) := by decide +kernel
theorem dX10_edgeRank_65 : decode cX10_edgeRank 65 = .ok (.iload 5, 2) := by decide +kernel
theorem dX10_edgeRank_67 : decode cX10_edgeRank 67 = .ok (.aload_n 0, 1) := by decide +kernel
theorem dX10_edgeRank_68 : decode cX10_edgeRank 68 = .ok (.getfield 13, 3) := by decide +kernel
theorem dX10_edgeRank_71 : decode cX10_edgeRank 71 = .ok (.iload_n 1, 1) := by decide +kernel
theorem dX10_edgeRank_72 : decode cX10_edgeRank 72 = .ok (.iaload, 1) := by decide +kernel
theorem dX10_edgeRank_73 : decode cX10_edgeRank 73 = .ok (.if_icmp .ge 76, 3) := by decide +kernel
theorem dX10_edgeRank_76 : decode cX10_edgeRank 76 = .ok (.aload_n 0, 1) := by decide +kernel
theorem dX10_edgeRank_77 : decode cX10_edgeRank 77 = .ok (.getfield 19, 3) := by decide +kernel
theorem dX10_edgeRank_80 : decode cX10_edgeRank 80 = .ok (.bipush 48, 2) := by decide +kernel
theorem dX10_edgeRank_82 : decode cX10_edgeRank 82 = .ok (.iload_n 1, 1) := by decide +kernel
theorem dX10_edgeRank_83 : decode cX10_edgeRank 83 = .ok (.imul, 1) := by decide +kernel
theorem dX10_edgeRank_84 : decode cX10_edgeRank 84 = .ok (.iload 5, 2) := by decide +kernel
theorem dX10_edgeRank_86 : decode cX10_edgeRank 86 = .ok (.iadd, 1) := by decide +kernel
theorem dX10_edgeRank_87 : decode cX10_edgeRank 87 = .ok (.iaload, 1) := by decide +kernel
theorem dX10_edgeRank_88 : decode cX10_edgeRank 88 = .ok (.istore 6, 2) := by decide +kernel
theorem dX10_edgeRank_90 : decode cX10_edgeRank 90 = .ok (.aload_n 0, 1) := by decide +kernel
theorem dX10_edgeRank_91 : decode cX10_edgeRank 91 = .ok (.getfield 22, 3) := by decide +kernel
theorem dX10_edgeRank_94 : decode cX10_edgeRank 94 = .ok (.bipush 48, 2) := by decide +kernel
theorem dX10_edgeRank_96 : decode cX10_edgeRank 96 = .ok (.iload_n 1, 1) := by decide +kernel
theorem dX10_edgeRank_97 : decode cX10_edgeRank 97 = .ok (.imul, 1) := by decide +kernel
theorem dX10_edgeRank_98 : decode cX10_edgeRank 98 = .ok (.iload 5, 2) := by decide +kernel
theorem dX10_edgeRank_100 : decode cX10_edgeRank 100 = .ok (.iadd, 1) := by decide +kernel
theorem dX10_edgeRank_101 : decode cX10_edgeRank 101 = .ok (.iaload, 1) := by decide +kernel
theorem dX10_edgeRank_102 : decode cX10_edgeRank 102 = .ok (.istore 7, 2) := by decide +kernel
theorem dX10_edgeRank_104 : decode cX10_edgeRank 104 = .ok (.aload_n 0, 1) := by decide +kernel
theorem dX10_edgeRank_105 : decode cX10_edgeRank 105 = .ok (.getfield 46, 3) := by decide +kernel
theorem dX10_edgeRank_108 : decode cX10_edgeRank 108 = .ok (.iload 6, 2) := by decide +kernel
theorem dX10_edgeRank_110 : decode cX10_edgeRank 110 = .ok (.baload, 1) := by decide +kernel
theorem dX10_edgeRank_111 : decode cX10_edgeRank 111 = .ok (.aload_n 0, 1) := by decide +kernel
theorem dX10_edgeRank_112 : decode cX10_edgeRank 112 = .ok (.getfield 46, 3) := by decide +kernel
theorem dX10_edgeRank_115 : decode cX10_edgeRank 115 = .ok (.iload 7, 2) := by decide +kernel
theorem dX10_edgeRank_117 : decode cX10_edgeRank 117 = .ok (.baload, 1) := by decide +kernel
theorem dX10_edgeRank_118 : decode cX10_edgeRank 118 = .ok (.if_icmp .eq 25, 3) := by decide +kernel
theorem dX10_edgeRank_121 : decode cX10_edgeRank 121 = .ok (.aload_n 0, 1) := by decide +kernel
theorem dX10_edgeRank_122 : decode cX10_edgeRank 122 = .ok (.getfield 46, 3) := by decide +kernel
theorem dX10_edgeRank_125 : decode cX10_edgeRank 125 = .ok (.iload 6, 2) := by decide +kernel
theorem dX10_edgeRank_127 : decode cX10_edgeRank 127 = .ok (.iconst 1, 1) := by decide +kernel
theorem dX10_edgeRank_128 : decode cX10_edgeRank 128 = .ok (.bastore, 1) := by decide +kernel
theorem dX10_edgeRank_129 : decode cX10_edgeRank 129 = .ok (.aload_n 0, 1) := by decide +kernel
theorem dX10_edgeRank_130 : decode cX10_edgeRank 130 = .ok (.getfield 46, 3) := by decide +kernel
theorem dX10_edgeRank_133 : decode cX10_edgeRank 133 = .ok (.iload 7, 2) := by decide +kernel
theorem dX10_edgeRank_135 : decode cX10_edgeRank 135 = .ok (.iconst 1, 1) := by decide +kernel
theorem dX10_edgeRank_136 : decode cX10_edgeRank 136 = .ok (.bastore, 1) := by decide +kernel
theorem dX10_edgeRank_137 : decode cX10_edgeRank 137 = .ok (.iinc 4 1, 3) := by decide +kernel
theorem dX10_edgeRank_140 : decode cX10_edgeRank 140 = .ok (.iinc 2 1, 3) := by decide +kernel
theorem dX10_edgeRank_143 : decode cX10_edgeRank 143 = .ok (.iinc 5 1, 3) := by decide +kernel
theorem dX10_edgeRank_146 : decode cX10_edgeRank 146 = .ok (.goto (-81), 3) := by decide +kernel
theorem dX10_edgeRank_149 : decode cX10_edgeRank 149 = .ok (.goto (-95), 3) := by decide +kernel
theorem dX10_edgeRank_152 : decode cX10_edgeRank 152 = .ok (.iinc 3 1, 3) := by decide +kernel
theorem dX10_edgeRank_155 : decode cX10_edgeRank 155 = .ok (.goto (-130), 3) := by decide +kernel
theorem dX10_edgeRank_158 : decode cX10_edgeRank 158 = .ok (.iload_n 2, 1) := by decide +kernel
theorem dX10_edgeRank_159 : decode cX10_edgeRank 159 = .ok (.ireturn, 1) := by decide +kernel
theorem dX10_gcd_0 : decode cX10_gcd 0 = .ok (.lload_n 0, 1) := by decide +kernel
theorem dX10_gcd_1 : decode cX10_gcd 1 = .ok (.lconst 0, 1) := by decide +kernel
theorem dX10_gcd_2 : decode cX10_gcd 2 = .ok (.lcmp, 1) := by decide +kernel
theorem dX10_gcd_3 : decode cX10_gcd 3 = .ok (.ifCond .ge 8, 3) := by decide +kernel
theorem dX10_gcd_6 : decode cX10_gcd 6 = .ok (.lload_n 0, 1) := by decide +kernel
theorem dX10_gcd_7 : decode cX10_gcd 7 = .ok (.lneg, 1) := by decide +kernel
theorem dX10_gcd_8 : decode cX10_gcd 8 = .ok (.goto 4, 3) := by decide +kernel
theorem dX10_gcd_11 : decode cX10_gcd 11 = .ok (.lload_n 0, 1) := by decide +kernel
theorem dX10_gcd_12 : decode cX10_gcd 12 = .ok (.lstore 4, 2) := by decide +kernel
theorem dX10_gcd_14 : decode cX10_gcd 14 = .ok (.lload_n 2, 1) := by decide +kernel
theorem dX10_gcd_15 : decode cX10_gcd 15 = .ok (.lconst 0, 1) := by decide +kernel
theorem dX10_gcd_16 : decode cX10_gcd 16 = .ok (.lcmp, 1) := by decide +kernel
theorem dX10_gcd_17 : decode cX10_gcd 17 = .ok (.ifCond .ge 8, 3) := by decide +kernel
theorem dX10_gcd_20 : decode cX10_gcd 20 = .ok (.lload_n 2, 1) := by decide +kernel
theorem dX10_gcd_21 : decode cX10_gcd 21 = .ok (.lneg, 1) := by decide +kernel
theorem dX10_gcd_22 : decode cX10_gcd 22 = .ok (.goto 4, 3) := by decide +kernel
theorem dX10_gcd_25 : decode cX10_gcd 25 = .ok (.lload_n 2, 1) := by decide +kernel
theorem dX10_gcd_26 : decode cX10_gcd 26 = .ok (.lstore 6, 2) := by decide +kernel
theorem dX10_gcd_28 : decode cX10_gcd 28 = .ok (.lload 6, 2) := by decide +kernel
theorem dX10_gcd_30 : decode cX10_gcd 30 = .ok (.lconst 0, 1) := by decide +kernel
theorem dX10_gcd_31 : decode cX10_gcd 31 = .ok (.lcmp, 1) := by decide +kernel
theorem dX10_gcd_32 : decode cX10_gcd 32 = .ok (.ifCond .eq 21, 3) := by decide +kernel
theorem dX10_gcd_35 : decode cX10_gcd 35 = .ok (.lload 4, 2) := by decide +kernel
theorem dX10_gcd_37 : decode cX10_gcd 37 = .ok (.lload 6, 2) := by decide +kernel
theorem dX10_gcd_39 : decode cX10_gcd 39 = .ok (.lrem, 1) := by decide +kernel
theorem dX10_gcd_40 : decode cX10_gcd 40 = .ok (.lstore 8, 2) := by decide +kernel
theorem dX10_gcd_42 : decode cX10_gcd 42 = .ok (.lload 6, 2) := by decide +kernel
theorem dX10_gcd_44 : decode cX10_gcd 44 = .ok (.lstore 4, 2) := by decide +kernel
theorem dX10_gcd_46 : decode cX10_gcd 46 = .ok (.lload 8, 2) := by decide +kernel
theorem dX10_gcd_48 : decode cX10_gcd 48 = .ok (.lstore 6, 2) := by decide +kernel
theorem dX10_gcd_50 : decode cX10_gcd 50 = .ok (.goto (-22), 3) := by decide +kernel
theorem dX10_gcd_53 : decode cX10_gcd 53 = .ok (.lload 4, 2) := by decide +kernel
theorem dX10_gcd_55 : decode cX10_gcd 55 = .ok (.lreturn, 1) := by decide +kernel
theorem dX10_goRows_0 : decode cX10_goRows 0 = .ok (.iload_n 2, 1) := by decide +kernel
theorem dX10_goRows_1 : decode cX10_goRows 1 = .ok (.aload_n 0, 1) := by decide +kernel
theorem dX10_goRows_2 : decode cX10_goRows 2 = .ok (.getfield 16, 3) := by decide +kernel
theorem dX10_goRows_5 : decode cX10_goRows 5 = .ok (.iload_n 1, 1) := by decide +kernel
theorem dX10_goRows_6 : decode cX10_goRows 6 = .ok (.iaload, 1) := by decide +kernel
theorem dX10_goRows_7 : decode cX10_goRows 7 = .ok (.if_icmp .ne 4, 3) := by decide +kernel
theorem dX10_goRows_10 : decode cX10_goRows 10 = .ok (.return_, 1) := by decide +kernel
theorem dX10_goRows_11 : decode cX10_goRows 11 = .ok (.aload_n 0, 1) := by decide +kernel
theorem dX10_goRows_12 : decode cX10_goRows 12 = .ok (.iload_n 1, 1) := by decide +kernel
theorem dX10_goRows_13 : decode cX10_goRows 13 = .ok (.iload_n 2, 1) := by decide +kernel
theorem dX10_goRows_14 : decode cX10_goRows 14 = .ok (.iconst 1, 1) := by decide +kernel
theorem dX10_goRows_15 : decode cX10_goRows 15 = .ok (.iadd, 1) := by decide +kernel
theorem dX10_goRows_16 : decode cX10_goRows 16 = .ok (.iload_n 3, 1) := by decide +kernel
theorem dX10_goRows_17 : decode cX10_goRows 17 = .ok (.invokevirtual 239, 3) := by decide +kernel
theorem dX10_goRows_20 : decode cX10_goRows 20 = .ok (.iconst 1, 1) := by decide +kernel
theorem dX10_goRows_21 : decode cX10_goRows 21 = .ok (.aload_n 0, 1) := by decide +kernel
theorem dX10_goRows_22 : decode cX10_goRows 22 = .ok (.getfield 13, 3) := by decide +kernel
theorem dX10_goRows_25 : decode cX10_goRows 25 = .ok (.iload_n 1, 1) := by decide +kernel
theorem dX10_goRows_26 : decode cX10_goRows 26 = .ok (.iaload, 1) := by decide +kernel
theorem dX10_goRows_27 : decode cX10_goRows 27 = .ok (.ishl, 1) := by decide +kernel
theorem dX10_goRows_28 : decode cX10_goRows 28 = .ok (.istore 4, 2) := by decide +kernel
theorem dX10_goRows_30 : decode cX10_goRows 30 = .ok (.iconst 0, 1) := by decide +kernel
theorem dX10_goRows_31 : decode cX10_goRows 31 = .ok (.istore 5, 2) := by decide +kernel
theorem dX10_goRows_33 : decode cX10_goRows 33 = .ok (.iload 5, 2) := by decide +kernel
theorem dX10_goRows_35 : decode cX10_goRows 35 = .ok (.iload 4, 2) := by decide +kernel
theorem dX10_goRows_37 : decode cX10_goRows 37 = .ok (.if_icmp .ge 76, 3) := by decide +kernel
theorem dX10_goRows_40 : decode cX10_goRows 40 = .ok (.aload_n 0, 1) := by decide +kernel
theorem dX10_goRows_41 : decode cX10_goRows 41 = .ok (.getfield 67, 3) := by decide +kernel
theorem dX10_goRows_44 : decode cX10_goRows 44 = .ok (.iload 5, 2) := by decide +kernel
theorem dX10_goRows_46 : decode cX10_goRows 46 = .ok (.iaload, 1) := by decide +kernel
theorem dX10_goRows_47 : decode cX10_goRows 47 = .ok (.iload_n 3, 1) := by decide +kernel
theorem dX10_goRows_48 : decode cX10_goRows 48 = .ok (.iconst 1, 1) := by decide +kernel
theorem dX10_goRows_49 : decode cX10_goRows 49 = .ok (.iadd, 1) := by decide +kernel
theorem dX10_goRows_50 : decode cX10_goRows 50 = .ok (.if_icmp .ne 57, 3) := by decide +kernel
theorem dX10_goRows_53 : decode cX10_goRows 53 = .ok (.aload_n 0, 1) := by decide +kernel
theorem dX10_goRows_54 : decode cX10_goRows 54 = .ok (.iload_n 2, 1) := by decide +kernel
theorem dX10_goRows_55 : decode cX10_goRows 55 = .ok (.iload_n 3, 1) := by decide +kernel
theorem dX10_goRows_56 : decode cX10_goRows 56 = .ok (.iload 5, 2) := by decide +kernel
theorem dX10_goRows_58 : decode cX10_goRows 58 = .ok (.aload_n 0, 1) := by decide +kernel
theorem dX10_goRows_59 : decode cX10_goRows 59 = .ok (.getfield 13, 3) := by decide +kernel
theorem dX10_goRows_62 : decode cX10_goRows 62 = .ok (.iload_n 1, 1) := by decide +kernel
theorem dX10_goRows_63 : decode cX10_goRows 63 = .ok (.iaload, 1) := by decide +kernel
theorem dX10_goRows_64 : decode cX10_goRows 64 = .ok (.invokevirtual 243, 3) := by decide +kernel
theorem dX10_goRows_67 : decode cX10_goRows 67 = .ok (.lstore 6, 2) := by decide +kernel
theorem dX10_goRows_69 : decode cX10_goRows 69 = .ok (.aload_n 0, 1) := by decide +kernel
theorem dX10_goRows_70 : decode cX10_goRows 70 = .ok (.getfield 64, 3) := by decide +kernel
theorem dX10_goRows_73 : decode cX10_goRows 73 = .ok (.sipush 4096, 3) := by decide +kernel
theorem dX10_goRows_76 : decode cX10_goRows 76 = .ok (.iload_n 3, 1) := by decide +kernel
theorem dX10_goRows_77 : decode cX10_goRows 77 = .ok (.iconst 1, 1) := by decide +kernel
theorem dX10_goRows_78 : decode cX10_goRows 78 = .ok (.iadd, 1) := by decide +kernel
theorem dX10_goRows_79 : decode cX10_goRows 79 = .ok (.imul, 1) := by decide +kernel
theorem dX10_goRows_80 : decode cX10_goRows 80 = .ok (.iload 5, 2) := by decide +kernel
theorem dX10_goRows_82 : decode cX10_goRows 82 = .ok (.iadd, 1) := by decide +kernel
theorem dX10_goRows_83 : decode cX10_goRows 83 = .ok (.lload 6, 2) := by decide +kernel
theorem dX10_goRows_85 : decode cX10_goRows 85 = .ok (.lastore, 1) := by decide +kernel
theorem dX10_goRows_86 : decode cX10_goRows 86 = .ok (.aload_n 0, 1) := by decide +kernel
theorem dX10_goRows_87 : decode cX10_goRows 87 = .ok (.getfield 59, 3) := by decide +kernel
theorem dX10_goRows_90 : decode cX10_goRows 90 = .ok (.iload_n 3, 1) := by decide +kernel
theorem dX10_goRows_91 : decode cX10_goRows 91 = .ok (.iconst 1, 1) := by decide +kernel
theorem dX10_goRows_92 : decode cX10_goRows 92 = .ok (.iadd, 1) := by decide +kernel
theorem dX10_goRows_93 : decode cX10_goRows 93 = .ok (.aload_n 0, 1) := by decide +kernel
theorem dX10_goRows_94 : decode cX10_goRows 94 = .ok (.getfield 59, 3) := by decide +kernel
theorem dX10_goRows_97 : decode cX10_goRows 97 = .ok (.iload_n 3, 1) := by decide +kernel
theorem dX10_goRows_98 : decode cX10_goRows 98 = .ok (.iconst 1, 1) := by decide +kernel
theorem dX10_goRows_99 : decode cX10_goRows 99 = .ok (.iadd, 1) := by decide +kernel
theorem dX10_goRows_100 : decode cX10_goRows 100 = .ok (.laload, 1) := by decide +kernel
theorem dX10_goRows_101 : decode cX10_goRows 101 = .ok (.lload 6, 2) := by decide +kernel
theorem dX10_goRows_103 : decode cX10_goRows 103 = .ok (.invokestatic 247, 3) := by decide +kernel
theorem dX10_goRows_106 : decode cX10_goRows 106 = .ok (.lastore, 1) := by decide +kernel
theorem dX10_goRows_107 : decode cX10_goRows 107 = .ok (.iinc 5 1, 3) := by decide +kernel
theorem dX10_goRows_110 : decode cX10_goRows 110 = .ok (.goto (-77), 3) := by decide +kernel
theorem dX10_goRows_113 : decode cX10_goRows 113 = .ok (.aload_n 0, 1) := by decide +kernel
theorem dX10_goRows_114 : decode cX10_goRows 114 = .ok (.iload_n 1, 1) := by decide +kernel
theorem dX10_goRows_115 : decode cX10_goRows 115 = .ok (.iload_n 2, 1) := by decide +kernel
theorem dX10_goRows_116 : decode cX10_goRows 116 = .ok (.iconst 1, 1) := by decide +kernel
theorem dX10_goRows_117 : decode cX10_goRows 117 = .ok (.iadd, 1) := by decide +kernel
theorem dX10_goRows_118 : decode cX10_goRows 118 = .ok (.iload_n 3, 1) := by decide +kernel
theorem dX10_goRows_119 : decode cX10_goRows 119 = .ok (.iconst 1, 1) := by decide +kernel
theorem dX10_goRows_120 : decode cX10_goRows 120 = .ok (.iadd, 1) := by decide +kernel
theorem dX10_goRows_121 : decode cX10_goRows 121 = .ok (.invokevirtual 239, 3) := by decide +kernel
theorem dX10_goRows_124 : decode cX10_goRows 124 = .ok (.return_, 1) := by decide +kernel
theorem dX10_worthOf_0 : decode cX10_worthOf 0 = .ok (.lconst 0, 1) := by decide +kernel
theorem dX10_worthOf_1 : decode cX10_worthOf 1 = .ok (.lstore 5, 2) := by decide +kernel
theorem dX10_worthOf_3 : decode cX10_worthOf 3 = .ok (.iconst 0, 1) := by decide +kernel
theorem dX10_worthOf_4 : decode cX10_worthOf 4 = .ok (.istore 7, 2) := by decide +kernel
theorem dX10_worthOf_6 : decode cX10_worthOf 6 = .ok (.iconst 0, 1) := by decide +kernel
theorem dX10_worthOf_7 : decode cX10_worthOf 7 = .ok (.istore 8, 2) := by decide +kernel
theorem dX10_worthOf_9 : decode cX10_worthOf 9 = .ok (.iload 8, 2) := by decide +kernel
theorem dX10_worthOf_11 : decode cX10_worthOf 11 = .ok (.iload 4, 2) := by decide +kernel
theorem dX10_worthOf_13 : decode cX10_worthOf 13 = .ok (.if_icmp .ge 79, 3) := by decide +kernel
theorem dX10_worthOf_16 : decode cX10_worthOf 16 = .ok (.iload_n 3, 1) := by decide +kernel
theorem dX10_worthOf_17 : decode cX10_worthOf 17 = .ok (.iload 8, 2) := by decide +kernel
theorem dX10_worthOf_19 : decode cX10_worthOf 19 = .ok (.ishr, 1) := by decide +kernel
theorem dX10_worthOf_20 : decode cX10_worthOf 20 = .ok (.iconst 1, 1) := by decide +kernel
theorem dX10_worthOf_21 : decode cX10_worthOf 21 = .ok (.iand, 1) := by decide +kernel
theorem dX10_worthOf_22 : decode cX10_worthOf 22 = .ok (.iconst 1, 1) := by decide +kernel
theorem dX10_worthOf_23 : decode cX10_worthOf 23 = .ok (.if_icmp .ne 63, 3) := by decide +kernel
theorem dX10_worthOf_26 : decode cX10_worthOf 26 = .ok (.aload_n 0, 1) := by decide +kernel
theorem dX10_worthOf_27 : decode cX10_worthOf 27 = .ok (.getfield 56, 3) := by decide +kernel
theorem dX10_worthOf_30 : decode cX10_worthOf 30 = .ok (.bipush 48, 2) := by decide +kernel
theorem dX10_worthOf_32 : decode cX10_worthOf 32 = .ok (.iload_n 1, 1) := by decide +kernel
theorem dX10_worthOf_33 : decode cX10_worthOf 33 = .ok (.imul, 1) := by decide +kernel
theorem dX10_worthOf_34 : decode cX10_worthOf 34 = .ok (.iload 8, 2) := by decide +kernel
theorem dX10_worthOf_36 : decode cX10_worthOf 36 = .ok (.iadd, 1) := by decide +kernel
theorem dX10_worthOf_37 : decode cX10_worthOf 37 = .ok (.iaload, 1) := by decide +kernel
theorem dX10_worthOf_38 : decode cX10_worthOf 38 = .ok (.i2l, 1) := by decide +kernel
theorem dX10_worthOf_39 : decode cX10_worthOf 39 = .ok (.aload_n 0, 1) := by decide +kernel
theorem dX10_worthOf_40 : decode cX10_worthOf 40 = .ok (.getfield 64, 3) := by decide +kernel
theorem dX10_worthOf_43 : decode cX10_worthOf 43 = .ok (.sipush 4096, 3) := by decide +kernel
theorem dX10_worthOf_46 : decode cX10_worthOf 46 = .ok (.iload_n 2, 1) := by decide +kernel
theorem dX10_worthOf_47 : decode cX10_worthOf 47 = .ok (.imul, 1) := by decide +kernel
theorem dX10_worthOf_48 : decode cX10_worthOf 48 = .ok (.iload_n 3, 1) := by decide +kernel
theorem dX10_worthOf_49 : decode cX10_worthOf 49 = .ok (.iconst 1, 1) := by decide +kernel
theorem dX10_worthOf_50 : decode cX10_worthOf 50 = .ok (.iload 8, 2) := by decide +kernel
theorem dX10_worthOf_52 : decode cX10_worthOf 52 = .ok (.ishl, 1) := by decide +kernel
theorem dX10_worthOf_53 : decode cX10_worthOf 53 = .ok (.iconst (-1), 1) := by decide +kernel
theorem dX10_worthOf_54 : decode cX10_worthOf 54 = .ok (.ixor, 1) := by decide +kernel
theorem dX10_worthOf_55 : decode cX10_worthOf 55 = .ok (.iand, 1) := by decide +kernel
theorem dX10_worthOf_56 : decode cX10_worthOf 56 = .ok (.iadd, 1) := by decide +kernel
theorem dX10_worthOf_57 : decode cX10_worthOf 57 = .ok (.laload, 1) := by decide +kernel
theorem dX10_worthOf_58 : decode cX10_worthOf 58 = .ok (.lmul, 1) := by decide +kernel
theorem dX10_worthOf_59 : decode cX10_worthOf 59 = .ok (.lstore 9, 2) := by decide +kernel
theorem dX10_worthOf_61 : decode cX10_worthOf 61 = .ok (.lload 5, 2) := by decide +kernel
theorem dX10_worthOf_63 : decode cX10_worthOf 63 = .ok (.iload_n 2, 1) := by decide +kernel
theorem dX10_worthOf_64 : decode cX10_worthOf 64 = .ok (.iload 7, 2) := by decide +kernel
theorem dX10_worthOf_66 : decode cX10_worthOf 66 = .ok (.iadd, 1) := by decide +kernel
theorem dX10_worthOf_67 : decode cX10_worthOf 67 = .ok (.iconst 2, 1) := by decide +kernel
theorem dX10_worthOf_68 : decode cX10_worthOf 68 = .ok (.irem, 1) := by decide +kernel
theorem dX10_worthOf_69 : decode cX10_worthOf 69 = .ok (.ifCond .ne 8, 3) := by decide +kernel
theorem dX10_worthOf_72 : decode cX10_worthOf 72 = .ok (.lload 9, 2) := by decide +kernel
theorem dX10_worthOf_74 : decode cX10_worthOf 74 = .ok (.goto 6, 3) := by decide +kernel
theorem dX10_worthOf_77 : decode cX10_worthOf 77 = .ok (.lload 9, 2) := by decide +kernel
theorem dX10_worthOf_79 : decode cX10_worthOf 79 = .ok (.lneg, 1) := by decide +kernel
theorem dX10_worthOf_80 : decode cX10_worthOf 80 = .ok (.ladd, 1) := by decide +kernel
theorem dX10_worthOf_81 : decode cX10_worthOf 81 = .ok (.lstore 5, 2) := by decide +kernel
theorem dX10_worthOf_83 : decode cX10_worthOf 83 = .ok (.iinc 7 1, 3) := by decide +kernel
theorem dX10_worthOf_86 : decode cX10_worthOf 86 = .ok (.iinc 8 1, 3) := by decide +kernel
theorem dX10_worthOf_89 : decode cX10_worthOf 89 = .ok (.goto (-80), 3) := by decide +kernel
theorem dX10_worthOf_92 : decode cX10_worthOf 92 = .ok (.lload 5, 2) := by decide +kernel
theorem dX10_worthOf_94 : decode cX10_worthOf 94 = .ok (.lreturn, 1) := by decide +kernel
theorem dX10_layCommon_0 : decode cX10_layCommon 0 = .ok (.iconst 0, 1) := by decide +kernel
theorem dX10_layCommon_1 : decode cX10_layCommon 1 = .ok (.istore_n 2, 1) := by decide +kernel
theorem dX10_layCommon_2 : decode cX10_layCommon 2 = .ok (.iload_n 2, 1) := by decide +kernel
theorem dX10_layCommon_3 : decode cX10_layCommon 3 = .ok (.bipush 9, 2) := by decide +kernel
theorem dX10_layCommon_5 : decode cX10_layCommon 5 = .ok (.if_icmp .ge 24, 3) := by decide +kernel
theorem dX10_layCommon_8 : decode cX10_layCommon 8 = .ok (.aload_n 0, 1) := by decide +kernel
theorem dX10_layCommon_9 : decode cX10_layCommon 9 = .ok (.getfield 59, 3) := by decide +kernel
theorem dX10_layCommon_12 : decode cX10_layCommon 12 = .ok (.iload_n 2, 1) := by decide +kernel
theorem dX10_layCommon_13 : decode cX10_layCommon 13 = .ok (.iload_n 2, 1) := by decide +kernel
theorem dX10_layCommon_14 : decode cX10_layCommon 14 = .ok (.ifCond .ne 7, 3) := by decide +kernel
theorem dX10_layCommon_17 : decode cX10_layCommon 17 = .ok (.lconst 1, 1) := by decide +kernel
theorem dX10_layCommon_18 : decode cX10_layCommon 18 = .ok (.goto 4, 3) := by decide +kernel
theorem dX10_layCommon_21 : decode cX10_layCommon 21 = .ok (.lconst 0, 1) := by decide +kernel
theorem dX10_layCommon_22 : decode cX10_layCommon 22 = .ok (.lastore, 1) := by decide +kernel
theorem dX10_layCommon_23 : decode cX10_layCommon 23 = .ok (.iinc 2 1, 3) := by decide +kernel
theorem dX10_layCommon_26 : decode cX10_layCommon 26 = .ok (.goto (-24), 3) := by decide +kernel
theorem dX10_layCommon_29 : decode cX10_layCommon 29 = .ok (.iconst 0, 1) := by decide +kernel
theorem dX10_layCommon_30 : decode cX10_layCommon 30 = .ok (.istore_n 2, 1) := by decide +kernel
theorem dX10_layCommon_31 : decode cX10_layCommon 31 = .ok (.iload_n 2, 1) := by decide +kernel
theorem dX10_layCommon_32 : decode cX10_layCommon 32 = .ok (.sipush 4096, 3) := by decide +kernel
theorem dX10_layCommon_35 : decode cX10_layCommon 35 = .ok (.if_icmp .ge 50, 3) := by decide +kernel
theorem dX10_layCommon_38 : decode cX10_layCommon 38 = .ok (.aload_n 0, 1) := by decide +kernel
theorem dX10_layCommon_39 : decode cX10_layCommon 39 = .ok (.getfield 64, 3) := by decide +kernel
theorem dX10_layCommon_42 : decode cX10_layCommon 42 = .ok (.iload_n 2, 1) := by decide +kernel
theorem dX10_layCommon_43 : decode cX10_layCommon 43 = .ok (.iload_n 2, 1) := by decide +kernel
theorem dX10_layCommon_44 : decode cX10_layCommon 44 = .ok (.ifCond .ne 7, 3) := by decide +kernel
theorem dX10_layCommon_47 : decode cX10_layCommon 47 = .ok (.lconst 1, 1) := by decide +kernel
theorem dX10_layCommon_48 : decode cX10_layCommon 48 = .ok (.goto 4, 3) := by decide +kernel
theorem dX10_layCommon_51 : decode cX10_layCommon 51 = .ok (.lconst 0, 1) := by decide +kernel
theorem dX10_layCommon_52 : decode cX10_layCommon 52 = .ok (.lastore, 1) := by decide +kernel
theorem dX10_layCommon_53 : decode cX10_layCommon 53 = .ok (.aload_n 0, 1) := by decide +kernel
theorem dX10_layCommon_54 : decode cX10_layCommon 54 = .ok (.getfield 67, 3) := by decide +kernel
theorem dX10_layCommon_57 : decode cX10_layCommon 57 = .ok (.iload_n 2, 1) := by decide +kernel
theorem dX10_layCommon_58 : decode cX10_layCommon 58 = .ok (.iload_n 2, 1) := by decide +kernel
theorem dX10_layCommon_59 : decode cX10_layCommon 59 = .ok (.ifCond .ne 7, 3) := by decide +kernel
theorem dX10_layCommon_62 : decode cX10_layCommon 62 = .ok (.iconst 0, 1) := by decide +kernel
theorem dX10_layCommon_63 : decode cX10_layCommon 63 = .ok (.goto 15, 3) := by decide +kernel
theorem dX10_layCommon_66 : decode cX10_layCommon 66 = .ok (.aload_n 0, 1) := by decide +kernel
theorem dX10_layCommon_67 : decode cX10_layCommon 67 = .ok (.getfield 67, 3) := by decide +kernel
theorem dX10_layCommon_70 : decode cX10_layCommon 70 = .ok (.iload_n 2, 1) := by decide +kernel
theorem dX10_layCommon_71 : decode cX10_layCommon 71 = .ok (.iconst 1, 1) := by decide +kernel
theorem dX10_layCommon_72 : decode cX10_layCommon 72 = .ok (.ishr, 1) := by decide +kernel
theorem dX10_layCommon_73 : decode cX10_layCommon 73 = .ok (.iaload, 1) := by decide +kernel
theorem dX10_layCommon_74 : decode cX10_layCommon 74 = .ok (.iload_n 2, 1) := by decide +kernel
theorem dX10_layCommon_75 : decode cX10_layCommon 75 = .ok (.iconst 1, 1) := by decide +kernel
theorem dX10_layCommon_76 : decode cX10_layCommon 76 = .ok (.iand, 1) := by decide +kernel
theorem dX10_layCommon_77 : decode cX10_layCommon 77 = .ok (.iadd, 1) := by decide +kernel
theorem dX10_layCommon_78 : decode cX10_layCommon 78 = .ok (.iastore, 1) := by decide +kernel
theorem dX10_layCommon_79 : decode cX10_layCommon 79 = .ok (.iinc 2 1, 3) := by decide +kernel
theorem dX10_layCommon_82 : decode cX10_layCommon 82 = .ok (.goto (-51), 3) := by decide +kernel
theorem dX10_layCommon_85 : decode cX10_layCommon 85 = .ok (.iconst 0, 1) := by decide +kernel
theorem dX10_layCommon_86 : decode cX10_layCommon 86 = .ok (.istore_n 2, 1) := by decide +kernel
theorem dX10_layCommon_87 : decode cX10_layCommon 87 = .ok (.iload_n 2, 1) := by decide +kernel
theorem dX10_layCommon_88 : decode cX10_layCommon 88 = .ok (.aload_n 0, 1) := by decide +kernel
theorem dX10_layCommon_89 : decode cX10_layCommon 89 = .ok (.getfield 16, 3) := by decide +kernel
theorem dX10_layCommon_92 : decode cX10_layCommon 92 = .ok (.iload_n 1, 1) := by decide +kernel
theorem dX10_layCommon_93 : decode cX10_layCommon 93 = .ok (.iaload, 1) := by decide +kernel
theorem dX10_layCommon_94 : decode cX10_layCommon 94 = .ok (.if_icmp .ge 45, 3) := by decide +kernel
theorem dX10_layCommon_97 : decode cX10_layCommon 97 = .ok (.iconst 0, 1) := by decide +kernel
theorem dX10_layCommon_98 : decode cX10_layCommon 98 = .ok (.istore_n 3, 1) := by decide +kernel
theorem dX10_layCommon_99 : decode cX10_layCommon 99 = .ok (.iload_n 3, 1) := by decide +kernel
theorem dX10_layCommon_100 : decode cX10_layCommon 100 = .ok (.aload_n 0, 1) := by decide +kernel
theorem dX10_layCommon_101 : decode cX10_layCommon 101 = .ok (.getfield 13, 3) := by decide +kernel
theorem dX10_layCommon_104 : decode cX10_layCommon 104 = .ok (.iload_n 1, 1) := by decide +kernel
theorem dX10_layCommon_105 : decode cX10_layCommon 105 = .ok (.iaload, 1) := by decide +kernel
theorem dX10_layCommon_106 : decode cX10_layCommon 106 = .ok (.if_icmp .ge 27, 3) := by decide +kernel
theorem dX10_layCommon_109 : decode cX10_layCommon 109 = .ok (.aload_n 0, 1) := by decide +kernel
theorem dX10_layCommon_110 : decode cX10_layCommon 110 = .ok (.getfield 56, 3) := by decide +kernel
theorem dX10_layCommon_113 : decode cX10_layCommon 113 = .ok (.bipush 48, 2) := by decide +kernel
theorem dX10_layCommon_115 : decode cX10_layCommon 115 = .ok (.iload_n 2, 1) := by decide +kernel
theorem dX10_layCommon_116 : decode cX10_layCommon 116 = .ok (.imul, 1) := by decide +kernel
theorem dX10_layCommon_117 : decode cX10_layCommon 117 = .ok (.iload_n 3, 1) := by decide +kernel
theorem dX10_layCommon_118 : decode cX10_layCommon 118 = .ok (.iadd, 1) := by decide +kernel
theorem dX10_layCommon_119 : decode cX10_layCommon 119 = .ok (.aload_n 0, 1) := by decide +kernel
theorem dX10_layCommon_120 : decode cX10_layCommon 120 = .ok (.iload_n 1, 1) := by decide +kernel
theorem dX10_layCommon_121 : decode cX10_layCommon 121 = .ok (.iload_n 2, 1) := by decide +kernel
theorem dX10_layCommon_122 : decode cX10_layCommon 122 = .ok (.iload_n 3, 1) := by decide +kernel
theorem dX10_layCommon_123 : decode cX10_layCommon 123 = .ok (.invokevirtual 233, 3) := by decide +kernel
theorem dX10_layCommon_126 : decode cX10_layCommon 126 = .ok (.iastore, 1) := by decide +kernel
theorem dX10_layCommon_127 : decode cX10_layCommon 127 = .ok (.iinc 3 1, 3) := by decide +kernel
theorem dX10_layCommon_130 : decode cX10_layCommon 130 = .ok (.goto (-31), 3) := by decide +kernel
theorem dX10_layCommon_133 : decode cX10_layCommon 133 = .ok (.iinc 2 1, 3) := by decide +kernel
theorem dX10_layCommon_136 : decode cX10_layCommon 136 = .ok (.goto (-49), 3) := by decide +kernel
theorem dX10_layCommon_139 : decode cX10_layCommon 139 = .ok (.aload_n 0, 1) := by decide +kernel
theorem dX10_layCommon_140 : decode cX10_layCommon 140 = .ok (.iload_n 1, 1) := by decide +kernel
theorem dX10_layCommon_141 : decode cX10_layCommon 141 = .ok (.iconst 0, 1) := by decide +kernel
theorem dX10_layCommon_142 : decode cX10_layCommon 142 = .ok (.iconst 0, 1) := by decide +kernel
theorem dX10_layCommon_143 : decode cX10_layCommon 143 = .ok (.invokevirtual 239, 3) := by decide +kernel
theorem dX10_layCommon_146 : decode cX10_layCommon 146 = .ok (.return_, 1) := by decide +kernel
theorem dX10_wholeRank_0 : decode cX10_wholeRank 0 = .ok (.iconst 0, 1) := by decide +kernel
theorem dX10_wholeRank_1 : decode cX10_wholeRank 1 = .ok (.istore_n 1, 1) := by decide +kernel
theorem dX10_wholeRank_2 : decode cX10_wholeRank 2 = .ok (.iload_n 1, 1) := by decide +kernel
theorem dX10_wholeRank_3 : decode cX10_wholeRank 3 = .ok (.bipush 8, 2) := by decide +kernel
theorem dX10_wholeRank_5 : decode cX10_wholeRank 5 = .ok (.if_icmp .ge 22, 3) := by decide +kernel
theorem dX10_wholeRank_8 : decode cX10_wholeRank 8 = .ok (.aload_n 0, 1) := by decide +kernel
theorem dX10_wholeRank_9 : decode cX10_wholeRank 9 = .ok (.getfield 59, 3) := by decide +kernel
theorem dX10_wholeRank_12 : decode cX10_wholeRank 12 = .ok (.iload_n 1, 1) := by decide +kernel
theorem dX10_wholeRank_13 : decode cX10_wholeRank 13 = .ok (.iconst 1, 1) := by decide +kernel
theorem dX10_wholeRank_14 : decode cX10_wholeRank 14 = .ok (.iadd, 1) := by decide +kernel
theorem dX10_wholeRank_15 : decode cX10_wholeRank 15 = .ok (.laload, 1) := by decide +kernel
theorem dX10_wholeRank_16 : decode cX10_wholeRank 16 = .ok (.lconst 0, 1) := by decide +kernel
theorem dX10_wholeRank_17 : decode cX10_wholeRank 17 = .ok (.lcmp, 1) := by decide +kernel
theorem dX10_wholeRank_18 : decode cX10_wholeRank 18 = .ok (.ifCond .eq 9, 3) := by decide +kernel
theorem dX10_wholeRank_21 : decode cX10_wholeRank 21 = .ok (.iinc 1 1, 3) := by decide +kernel
theorem dX10_wholeRank_24 : decode cX10_wholeRank 24 = .ok (.goto (-22), 3) := by decide +kernel
theorem dX10_wholeRank_27 : decode cX10_wholeRank 27 = .ok (.iload_n 1, 1) := by decide +kernel
theorem dX10_wholeRank_28 : decode cX10_wholeRank 28 = .ok (.ireturn, 1) := by decide +kernel
theorem dX10_isPrime_0 : decode cX10_isPrime 0 = .ok (.iload_n 0, 1) := by decide +kernel
theorem dX10_isPrime_1 : decode cX10_isPrime 1 = .ok (.iconst 2, 1) := by decide +kernel
theorem dX10_isPrime_2 : decode cX10_isPrime 2 = .ok (.if_icmp .eq 19, 3) := by decide +kernel
theorem dX10_isPrime_5 : decode cX10_isPrime 5 = .ok (.iload_n 0, 1) := by decide +kernel
theorem dX10_isPrime_6 : decode cX10_isPrime 6 = .ok (.iconst 3, 1) := by decide +kernel
theorem dX10_isPrime_7 : decode cX10_isPrime 7 = .ok (.if_icmp .eq 14, 3) := by decide +kernel
theorem dX10_isPrime_10 : decode cX10_isPrime 10 = .ok (.iload_n 0, 1) := by decide +kernel
theorem dX10_isPrime_11 : decode cX10_isPrime 11 = .ok (.iconst 5, 1) := by decide +kernel
theorem dX10_isPrime_12 : decode cX10_isPrime 12 = .ok (.if_icmp .eq 9, 3) := by decide +kernel
theorem dX10_isPrime_15 : decode cX10_isPrime 15 = .ok (.iload_n 0, 1) := by decide +kernel
theorem dX10_isPrime_16 : decode cX10_isPrime 16 = .ok (.bipush 7, 2) := by decide +kernel
theorem dX10_isPrime_18 : decode cX10_isPrime 18 = .ok (.if_icmp .ne 7, 3) := by decide +kernel
theorem dX10_isPrime_21 : decode cX10_isPrime 21 = .ok (.iconst 1, 1) := by decide +kernel
theorem dX10_isPrime_22 : decode cX10_isPrime 22 = .ok (.goto 4, 3) := by decide +kernel
theorem dX10_isPrime_25 : decode cX10_isPrime 25 = .ok (.iconst 0, 1) := by decide +kernel
theorem dX10_isPrime_26 : decode cX10_isPrime 26 = .ok (.ireturn, 1) := by decide +kernel
theorem dX10_holes_0 : decode cX10_holes 0 = .ok (.aload_n 0, 1) := by decide +kernel
theorem dX10_holes_1 : decode cX10_holes 1 = .ok (.iload_n 1, 1) := by decide +kernel
theorem dX10_holes_2 : decode cX10_holes 2 = .ok (.invokevirtual 224, 3) := by decide +kernel
theorem dX10_holes_5 : decode cX10_holes 5 = .ok (.ifCond .eq 28, 3) := by decide +kernel
theorem dX10_holes_8 : decode cX10_holes 8 = .ok (.iload_n 2, 1) := by decide +kernel
theorem dX10_holes_9 : decode cX10_holes 9 = .ok (.iconst 0, 1) := by decide +kernel
theorem dX10_holes_10 : decode cX10_holes 10 = .ok (.iconst 2, 1) := by decide +kernel
theorem dX10_holes_11 : decode cX10_holes 11 = .ok (.invokestatic 133, 3) := by decide +kernel
theorem dX10_holes_14 : decode cX10_holes 14 = .ok (.ifCond .eq 19, 3) := by decide +kernel
theorem dX10_holes_17 : decode cX10_holes 17 = .ok (.iload_n 3, 1) := by decide +kernel
theorem dX10_holes_18 : decode cX10_holes 18 = .ok (.invokestatic 251, 3) := by decide +kernel
theorem dX10_holes_21 : decode cX10_holes 21 = .ok (.ifCond .ne 14, 3) := by decide +kernel
theorem dX10_holes_24 : decode cX10_holes 24 = .ok (.iload_n 3, 1) := by decide +kernel
theorem dX10_holes_25 : decode cX10_holes 25 = .ok (.ifCond .ne 8, 3) := by decide +kernel
theorem dX10_holes_28 : decode cX10_holes 28 = .ok (.iload_n 1, 1) := by decide +kernel
theorem dX10_holes_29 : decode cX10_holes 29 = .ok (.iconst 2, 1) := by decide +kernel
theorem dX10_holes_30 : decode cX10_holes 30 = .ok (.if_icmp .ne 5, 3) := by decide +kernel
theorem dX10_holes_33 : decode cX10_holes 33 = .ok (.iconst (-1), 1) := by decide +kernel
theorem dX10_holes_34 : decode cX10_holes 34 = .ok (.ireturn, 1) := by decide +kernel
theorem dX10_holes_35 : decode cX10_holes 35 = .ok (.aload_n 0, 1) := by decide +kernel
theorem dX10_holes_36 : decode cX10_holes 36 = .ok (.iload_n 1, 1) := by decide +kernel
theorem dX10_holes_37 : decode cX10_holes 37 = .ok (.invokevirtual 254, 3) := by decide +kernel
theorem dX10_holes_40 : decode cX10_holes 40 = .ok (.istore 4, 2) := by decide +kernel
theorem dX10_holes_42 : decode cX10_holes 42 = .ok (.iload_n 2, 1) := by decide +kernel
theorem dX10_holes_43 : decode cX10_holes 43 = .ok (.ifCond .ne 13, 3) := by decide +kernel
theorem dX10_holes_46 : decode cX10_holes 46 = .ok (.aload_n 0, 1) := by decide +kernel
theorem dX10_holes_47 : decode cX10_holes 47 = .ok (.getfield 7, 3) := by decide +kernel
theorem dX10_holes_50 : decode cX10_holes 50 = .ok (.iload_n 1, 1) := by decide +kernel
theorem dX10_holes_51 : decode cX10_holes 51 = .ok (.iaload, 1) := by decide +kernel
theorem dX10_holes_52 : decode cX10_holes 52 = .ok (.iload 4, 2) := by decide +kernel
theorem dX10_holes_54 : decode cX10_holes 54 = .ok (.isub, 1) := by decide +kernel
theorem dX10_holes_55 : decode cX10_holes 55 = .ok (.ireturn, 1) := by decide +kernel
theorem dX10_holes_56 : decode cX10_holes 56 = .ok (.iload_n 3, 1) := by decide +kernel
theorem dX10_holes_57 : decode cX10_holes 57 = .ok (.ifCond .ne 17, 3) := by decide +kernel
theorem dX10_holes_60 : decode cX10_holes 60 = .ok (.aload_n 0, 1) := by decide +kernel
theorem dX10_holes_61 : decode cX10_holes 61 = .ok (.iload_n 1, 1) := by decide +kernel
theorem dX10_holes_62 : decode cX10_holes 62 = .ok (.invokevirtual 257, 3) := by decide +kernel
theorem dX10_holes_65 : decode cX10_holes 65 = .ok (.aload_n 0, 1) := by decide +kernel
theorem dX10_holes_66 : decode cX10_holes 66 = .ok (.invokevirtual 260, 3) := by decide +kernel
theorem dX10_holes_69 : decode cX10_holes 69 = .ok (.istore 5, 2) := by decide +kernel
theorem dX10_holes_71 : decode cX10_holes 71 = .ok (.goto 11, 3) := by decide +kernel
theorem dX10_holes_74 : decode cX10_holes 74 = .ok (.aload_n 0, 1) := by decide +kernel
theorem dX10_holes_75 : decode cX10_holes 75 = .ok (.iload_n 1, 1) := by decide +kernel
theorem dX10_holes_76 : decode cX10_holes 76 = .ok (.iload_n 3, 1) := by decide +kernel
theorem dX10_holes_77 : decode cX10_holes 77 = .ok (.invokevirtual 263, 3) := by decide +kernel
theorem dX10_holes_80 : decode cX10_holes 80 = .ok (.istore 5, 2) := by decide +kernel
theorem dX10_holes_82 : decode cX10_holes 82 = .ok (.iload_n 2, 1) := by decide +kernel
theorem dX10_holes_83 : decode cX10_holes 83 = .ok (.iconst 1, 1) := by decide +kernel
theorem dX10_holes_84 : decode cX10_holes 84 = .ok (.if_icmp .ne 18, 3) := by decide +kernel
theorem dX10_holes_87 : decode cX10_holes 87 = .ok (.aload_n 0, 1) := by decide +kernel
theorem dX10_holes_88 : decode cX10_holes 88 = .ok (.getfield 13, 3) := by decide +kernel
theorem dX10_holes_91 : decode cX10_holes 91 = .ok (.iload_n 1, 1) := by decide +kernel
theorem dX10_holes_92 : decode cX10_holes 92 = .ok (.iaload, 1) := by decide +kernel
theorem dX10_holes_93 : decode cX10_holes 93 = .ok (.iload 4, 2) := by decide +kernel
theorem dX10_holes_95 : decode cX10_holes 95 = .ok (.isub, 1) := by decide +kernel
theorem dX10_holes_96 : decode cX10_holes 96 = .ok (.iload 5, 2) := by decide +kernel
theorem dX10_holes_98 : decode cX10_holes 98 = .ok (.isub, 1) := by decide +kernel
theorem dX10_holes_99 : decode cX10_holes 99 = .ok (.goto 12, 3) := by decide +kernel
theorem dX10_holes_102 : decode cX10_holes 102 = .ok (.aload_n 0, 1) := by decide +kernel
theorem dX10_holes_103 : decode cX10_holes 103 = .ok (.getfield 16, 3) := by decide +kernel
theorem dX10_holes_106 : decode cX10_holes 106 = .ok (.iload_n 1, 1) := by decide +kernel
theorem dX10_holes_107 : decode cX10_holes 107 = .ok (.iaload, 1) := by decide +kernel
theorem dX10_holes_108 : decode cX10_holes 108 = .ok (.iload 5, 2) := by decide +kernel
theorem dX10_holes_110 : decode cX10_holes 110 = .ok (.isub, 1) := by decide +kernel
theorem dX10_holes_111 : decode cX10_holes 111 = .ok (.ireturn, 1) := by decide +kernel
theorem dX10_bend_0 : decode cX10_bend 0 = .ok (.iload_n 1, 1) := by decide +kernel
theorem dX10_bend_1 : decode cX10_bend 1 = .ok (.invokestatic 137, 3) := by decide +kernel
theorem dX10_bend_4 : decode cX10_bend 4 = .ok (.ifCond .eq 7, 3) := by decide +kernel
theorem dX10_bend_7 : decode cX10_bend 7 = .ok (.iload_n 2, 1) := by decide +kernel
theorem dX10_bend_8 : decode cX10_bend 8 = .ok (.ifCond .ge 7, 3) := by decide +kernel
theorem dX10_bend_11 : decode cX10_bend 11 = .ok (.ldc2_w 266, 3) := by decide +kernel
theorem dX10_bend_14 : decode cX10_bend 14 = .ok (.lreturn, 1) := by decide +kernel
theorem dX10_bend_15 : decode cX10_bend 15 = .ok (.aload_n 0, 1) := by decide +kernel
theorem dX10_bend_16 : decode cX10_bend 16 = .ok (.iload_n 1, 1) := by decide +kernel
theorem dX10_bend_17 : decode cX10_bend 17 = .ok (.invokevirtual 257, 3) := by decide +kernel
theorem dX10_bend_20 : decode cX10_bend 20 = .ok (.iconst 0, 1) := by decide +kernel
theorem dX10_bend_21 : decode cX10_bend 21 = .ok (.istore_n 3, 1) := by decide +kernel
theorem dX10_bend_22 : decode cX10_bend 22 = .ok (.iconst 1, 1) := by decide +kernel
theorem dX10_bend_23 : decode cX10_bend 23 = .ok (.istore 4, 2) := by decide +kernel
theorem dX10_bend_25 : decode cX10_bend 25 = .ok (.iload 4, 2) := by decide +kernel
theorem dX10_bend_27 : decode cX10_bend 27 = .ok (.aload_n 0, 1) := by decide +kernel
theorem dX10_bend_28 : decode cX10_bend 28 = .ok (.invokevirtual 260, 3) := by decide +kernel
theorem dX10_bend_31 : decode cX10_bend 31 = .ok (.if_icmp .gt 46, 3) := by decide +kernel
theorem dX10_bend_34 : decode cX10_bend 34 = .ok (.aload_n 0, 1) := by decide +kernel
theorem dX10_bend_35 : decode cX10_bend 35 = .ok (.getfield 59, 3) := by decide +kernel
theorem dX10_bend_38 : decode cX10_bend 38 = .ok (.iload 4, 2) := by decide +kernel
theorem dX10_bend_40 : decode cX10_bend 40 = .ok (.laload, 1) := by decide +kernel
theorem dX10_bend_41 : decode cX10_bend 41 = .ok (.aload_n 0, 1) := by decide +kernel
theorem dX10_bend_42 : decode cX10_bend 42 = .ok (.getfield 59, 3) := by decide +kernel
theorem dX10_bend_45 : decode cX10_bend 45 = .ok (.iload 4, 2) := by decide +kernel
theorem dX10_bend_47 : decode cX10_bend 47 = .ok (.iconst 1, 1) := by decide +kernel
theorem dX10_bend_48 : decode cX10_bend 48 = .ok (.isub, 1) := by decide +kernel
theorem dX10_bend_49 : decode cX10_bend 49 = .ok (.laload, 1) := by decide +kernel
theorem dX10_bend_50 : decode cX10_bend 50 = .ok (.ldiv, 1) := by decide +kernel
theorem dX10_bend_51 : decode cX10_bend 51 = .ok (.lstore 5, 2) := by decide +kernel
theorem dX10_bend_53 : decode cX10_bend 53 = .ok (.lload 5, 2) := by decide +kernel
theorem dX10_bend_55 : decode cX10_bend 55 = .ok (.lconst 1, 1) := by decide +kernel
theorem dX10_bend_56 : decode cX10_bend 56 = .ok (.lcmp, 1) := by decide +kernel
theorem dX10_bend_57 : decode cX10_bend 57 = .ok (.ifCond .le 14, 3) := by decide +kernel
theorem dX10_bend_60 : decode cX10_bend 60 = .ok (.iload_n 3, 1) := by decide +kernel
theorem dX10_bend_61 : decode cX10_bend 61 = .ok (.iload_n 2, 1) := by decide +kernel
theorem dX10_bend_62 : decode cX10_bend 62 = .ok (.if_icmp .ne 6, 3) := by decide +kernel
theorem dX10_bend_65 : decode cX10_bend 65 = .ok (.lload 5, 2) := by decide +kernel
theorem dX10_bend_67 : decode cX10_bend 67 = .ok (.lreturn, 1) := by decide +kernel
theorem dX10_bend_68 : decode cX10_bend 68 = .ok (.iinc 3 1, 3) := by decide +kernel
theorem dX10_bend_71 : decode cX10_bend 71 = .ok (.iinc 4 1, 3) := by decide +kernel
theorem dX10_bend_74 : decode cX10_bend 74 = .ok (.goto (-49), 3) := by decide +kernel
theorem dX10_bend_77 : decode cX10_bend 77 = .ok (.ldc2_w 268, 3) := by decide +kernel
theorem dX10_bend_80 : decode cX10_bend 80 = .ok (.lreturn, 1) := by decide +kernel
theorem dX10_goOrders_0 : decode cX10_goOrders 0 = .ok (.iload_n 1, 1) := by decide +kernel
theorem dX10_goOrders_1 : decode cX10_goOrders 1 = .ok (.aload_n 0, 1) := by decide +kernel
theorem dX10_goOrders_2 : decode cX10_goOrders 2 = .ok (.getfield 270, 3) := by decide +kernel
theorem dX10_goOrders_5 : decode cX10_goOrders 5 = .ok (.if_icmp .ne 49, 3) := by decide +kernel
theorem dX10_goOrders_8 : decode cX10_goOrders 8 = .ok (.iconst 0, 1) := by decide +kernel
theorem dX10_goOrders_9 : decode cX10_goOrders 9 = .ok (.istore_n 3, 1) := by decide +kernel
theorem dX10_goOrders_10 : decode cX10_goOrders 10 = .ok (.iload_n 3, 1) := by decide +kernel
theorem dX10_goOrders_11 : decode cX10_goOrders 11 = .ok (.aload_n 0, 1) := by decide +kernel
theorem dX10_goOrders_12 : decode cX10_goOrders 12 = .ok (.getfield 270, 3) := by decide +kernel
theorem dX10_goOrders_15 : decode cX10_goOrders 15 = .ok (.if_icmp .ge 28, 3) := by decide +kernel
theorem dX10_goOrders_18 : decode cX10_goOrders 18 = .ok (.aload_n 0, 1) := by decide +kernel
theorem dX10_goOrders_19 : decode cX10_goOrders 19 = .ok (.getfield 76, 3) := by decide +kernel
theorem dX10_goOrders_22 : decode cX10_goOrders 22 = .ok (.iconst 4, 1) := by decide +kernel
theorem dX10_goOrders_23 : decode cX10_goOrders 23 = .ok (.aload_n 0, 1) := by decide +kernel
theorem dX10_goOrders_24 : decode cX10_goOrders 24 = .ok (.getfield 273, 3) := by decide +kernel
theorem dX10_goOrders_27 : decode cX10_goOrders 27 = .ok (.imul, 1) := by decide +kernel
theorem dX10_goOrders_28 : decode cX10_goOrders 28 = .ok (.iload_n 3, 1) := by decide +kernel
theorem dX10_goOrders_29 : decode cX10_goOrders 29 = .ok (.iadd, 1) := by decide +kernel
theorem dX10_goOrders_30 : decode cX10_goOrders 30 = .ok (.aload_n 0, 1) := by decide +kernel
theorem dX10_goOrders_31 : decode cX10_goOrders 31 = .ok (.getfield 79, 3) := by decide +kernel
theorem dX10_goOrders_34 : decode cX10_goOrders 34 = .ok (.iload_n 3, 1) := by decide +kernel
theorem dX10_goOrders_35 : decode cX10_goOrders 35 = .ok (.iaload, 1) := by decide +kernel
theorem dX10_goOrders_36 : decode cX10_goOrders 36 = .ok (.iastore, 1) := by decide +kernel
theorem dX10_goOrders_37 : decode cX10_goOrders 37 = .ok (.iinc 3 1, 3) := by decide +kernel
theorem dX10_goOrders_40 : decode cX10_goOrders 40 = .ok (.goto (-30), 3) := by decide +kernel
theorem dX10_goOrders_43 : decode cX10_goOrders 43 = .ok (.aload_n 0, 1) := by decide +kernel
theorem dX10_goOrders_44 : decode cX10_goOrders 44 = .ok (.dup, 1) := by decide +kernel
theorem dX10_goOrders_45 : decode cX10_goOrders 45 = .ok (.getfield 273, 3) := by decide +kernel
theorem dX10_goOrders_48 : decode cX10_goOrders 48 = .ok (.iconst 1, 1) := by decide +kernel
theorem dX10_goOrders_49 : decode cX10_goOrders 49 = .ok (.iadd, 1) := by decide +kernel
theorem dX10_goOrders_50 : decode cX10_goOrders 50 = .ok (.putfield 273, 3) := by decide +kernel
theorem dX10_goOrders_53 : decode cX10_goOrders 53 = .ok (.return_, 1) := by decide +kernel
theorem dX10_goOrders_54 : decode cX10_goOrders 54 = .ok (.iconst 0, 1) := by decide +kernel
theorem dX10_goOrders_55 : decode cX10_goOrders 55 = .ok (.istore_n 3, 1) := by decide +kernel
theorem dX10_goOrders_56 : decode cX10_goOrders 56 = .ok (.iload_n 3, 1) := by decide +kernel
theorem dX10_goOrders_57 : decode cX10_goOrders 57 = .ok (.aload_n 0, 1) := by decide +kernel
theorem dX10_goOrders_58 : decode cX10_goOrders 58 = .ok (.getfield 270, 3) := by decide +kernel
theorem dX10_goOrders_61 : decode cX10_goOrders 61 = .ok (.if_icmp .ge 36, 3) := by decide +kernel
theorem dX10_goOrders_64 : decode cX10_goOrders 64 = .ok (.iload_n 2, 1) := by decide +kernel
theorem dX10_goOrders_65 : decode cX10_goOrders 65 = .ok (.iload_n 3, 1) := by decide +kernel
theorem dX10_goOrders_66 : decode cX10_goOrders 66 = .ok (.ishr, 1) := by decide +kernel
theorem dX10_goOrders_67 : decode cX10_goOrders 67 = .ok (.iconst 1, 1) := by decide +kernel
theorem dX10_goOrders_68 : decode cX10_goOrders 68 = .ok (.iand, 1) := by decide +kernel
theorem dX10_goOrders_69 : decode cX10_goOrders 69 = .ok (.ifCond .ne 22, 3) := by decide +kernel
theorem dX10_goOrders_72 : decode cX10_goOrders 72 = .ok (.aload_n 0, 1) := by decide +kernel
theorem dX10_goOrders_73 : decode cX10_goOrders 73 = .ok (.getfield 79, 3) := by decide +kernel
theorem dX10_goOrders_76 : decode cX10_goOrders 76 = .ok (.iload_n 1, 1) := by decide +kernel
theorem dX10_goOrders_77 : decode cX10_goOrders 77 = .ok (.iload_n 3, 1) := by decide +kernel
theorem dX10_goOrders_78 : decode cX10_goOrders 78 = .ok (.iastore, 1) := by decide +kernel
theorem dX10_goOrders_79 : decode cX10_goOrders 79 = .ok (.aload_n 0, 1) := by decide +kernel
theorem dX10_goOrders_80 : decode cX10_goOrders 80 = .ok (.iload_n 1, 1) := by decide +kernel
theorem dX10_goOrders_81 : decode cX10_goOrders 81 = .ok (.iconst 1, 1) := by decide +kernel
theorem dX10_goOrders_82 : decode cX10_goOrders 82 = .ok (.iadd, 1) := by decide +kernel
theorem dX10_goOrders_83 : decode cX10_goOrders 83 = .ok (.iload_n 2, 1) := by decide +kernel
theorem dX10_goOrders_84 : decode cX10_goOrders 84 = .ok (.iconst 1, 1) := by decide +kernel
theorem dX10_goOrders_85 : decode cX10_goOrders 85 = .ok (.iload_n 3, 1) := by decide +kernel
theorem dX10_goOrders_86 : decode cX10_goOrders 86 = .ok (.ishl, 1) := by decide +kernel
theorem dX10_goOrders_87 : decode cX10_goOrders 87 = .ok (.ior, 1) := by decide +kernel
theorem dX10_goOrders_88 : decode cX10_goOrders 88 = .ok (.invokevirtual 276, 3) := by decide +kernel
theorem dX10_goOrders_91 : decode cX10_goOrders 91 = .ok (.iinc 3 1, 3) := by decide +kernel
theorem dX10_goOrders_94 : decode cX10_goOrders 94 = .ok (.goto (-38), 3) := by decide +kernel
theorem dX10_goOrders_97 : decode cX10_goOrders 97 = .ok (.return_, 1) := by decide +kernel
theorem dX10_isMany_0 : decode cX10_isMany 0 = .ok (.aload_n 0, 1) := by decide +kernel
theorem dX10_isMany_1 : decode cX10_isMany 1 = .ok (.iload_n 2, 1) := by decide +kernel
theorem dX10_isMany_2 : decode cX10_isMany 2 = .ok (.putfield 270, 3) := by decide +kernel
theorem dX10_isMany_5 : decode cX10_isMany 5 = .ok (.aload_n 0, 1) := by decide +kernel
theorem dX10_isMany_6 : decode cX10_isMany 6 = .ok (.iconst 0, 1) := by decide +kernel
theorem dX10_isMany_7 : decode cX10_isMany 7 = .ok (.putfield 273, 3) := by decide +kernel
theorem dX10_isMany_10 : decode cX10_isMany 10 = .ok (.aload_n 0, 1) := by decide +kernel
theorem dX10_isMany_11 : decode cX10_isMany 11 = .ok (.iconst 0, 1) := by decide +kernel
theorem dX10_isMany_12 : decode cX10_isMany 12 = .ok (.iconst 0, 1) := by decide +kernel
theorem dX10_isMany_13 : decode cX10_isMany 13 = .ok (.invokevirtual 276, 3) := by decide +kernel
theorem dX10_isMany_16 : decode cX10_isMany 16 = .ok (.aload_n 0, 1) := by decide +kernel
theorem dX10_isMany_17 : decode cX10_isMany 17 = .ok (.iload_n 1, 1) := by decide +kernel
theorem dX10_isMany_18 : decode cX10_isMany 18 = .ok (.invokevirtual 227, 3) := by decide +kernel
theorem dX10_isMany_21 : decode cX10_isMany 21 = .ok (.aload_n 0, 1) := by decide +kernel
theorem dX10_isMany_22 : decode cX10_isMany 22 = .ok (.aload_n 0, 1) := by decide +kernel
theorem dX10_isMany_23 : decode cX10_isMany 23 = .ok (.getfield 218, 3) := by decide +kernel
theorem dX10_isMany_26 : decode cX10_isMany 26 = .ok (.putfield 279, 3) := by decide +kernel
theorem dX10_isMany_29 : decode cX10_isMany 29 = .ok (.iconst 1, 1) := by decide +kernel
theorem dX10_isMany_30 : decode cX10_isMany 30 = .ok (.istore_n 3, 1) := by decide +kernel
theorem dX10_isMany_31 : decode cX10_isMany 31 = .ok (.iconst 0, 1) := by decide +kernel
theorem dX10_isMany_32 : decode cX10_isMany 32 = .ok (.istore 4, 2) := by decide +kernel
theorem dX10_isMany_34 : decode cX10_isMany 34 = .ok (.iload 4, 2) := by decide +kernel
theorem dX10_isMany_36 : decode cX10_isMany 36 = .ok (.aload_n 0, 1) := by decide +kernel
theorem dX10_isMany_37 : decode cX10_isMany 37 = .ok (.getfield 279, 3) := by decide +kernel
theorem dX10_isMany_40 : decode cX10_isMany 40 = .ok (.if_icmp .ge 23, 3) := by decide +kernel
theorem dX10_isMany_43 : decode cX10_isMany 43 = .ok (.iload_n 3, 1) := by decide +kernel
theorem dX10_isMany_44 : decode cX10_isMany 44 = .ok (.sipush 20000, 3) := by decide +kernel
theorem dX10_isMany_47 : decode cX10_isMany 47 = .ok (.if_icmp .gt 16, 3) := by decide +kernel
theorem dX10_isMany_50 : decode cX10_isMany 50 = .ok (.iload_n 3, 1) := by decide +kernel
theorem dX10_isMany_51 : decode cX10_isMany 51 = .ok (.aload_n 0, 1) := by decide +kernel
theorem dX10_isMany_52 : decode cX10_isMany 52 = .ok (.getfield 273, 3) := by decide +kernel
theorem dX10_isMany_55 : decode cX10_isMany 55 = .ok (.imul, 1) := by decide +kernel
theorem dX10_isMany_56 : decode cX10_isMany 56 = .ok (.istore_n 3, 1) := by decide +kernel
theorem dX10_isMany_57 : decode cX10_isMany 57 = .ok (.iinc 4 1, 3) := by decide +kernel
theorem dX10_isMany_60 : decode cX10_isMany 60 = .ok (.goto (-26), 3) := by decide +kernel
theorem dX10_isMany_63 : decode cX10_isMany 63 = .ok (.iload_n 3, 1) := by decide +kernel
theorem dX10_isMany_64 : decode cX10_isMany 64 = .ok (.sipush 20000, 3) := by decide +kernel
theorem dX10_isMany_67 : decode cX10_isMany 67 = .ok (.if_icmp .le 7, 3) := by decide +kernel
theorem dX10_isMany_70 : decode cX10_isMany 70 = .ok (.iconst 1, 1) := by decide +kernel
theorem dX10_isMany_71 : decode cX10_isMany 71 = .ok (.goto 4, 3) := by decide +kernel
theorem dX10_isMany_74 : decode cX10_isMany 74 = .ok (.iconst 0, 1) := by decide +kernel
theorem dX10_isMany_75 : decode cX10_isMany 75 = .ok (.ireturn, 1) := by decide +kernel
theorem dX10_putTurn_0 : decode cX10_putTurn 0 = .ok (.iconst 0, 1) := by decide +kernel
theorem dX10_putTurn_1 : decode cX10_putTurn 1 = .ok (.istore_n 3, 1) := by decide +kernel
theorem dX10_putTurn_2 : decode cX10_putTurn 2 = .ok (.iload_n 3, 1) := by decide +kernel
theorem dX10_putTurn_3 : decode cX10_putTurn 3 = .ok (.aload_n 0, 1) := by decide +kernel
theorem dX10_putTurn_4 : decode cX10_putTurn 4 = .ok (.getfield 270, 3) := by decide +kernel
theorem dX10_putTurn_7 : decode cX10_putTurn 7 = .ok (.if_icmp .ge 45, 3) := by decide +kernel
theorem dX10_putTurn_10 : decode cX10_putTurn 10 = .ok (.aload_n 0, 1) := by decide +kernel
theorem dX10_putTurn_11 : decode cX10_putTurn 11 = .ok (.getfield 76, 3) := by decide +kernel
theorem dX10_putTurn_14 : decode cX10_putTurn 14 = .ok (.iconst 4, 1) := by decide +kernel
theorem dX10_putTurn_15 : decode cX10_putTurn 15 = .ok (.iload_n 2, 1) := by decide +kernel
theorem dX10_putTurn_16 : decode cX10_putTurn 16 = .ok (.imul, 1) := by decide +kernel
theorem dX10_putTurn_17 : decode cX10_putTurn 17 = .ok (.iload_n 3, 1) := by decide +kernel
theorem dX10_putTurn_18 : decode cX10_putTurn 18 = .ok (.iadd, 1) := by decide +kernel
theorem dX10_putTurn_19 : decode cX10_putTurn 19 = .ok (.iaload, 1) := by decide +kernel
theorem dX10_putTurn_20 : decode cX10_putTurn 20 = .ok (.istore 4, 2) := by decide +kernel
theorem dX10_putTurn_22 : decode cX10_putTurn 22 = .ok (.aload_n 0, 1) := by decide +kernel
theorem dX10_putTurn_23 : decode cX10_putTurn 23 = .ok (.getfield 70, 3) := by decide +kernel
theorem dX10_putTurn_26 : decode cX10_putTurn 26 = .ok (.iconst 4, 1) := by decide +kernel
theorem dX10_putTurn_27 : decode cX10_putTurn 27 = .ok (.iload_n 1, 1) := by decide +kernel
theorem dX10_putTurn_28 : decode cX10_putTurn 28 = .ok (.imul, 1) := by decide +kernel
theorem dX10_putTurn_29 : decode cX10_putTurn 29 = .ok (.iload_n 3, 1) := by decide +kernel
theorem dX10_putTurn_30 : decode cX10_putTurn 30 = .ok (.iadd, 1) := by decide +kernel
theorem dX10_putTurn_31 : decode cX10_putTurn 31 = .ok (.iload 4, 2) := by decide +kernel
theorem dX10_putTurn_33 : decode cX10_putTurn 33 = .ok (.iastore, 1) := by decide +kernel
theorem dX10_putTurn_34 : decode cX10_putTurn 34 = .ok (.aload_n 0, 1) := by decide +kernel
theorem dX10_putTurn_35 : decode cX10_putTurn 35 = .ok (.getfield 73, 3) := by decide +kernel
theorem dX10_putTurn_38 : decode cX10_putTurn 38 = .ok (.iconst 4, 1) := by decide +kernel
theorem dX10_putTurn_39 : decode cX10_putTurn 39 = .ok (.iload_n 1, 1) := by decide +kernel
theorem dX10_putTurn_40 : decode cX10_putTurn 40 = .ok (.imul, 1) := by decide +kernel
theorem dX10_putTurn_41 : decode cX10_putTurn 41 = .ok (.iload 4, 2) := by decide +kernel
theorem dX10_putTurn_43 : decode cX10_putTurn 43 = .ok (.iadd, 1) := by decide +kernel
theorem dX10_putTurn_44 : decode cX10_putTurn 44 = .ok (.iload_n 3, 1) := by decide +kernel
theorem dX10_putTurn_45 : decode cX10_putTurn 45 = .ok (.iastore, 1) := by decide +kernel
theorem dX10_putTurn_46 : decode cX10_putTurn 46 = .ok (.iinc 3 1, 3) := by decide +kernel
theorem dX10_putTurn_49 : decode cX10_putTurn 49 = .ok (.goto (-47), 3) := by decide +kernel
theorem dX10_putTurn_52 : decode cX10_putTurn 52 = .ok (.return_, 1) := by decide +kernel
theorem dX10_stepMoves_0 : decode cX10_stepMoves 0 = .ok (.aload_n 0, 1) := by decide +kernel
theorem dX10_stepMoves_1 : decode cX10_stepMoves 1 = .ok (.getfield 53, 3) := by decide +kernel
theorem dX10_stepMoves_4 : decode cX10_stepMoves 4 = .ok (.iload_n 1, 1) := by decide +kernel
theorem dX10_stepMoves_5 : decode cX10_stepMoves 5 = .ok (.ifCond .le 9, 3) := by decide +kernel
theorem dX10_stepMoves_8 : decode cX10_stepMoves 8 = .ok (.iload_n 1, 1) := by decide +kernel
theorem dX10_stepMoves_9 : decode cX10_stepMoves 9 = .ok (.iconst 1, 1) := by decide +kernel
theorem dX10_stepMoves_10 : decode cX10_stepMoves 10 = .ok (.isub, 1) := by decide +kernel
theorem dX10_stepMoves_11 : decode cX10_stepMoves 11 = .ok (.goto 7, 3) := by decide +kernel
theorem dX10_stepMoves_14 : decode cX10_stepMoves 14 = .ok (.iload_n 1, 1) := by decide +kernel
theorem dX10_stepMoves_15 : decode cX10_stepMoves 15 = .ok (.ineg, 1) := by decide +kernel
theorem dX10_stepMoves_16 : decode cX10_stepMoves 16 = .ok (.iconst 1, 1) := by decide +kernel
theorem dX10_stepMoves_17 : decode cX10_stepMoves 17 = .ok (.isub, 1) := by decide +kernel
theorem dX10_stepMoves_18 : decode cX10_stepMoves 18 = .ok (.iaload, 1) := by decide +kernel
theorem dX10_stepMoves_19 : decode cX10_stepMoves 19 = .ok (.istore_n 3, 1) := by decide +kernel
theorem dX10_stepMoves_20 : decode cX10_stepMoves 20 = .ok (.iload_n 3, 1) := by decide +kernel
theorem dX10_stepMoves_21 : decode cX10_stepMoves 21 = .ok (.ifCond .ge 7, 3) := by decide +kernel
theorem dX10_stepMoves_24 : decode cX10_stepMoves 24 = .ok (.iload_n 2, 1) := by decide +kernel
theorem dX10_stepMoves_25 : decode cX10_stepMoves 25 = .ok (.goto 30, 3) := by decide +kernel
theorem dX10_stepMoves_28 : decode cX10_stepMoves 28 = .ok (.iload_n 1, 1) := by decide +kernel
theorem dX10_stepMoves_29 : decode cX10_stepMoves 29 = .ok (.ifCond .le 16, 3) := by decide +kernel
theorem dX10_stepMoves_32 : decode cX10_stepMoves 32 = .ok (.aload_n 0, 1) := by decide +kernel
theorem dX10_stepMoves_33 : decode cX10_stepMoves 33 = .ok (.getfield 70, 3) := by decide +kernel
theorem dX10_stepMoves_36 : decode cX10_stepMoves 36 = .ok (.iconst 4, 1) := by decide +kernel
theorem dX10_stepMoves_37 : decode cX10_stepMoves 37 = .ok (.iload_n 3, 1) := by decide +kernel
theorem dX10_stepMoves_38 : decode cX10_stepMoves 38 = .ok (.imul, 1) := by decide +kernel
theorem dX10_stepMoves_39 : decode cX10_stepMoves 39 = .ok (.iload_n 2, 1) := by decide +kernel
theorem dX10_stepMoves_40 : decode cX10_stepMoves 40 = .ok (.iadd, 1) := by decide +kernel
theorem dX10_stepMoves_41 : decode cX10_stepMoves 41 = .ok (.iaload, 1) := by decide +kernel
theorem dX10_stepMoves_42 : decode cX10_stepMoves 42 = .ok (.goto 13, 3) := by decide +kernel
theorem dX10_stepMoves_45 : decode cX10_stepMoves 45 = .ok (.aload_n 0, 1) := by decide +kernel
theorem dX10_stepMoves_46 : decode cX10_stepMoves 46 = .ok (.getfield 73, 3) := by decide +kernel
theorem dX10_stepMoves_49 : decode cX10_stepMoves 49 = .ok (.iconst 4, 1) := by decide +kernel
theorem dX10_stepMoves_50 : decode cX10_stepMoves 50 = .ok (.iload_n 3, 1) := by decide +kernel
theorem dX10_stepMoves_51 : decode cX10_stepMoves 51 = .ok (.imul, 1) := by decide +kernel
theorem dX10_stepMoves_52 : decode cX10_stepMoves 52 = .ok (.iload_n 2, 1) := by decide +kernel
theorem dX10_stepMoves_53 : decode cX10_stepMoves 53 = .ok (.iadd, 1) := by decide +kernel
theorem dX10_stepMoves_54 : decode cX10_stepMoves 54 = .ok (.iaload, 1) := by decide +kernel
theorem dX10_stepMoves_55 : decode cX10_stepMoves 55 = .ok (.ireturn, 1) := by decide +kernel
theorem dX10_holds_0 : decode cX10_holds 0 = .ok (.iconst 0, 1) := by decide +kernel
theorem dX10_holds_1 : decode cX10_holds 1 = .ok (.istore_n 2, 1) := by decide +kernel
theorem dX10_holds_2 : decode cX10_holds 2 = .ok (.iload_n 2, 1) := by decide +kernel
theorem dX10_holds_3 : decode cX10_holds 3 = .ok (.aload_n 0, 1) := by decide +kernel
theorem dX10_holds_4 : decode cX10_holds 4 = .ok (.getfield 16, 3) := by decide +kernel
theorem dX10_holds_7 : decode cX10_holds 7 = .ok (.iload_n 1, 1) := by decide +kernel
theorem dX10_holds_8 : decode cX10_holds 8 = .ok (.iaload, 1) := by decide +kernel
theorem dX10_holds_9 : decode cX10_holds 9 = .ok (.if_icmp .ge 86, 3) := by decide +kernel
theorem dX10_holds_12 : decode cX10_holds 12 = .ok (.iconst 0, 1) := by decide +kernel
theorem dX10_holds_13 : decode cX10_holds 13 = .ok (.istore_n 3, 1) := by decide +kernel
theorem dX10_holds_14 : decode cX10_holds 14 = .ok (.iload_n 3, 1) := by decide +kernel
theorem dX10_holds_15 : decode cX10_holds 15 = .ok (.aload_n 0, 1) := by decide +kernel
theorem dX10_holds_16 : decode cX10_holds 16 = .ok (.getfield 270, 3) := by decide +kernel
theorem dX10_holds_19 : decode cX10_holds 19 = .ok (.if_icmp .ge 70, 3) := by decide +kernel
theorem dX10_holds_22 : decode cX10_holds 22 = .ok (.aload_n 0, 1) := by decide +kernel
theorem dX10_holds_23 : decode cX10_holds 23 = .ok (.iload_n 1, 1) := by decide +kernel
theorem dX10_holds_24 : decode cX10_holds 24 = .ok (.iload_n 2, 1) := by decide +kernel
theorem dX10_holds_25 : decode cX10_holds 25 = .ok (.invokevirtual 282, 3) := by decide +kernel
theorem dX10_holds_28 : decode cX10_holds 28 = .ok (.ifCond .eq 61, 3) := by decide +kernel
theorem dX10_holds_31 : decode cX10_holds 31 = .ok (.iload_n 3, 1) := by decide +kernel
theorem dX10_holds_32 : decode cX10_holds 32 = .ok (.istore 4, 2) := by decide +kernel
theorem dX10_holds_34 : decode cX10_holds 34 = .ok (.iconst 0, 1) := by decide +kernel
theorem dX10_holds_35 : decode cX10_holds 35 = .ok (.istore 5, 2) := by decide +kernel
theorem dX10_holds_37 : decode cX10_holds 37 = .ok (.iload 5, 2) := by decide +kernel
theorem dX10_holds_39 : decode cX10_holds 39 = .ok (.aload_n 0, 1) := by decide +kernel
theorem dX10_holds_40 : decode cX10_holds 40 = .ok (.getfield 25, 3) := by decide +kernel
theorem dX10_holds_43 : decode cX10_holds 43 = .ok (.bipush 32, 2) := by decide +kernel
theorem dX10_holds_45 : decode cX10_holds 45 = .ok (.iload_n 1, 1) := by decide +kernel
theorem dX10_holds_46 : decode cX10_holds 46 = .ok (.imul, 1) := by decide +kernel
theorem dX10_holds_47 : decode cX10_holds 47 = .ok (.iload_n 2, 1) := by decide +kernel
theorem dX10_holds_48 : decode cX10_holds 48 = .ok (.iadd, 1) := by decide +kernel
theorem dX10_holds_49 : decode cX10_holds 49 = .ok (.iaload, 1) := by decide +kernel
theorem dX10_holds_50 : decode cX10_holds 50 = .ok (.if_icmp .ge 25, 3) := by decide +kernel
theorem dX10_holds_53 : decode cX10_holds 53 = .ok (.aload_n 0, 1) := by decide +kernel
theorem dX10_holds_54 : decode cX10_holds 54 = .ok (.aload_n 0, 1) := by decide +kernel
theorem dX10_holds_55 : decode cX10_holds 55 = .ok (.iload_n 1, 1) := by decide +kernel
theorem dX10_holds_56 : decode cX10_holds 56 = .ok (.iload_n 2, 1) := by decide +kernel
theorem dX10_holds_57 : decode cX10_holds 57 = .ok (.iload 5, 2) := by decide +kernel
theorem dX10_holds_59 : decode cX10_holds 59 = .ok (.invokevirtual 221, 3) := by decide +kernel
theorem dX10_holds_62 : decode cX10_holds 62 = .ok (.iload 4, 2) := by decide +kernel
theorem dX10_holds_64 : decode cX10_holds 64 = .ok (.invokevirtual 285, 3) := by decide +kernel
theorem dX10_holds_67 : decode cX10_holds 67 = .ok (.istore 4, 2) := by decide +kernel
theorem dX10_holds_69 : decode cX10_holds 69 = .ok (.iinc 5 1, 3) := by decide +kernel
theorem dX10_holds_72 : decode cX10_holds 72 = .ok (.goto (-35), 3) := by decide +kernel
theorem dX10_holds_75 : decode cX10_holds 75 = .ok (.iload 4, 2) := by decide +kernel
theorem dX10_holds_77 : decode cX10_holds 77 = .ok (.iload_n 3, 1) := by decide +kernel
theorem dX10_holds_78 : decode cX10_holds 78 = .ok (.if_icmp .eq 5, 3) := by decide +kernel
theorem dX10_holds_81 : decode cX10_holds 81 = .ok (.iconst 0, 1) := by decide +kernel
theorem dX10_holds_82 : decode cX10_holds 82 = .ok (.ireturn, 1) := by decide +kernel
theorem dX10_holds_83 : decode cX10_holds 83 = .ok (.iinc 3 1, 3) := by decide +kernel
theorem dX10_holds_86 : decode cX10_holds 86 = .ok (.goto (-72), 3) := by decide +kernel
theorem dX10_holds_89 : decode cX10_holds 89 = .ok (.iinc 2 1, 3) := by decide +kernel
theorem dX10_holds_92 : decode cX10_holds 92 = .ok (.goto (-90), 3) := by decide +kernel
theorem dX10_holds_95 : decode cX10_holds 95 = .ok (.iconst 1, 1) := by decide +kernel
theorem dX10_holds_96 : decode cX10_holds 96 = .ok (.ireturn, 1) := by decide +kernel
theorem dX10_isOne_0 : decode cX10_isOne 0 = .ok (.iconst 1, 1) := by decide +kernel
theorem dX10_isOne_1 : decode cX10_isOne 1 = .ok (.istore_n 1, 1) := by decide +kernel
theorem dX10_isOne_2 : decode cX10_isOne 2 = .ok (.iconst 0, 1) := by decide +kernel
theorem dX10_isOne_3 : decode cX10_isOne 3 = .ok (.istore_n 2, 1) := by decide +kernel
theorem dX10_isOne_4 : decode cX10_isOne 4 = .ok (.iload_n 1, 1) := by decide +kernel
theorem dX10_isOne_5 : decode cX10_isOne 5 = .ok (.iload_n 2, 1) := by decide +kernel
theorem dX10_isOne_6 : decode cX10_isOne 6 = .ok (.if_icmp .eq 72, 3) := by decide +kernel
theorem dX10_isOne_9 : decode cX10_isOne 9 = .ok (.iload_n 1, 1) := by decide +kernel
theorem dX10_isOne_10 : decode cX10_isOne 10 = .ok (.istore_n 2, 1) := by decide +kernel
theorem dX10_isOne_11 : decode cX10_isOne 11 = .ok (.iconst 0, 1) := by decide +kernel
theorem dX10_isOne_12 : decode cX10_isOne 12 = .ok (.istore_n 3, 1) := by decide +kernel
theorem dX10_isOne_13 : decode cX10_isOne 13 = .ok (.iload_n 3, 1) := by decide +kernel
theorem dX10_isOne_14 : decode cX10_isOne 14 = .ok (.aload_n 0, 1) := by decide +kernel
theorem dX10_isOne_15 : decode cX10_isOne 15 = .ok (.getfield 279, 3) := by decide +kernel
theorem dX10_isOne_18 : decode cX10_isOne 18 = .ok (.if_icmp .ge 57, 3) := by decide +kernel
theorem dX10_isOne_21 : decode cX10_isOne 21 = .ok (.iconst 0, 1) := by decide +kernel
theorem dX10_isOne_22 : decode cX10_isOne 22 = .ok (.istore 4, 2) := by decide +kernel
theorem dX10_isOne_24 : decode cX10_isOne 24 = .ok (.iload 4, 2) := by decide +kernel
theorem dX10_isOne_26 : decode cX10_isOne 26 = .ok (.aload_n 0, 1) := by decide +kernel
theorem dX10_isOne_27 : decode cX10_isOne 27 = .ok (.getfield 270, 3) := by decide +kernel
theorem dX10_isOne_30 : decode cX10_isOne 30 = .ok (.if_icmp .ge 39, 3) := by decide +kernel
theorem dX10_isOne_33 : decode cX10_isOne 33 = .ok (.iload_n 1, 1) := by decide +kernel
theorem dX10_isOne_34 : decode cX10_isOne 34 = .ok (.iload_n 2, 1) := by decide +kernel
theorem dX10_isOne_35 : decode cX10_isOne 35 = .ok (.iload 4, 2) := by decide +kernel
theorem dX10_isOne_37 : decode cX10_isOne 37 = .ok (.ishr, 1) := by decide +kernel
theorem dX10_isOne_38 : decode cX10_isOne 38 = .ok (.iconst 1, 1) := by decide +kernel
theorem dX10_isOne_39 : decode cX10_isOne 39 = .ok (.iand, 1) := by decide +kernel
theorem dX10_isOne_40 : decode cX10_isOne 40 = .ok (.iconst 1, 1) := by decide +kernel
theorem dX10_isOne_41 : decode cX10_isOne 41 = .ok (.if_icmp .ne 19, 3) := by decide +kernel
theorem dX10_isOne_44 : decode cX10_isOne 44 = .ok (.iconst 1, 1) := by decide +kernel
theorem dX10_isOne_45 : decode cX10_isOne 45 = .ok (.aload_n 0, 1) := by decide +kernel
theorem dX10_isOne_46 : decode cX10_isOne 46 = .ok (.getfield 70, 3) := by decide +kernel
theorem dX10_isOne_49 : decode cX10_isOne 49 = .ok (.iconst 4, 1) := by decide +kernel
theorem dX10_isOne_50 : decode cX10_isOne 50 = .ok (.iload_n 3, 1) := by decide +kernel
theorem dX10_isOne_51 : decode cX10_isOne 51 = .ok (.imul, 1) := by decide +kernel
theorem dX10_isOne_52 : decode cX10_isOne 52 = .ok (.iload 4, 2) := by decide +kernel
theorem dX10_isOne_54 : decode cX10_isOne 54 = .ok (.iadd, 1) := by decide +kernel
theorem dX10_isOne_55 : decode cX10_isOne 55 = .ok (.iaload, 1) := by decide +kernel
theorem dX10_isOne_56 : decode cX10_isOne 56 = .ok (.ishl, 1) := by decide +kernel
theorem dX10_isOne_57 : decode cX10_isOne 57 = .ok (.goto 4, 3) := by decide +kernel
theorem dX10_isOne_60 : decode cX10_isOne 60 = .ok (.iconst 0, 1) := by decide +kernel
theorem dX10_isOne_61 : decode cX10_isOne 61 = .ok (.ior, 1) := by decide +kernel
theorem dX10_isOne_62 : decode cX10_isOne 62 = .ok (.istore_n 1, 1) := by decide +kernel
theorem dX10_isOne_63 : decode cX10_isOne 63 = .ok (.iinc 4 1, 3) := by decide +kernel
theorem dX10_isOne_66 : decode cX10_isOne 66 = .ok (.goto (-42), 3) := by decide +kernel
theorem dX10_isOne_69 : decode cX10_isOne 69 = .ok (.iinc 3 1, 3) := by decide +kernel
theorem dX10_isOne_72 : decode cX10_isOne 72 = .ok (.goto (-59), 3) := by decide +kernel
theorem dX10_isOne_75 : decode cX10_isOne 75 = .ok (.goto (-71), 3) := by decide +kernel
theorem dX10_isOne_78 : decode cX10_isOne 78 = .ok (.iload_n 1, 1) := by decide +kernel
theorem dX10_isOne_79 : decode cX10_isOne 79 = .ok (.iconst 1, 1) := by decide +kernel
theorem dX10_isOne_80 : decode cX10_isOne 80 = .ok (.aload_n 0, 1) := by decide +kernel
theorem dX10_isOne_81 : decode cX10_isOne 81 = .ok (.getfield 270, 3) := by decide +kernel
theorem dX10_isOne_84 : decode cX10_isOne 84 = .ok (.ishl, 1) := by decide +kernel
theorem dX10_isOne_85 : decode cX10_isOne 85 = .ok (.iconst 1, 1) := by decide +kernel
theorem dX10_isOne_86 : decode cX10_isOne 86 = .ok (.isub, 1) := by decide +kernel
theorem dX10_isOne_87 : decode cX10_isOne 87 = .ok (.if_icmp .ne 7, 3) := by decide +kernel
theorem dX10_isOne_90 : decode cX10_isOne 90 = .ok (.iconst 1, 1) := by decide +kernel
theorem dX10_isOne_91 : decode cX10_isOne 91 = .ok (.goto 4, 3) := by decide +kernel
theorem dX10_isOne_94 : decode cX10_isOne 94 = .ok (.iconst 0, 1) := by decide +kernel
theorem dX10_isOne_95 : decode cX10_isOne 95 = .ok (.ireturn, 1) := by decide +kernel
theorem dX10_isFirst_0 : decode cX10_isFirst 0 = .ok (.iconst 0, 1) := by decide +kernel
theorem dX10_isFirst_1 : decode cX10_isFirst 1 = .ok (.istore_n 1, 1) := by decide +kernel
theorem dX10_isFirst_2 : decode cX10_isFirst 2 = .ok (.iload_n 1, 1) := by decide +kernel
theorem dX10_isFirst_3 : decode cX10_isFirst 3 = .ok (.aload_n 0, 1) := by decide +kernel
theorem dX10_isFirst_4 : decode cX10_isFirst 4 = .ok (.getfield 273, 3) := by decide +kernel
theorem dX10_isFirst_7 : decode cX10_isFirst 7 = .ok (.if_icmp .ge 133, 3) := by decide +kernel
theorem dX10_isFirst_10 : decode cX10_isFirst 10 = .ok (.iconst 0, 1) := by decide +kernel
theorem dX10_isFirst_11 : decode cX10_isFirst 11 = .ok (.istore_n 2, 1) := by decide +kernel
theorem dX10_isFirst_12 : decode cX10_isFirst 12 = .ok (.iload_n 2, 1) := by decide +kernel
theorem dX10_isFirst_13 : decode cX10_isFirst 13 = .ok (.aload_n 0, 1) := by decide +kernel
theorem dX10_isFirst_14 : decode cX10_isFirst 14 = .ok (.getfield 270, 3) := by decide +kernel
theorem dX10_isFirst_17 : decode cX10_isFirst 17 = .ok (.if_icmp .ge 25, 3) := by decide +kernel
theorem dX10_isFirst_20 : decode cX10_isFirst 20 = .ok (.aload_n 0, 1) := by decide +kernel
theorem dX10_isFirst_21 : decode cX10_isFirst 21 = .ok (.getfield 79, 3) := by decide +kernel
theorem dX10_isFirst_24 : decode cX10_isFirst 24 = .ok (.aload_n 0, 1) := by decide +kernel
theorem dX10_isFirst_25 : decode cX10_isFirst 25 = .ok (.getfield 76, 3) := by decide +kernel
theorem dX10_isFirst_28 : decode cX10_isFirst 28 = .ok (.iconst 4, 1) := by decide +kernel
theorem dX10_isFirst_29 : decode cX10_isFirst 29 = .ok (.iload_n 1, 1) := by decide +kernel
theorem dX10_isFirst_30 : decode cX10_isFirst 30 = .ok (.imul, 1) := by decide +kernel
theorem dX10_isFirst_31 : decode cX10_isFirst 31 = .ok (.iload_n 2, 1) := by decide +kernel
theorem dX10_isFirst_32 : decode cX10_isFirst 32 = .ok (.iadd, 1) := by decide +kernel
theorem dX10_isFirst_33 : decode cX10_isFirst 33 = .ok (.iaload, 1) := by decide +kernel
theorem dX10_isFirst_34 : decode cX10_isFirst 34 = .ok (.iload_n 2, 1) := by decide +kernel
theorem dX10_isFirst_35 : decode cX10_isFirst 35 = .ok (.iastore, 1) := by decide +kernel
theorem dX10_isFirst_36 : decode cX10_isFirst 36 = .ok (.iinc 2 1, 3) := by decide +kernel
theorem dX10_isFirst_39 : decode cX10_isFirst 39 = .ok (.goto (-27), 3) := by decide +kernel
theorem dX10_isFirst_42 : decode cX10_isFirst 42 = .ok (.iconst 0, 1) := by decide +kernel
theorem dX10_isFirst_43 : decode cX10_isFirst 43 = .ok (.istore_n 2, 1) := by decide +kernel
theorem dX10_isFirst_44 : decode cX10_isFirst 44 = .ok (.iconst 0, 1) := by decide +kernel
theorem dX10_isFirst_45 : decode cX10_isFirst 45 = .ok (.istore_n 3, 1) := by decide +kernel
theorem dX10_isFirst_46 : decode cX10_isFirst 46 = .ok (.iload_n 3, 1) := by decide +kernel
theorem dX10_isFirst_47 : decode cX10_isFirst 47 = .ok (.aload_n 0, 1) := by decide +kernel
theorem dX10_isFirst_48 : decode cX10_isFirst 48 = .ok (.getfield 279, 3) := by decide +kernel
theorem dX10_isFirst_51 : decode cX10_isFirst 51 = .ok (.if_icmp .ge 77, 3) := by decide +kernel
theorem dX10_isFirst_54 : decode cX10_isFirst 54 = .ok (.iload_n 2, 1) := by decide +kernel
theorem dX10_isFirst_55 : decode cX10_isFirst 55 = .ok (.ifCond .ne 73, 3) := by decide +kernel
theorem dX10_isFirst_58 : decode cX10_isFirst 58 = .ok (.iconst 0, 1) := by decide +kernel
theorem dX10_isFirst_59 : decode cX10_isFirst 59 = .ok (.istore 4, 2) := by decide +kernel
theorem dX10_isFirst_61 : decode cX10_isFirst 61 = .ok (.iload 4, 2) := by decide +kernel
theorem dX10_isFirst_63 : decode cX10_isFirst 63 = .ok (.aload_n 0, 1) := by decide +kernel
theorem dX10_isFirst_64 : decode cX10_isFirst 64 = .ok (.getfield 270, 3) := by decide +kernel
theorem dX10_isFirst_67 : decode cX10_isFirst 67 = .ok (.if_icmp .ge 55, 3) := by decide +kernel
theorem dX10_isFirst_70 : decode cX10_isFirst 70 = .ok (.iload_n 2, 1) := by decide +kernel
theorem dX10_isFirst_71 : decode cX10_isFirst 71 = .ok (.ifCond .ne 51, 3) := by decide +kernel
theorem dX10_isFirst_74 : decode cX10_isFirst 74 = .ok (.aload_n 0, 1) := by decide +kernel
theorem dX10_isFirst_75 : decode cX10_isFirst 75 = .ok (.getfield 76, 3) := by decide +kernel
theorem dX10_isFirst_78 : decode cX10_isFirst 78 = .ok (.iconst 4, 1) := by decide +kernel
theorem dX10_isFirst_79 : decode cX10_isFirst 79 = .ok (.iload_n 1, 1) := by decide +kernel
theorem dX10_isFirst_80 : decode cX10_isFirst 80 = .ok (.imul, 1) := by decide +kernel
theorem dX10_isFirst_81 : decode cX10_isFirst 81 = .ok (.aload_n 0, 1) := by decide +kernel
theorem dX10_isFirst_82 : decode cX10_isFirst 82 = .ok (.getfield 70, 3) := by decide +kernel
theorem dX10_isFirst_85 : decode cX10_isFirst 85 = .ok (.iconst 4, 1) := by decide +kernel
theorem dX10_isFirst_86 : decode cX10_isFirst 86 = .ok (.iload_n 3, 1) := by decide +kernel
theorem dX10_isFirst_87 : decode cX10_isFirst 87 = .ok (.imul, 1) := by decide +kernel
theorem dX10_isFirst_88 : decode cX10_isFirst 88 = .ok (.aload_n 0, 1) := by decide +kernel
theorem dX10_isFirst_89 : decode cX10_isFirst 89 = .ok (.getfield 79, 3) := by decide +kernel
theorem dX10_isFirst_92 : decode cX10_isFirst 92 = .ok (.iload 4, 2) := by decide +kernel
theorem dX10_isFirst_94 : decode cX10_isFirst 94 = .ok (.iaload, 1) := by decide +kernel
theorem dX10_isFirst_95 : decode cX10_isFirst 95 = .ok (.iadd, 1) := by decide +kernel
theorem dX10_isFirst_96 : decode cX10_isFirst 96 = .ok (.iaload, 1) := by decide +kernel
theorem dX10_isFirst_97 : decode cX10_isFirst 97 = .ok (.iadd, 1) := by decide +kernel
theorem dX10_isFirst_98 : decode cX10_isFirst 98 = .ok (.iaload, 1) := by decide +kernel
theorem dX10_isFirst_99 : decode cX10_isFirst 99 = .ok (.istore 5, 2) := by decide +kernel
theorem dX10_isFirst_101 : decode cX10_isFirst 101 = .ok (.aload_n 0, 1) := by decide +kernel
theorem dX10_isFirst_102 : decode cX10_isFirst 102 = .ok (.getfield 70, 3) := by decide +kernel
theorem dX10_isFirst_105 : decode cX10_isFirst 105 = .ok (.iconst 4, 1) := by decide +kernel
theorem dX10_isFirst_106 : decode cX10_isFirst 106 = .ok (.iload_n 3, 1) := by decide +kernel
theorem dX10_isFirst_107 : decode cX10_isFirst 107 = .ok (.imul, 1) := by decide +kernel
theorem dX10_isFirst_108 : decode cX10_isFirst 108 = .ok (.iload 4, 2) := by decide +kernel
theorem dX10_isFirst_110 : decode cX10_isFirst 110 = .ok (.iadd, 1) := by decide +kernel
theorem dX10_isFirst_111 : decode cX10_isFirst 111 = .ok (.iaload, 1) := by decide +kernel
theorem dX10_isFirst_112 : decode cX10_isFirst 112 = .ok (.iload 5, 2) := by decide +kernel
theorem dX10_isFirst_114 : decode cX10_isFirst 114 = .ok (.isub, 1) := by decide +kernel
theorem dX10_isFirst_115 : decode cX10_isFirst 115 = .ok (.istore_n 2, 1) := by decide +kernel
theorem dX10_isFirst_116 : decode cX10_isFirst 116 = .ok (.iinc 4 1, 3) := by decide +kernel
theorem dX10_isFirst_119 : decode cX10_isFirst 119 = .ok (.goto (-58), 3) := by decide +kernel
theorem dX10_isFirst_122 : decode cX10_isFirst 122 = .ok (.iinc 3 1, 3) := by decide +kernel
theorem dX10_isFirst_125 : decode cX10_isFirst 125 = .ok (.goto (-79), 3) := by decide +kernel
theorem dX10_isFirst_128 : decode cX10_isFirst 128 = .ok (.iload_n 2, 1) := by decide +kernel
theorem dX10_isFirst_129 : decode cX10_isFirst 129 = .ok (.ifCond .le 5, 3) := by decide +kernel
theorem dX10_isFirst_132 : decode cX10_isFirst 132 = .ok (.iconst 0, 1) := by decide +kernel
theorem dX10_isFirst_133 : decode cX10_isFirst 133 = .ok (.ireturn, 1) := by decide +kernel
theorem dX10_isFirst_134 : decode cX10_isFirst 134 = .ok (.iinc 1 1, 3) := by decide +kernel
theorem dX10_isFirst_137 : decode cX10_isFirst 137 = .ok (.goto (-135), 3) := by decide +kernel
theorem dX10_isFirst_140 : decode cX10_isFirst 140 = .ok (.iconst 1, 1) := by decide +kernel
theorem dX10_isFirst_141 : decode cX10_isFirst 141 = .ok (.ireturn, 1) := by decide +kernel
theorem dX10_goTables_0 : decode cX10_goTables 0 = .ok (.iload_n 2, 1) := by decide +kernel
theorem dX10_goTables_1 : decode cX10_goTables 1 = .ok (.aload_n 0, 1) := by decide +kernel
theorem dX10_goTables_2 : decode cX10_goTables 2 = .ok (.getfield 279, 3) := by decide +kernel
theorem dX10_goTables_5 : decode cX10_goTables 5 = .ok (.if_icmp .ge 40, 3) := by decide +kernel
theorem dX10_goTables_8 : decode cX10_goTables 8 = .ok (.iconst 0, 1) := by decide +kernel
theorem dX10_goTables_9 : decode cX10_goTables 9 = .ok (.istore_n 3, 1) := by decide +kernel
theorem dX10_goTables_10 : decode cX10_goTables 10 = .ok (.iload_n 3, 1) := by decide +kernel
theorem dX10_goTables_11 : decode cX10_goTables 11 = .ok (.aload_n 0, 1) := by decide +kernel
theorem dX10_goTables_12 : decode cX10_goTables 12 = .ok (.getfield 273, 3) := by decide +kernel
theorem dX10_goTables_15 : decode cX10_goTables 15 = .ok (.if_icmp .ge 28, 3) := by decide +kernel
theorem dX10_goTables_18 : decode cX10_goTables 18 = .ok (.aload_n 0, 1) := by decide +kernel
theorem dX10_goTables_19 : decode cX10_goTables 19 = .ok (.iload_n 2, 1) := by decide +kernel
theorem dX10_goTables_20 : decode cX10_goTables 20 = .ok (.iload_n 3, 1) := by decide +kernel
theorem dX10_goTables_21 : decode cX10_goTables 21 = .ok (.invokevirtual 288, 3) := by decide +kernel
theorem dX10_goTables_24 : decode cX10_goTables 24 = .ok (.aload_n 0, 1) := by decide +kernel
theorem dX10_goTables_25 : decode cX10_goTables 25 = .ok (.iload_n 1, 1) := by decide +kernel
theorem dX10_goTables_26 : decode cX10_goTables 26 = .ok (.iload_n 2, 1) := by decide +kernel
theorem dX10_goTables_27 : decode cX10_goTables 27 = .ok (.iconst 1, 1) := by decide +kernel
theorem dX10_goTables_28 : decode cX10_goTables 28 = .ok (.iadd, 1) := by decide +kernel
theorem dX10_goTables_29 : decode cX10_goTables 29 = .ok (.invokevirtual 291, 3) := by decide +kernel
theorem dX10_goTables_32 : decode cX10_goTables 32 = .ok (.ifCond .eq 5, 3) := by decide +kernel
theorem dX10_goTables_35 : decode cX10_goTables 35 = .ok (.iconst 1, 1) := by decide +kernel
theorem dX10_goTables_36 : decode cX10_goTables 36 = .ok (.ireturn, 1) := by decide +kernel
theorem dX10_goTables_37 : decode cX10_goTables 37 = .ok (.iinc 3 1, 3) := by decide +kernel
theorem dX10_goTables_40 : decode cX10_goTables 40 = .ok (.goto (-30), 3) := by decide +kernel
theorem dX10_goTables_43 : decode cX10_goTables 43 = .ok (.iconst 0, 1) := by decide +kernel
theorem dX10_goTables_44 : decode cX10_goTables 44 = .ok (.ireturn, 1) := by decide +kernel
theorem dX10_goTables_45 : decode cX10_goTables 45 = .ok (.aload_n 0, 1) := by decide +kernel
theorem dX10_goTables_46 : decode cX10_goTables 46 = .ok (.iload_n 1, 1) := by decide +kernel
theorem dX10_goTables_47 : decode cX10_goTables 47 = .ok (.invokevirtual 294, 3) := by decide +kernel
theorem dX10_goTables_50 : decode cX10_goTables 50 = .ok (.ifCond .ne 5, 3) := by decide +kernel
theorem dX10_goTables_53 : decode cX10_goTables 53 = .ok (.iconst 0, 1) := by decide +kernel
theorem dX10_goTables_54 : decode cX10_goTables 54 = .ok (.ireturn, 1) := by decide +kernel
theorem dX10_goTables_55 : decode cX10_goTables 55 = .ok (.aload_n 0, 1) := by decide +kernel
theorem dX10_goTables_56 : decode cX10_goTables 56 = .ok (.getfield 297, 3) := by decide +kernel
theorem dX10_goTables_59 : decode cX10_goTables 59 = .ok (.iconst 2, 1) := by decide +kernel
theorem dX10_goTables_60 : decode cX10_goTables 60 = .ok (.if_icmp .ne 12, 3) := by decide +kernel
theorem dX10_goTables_63 : decode cX10_goTables 63 = .ok (.aload_n 0, 1) := by decide +kernel
theorem dX10_goTables_64 : decode cX10_goTables 64 = .ok (.aload_n 0, 1) := by decide +kernel
theorem dX10_goTables_65 : decode cX10_goTables 65 = .ok (.getfield 300, 3) := by decide +kernel
theorem dX10_goTables_68 : decode cX10_goTables 68 = .ok (.invokevirtual 303, 3) := by decide +kernel
theorem dX10_goTables_71 : decode cX10_goTables 71 = .ok (.ireturn, 1) := by decide +kernel
theorem dX10_goTables_72 : decode cX10_goTables 72 = .ok (.aload_n 0, 1) := by decide +kernel
theorem dX10_goTables_73 : decode cX10_goTables 73 = .ok (.getfield 297, 3) := by decide +kernel
theorem dX10_goTables_76 : decode cX10_goTables 76 = .ok (.iconst 1, 1) := by decide +kernel
theorem dX10_goTables_77 : decode cX10_goTables 77 = .ok (.if_icmp .ne 19, 3) := by decide +kernel
theorem dX10_goTables_80 : decode cX10_goTables 80 = .ok (.aload_n 0, 1) := by decide +kernel
theorem dX10_goTables_81 : decode cX10_goTables 81 = .ok (.invokevirtual 306, 3) := by decide +kernel
theorem dX10_goTables_84 : decode cX10_goTables 84 = .ok (.ifCond .eq 10, 3) := by decide +kernel
theorem dX10_goTables_87 : decode cX10_goTables 87 = .ok (.aload_n 0, 1) := by decide +kernel
theorem dX10_goTables_88 : decode cX10_goTables 88 = .ok (.invokevirtual 310, 3) := by decide +kernel
theorem dX10_goTables_91 : decode cX10_goTables 91 = .ok (.ifCond .ne 5, 3) := by decide +kernel
theorem dX10_goTables_94 : decode cX10_goTables 94 = .ok (.iconst 0, 1) := by decide +kernel
theorem dX10_goTables_95 : decode cX10_goTables 95 = .ok (.ireturn, 1) := by decide +kernel
theorem dX10_goTables_96 : decode cX10_goTables 96 = .ok (.aload_n 0, 1) := by decide +kernel
theorem dX10_goTables_97 : decode cX10_goTables 97 = .ok (.dup, 1) := by decide +kernel
theorem dX10_goTables_98 : decode cX10_goTables 98 = .ok (.getfield 313, 3) := by decide +kernel
theorem dX10_goTables_101 : decode cX10_goTables 101 = .ok (.iconst 1, 1) := by decide +kernel
theorem dX10_goTables_102 : decode cX10_goTables 102 = .ok (.iadd, 1) := by decide +kernel
theorem dX10_goTables_103 : decode cX10_goTables 103 = .ok (.putfield 313, 3) := by decide +kernel
theorem dX10_goTables_106 : decode cX10_goTables 106 = .ok (.aload_n 0, 1) := by decide +kernel
theorem dX10_goTables_107 : decode cX10_goTables 107 = .ok (.getfield 313, 3) := by decide +kernel
theorem dX10_goTables_110 : decode cX10_goTables 110 = .ok (.aload_n 0, 1) := by decide +kernel
theorem dX10_goTables_111 : decode cX10_goTables 111 = .ok (.getfield 316, 3) := by decide +kernel
theorem dX10_goTables_114 : decode cX10_goTables 114 = .ok (.if_icmp .ne 7, 3) := by decide +kernel
theorem dX10_goTables_117 : decode cX10_goTables 117 = .ok (.iconst 1, 1) := by decide +kernel
theorem dX10_goTables_118 : decode cX10_goTables 118 = .ok (.goto 4, 3) := by decide +kernel
theorem dX10_goTables_121 : decode cX10_goTables 121 = .ok (.iconst 0, 1) := by decide +kernel
theorem dX10_goTables_122 : decode cX10_goTables 122 = .ok (.ireturn, 1) := by decide +kernel
theorem dX10_movesSome_0 : decode cX10_movesSome 0 = .ok (.iconst 0, 1) := by decide +kernel
theorem dX10_movesSome_1 : decode cX10_movesSome 1 = .ok (.istore_n 2, 1) := by decide +kernel
theorem dX10_movesSome_2 : decode cX10_movesSome 2 = .ok (.iconst 0, 1) := by decide +kernel
theorem dX10_movesSome_3 : decode cX10_movesSome 3 = .ok (.istore_n 3, 1) := by decide +kernel
theorem dX10_movesSome_4 : decode cX10_movesSome 4 = .ok (.iload_n 3, 1) := by decide +kernel
theorem dX10_movesSome_5 : decode cX10_movesSome 5 = .ok (.aload_n 0, 1) := by decide +kernel
theorem dX10_movesSome_6 : decode cX10_movesSome 6 = .ok (.getfield 270, 3) := by decide +kernel
theorem dX10_movesSome_9 : decode cX10_movesSome 9 = .ok (.if_icmp .ge 68, 3) := by decide +kernel
theorem dX10_movesSome_12 : decode cX10_movesSome 12 = .ok (.iload_n 3, 1) := by decide +kernel
theorem dX10_movesSome_13 : decode cX10_movesSome 13 = .ok (.istore 4, 2) := by decide +kernel
theorem dX10_movesSome_15 : decode cX10_movesSome 15 = .ok (.iconst 0, 1) := by decide +kernel
theorem dX10_movesSome_16 : decode cX10_movesSome 16 = .ok (.istore 5, 2) := by decide +kernel
theorem dX10_movesSome_18 : decode cX10_movesSome 18 = .ok (.iload 5, 2) := by decide +kernel
theorem dX10_movesSome_20 : decode cX10_movesSome 20 = .ok (.aload_n 0, 1) := by decide +kernel
theorem dX10_movesSome_21 : decode cX10_movesSome 21 = .ok (.getfield 103, 3) := by decide +kernel
theorem dX10_movesSome_24 : decode cX10_movesSome 24 = .ok (.iload_n 1, 1) := by decide +kernel
theorem dX10_movesSome_25 : decode cX10_movesSome 25 = .ok (.iaload, 1) := by decide +kernel
theorem dX10_movesSome_26 : decode cX10_movesSome 26 = .ok (.if_icmp .ge 29, 3) := by decide +kernel
theorem dX10_movesSome_29 : decode cX10_movesSome 29 = .ok (.aload_n 0, 1) := by decide +kernel
theorem dX10_movesSome_30 : decode cX10_movesSome 30 = .ok (.aload_n 0, 1) := by decide +kernel
theorem dX10_movesSome_31 : decode cX10_movesSome 31 = .ok (.getfield 112, 3) := by decide +kernel
theorem dX10_movesSome_34 : decode cX10_movesSome 34 = .ok (.bipush 16, 2) := by decide +kernel
theorem dX10_movesSome_36 : decode cX10_movesSome 36 = .ok (.iload_n 1, 1) := by decide +kernel
theorem dX10_movesSome_37 : decode cX10_movesSome 37 = .ok (.imul, 1) := by decide +kernel
theorem dX10_movesSome_38 : decode cX10_movesSome 38 = .ok (.iload 5, 2) := by decide +kernel
theorem dX10_movesSome_40 : decode cX10_movesSome 40 = .ok (.iadd, 1) := by decide +kernel
theorem dX10_movesSome_41 : decode cX10_movesSome 41 = .ok (.iaload, 1) := by decide +kernel
theorem dX10_movesSome_42 : decode cX10_movesSome 42 = .ok (.iload 4, 2) := by decide +kernel
theorem dX10_movesSome_44 : decode cX10_movesSome 44 = .ok (.invokevirtual 285, 3) := by decide +kernel
theorem dX10_movesSome_47 : decode cX10_movesSome 47 = .ok (.istore 4, 2) := by decide +kernel
theorem dX10_movesSome_49 : decode cX10_movesSome 49 = .ok (.iinc 5 1, 3) := by decide +kernel
theorem dX10_movesSome_52 : decode cX10_movesSome 52 = .ok (.goto (-34), 3) := by decide +kernel
theorem dX10_movesSome_55 : decode cX10_movesSome 55 = .ok (.iload_n 2, 1) := by decide +kernel
theorem dX10_movesSome_56 : decode cX10_movesSome 56 = .ok (.ifCond .ne 9, 3) := by decide +kernel
theorem dX10_movesSome_59 : decode cX10_movesSome 59 = .ok (.iload 4, 2) := by decide +kernel
theorem dX10_movesSome_61 : decode cX10_movesSome 61 = .ok (.iload_n 3, 1) := by decide +kernel
theorem dX10_movesSome_62 : decode cX10_movesSome 62 = .ok (.if_icmp .eq 7, 3) := by decide +kernel
theorem dX10_movesSome_65 : decode cX10_movesSome 65 = .ok (.iconst 1, 1) := by decide +kernel
theorem dX10_movesSome_66 : decode cX10_movesSome 66 = .ok (.goto 4, 3) := by decide +kernel
theorem dX10_movesSome_69 : decode cX10_movesSome 69 = .ok (.iconst 0, 1) := by decide +kernel
theorem dX10_movesSome_70 : decode cX10_movesSome 70 = .ok (.istore_n 2, 1) := by decide +kernel
theorem dX10_movesSome_71 : decode cX10_movesSome 71 = .ok (.iinc 3 1, 3) := by decide +kernel
theorem dX10_movesSome_74 : decode cX10_movesSome 74 = .ok (.goto (-70), 3) := by decide +kernel
theorem dX10_movesSome_77 : decode cX10_movesSome 77 = .ok (.iload_n 2, 1) := by decide +kernel
theorem dX10_movesSome_78 : decode cX10_movesSome 78 = .ok (.ireturn, 1) := by decide +kernel
theorem dX10_seek_0 : decode cX10_seek 0 = .ok (.aload_n 0, 1) := by decide +kernel
theorem dX10_seek_1 : decode cX10_seek 1 = .ok (.iload_n 2, 1) := by decide +kernel
theorem dX10_seek_2 : decode cX10_seek 2 = .ok (.putfield 297, 3) := by decide +kernel
theorem dX10_seek_5 : decode cX10_seek 5 = .ok (.aload_n 0, 1) := by decide +kernel
theorem dX10_seek_6 : decode cX10_seek 6 = .ok (.iload_n 3, 1) := by decide +kernel
theorem dX10_seek_7 : decode cX10_seek 7 = .ok (.putfield 316, 3) := by decide +kernel
theorem dX10_seek_10 : decode cX10_seek 10 = .ok (.aload_n 0, 1) := by decide +kernel
theorem dX10_seek_11 : decode cX10_seek 11 = .ok (.iconst 0, 1) := by decide +kernel
theorem dX10_seek_12 : decode cX10_seek 12 = .ok (.putfield 313, 3) := by decide +kernel
theorem dX10_seek_15 : decode cX10_seek 15 = .ok (.aload_n 0, 1) := by decide +kernel
theorem dX10_seek_16 : decode cX10_seek 16 = .ok (.iload_n 1, 1) := by decide +kernel
theorem dX10_seek_17 : decode cX10_seek 17 = .ok (.iconst 0, 1) := by decide +kernel
theorem dX10_seek_18 : decode cX10_seek 18 = .ok (.invokevirtual 291, 3) := by decide +kernel
theorem dX10_seek_21 : decode cX10_seek 21 = .ok (.ireturn, 1) := by decide +kernel
theorem dX10_areStoreys_0 : decode cX10_areStoreys 0 = .ok (.iload_n 0, 1) := by decide +kernel
theorem dX10_areStoreys_1 : decode cX10_areStoreys 1 = .ok (.iconst 2, 1) := by decide +kernel
theorem dX10_areStoreys_2 : decode cX10_areStoreys 2 = .ok (.iconst 4, 1) := by decide +kernel
theorem dX10_areStoreys_3 : decode cX10_areStoreys 3 = .ok (.invokestatic 133, 3) := by decide +kernel
theorem dX10_areStoreys_6 : decode cX10_areStoreys 6 = .ok (.ireturn, 1) := by decide +kernel
theorem dX10_tables_0 : decode cX10_tables 0 = .ok (.iload_n 1, 1) := by decide +kernel
theorem dX10_tables_1 : decode cX10_tables 1 = .ok (.invokestatic 137, 3) := by decide +kernel
theorem dX10_tables_4 : decode cX10_tables 4 = .ok (.ifCond .eq 10, 3) := by decide +kernel
theorem dX10_tables_7 : decode cX10_tables 7 = .ok (.iload_n 2, 1) := by decide +kernel
theorem dX10_tables_8 : decode cX10_tables 8 = .ok (.invokestatic 319, 3) := by decide +kernel
theorem dX10_tables_11 : decode cX10_tables 11 = .ok (.ifCond .ne 5, 3) := by decide +kernel
theorem dX10_tables_14 : decode cX10_tables 14 = .ok (.iconst (-1), 1) := by decide +kernel
theorem dX10_tables_15 : decode cX10_tables 15 = .ok (.ireturn, 1) := by decide +kernel
theorem dX10_tables_16 : decode cX10_tables 16 = .ok (.aload_n 0, 1) := by decide +kernel
theorem dX10_tables_17 : decode cX10_tables 17 = .ok (.iload_n 1, 1) := by decide +kernel
theorem dX10_tables_18 : decode cX10_tables 18 = .ok (.iload_n 2, 1) := by decide +kernel
theorem dX10_tables_19 : decode cX10_tables 19 = .ok (.invokevirtual 322, 3) := by decide +kernel
theorem dX10_tables_22 : decode cX10_tables 22 = .ok (.ifCond .eq 6, 3) := by decide +kernel
theorem dX10_tables_25 : decode cX10_tables 25 = .ok (.bipush (-2), 2) := by decide +kernel
theorem dX10_tables_27 : decode cX10_tables 27 = .ok (.ireturn, 1) := by decide +kernel
theorem dX10_tables_28 : decode cX10_tables 28 = .ok (.aload_n 0, 1) := by decide +kernel
theorem dX10_tables_29 : decode cX10_tables 29 = .ok (.iload_n 1, 1) := by decide +kernel
theorem dX10_tables_30 : decode cX10_tables 30 = .ok (.iconst 0, 1) := by decide +kernel
theorem dX10_tables_31 : decode cX10_tables 31 = .ok (.iconst (-1), 1) := by decide +kernel
theorem dX10_tables_32 : decode cX10_tables 32 = .ok (.invokevirtual 325, 3) := by decide +kernel
theorem dX10_tables_35 : decode cX10_tables 35 = .ok (.pop, 1) := by decide +kernel
theorem dX10_tables_36 : decode cX10_tables 36 = .ok (.aload_n 0, 1) := by decide +kernel
theorem dX10_tables_37 : decode cX10_tables 37 = .ok (.getfield 313, 3) := by decide +kernel
theorem dX10_tables_40 : decode cX10_tables 40 = .ok (.ireturn, 1) := by decide +kernel
theorem dX10_layers_0 : decode cX10_layers 0 = .ok (.iload_n 1, 1) := by decide +kernel
theorem dX10_layers_1 : decode cX10_layers 1 = .ok (.invokestatic 137, 3) := by decide +kernel
theorem dX10_layers_4 : decode cX10_layers 4 = .ok (.ifCond .eq 10, 3) := by decide +kernel
theorem dX10_layers_7 : decode cX10_layers 7 = .ok (.iload_n 2, 1) := by decide +kernel
theorem dX10_layers_8 : decode cX10_layers 8 = .ok (.invokestatic 319, 3) := by decide +kernel
theorem dX10_layers_11 : decode cX10_layers 11 = .ok (.ifCond .ne 5, 3) := by decide +kernel
theorem dX10_layers_14 : decode cX10_layers 14 = .ok (.iconst (-1), 1) := by decide +kernel
theorem dX10_layers_15 : decode cX10_layers 15 = .ok (.ireturn, 1) := by decide +kernel
theorem dX10_layers_16 : decode cX10_layers 16 = .ok (.aload_n 0, 1) := by decide +kernel
theorem dX10_layers_17 : decode cX10_layers 17 = .ok (.iload_n 1, 1) := by decide +kernel
theorem dX10_layers_18 : decode cX10_layers 18 = .ok (.iload_n 2, 1) := by decide +kernel
theorem dX10_layers_19 : decode cX10_layers 19 = .ok (.invokevirtual 322, 3) := by decide +kernel
theorem dX10_layers_22 : decode cX10_layers 22 = .ok (.ifCond .eq 6, 3) := by decide +kernel
theorem dX10_layers_25 : decode cX10_layers 25 = .ok (.bipush (-2), 2) := by decide +kernel
theorem dX10_layers_27 : decode cX10_layers 27 = .ok (.ireturn, 1) := by decide +kernel
theorem dX10_layers_28 : decode cX10_layers 28 = .ok (.aload_n 0, 1) := by decide +kernel
theorem dX10_layers_29 : decode cX10_layers 29 = .ok (.iload_n 1, 1) := by decide +kernel
theorem dX10_layers_30 : decode cX10_layers 30 = .ok (.iconst 1, 1) := by decide +kernel
theorem dX10_layers_31 : decode cX10_layers 31 = .ok (.iconst (-1), 1) := by decide +kernel
theorem dX10_layers_32 : decode cX10_layers 32 = .ok (.invokevirtual 325, 3) := by decide +kernel
theorem dX10_layers_35 : decode cX10_layers 35 = .ok (.pop, 1) := by decide +kernel
theorem dX10_layers_36 : decode cX10_layers 36 = .ok (.aload_n 0, 1) := by decide +kernel
theorem dX10_layers_37 : decode cX10_layers 37 = .ok (.getfield 313, 3) := by decide +kernel
theorem dX10_layers_40 : decode cX10_layers 40 = .ok (.ireturn, 1) := by decide +kernel
theorem dX10_lifted_0 : decode cX10_lifted 0 = .ok (.iload_n 1, 1) := by decide +kernel
theorem dX10_lifted_1 : decode cX10_lifted 1 = .ok (.ifCond .le 9, 3) := by decide +kernel
theorem dX10_lifted_4 : decode cX10_lifted 4 = .ok (.iload_n 1, 1) := by decide +kernel
theorem dX10_lifted_5 : decode cX10_lifted 5 = .ok (.iconst 1, 1) := by decide +kernel
theorem dX10_lifted_6 : decode cX10_lifted 6 = .ok (.isub, 1) := by decide +kernel
theorem dX10_lifted_7 : decode cX10_lifted 7 = .ok (.goto 7, 3) := by decide +kernel
theorem dX10_lifted_10 : decode cX10_lifted 10 = .ok (.iload_n 1, 1) := by decide +kernel
theorem dX10_lifted_11 : decode cX10_lifted 11 = .ok (.ineg, 1) := by decide +kernel
theorem dX10_lifted_12 : decode cX10_lifted 12 = .ok (.iconst 1, 1) := by decide +kernel
theorem dX10_lifted_13 : decode cX10_lifted 13 = .ok (.isub, 1) := by decide +kernel
theorem dX10_lifted_14 : decode cX10_lifted 14 = .ok (.istore_n 3, 1) := by decide +kernel
theorem dX10_lifted_15 : decode cX10_lifted 15 = .ok (.aload_n 0, 1) := by decide +kernel
theorem dX10_lifted_16 : decode cX10_lifted 16 = .ok (.getfield 270, 3) := by decide +kernel
theorem dX10_lifted_19 : decode cX10_lifted 19 = .ok (.aload_n 0, 1) := by decide +kernel
theorem dX10_lifted_20 : decode cX10_lifted 20 = .ok (.getfield 97, 3) := by decide +kernel
theorem dX10_lifted_23 : decode cX10_lifted 23 = .ok (.iload_n 3, 1) := by decide +kernel
theorem dX10_lifted_24 : decode cX10_lifted 24 = .ok (.iaload, 1) := by decide +kernel
theorem dX10_lifted_25 : decode cX10_lifted 25 = .ok (.imul, 1) := by decide +kernel
theorem dX10_lifted_26 : decode cX10_lifted 26 = .ok (.istore 4, 2) := by decide +kernel
theorem dX10_lifted_28 : decode cX10_lifted 28 = .ok (.iload_n 1, 1) := by decide +kernel
theorem dX10_lifted_29 : decode cX10_lifted 29 = .ok (.ifCond .le 12, 3) := by decide +kernel
theorem dX10_lifted_32 : decode cX10_lifted 32 = .ok (.iload 4, 2) := by decide +kernel
theorem dX10_lifted_34 : decode cX10_lifted 34 = .ok (.iload_n 2, 1) := by decide +kernel
theorem dX10_lifted_35 : decode cX10_lifted 35 = .ok (.iadd, 1) := by decide +kernel
theorem dX10_lifted_36 : decode cX10_lifted 36 = .ok (.iconst 1, 1) := by decide +kernel
theorem dX10_lifted_37 : decode cX10_lifted 37 = .ok (.iadd, 1) := by decide +kernel
theorem dX10_lifted_38 : decode cX10_lifted 38 = .ok (.goto 15, 3) := by decide +kernel
theorem dX10_lifted_41 : decode cX10_lifted 41 = .ok (.iload 4, 2) := by decide +kernel
theorem dX10_lifted_43 : decode cX10_lifted 43 = .ok (.aload_n 0, 1) := by decide +kernel
theorem dX10_lifted_44 : decode cX10_lifted 44 = .ok (.iload_n 1, 1) := by decide +kernel
theorem dX10_lifted_45 : decode cX10_lifted 45 = .ok (.iload_n 2, 1) := by decide +kernel
theorem dX10_lifted_46 : decode cX10_lifted 46 = .ok (.invokevirtual 285, 3) := by decide +kernel
theorem dX10_lifted_49 : decode cX10_lifted 49 = .ok (.iadd, 1) := by decide +kernel
theorem dX10_lifted_50 : decode cX10_lifted 50 = .ok (.ineg, 1) := by decide +kernel
theorem dX10_lifted_51 : decode cX10_lifted 51 = .ok (.iconst 1, 1) := by decide +kernel
theorem dX10_lifted_52 : decode cX10_lifted 52 = .ok (.isub, 1) := by decide +kernel
theorem dX10_lifted_53 : decode cX10_lifted 53 = .ok (.ireturn, 1) := by decide +kernel
theorem dX10_layLayer_0 : decode cX10_layLayer 0 = .ok (.aload_n 0, 1) := by decide +kernel
theorem dX10_layLayer_1 : decode cX10_layLayer 1 = .ok (.iconst 2, 1) := by decide +kernel
theorem dX10_layLayer_2 : decode cX10_layLayer 2 = .ok (.iconst 0, 1) := by decide +kernel
theorem dX10_layLayer_3 : decode cX10_layLayer 3 = .ok (.invokevirtual 149, 3) := by decide +kernel
theorem dX10_layLayer_6 : decode cX10_layLayer 6 = .ok (.iconst 0, 1) := by decide +kernel
theorem dX10_layLayer_7 : decode cX10_layLayer 7 = .ok (.istore_n 2, 1) := by decide +kernel
theorem dX10_layLayer_8 : decode cX10_layLayer 8 = .ok (.iload_n 2, 1) := by decide +kernel
theorem dX10_layLayer_9 : decode cX10_layLayer 9 = .ok (.aload_n 0, 1) := by decide +kernel
theorem dX10_layLayer_10 : decode cX10_layLayer 10 = .ok (.getfield 7, 3) := by decide +kernel
theorem dX10_layLayer_13 : decode cX10_layLayer 13 = .ok (.iload_n 1, 1) := by decide +kernel
theorem dX10_layLayer_14 : decode cX10_layLayer 14 = .ok (.iaload, 1) := by decide +kernel
theorem dX10_layLayer_15 : decode cX10_layLayer 15 = .ok (.if_icmp .ge 52, 3) := by decide +kernel
theorem dX10_layLayer_18 : decode cX10_layLayer 18 = .ok (.aload_n 0, 1) := by decide +kernel
theorem dX10_layLayer_19 : decode cX10_layLayer 19 = .ok (.getfield 94, 3) := by decide +kernel
theorem dX10_layLayer_22 : decode cX10_layLayer 22 = .ok (.iload_n 2, 1) := by decide +kernel
theorem dX10_layLayer_23 : decode cX10_layLayer 23 = .ok (.aload_n 0, 1) := by decide +kernel
theorem dX10_layLayer_24 : decode cX10_layLayer 24 = .ok (.getfield 7, 3) := by decide +kernel
theorem dX10_layLayer_27 : decode cX10_layLayer 27 = .ok (.iconst 2, 1) := by decide +kernel
theorem dX10_layLayer_28 : decode cX10_layLayer 28 = .ok (.iaload, 1) := by decide +kernel
theorem dX10_layLayer_29 : decode cX10_layLayer 29 = .ok (.aload_n 0, 1) := by decide +kernel
theorem dX10_layLayer_30 : decode cX10_layLayer 30 = .ok (.getfield 270, 3) := by decide +kernel
theorem dX10_layLayer_33 : decode cX10_layLayer 33 = .ok (.idiv, 1) := by decide +kernel
theorem dX10_layLayer_34 : decode cX10_layLayer 34 = .ok (.iastore, 1) := by decide +kernel
theorem dX10_layLayer_35 : decode cX10_layLayer 35 = .ok (.aload_n 0, 1) := by decide +kernel
theorem dX10_layLayer_36 : decode cX10_layLayer 36 = .ok (.getfield 7, 3) := by decide +kernel
theorem dX10_layLayer_39 : decode cX10_layLayer 39 = .ok (.iconst 2, 1) := by decide +kernel
theorem dX10_layLayer_40 : decode cX10_layLayer 40 = .ok (.dup2, 1) := by decide +kernel
theorem dX10_layLayer_41 : decode cX10_layLayer 41 = .ok (.iaload, 1) := by decide +kernel
theorem dX10_layLayer_42 : decode cX10_layLayer 42 = .ok (.aload_n 0, 1) := by decide +kernel
theorem dX10_layLayer_43 : decode cX10_layLayer 43 = .ok (.getfield 46, 3) := by decide +kernel
theorem dX10_layLayer_46 : decode cX10_layLayer 46 = .ok (.iload_n 2, 1) := by decide +kernel
theorem dX10_layLayer_47 : decode cX10_layLayer 47 = .ok (.baload, 1) := by decide +kernel
theorem dX10_layLayer_48 : decode cX10_layLayer 48 = .ok (.ifCond .eq 10, 3) := by decide +kernel
theorem dX10_layLayer_51 : decode cX10_layLayer 51 = .ok (.aload_n 0, 1) := by decide +kernel
theorem dX10_layLayer_52 : decode cX10_layLayer 52 = .ok (.getfield 270, 3) := by decide +kernel
theorem dX10_layLayer_55 : decode cX10_layLayer 55 = .ok (.goto 4, 3) := by decide +kernel
theorem dX10_layLayer_58 : decode cX10_layLayer 58 = .ok (.iconst 0, 1) := by decide +kernel
theorem dX10_layLayer_59 : decode cX10_layLayer 59 = .ok (.iadd, 1) := by decide +kernel
theorem dX10_layLayer_60 : decode cX10_layLayer 60 = .ok (.iastore, 1) := by decide +kernel
theorem dX10_layLayer_61 : decode cX10_layLayer 61 = .ok (.iinc 2 1, 3) := by decide +kernel
theorem dX10_layLayer_64 : decode cX10_layLayer 64 = .ok (.goto (-56), 3) := by decide +kernel
theorem dX10_layLayer_67 : decode cX10_layLayer 67 = .ok (.iconst 0, 1) := by decide +kernel
theorem dX10_layLayer_68 : decode cX10_layLayer 68 = .ok (.istore_n 2, 1) := by decide +kernel
theorem dX10_layLayer_69 : decode cX10_layLayer 69 = .ok (.iload_n 2, 1) := by decide +kernel
theorem dX10_layLayer_70 : decode cX10_layLayer 70 = .ok (.aload_n 0, 1) := by decide +kernel
theorem dX10_layLayer_71 : decode cX10_layLayer 71 = .ok (.getfield 13, 3) := by decide +kernel
theorem dX10_layLayer_74 : decode cX10_layLayer 74 = .ok (.iload_n 1, 1) := by decide +kernel
theorem dX10_layLayer_75 : decode cX10_layLayer 75 = .ok (.iaload, 1) := by decide +kernel
theorem dX10_layLayer_76 : decode cX10_layLayer 76 = .ok (.if_icmp .ge 120, 3) := by decide +kernel
theorem dX10_layLayer_79 : decode cX10_layLayer 79 = .ok (.aload_n 0, 1) := by decide +kernel
theorem dX10_layLayer_80 : decode cX10_layLayer 80 = .ok (.getfield 19, 3) := by decide +kernel
theorem dX10_layLayer_83 : decode cX10_layLayer 83 = .ok (.bipush 48, 2) := by decide +kernel
theorem dX10_layLayer_85 : decode cX10_layLayer 85 = .ok (.iload_n 1, 1) := by decide +kernel
theorem dX10_layLayer_86 : decode cX10_layLayer 86 = .ok (.imul, 1) := by decide +kernel
theorem dX10_layLayer_87 : decode cX10_layLayer 87 = .ok (.iload_n 2, 1) := by decide +kernel
theorem dX10_layLayer_88 : decode cX10_layLayer 88 = .ok (.iadd, 1) := by decide +kernel
theorem dX10_layLayer_89 : decode cX10_layLayer 89 = .ok (.iaload, 1) := by decide +kernel
theorem dX10_layLayer_90 : decode cX10_layLayer 90 = .ok (.istore_n 3, 1) := by decide +kernel
theorem dX10_layLayer_91 : decode cX10_layLayer 91 = .ok (.aload_n 0, 1) := by decide +kernel
theorem dX10_layLayer_92 : decode cX10_layLayer 92 = .ok (.getfield 22, 3) := by decide +kernel
theorem dX10_layLayer_95 : decode cX10_layLayer 95 = .ok (.bipush 48, 2) := by decide +kernel
theorem dX10_layLayer_97 : decode cX10_layLayer 97 = .ok (.iload_n 1, 1) := by decide +kernel
theorem dX10_layLayer_98 : decode cX10_layLayer 98 = .ok (.imul, 1) := by decide +kernel
theorem dX10_layLayer_99 : decode cX10_layLayer 99 = .ok (.iload_n 2, 1) := by decide +kernel
theorem dX10_layLayer_100 : decode cX10_layLayer 100 = .ok (.iadd, 1) := by decide +kernel
theorem dX10_layLayer_101 : decode cX10_layLayer 101 = .ok (.iaload, 1) := by decide +kernel
theorem dX10_layLayer_102 : decode cX10_layLayer 102 = .ok (.istore 4, 2) := by decide +kernel
theorem dX10_layLayer_104 : decode cX10_layLayer 104 = .ok (.aload_n 0, 1) := by decide +kernel
theorem dX10_layLayer_105 : decode cX10_layLayer 105 = .ok (.getfield 97, 3) := by decide +kernel
theorem dX10_layLayer_108 : decode cX10_layLayer 108 = .ok (.iload_n 2, 1) := by decide +kernel
theorem dX10_layLayer_109 : decode cX10_layLayer 109 = .ok (.aload_n 0, 1) := by decide +kernel
theorem dX10_layLayer_110 : decode cX10_layLayer 110 = .ok (.getfield 13, 3) := by decide +kernel
theorem dX10_layLayer_113 : decode cX10_layLayer 113 = .ok (.iconst 2, 1) := by decide +kernel
theorem dX10_layLayer_114 : decode cX10_layLayer 114 = .ok (.iaload, 1) := by decide +kernel
theorem dX10_layLayer_115 : decode cX10_layLayer 115 = .ok (.aload_n 0, 1) := by decide +kernel
theorem dX10_layLayer_116 : decode cX10_layLayer 116 = .ok (.getfield 270, 3) := by decide +kernel
theorem dX10_layLayer_119 : decode cX10_layLayer 119 = .ok (.idiv, 1) := by decide +kernel
theorem dX10_layLayer_120 : decode cX10_layLayer 120 = .ok (.iastore, 1) := by decide +kernel
theorem dX10_layLayer_121 : decode cX10_layLayer 121 = .ok (.iconst 0, 1) := by decide +kernel
theorem dX10_layLayer_122 : decode cX10_layLayer 122 = .ok (.istore 5, 2) := by decide +kernel
theorem dX10_layLayer_124 : decode cX10_layLayer 124 = .ok (.iload 5, 2) := by decide +kernel
theorem dX10_layLayer_126 : decode cX10_layLayer 126 = .ok (.aload_n 0, 1) := by decide +kernel
theorem dX10_layLayer_127 : decode cX10_layLayer 127 = .ok (.getfield 270, 3) := by decide +kernel
theorem dX10_layLayer_130 : decode cX10_layLayer 130 = .ok (.if_icmp .ge 60, 3) := by decide +kernel
theorem dX10_layLayer_133 : decode cX10_layLayer 133 = .ok (.aload_n 0, 1) := by decide +kernel
theorem dX10_layLayer_134 : decode cX10_layLayer 134 = .ok (.getfield 46, 3) := by decide +kernel
theorem dX10_layLayer_137 : decode cX10_layLayer 137 = .ok (.iload_n 3, 1) := by decide +kernel
theorem dX10_layLayer_138 : decode cX10_layLayer 138 = .ok (.baload, 1) := by decide +kernel
theorem dX10_layLayer_139 : decode cX10_layLayer 139 = .ok (.ifCond .eq 51, 3) := by decide +kernel
theorem dX10_layLayer_142 : decode cX10_layLayer 142 = .ok (.aload_n 0, 1) := by decide +kernel
theorem dX10_layLayer_143 : decode cX10_layLayer 143 = .ok (.iconst 2, 1) := by decide +kernel
theorem dX10_layLayer_144 : decode cX10_layLayer 144 = .ok (.aload_n 0, 1) := by decide +kernel
theorem dX10_layLayer_145 : decode cX10_layLayer 145 = .ok (.getfield 270, 3) := by decide +kernel
theorem dX10_layLayer_148 : decode cX10_layLayer 148 = .ok (.aload_n 0, 1) := by decide +kernel
theorem dX10_layLayer_149 : decode cX10_layLayer 149 = .ok (.getfield 94, 3) := by decide +kernel
theorem dX10_layLayer_152 : decode cX10_layLayer 152 = .ok (.iload_n 3, 1) := by decide +kernel
theorem dX10_layLayer_153 : decode cX10_layLayer 153 = .ok (.iaload, 1) := by decide +kernel
theorem dX10_layLayer_154 : decode cX10_layLayer 154 = .ok (.imul, 1) := by decide +kernel
theorem dX10_layLayer_155 : decode cX10_layLayer 155 = .ok (.iload 5, 2) := by decide +kernel
theorem dX10_layLayer_157 : decode cX10_layLayer 157 = .ok (.iadd, 1) := by decide +kernel
theorem dX10_layLayer_158 : decode cX10_layLayer 158 = .ok (.aload_n 0, 1) := by decide +kernel
theorem dX10_layLayer_159 : decode cX10_layLayer 159 = .ok (.getfield 270, 3) := by decide +kernel
theorem dX10_layLayer_162 : decode cX10_layLayer 162 = .ok (.aload_n 0, 1) := by decide +kernel
theorem dX10_layLayer_163 : decode cX10_layLayer 163 = .ok (.getfield 94, 3) := by decide +kernel
theorem dX10_layLayer_166 : decode cX10_layLayer 166 = .ok (.iload 4, 2) := by decide +kernel
theorem dX10_layLayer_168 : decode cX10_layLayer 168 = .ok (.iaload, 1) := by decide +kernel
theorem dX10_layLayer_169 : decode cX10_layLayer 169 = .ok (.imul, 1) := by decide +kernel
theorem dX10_layLayer_170 : decode cX10_layLayer 170 = .ok (.aload_n 0, 1) := by decide +kernel
theorem dX10_layLayer_171 : decode cX10_layLayer 171 = .ok (.iload_n 2, 1) := by decide +kernel
theorem dX10_layLayer_172 : decode cX10_layLayer 172 = .ok (.iconst 1, 1) := by decide +kernel
theorem dX10_layLayer_173 : decode cX10_layLayer 173 = .ok (.iadd, 1) := by decide +kernel
theorem dX10_layLayer_174 : decode cX10_layLayer 174 = .ok (.iload 5, 2) := by decide +kernel
theorem dX10_layLayer_176 : decode cX10_layLayer 176 = .ok (.invokevirtual 285, 3) := by decide +kernel
theorem dX10_layLayer_179 : decode cX10_layLayer 179 = .ok (.iadd, 1) := by decide +kernel
theorem dX10_layLayer_180 : decode cX10_layLayer 180 = .ok (.invokevirtual 157, 3) := by decide +kernel
theorem dX10_layLayer_183 : decode cX10_layLayer 183 = .ok (.pop, 1) := by decide +kernel
theorem dX10_layLayer_184 : decode cX10_layLayer 184 = .ok (.iinc 5 1, 3) := by decide +kernel
theorem dX10_layLayer_187 : decode cX10_layLayer 187 = .ok (.goto (-63), 3) := by decide +kernel
theorem dX10_layLayer_190 : decode cX10_layLayer 190 = .ok (.iinc 2 1, 3) := by decide +kernel
theorem dX10_layLayer_193 : decode cX10_layLayer 193 = .ok (.goto (-124), 3) := by decide +kernel
theorem dX10_layLayer_196 : decode cX10_layLayer 196 = .ok (.iconst 0, 1) := by decide +kernel
theorem dX10_layLayer_197 : decode cX10_layLayer 197 = .ok (.istore_n 2, 1) := by decide +kernel
theorem dX10_layLayer_198 : decode cX10_layLayer 198 = .ok (.iload_n 2, 1) := by decide +kernel
theorem dX10_layLayer_199 : decode cX10_layLayer 199 = .ok (.aload_n 0, 1) := by decide +kernel
theorem dX10_layLayer_200 : decode cX10_layLayer 200 = .ok (.getfield 16, 3) := by decide +kernel
theorem dX10_layLayer_203 : decode cX10_layLayer 203 = .ok (.iload_n 1, 1) := by decide +kernel
theorem dX10_layLayer_204 : decode cX10_layLayer 204 = .ok (.iaload, 1) := by decide +kernel
theorem dX10_layLayer_205 : decode cX10_layLayer 205 = .ok (.if_icmp .ge 113, 3) := by decide +kernel
theorem dX10_layLayer_208 : decode cX10_layLayer 208 = .ok (.iconst 0, 1) := by decide +kernel
theorem dX10_layLayer_209 : decode cX10_layLayer 209 = .ok (.istore_n 3, 1) := by decide +kernel
theorem dX10_layLayer_210 : decode cX10_layLayer 210 = .ok (.iload_n 3, 1) := by decide +kernel
theorem dX10_layLayer_211 : decode cX10_layLayer 211 = .ok (.aload_n 0, 1) := by decide +kernel
theorem dX10_layLayer_212 : decode cX10_layLayer 212 = .ok (.getfield 270, 3) := by decide +kernel
theorem dX10_layLayer_215 : decode cX10_layLayer 215 = .ok (.if_icmp .ge 97, 3) := by decide +kernel
theorem dX10_layLayer_218 : decode cX10_layLayer 218 = .ok (.aload_n 0, 1) := by decide +kernel
theorem dX10_layLayer_219 : decode cX10_layLayer 219 = .ok (.iload_n 1, 1) := by decide +kernel
theorem dX10_layLayer_220 : decode cX10_layLayer 220 = .ok (.iload_n 2, 1) := by decide +kernel
theorem dX10_layLayer_221 : decode cX10_layLayer 221 = .ok (.invokevirtual 282, 3) := by decide +kernel
theorem dX10_layLayer_224 : decode cX10_layLayer 224 = .ok (.ifCond .eq 88, 3) := by decide +kernel
theorem dX10_layLayer_227 : decode cX10_layLayer 227 = .ok (.iload_n 3, 1) := by decide +kernel
theorem dX10_layLayer_228 : decode cX10_layLayer 228 = .ok (.istore 4, 2) := by decide +kernel
theorem dX10_layLayer_230 : decode cX10_layLayer 230 = .ok (.aload_n 0, 1) := by decide +kernel
theorem dX10_layLayer_231 : decode cX10_layLayer 231 = .ok (.aload_n 0, 1) := by decide +kernel
theorem dX10_layLayer_232 : decode cX10_layLayer 232 = .ok (.getfield 25, 3) := by decide +kernel
theorem dX10_layLayer_235 : decode cX10_layLayer 235 = .ok (.bipush 32, 2) := by decide +kernel
theorem dX10_layLayer_237 : decode cX10_layLayer 237 = .ok (.iload_n 1, 1) := by decide +kernel
theorem dX10_layLayer_238 : decode cX10_layLayer 238 = .ok (.imul, 1) := by decide +kernel
theorem dX10_layLayer_239 : decode cX10_layLayer 239 = .ok (.iload_n 2, 1) := by decide +kernel
theorem dX10_layLayer_240 : decode cX10_layLayer 240 = .ok (.iadd, 1) := by decide +kernel
theorem dX10_layLayer_241 : decode cX10_layLayer 241 = .ok (.iaload, 1) := by decide +kernel
theorem dX10_layLayer_242 : decode cX10_layLayer 242 = .ok (.putfield 186, 3) := by decide +kernel
theorem dX10_layLayer_245 : decode cX10_layLayer 245 = .ok (.iconst 0, 1) := by decide +kernel
theorem dX10_layLayer_246 : decode cX10_layLayer 246 = .ok (.istore 5, 2) := by decide +kernel
theorem dX10_layLayer_248 : decode cX10_layLayer 248 = .ok (.iload 5, 2) := by decide +kernel
theorem dX10_layLayer_250 : decode cX10_layLayer 250 = .ok (.aload_n 0, 1) := by decide +kernel
theorem dX10_layLayer_251 : decode cX10_layLayer 251 = .ok (.getfield 186, 3) := by decide +kernel
theorem dX10_layLayer_254 : decode cX10_layLayer 254 = .ok (.if_icmp .ge 46, 3) := by decide +kernel
theorem dX10_layLayer_257 : decode cX10_layLayer 257 = .ok (.aload_n 0, 1) := by decide +kernel
theorem dX10_layLayer_258 : decode cX10_layLayer 258 = .ok (.getfield 34, 3) := by decide +kernel
theorem dX10_layLayer_261 : decode cX10_layLayer 261 = .ok (.iload 5, 2) := by decide +kernel
theorem dX10_layLayer_263 : decode cX10_layLayer 263 = .ok (.aload_n 0, 1) := by decide +kernel
theorem dX10_layLayer_264 : decode cX10_layLayer 264 = .ok (.aload_n 0, 1) := by decide +kernel
theorem dX10_layLayer_265 : decode cX10_layLayer 265 = .ok (.iload_n 1, 1) := by decide +kernel
theorem dX10_layLayer_266 : decode cX10_layLayer 266 = .ok (.iload_n 2, 1) := by decide +kernel
theorem dX10_layLayer_267 : decode cX10_layLayer 267 = .ok (.iload 5, 2) := by decide +kernel
theorem dX10_layLayer_269 : decode cX10_layLayer 269 = .ok (.invokevirtual 221, 3) := by decide +kernel
theorem dX10_layLayer_272 : decode cX10_layLayer 272 = .ok (.iload 4, 2) := by decide +kernel
theorem dX10_layLayer_274 : decode cX10_layLayer 274 = .ok (.invokevirtual 328, 3) := by decide +kernel
theorem dX10_layLayer_277 : decode cX10_layLayer 277 = .ok (.iastore, 1) := by decide +kernel
theorem dX10_layLayer_278 : decode cX10_layLayer 278 = .ok (.aload_n 0, 1) := by decide +kernel
theorem dX10_layLayer_279 : decode cX10_layLayer 279 = .ok (.aload_n 0, 1) := by decide +kernel
theorem dX10_layLayer_280 : decode cX10_layLayer 280 = .ok (.iload_n 1, 1) := by decide +kernel
theorem dX10_layLayer_281 : decode cX10_layLayer 281 = .ok (.iload_n 2, 1) := by decide +kernel
theorem dX10_layLayer_282 : decode cX10_layLayer 282 = .ok (.iload 5, 2) := by decide +kernel
theorem dX10_layLayer_284 : decode cX10_layLayer 284 = .ok (.invokevirtual 221, 3) := by decide +kernel
theorem dX10_layLayer_287 : decode cX10_layLayer 287 = .ok (.iload 4, 2) := by decide +kernel
theorem dX10_layLayer_289 : decode cX10_layLayer 289 = .ok (.invokevirtual 285, 3) := by decide +kernel
theorem dX10_layLayer_292 : decode cX10_layLayer 292 = .ok (.istore 4, 2) := by decide +kernel
theorem dX10_layLayer_294 : decode cX10_layLayer 294 = .ok (.iinc 5 1, 3) := by decide +kernel
theorem dX10_layLayer_297 : decode cX10_layLayer 297 = .ok (.goto (-49), 3) := by decide +kernel
theorem dX10_layLayer_300 : decode cX10_layLayer 300 = .ok (.aload_n 0, 1) := by decide +kernel
theorem dX10_layLayer_301 : decode cX10_layLayer 301 = .ok (.iconst 2, 1) := by decide +kernel
theorem dX10_layLayer_302 : decode cX10_layLayer 302 = .ok (.invokevirtual 199, 3) := by decide +kernel
theorem dX10_layLayer_305 : decode cX10_layLayer 305 = .ok (.pop, 1) := by decide +kernel
theorem dX10_layLayer_306 : decode cX10_layLayer 306 = .ok (.iinc 3 1, 3) := by decide +kernel
theorem dX10_layLayer_309 : decode cX10_layLayer 309 = .ok (.goto (-99), 3) := by decide +kernel
theorem dX10_layLayer_312 : decode cX10_layLayer 312 = .ok (.iinc 2 1, 3) := by decide +kernel
theorem dX10_layLayer_315 : decode cX10_layLayer 315 = .ok (.goto (-117), 3) := by decide +kernel
theorem dX10_layLayer_318 : decode cX10_layLayer 318 = .ok (.return_, 1) := by decide +kernel
theorem dX10_layer_0 : decode cX10_layer 0 = .ok (.iload_n 1, 1) := by decide +kernel
theorem dX10_layer_1 : decode cX10_layer 1 = .ok (.invokestatic 137, 3) := by decide +kernel
theorem dX10_layer_4 : decode cX10_layer 4 = .ok (.ifCond .eq 14, 3) := by decide +kernel
theorem dX10_layer_7 : decode cX10_layer 7 = .ok (.iload_n 2, 1) := by decide +kernel
theorem dX10_layer_8 : decode cX10_layer 8 = .ok (.invokestatic 319, 3) := by decide +kernel
theorem dX10_layer_11 : decode cX10_layer 11 = .ok (.ifCond .eq 7, 3) := by decide +kernel
theorem dX10_layer_14 : decode cX10_layer 14 = .ok (.iload_n 3, 1) := by decide +kernel
theorem dX10_layer_15 : decode cX10_layer 15 = .ok (.ifCond .ge 5, 3) := by decide +kernel
theorem dX10_layer_18 : decode cX10_layer 18 = .ok (.iconst (-1), 1) := by decide +kernel
theorem dX10_layer_19 : decode cX10_layer 19 = .ok (.ireturn, 1) := by decide +kernel
theorem dX10_layer_20 : decode cX10_layer 20 = .ok (.aload_n 0, 1) := by decide +kernel
theorem dX10_layer_21 : decode cX10_layer 21 = .ok (.iload_n 1, 1) := by decide +kernel
theorem dX10_layer_22 : decode cX10_layer 22 = .ok (.iload_n 2, 1) := by decide +kernel
theorem dX10_layer_23 : decode cX10_layer 23 = .ok (.invokevirtual 322, 3) := by decide +kernel
theorem dX10_layer_26 : decode cX10_layer 26 = .ok (.ifCond .eq 6, 3) := by decide +kernel
theorem dX10_layer_29 : decode cX10_layer 29 = .ok (.bipush (-2), 2) := by decide +kernel
theorem dX10_layer_31 : decode cX10_layer 31 = .ok (.ireturn, 1) := by decide +kernel
theorem dX10_layer_32 : decode cX10_layer 32 = .ok (.aload_n 0, 1) := by decide +kernel
theorem dX10_layer_33 : decode cX10_layer 33 = .ok (.iload_n 1, 1) := by decide +kernel
theorem dX10_layer_34 : decode cX10_layer 34 = .ok (.iconst 1, 1) := by decide +kernel
theorem dX10_layer_35 : decode cX10_layer 35 = .ok (.iload_n 3, 1) := by decide +kernel
theorem dX10_layer_36 : decode cX10_layer 36 = .ok (.iconst 1, 1) := by decide +kernel
theorem dX10_layer_37 : decode cX10_layer 37 = .ok (.iadd, 1) := by decide +kernel
theorem dX10_layer_38 : decode cX10_layer 38 = .ok (.invokevirtual 325, 3) := by decide +kernel
theorem dX10_layer_41 : decode cX10_layer 41 = .ok (.ifCond .ne 5, 3) := by decide +kernel
theorem dX10_layer_44 : decode cX10_layer 44 = .ok (.iconst (-1), 1) := by decide +kernel
theorem dX10_layer_45 : decode cX10_layer 45 = .ok (.ireturn, 1) := by decide +kernel
theorem dX10_layer_46 : decode cX10_layer 46 = .ok (.aload_n 0, 1) := by decide +kernel
theorem dX10_layer_47 : decode cX10_layer 47 = .ok (.iload_n 1, 1) := by decide +kernel
theorem dX10_layer_48 : decode cX10_layer 48 = .ok (.invokevirtual 331, 3) := by decide +kernel
theorem dX10_layer_51 : decode cX10_layer 51 = .ok (.aload_n 0, 1) := by decide +kernel
theorem dX10_layer_52 : decode cX10_layer 52 = .ok (.iconst 1, 1) := by decide +kernel
theorem dX10_layer_53 : decode cX10_layer 53 = .ok (.putfield 141, 3) := by decide +kernel
theorem dX10_layer_56 : decode cX10_layer 56 = .ok (.aload_n 0, 1) := by decide +kernel
theorem dX10_layer_57 : decode cX10_layer 57 = .ok (.iload_n 1, 1) := by decide +kernel
theorem dX10_layer_58 : decode cX10_layer 58 = .ok (.putfield 334, 3) := by decide +kernel
theorem dX10_layer_61 : decode cX10_layer 61 = .ok (.aload_n 0, 1) := by decide +kernel
theorem dX10_layer_62 : decode cX10_layer 62 = .ok (.aload_n 0, 1) := by decide +kernel
theorem dX10_layer_63 : decode cX10_layer 63 = .ok (.getfield 270, 3) := by decide +kernel
theorem dX10_layer_66 : decode cX10_layer 66 = .ok (.putfield 337, 3) := by decide +kernel
theorem dX10_layer_69 : decode cX10_layer 69 = .ok (.aload_n 0, 1) := by decide +kernel
theorem dX10_layer_70 : decode cX10_layer 70 = .ok (.aload_n 0, 1) := by decide +kernel
theorem dX10_layer_71 : decode cX10_layer 71 = .ok (.getfield 279, 3) := by decide +kernel
theorem dX10_layer_74 : decode cX10_layer 74 = .ok (.putfield 340, 3) := by decide +kernel
theorem dX10_layer_77 : decode cX10_layer 77 = .ok (.iconst 0, 1) := by decide +kernel
theorem dX10_layer_78 : decode cX10_layer 78 = .ok (.istore 4, 2) := by decide +kernel
theorem dX10_layer_80 : decode cX10_layer 80 = .ok (.iload 4, 2) := by decide +kernel
theorem dX10_layer_82 : decode cX10_layer 82 = .ok (.bipush 64, 2) := by decide +kernel
theorem dX10_layer_84 : decode cX10_layer 84 = .ok (.if_icmp .ge 37, 3) := by decide +kernel
theorem dX10_layer_87 : decode cX10_layer 87 = .ok (.aload_n 0, 1) := by decide +kernel
theorem dX10_layer_88 : decode cX10_layer 88 = .ok (.getfield 82, 3) := by decide +kernel
theorem dX10_layer_91 : decode cX10_layer 91 = .ok (.iload 4, 2) := by decide +kernel
theorem dX10_layer_93 : decode cX10_layer 93 = .ok (.aload_n 0, 1) := by decide +kernel
theorem dX10_layer_94 : decode cX10_layer 94 = .ok (.getfield 70, 3) := by decide +kernel
theorem dX10_layer_97 : decode cX10_layer 97 = .ok (.iload 4, 2) := by decide +kernel
theorem dX10_layer_99 : decode cX10_layer 99 = .ok (.iaload, 1) := by decide +kernel
theorem dX10_layer_100 : decode cX10_layer 100 = .ok (.iastore, 1) := by decide +kernel
theorem dX10_layer_101 : decode cX10_layer 101 = .ok (.aload_n 0, 1) := by decide +kernel
theorem dX10_layer_102 : decode cX10_layer 102 = .ok (.getfield 85, 3) := by decide +kernel
theorem dX10_layer_105 : decode cX10_layer 105 = .ok (.iload 4, 2) := by decide +kernel
theorem dX10_layer_107 : decode cX10_layer 107 = .ok (.aload_n 0, 1) := by decide +kernel
theorem dX10_layer_108 : decode cX10_layer 108 = .ok (.getfield 73, 3) := by decide +kernel
theorem dX10_layer_111 : decode cX10_layer 111 = .ok (.iload 4, 2) := by decide +kernel
theorem dX10_layer_113 : decode cX10_layer 113 = .ok (.iaload, 1) := by decide +kernel
theorem dX10_layer_114 : decode cX10_layer 114 = .ok (.iastore, 1) := by decide +kernel
theorem dX10_layer_115 : decode cX10_layer 115 = .ok (.iinc 4 1, 3) := by decide +kernel
theorem dX10_layer_118 : decode cX10_layer 118 = .ok (.goto (-38), 3) := by decide +kernel
theorem dX10_layer_121 : decode cX10_layer 121 = .ok (.iconst 0, 1) := by decide +kernel
theorem dX10_layer_122 : decode cX10_layer 122 = .ok (.istore 4, 2) := by decide +kernel
theorem dX10_layer_124 : decode cX10_layer 124 = .ok (.iload 4, 2) := by decide +kernel
theorem dX10_layer_126 : decode cX10_layer 126 = .ok (.bipush 12, 2) := by decide +kernel
theorem dX10_layer_128 : decode cX10_layer 128 = .ok (.if_icmp .ge 80, 3) := by decide +kernel
theorem dX10_layer_131 : decode cX10_layer 131 = .ok (.iload 4, 2) := by decide +kernel
theorem dX10_layer_133 : decode cX10_layer 133 = .ok (.aload_n 0, 1) := by decide +kernel
theorem dX10_layer_134 : decode cX10_layer 134 = .ok (.getfield 13, 3) := by decide +kernel
theorem dX10_layer_137 : decode cX10_layer 137 = .ok (.iload_n 1, 1) := by decide +kernel
theorem dX10_layer_138 : decode cX10_layer 138 = .ok (.iaload, 1) := by decide +kernel
theorem dX10_layer_139 : decode cX10_layer 139 = .ok (.if_icmp .ge 27, 3) := by decide +kernel
theorem dX10_layer_142 : decode cX10_layer 142 = .ok (.aload_n 0, 1) := by decide +kernel
theorem dX10_layer_143 : decode cX10_layer 143 = .ok (.getfield 46, 3) := by decide +kernel
theorem dX10_layer_146 : decode cX10_layer 146 = .ok (.aload_n 0, 1) := by decide +kernel
theorem dX10_layer_147 : decode cX10_layer 147 = .ok (.getfield 19, 3) := by decide +kernel
theorem dX10_layer_150 : decode cX10_layer 150 = .ok (.bipush 48, 2) := by decide +kernel
theorem dX10_layer_152 : decode cX10_layer 152 = .ok (.iload_n 1, 1) := by decide +kernel
theorem dX10_layer_153 : decode cX10_layer 153 = .ok (.imul, 1) := by decide +kernel
theorem dX10_layer_154 : decode cX10_layer 154 = .ok (.iload 4, 2) := by decide +kernel
theorem dX10_layer_156 : decode cX10_layer 156 = .ok (.iadd, 1) := by decide +kernel
theorem dX10_layer_157 : decode cX10_layer 157 = .ok (.iaload, 1) := by decide +kernel
theorem dX10_layer_158 : decode cX10_layer 158 = .ok (.baload, 1) := by decide +kernel
theorem dX10_layer_159 : decode cX10_layer 159 = .ok (.ifCond .eq 7, 3) := by decide +kernel
theorem dX10_layer_162 : decode cX10_layer 162 = .ok (.iconst 1, 1) := by decide +kernel
theorem dX10_layer_163 : decode cX10_layer 163 = .ok (.goto 4, 3) := by decide +kernel
theorem dX10_layer_166 : decode cX10_layer 166 = .ok (.iconst 0, 1) := by decide +kernel
theorem dX10_layer_167 : decode cX10_layer 167 = .ok (.istore 5, 2) := by decide +kernel
theorem dX10_layer_169 : decode cX10_layer 169 = .ok (.aload_n 0, 1) := by decide +kernel
theorem dX10_layer_170 : decode cX10_layer 170 = .ok (.getfield 91, 3) := by decide +kernel
theorem dX10_layer_173 : decode cX10_layer 173 = .ok (.iload 4, 2) := by decide +kernel
theorem dX10_layer_175 : decode cX10_layer 175 = .ok (.iload 5, 2) := by decide +kernel
theorem dX10_layer_177 : decode cX10_layer 177 = .ok (.bastore, 1) := by decide +kernel
theorem dX10_layer_178 : decode cX10_layer 178 = .ok (.aload_n 0, 1) := by decide +kernel
theorem dX10_layer_179 : decode cX10_layer 179 = .ok (.getfield 88, 3) := by decide +kernel
theorem dX10_layer_182 : decode cX10_layer 182 = .ok (.iload 4, 2) := by decide +kernel
theorem dX10_layer_184 : decode cX10_layer 184 = .ok (.iload 5, 2) := by decide +kernel
theorem dX10_layer_186 : decode cX10_layer 186 = .ok (.ifCond .eq 13, 3) := by decide +kernel
theorem dX10_layer_189 : decode cX10_layer 189 = .ok (.aload_n 0, 1) := by decide +kernel
theorem dX10_layer_190 : decode cX10_layer 190 = .ok (.getfield 53, 3) := by decide +kernel
theorem dX10_layer_193 : decode cX10_layer 193 = .ok (.iload 4, 2) := by decide +kernel
theorem dX10_layer_195 : decode cX10_layer 195 = .ok (.iaload, 1) := by decide +kernel
theorem dX10_layer_196 : decode cX10_layer 196 = .ok (.goto 5, 3) := by decide +kernel
theorem dX10_layer_199 : decode cX10_layer 199 = .ok (.bipush (-4), 2) := by decide +kernel
theorem dX10_layer_201 : decode cX10_layer 201 = .ok (.iastore, 1) := by decide +kernel
theorem dX10_layer_202 : decode cX10_layer 202 = .ok (.iinc 4 1, 3) := by decide +kernel
theorem dX10_layer_205 : decode cX10_layer 205 = .ok (.goto (-81), 3) := by decide +kernel
theorem dX10_layer_208 : decode cX10_layer 208 = .ok (.aload_n 0, 1) := by decide +kernel
theorem dX10_layer_209 : decode cX10_layer 209 = .ok (.iconst 2, 1) := by decide +kernel
theorem dX10_layer_210 : decode cX10_layer 210 = .ok (.invokevirtual 227, 3) := by decide +kernel
theorem dX10_layer_213 : decode cX10_layer 213 = .ok (.aload_n 0, 1) := by decide +kernel
theorem dX10_layer_214 : decode cX10_layer 214 = .ok (.getfield 218, 3) := by decide +kernel
theorem dX10_layer_217 : decode cX10_layer 217 = .ok (.ireturn, 1) := by decide +kernel
theorem dX10_storeys_0 : decode cX10_storeys 0 = .ok (.aload_n 0, 1) := by decide +kernel
theorem dX10_storeys_1 : decode cX10_storeys 1 = .ok (.iload_n 1, 1) := by decide +kernel
theorem dX10_storeys_2 : decode cX10_storeys 2 = .ok (.invokevirtual 224, 3) := by decide +kernel
theorem dX10_storeys_5 : decode cX10_storeys 5 = .ok (.ifCond .ne 7, 3) := by decide +kernel
theorem dX10_storeys_8 : decode cX10_storeys 8 = .ok (.iconst (-1), 1) := by decide +kernel
theorem dX10_storeys_9 : decode cX10_storeys 9 = .ok (.goto 17, 3) := by decide +kernel
theorem dX10_storeys_12 : decode cX10_storeys 12 = .ok (.iload_n 1, 1) := by decide +kernel
theorem dX10_storeys_13 : decode cX10_storeys 13 = .ok (.iconst 2, 1) := by decide +kernel
theorem dX10_storeys_14 : decode cX10_storeys 14 = .ok (.if_icmp .ge 8, 3) := by decide +kernel
theorem dX10_storeys_17 : decode cX10_storeys 17 = .ok (.bipush (-12), 2) := by decide +kernel
theorem dX10_storeys_19 : decode cX10_storeys 19 = .ok (.goto 7, 3) := by decide +kernel
theorem dX10_storeys_22 : decode cX10_storeys 22 = .ok (.aload_n 0, 1) := by decide +kernel
theorem dX10_storeys_23 : decode cX10_storeys 23 = .ok (.getfield 337, 3) := by decide +kernel
theorem dX10_storeys_26 : decode cX10_storeys 26 = .ok (.ireturn, 1) := by decide +kernel
theorem dX10_moves_0 : decode cX10_moves 0 = .ok (.aload_n 0, 1) := by decide +kernel
theorem dX10_moves_1 : decode cX10_moves 1 = .ok (.getfield 141, 3) := by decide +kernel
theorem dX10_moves_4 : decode cX10_moves 4 = .ok (.ifCond .ne 6, 3) := by decide +kernel
theorem dX10_moves_7 : decode cX10_moves 7 = .ok (.bipush (-4), 2) := by decide +kernel
theorem dX10_moves_9 : decode cX10_moves 9 = .ok (.ireturn, 1) := by decide +kernel
theorem dX10_moves_10 : decode cX10_moves 10 = .ok (.iload_n 1, 1) := by decide +kernel
theorem dX10_moves_11 : decode cX10_moves 11 = .ok (.iconst 0, 1) := by decide +kernel
theorem dX10_moves_12 : decode cX10_moves 12 = .ok (.aload_n 0, 1) := by decide +kernel
theorem dX10_moves_13 : decode cX10_moves 13 = .ok (.getfield 340, 3) := by decide +kernel
theorem dX10_moves_16 : decode cX10_moves 16 = .ok (.iconst 1, 1) := by decide +kernel
theorem dX10_moves_17 : decode cX10_moves 17 = .ok (.isub, 1) := by decide +kernel
theorem dX10_moves_18 : decode cX10_moves 18 = .ok (.invokestatic 133, 3) := by decide +kernel
theorem dX10_moves_21 : decode cX10_moves 21 = .ok (.ifCond .eq 30, 3) := by decide +kernel
theorem dX10_moves_24 : decode cX10_moves 24 = .ok (.iload_n 2, 1) := by decide +kernel
theorem dX10_moves_25 : decode cX10_moves 25 = .ok (.iconst 0, 1) := by decide +kernel
theorem dX10_moves_26 : decode cX10_moves 26 = .ok (.aload_n 0, 1) := by decide +kernel
theorem dX10_moves_27 : decode cX10_moves 27 = .ok (.getfield 337, 3) := by decide +kernel
theorem dX10_moves_30 : decode cX10_moves 30 = .ok (.iconst 1, 1) := by decide +kernel
theorem dX10_moves_31 : decode cX10_moves 31 = .ok (.isub, 1) := by decide +kernel
theorem dX10_moves_32 : decode cX10_moves 32 = .ok (.invokestatic 133, 3) := by decide +kernel
theorem dX10_moves_35 : decode cX10_moves 35 = .ok (.ifCond .eq 16, 3) := by decide +kernel
theorem dX10_moves_38 : decode cX10_moves 38 = .ok (.aload_n 0, 1) := by decide +kernel
theorem dX10_moves_39 : decode cX10_moves 39 = .ok (.getfield 82, 3) := by decide +kernel
theorem dX10_moves_42 : decode cX10_moves 42 = .ok (.iconst 4, 1) := by decide +kernel
theorem dX10_moves_43 : decode cX10_moves 43 = .ok (.iload_n 1, 1) := by decide +kernel
theorem dX10_moves_44 : decode cX10_moves 44 = .ok (.imul, 1) := by decide +kernel
theorem dX10_moves_45 : decode cX10_moves 45 = .ok (.iload_n 2, 1) := by decide +kernel
theorem dX10_moves_46 : decode cX10_moves 46 = .ok (.iadd, 1) := by decide +kernel
theorem dX10_moves_47 : decode cX10_moves 47 = .ok (.iaload, 1) := by decide +kernel
theorem dX10_moves_48 : decode cX10_moves 48 = .ok (.goto 4, 3) := by decide +kernel
theorem dX10_moves_51 : decode cX10_moves 51 = .ok (.iconst (-1), 1) := by decide +kernel
theorem dX10_moves_52 : decode cX10_moves 52 = .ok (.ireturn, 1) := by decide +kernel
theorem dX10_lift_0 : decode cX10_lift 0 = .ok (.aload_n 0, 1) := by decide +kernel
theorem dX10_lift_1 : decode cX10_lift 1 = .ok (.getfield 141, 3) := by decide +kernel
theorem dX10_lift_4 : decode cX10_lift 4 = .ok (.ifCond .ne 6, 3) := by decide +kernel
theorem dX10_lift_7 : decode cX10_lift 7 = .ok (.bipush (-4), 2) := by decide +kernel
theorem dX10_lift_9 : decode cX10_lift 9 = .ok (.ireturn, 1) := by decide +kernel
theorem dX10_lift_10 : decode cX10_lift 10 = .ok (.iload_n 1, 1) := by decide +kernel
theorem dX10_lift_11 : decode cX10_lift 11 = .ok (.invokestatic 343, 3) := by decide +kernel
theorem dX10_lift_14 : decode cX10_lift 14 = .ok (.ifCond .eq 17, 3) := by decide +kernel
theorem dX10_lift_17 : decode cX10_lift 17 = .ok (.iload_n 2, 1) := by decide +kernel
theorem dX10_lift_18 : decode cX10_lift 18 = .ok (.iconst 0, 1) := by decide +kernel
theorem dX10_lift_19 : decode cX10_lift 19 = .ok (.aload_n 0, 1) := by decide +kernel
theorem dX10_lift_20 : decode cX10_lift 20 = .ok (.getfield 337, 3) := by decide +kernel
theorem dX10_lift_23 : decode cX10_lift 23 = .ok (.iconst 1, 1) := by decide +kernel
theorem dX10_lift_24 : decode cX10_lift 24 = .ok (.isub, 1) := by decide +kernel
theorem dX10_lift_25 : decode cX10_lift 25 = .ok (.invokestatic 133, 3) := by decide +kernel
theorem dX10_lift_28 : decode cX10_lift 28 = .ok (.ifCond .ne 5, 3) := by decide +kernel
theorem dX10_lift_31 : decode cX10_lift 31 = .ok (.iconst (-1), 1) := by decide +kernel
theorem dX10_lift_32 : decode cX10_lift 32 = .ok (.ireturn, 1) := by decide +kernel
theorem dX10_lift_33 : decode cX10_lift 33 = .ok (.aload_n 0, 1) := by decide +kernel
theorem dX10_lift_34 : decode cX10_lift 34 = .ok (.getfield 100, 3) := by decide +kernel
theorem dX10_lift_37 : decode cX10_lift 37 = .ok (.iload_n 1, 1) := by decide +kernel
theorem dX10_lift_38 : decode cX10_lift 38 = .ok (.iaload, 1) := by decide +kernel
theorem dX10_lift_39 : decode cX10_lift 39 = .ok (.aload_n 0, 1) := by decide +kernel
theorem dX10_lift_40 : decode cX10_lift 40 = .ok (.getfield 334, 3) := by decide +kernel
theorem dX10_lift_43 : decode cX10_lift 43 = .ok (.if_icmp .ne 12, 3) := by decide +kernel
theorem dX10_lift_46 : decode cX10_lift 46 = .ok (.aload_n 0, 1) := by decide +kernel
theorem dX10_lift_47 : decode cX10_lift 47 = .ok (.getfield 106, 3) := by decide +kernel
theorem dX10_lift_50 : decode cX10_lift 50 = .ok (.iload_n 1, 1) := by decide +kernel
theorem dX10_lift_51 : decode cX10_lift 51 = .ok (.iaload, 1) := by decide +kernel
theorem dX10_lift_52 : decode cX10_lift 52 = .ok (.ifCond .eq 6, 3) := by decide +kernel
theorem dX10_lift_55 : decode cX10_lift 55 = .ok (.bipush (-2), 2) := by decide +kernel
theorem dX10_lift_57 : decode cX10_lift 57 = .ok (.ireturn, 1) := by decide +kernel
theorem dX10_lift_58 : decode cX10_lift 58 = .ok (.iload_n 2, 1) := by decide +kernel
theorem dX10_lift_59 : decode cX10_lift 59 = .ok (.istore_n 3, 1) := by decide +kernel
theorem dX10_lift_60 : decode cX10_lift 60 = .ok (.iconst 0, 1) := by decide +kernel
theorem dX10_lift_61 : decode cX10_lift 61 = .ok (.istore 4, 2) := by decide +kernel
theorem dX10_lift_63 : decode cX10_lift 63 = .ok (.iload 4, 2) := by decide +kernel
theorem dX10_lift_65 : decode cX10_lift 65 = .ok (.aload_n 0, 1) := by decide +kernel
theorem dX10_lift_66 : decode cX10_lift 66 = .ok (.getfield 103, 3) := by decide +kernel
theorem dX10_lift_69 : decode cX10_lift 69 = .ok (.iload_n 1, 1) := by decide +kernel
theorem dX10_lift_70 : decode cX10_lift 70 = .ok (.iaload, 1) := by decide +kernel
theorem dX10_lift_71 : decode cX10_lift 71 = .ok (.if_icmp .ge 104, 3) := by decide +kernel
theorem dX10_lift_74 : decode cX10_lift 74 = .ok (.aload_n 0, 1) := by decide +kernel
theorem dX10_lift_75 : decode cX10_lift 75 = .ok (.getfield 112, 3) := by decide +kernel
theorem dX10_lift_78 : decode cX10_lift 78 = .ok (.bipush 16, 2) := by decide +kernel
theorem dX10_lift_80 : decode cX10_lift 80 = .ok (.iload_n 1, 1) := by decide +kernel
theorem dX10_lift_81 : decode cX10_lift 81 = .ok (.imul, 1) := by decide +kernel
theorem dX10_lift_82 : decode cX10_lift 82 = .ok (.iload 4, 2) := by decide +kernel
theorem dX10_lift_84 : decode cX10_lift 84 = .ok (.iadd, 1) := by decide +kernel
theorem dX10_lift_85 : decode cX10_lift 85 = .ok (.iaload, 1) := by decide +kernel
theorem dX10_lift_86 : decode cX10_lift 86 = .ok (.istore 5, 2) := by decide +kernel
theorem dX10_lift_88 : decode cX10_lift 88 = .ok (.iload 5, 2) := by decide +kernel
theorem dX10_lift_90 : decode cX10_lift 90 = .ok (.ifCond .le 10, 3) := by decide +kernel
theorem dX10_lift_93 : decode cX10_lift 93 = .ok (.iload 5, 2) := by decide +kernel
theorem dX10_lift_95 : decode cX10_lift 95 = .ok (.iconst 1, 1) := by decide +kernel
theorem dX10_lift_96 : decode cX10_lift 96 = .ok (.isub, 1) := by decide +kernel
theorem dX10_lift_97 : decode cX10_lift 97 = .ok (.goto 8, 3) := by decide +kernel
theorem dX10_lift_100 : decode cX10_lift 100 = .ok (.iload 5, 2) := by decide +kernel
theorem dX10_lift_102 : decode cX10_lift 102 = .ok (.ineg, 1) := by decide +kernel
theorem dX10_lift_103 : decode cX10_lift 103 = .ok (.iconst 1, 1) := by decide +kernel
theorem dX10_lift_104 : decode cX10_lift 104 = .ok (.isub, 1) := by decide +kernel
theorem dX10_lift_105 : decode cX10_lift 105 = .ok (.istore 6, 2) := by decide +kernel
theorem dX10_lift_107 : decode cX10_lift 107 = .ok (.aload_n 0, 1) := by decide +kernel
theorem dX10_lift_108 : decode cX10_lift 108 = .ok (.getfield 91, 3) := by decide +kernel
theorem dX10_lift_111 : decode cX10_lift 111 = .ok (.iload 6, 2) := by decide +kernel
theorem dX10_lift_113 : decode cX10_lift 113 = .ok (.baload, 1) := by decide +kernel
theorem dX10_lift_114 : decode cX10_lift 114 = .ok (.ifCond .ne 6, 3) := by decide +kernel
theorem dX10_lift_117 : decode cX10_lift 117 = .ok (.bipush (-2), 2) := by decide +kernel
theorem dX10_lift_119 : decode cX10_lift 119 = .ok (.ireturn, 1) := by decide +kernel
theorem dX10_lift_120 : decode cX10_lift 120 = .ok (.aload_n 0, 1) := by decide +kernel
theorem dX10_lift_121 : decode cX10_lift 121 = .ok (.getfield 88, 3) := by decide +kernel
theorem dX10_lift_124 : decode cX10_lift 124 = .ok (.iload 6, 2) := by decide +kernel
theorem dX10_lift_126 : decode cX10_lift 126 = .ok (.iaload, 1) := by decide +kernel
theorem dX10_lift_127 : decode cX10_lift 127 = .ok (.istore 7, 2) := by decide +kernel
theorem dX10_lift_129 : decode cX10_lift 129 = .ok (.iload 7, 2) := by decide +kernel
theorem dX10_lift_131 : decode cX10_lift 131 = .ok (.ifCond .ge 7, 3) := by decide +kernel
theorem dX10_lift_134 : decode cX10_lift 134 = .ok (.iload_n 3, 1) := by decide +kernel
theorem dX10_lift_135 : decode cX10_lift 135 = .ok (.goto 33, 3) := by decide +kernel
theorem dX10_lift_138 : decode cX10_lift 138 = .ok (.iload 5, 2) := by decide +kernel
theorem dX10_lift_140 : decode cX10_lift 140 = .ok (.ifCond .le 17, 3) := by decide +kernel
theorem dX10_lift_143 : decode cX10_lift 143 = .ok (.aload_n 0, 1) := by decide +kernel
theorem dX10_lift_144 : decode cX10_lift 144 = .ok (.getfield 82, 3) := by decide +kernel
theorem dX10_lift_147 : decode cX10_lift 147 = .ok (.iconst 4, 1) := by decide +kernel
theorem dX10_lift_148 : decode cX10_lift 148 = .ok (.iload 7, 2) := by decide +kernel
theorem dX10_lift_150 : decode cX10_lift 150 = .ok (.imul, 1) := by decide +kernel
theorem dX10_lift_151 : decode cX10_lift 151 = .ok (.iload_n 3, 1) := by decide +kernel
theorem dX10_lift_152 : decode cX10_lift 152 = .ok (.iadd, 1) := by decide +kernel
theorem dX10_lift_153 : decode cX10_lift 153 = .ok (.iaload, 1) := by decide +kernel
theorem dX10_lift_154 : decode cX10_lift 154 = .ok (.goto 14, 3) := by decide +kernel
theorem dX10_lift_157 : decode cX10_lift 157 = .ok (.aload_n 0, 1) := by decide +kernel
theorem dX10_lift_158 : decode cX10_lift 158 = .ok (.getfield 85, 3) := by decide +kernel
theorem dX10_lift_161 : decode cX10_lift 161 = .ok (.iconst 4, 1) := by decide +kernel
theorem dX10_lift_162 : decode cX10_lift 162 = .ok (.iload 7, 2) := by decide +kernel
theorem dX10_lift_164 : decode cX10_lift 164 = .ok (.imul, 1) := by decide +kernel
theorem dX10_lift_165 : decode cX10_lift 165 = .ok (.iload_n 3, 1) := by decide +kernel
theorem dX10_lift_166 : decode cX10_lift 166 = .ok (.iadd, 1) := by decide +kernel
theorem dX10_lift_167 : decode cX10_lift 167 = .ok (.iaload, 1) := by decide +kernel
theorem dX10_lift_168 : decode cX10_lift 168 = .ok (.istore_n 3, 1) := by decide +kernel
theorem dX10_lift_169 : decode cX10_lift 169 = .ok (.iinc 4 1, 3) := by decide +kernel
theorem dX10_lift_172 : decode cX10_lift 172 = .ok (.goto (-109), 3) := by decide +kernel
theorem dX10_lift_175 : decode cX10_lift 175 = .ok (.iload_n 3, 1) := by decide +kernel
theorem dX10_lift_176 : decode cX10_lift 176 = .ok (.ireturn, 1) := by decide +kernel
theorem dX10_moved_0 : decode cX10_moved 0 = .ok (.iload_n 1, 1) := by decide +kernel
theorem dX10_moved_1 : decode cX10_moved 1 = .ok (.invokestatic 343, 3) := by decide +kernel
theorem dX10_moved_4 : decode cX10_moved 4 = .ok (.ifCond .ne 5, 3) := by decide +kernel
theorem dX10_moved_7 : decode cX10_moved 7 = .ok (.iconst (-1), 1) := by decide +kernel
theorem dX10_moved_8 : decode cX10_moved 8 = .ok (.ireturn, 1) := by decide +kernel
theorem dX10_moved_9 : decode cX10_moved 9 = .ok (.aload_n 0, 1) := by decide +kernel
theorem dX10_moved_10 : decode cX10_moved 10 = .ok (.getfield 100, 3) := by decide +kernel
theorem dX10_moved_13 : decode cX10_moved 13 = .ok (.iload_n 1, 1) := by decide +kernel
theorem dX10_moved_14 : decode cX10_moved 14 = .ok (.iaload, 1) := by decide +kernel
theorem dX10_moved_15 : decode cX10_moved 15 = .ok (.ifCond .lt 21, 3) := by decide +kernel
theorem dX10_moved_18 : decode cX10_moved 18 = .ok (.aload_n 0, 1) := by decide +kernel
theorem dX10_moved_19 : decode cX10_moved 19 = .ok (.getfield 106, 3) := by decide +kernel
theorem dX10_moved_22 : decode cX10_moved 22 = .ok (.iload_n 1, 1) := by decide +kernel
theorem dX10_moved_23 : decode cX10_moved 23 = .ok (.iaload, 1) := by decide +kernel
theorem dX10_moved_24 : decode cX10_moved 24 = .ok (.ifCond .ne 12, 3) := by decide +kernel
theorem dX10_moved_27 : decode cX10_moved 27 = .ok (.aload_n 0, 1) := by decide +kernel
theorem dX10_moved_28 : decode cX10_moved 28 = .ok (.getfield 109, 3) := by decide +kernel
theorem dX10_moved_31 : decode cX10_moved 31 = .ok (.iload_n 1, 1) := by decide +kernel
theorem dX10_moved_32 : decode cX10_moved 32 = .ok (.iaload, 1) := by decide +kernel
theorem dX10_moved_33 : decode cX10_moved 33 = .ok (.ifCond .eq 6, 3) := by decide +kernel
theorem dX10_moved_36 : decode cX10_moved 36 = .ok (.bipush (-2), 2) := by decide +kernel
theorem dX10_moved_38 : decode cX10_moved 38 = .ok (.ireturn, 1) := by decide +kernel
theorem dX10_moved_39 : decode cX10_moved 39 = .ok (.aload_n 0, 1) := by decide +kernel
theorem dX10_moved_40 : decode cX10_moved 40 = .ok (.iload_n 1, 1) := by decide +kernel
theorem dX10_moved_41 : decode cX10_moved 41 = .ok (.putfield 300, 3) := by decide +kernel
theorem dX10_moved_44 : decode cX10_moved 44 = .ok (.iconst 2, 1) := by decide +kernel
theorem dX10_moved_45 : decode cX10_moved 45 = .ok (.istore_n 2, 1) := by decide +kernel
theorem dX10_moved_46 : decode cX10_moved 46 = .ok (.iload_n 2, 1) := by decide +kernel
theorem dX10_moved_47 : decode cX10_moved 47 = .ok (.iconst 4, 1) := by decide +kernel
theorem dX10_moved_48 : decode cX10_moved 48 = .ok (.if_icmp .gt 40, 3) := by decide +kernel
theorem dX10_moved_51 : decode cX10_moved 51 = .ok (.aload_n 0, 1) := by decide +kernel
theorem dX10_moved_52 : decode cX10_moved 52 = .ok (.aload_n 0, 1) := by decide +kernel
theorem dX10_moved_53 : decode cX10_moved 53 = .ok (.getfield 100, 3) := by decide +kernel
theorem dX10_moved_56 : decode cX10_moved 56 = .ok (.iload_n 1, 1) := by decide +kernel
theorem dX10_moved_57 : decode cX10_moved 57 = .ok (.iaload, 1) := by decide +kernel
theorem dX10_moved_58 : decode cX10_moved 58 = .ok (.iload_n 2, 1) := by decide +kernel
theorem dX10_moved_59 : decode cX10_moved 59 = .ok (.invokevirtual 322, 3) := by decide +kernel
theorem dX10_moved_62 : decode cX10_moved 62 = .ok (.ifCond .ne 20, 3) := by decide +kernel
theorem dX10_moved_65 : decode cX10_moved 65 = .ok (.aload_n 0, 1) := by decide +kernel
theorem dX10_moved_66 : decode cX10_moved 66 = .ok (.aload_n 0, 1) := by decide +kernel
theorem dX10_moved_67 : decode cX10_moved 67 = .ok (.getfield 100, 3) := by decide +kernel
theorem dX10_moved_70 : decode cX10_moved 70 = .ok (.iload_n 1, 1) := by decide +kernel
theorem dX10_moved_71 : decode cX10_moved 71 = .ok (.iaload, 1) := by decide +kernel
theorem dX10_moved_72 : decode cX10_moved 72 = .ok (.iconst 2, 1) := by decide +kernel
theorem dX10_moved_73 : decode cX10_moved 73 = .ok (.iconst (-1), 1) := by decide +kernel
theorem dX10_moved_74 : decode cX10_moved 74 = .ok (.invokevirtual 325, 3) := by decide +kernel
theorem dX10_moved_77 : decode cX10_moved 77 = .ok (.ifCond .eq 5, 3) := by decide +kernel
theorem dX10_moved_80 : decode cX10_moved 80 = .ok (.iload_n 2, 1) := by decide +kernel
theorem dX10_moved_81 : decode cX10_moved 81 = .ok (.ireturn, 1) := by decide +kernel
theorem dX10_moved_82 : decode cX10_moved 82 = .ok (.iinc 2 1, 3) := by decide +kernel
theorem dX10_moved_85 : decode cX10_moved 85 = .ok (.goto (-39), 3) := by decide +kernel
theorem dX10_moved_88 : decode cX10_moved 88 = .ok (.bipush (-4), 2) := by decide +kernel
theorem dX10_moved_90 : decode cX10_moved 90 = .ok (.ireturn, 1) := by decide +kernel
theorem dX10_isSlot_0 : decode cX10_isSlot 0 = .ok (.iload_n 0, 1) := by decide +kernel
theorem dX10_isSlot_1 : decode cX10_isSlot 1 = .ok (.iconst 0, 1) := by decide +kernel
theorem dX10_isSlot_2 : decode cX10_isSlot 2 = .ok (.iconst 3, 1) := by decide +kernel
theorem dX10_isSlot_3 : decode cX10_isSlot 3 = .ok (.invokestatic 133, 3) := by decide +kernel
theorem dX10_isSlot_6 : decode cX10_isSlot 6 = .ok (.ireturn, 1) := by decide +kernel
theorem dX10_put_0 : decode cX10_put 0 = .ok (.aload_n 0, 1) := by decide +kernel
theorem dX10_put_1 : decode cX10_put 1 = .ok (.getfield 346, 3) := by decide +kernel
theorem dX10_put_4 : decode cX10_put 4 = .ok (.ifCond .le 32, 3) := by decide +kernel
theorem dX10_put_7 : decode cX10_put 7 = .ok (.aload_n 0, 1) := by decide +kernel
theorem dX10_put_8 : decode cX10_put 8 = .ok (.getfield 115, 3) := by decide +kernel
theorem dX10_put_11 : decode cX10_put 11 = .ok (.aload_n 0, 1) := by decide +kernel
theorem dX10_put_12 : decode cX10_put 12 = .ok (.getfield 346, 3) := by decide +kernel
theorem dX10_put_15 : decode cX10_put 15 = .ok (.iconst 1, 1) := by decide +kernel
theorem dX10_put_16 : decode cX10_put 16 = .ok (.isub, 1) := by decide +kernel
theorem dX10_put_17 : decode cX10_put 17 = .ok (.iaload, 1) := by decide +kernel
theorem dX10_put_18 : decode cX10_put 18 = .ok (.iload_n 1, 1) := by decide +kernel
theorem dX10_put_19 : decode cX10_put 19 = .ok (.ineg, 1) := by decide +kernel
theorem dX10_put_20 : decode cX10_put 20 = .ok (.if_icmp .ne 16, 3) := by decide +kernel
theorem dX10_put_23 : decode cX10_put 23 = .ok (.aload_n 0, 1) := by decide +kernel
theorem dX10_put_24 : decode cX10_put 24 = .ok (.dup, 1) := by decide +kernel
theorem dX10_put_25 : decode cX10_put 25 = .ok (.getfield 346, 3) := by decide +kernel
theorem dX10_put_28 : decode cX10_put 28 = .ok (.iconst 1, 1) := by decide +kernel
theorem dX10_put_29 : decode cX10_put 29 = .ok (.isub, 1) := by decide +kernel
theorem dX10_put_30 : decode cX10_put 30 = .ok (.putfield 346, 3) := by decide +kernel
theorem dX10_put_33 : decode cX10_put 33 = .ok (.goto 23, 3) := by decide +kernel
theorem dX10_put_36 : decode cX10_put 36 = .ok (.aload_n 0, 1) := by decide +kernel
theorem dX10_put_37 : decode cX10_put 37 = .ok (.getfield 115, 3) := by decide +kernel
theorem dX10_put_40 : decode cX10_put 40 = .ok (.aload_n 0, 1) := by decide +kernel
theorem dX10_put_41 : decode cX10_put 41 = .ok (.getfield 346, 3) := by decide +kernel
theorem dX10_put_44 : decode cX10_put 44 = .ok (.iload_n 1, 1) := by decide +kernel
theorem dX10_put_45 : decode cX10_put 45 = .ok (.iastore, 1) := by decide +kernel
theorem dX10_put_46 : decode cX10_put 46 = .ok (.aload_n 0, 1) := by decide +kernel
theorem dX10_put_47 : decode cX10_put 47 = .ok (.dup, 1) := by decide +kernel
theorem dX10_put_48 : decode cX10_put 48 = .ok (.getfield 346, 3) := by decide +kernel
theorem dX10_put_51 : decode cX10_put 51 = .ok (.iconst 1, 1) := by decide +kernel
theorem dX10_put_52 : decode cX10_put 52 = .ok (.iadd, 1) := by decide +kernel
theorem dX10_put_53 : decode cX10_put 53 = .ok (.putfield 346, 3) := by decide +kernel
theorem dX10_put_56 : decode cX10_put 56 = .ok (.return_, 1) := by decide +kernel
theorem dX10_keepWord_0 : decode cX10_keepWord 0 = .ok (.aload_n 0, 1) := by decide +kernel
theorem dX10_keepWord_1 : decode cX10_keepWord 1 = .ok (.iconst 0, 1) := by decide +kernel
theorem dX10_keepWord_2 : decode cX10_keepWord 2 = .ok (.putfield 346, 3) := by decide +kernel
theorem dX10_keepWord_5 : decode cX10_keepWord 5 = .ok (.iconst 0, 1) := by decide +kernel
theorem dX10_keepWord_6 : decode cX10_keepWord 6 = .ok (.istore_n 3, 1) := by decide +kernel
theorem dX10_keepWord_7 : decode cX10_keepWord 7 = .ok (.iload_n 3, 1) := by decide +kernel
theorem dX10_keepWord_8 : decode cX10_keepWord 8 = .ok (.aload_n 0, 1) := by decide +kernel
theorem dX10_keepWord_9 : decode cX10_keepWord 9 = .ok (.getfield 186, 3) := by decide +kernel
theorem dX10_keepWord_12 : decode cX10_keepWord 12 = .ok (.if_icmp .ge 19, 3) := by decide +kernel
theorem dX10_keepWord_15 : decode cX10_keepWord 15 = .ok (.aload_n 0, 1) := by decide +kernel
theorem dX10_keepWord_16 : decode cX10_keepWord 16 = .ok (.aload_n 0, 1) := by decide +kernel
theorem dX10_keepWord_17 : decode cX10_keepWord 17 = .ok (.getfield 34, 3) := by decide +kernel
theorem dX10_keepWord_20 : decode cX10_keepWord 20 = .ok (.iload_n 3, 1) := by decide +kernel
theorem dX10_keepWord_21 : decode cX10_keepWord 21 = .ok (.iaload, 1) := by decide +kernel
theorem dX10_keepWord_22 : decode cX10_keepWord 22 = .ok (.invokevirtual 349, 3) := by decide +kernel
theorem dX10_keepWord_25 : decode cX10_keepWord 25 = .ok (.iinc 3 1, 3) := by decide +kernel
theorem dX10_keepWord_28 : decode cX10_keepWord 28 = .ok (.goto (-21), 3) := by decide +kernel
theorem dX10_keepWord_31 : decode cX10_keepWord 31 = .ok (.aload_n 0, 1) := by decide +kernel
theorem dX10_keepWord_32 : decode cX10_keepWord 32 = .ok (.getfield 100, 3) := by decide +kernel
theorem dX10_keepWord_35 : decode cX10_keepWord 35 = .ok (.iload_n 1, 1) := by decide +kernel
theorem dX10_keepWord_36 : decode cX10_keepWord 36 = .ok (.iload_n 2, 1) := by decide +kernel
theorem dX10_keepWord_37 : decode cX10_keepWord 37 = .ok (.iastore, 1) := by decide +kernel
theorem dX10_keepWord_38 : decode cX10_keepWord 38 = .ok (.aload_n 0, 1) := by decide +kernel
theorem dX10_keepWord_39 : decode cX10_keepWord 39 = .ok (.getfield 103, 3) := by decide +kernel
theorem dX10_keepWord_42 : decode cX10_keepWord 42 = .ok (.iload_n 1, 1) := by decide +kernel
theorem dX10_keepWord_43 : decode cX10_keepWord 43 = .ok (.aload_n 0, 1) := by decide +kernel
theorem dX10_keepWord_44 : decode cX10_keepWord 44 = .ok (.getfield 346, 3) := by decide +kernel
theorem dX10_keepWord_47 : decode cX10_keepWord 47 = .ok (.iastore, 1) := by decide +kernel
theorem dX10_keepWord_48 : decode cX10_keepWord 48 = .ok (.aload_n 0, 1) := by decide +kernel
theorem dX10_keepWord_49 : decode cX10_keepWord 49 = .ok (.getfield 106, 3) := by decide +kernel
theorem dX10_keepWord_52 : decode cX10_keepWord 52 = .ok (.iload_n 1, 1) := by decide +kernel
theorem dX10_keepWord_53 : decode cX10_keepWord 53 = .ok (.aload_n 0, 1) := by decide +kernel
theorem dX10_keepWord_54 : decode cX10_keepWord 54 = .ok (.getfield 186, 3) := by decide +kernel
theorem dX10_keepWord_57 : decode cX10_keepWord 57 = .ok (.ifCond .ne 7, 3) := by decide +kernel
theorem dX10_keepWord_60 : decode cX10_keepWord 60 = .ok (.iconst 0, 1) := by decide +kernel
theorem dX10_keepWord_61 : decode cX10_keepWord 61 = .ok (.goto 14, 3) := by decide +kernel
theorem dX10_keepWord_64 : decode cX10_keepWord 64 = .ok (.aload_n 0, 1) := by decide +kernel
theorem dX10_keepWord_65 : decode cX10_keepWord 65 = .ok (.iload_n 2, 1) := by decide +kernel
theorem dX10_keepWord_66 : decode cX10_keepWord 66 = .ok (.aload_n 0, 1) := by decide +kernel
theorem dX10_keepWord_67 : decode cX10_keepWord 67 = .ok (.getfield 34, 3) := by decide +kernel
theorem dX10_keepWord_70 : decode cX10_keepWord 70 = .ok (.iconst 0, 1) := by decide +kernel
theorem dX10_keepWord_71 : decode cX10_keepWord 71 = .ok (.iaload, 1) := by decide +kernel
theorem dX10_keepWord_72 : decode cX10_keepWord 72 = .ok (.invokevirtual 145, 3) := by decide +kernel
theorem dX10_keepWord_75 : decode cX10_keepWord 75 = .ok (.iastore, 1) := by decide +kernel
theorem dX10_keepWord_76 : decode cX10_keepWord 76 = .ok (.aload_n 0, 1) := by decide +kernel
theorem dX10_keepWord_77 : decode cX10_keepWord 77 = .ok (.getfield 109, 3) := by decide +kernel
theorem dX10_keepWord_80 : decode cX10_keepWord 80 = .ok (.iload_n 1, 1) := by decide +kernel
theorem dX10_keepWord_81 : decode cX10_keepWord 81 = .ok (.aload_n 0, 1) := by decide +kernel
theorem dX10_keepWord_82 : decode cX10_keepWord 82 = .ok (.getfield 186, 3) := by decide +kernel
theorem dX10_keepWord_85 : decode cX10_keepWord 85 = .ok (.ifCond .ne 7, 3) := by decide +kernel
theorem dX10_keepWord_88 : decode cX10_keepWord 88 = .ok (.iconst 0, 1) := by decide +kernel
theorem dX10_keepWord_89 : decode cX10_keepWord 89 = .ok (.goto 19, 3) := by decide +kernel
theorem dX10_keepWord_92 : decode cX10_keepWord 92 = .ok (.aload_n 0, 1) := by decide +kernel
theorem dX10_keepWord_93 : decode cX10_keepWord 93 = .ok (.iload_n 2, 1) := by decide +kernel
theorem dX10_keepWord_94 : decode cX10_keepWord 94 = .ok (.aload_n 0, 1) := by decide +kernel
theorem dX10_keepWord_95 : decode cX10_keepWord 95 = .ok (.getfield 34, 3) := by decide +kernel
theorem dX10_keepWord_98 : decode cX10_keepWord 98 = .ok (.aload_n 0, 1) := by decide +kernel
theorem dX10_keepWord_99 : decode cX10_keepWord 99 = .ok (.getfield 186, 3) := by decide +kernel
theorem dX10_keepWord_102 : decode cX10_keepWord 102 = .ok (.iconst 1, 1) := by decide +kernel
theorem dX10_keepWord_103 : decode cX10_keepWord 103 = .ok (.isub, 1) := by decide +kernel
theorem dX10_keepWord_104 : decode cX10_keepWord 104 = .ok (.iaload, 1) := by decide +kernel
theorem dX10_keepWord_105 : decode cX10_keepWord 105 = .ok (.invokevirtual 189, 3) := by decide +kernel
theorem dX10_keepWord_108 : decode cX10_keepWord 108 = .ok (.iastore, 1) := by decide +kernel
theorem dX10_keepWord_109 : decode cX10_keepWord 109 = .ok (.iconst 0, 1) := by decide +kernel
theorem dX10_keepWord_110 : decode cX10_keepWord 110 = .ok (.istore_n 3, 1) := by decide +kernel
theorem dX10_keepWord_111 : decode cX10_keepWord 111 = .ok (.iload_n 3, 1) := by decide +kernel
theorem dX10_keepWord_112 : decode cX10_keepWord 112 = .ok (.aload_n 0, 1) := by decide +kernel
theorem dX10_keepWord_113 : decode cX10_keepWord 113 = .ok (.getfield 346, 3) := by decide +kernel
theorem dX10_keepWord_116 : decode cX10_keepWord 116 = .ok (.if_icmp .ge 26, 3) := by decide +kernel
theorem dX10_keepWord_119 : decode cX10_keepWord 119 = .ok (.aload_n 0, 1) := by decide +kernel
theorem dX10_keepWord_120 : decode cX10_keepWord 120 = .ok (.getfield 112, 3) := by decide +kernel
theorem dX10_keepWord_123 : decode cX10_keepWord 123 = .ok (.bipush 16, 2) := by decide +kernel
theorem dX10_keepWord_125 : decode cX10_keepWord 125 = .ok (.iload_n 1, 1) := by decide +kernel
theorem dX10_keepWord_126 : decode cX10_keepWord 126 = .ok (.imul, 1) := by decide +kernel
theorem dX10_keepWord_127 : decode cX10_keepWord 127 = .ok (.iload_n 3, 1) := by decide +kernel
theorem dX10_keepWord_128 : decode cX10_keepWord 128 = .ok (.iadd, 1) := by decide +kernel
theorem dX10_keepWord_129 : decode cX10_keepWord 129 = .ok (.aload_n 0, 1) := by decide +kernel
theorem dX10_keepWord_130 : decode cX10_keepWord 130 = .ok (.getfield 115, 3) := by decide +kernel
theorem dX10_keepWord_133 : decode cX10_keepWord 133 = .ok (.iload_n 3, 1) := by decide +kernel
theorem dX10_keepWord_134 : decode cX10_keepWord 134 = .ok (.iaload, 1) := by decide +kernel
theorem dX10_keepWord_135 : decode cX10_keepWord 135 = .ok (.iastore, 1) := by decide +kernel
theorem dX10_keepWord_136 : decode cX10_keepWord 136 = .ok (.iinc 3 1, 3) := by decide +kernel
theorem dX10_keepWord_139 : decode cX10_keepWord 139 = .ok (.goto (-28), 3) := by decide +kernel
theorem dX10_keepWord_142 : decode cX10_keepWord 142 = .ok (.aload_n 0, 1) := by decide +kernel
theorem dX10_keepWord_143 : decode cX10_keepWord 143 = .ok (.getfield 346, 3) := by decide +kernel
theorem dX10_keepWord_146 : decode cX10_keepWord 146 = .ok (.ireturn, 1) := by decide +kernel
theorem dX10_word_0 : decode cX10_word 0 = .ok (.iload_n 1, 1) := by decide +kernel
theorem dX10_word_1 : decode cX10_word 1 = .ok (.invokestatic 343, 3) := by decide +kernel
theorem dX10_word_4 : decode cX10_word 4 = .ok (.ifCond .eq 10, 3) := by decide +kernel
theorem dX10_word_7 : decode cX10_word 7 = .ok (.iload_n 2, 1) := by decide +kernel
theorem dX10_word_8 : decode cX10_word 8 = .ok (.invokestatic 137, 3) := by decide +kernel
theorem dX10_word_11 : decode cX10_word 11 = .ok (.ifCond .ne 5, 3) := by decide +kernel
theorem dX10_word_14 : decode cX10_word 14 = .ok (.iconst (-1), 1) := by decide +kernel
theorem dX10_word_15 : decode cX10_word 15 = .ok (.ireturn, 1) := by decide +kernel
theorem dX10_word_16 : decode cX10_word 16 = .ok (.aload_n 0, 1) := by decide +kernel
theorem dX10_word_17 : decode cX10_word 17 = .ok (.iconst 0, 1) := by decide +kernel
theorem dX10_word_18 : decode cX10_word 18 = .ok (.putfield 167, 3) := by decide +kernel
theorem dX10_word_21 : decode cX10_word 21 = .ok (.aload_n 0, 1) := by decide +kernel
theorem dX10_word_22 : decode cX10_word 22 = .ok (.iload_n 2, 1) := by decide +kernel
theorem dX10_word_23 : decode cX10_word 23 = .ok (.bipush 16, 2) := by decide +kernel
theorem dX10_word_25 : decode cX10_word 25 = .ok (.invokevirtual 192, 3) := by decide +kernel
theorem dX10_word_28 : decode cX10_word 28 = .ok (.ifCond .eq 29, 3) := by decide +kernel
theorem dX10_word_31 : decode cX10_word 31 = .ok (.aload_n 0, 1) := by decide +kernel
theorem dX10_word_32 : decode cX10_word 32 = .ok (.getfield 167, 3) := by decide +kernel
theorem dX10_word_35 : decode cX10_word 35 = .ok (.aload_n 0, 1) := by decide +kernel
theorem dX10_word_36 : decode cX10_word 36 = .ok (.getfield 163, 3) := by decide +kernel
theorem dX10_word_39 : decode cX10_word 39 = .ok (.if_icmp .eq 14, 3) := by decide +kernel
theorem dX10_word_42 : decode cX10_word 42 = .ok (.aload_n 0, 1) := by decide +kernel
theorem dX10_word_43 : decode cX10_word 43 = .ok (.aload_n 0, 1) := by decide +kernel
theorem dX10_word_44 : decode cX10_word 44 = .ok (.getfield 167, 3) := by decide +kernel
theorem dX10_word_47 : decode cX10_word 47 = .ok (.invokevirtual 183, 3) := by decide +kernel
theorem dX10_word_50 : decode cX10_word 50 = .ok (.ifCond .eq 7, 3) := by decide +kernel
theorem dX10_word_53 : decode cX10_word 53 = .ok (.iconst 1, 1) := by decide +kernel
theorem dX10_word_54 : decode cX10_word 54 = .ok (.goto 4, 3) := by decide +kernel
theorem dX10_word_57 : decode cX10_word 57 = .ok (.iconst 0, 1) := by decide +kernel
theorem dX10_word_58 : decode cX10_word 58 = .ok (.istore_n 3, 1) := by decide +kernel
