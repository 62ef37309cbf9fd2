theorem dX0_init_0 : decode cX0_init 0 = .ok (.aload_n 0, 1) := by decide +kernel
theorem dX0_init_1 : decode cX0_init 1 = .ok (.invokespecial 3, 3) := by decide +kernel
theorem dX0_init_4 : decode cX0_init 4 = .ok (.aload_n 0, 1) := by decide +kernel
theorem dX0_init_5 : decode cX0_init 5 = .ok (.sipush 4096, 3) := by decide +kernel
theorem dX0_init_8 : decode cX0_init 8 = .ok (.newarray .long, 2) := by decide +kernel
theorem dX0_init_10 : decode cX0_init 10 = .ok (.putfield 11, 3) := by decide +kernel
theorem dX0_init_13 : decode cX0_init 13 = .ok (.aload_n 0, 1) := by decide +kernel
theorem dX0_init_14 : decode cX0_init 14 = .ok (.sipush 4096, 3) := by decide +kernel
theorem dX0_init_17 : decode cX0_init 17 = .ok (.newarray .long, 2) := by decide +kernel
theorem dX0_init_19 : decode cX0_init 19 = .ok (.putfield 15, 3) := by decide +kernel
theorem dX0_init_22 : decode cX0_init 22 = .ok (.aload_n 0, 1) := by decide +kernel
theorem dX0_init_23 : decode cX0_init 23 = .ok (.bipush 24, 2) := by decide +kernel
theorem dX0_init_25 : decode cX0_init 25 = .ok (.newarray .int, 2) := by decide +kernel
theorem dX0_init_27 : decode cX0_init 27 = .ok (.putfield 18, 3) := by decide +kernel
theorem dX0_init_30 : decode cX0_init 30 = .ok (.return_, 1) := by decide +kernel
theorem dX0_findApart_0 : decode cX0_findApart 0 = .ok (.aload_n 0, 1) := by decide +kernel
theorem dX0_findApart_1 : decode cX0_findApart 1 = .ok (.getfield 15, 3) := by decide +kernel
theorem dX0_findApart_4 : decode cX0_findApart 4 = .ok (.lconst 0, 1) := by decide +kernel
theorem dX0_findApart_5 : decode cX0_findApart 5 = .ok (.invokestatic 22, 3) := by decide +kernel
theorem dX0_findApart_8 : decode cX0_findApart 8 = .ok (.aload_n 0, 1) := by decide +kernel
theorem dX0_findApart_9 : decode cX0_findApart 9 = .ok (.iconst 0, 1) := by decide +kernel
theorem dX0_findApart_10 : decode cX0_findApart 10 = .ok (.putfield 28, 3) := by decide +kernel
theorem dX0_findApart_13 : decode cX0_findApart 13 = .ok (.aload_n 0, 1) := by decide +kernel
theorem dX0_findApart_14 : decode cX0_findApart 14 = .ok (.aload_n 2, 1) := by decide +kernel
theorem dX0_findApart_15 : decode cX0_findApart 15 = .ok (.invokevirtual 32, 3) := by decide +kernel
theorem dX0_findApart_18 : decode cX0_findApart 18 = .ok (.aload_n 0, 1) := by decide +kernel
theorem dX0_findApart_19 : decode cX0_findApart 19 = .ok (.getfield 36, 3) := by decide +kernel
theorem dX0_findApart_22 : decode cX0_findApart 22 = .ok (.lstore 4, 2) := by decide +kernel
theorem dX0_findApart_24 : decode cX0_findApart 24 = .ok (.aload_n 0, 1) := by decide +kernel
theorem dX0_findApart_25 : decode cX0_findApart 25 = .ok (.getfield 40, 3) := by decide +kernel
theorem dX0_findApart_28 : decode cX0_findApart 28 = .ok (.lstore 6, 2) := by decide +kernel
theorem dX0_findApart_30 : decode cX0_findApart 30 = .ok (.aload_n 0, 1) := by decide +kernel
theorem dX0_findApart_31 : decode cX0_findApart 31 = .ok (.aload_n 3, 1) := by decide +kernel
theorem dX0_findApart_32 : decode cX0_findApart 32 = .ok (.invokevirtual 32, 3) := by decide +kernel
theorem dX0_findApart_35 : decode cX0_findApart 35 = .ok (.lload 4, 2) := by decide +kernel
theorem dX0_findApart_37 : decode cX0_findApart 37 = .ok (.aload_n 0, 1) := by decide +kernel
theorem dX0_findApart_38 : decode cX0_findApart 38 = .ok (.getfield 36, 3) := by decide +kernel
theorem dX0_findApart_41 : decode cX0_findApart 41 = .ok (.lcmp, 1) := by decide +kernel
theorem dX0_findApart_42 : decode cX0_findApart 42 = .ok (.ifCond .ne 15, 3) := by decide +kernel
theorem dX0_findApart_45 : decode cX0_findApart 45 = .ok (.lload 6, 2) := by decide +kernel
theorem dX0_findApart_47 : decode cX0_findApart 47 = .ok (.aload_n 0, 1) := by decide +kernel
theorem dX0_findApart_48 : decode cX0_findApart 48 = .ok (.getfield 40, 3) := by decide +kernel
theorem dX0_findApart_51 : decode cX0_findApart 51 = .ok (.lcmp, 1) := by decide +kernel
theorem dX0_findApart_52 : decode cX0_findApart 52 = .ok (.ifCond .ne 5, 3) := by decide +kernel
theorem dX0_findApart_55 : decode cX0_findApart 55 = .ok (.iconst 0, 1) := by decide +kernel
theorem dX0_findApart_56 : decode cX0_findApart 56 = .ok (.ireturn, 1) := by decide +kernel
theorem dX0_findApart_57 : decode cX0_findApart 57 = .ok (.aload_n 0, 1) := by decide +kernel
theorem dX0_findApart_58 : decode cX0_findApart 58 = .ok (.aload_n 1, 1) := by decide +kernel
theorem dX0_findApart_59 : decode cX0_findApart 59 = .ok (.aload_n 2, 1) := by decide +kernel
theorem dX0_findApart_60 : decode cX0_findApart 60 = .ok (.iconst 1, 1) := by decide +kernel
theorem dX0_findApart_61 : decode cX0_findApart 61 = .ok (.invokevirtual 43, 3) := by decide +kernel
theorem dX0_findApart_64 : decode cX0_findApart 64 = .ok (.aload_n 0, 1) := by decide +kernel
theorem dX0_findApart_65 : decode cX0_findApart 65 = .ok (.getfield 47, 3) := by decide +kernel
theorem dX0_findApart_68 : decode cX0_findApart 68 = .ok (.ifCond .eq 5, 3) := by decide +kernel
theorem dX0_findApart_71 : decode cX0_findApart 71 = .ok (.iconst 1, 1) := by decide +kernel
theorem dX0_findApart_72 : decode cX0_findApart 72 = .ok (.ireturn, 1) := by decide +kernel
theorem dX0_findApart_73 : decode cX0_findApart 73 = .ok (.aload_n 0, 1) := by decide +kernel
theorem dX0_findApart_74 : decode cX0_findApart 74 = .ok (.aload_n 2, 1) := by decide +kernel
theorem dX0_findApart_75 : decode cX0_findApart 75 = .ok (.invokevirtual 32, 3) := by decide +kernel
theorem dX0_findApart_78 : decode cX0_findApart 78 = .ok (.aload_n 0, 1) := by decide +kernel
theorem dX0_findApart_79 : decode cX0_findApart 79 = .ok (.aload_n 1, 1) := by decide +kernel
theorem dX0_findApart_80 : decode cX0_findApart 80 = .ok (.aload_n 3, 1) := by decide +kernel
theorem dX0_findApart_81 : decode cX0_findApart 81 = .ok (.iconst 0, 1) := by decide +kernel
theorem dX0_findApart_82 : decode cX0_findApart 82 = .ok (.invokevirtual 43, 3) := by decide +kernel
theorem dX0_findApart_85 : decode cX0_findApart 85 = .ok (.aload_n 0, 1) := by decide +kernel
theorem dX0_findApart_86 : decode cX0_findApart 86 = .ok (.getfield 47, 3) := by decide +kernel
theorem dX0_findApart_89 : decode cX0_findApart 89 = .ok (.ifCond .eq 5, 3) := by decide +kernel
theorem dX0_findApart_92 : decode cX0_findApart 92 = .ok (.iconst 1, 1) := by decide +kernel
theorem dX0_findApart_93 : decode cX0_findApart 93 = .ok (.ireturn, 1) := by decide +kernel
theorem dX0_findApart_94 : decode cX0_findApart 94 = .ok (.aload_n 0, 1) := by decide +kernel
theorem dX0_findApart_95 : decode cX0_findApart 95 = .ok (.getfield 28, 3) := by decide +kernel
theorem dX0_findApart_98 : decode cX0_findApart 98 = .ok (.ifCond .eq 7, 3) := by decide +kernel
theorem dX0_findApart_101 : decode cX0_findApart 101 = .ok (.iconst 2, 1) := by decide +kernel
theorem dX0_findApart_102 : decode cX0_findApart 102 = .ok (.goto 5, 3) := by decide +kernel
theorem dX0_findApart_105 : decode cX0_findApart 105 = .ok (.bipush (-5), 2) := by decide +kernel
theorem dX0_findApart_107 : decode cX0_findApart 107 = .ok (.ireturn, 1) := by decide +kernel
theorem dX0_seek_0 : decode cX0_seek 0 = .ok (.aload_n 0, 1) := by decide +kernel
theorem dX0_seek_1 : decode cX0_seek 1 = .ok (.iconst 0, 1) := by decide +kernel
theorem dX0_seek_2 : decode cX0_seek 2 = .ok (.putfield 50, 3) := by decide +kernel
theorem dX0_seek_5 : decode cX0_seek 5 = .ok (.aload_n 0, 1) := by decide +kernel
theorem dX0_seek_6 : decode cX0_seek 6 = .ok (.aload_n 1, 1) := by decide +kernel
theorem dX0_seek_7 : decode cX0_seek 7 = .ok (.iconst 0, 1) := by decide +kernel
theorem dX0_seek_8 : decode cX0_seek 8 = .ok (.aload_n 1, 1) := by decide +kernel
theorem dX0_seek_9 : decode cX0_seek 9 = .ok (.getfield 54, 3) := by decide +kernel
theorem dX0_seek_12 : decode cX0_seek 12 = .ok (.invokevirtual 57, 3) := by decide +kernel
theorem dX0_seek_15 : decode cX0_seek 15 = .ok (.aload_n 0, 1) := by decide +kernel
theorem dX0_seek_16 : decode cX0_seek 16 = .ok (.invokevirtual 61, 3) := by decide +kernel
theorem dX0_seek_19 : decode cX0_seek 19 = .ok (.aload_n 0, 1) := by decide +kernel
theorem dX0_seek_20 : decode cX0_seek 20 = .ok (.aload_n 0, 1) := by decide +kernel
theorem dX0_seek_21 : decode cX0_seek 21 = .ok (.getfield 36, 3) := by decide +kernel
theorem dX0_seek_24 : decode cX0_seek 24 = .ok (.putfield 64, 3) := by decide +kernel
theorem dX0_seek_27 : decode cX0_seek 27 = .ok (.aload_n 0, 1) := by decide +kernel
theorem dX0_seek_28 : decode cX0_seek 28 = .ok (.aload_n 0, 1) := by decide +kernel
theorem dX0_seek_29 : decode cX0_seek 29 = .ok (.getfield 40, 3) := by decide +kernel
theorem dX0_seek_32 : decode cX0_seek 32 = .ok (.putfield 67, 3) := by decide +kernel
theorem dX0_seek_35 : decode cX0_seek 35 = .ok (.aload_n 0, 1) := by decide +kernel
theorem dX0_seek_36 : decode cX0_seek 36 = .ok (.iconst 0, 1) := by decide +kernel
theorem dX0_seek_37 : decode cX0_seek 37 = .ok (.putfield 47, 3) := by decide +kernel
theorem dX0_seek_40 : decode cX0_seek 40 = .ok (.return_, 1) := by decide +kernel
theorem dX0_drawAll_0 : decode cX0_drawAll 0 = .ok (.aload_n 2, 1) := by decide +kernel
theorem dX0_drawAll_1 : decode cX0_drawAll 1 = .ok (.getfield 70, 3) := by decide +kernel
theorem dX0_drawAll_4 : decode cX0_drawAll 4 = .ok (.istore 4, 2) := by decide +kernel
theorem dX0_drawAll_6 : decode cX0_drawAll 6 = .ok (.iconst 0, 1) := by decide +kernel
theorem dX0_drawAll_7 : decode cX0_drawAll 7 = .ok (.istore 5, 2) := by decide +kernel
theorem dX0_drawAll_9 : decode cX0_drawAll 9 = .ok (.iload 5, 2) := by decide +kernel
theorem dX0_drawAll_11 : decode cX0_drawAll 11 = .ok (.aload_n 2, 1) := by decide +kernel
theorem dX0_drawAll_12 : decode cX0_drawAll 12 = .ok (.getfield 54, 3) := by decide +kernel
theorem dX0_drawAll_15 : decode cX0_drawAll 15 = .ok (.if_icmp .gt 138, 3) := by decide +kernel
theorem dX0_drawAll_18 : decode cX0_drawAll 18 = .ok (.iconst 0, 1) := by decide +kernel
theorem dX0_drawAll_19 : decode cX0_drawAll 19 = .ok (.istore 6, 2) := by decide +kernel
theorem dX0_drawAll_21 : decode cX0_drawAll 21 = .ok (.iload 6, 2) := by decide +kernel
theorem dX0_drawAll_23 : decode cX0_drawAll 23 = .ok (.aload_n 1, 1) := by decide +kernel
theorem dX0_drawAll_24 : decode cX0_drawAll 24 = .ok (.getfield 73, 3) := by decide +kernel
theorem dX0_drawAll_27 : decode cX0_drawAll 27 = .ok (.if_icmp .ge 98, 3) := by decide +kernel
theorem dX0_drawAll_30 : decode cX0_drawAll 30 = .ok (.iconst 0, 1) := by decide +kernel
theorem dX0_drawAll_31 : decode cX0_drawAll 31 = .ok (.istore 7, 2) := by decide +kernel
theorem dX0_drawAll_33 : decode cX0_drawAll 33 = .ok (.iload 7, 2) := by decide +kernel
theorem dX0_drawAll_35 : decode cX0_drawAll 35 = .ok (.aload_n 1, 1) := by decide +kernel
theorem dX0_drawAll_36 : decode cX0_drawAll 36 = .ok (.getfield 78, 3) := by decide +kernel
theorem dX0_drawAll_39 : decode cX0_drawAll 39 = .ok (.iload 6, 2) := by decide +kernel
theorem dX0_drawAll_41 : decode cX0_drawAll 41 = .ok (.iaload, 1) := by decide +kernel
theorem dX0_drawAll_42 : decode cX0_drawAll 42 = .ok (.if_icmp .ge 77, 3) := by decide +kernel
theorem dX0_drawAll_45 : decode cX0_drawAll 45 = .ok (.aload_n 1, 1) := by decide +kernel
theorem dX0_drawAll_46 : decode cX0_drawAll 46 = .ok (.iload 6, 2) := by decide +kernel
theorem dX0_drawAll_48 : decode cX0_drawAll 48 = .ok (.iload 7, 2) := by decide +kernel
theorem dX0_drawAll_50 : decode cX0_drawAll 50 = .ok (.invokevirtual 81, 3) := by decide +kernel
theorem dX0_drawAll_53 : decode cX0_drawAll 53 = .ok (.istore 8, 2) := by decide +kernel
theorem dX0_drawAll_55 : decode cX0_drawAll 55 = .ok (.aload_n 1, 1) := by decide +kernel
theorem dX0_drawAll_56 : decode cX0_drawAll 56 = .ok (.iload 8, 2) := by decide +kernel
theorem dX0_drawAll_58 : decode cX0_drawAll 58 = .ok (.invokevirtual 85, 3) := by decide +kernel
theorem dX0_drawAll_61 : decode cX0_drawAll 61 = .ok (.iload 4, 2) := by decide +kernel
theorem dX0_drawAll_63 : decode cX0_drawAll 63 = .ok (.if_icmp .ne 21, 3) := by decide +kernel
theorem dX0_drawAll_66 : decode cX0_drawAll 66 = .ok (.aload_n 0, 1) := by decide +kernel
theorem dX0_drawAll_67 : decode cX0_drawAll 67 = .ok (.aload_n 1, 1) := by decide +kernel
theorem dX0_drawAll_68 : decode cX0_drawAll 68 = .ok (.aload_n 2, 1) := by decide +kernel
theorem dX0_drawAll_69 : decode cX0_drawAll 69 = .ok (.iload 5, 2) := by decide +kernel
theorem dX0_drawAll_71 : decode cX0_drawAll 71 = .ok (.iload 6, 2) := by decide +kernel
theorem dX0_drawAll_73 : decode cX0_drawAll 73 = .ok (.iload 7, 2) := by decide +kernel
theorem dX0_drawAll_75 : decode cX0_drawAll 75 = .ok (.iconst 0, 1) := by decide +kernel
theorem dX0_drawAll_76 : decode cX0_drawAll 76 = .ok (.invokevirtual 89, 3) := by decide +kernel
theorem dX0_drawAll_79 : decode cX0_drawAll 79 = .ok (.aload_n 0, 1) := by decide +kernel
theorem dX0_drawAll_80 : decode cX0_drawAll 80 = .ok (.iload_n 3, 1) := by decide +kernel
theorem dX0_drawAll_81 : decode cX0_drawAll 81 = .ok (.invokevirtual 93, 3) := by decide +kernel
theorem dX0_drawAll_84 : decode cX0_drawAll 84 = .ok (.aload_n 1, 1) := by decide +kernel
theorem dX0_drawAll_85 : decode cX0_drawAll 85 = .ok (.iload 8, 2) := by decide +kernel
theorem dX0_drawAll_87 : decode cX0_drawAll 87 = .ok (.invokevirtual 97, 3) := by decide +kernel
theorem dX0_drawAll_90 : decode cX0_drawAll 90 = .ok (.iload 4, 2) := by decide +kernel
theorem dX0_drawAll_92 : decode cX0_drawAll 92 = .ok (.if_icmp .ne 21, 3) := by decide +kernel
theorem dX0_drawAll_95 : decode cX0_drawAll 95 = .ok (.aload_n 0, 1) := by decide +kernel
theorem dX0_drawAll_96 : decode cX0_drawAll 96 = .ok (.aload_n 1, 1) := by decide +kernel
theorem dX0_drawAll_97 : decode cX0_drawAll 97 = .ok (.aload_n 2, 1) := by decide +kernel
theorem dX0_drawAll_98 : decode cX0_drawAll 98 = .ok (.iload 5, 2) := by decide +kernel
theorem dX0_drawAll_100 : decode cX0_drawAll 100 = .ok (.iload 6, 2) := by decide +kernel
theorem dX0_drawAll_102 : decode cX0_drawAll 102 = .ok (.iload 7, 2) := by decide +kernel
theorem dX0_drawAll_104 : decode cX0_drawAll 104 = .ok (.iconst 1, 1) := by decide +kernel
theorem dX0_drawAll_105 : decode cX0_drawAll 105 = .ok (.invokevirtual 89, 3) := by decide +kernel
theorem dX0_drawAll_108 : decode cX0_drawAll 108 = .ok (.aload_n 0, 1) := by decide +kernel
theorem dX0_drawAll_109 : decode cX0_drawAll 109 = .ok (.iload_n 3, 1) := by decide +kernel
theorem dX0_drawAll_110 : decode cX0_drawAll 110 = .ok (.invokevirtual 93, 3) := by decide +kernel
theorem dX0_drawAll_113 : decode cX0_drawAll 113 = .ok (.iinc 7 1, 3) := by decide +kernel
theorem dX0_drawAll_116 : decode cX0_drawAll 116 = .ok (.goto (-83), 3) := by decide +kernel
theorem dX0_drawAll_119 : decode cX0_drawAll 119 = .ok (.iinc 6 1, 3) := by decide +kernel
theorem dX0_drawAll_122 : decode cX0_drawAll 122 = .ok (.goto (-101), 3) := by decide +kernel
theorem dX0_drawAll_125 : decode cX0_drawAll 125 = .ok (.iload 5, 2) := by decide +kernel
theorem dX0_drawAll_127 : decode cX0_drawAll 127 = .ok (.aload_n 2, 1) := by decide +kernel
theorem dX0_drawAll_128 : decode cX0_drawAll 128 = .ok (.getfield 54, 3) := by decide +kernel
theorem dX0_drawAll_131 : decode cX0_drawAll 131 = .ok (.if_icmp .ge 16, 3) := by decide +kernel
theorem dX0_drawAll_134 : decode cX0_drawAll 134 = .ok (.aload_n 1, 1) := by decide +kernel
theorem dX0_drawAll_135 : decode cX0_drawAll 135 = .ok (.aload_n 2, 1) := by decide +kernel
theorem dX0_drawAll_136 : decode cX0_drawAll 136 = .ok (.getfield 100, 3) := by decide +kernel
theorem dX0_drawAll_139 : decode cX0_drawAll 139 = .ok (.iload 5, 2) := by decide +kernel
theorem dX0_drawAll_141 : decode cX0_drawAll 141 = .ok (.iaload, 1) := by decide +kernel
theorem dX0_drawAll_142 : decode cX0_drawAll 142 = .ok (.invokevirtual 97, 3) := by decide +kernel
theorem dX0_drawAll_145 : decode cX0_drawAll 145 = .ok (.istore 4, 2) := by decide +kernel
theorem dX0_drawAll_147 : decode cX0_drawAll 147 = .ok (.iinc 5 1, 3) := by decide +kernel
theorem dX0_drawAll_150 : decode cX0_drawAll 150 = .ok (.goto (-141), 3) := by decide +kernel
theorem dX0_drawAll_153 : decode cX0_drawAll 153 = .ok (.return_, 1) := by decide +kernel
theorem dX0_draw_0 : decode cX0_draw 0 = .ok (.aload_n 1, 1) := by decide +kernel
theorem dX0_draw_1 : decode cX0_draw 1 = .ok (.getfield 78, 3) := by decide +kernel
theorem dX0_draw_4 : decode cX0_draw 4 = .ok (.iload 4, 2) := by decide +kernel
theorem dX0_draw_6 : decode cX0_draw 6 = .ok (.iaload, 1) := by decide +kernel
theorem dX0_draw_7 : decode cX0_draw 7 = .ok (.istore 7, 2) := by decide +kernel
theorem dX0_draw_9 : decode cX0_draw 9 = .ok (.aload_n 0, 1) := by decide +kernel
theorem dX0_draw_10 : decode cX0_draw 10 = .ok (.iconst 0, 1) := by decide +kernel
theorem dX0_draw_11 : decode cX0_draw 11 = .ok (.putfield 50, 3) := by decide +kernel
theorem dX0_draw_14 : decode cX0_draw 14 = .ok (.aload_n 0, 1) := by decide +kernel
theorem dX0_draw_15 : decode cX0_draw 15 = .ok (.aload_n 2, 1) := by decide +kernel
theorem dX0_draw_16 : decode cX0_draw 16 = .ok (.iconst 0, 1) := by decide +kernel
theorem dX0_draw_17 : decode cX0_draw 17 = .ok (.iload_n 3, 1) := by decide +kernel
theorem dX0_draw_18 : decode cX0_draw 18 = .ok (.invokevirtual 57, 3) := by decide +kernel
theorem dX0_draw_21 : decode cX0_draw 21 = .ok (.iload 5, 2) := by decide +kernel
theorem dX0_draw_23 : decode cX0_draw 23 = .ok (.istore 8, 2) := by decide +kernel
theorem dX0_draw_25 : decode cX0_draw 25 = .ok (.iconst 0, 1) := by decide +kernel
theorem dX0_draw_26 : decode cX0_draw 26 = .ok (.istore 9, 2) := by decide +kernel
theorem dX0_draw_28 : decode cX0_draw 28 = .ok (.iload 9, 2) := by decide +kernel
theorem dX0_draw_30 : decode cX0_draw 30 = .ok (.iload 7, 2) := by decide +kernel
theorem dX0_draw_32 : decode cX0_draw 32 = .ok (.if_icmp .ge 82, 3) := by decide +kernel
theorem dX0_draw_35 : decode cX0_draw 35 = .ok (.aload_n 1, 1) := by decide +kernel
theorem dX0_draw_36 : decode cX0_draw 36 = .ok (.iload 4, 2) := by decide +kernel
theorem dX0_draw_38 : decode cX0_draw 38 = .ok (.iload 8, 2) := by decide +kernel
theorem dX0_draw_40 : decode cX0_draw 40 = .ok (.invokevirtual 81, 3) := by decide +kernel
theorem dX0_draw_43 : decode cX0_draw 43 = .ok (.istore 10, 2) := by decide +kernel
theorem dX0_draw_45 : decode cX0_draw 45 = .ok (.aload_n 0, 1) := by decide +kernel
theorem dX0_draw_46 : decode cX0_draw 46 = .ok (.iload 6, 2) := by decide +kernel
theorem dX0_draw_48 : decode cX0_draw 48 = .ok (.ifCond .eq 10, 3) := by decide +kernel
theorem dX0_draw_51 : decode cX0_draw 51 = .ok (.iload 10, 2) := by decide +kernel
theorem dX0_draw_53 : decode cX0_draw 53 = .ok (.iconst 1, 1) := by decide +kernel
theorem dX0_draw_54 : decode cX0_draw 54 = .ok (.ixor, 1) := by decide +kernel
theorem dX0_draw_55 : decode cX0_draw 55 = .ok (.goto 5, 3) := by decide +kernel
theorem dX0_draw_58 : decode cX0_draw 58 = .ok (.iload 10, 2) := by decide +kernel
theorem dX0_draw_60 : decode cX0_draw 60 = .ok (.invokevirtual 101, 3) := by decide +kernel
theorem dX0_draw_63 : decode cX0_draw 63 = .ok (.iload 6, 2) := by decide +kernel
theorem dX0_draw_65 : decode cX0_draw 65 = .ok (.ifCond .eq 24, 3) := by decide +kernel
theorem dX0_draw_68 : decode cX0_draw 68 = .ok (.iload 8, 2) := by decide +kernel
theorem dX0_draw_70 : decode cX0_draw 70 = .ok (.ifCond .ne 10, 3) := by decide +kernel
theorem dX0_draw_73 : decode cX0_draw 73 = .ok (.iload 7, 2) := by decide +kernel
theorem dX0_draw_75 : decode cX0_draw 75 = .ok (.iconst 1, 1) := by decide +kernel
theorem dX0_draw_76 : decode cX0_draw 76 = .ok (.isub, 1) := by decide +kernel
theorem dX0_draw_77 : decode cX0_draw 77 = .ok (.goto 7, 3) := by decide +kernel
theorem dX0_draw_80 : decode cX0_draw 80 = .ok (.iload 8, 2) := by decide +kernel
theorem dX0_draw_82 : decode cX0_draw 82 = .ok (.iconst 1, 1) := by decide +kernel
theorem dX0_draw_83 : decode cX0_draw 83 = .ok (.isub, 1) := by decide +kernel
theorem dX0_draw_84 : decode cX0_draw 84 = .ok (.istore 8, 2) := by decide +kernel
theorem dX0_draw_86 : decode cX0_draw 86 = .ok (.goto 22, 3) := by decide +kernel
theorem dX0_draw_89 : decode cX0_draw 89 = .ok (.iload 8, 2) := by decide +kernel
theorem dX0_draw_91 : decode cX0_draw 91 = .ok (.iload 7, 2) := by decide +kernel
theorem dX0_draw_93 : decode cX0_draw 93 = .ok (.iconst 1, 1) := by decide +kernel
theorem dX0_draw_94 : decode cX0_draw 94 = .ok (.isub, 1) := by decide +kernel
theorem dX0_draw_95 : decode cX0_draw 95 = .ok (.if_icmp .ne 7, 3) := by decide +kernel
theorem dX0_draw_98 : decode cX0_draw 98 = .ok (.iconst 0, 1) := by decide +kernel
theorem dX0_draw_99 : decode cX0_draw 99 = .ok (.goto 7, 3) := by decide +kernel
theorem dX0_draw_102 : decode cX0_draw 102 = .ok (.iload 8, 2) := by decide +kernel
theorem dX0_draw_104 : decode cX0_draw 104 = .ok (.iconst 1, 1) := by decide +kernel
theorem dX0_draw_105 : decode cX0_draw 105 = .ok (.iadd, 1) := by decide +kernel
theorem dX0_draw_106 : decode cX0_draw 106 = .ok (.istore 8, 2) := by decide +kernel
theorem dX0_draw_108 : decode cX0_draw 108 = .ok (.iinc 9 1, 3) := by decide +kernel
theorem dX0_draw_111 : decode cX0_draw 111 = .ok (.goto (-83), 3) := by decide +kernel
theorem dX0_draw_114 : decode cX0_draw 114 = .ok (.aload_n 0, 1) := by decide +kernel
theorem dX0_draw_115 : decode cX0_draw 115 = .ok (.aload_n 2, 1) := by decide +kernel
theorem dX0_draw_116 : decode cX0_draw 116 = .ok (.iload_n 3, 1) := by decide +kernel
theorem dX0_draw_117 : decode cX0_draw 117 = .ok (.aload_n 2, 1) := by decide +kernel
theorem dX0_draw_118 : decode cX0_draw 118 = .ok (.getfield 54, 3) := by decide +kernel
theorem dX0_draw_121 : decode cX0_draw 121 = .ok (.invokevirtual 57, 3) := by decide +kernel
theorem dX0_draw_124 : decode cX0_draw 124 = .ok (.return_, 1) := by decide +kernel
theorem dX0_pushAll_0 : decode cX0_pushAll 0 = .ok (.iload_n 2, 1) := by decide +kernel
theorem dX0_pushAll_1 : decode cX0_pushAll 1 = .ok (.istore 4, 2) := by decide +kernel
theorem dX0_pushAll_3 : decode cX0_pushAll 3 = .ok (.iload 4, 2) := by decide +kernel
theorem dX0_pushAll_5 : decode cX0_pushAll 5 = .ok (.iload_n 3, 1) := by decide +kernel
theorem dX0_pushAll_6 : decode cX0_pushAll 6 = .ok (.if_icmp .ge 20, 3) := by decide +kernel
theorem dX0_pushAll_9 : decode cX0_pushAll 9 = .ok (.aload_n 0, 1) := by decide +kernel
theorem dX0_pushAll_10 : decode cX0_pushAll 10 = .ok (.aload_n 1, 1) := by decide +kernel
theorem dX0_pushAll_11 : decode cX0_pushAll 11 = .ok (.getfield 100, 3) := by decide +kernel
theorem dX0_pushAll_14 : decode cX0_pushAll 14 = .ok (.iload 4, 2) := by decide +kernel
theorem dX0_pushAll_16 : decode cX0_pushAll 16 = .ok (.iaload, 1) := by decide +kernel
theorem dX0_pushAll_17 : decode cX0_pushAll 17 = .ok (.invokevirtual 101, 3) := by decide +kernel
theorem dX0_pushAll_20 : decode cX0_pushAll 20 = .ok (.iinc 4 1, 3) := by decide +kernel
theorem dX0_pushAll_23 : decode cX0_pushAll 23 = .ok (.goto (-20), 3) := by decide +kernel
theorem dX0_pushAll_26 : decode cX0_pushAll 26 = .ok (.return_, 1) := by decide +kernel
theorem dX0_push_0 : decode cX0_push 0 = .ok (.aload_n 0, 1) := by decide +kernel
theorem dX0_push_1 : decode cX0_push 1 = .ok (.getfield 50, 3) := by decide +kernel
theorem dX0_push_4 : decode cX0_push 4 = .ok (.ifCond .le 33, 3) := by decide +kernel
theorem dX0_push_7 : decode cX0_push 7 = .ok (.aload_n 0, 1) := by decide +kernel
theorem dX0_push_8 : decode cX0_push 8 = .ok (.getfield 18, 3) := by decide +kernel
theorem dX0_push_11 : decode cX0_push 11 = .ok (.aload_n 0, 1) := by decide +kernel
theorem dX0_push_12 : decode cX0_push 12 = .ok (.getfield 50, 3) := by decide +kernel
theorem dX0_push_15 : decode cX0_push 15 = .ok (.iconst 1, 1) := by decide +kernel
theorem dX0_push_16 : decode cX0_push 16 = .ok (.isub, 1) := by decide +kernel
theorem dX0_push_17 : decode cX0_push 17 = .ok (.iaload, 1) := by decide +kernel
theorem dX0_push_18 : decode cX0_push 18 = .ok (.iload_n 1, 1) := by decide +kernel
theorem dX0_push_19 : decode cX0_push 19 = .ok (.iconst 1, 1) := by decide +kernel
theorem dX0_push_20 : decode cX0_push 20 = .ok (.ixor, 1) := by decide +kernel
theorem dX0_push_21 : decode cX0_push 21 = .ok (.if_icmp .ne 16, 3) := by decide +kernel
theorem dX0_push_24 : decode cX0_push 24 = .ok (.aload_n 0, 1) := by decide +kernel
theorem dX0_push_25 : decode cX0_push 25 = .ok (.dup, 1) := by decide +kernel
theorem dX0_push_26 : decode cX0_push 26 = .ok (.getfield 50, 3) := by decide +kernel
theorem dX0_push_29 : decode cX0_push 29 = .ok (.iconst 1, 1) := by decide +kernel
theorem dX0_push_30 : decode cX0_push 30 = .ok (.isub, 1) := by decide +kernel
theorem dX0_push_31 : decode cX0_push 31 = .ok (.putfield 50, 3) := by decide +kernel
theorem dX0_push_34 : decode cX0_push 34 = .ok (.goto 35, 3) := by decide +kernel
theorem dX0_push_37 : decode cX0_push 37 = .ok (.aload_n 0, 1) := by decide +kernel
theorem dX0_push_38 : decode cX0_push 38 = .ok (.getfield 50, 3) := by decide +kernel
theorem dX0_push_41 : decode cX0_push 41 = .ok (.aload_n 0, 1) := by decide +kernel
theorem dX0_push_42 : decode cX0_push 42 = .ok (.getfield 18, 3) := by decide +kernel
theorem dX0_push_45 : decode cX0_push 45 = .ok (.arraylength, 1) := by decide +kernel
theorem dX0_push_46 : decode cX0_push 46 = .ok (.if_icmp .ge 23, 3) := by decide +kernel
theorem dX0_push_49 : decode cX0_push 49 = .ok (.aload_n 0, 1) := by decide +kernel
theorem dX0_push_50 : decode cX0_push 50 = .ok (.getfield 18, 3) := by decide +kernel
theorem dX0_push_53 : decode cX0_push 53 = .ok (.aload_n 0, 1) := by decide +kernel
theorem dX0_push_54 : decode cX0_push 54 = .ok (.getfield 50, 3) := by decide +kernel
theorem dX0_push_57 : decode cX0_push 57 = .ok (.iload_n 1, 1) := by decide +kernel
theorem dX0_push_58 : decode cX0_push 58 = .ok (.iastore, 1) := by decide +kernel
theorem dX0_push_59 : decode cX0_push 59 = .ok (.aload_n 0, 1) := by decide +kernel
theorem dX0_push_60 : decode cX0_push 60 = .ok (.dup, 1) := by decide +kernel
theorem dX0_push_61 : decode cX0_push 61 = .ok (.getfield 50, 3) := by decide +kernel
theorem dX0_push_64 : decode cX0_push 64 = .ok (.iconst 1, 1) := by decide +kernel
theorem dX0_push_65 : decode cX0_push 65 = .ok (.iadd, 1) := by decide +kernel
theorem dX0_push_66 : decode cX0_push 66 = .ok (.putfield 50, 3) := by decide +kernel
theorem dX0_push_69 : decode cX0_push 69 = .ok (.return_, 1) := by decide +kernel
theorem dX0_meet_0 : decode cX0_meet 0 = .ok (.aload_n 0, 1) := by decide +kernel
theorem dX0_meet_1 : decode cX0_meet 1 = .ok (.getfield 50, 3) := by decide +kernel
theorem dX0_meet_4 : decode cX0_meet 4 = .ok (.bipush 16, 2) := by decide +kernel
theorem dX0_meet_6 : decode cX0_meet 6 = .ok (.if_icmp .le 4, 3) := by decide +kernel
theorem dX0_meet_9 : decode cX0_meet 9 = .ok (.return_, 1) := by decide +kernel
theorem dX0_meet_10 : decode cX0_meet 10 = .ok (.aload_n 0, 1) := by decide +kernel
theorem dX0_meet_11 : decode cX0_meet 11 = .ok (.invokevirtual 61, 3) := by decide +kernel
theorem dX0_meet_14 : decode cX0_meet 14 = .ok (.aload_n 0, 1) := by decide +kernel
theorem dX0_meet_15 : decode cX0_meet 15 = .ok (.dup, 1) := by decide +kernel
theorem dX0_meet_16 : decode cX0_meet 16 = .ok (.getfield 47, 3) := by decide +kernel
theorem dX0_meet_19 : decode cX0_meet 19 = .ok (.aload_n 0, 1) := by decide +kernel
theorem dX0_meet_20 : decode cX0_meet 20 = .ok (.getfield 36, 3) := by decide +kernel
theorem dX0_meet_23 : decode cX0_meet 23 = .ok (.aload_n 0, 1) := by decide +kernel
theorem dX0_meet_24 : decode cX0_meet 24 = .ok (.getfield 64, 3) := by decide +kernel
theorem dX0_meet_27 : decode cX0_meet 27 = .ok (.lcmp, 1) := by decide +kernel
theorem dX0_meet_28 : decode cX0_meet 28 = .ok (.ifCond .ne 19, 3) := by decide +kernel
theorem dX0_meet_31 : decode cX0_meet 31 = .ok (.aload_n 0, 1) := by decide +kernel
theorem dX0_meet_32 : decode cX0_meet 32 = .ok (.getfield 40, 3) := by decide +kernel
theorem dX0_meet_35 : decode cX0_meet 35 = .ok (.aload_n 0, 1) := by decide +kernel
theorem dX0_meet_36 : decode cX0_meet 36 = .ok (.getfield 67, 3) := by decide +kernel
theorem dX0_meet_39 : decode cX0_meet 39 = .ok (.lcmp, 1) := by decide +kernel
theorem dX0_meet_40 : decode cX0_meet 40 = .ok (.ifCond .ne 7, 3) := by decide +kernel
theorem dX0_meet_43 : decode cX0_meet 43 = .ok (.iconst 1, 1) := by decide +kernel
theorem dX0_meet_44 : decode cX0_meet 44 = .ok (.goto 4, 3) := by decide +kernel
theorem dX0_meet_47 : decode cX0_meet 47 = .ok (.iconst 0, 1) := by decide +kernel
theorem dX0_meet_48 : decode cX0_meet 48 = .ok (.ior, 1) := by decide +kernel
theorem dX0_meet_49 : decode cX0_meet 49 = .ok (.putfield 47, 3) := by decide +kernel
theorem dX0_meet_52 : decode cX0_meet 52 = .ok (.aload_n 0, 1) := by decide +kernel
theorem dX0_meet_53 : decode cX0_meet 53 = .ok (.invokevirtual 105, 3) := by decide +kernel
theorem dX0_meet_56 : decode cX0_meet 56 = .ok (.istore_n 2, 1) := by decide +kernel
theorem dX0_meet_57 : decode cX0_meet 57 = .ok (.iload_n 1, 1) := by decide +kernel
theorem dX0_meet_58 : decode cX0_meet 58 = .ok (.ifCond .eq 26, 3) := by decide +kernel
theorem dX0_meet_61 : decode cX0_meet 61 = .ok (.aload_n 0, 1) := by decide +kernel
theorem dX0_meet_62 : decode cX0_meet 62 = .ok (.getfield 11, 3) := by decide +kernel
theorem dX0_meet_65 : decode cX0_meet 65 = .ok (.iload_n 2, 1) := by decide +kernel
theorem dX0_meet_66 : decode cX0_meet 66 = .ok (.aload_n 0, 1) := by decide +kernel
theorem dX0_meet_67 : decode cX0_meet 67 = .ok (.getfield 36, 3) := by decide +kernel
theorem dX0_meet_70 : decode cX0_meet 70 = .ok (.lastore, 1) := by decide +kernel
theorem dX0_meet_71 : decode cX0_meet 71 = .ok (.aload_n 0, 1) := by decide +kernel
theorem dX0_meet_72 : decode cX0_meet 72 = .ok (.getfield 15, 3) := by decide +kernel
theorem dX0_meet_75 : decode cX0_meet 75 = .ok (.iload_n 2, 1) := by decide +kernel
theorem dX0_meet_76 : decode cX0_meet 76 = .ok (.aload_n 0, 1) := by decide +kernel
theorem dX0_meet_77 : decode cX0_meet 77 = .ok (.getfield 40, 3) := by decide +kernel
theorem dX0_meet_80 : decode cX0_meet 80 = .ok (.lastore, 1) := by decide +kernel
theorem dX0_meet_81 : decode cX0_meet 81 = .ok (.goto 28, 3) := by decide +kernel
theorem dX0_meet_84 : decode cX0_meet 84 = .ok (.aload_n 0, 1) := by decide +kernel
theorem dX0_meet_85 : decode cX0_meet 85 = .ok (.dup, 1) := by decide +kernel
theorem dX0_meet_86 : decode cX0_meet 86 = .ok (.getfield 28, 3) := by decide +kernel
theorem dX0_meet_89 : decode cX0_meet 89 = .ok (.aload_n 0, 1) := by decide +kernel
theorem dX0_meet_90 : decode cX0_meet 90 = .ok (.getfield 15, 3) := by decide +kernel
theorem dX0_meet_93 : decode cX0_meet 93 = .ok (.iload_n 2, 1) := by decide +kernel
theorem dX0_meet_94 : decode cX0_meet 94 = .ok (.laload, 1) := by decide +kernel
theorem dX0_meet_95 : decode cX0_meet 95 = .ok (.lconst 0, 1) := by decide +kernel
theorem dX0_meet_96 : decode cX0_meet 96 = .ok (.lcmp, 1) := by decide +kernel
theorem dX0_meet_97 : decode cX0_meet 97 = .ok (.ifCond .eq 7, 3) := by decide +kernel
theorem dX0_meet_100 : decode cX0_meet 100 = .ok (.iconst 1, 1) := by decide +kernel
theorem dX0_meet_101 : decode cX0_meet 101 = .ok (.goto 4, 3) := by decide +kernel
theorem dX0_meet_104 : decode cX0_meet 104 = .ok (.iconst 0, 1) := by decide +kernel
theorem dX0_meet_105 : decode cX0_meet 105 = .ok (.ior, 1) := by decide +kernel
theorem dX0_meet_106 : decode cX0_meet 106 = .ok (.putfield 28, 3) := by decide +kernel
theorem dX0_meet_109 : decode cX0_meet 109 = .ok (.return_, 1) := by decide +kernel
theorem dX0_pack_0 : decode cX0_pack 0 = .ok (.aload_n 0, 1) := by decide +kernel
theorem dX0_pack_1 : decode cX0_pack 1 = .ok (.lconst 0, 1) := by decide +kernel
theorem dX0_pack_2 : decode cX0_pack 2 = .ok (.putfield 36, 3) := by decide +kernel
theorem dX0_pack_5 : decode cX0_pack 5 = .ok (.aload_n 0, 1) := by decide +kernel
theorem dX0_pack_6 : decode cX0_pack 6 = .ok (.ldc2_w 109, 3) := by decide +kernel
theorem dX0_pack_9 : decode cX0_pack 9 = .ok (.putfield 40, 3) := by decide +kernel
theorem dX0_pack_12 : decode cX0_pack 12 = .ok (.iconst 0, 1) := by decide +kernel
theorem dX0_pack_13 : decode cX0_pack 13 = .ok (.istore_n 1, 1) := by decide +kernel
theorem dX0_pack_14 : decode cX0_pack 14 = .ok (.iload_n 1, 1) := by decide +kernel
theorem dX0_pack_15 : decode cX0_pack 15 = .ok (.aload_n 0, 1) := by decide +kernel
theorem dX0_pack_16 : decode cX0_pack 16 = .ok (.getfield 50, 3) := by decide +kernel
theorem dX0_pack_19 : decode cX0_pack 19 = .ok (.if_icmp .ge 65, 3) := by decide +kernel
theorem dX0_pack_22 : decode cX0_pack 22 = .ok (.iload_n 1, 1) := by decide +kernel
theorem dX0_pack_23 : decode cX0_pack 23 = .ok (.bipush 16, 2) := by decide +kernel
theorem dX0_pack_25 : decode cX0_pack 25 = .ok (.if_icmp .ge 59, 3) := by decide +kernel
theorem dX0_pack_28 : decode cX0_pack 28 = .ok (.aload_n 0, 1) := by decide +kernel
theorem dX0_pack_29 : decode cX0_pack 29 = .ok (.getfield 18, 3) := by decide +kernel
theorem dX0_pack_32 : decode cX0_pack 32 = .ok (.iload_n 1, 1) := by decide +kernel
theorem dX0_pack_33 : decode cX0_pack 33 = .ok (.iaload, 1) := by decide +kernel
theorem dX0_pack_34 : decode cX0_pack 34 = .ok (.iconst 1, 1) := by decide +kernel
theorem dX0_pack_35 : decode cX0_pack 35 = .ok (.iadd, 1) := by decide +kernel
theorem dX0_pack_36 : decode cX0_pack 36 = .ok (.i2l, 1) := by decide +kernel
theorem dX0_pack_37 : decode cX0_pack 37 = .ok (.lstore_n 2, 1) := by decide +kernel
theorem dX0_pack_38 : decode cX0_pack 38 = .ok (.iload_n 1, 1) := by decide +kernel
theorem dX0_pack_39 : decode cX0_pack 39 = .ok (.bipush 12, 2) := by decide +kernel
theorem dX0_pack_41 : decode cX0_pack 41 = .ok (.if_icmp .ge 20, 3) := by decide +kernel
theorem dX0_pack_44 : decode cX0_pack 44 = .ok (.aload_n 0, 1) := by decide +kernel
theorem dX0_pack_45 : decode cX0_pack 45 = .ok (.dup, 1) := by decide +kernel
theorem dX0_pack_46 : decode cX0_pack 46 = .ok (.getfield 36, 3) := by decide +kernel
theorem dX0_pack_49 : decode cX0_pack 49 = .ok (.lload_n 2, 1) := by decide +kernel
theorem dX0_pack_50 : decode cX0_pack 50 = .ok (.iconst 5, 1) := by decide +kernel
theorem dX0_pack_51 : decode cX0_pack 51 = .ok (.iload_n 1, 1) := by decide +kernel
theorem dX0_pack_52 : decode cX0_pack 52 = .ok (.imul, 1) := by decide +kernel
theorem dX0_pack_53 : decode cX0_pack 53 = .ok (.lshl, 1) := by decide +kernel
theorem dX0_pack_54 : decode cX0_pack 54 = .ok (.lor, 1) := by decide +kernel
theorem dX0_pack_55 : decode cX0_pack 55 = .ok (.putfield 36, 3) := by decide +kernel
theorem dX0_pack_58 : decode cX0_pack 58 = .ok (.goto 20, 3) := by decide +kernel
theorem dX0_pack_61 : decode cX0_pack 61 = .ok (.aload_n 0, 1) := by decide +kernel
theorem dX0_pack_62 : decode cX0_pack 62 = .ok (.dup, 1) := by decide +kernel
theorem dX0_pack_63 : decode cX0_pack 63 = .ok (.getfield 40, 3) := by decide +kernel
theorem dX0_pack_66 : decode cX0_pack 66 = .ok (.lload_n 2, 1) := by decide +kernel
theorem dX0_pack_67 : decode cX0_pack 67 = .ok (.iconst 5, 1) := by decide +kernel
theorem dX0_pack_68 : decode cX0_pack 68 = .ok (.iload_n 1, 1) := by decide +kernel
theorem dX0_pack_69 : decode cX0_pack 69 = .ok (.bipush 12, 2) := by decide +kernel
theorem dX0_pack_71 : decode cX0_pack 71 = .ok (.isub, 1) := by decide +kernel
theorem dX0_pack_72 : decode cX0_pack 72 = .ok (.imul, 1) := by decide +kernel
theorem dX0_pack_73 : decode cX0_pack 73 = .ok (.lshl, 1) := by decide +kernel
theorem dX0_pack_74 : decode cX0_pack 74 = .ok (.lor, 1) := by decide +kernel
theorem dX0_pack_75 : decode cX0_pack 75 = .ok (.putfield 40, 3) := by decide +kernel
theorem dX0_pack_78 : decode cX0_pack 78 = .ok (.iinc 1 1, 3) := by decide +kernel
theorem dX0_pack_81 : decode cX0_pack 81 = .ok (.goto (-67), 3) := by decide +kernel
theorem dX0_pack_84 : decode cX0_pack 84 = .ok (.return_, 1) := by decide +kernel
theorem dX0_placeOf_0 : decode cX0_placeOf 0 = .ok (.aload_n 0, 1) := by decide +kernel
theorem dX0_placeOf_1 : decode cX0_placeOf 1 = .ok (.getfield 36, 3) := by decide +kernel
theorem dX0_placeOf_4 : decode cX0_placeOf 4 = .ok (.ldc2_w 111, 3) := by decide +kernel
theorem dX0_placeOf_7 : decode cX0_placeOf 7 = .ok (.lmul, 1) := by decide +kernel
theorem dX0_placeOf_8 : decode cX0_placeOf 8 = .ok (.aload_n 0, 1) := by decide +kernel
theorem dX0_placeOf_9 : decode cX0_placeOf 9 = .ok (.getfield 40, 3) := by decide +kernel
theorem dX0_placeOf_12 : decode cX0_placeOf 12 = .ok (.lxor, 1) := by decide +kernel
theorem dX0_placeOf_13 : decode cX0_placeOf 13 = .ok (.ldc2_w 111, 3) := by decide +kernel
theorem dX0_placeOf_16 : decode cX0_placeOf 16 = .ok (.lmul, 1) := by decide +kernel
theorem dX0_placeOf_17 : decode cX0_placeOf 17 = .ok (.bipush 52, 2) := by decide +kernel
theorem dX0_placeOf_19 : decode cX0_placeOf 19 = .ok (.lushr, 1) := by decide +kernel
theorem dX0_placeOf_20 : decode cX0_placeOf 20 = .ok (.l2i, 1) := by decide +kernel
theorem dX0_placeOf_21 : decode cX0_placeOf 21 = .ok (.istore_n 1, 1) := by decide +kernel
theorem dX0_placeOf_22 : decode cX0_placeOf 22 = .ok (.iconst 0, 1) := by decide +kernel
theorem dX0_placeOf_23 : decode cX0_placeOf 23 = .ok (.istore_n 2, 1) := by decide +kernel
theorem dX0_placeOf_24 : decode cX0_placeOf 24 = .ok (.iload_n 2, 1) := by decide +kernel
theorem dX0_placeOf_25 : decode cX0_placeOf 25 = .ok (.sipush 4096, 3) := by decide +kernel
theorem dX0_placeOf_28 : decode cX0_placeOf 28 = .ok (.if_icmp .ge 58, 3) := by decide +kernel
theorem dX0_placeOf_31 : decode cX0_placeOf 31 = .ok (.aload_n 0, 1) := by decide +kernel
theorem dX0_placeOf_32 : decode cX0_placeOf 32 = .ok (.getfield 15, 3) := by decide +kernel
theorem dX0_placeOf_35 : decode cX0_placeOf 35 = .ok (.iload_n 1, 1) := by decide +kernel
theorem dX0_placeOf_36 : decode cX0_placeOf 36 = .ok (.laload, 1) := by decide +kernel
theorem dX0_placeOf_37 : decode cX0_placeOf 37 = .ok (.lconst 0, 1) := by decide +kernel
theorem dX0_placeOf_38 : decode cX0_placeOf 38 = .ok (.lcmp, 1) := by decide +kernel
theorem dX0_placeOf_39 : decode cX0_placeOf 39 = .ok (.ifCond .eq 31, 3) := by decide +kernel
theorem dX0_placeOf_42 : decode cX0_placeOf 42 = .ok (.aload_n 0, 1) := by decide +kernel
theorem dX0_placeOf_43 : decode cX0_placeOf 43 = .ok (.getfield 15, 3) := by decide +kernel
theorem dX0_placeOf_46 : decode cX0_placeOf 46 = .ok (.iload_n 1, 1) := by decide +kernel
theorem dX0_placeOf_47 : decode cX0_placeOf 47 = .ok (.laload, 1) := by decide +kernel
theorem dX0_placeOf_48 : decode cX0_placeOf 48 = .ok (.aload_n 0, 1) := by decide +kernel
theorem dX0_placeOf_49 : decode cX0_placeOf 49 = .ok (.getfield 40, 3) := by decide +kernel
theorem dX0_placeOf_52 : decode cX0_placeOf 52 = .ok (.lcmp, 1) := by decide +kernel
theorem dX0_placeOf_53 : decode cX0_placeOf 53 = .ok (.ifCond .ne 19, 3) := by decide +kernel
theorem dX0_placeOf_56 : decode cX0_placeOf 56 = .ok (.aload_n 0, 1) := by decide +kernel
theorem dX0_placeOf_57 : decode cX0_placeOf 57 = .ok (.getfield 11, 3) := by decide +kernel
theorem dX0_placeOf_60 : decode cX0_placeOf 60 = .ok (.iload_n 1, 1) := by decide +kernel
theorem dX0_placeOf_61 : decode cX0_placeOf 61 = .ok (.laload, 1) := by decide +kernel
theorem dX0_placeOf_62 : decode cX0_placeOf 62 = .ok (.aload_n 0, 1) := by decide +kernel
theorem dX0_placeOf_63 : decode cX0_placeOf 63 = .ok (.getfield 36, 3) := by decide +kernel
theorem dX0_placeOf_66 : decode cX0_placeOf 66 = .ok (.lcmp, 1) := by decide +kernel
theorem dX0_placeOf_67 : decode cX0_placeOf 67 = .ok (.ifCond .ne 5, 3) := by decide +kernel
theorem dX0_placeOf_70 : decode cX0_placeOf 70 = .ok (.iload_n 1, 1) := by decide +kernel
theorem dX0_placeOf_71 : decode cX0_placeOf 71 = .ok (.ireturn, 1) := by decide +kernel
theorem dX0_placeOf_72 : decode cX0_placeOf 72 = .ok (.iload_n 1, 1) := by decide +kernel
theorem dX0_placeOf_73 : decode cX0_placeOf 73 = .ok (.iconst 1, 1) := by decide +kernel
theorem dX0_placeOf_74 : decode cX0_placeOf 74 = .ok (.iadd, 1) := by decide +kernel
theorem dX0_placeOf_75 : decode cX0_placeOf 75 = .ok (.sipush 4095, 3) := by decide +kernel
theorem dX0_placeOf_78 : decode cX0_placeOf 78 = .ok (.iand, 1) := by decide +kernel
theorem dX0_placeOf_79 : decode cX0_placeOf 79 = .ok (.istore_n 1, 1) := by decide +kernel
theorem dX0_placeOf_80 : decode cX0_placeOf 80 = .ok (.iinc 2 1, 3) := by decide +kernel
theorem dX0_placeOf_83 : decode cX0_placeOf 83 = .ok (.goto (-59), 3) := by decide +kernel
theorem dX0_placeOf_86 : decode cX0_placeOf 86 = .ok (.iload_n 1, 1) := by decide +kernel
theorem dX0_placeOf_87 : decode cX0_placeOf 87 = .ok (.ireturn, 1) := by decide +kernel
theorem dX1_init_0 : decode cX1_init 0 = .ok (.aload_n 0, 1) := by decide +kernel
theorem dX1_init_1 : decode cX1_init 1 = .ok (.invokespecial 3, 3) := by decide +kernel
theorem dX1_init_4 : decode cX1_init 4 = .ok (.aload_n 0, 1) := by decide +kernel
theorem dX1_init_5 : decode cX1_init 5 = .ok (.new 9, 3) := by decide +kernel
theorem dX1_init_8 : decode cX1_init 8 = .ok (.dup, 1) := by decide +kernel
theorem dX1_init_9 : decode cX1_init 9 = .ok (.bipush 32, 2) := by decide +kernel
theorem dX1_init_11 : decode cX1_init 11 = .ok (.bipush 48, 2) := by decide +kernel
theorem dX1_init_13 : decode cX1_init 13 = .ok (.bipush 32, 2) := by decide +kernel
theorem dX1_init_15 : decode cX1_init 15 = .ok (.invokespecial 11, 3) := by decide +kernel
theorem dX1_init_18 : decode cX1_init 18 = .ok (.putfield 14, 3) := by decide +kernel
theorem dX1_init_21 : decode cX1_init 21 = .ok (.aload_n 0, 1) := by decide +kernel
theorem dX1_init_22 : decode cX1_init 22 = .ok (.bipush 12, 2) := by decide +kernel
theorem dX1_init_24 : decode cX1_init 24 = .ok (.newarray .int, 2) := by decide +kernel
theorem dX1_init_26 : decode cX1_init 26 = .ok (.putfield 20, 3) := by decide +kernel
theorem dX1_init_29 : decode cX1_init 29 = .ok (.aload_n 0, 1) := by decide +kernel
theorem dX1_init_30 : decode cX1_init 30 = .ok (.bipush 12, 2) := by decide +kernel
theorem dX1_init_32 : decode cX1_init 32 = .ok (.newarray .int, 2) := by decide +kernel
theorem dX1_init_34 : decode cX1_init 34 = .ok (.putfield 24, 3) := by decide +kernel
theorem dX1_init_37 : decode cX1_init 37 = .ok (.aload_n 0, 1) := by decide +kernel
theorem dX1_init_38 : decode cX1_init 38 = .ok (.bipush 8, 2) := by decide +kernel
theorem dX1_init_40 : decode cX1_init 40 = .ok (.newarray .int, 2) := by decide +kernel
theorem dX1_init_42 : decode cX1_init 42 = .ok (.putfield 27, 3) := by decide +kernel
theorem dX1_init_45 : decode cX1_init 45 = .ok (.aload_n 0, 1) := by decide +kernel
theorem dX1_init_46 : decode cX1_init 46 = .ok (.bipush 12, 2) := by decide +kernel
theorem dX1_init_48 : decode cX1_init 48 = .ok (.newarray .int, 2) := by decide +kernel
theorem dX1_init_50 : decode cX1_init 50 = .ok (.putfield 30, 3) := by decide +kernel
theorem dX1_init_53 : decode cX1_init 53 = .ok (.aload_n 0, 1) := by decide +kernel
theorem dX1_init_54 : decode cX1_init 54 = .ok (.bipush 8, 2) := by decide +kernel
theorem dX1_init_56 : decode cX1_init 56 = .ok (.newarray .int, 2) := by decide +kernel
theorem dX1_init_58 : decode cX1_init 58 = .ok (.putfield 33, 3) := by decide +kernel
theorem dX1_init_61 : decode cX1_init 61 = .ok (.aload_n 0, 1) := by decide +kernel
theorem dX1_init_62 : decode cX1_init 62 = .ok (.iconst (-1), 1) := by decide +kernel
theorem dX1_init_63 : decode cX1_init 63 = .ok (.putfield 36, 3) := by decide +kernel
theorem dX1_init_66 : decode cX1_init 66 = .ok (.return_, 1) := by decide +kernel
theorem dX1_isLaid_0 : decode cX1_isLaid 0 = .ok (.aload_n 0, 1) := by decide +kernel
theorem dX1_isLaid_1 : decode cX1_isLaid 1 = .ok (.getfield 40, 3) := by decide +kernel
theorem dX1_isLaid_4 : decode cX1_isLaid 4 = .ok (.ifnull 7, 3) := by decide +kernel
theorem dX1_isLaid_7 : decode cX1_isLaid 7 = .ok (.iconst 1, 1) := by decide +kernel
theorem dX1_isLaid_8 : decode cX1_isLaid 8 = .ok (.goto 4, 3) := by decide +kernel
theorem dX1_isLaid_11 : decode cX1_isLaid 11 = .ok (.iconst 0, 1) := by decide +kernel
theorem dX1_isLaid_12 : decode cX1_isLaid 12 = .ok (.ireturn, 1) := by decide +kernel
theorem dX1_hasStorey_0 : decode cX1_hasStorey 0 = .ok (.aload_n 0, 1) := by decide +kernel
theorem dX1_hasStorey_1 : decode cX1_hasStorey 1 = .ok (.getfield 40, 3) := by decide +kernel
theorem dX1_hasStorey_4 : decode cX1_hasStorey 4 = .ok (.ifnull 22, 3) := by decide +kernel
theorem dX1_hasStorey_7 : decode cX1_hasStorey 7 = .ok (.iload_n 1, 1) := by decide +kernel
theorem dX1_hasStorey_8 : decode cX1_hasStorey 8 = .ok (.ifCond .lt 18, 3) := by decide +kernel
theorem dX1_hasStorey_11 : decode cX1_hasStorey 11 = .ok (.iload_n 1, 1) := by decide +kernel
theorem dX1_hasStorey_12 : decode cX1_hasStorey 12 = .ok (.aload_n 0, 1) := by decide +kernel
theorem dX1_hasStorey_13 : decode cX1_hasStorey 13 = .ok (.getfield 40, 3) := by decide +kernel
theorem dX1_hasStorey_16 : decode cX1_hasStorey 16 = .ok (.getfield 44, 3) := by decide +kernel
theorem dX1_hasStorey_19 : decode cX1_hasStorey 19 = .ok (.if_icmp .ge 7, 3) := by decide +kernel
theorem dX1_hasStorey_22 : decode cX1_hasStorey 22 = .ok (.iconst 1, 1) := by decide +kernel
theorem dX1_hasStorey_23 : decode cX1_hasStorey 23 = .ok (.goto 4, 3) := by decide +kernel
theorem dX1_hasStorey_26 : decode cX1_hasStorey 26 = .ok (.iconst 0, 1) := by decide +kernel
theorem dX1_hasStorey_27 : decode cX1_hasStorey 27 = .ok (.ireturn, 1) := by decide +kernel
theorem dX1_knows_0 : decode cX1_knows 0 = .ok (.iconst 0, 1) := by decide +kernel
theorem dX1_knows_1 : decode cX1_knows 1 = .ok (.istore_n 2, 1) := by decide +kernel
theorem dX1_knows_2 : decode cX1_knows 2 = .ok (.iload_n 2, 1) := by decide +kernel
theorem dX1_knows_3 : decode cX1_knows 3 = .ok (.aload_n 1, 1) := by decide +kernel
theorem dX1_knows_4 : decode cX1_knows 4 = .ok (.getfield 49, 3) := by decide +kernel
theorem dX1_knows_7 : decode cX1_knows 7 = .ok (.if_icmp .ge 29, 3) := by decide +kernel
theorem dX1_knows_10 : decode cX1_knows 10 = .ok (.aload_n 0, 1) := by decide +kernel
theorem dX1_knows_11 : decode cX1_knows 11 = .ok (.getfield 24, 3) := by decide +kernel
theorem dX1_knows_14 : decode cX1_knows 14 = .ok (.aload_n 1, 1) := by decide +kernel
theorem dX1_knows_15 : decode cX1_knows 15 = .ok (.getfield 54, 3) := by decide +kernel
theorem dX1_knows_18 : decode cX1_knows 18 = .ok (.iload_n 2, 1) := by decide +kernel
theorem dX1_knows_19 : decode cX1_knows 19 = .ok (.iaload, 1) := by decide +kernel
theorem dX1_knows_20 : decode cX1_knows 20 = .ok (.iconst 1, 1) := by decide +kernel
theorem dX1_knows_21 : decode cX1_knows 21 = .ok (.ishr, 1) := by decide +kernel
theorem dX1_knows_22 : decode cX1_knows 22 = .ok (.iaload, 1) := by decide +kernel
theorem dX1_knows_23 : decode cX1_knows 23 = .ok (.bipush (-2), 2) := by decide +kernel
theorem dX1_knows_25 : decode cX1_knows 25 = .ok (.if_icmp .ne 5, 3) := by decide +kernel
theorem dX1_knows_28 : decode cX1_knows 28 = .ok (.iconst 0, 1) := by decide +kernel
theorem dX1_knows_29 : decode cX1_knows 29 = .ok (.ireturn, 1) := by decide +kernel
theorem dX1_knows_30 : decode cX1_knows 30 = .ok (.iinc 2 1, 3) := by decide +kernel
theorem dX1_knows_33 : decode cX1_knows 33 = .ok (.goto (-31), 3) := by decide +kernel
theorem dX1_knows_36 : decode cX1_knows 36 = .ok (.iconst 1, 1) := by decide +kernel
theorem dX1_knows_37 : decode cX1_knows 37 = .ok (.ireturn, 1) := by decide +kernel
theorem dX1_moveByStep_0 : decode cX1_moveByStep 0 = .ok (.aload_n 0, 1) := by decide +kernel
theorem dX1_moveByStep_1 : decode cX1_moveByStep 1 = .ok (.getfield 24, 3) := by decide +kernel
theorem dX1_moveByStep_4 : decode cX1_moveByStep 4 = .ok (.iload_n 1, 1) := by decide +kernel
theorem dX1_moveByStep_5 : decode cX1_moveByStep 5 = .ok (.iconst 1, 1) := by decide +kernel
theorem dX1_moveByStep_6 : decode cX1_moveByStep 6 = .ok (.ishr, 1) := by decide +kernel
theorem dX1_moveByStep_7 : decode cX1_moveByStep 7 = .ok (.iaload, 1) := by decide +kernel
theorem dX1_moveByStep_8 : decode cX1_moveByStep 8 = .ok (.istore_n 3, 1) := by decide +kernel
theorem dX1_moveByStep_9 : decode cX1_moveByStep 9 = .ok (.iload_n 3, 1) := by decide +kernel
theorem dX1_moveByStep_10 : decode cX1_moveByStep 10 = .ok (.ifCond .ge 5, 3) := by decide +kernel
theorem dX1_moveByStep_13 : decode cX1_moveByStep 13 = .ok (.iload_n 2, 1) := by decide +kernel
theorem dX1_moveByStep_14 : decode cX1_moveByStep 14 = .ok (.ireturn, 1) := by decide +kernel
theorem dX1_moveByStep_15 : decode cX1_moveByStep 15 = .ok (.aload_n 0, 1) := by decide +kernel
theorem dX1_moveByStep_16 : decode cX1_moveByStep 16 = .ok (.getfield 20, 3) := by decide +kernel
theorem dX1_moveByStep_19 : decode cX1_moveByStep 19 = .ok (.iload_n 3, 1) := by decide +kernel
theorem dX1_moveByStep_20 : decode cX1_moveByStep 20 = .ok (.iaload, 1) := by decide +kernel
theorem dX1_moveByStep_21 : decode cX1_moveByStep 21 = .ok (.istore 4, 2) := by decide +kernel
theorem dX1_moveByStep_23 : decode cX1_moveByStep 23 = .ok (.aload_n 0, 1) := by decide +kernel
theorem dX1_moveByStep_24 : decode cX1_moveByStep 24 = .ok (.getfield 40, 3) := by decide +kernel
theorem dX1_moveByStep_27 : decode cX1_moveByStep 27 = .ok (.iload_n 1, 1) := by decide +kernel
theorem dX1_moveByStep_28 : decode cX1_moveByStep 28 = .ok (.iconst 1, 1) := by decide +kernel
theorem dX1_moveByStep_29 : decode cX1_moveByStep 29 = .ok (.iand, 1) := by decide +kernel
theorem dX1_moveByStep_30 : decode cX1_moveByStep 30 = .ok (.ifCond .ne 8, 3) := by decide +kernel
theorem dX1_moveByStep_33 : decode cX1_moveByStep 33 = .ok (.iload 4, 2) := by decide +kernel
theorem dX1_moveByStep_35 : decode cX1_moveByStep 35 = .ok (.goto 12, 3) := by decide +kernel
theorem dX1_moveByStep_38 : decode cX1_moveByStep 38 = .ok (.aload_n 0, 1) := by decide +kernel
theorem dX1_moveByStep_39 : decode cX1_moveByStep 39 = .ok (.getfield 40, 3) := by decide +kernel
theorem dX1_moveByStep_42 : decode cX1_moveByStep 42 = .ok (.iload 4, 2) := by decide +kernel
theorem dX1_moveByStep_44 : decode cX1_moveByStep 44 = .ok (.invokevirtual 55, 3) := by decide +kernel
theorem dX1_moveByStep_47 : decode cX1_moveByStep 47 = .ok (.iload_n 2, 1) := by decide +kernel
theorem dX1_moveByStep_48 : decode cX1_moveByStep 48 = .ok (.invokevirtual 59, 3) := by decide +kernel
theorem dX1_moveByStep_51 : decode cX1_moveByStep 51 = .ok (.ireturn, 1) := by decide +kernel
theorem dX1_lay_0 : decode cX1_lay 0 = .ok (.aload_n 0, 1) := by decide +kernel
theorem dX1_lay_1 : decode cX1_lay 1 = .ok (.iload_n 2, 1) := by decide +kernel
theorem dX1_lay_2 : decode cX1_lay 2 = .ok (.putfield 36, 3) := by decide +kernel
theorem dX1_lay_5 : decode cX1_lay 5 = .ok (.aload_n 0, 1) := by decide +kernel
theorem dX1_lay_6 : decode cX1_lay 6 = .ok (.aload_n 3, 1) := by decide +kernel
theorem dX1_lay_7 : decode cX1_lay 7 = .ok (.getfield 63, 3) := by decide +kernel
theorem dX1_lay_10 : decode cX1_lay 10 = .ok (.putfield 40, 3) := by decide +kernel
theorem dX1_lay_13 : decode cX1_lay 13 = .ok (.aload_n 0, 1) := by decide +kernel
theorem dX1_lay_14 : decode cX1_lay 14 = .ok (.aload_n 3, 1) := by decide +kernel
theorem dX1_lay_15 : decode cX1_lay 15 = .ok (.getfield 66, 3) := by decide +kernel
theorem dX1_lay_18 : decode cX1_lay 18 = .ok (.putfield 69, 3) := by decide +kernel
theorem dX1_lay_21 : decode cX1_lay 21 = .ok (.aload_n 3, 1) := by decide +kernel
theorem dX1_lay_22 : decode cX1_lay 22 = .ok (.getfield 70, 3) := by decide +kernel
theorem dX1_lay_25 : decode cX1_lay 25 = .ok (.iconst 0, 1) := by decide +kernel
theorem dX1_lay_26 : decode cX1_lay 26 = .ok (.aload_n 0, 1) := by decide +kernel
theorem dX1_lay_27 : decode cX1_lay 27 = .ok (.getfield 20, 3) := by decide +kernel
theorem dX1_lay_30 : decode cX1_lay 30 = .ok (.iconst 0, 1) := by decide +kernel
theorem dX1_lay_31 : decode cX1_lay 31 = .ok (.aload_n 0, 1) := by decide +kernel
theorem dX1_lay_32 : decode cX1_lay 32 = .ok (.getfield 69, 3) := by decide +kernel
theorem dX1_lay_35 : decode cX1_lay 35 = .ok (.invokestatic 73, 3) := by decide +kernel
theorem dX1_lay_38 : decode cX1_lay 38 = .ok (.aload_n 0, 1) := by decide +kernel
theorem dX1_lay_39 : decode cX1_lay 39 = .ok (.getfield 24, 3) := by decide +kernel
theorem dX1_lay_42 : decode cX1_lay 42 = .ok (.bipush (-2), 2) := by decide +kernel
theorem dX1_lay_44 : decode cX1_lay 44 = .ok (.invokestatic 79, 3) := by decide +kernel
theorem dX1_lay_47 : decode cX1_lay 47 = .ok (.aload_n 1, 1) := by decide +kernel
theorem dX1_lay_48 : decode cX1_lay 48 = .ok (.getfield 85, 3) := by decide +kernel
theorem dX1_lay_51 : decode cX1_lay 51 = .ok (.iconst 0, 1) := by decide +kernel
theorem dX1_lay_52 : decode cX1_lay 52 = .ok (.aload_n 0, 1) := by decide +kernel
theorem dX1_lay_53 : decode cX1_lay 53 = .ok (.getfield 24, 3) := by decide +kernel
theorem dX1_lay_56 : decode cX1_lay 56 = .ok (.iconst 0, 1) := by decide +kernel
theorem dX1_lay_57 : decode cX1_lay 57 = .ok (.aload_n 1, 1) := by decide +kernel
theorem dX1_lay_58 : decode cX1_lay 58 = .ok (.getfield 86, 3) := by decide +kernel
theorem dX1_lay_61 : decode cX1_lay 61 = .ok (.invokestatic 73, 3) := by decide +kernel
theorem dX1_lay_64 : decode cX1_lay 64 = .ok (.aload_n 0, 1) := by decide +kernel
theorem dX1_lay_65 : decode cX1_lay 65 = .ok (.aload_n 1, 1) := by decide +kernel
theorem dX1_lay_66 : decode cX1_lay 66 = .ok (.invokevirtual 89, 3) := by decide +kernel
theorem dX1_lay_69 : decode cX1_lay 69 = .ok (.aload_n 0, 1) := by decide +kernel
theorem dX1_lay_70 : decode cX1_lay 70 = .ok (.getfield 14, 3) := by decide +kernel
theorem dX1_lay_73 : decode cX1_lay 73 = .ok (.aload_n 1, 1) := by decide +kernel
theorem dX1_lay_74 : decode cX1_lay 74 = .ok (.getfield 93, 3) := by decide +kernel
theorem dX1_lay_77 : decode cX1_lay 77 = .ok (.aload_n 0, 1) := by decide +kernel
theorem dX1_lay_78 : decode cX1_lay 78 = .ok (.getfield 40, 3) := by decide +kernel
theorem dX1_lay_81 : decode cX1_lay 81 = .ok (.getfield 44, 3) := by decide +kernel
theorem dX1_lay_84 : decode cX1_lay 84 = .ok (.imul, 1) := by decide +kernel
theorem dX1_lay_85 : decode cX1_lay 85 = .ok (.invokevirtual 96, 3) := by decide +kernel
theorem dX1_lay_88 : decode cX1_lay 88 = .ok (.aload_n 0, 1) := by decide +kernel
theorem dX1_lay_89 : decode cX1_lay 89 = .ok (.aload_n 1, 1) := by decide +kernel
theorem dX1_lay_90 : decode cX1_lay 90 = .ok (.invokevirtual 100, 3) := by decide +kernel
theorem dX1_lay_93 : decode cX1_lay 93 = .ok (.aload_n 0, 1) := by decide +kernel
theorem dX1_lay_94 : decode cX1_lay 94 = .ok (.aload_n 1, 1) := by decide +kernel
theorem dX1_lay_95 : decode cX1_lay 95 = .ok (.invokevirtual 103, 3) := by decide +kernel
theorem dX1_lay_98 : decode cX1_lay 98 = .ok (.aload_n 0, 1) := by decide +kernel
theorem dX1_lay_99 : decode cX1_lay 99 = .ok (.getfield 14, 3) := by decide +kernel
theorem dX1_lay_102 : decode cX1_lay 102 = .ok (.invokevirtual 106, 3) := by decide +kernel
theorem dX1_lay_105 : decode cX1_lay 105 = .ok (.return_, 1) := by decide +kernel
theorem dX1_placeCorners_0 : decode cX1_placeCorners 0 = .ok (.iconst 0, 1) := by decide +kernel
theorem dX1_placeCorners_1 : decode cX1_placeCorners 1 = .ok (.istore_n 2, 1) := by decide +kernel
theorem dX1_placeCorners_2 : decode cX1_placeCorners 2 = .ok (.iconst 0, 1) := by decide +kernel
theorem dX1_placeCorners_3 : decode cX1_placeCorners 3 = .ok (.istore_n 3, 1) := by decide +kernel
theorem dX1_placeCorners_4 : decode cX1_placeCorners 4 = .ok (.iload_n 3, 1) := by decide +kernel
theorem dX1_placeCorners_5 : decode cX1_placeCorners 5 = .ok (.aload_n 1, 1) := by decide +kernel
theorem dX1_placeCorners_6 : decode cX1_placeCorners 6 = .ok (.getfield 109, 3) := by decide +kernel
theorem dX1_placeCorners_9 : decode cX1_placeCorners 9 = .ok (.if_icmp .ge 28, 3) := by decide +kernel
theorem dX1_placeCorners_12 : decode cX1_placeCorners 12 = .ok (.aload_n 1, 1) := by decide +kernel
theorem dX1_placeCorners_13 : decode cX1_placeCorners 13 = .ok (.getfield 112, 3) := by decide +kernel
theorem dX1_placeCorners_16 : decode cX1_placeCorners 16 = .ok (.iload_n 3, 1) := by decide +kernel
theorem dX1_placeCorners_17 : decode cX1_placeCorners 17 = .ok (.baload, 1) := by decide +kernel
theorem dX1_placeCorners_18 : decode cX1_placeCorners 18 = .ok (.ifCond .eq 13, 3) := by decide +kernel
theorem dX1_placeCorners_21 : decode cX1_placeCorners 21 = .ok (.aload_n 0, 1) := by decide +kernel
theorem dX1_placeCorners_22 : decode cX1_placeCorners 22 = .ok (.getfield 27, 3) := by decide +kernel
theorem dX1_placeCorners_25 : decode cX1_placeCorners 25 = .ok (.iload_n 3, 1) := by decide +kernel
theorem dX1_placeCorners_26 : decode cX1_placeCorners 26 = .ok (.iload_n 2, 1) := by decide +kernel
theorem dX1_placeCorners_27 : decode cX1_placeCorners 27 = .ok (.iastore, 1) := by decide +kernel
theorem dX1_placeCorners_28 : decode cX1_placeCorners 28 = .ok (.iinc 2 1, 3) := by decide +kernel
theorem dX1_placeCorners_31 : decode cX1_placeCorners 31 = .ok (.iinc 3 1, 3) := by decide +kernel
theorem dX1_placeCorners_34 : decode cX1_placeCorners 34 = .ok (.goto (-30), 3) := by decide +kernel
theorem dX1_placeCorners_37 : decode cX1_placeCorners 37 = .ok (.return_, 1) := by decide +kernel
theorem dX1_addEdges_0 : decode cX1_addEdges 0 = .ok (.aload_n 0, 1) := by decide +kernel
theorem dX1_addEdges_1 : decode cX1_addEdges 1 = .ok (.getfield 40, 3) := by decide +kernel
theorem dX1_addEdges_4 : decode cX1_addEdges 4 = .ok (.getfield 44, 3) := by decide +kernel
theorem dX1_addEdges_7 : decode cX1_addEdges 7 = .ok (.istore_n 2, 1) := by decide +kernel
theorem dX1_addEdges_8 : decode cX1_addEdges 8 = .ok (.iconst 0, 1) := by decide +kernel
theorem dX1_addEdges_9 : decode cX1_addEdges 9 = .ok (.istore_n 3, 1) := by decide +kernel
theorem dX1_addEdges_10 : decode cX1_addEdges 10 = .ok (.iconst 0, 1) := by decide +kernel
theorem dX1_addEdges_11 : decode cX1_addEdges 11 = .ok (.istore 4, 2) := by decide +kernel
theorem dX1_addEdges_13 : decode cX1_addEdges 13 = .ok (.iload 4, 2) := by decide +kernel
theorem dX1_addEdges_15 : decode cX1_addEdges 15 = .ok (.aload_n 1, 1) := by decide +kernel
theorem dX1_addEdges_16 : decode cX1_addEdges 16 = .ok (.getfield 86, 3) := by decide +kernel
theorem dX1_addEdges_19 : decode cX1_addEdges 19 = .ok (.if_icmp .ge 96, 3) := by decide +kernel
theorem dX1_addEdges_22 : decode cX1_addEdges 22 = .ok (.aload_n 0, 1) := by decide +kernel
theorem dX1_addEdges_23 : decode cX1_addEdges 23 = .ok (.getfield 24, 3) := by decide +kernel
theorem dX1_addEdges_26 : decode cX1_addEdges 26 = .ok (.iload 4, 2) := by decide +kernel
theorem dX1_addEdges_28 : decode cX1_addEdges 28 = .ok (.iaload, 1) := by decide +kernel
theorem dX1_addEdges_29 : decode cX1_addEdges 29 = .ok (.bipush (-2), 2) := by decide +kernel
theorem dX1_addEdges_31 : decode cX1_addEdges 31 = .ok (.if_icmp .eq 78, 3) := by decide +kernel
theorem dX1_addEdges_34 : decode cX1_addEdges 34 = .ok (.iconst 0, 1) := by decide +kernel
theorem dX1_addEdges_35 : decode cX1_addEdges 35 = .ok (.istore 5, 2) := by decide +kernel
theorem dX1_addEdges_37 : decode cX1_addEdges 37 = .ok (.iload 5, 2) := by decide +kernel
theorem dX1_addEdges_39 : decode cX1_addEdges 39 = .ok (.iload_n 2, 1) := by decide +kernel
theorem dX1_addEdges_40 : decode cX1_addEdges 40 = .ok (.if_icmp .ge 58, 3) := by decide +kernel
theorem dX1_addEdges_43 : decode cX1_addEdges 43 = .ok (.aload_n 0, 1) := by decide +kernel
theorem dX1_addEdges_44 : decode cX1_addEdges 44 = .ok (.getfield 14, 3) := by decide +kernel
theorem dX1_addEdges_47 : decode cX1_addEdges 47 = .ok (.iload_n 2, 1) := by decide +kernel
theorem dX1_addEdges_48 : decode cX1_addEdges 48 = .ok (.aload_n 0, 1) := by decide +kernel
theorem dX1_addEdges_49 : decode cX1_addEdges 49 = .ok (.getfield 27, 3) := by decide +kernel
theorem dX1_addEdges_52 : decode cX1_addEdges 52 = .ok (.aload_n 1, 1) := by decide +kernel
theorem dX1_addEdges_53 : decode cX1_addEdges 53 = .ok (.getfield 116, 3) := by decide +kernel
theorem dX1_addEdges_56 : decode cX1_addEdges 56 = .ok (.iload 4, 2) := by decide +kernel
theorem dX1_addEdges_58 : decode cX1_addEdges 58 = .ok (.iaload, 1) := by decide +kernel
theorem dX1_addEdges_59 : decode cX1_addEdges 59 = .ok (.iaload, 1) := by decide +kernel
theorem dX1_addEdges_60 : decode cX1_addEdges 60 = .ok (.imul, 1) := by decide +kernel
theorem dX1_addEdges_61 : decode cX1_addEdges 61 = .ok (.iload 5, 2) := by decide +kernel
theorem dX1_addEdges_63 : decode cX1_addEdges 63 = .ok (.iadd, 1) := by decide +kernel
theorem dX1_addEdges_64 : decode cX1_addEdges 64 = .ok (.iload_n 2, 1) := by decide +kernel
theorem dX1_addEdges_65 : decode cX1_addEdges 65 = .ok (.aload_n 0, 1) := by decide +kernel
theorem dX1_addEdges_66 : decode cX1_addEdges 66 = .ok (.getfield 27, 3) := by decide +kernel
theorem dX1_addEdges_69 : decode cX1_addEdges 69 = .ok (.aload_n 1, 1) := by decide +kernel
theorem dX1_addEdges_70 : decode cX1_addEdges 70 = .ok (.getfield 119, 3) := by decide +kernel
theorem dX1_addEdges_73 : decode cX1_addEdges 73 = .ok (.iload 4, 2) := by decide +kernel
theorem dX1_addEdges_75 : decode cX1_addEdges 75 = .ok (.iaload, 1) := by decide +kernel
theorem dX1_addEdges_76 : decode cX1_addEdges 76 = .ok (.iaload, 1) := by decide +kernel
theorem dX1_addEdges_77 : decode cX1_addEdges 77 = .ok (.imul, 1) := by decide +kernel
theorem dX1_addEdges_78 : decode cX1_addEdges 78 = .ok (.aload_n 0, 1) := by decide +kernel
theorem dX1_addEdges_79 : decode cX1_addEdges 79 = .ok (.iconst 2, 1) := by decide +kernel
theorem dX1_addEdges_80 : decode cX1_addEdges 80 = .ok (.iload 4, 2) := by decide +kernel
theorem dX1_addEdges_82 : decode cX1_addEdges 82 = .ok (.imul, 1) := by decide +kernel
theorem dX1_addEdges_83 : decode cX1_addEdges 83 = .ok (.iload 5, 2) := by decide +kernel
theorem dX1_addEdges_85 : decode cX1_addEdges 85 = .ok (.invokevirtual 122, 3) := by decide +kernel
theorem dX1_addEdges_88 : decode cX1_addEdges 88 = .ok (.iadd, 1) := by decide +kernel
theorem dX1_addEdges_89 : decode cX1_addEdges 89 = .ok (.invokevirtual 125, 3) := by decide +kernel
theorem dX1_addEdges_92 : decode cX1_addEdges 92 = .ok (.iinc 5 1, 3) := by decide +kernel
theorem dX1_addEdges_95 : decode cX1_addEdges 95 = .ok (.goto (-58), 3) := by decide +kernel
theorem dX1_addEdges_98 : decode cX1_addEdges 98 = .ok (.aload_n 0, 1) := by decide +kernel
theorem dX1_addEdges_99 : decode cX1_addEdges 99 = .ok (.getfield 30, 3) := by decide +kernel
theorem dX1_addEdges_102 : decode cX1_addEdges 102 = .ok (.iload 4, 2) := by decide +kernel
theorem dX1_addEdges_104 : decode cX1_addEdges 104 = .ok (.iload_n 3, 1) := by decide +kernel
theorem dX1_addEdges_105 : decode cX1_addEdges 105 = .ok (.iastore, 1) := by decide +kernel
theorem dX1_addEdges_106 : decode cX1_addEdges 106 = .ok (.iinc 3 1, 3) := by decide +kernel
theorem dX1_addEdges_109 : decode cX1_addEdges 109 = .ok (.iinc 4 1, 3) := by decide +kernel
theorem dX1_addEdges_112 : decode cX1_addEdges 112 = .ok (.goto (-99), 3) := by decide +kernel
theorem dX1_addEdges_115 : decode cX1_addEdges 115 = .ok (.return_, 1) := by decide +kernel
theorem dX1_addPanes_0 : decode cX1_addPanes 0 = .ok (.iconst 0, 1) := by decide +kernel
theorem dX1_addPanes_1 : decode cX1_addPanes 1 = .ok (.istore_n 2, 1) := by decide +kernel
theorem dX1_addPanes_2 : decode cX1_addPanes 2 = .ok (.iload_n 2, 1) := by decide +kernel
theorem dX1_addPanes_3 : decode cX1_addPanes 3 = .ok (.aload_n 1, 1) := by decide +kernel
theorem dX1_addPanes_4 : decode cX1_addPanes 4 = .ok (.getfield 129, 3) := by decide +kernel
theorem dX1_addPanes_7 : decode cX1_addPanes 7 = .ok (.if_icmp .ge 43, 3) := by decide +kernel
theorem dX1_addPanes_10 : decode cX1_addPanes 10 = .ok (.iconst 0, 1) := by decide +kernel
theorem dX1_addPanes_11 : decode cX1_addPanes 11 = .ok (.istore_n 3, 1) := by decide +kernel
theorem dX1_addPanes_12 : decode cX1_addPanes 12 = .ok (.iload_n 3, 1) := by decide +kernel
theorem dX1_addPanes_13 : decode cX1_addPanes 13 = .ok (.aload_n 0, 1) := by decide +kernel
theorem dX1_addPanes_14 : decode cX1_addPanes 14 = .ok (.getfield 40, 3) := by decide +kernel
theorem dX1_addPanes_17 : decode cX1_addPanes 17 = .ok (.getfield 44, 3) := by decide +kernel
theorem dX1_addPanes_20 : decode cX1_addPanes 20 = .ok (.if_icmp .ge 24, 3) := by decide +kernel
theorem dX1_addPanes_23 : decode cX1_addPanes 23 = .ok (.aload_n 1, 1) := by decide +kernel
theorem dX1_addPanes_24 : decode cX1_addPanes 24 = .ok (.iload_n 2, 1) := by decide +kernel
theorem dX1_addPanes_25 : decode cX1_addPanes 25 = .ok (.invokevirtual 132, 3) := by decide +kernel
theorem dX1_addPanes_28 : decode cX1_addPanes 28 = .ok (.ifCond .eq 16, 3) := by decide +kernel
theorem dX1_addPanes_31 : decode cX1_addPanes 31 = .ok (.aload_n 0, 1) := by decide +kernel
theorem dX1_addPanes_32 : decode cX1_addPanes 32 = .ok (.aload_n 1, 1) := by decide +kernel
theorem dX1_addPanes_33 : decode cX1_addPanes 33 = .ok (.iload_n 2, 1) := by decide +kernel
theorem dX1_addPanes_34 : decode cX1_addPanes 34 = .ok (.iload_n 3, 1) := by decide +kernel
theorem dX1_addPanes_35 : decode cX1_addPanes 35 = .ok (.invokevirtual 136, 3) := by decide +kernel
theorem dX1_addPanes_38 : decode cX1_addPanes 38 = .ok (.iinc 3 1, 3) := by decide +kernel
theorem dX1_addPanes_41 : decode cX1_addPanes 41 = .ok (.goto (-29), 3) := by decide +kernel
theorem dX1_addPanes_44 : decode cX1_addPanes 44 = .ok (.iinc 2 1, 3) := by decide +kernel
theorem dX1_addPanes_47 : decode cX1_addPanes 47 = .ok (.goto (-45), 3) := by decide +kernel
theorem dX1_addPanes_50 : decode cX1_addPanes 50 = .ok (.return_, 1) := by decide +kernel
theorem dX1_addPane_0 : decode cX1_addPane 0 = .ok (.iload_n 3, 1) := by decide +kernel
theorem dX1_addPane_1 : decode cX1_addPane 1 = .ok (.istore 4, 2) := by decide +kernel
theorem dX1_addPane_3 : decode cX1_addPane 3 = .ok (.iconst 0, 1) := by decide +kernel
theorem dX1_addPane_4 : decode cX1_addPane 4 = .ok (.istore 5, 2) := by decide +kernel
theorem dX1_addPane_6 : decode cX1_addPane 6 = .ok (.iload 5, 2) := by decide +kernel
theorem dX1_addPane_8 : decode cX1_addPane 8 = .ok (.aload_n 1, 1) := by decide +kernel
theorem dX1_addPane_9 : decode cX1_addPane 9 = .ok (.getfield 140, 3) := by decide +kernel
theorem dX1_addPane_12 : decode cX1_addPane 12 = .ok (.iload_n 2, 1) := by decide +kernel
theorem dX1_addPane_13 : decode cX1_addPane 13 = .ok (.iaload, 1) := by decide +kernel
theorem dX1_addPane_14 : decode cX1_addPane 14 = .ok (.if_icmp .ge 82, 3) := by decide +kernel
theorem dX1_addPane_17 : decode cX1_addPane 17 = .ok (.aload_n 1, 1) := by decide +kernel
theorem dX1_addPane_18 : decode cX1_addPane 18 = .ok (.iload_n 2, 1) := by decide +kernel
theorem dX1_addPane_19 : decode cX1_addPane 19 = .ok (.iload 5, 2) := by decide +kernel
theorem dX1_addPane_21 : decode cX1_addPane 21 = .ok (.invokevirtual 143, 3) := by decide +kernel
theorem dX1_addPane_24 : decode cX1_addPane 24 = .ok (.istore 6, 2) := by decide +kernel
theorem dX1_addPane_26 : decode cX1_addPane 26 = .ok (.aload_n 0, 1) := by decide +kernel
theorem dX1_addPane_27 : decode cX1_addPane 27 = .ok (.iload 6, 2) := by decide +kernel
theorem dX1_addPane_29 : decode cX1_addPane 29 = .ok (.iload 4, 2) := by decide +kernel
theorem dX1_addPane_31 : decode cX1_addPane 31 = .ok (.invokevirtual 122, 3) := by decide +kernel
theorem dX1_addPane_34 : decode cX1_addPane 34 = .ok (.istore 7, 2) := by decide +kernel
theorem dX1_addPane_36 : decode cX1_addPane 36 = .ok (.iload 6, 2) := by decide +kernel
theorem dX1_addPane_38 : decode cX1_addPane 38 = .ok (.iconst 1, 1) := by decide +kernel
theorem dX1_addPane_39 : decode cX1_addPane 39 = .ok (.iand, 1) := by decide +kernel
theorem dX1_addPane_40 : decode cX1_addPane 40 = .ok (.ifCond .ne 8, 3) := by decide +kernel
theorem dX1_addPane_43 : decode cX1_addPane 43 = .ok (.iload 4, 2) := by decide +kernel
theorem dX1_addPane_45 : decode cX1_addPane 45 = .ok (.goto 5, 3) := by decide +kernel
theorem dX1_addPane_48 : decode cX1_addPane 48 = .ok (.iload 7, 2) := by decide +kernel
theorem dX1_addPane_50 : decode cX1_addPane 50 = .ok (.istore 8, 2) := by decide +kernel
theorem dX1_addPane_52 : decode cX1_addPane 52 = .ok (.aload_n 0, 1) := by decide +kernel
theorem dX1_addPane_53 : decode cX1_addPane 53 = .ok (.getfield 33, 3) := by decide +kernel
theorem dX1_addPane_56 : decode cX1_addPane 56 = .ok (.iload 5, 2) := by decide +kernel
theorem dX1_addPane_58 : decode cX1_addPane 58 = .ok (.iconst 2, 1) := by decide +kernel
theorem dX1_addPane_59 : decode cX1_addPane 59 = .ok (.aload_n 0, 1) := by decide +kernel
theorem dX1_addPane_60 : decode cX1_addPane 60 = .ok (.getfield 40, 3) := by decide +kernel
theorem dX1_addPane_63 : decode cX1_addPane 63 = .ok (.getfield 44, 3) := by decide +kernel
theorem dX1_addPane_66 : decode cX1_addPane 66 = .ok (.aload_n 0, 1) := by decide +kernel
theorem dX1_addPane_67 : decode cX1_addPane 67 = .ok (.getfield 30, 3) := by decide +kernel
theorem dX1_addPane_70 : decode cX1_addPane 70 = .ok (.iload 6, 2) := by decide +kernel
theorem dX1_addPane_72 : decode cX1_addPane 72 = .ok (.iconst 1, 1) := by decide +kernel
theorem dX1_addPane_73 : decode cX1_addPane 73 = .ok (.ishr, 1) := by decide +kernel
theorem dX1_addPane_74 : decode cX1_addPane 74 = .ok (.iaload, 1) := by decide +kernel
theorem dX1_addPane_75 : decode cX1_addPane 75 = .ok (.imul, 1) := by decide +kernel
theorem dX1_addPane_76 : decode cX1_addPane 76 = .ok (.iload 8, 2) := by decide +kernel
theorem dX1_addPane_78 : decode cX1_addPane 78 = .ok (.iadd, 1) := by decide +kernel
theorem dX1_addPane_79 : decode cX1_addPane 79 = .ok (.imul, 1) := by decide +kernel
theorem dX1_addPane_80 : decode cX1_addPane 80 = .ok (.iload 6, 2) := by decide +kernel
theorem dX1_addPane_82 : decode cX1_addPane 82 = .ok (.iconst 1, 1) := by decide +kernel
theorem dX1_addPane_83 : decode cX1_addPane 83 = .ok (.iand, 1) := by decide +kernel
theorem dX1_addPane_84 : decode cX1_addPane 84 = .ok (.iadd, 1) := by decide +kernel
theorem dX1_addPane_85 : decode cX1_addPane 85 = .ok (.iastore, 1) := by decide +kernel
theorem dX1_addPane_86 : decode cX1_addPane 86 = .ok (.iload 7, 2) := by decide +kernel
theorem dX1_addPane_88 : decode cX1_addPane 88 = .ok (.istore 4, 2) := by decide +kernel
theorem dX1_addPane_90 : decode cX1_addPane 90 = .ok (.iinc 5 1, 3) := by decide +kernel
theorem dX1_addPane_93 : decode cX1_addPane 93 = .ok (.goto (-87), 3) := by decide +kernel
theorem dX1_addPane_96 : decode cX1_addPane 96 = .ok (.aload_n 0, 1) := by decide +kernel
theorem dX1_addPane_97 : decode cX1_addPane 97 = .ok (.getfield 14, 3) := by decide +kernel
theorem dX1_addPane_100 : decode cX1_addPane 100 = .ok (.aload_n 0, 1) := by decide +kernel
theorem dX1_addPane_101 : decode cX1_addPane 101 = .ok (.getfield 33, 3) := by decide +kernel
theorem dX1_addPane_104 : decode cX1_addPane 104 = .ok (.aload_n 1, 1) := by decide +kernel
theorem dX1_addPane_105 : decode cX1_addPane 105 = .ok (.getfield 140, 3) := by decide +kernel
theorem dX1_addPane_108 : decode cX1_addPane 108 = .ok (.iload_n 2, 1) := by decide +kernel
theorem dX1_addPane_109 : decode cX1_addPane 109 = .ok (.iaload, 1) := by decide +kernel
theorem dX1_addPane_110 : decode cX1_addPane 110 = .ok (.invokevirtual 146, 3) := by decide +kernel
theorem dX1_addPane_113 : decode cX1_addPane 113 = .ok (.return_, 1) := by decide +kernel
theorem dX2_init_0 : decode cX2_init 0 = .ok (.aload_n 0, 1) := by decide +kernel
theorem dX2_init_1 : decode cX2_init 1 = .ok (.invokespecial 3, 3) := by decide +kernel
theorem dX2_init_4 : decode cX2_init 4 = .ok (.aload_n 0, 1) := by decide +kernel
theorem dX2_init_5 : decode cX2_init 5 = .ok (.sipush 1536, 3) := by decide +kernel
theorem dX2_init_8 : decode cX2_init 8 = .ok (.newarray .long, 2) := by decide +kernel
theorem dX2_init_10 : decode cX2_init 10 = .ok (.putfield 9, 3) := by decide +kernel
theorem dX2_init_13 : decode cX2_init 13 = .ok (.aload_n 0, 1) := by decide +kernel
theorem dX2_init_14 : decode cX2_init 14 = .ok (.bipush 8, 2) := by decide +kernel
theorem dX2_init_16 : decode cX2_init 16 = .ok (.newarray .long, 2) := by decide +kernel
theorem dX2_init_18 : decode cX2_init 18 = .ok (.putfield 15, 3) := by decide +kernel
theorem dX2_init_21 : decode cX2_init 21 = .ok (.aload_n 0, 1) := by decide +kernel
theorem dX2_init_22 : decode cX2_init 22 = .ok (.bipush 8, 2) := by decide +kernel
theorem dX2_init_24 : decode cX2_init 24 = .ok (.newarray .int, 2) := by decide +kernel
theorem dX2_init_26 : decode cX2_init 26 = .ok (.putfield 18, 3) := by decide +kernel
theorem dX2_init_29 : decode cX2_init 29 = .ok (.return_, 1) := by decide +kernel
theorem dX2_rankOfEdges_0 : decode cX2_rankOfEdges 0 = .ok (.aload_n 0, 1) := by decide +kernel
theorem dX2_rankOfEdges_1 : decode cX2_rankOfEdges 1 = .ok (.aload_n 1, 1) := by decide +kernel
theorem dX2_rankOfEdges_2 : decode cX2_rankOfEdges 2 = .ok (.getfield 22, 3) := by decide +kernel
theorem dX2_rankOfEdges_5 : decode cX2_rankOfEdges 5 = .ok (.aload_n 1, 1) := by decide +kernel
theorem dX2_rankOfEdges_6 : decode cX2_rankOfEdges 6 = .ok (.getfield 28, 3) := by decide +kernel
theorem dX2_rankOfEdges_9 : decode cX2_rankOfEdges 9 = .ok (.invokevirtual 31, 3) := by decide +kernel
theorem dX2_rankOfEdges_12 : decode cX2_rankOfEdges 12 = .ok (.iconst 0, 1) := by decide +kernel
theorem dX2_rankOfEdges_13 : decode cX2_rankOfEdges 13 = .ok (.istore_n 3, 1) := by decide +kernel
theorem dX2_rankOfEdges_14 : decode cX2_rankOfEdges 14 = .ok (.iload_n 3, 1) := by decide +kernel
theorem dX2_rankOfEdges_15 : decode cX2_rankOfEdges 15 = .ok (.aload_n 1, 1) := by decide +kernel
theorem dX2_rankOfEdges_16 : decode cX2_rankOfEdges 16 = .ok (.getfield 22, 3) := by decide +kernel
theorem dX2_rankOfEdges_19 : decode cX2_rankOfEdges 19 = .ok (.if_icmp .ge 53, 3) := by decide +kernel
theorem dX2_rankOfEdges_22 : decode cX2_rankOfEdges 22 = .ok (.aload_n 0, 1) := by decide +kernel
theorem dX2_rankOfEdges_23 : decode cX2_rankOfEdges 23 = .ok (.getfield 9, 3) := by decide +kernel
theorem dX2_rankOfEdges_26 : decode cX2_rankOfEdges 26 = .ok (.iload_n 3, 1) := by decide +kernel
theorem dX2_rankOfEdges_27 : decode cX2_rankOfEdges 27 = .ok (.aload_n 0, 1) := by decide +kernel
theorem dX2_rankOfEdges_28 : decode cX2_rankOfEdges 28 = .ok (.getfield 35, 3) := by decide +kernel
theorem dX2_rankOfEdges_31 : decode cX2_rankOfEdges 31 = .ok (.imul, 1) := by decide +kernel
theorem dX2_rankOfEdges_32 : decode cX2_rankOfEdges 32 = .ok (.aload_n 1, 1) := by decide +kernel
theorem dX2_rankOfEdges_33 : decode cX2_rankOfEdges 33 = .ok (.getfield 38, 3) := by decide +kernel
theorem dX2_rankOfEdges_36 : decode cX2_rankOfEdges 36 = .ok (.iload_n 3, 1) := by decide +kernel
theorem dX2_rankOfEdges_37 : decode cX2_rankOfEdges 37 = .ok (.iaload, 1) := by decide +kernel
theorem dX2_rankOfEdges_38 : decode cX2_rankOfEdges 38 = .ok (.iadd, 1) := by decide +kernel
theorem dX2_rankOfEdges_39 : decode cX2_rankOfEdges 39 = .ok (.dup2, 1) := by decide +kernel
theorem dX2_rankOfEdges_40 : decode cX2_rankOfEdges 40 = .ok (.laload, 1) := by decide +kernel
theorem dX2_rankOfEdges_41 : decode cX2_rankOfEdges 41 = .ok (.lconst 1, 1) := by decide +kernel
theorem dX2_rankOfEdges_42 : decode cX2_rankOfEdges 42 = .ok (.ladd, 1) := by decide +kernel
theorem dX2_rankOfEdges_43 : decode cX2_rankOfEdges 43 = .ok (.lastore, 1) := by decide +kernel
theorem dX2_rankOfEdges_44 : decode cX2_rankOfEdges 44 = .ok (.aload_n 0, 1) := by decide +kernel
theorem dX2_rankOfEdges_45 : decode cX2_rankOfEdges 45 = .ok (.getfield 9, 3) := by decide +kernel
theorem dX2_rankOfEdges_48 : decode cX2_rankOfEdges 48 = .ok (.iload_n 3, 1) := by decide +kernel
theorem dX2_rankOfEdges_49 : decode cX2_rankOfEdges 49 = .ok (.aload_n 0, 1) := by decide +kernel
theorem dX2_rankOfEdges_50 : decode cX2_rankOfEdges 50 = .ok (.getfield 35, 3) := by decide +kernel
theorem dX2_rankOfEdges_53 : decode cX2_rankOfEdges 53 = .ok (.imul, 1) := by decide +kernel
theorem dX2_rankOfEdges_54 : decode cX2_rankOfEdges 54 = .ok (.aload_n 1, 1) := by decide +kernel
theorem dX2_rankOfEdges_55 : decode cX2_rankOfEdges 55 = .ok (.getfield 41, 3) := by decide +kernel
theorem dX2_rankOfEdges_58 : decode cX2_rankOfEdges 58 = .ok (.iload_n 3, 1) := by decide +kernel
theorem dX2_rankOfEdges_59 : decode cX2_rankOfEdges 59 = .ok (.iaload, 1) := by decide +kernel
theorem dX2_rankOfEdges_60 : decode cX2_rankOfEdges 60 = .ok (.iadd, 1) := by decide +kernel
theorem dX2_rankOfEdges_61 : decode cX2_rankOfEdges 61 = .ok (.dup2, 1) := by decide +kernel
theorem dX2_rankOfEdges_62 : decode cX2_rankOfEdges 62 = .ok (.laload, 1) := by decide +kernel
theorem dX2_rankOfEdges_63 : decode cX2_rankOfEdges 63 = .ok (.lconst 1, 1) := by decide +kernel
theorem dX2_rankOfEdges_64 : decode cX2_rankOfEdges 64 = .ok (.lsub, 1) := by decide +kernel
theorem dX2_rankOfEdges_65 : decode cX2_rankOfEdges 65 = .ok (.lastore, 1) := by decide +kernel
theorem dX2_rankOfEdges_66 : decode cX2_rankOfEdges 66 = .ok (.iinc 3 1, 3) := by decide +kernel
theorem dX2_rankOfEdges_69 : decode cX2_rankOfEdges 69 = .ok (.goto (-55), 3) := by decide +kernel
theorem dX2_rankOfEdges_72 : decode cX2_rankOfEdges 72 = .ok (.iload_n 2, 1) := by decide +kernel
theorem dX2_rankOfEdges_73 : decode cX2_rankOfEdges 73 = .ok (.ifCond .ne 10, 3) := by decide +kernel
theorem dX2_rankOfEdges_76 : decode cX2_rankOfEdges 76 = .ok (.aload_n 0, 1) := by decide +kernel
theorem dX2_rankOfEdges_77 : decode cX2_rankOfEdges 77 = .ok (.invokevirtual 44, 3) := by decide +kernel
theorem dX2_rankOfEdges_80 : decode cX2_rankOfEdges 80 = .ok (.goto 8, 3) := by decide +kernel
theorem dX2_rankOfEdges_83 : decode cX2_rankOfEdges 83 = .ok (.aload_n 0, 1) := by decide +kernel
theorem dX2_rankOfEdges_84 : decode cX2_rankOfEdges 84 = .ok (.iload_n 2, 1) := by decide +kernel
theorem dX2_rankOfEdges_85 : decode cX2_rankOfEdges 85 = .ok (.invokevirtual 48, 3) := by decide +kernel
theorem dX2_rankOfEdges_88 : decode cX2_rankOfEdges 88 = .ok (.ireturn, 1) := by decide +kernel
theorem dX2_rankOfPanes_0 : decode cX2_rankOfPanes 0 = .ok (.aload_n 0, 1) := by decide +kernel
theorem dX2_rankOfPanes_1 : decode cX2_rankOfPanes 1 = .ok (.aload_n 1, 1) := by decide +kernel
theorem dX2_rankOfPanes_2 : decode cX2_rankOfPanes 2 = .ok (.invokevirtual 52, 3) := by decide +kernel
theorem dX2_rankOfPanes_5 : decode cX2_rankOfPanes 5 = .ok (.iload_n 2, 1) := by decide +kernel
theorem dX2_rankOfPanes_6 : decode cX2_rankOfPanes 6 = .ok (.ifCond .ne 10, 3) := by decide +kernel
theorem dX2_rankOfPanes_9 : decode cX2_rankOfPanes 9 = .ok (.aload_n 0, 1) := by decide +kernel
theorem dX2_rankOfPanes_10 : decode cX2_rankOfPanes 10 = .ok (.invokevirtual 44, 3) := by decide +kernel
theorem dX2_rankOfPanes_13 : decode cX2_rankOfPanes 13 = .ok (.goto 8, 3) := by decide +kernel
theorem dX2_rankOfPanes_16 : decode cX2_rankOfPanes 16 = .ok (.aload_n 0, 1) := by decide +kernel
theorem dX2_rankOfPanes_17 : decode cX2_rankOfPanes 17 = .ok (.iload_n 2, 1) := by decide +kernel
theorem dX2_rankOfPanes_18 : decode cX2_rankOfPanes 18 = .ok (.invokevirtual 48, 3) := by decide +kernel
theorem dX2_rankOfPanes_21 : decode cX2_rankOfPanes 21 = .ok (.ireturn, 1) := by decide +kernel
theorem dX2_shape_0 : decode cX2_shape 0 = .ok (.aload_n 0, 1) := by decide +kernel
theorem dX2_shape_1 : decode cX2_shape 1 = .ok (.iload_n 1, 1) := by decide +kernel
theorem dX2_shape_2 : decode cX2_shape 2 = .ok (.putfield 56, 3) := by decide +kernel
theorem dX2_shape_5 : decode cX2_shape 5 = .ok (.aload_n 0, 1) := by decide +kernel
theorem dX2_shape_6 : decode cX2_shape 6 = .ok (.iload_n 2, 1) := by decide +kernel
theorem dX2_shape_7 : decode cX2_shape 7 = .ok (.putfield 35, 3) := by decide +kernel
theorem dX2_shape_10 : decode cX2_shape 10 = .ok (.aload_n 0, 1) := by decide +kernel
theorem dX2_shape_11 : decode cX2_shape 11 = .ok (.getfield 9, 3) := by decide +kernel
theorem dX2_shape_14 : decode cX2_shape 14 = .ok (.lconst 0, 1) := by decide +kernel
theorem dX2_shape_15 : decode cX2_shape 15 = .ok (.invokestatic 59, 3) := by decide +kernel
theorem dX2_shape_18 : decode cX2_shape 18 = .ok (.return_, 1) := by decide +kernel
theorem dX2_fillPanes_0 : decode cX2_fillPanes 0 = .ok (.aload_n 0, 1) := by decide +kernel
theorem dX2_fillPanes_1 : decode cX2_fillPanes 1 = .ok (.aload_n 1, 1) := by decide +kernel
theorem dX2_fillPanes_2 : decode cX2_fillPanes 2 = .ok (.getfield 65, 3) := by decide +kernel
theorem dX2_fillPanes_5 : decode cX2_fillPanes 5 = .ok (.aload_n 1, 1) := by decide +kernel
theorem dX2_fillPanes_6 : decode cX2_fillPanes 6 = .ok (.getfield 22, 3) := by decide +kernel
theorem dX2_fillPanes_9 : decode cX2_fillPanes 9 = .ok (.invokevirtual 31, 3) := by decide +kernel
theorem dX2_fillPanes_12 : decode cX2_fillPanes 12 = .ok (.iconst 0, 1) := by decide +kernel
theorem dX2_fillPanes_13 : decode cX2_fillPanes 13 = .ok (.istore_n 2, 1) := by decide +kernel
theorem dX2_fillPanes_14 : decode cX2_fillPanes 14 = .ok (.iload_n 2, 1) := by decide +kernel
theorem dX2_fillPanes_15 : decode cX2_fillPanes 15 = .ok (.aload_n 1, 1) := by decide +kernel
theorem dX2_fillPanes_16 : decode cX2_fillPanes 16 = .ok (.getfield 65, 3) := by decide +kernel
theorem dX2_fillPanes_19 : decode cX2_fillPanes 19 = .ok (.if_icmp .ge 68, 3) := by decide +kernel
theorem dX2_fillPanes_22 : decode cX2_fillPanes 22 = .ok (.iconst 0, 1) := by decide +kernel
theorem dX2_fillPanes_23 : decode cX2_fillPanes 23 = .ok (.istore_n 3, 1) := by decide +kernel
theorem dX2_fillPanes_24 : decode cX2_fillPanes 24 = .ok (.iload_n 3, 1) := by decide +kernel
theorem dX2_fillPanes_25 : decode cX2_fillPanes 25 = .ok (.aload_n 1, 1) := by decide +kernel
theorem dX2_fillPanes_26 : decode cX2_fillPanes 26 = .ok (.getfield 68, 3) := by decide +kernel
theorem dX2_fillPanes_29 : decode cX2_fillPanes 29 = .ok (.iload_n 2, 1) := by decide +kernel
theorem dX2_fillPanes_30 : decode cX2_fillPanes 30 = .ok (.iaload, 1) := by decide +kernel
theorem dX2_fillPanes_31 : decode cX2_fillPanes 31 = .ok (.if_icmp .ge 50, 3) := by decide +kernel
theorem dX2_fillPanes_34 : decode cX2_fillPanes 34 = .ok (.aload_n 1, 1) := by decide +kernel
theorem dX2_fillPanes_35 : decode cX2_fillPanes 35 = .ok (.iload_n 2, 1) := by decide +kernel
theorem dX2_fillPanes_36 : decode cX2_fillPanes 36 = .ok (.iload_n 3, 1) := by decide +kernel
theorem dX2_fillPanes_37 : decode cX2_fillPanes 37 = .ok (.invokevirtual 71, 3) := by decide +kernel
theorem dX2_fillPanes_40 : decode cX2_fillPanes 40 = .ok (.istore 4, 2) := by decide +kernel
theorem dX2_fillPanes_42 : decode cX2_fillPanes 42 = .ok (.aload_n 0, 1) := by decide +kernel
theorem dX2_fillPanes_43 : decode cX2_fillPanes 43 = .ok (.getfield 9, 3) := by decide +kernel
theorem dX2_fillPanes_46 : decode cX2_fillPanes 46 = .ok (.iload_n 2, 1) := by decide +kernel
theorem dX2_fillPanes_47 : decode cX2_fillPanes 47 = .ok (.aload_n 0, 1) := by decide +kernel
theorem dX2_fillPanes_48 : decode cX2_fillPanes 48 = .ok (.getfield 35, 3) := by decide +kernel
theorem dX2_fillPanes_51 : decode cX2_fillPanes 51 = .ok (.imul, 1) := by decide +kernel
theorem dX2_fillPanes_52 : decode cX2_fillPanes 52 = .ok (.iload 4, 2) := by decide +kernel
theorem dX2_fillPanes_54 : decode cX2_fillPanes 54 = .ok (.iconst 1, 1) := by decide +kernel
theorem dX2_fillPanes_55 : decode cX2_fillPanes 55 = .ok (.ishr, 1) := by decide +kernel
theorem dX2_fillPanes_56 : decode cX2_fillPanes 56 = .ok (.iadd, 1) := by decide +kernel
theorem dX2_fillPanes_57 : decode cX2_fillPanes 57 = .ok (.dup2, 1) := by decide +kernel
theorem dX2_fillPanes_58 : decode cX2_fillPanes 58 = .ok (.laload, 1) := by decide +kernel
theorem dX2_fillPanes_59 : decode cX2_fillPanes 59 = .ok (.iload 4, 2) := by decide +kernel
theorem dX2_fillPanes_61 : decode cX2_fillPanes 61 = .ok (.iconst 1, 1) := by decide +kernel
theorem dX2_fillPanes_62 : decode cX2_fillPanes 62 = .ok (.iand, 1) := by decide +kernel
theorem dX2_fillPanes_63 : decode cX2_fillPanes 63 = .ok (.ifCond .ne 7, 3) := by decide +kernel
theorem dX2_fillPanes_66 : decode cX2_fillPanes 66 = .ok (.lconst 1, 1) := by decide +kernel
theorem dX2_fillPanes_67 : decode cX2_fillPanes 67 = .ok (.goto 6, 3) := by decide +kernel
theorem dX2_fillPanes_70 : decode cX2_fillPanes 70 = .ok (.ldc2_w 75, 3) := by decide +kernel
theorem dX2_fillPanes_73 : decode cX2_fillPanes 73 = .ok (.ladd, 1) := by decide +kernel
theorem dX2_fillPanes_74 : decode cX2_fillPanes 74 = .ok (.lastore, 1) := by decide +kernel
theorem dX2_fillPanes_75 : decode cX2_fillPanes 75 = .ok (.iinc 3 1, 3) := by decide +kernel
theorem dX2_fillPanes_78 : decode cX2_fillPanes 78 = .ok (.goto (-54), 3) := by decide +kernel
theorem dX2_fillPanes_81 : decode cX2_fillPanes 81 = .ok (.iinc 2 1, 3) := by decide +kernel
theorem dX2_fillPanes_84 : decode cX2_fillPanes 84 = .ok (.goto (-70), 3) := by decide +kernel
theorem dX2_fillPanes_87 : decode cX2_fillPanes 87 = .ok (.return_, 1) := by decide +kernel
theorem dX2_keepBelow_0 : decode cX2_keepBelow 0 = .ok (.iconst 0, 1) := by decide +kernel
theorem dX2_keepBelow_1 : decode cX2_keepBelow 1 = .ok (.istore_n 3, 1) := by decide +kernel
theorem dX2_keepBelow_2 : decode cX2_keepBelow 2 = .ok (.iload_n 3, 1) := by decide +kernel
theorem dX2_keepBelow_3 : decode cX2_keepBelow 3 = .ok (.aload_n 0, 1) := by decide +kernel
theorem dX2_keepBelow_4 : decode cX2_keepBelow 4 = .ok (.getfield 56, 3) := by decide +kernel
theorem dX2_keepBelow_7 : decode cX2_keepBelow 7 = .ok (.aload_n 0, 1) := by decide +kernel
theorem dX2_keepBelow_8 : decode cX2_keepBelow 8 = .ok (.getfield 35, 3) := by decide +kernel
theorem dX2_keepBelow_11 : decode cX2_keepBelow 11 = .ok (.imul, 1) := by decide +kernel
theorem dX2_keepBelow_12 : decode cX2_keepBelow 12 = .ok (.if_icmp .ge 25, 3) := by decide +kernel
theorem dX2_keepBelow_15 : decode cX2_keepBelow 15 = .ok (.aload_n 0, 1) := by decide +kernel
theorem dX2_keepBelow_16 : decode cX2_keepBelow 16 = .ok (.getfield 9, 3) := by decide +kernel
theorem dX2_keepBelow_19 : decode cX2_keepBelow 19 = .ok (.iload_n 3, 1) := by decide +kernel
theorem dX2_keepBelow_20 : decode cX2_keepBelow 20 = .ok (.aload_n 0, 1) := by decide +kernel
theorem dX2_keepBelow_21 : decode cX2_keepBelow 21 = .ok (.getfield 9, 3) := by decide +kernel
theorem dX2_keepBelow_24 : decode cX2_keepBelow 24 = .ok (.iload_n 3, 1) := by decide +kernel
theorem dX2_keepBelow_25 : decode cX2_keepBelow 25 = .ok (.laload, 1) := by decide +kernel
theorem dX2_keepBelow_26 : decode cX2_keepBelow 26 = .ok (.lload_n 1, 1) := by decide +kernel
theorem dX2_keepBelow_27 : decode cX2_keepBelow 27 = .ok (.invokestatic 77, 3) := by decide +kernel
theorem dX2_keepBelow_30 : decode cX2_keepBelow 30 = .ok (.lastore, 1) := by decide +kernel
theorem dX2_keepBelow_31 : decode cX2_keepBelow 31 = .ok (.iinc 3 1, 3) := by decide +kernel
theorem dX2_keepBelow_34 : decode cX2_keepBelow 34 = .ok (.goto (-32), 3) := by decide +kernel
theorem dX2_keepBelow_37 : decode cX2_keepBelow 37 = .ok (.return_, 1) := by decide +kernel
theorem dX2_rankModulo_0 : decode cX2_rankModulo 0 = .ok (.aload_n 0, 1) := by decide +kernel
theorem dX2_rankModulo_1 : decode cX2_rankModulo 1 = .ok (.iload_n 1, 1) := by decide +kernel
theorem dX2_rankModulo_2 : decode cX2_rankModulo 2 = .ok (.i2l, 1) := by decide +kernel
theorem dX2_rankModulo_3 : decode cX2_rankModulo 3 = .ok (.invokevirtual 83, 3) := by decide +kernel
theorem dX2_rankModulo_6 : decode cX2_rankModulo 6 = .ok (.iconst 0, 1) := by decide +kernel
theorem dX2_rankModulo_7 : decode cX2_rankModulo 7 = .ok (.istore_n 2, 1) := by decide +kernel
theorem dX2_rankModulo_8 : decode cX2_rankModulo 8 = .ok (.iconst 0, 1) := by decide +kernel
theorem dX2_rankModulo_9 : decode cX2_rankModulo 9 = .ok (.istore_n 3, 1) := by decide +kernel
theorem dX2_rankModulo_10 : decode cX2_rankModulo 10 = .ok (.iload_n 3, 1) := by decide +kernel
theorem dX2_rankModulo_11 : decode cX2_rankModulo 11 = .ok (.aload_n 0, 1) := by decide +kernel
theorem dX2_rankModulo_12 : decode cX2_rankModulo 12 = .ok (.getfield 35, 3) := by decide +kernel
theorem dX2_rankModulo_15 : decode cX2_rankModulo 15 = .ok (.if_icmp .ge 48, 3) := by decide +kernel
theorem dX2_rankModulo_18 : decode cX2_rankModulo 18 = .ok (.iload_n 2, 1) := by decide +kernel
theorem dX2_rankModulo_19 : decode cX2_rankModulo 19 = .ok (.aload_n 0, 1) := by decide +kernel
theorem dX2_rankModulo_20 : decode cX2_rankModulo 20 = .ok (.getfield 56, 3) := by decide +kernel
theorem dX2_rankModulo_23 : decode cX2_rankModulo 23 = .ok (.if_icmp .ge 40, 3) := by decide +kernel
theorem dX2_rankModulo_26 : decode cX2_rankModulo 26 = .ok (.aload_n 0, 1) := by decide +kernel
theorem dX2_rankModulo_27 : decode cX2_rankModulo 27 = .ok (.iload_n 3, 1) := by decide +kernel
theorem dX2_rankModulo_28 : decode cX2_rankModulo 28 = .ok (.iload_n 2, 1) := by decide +kernel
theorem dX2_rankModulo_29 : decode cX2_rankModulo 29 = .ok (.invokevirtual 87, 3) := by decide +kernel
theorem dX2_rankModulo_32 : decode cX2_rankModulo 32 = .ok (.istore 4, 2) := by decide +kernel
theorem dX2_rankModulo_34 : decode cX2_rankModulo 34 = .ok (.iload 4, 2) := by decide +kernel
theorem dX2_rankModulo_36 : decode cX2_rankModulo 36 = .ok (.iconst (-1), 1) := by decide +kernel
theorem dX2_rankModulo_37 : decode cX2_rankModulo 37 = .ok (.if_icmp .eq 20, 3) := by decide +kernel
theorem dX2_rankModulo_40 : decode cX2_rankModulo 40 = .ok (.aload_n 0, 1) := by decide +kernel
theorem dX2_rankModulo_41 : decode cX2_rankModulo 41 = .ok (.iload 4, 2) := by decide +kernel
theorem dX2_rankModulo_43 : decode cX2_rankModulo 43 = .ok (.iload_n 2, 1) := by decide +kernel
theorem dX2_rankModulo_44 : decode cX2_rankModulo 44 = .ok (.invokevirtual 90, 3) := by decide +kernel
theorem dX2_rankModulo_47 : decode cX2_rankModulo 47 = .ok (.aload_n 0, 1) := by decide +kernel
theorem dX2_rankModulo_48 : decode cX2_rankModulo 48 = .ok (.iload_n 2, 1) := by decide +kernel
theorem dX2_rankModulo_49 : decode cX2_rankModulo 49 = .ok (.iload_n 3, 1) := by decide +kernel
theorem dX2_rankModulo_50 : decode cX2_rankModulo 50 = .ok (.iload_n 1, 1) := by decide +kernel
theorem dX2_rankModulo_51 : decode cX2_rankModulo 51 = .ok (.invokevirtual 93, 3) := by decide +kernel
theorem dX2_rankModulo_54 : decode cX2_rankModulo 54 = .ok (.iinc 2 1, 3) := by decide +kernel
theorem dX2_rankModulo_57 : decode cX2_rankModulo 57 = .ok (.iinc 3 1, 3) := by decide +kernel
theorem dX2_rankModulo_60 : decode cX2_rankModulo 60 = .ok (.goto (-50), 3) := by decide +kernel
theorem dX2_rankModulo_63 : decode cX2_rankModulo 63 = .ok (.iload_n 2, 1) := by decide +kernel
theorem dX2_rankModulo_64 : decode cX2_rankModulo 64 = .ok (.ireturn, 1) := by decide +kernel
theorem dX2_rowWith_0 : decode cX2_rowWith 0 = .ok (.iload_n 2, 1) := by decide +kernel
theorem dX2_rowWith_1 : decode cX2_rowWith 1 = .ok (.istore_n 3, 1) := by decide +kernel
theorem dX2_rowWith_2 : decode cX2_rowWith 2 = .ok (.iload_n 3, 1) := by decide +kernel
theorem dX2_rowWith_3 : decode cX2_rowWith 3 = .ok (.aload_n 0, 1) := by decide +kernel
theorem dX2_rowWith_4 : decode cX2_rowWith 4 = .ok (.getfield 56, 3) := by decide +kernel
theorem dX2_rowWith_7 : decode cX2_rowWith 7 = .ok (.if_icmp .ge 29, 3) := by decide +kernel
theorem dX2_rowWith_10 : decode cX2_rowWith 10 = .ok (.aload_n 0, 1) := by decide +kernel
theorem dX2_rowWith_11 : decode cX2_rowWith 11 = .ok (.getfield 9, 3) := by decide +kernel
theorem dX2_rowWith_14 : decode cX2_rowWith 14 = .ok (.iload_n 3, 1) := by decide +kernel
theorem dX2_rowWith_15 : decode cX2_rowWith 15 = .ok (.aload_n 0, 1) := by decide +kernel
theorem dX2_rowWith_16 : decode cX2_rowWith 16 = .ok (.getfield 35, 3) := by decide +kernel
theorem dX2_rowWith_19 : decode cX2_rowWith 19 = .ok (.imul, 1) := by decide +kernel
theorem dX2_rowWith_20 : decode cX2_rowWith 20 = .ok (.iload_n 1, 1) := by decide +kernel
theorem dX2_rowWith_21 : decode cX2_rowWith 21 = .ok (.iadd, 1) := by decide +kernel
theorem dX2_rowWith_22 : decode cX2_rowWith 22 = .ok (.laload, 1) := by decide +kernel
theorem dX2_rowWith_23 : decode cX2_rowWith 23 = .ok (.lconst 0, 1) := by decide +kernel
theorem dX2_rowWith_24 : decode cX2_rowWith 24 = .ok (.lcmp, 1) := by decide +kernel
theorem dX2_rowWith_25 : decode cX2_rowWith 25 = .ok (.ifCond .eq 5, 3) := by decide +kernel
theorem dX2_rowWith_28 : decode cX2_rowWith 28 = .ok (.iload_n 3, 1) := by decide +kernel
theorem dX2_rowWith_29 : decode cX2_rowWith 29 = .ok (.ireturn, 1) := by decide +kernel
theorem dX2_rowWith_30 : decode cX2_rowWith 30 = .ok (.iinc 3 1, 3) := by decide +kernel
theorem dX2_rowWith_33 : decode cX2_rowWith 33 = .ok (.goto (-31), 3) := by decide +kernel
theorem dX2_rowWith_36 : decode cX2_rowWith 36 = .ok (.iconst (-1), 1) := by decide +kernel
theorem dX2_rowWith_37 : decode cX2_rowWith 37 = .ok (.ireturn, 1) := by decide +kernel
theorem dX2_swapRows_0 : decode cX2_swapRows 0 = .ok (.iconst 0, 1) := by decide +kernel
theorem dX2_swapRows_1 : decode cX2_swapRows 1 = .ok (.istore_n 3, 1) := by decide +kernel
theorem dX2_swapRows_2 : decode cX2_swapRows 2 = .ok (.iload_n 3, 1) := by decide +kernel
theorem dX2_swapRows_3 : decode cX2_swapRows 3 = .ok (.aload_n 0, 1) := by decide +kernel
theorem dX2_swapRows_4 : decode cX2_swapRows 4 = .ok (.getfield 35, 3) := by decide +kernel
theorem dX2_swapRows_7 : decode cX2_swapRows 7 = .ok (.if_icmp .ge 70, 3) := by decide +kernel
theorem dX2_swapRows_10 : decode cX2_swapRows 10 = .ok (.iload_n 1, 1) := by decide +kernel
theorem dX2_swapRows_11 : decode cX2_swapRows 11 = .ok (.iload_n 2, 1) := by decide +kernel
theorem dX2_swapRows_12 : decode cX2_swapRows 12 = .ok (.if_icmp .eq 65, 3) := by decide +kernel
theorem dX2_swapRows_15 : decode cX2_swapRows 15 = .ok (.aload_n 0, 1) := by decide +kernel
theorem dX2_swapRows_16 : decode cX2_swapRows 16 = .ok (.getfield 9, 3) := by decide +kernel
theorem dX2_swapRows_19 : decode cX2_swapRows 19 = .ok (.iload_n 1, 1) := by decide +kernel
theorem dX2_swapRows_20 : decode cX2_swapRows 20 = .ok (.aload_n 0, 1) := by decide +kernel
theorem dX2_swapRows_21 : decode cX2_swapRows 21 = .ok (.getfield 35, 3) := by decide +kernel
theorem dX2_swapRows_24 : decode cX2_swapRows 24 = .ok (.imul, 1) := by decide +kernel
theorem dX2_swapRows_25 : decode cX2_swapRows 25 = .ok (.iload_n 3, 1) := by decide +kernel
theorem dX2_swapRows_26 : decode cX2_swapRows 26 = .ok (.iadd, 1) := by decide +kernel
theorem dX2_swapRows_27 : decode cX2_swapRows 27 = .ok (.laload, 1) := by decide +kernel
theorem dX2_swapRows_28 : decode cX2_swapRows 28 = .ok (.lstore 4, 2) := by decide +kernel
theorem dX2_swapRows_30 : decode cX2_swapRows 30 = .ok (.aload_n 0, 1) := by decide +kernel
theorem dX2_swapRows_31 : decode cX2_swapRows 31 = .ok (.getfield 9, 3) := by decide +kernel
theorem dX2_swapRows_34 : decode cX2_swapRows 34 = .ok (.iload_n 1, 1) := by decide +kernel
theorem dX2_swapRows_35 : decode cX2_swapRows 35 = .ok (.aload_n 0, 1) := by decide +kernel
theorem dX2_swapRows_36 : decode cX2_swapRows 36 = .ok (.getfield 35, 3) := by decide +kernel
theorem dX2_swapRows_39 : decode cX2_swapRows 39 = .ok (.imul, 1) := by decide +kernel
theorem dX2_swapRows_40 : decode cX2_swapRows 40 = .ok (.iload_n 3, 1) := by decide +kernel
theorem dX2_swapRows_41 : decode cX2_swapRows 41 = .ok (.iadd, 1) := by decide +kernel
theorem dX2_swapRows_42 : decode cX2_swapRows 42 = .ok (.aload_n 0, 1) := by decide +kernel
theorem dX2_swapRows_43 : decode cX2_swapRows 43 = .ok (.getfield 9, 3) := by decide +kernel
theorem dX2_swapRows_46 : decode cX2_swapRows 46 = .ok (.iload_n 2, 1) := by decide +kernel
theorem dX2_swapRows_47 : decode cX2_swapRows 47 = .ok (.aload_n 0, 1) := by decide +kernel
theorem dX2_swapRows_48 : decode cX2_swapRows 48 = .ok (.getfield 35, 3) := by decide +kernel
theorem dX2_swapRows_51 : decode cX2_swapRows 51 = .ok (.imul, 1) := by decide +kernel
theorem dX2_swapRows_52 : decode cX2_swapRows 52 = .ok (.iload_n 3, 1) := by decide +kernel
theorem dX2_swapRows_53 : decode cX2_swapRows 53 = .ok (.iadd, 1) := by decide +kernel
theorem dX2_swapRows_54 : decode cX2_swapRows 54 = .ok (.laload, 1) := by decide +kernel
theorem dX2_swapRows_55 : decode cX2_swapRows 55 = .ok (.lastore, 1) := by decide +kernel
theorem dX2_swapRows_56 : decode cX2_swapRows 56 = .ok (.aload_n 0, 1) := by decide +kernel
theorem dX2_swapRows_57 : decode cX2_swapRows 57 = .ok (.getfield 9, 3) := by decide +kernel
theorem dX2_swapRows_60 : decode cX2_swapRows 60 = .ok (.iload_n 2, 1) := by decide +kernel
theorem dX2_swapRows_61 : decode cX2_swapRows 61 = .ok (.aload_n 0, 1) := by decide +kernel
theorem dX2_swapRows_62 : decode cX2_swapRows 62 = .ok (.getfield 35, 3) := by decide +kernel
theorem dX2_swapRows_65 : decode cX2_swapRows 65 = .ok (.imul, 1) := by decide +kernel
theorem dX2_swapRows_66 : decode cX2_swapRows 66 = .ok (.iload_n 3, 1) := by decide +kernel
theorem dX2_swapRows_67 : decode cX2_swapRows 67 = .ok (.iadd, 1) := by decide +kernel
theorem dX2_swapRows_68 : decode cX2_swapRows 68 = .ok (.lload 4, 2) := by decide +kernel
theorem dX2_swapRows_70 : decode cX2_swapRows 70 = .ok (.lastore, 1) := by decide +kernel
theorem dX2_swapRows_71 : decode cX2_swapRows 71 = .ok (.iinc 3 1, 3) := by decide +kernel
theorem dX2_swapRows_74 : decode cX2_swapRows 74 = .ok (.goto (-72), 3) := by decide +kernel
theorem dX2_swapRows_77 : decode cX2_swapRows 77 = .ok (.return_, 1) := by decide +kernel
theorem dX2_clearBelow_0 : decode cX2_clearBelow 0 = .ok (.aload_n 0, 1) := by decide +kernel
theorem dX2_clearBelow_1 : decode cX2_clearBelow 1 = .ok (.getfield 9, 3) := by decide +kernel
theorem dX2_clearBelow_4 : decode cX2_clearBelow 4 = .ok (.iload_n 1, 1) := by decide +kernel
theorem dX2_clearBelow_5 : decode cX2_clearBelow 5 = .ok (.aload_n 0, 1) := by decide +kernel
theorem dX2_clearBelow_6 : decode cX2_clearBelow 6 = .ok (.getfield 35, 3) := by decide +kernel
theorem dX2_clearBelow_9 : decode cX2_clearBelow 9 = .ok (.imul, 1) := by decide +kernel
theorem dX2_clearBelow_10 : decode cX2_clearBelow 10 = .ok (.iload_n 2, 1) := by decide +kernel
theorem dX2_clearBelow_11 : decode cX2_clearBelow 11 = .ok (.iadd, 1) := by decide +kernel
theorem dX2_clearBelow_12 : decode cX2_clearBelow 12 = .ok (.laload, 1) := by decide +kernel
theorem dX2_clearBelow_13 : decode cX2_clearBelow 13 = .ok (.lstore 4, 2) := by decide +kernel
theorem dX2_clearBelow_15 : decode cX2_clearBelow 15 = .ok (.iload_n 1, 1) := by decide +kernel
theorem dX2_clearBelow_16 : decode cX2_clearBelow 16 = .ok (.iconst 1, 1) := by decide +kernel
theorem dX2_clearBelow_17 : decode cX2_clearBelow 17 = .ok (.iadd, 1) := by decide +kernel
theorem dX2_clearBelow_18 : decode cX2_clearBelow 18 = .ok (.istore 6, 2) := by decide +kernel
theorem dX2_clearBelow_20 : decode cX2_clearBelow 20 = .ok (.iload 6, 2) := by decide +kernel
theorem dX2_clearBelow_22 : decode cX2_clearBelow 22 = .ok (.aload_n 0, 1) := by decide +kernel
theorem dX2_clearBelow_23 : decode cX2_clearBelow 23 = .ok (.getfield 56, 3) := by decide +kernel
theorem dX2_clearBelow_26 : decode cX2_clearBelow 26 = .ok (.if_icmp .ge 110, 3) := by decide +kernel
theorem dX2_clearBelow_29 : decode cX2_clearBelow 29 = .ok (.aload_n 0, 1) := by decide +kernel
theorem dX2_clearBelow_30 : decode cX2_clearBelow 30 = .ok (.getfield 9, 3) := by decide +kernel
theorem dX2_clearBelow_33 : decode cX2_clearBelow 33 = .ok (.iload 6, 2) := by decide +kernel
theorem dX2_clearBelow_35 : decode cX2_clearBelow 35 = .ok (.aload_n 0, 1) := by decide +kernel
theorem dX2_clearBelow_36 : decode cX2_clearBelow 36 = .ok (.getfield 35, 3) := by decide +kernel
theorem dX2_clearBelow_39 : decode cX2_clearBelow 39 = .ok (.imul, 1) := by decide +kernel
theorem dX2_clearBelow_40 : decode cX2_clearBelow 40 = .ok (.iload_n 2, 1) := by decide +kernel
theorem dX2_clearBelow_41 : decode cX2_clearBelow 41 = .ok (.iadd, 1) := by decide +kernel
theorem dX2_clearBelow_42 : decode cX2_clearBelow 42 = .ok (.laload, 1) := by decide +kernel
theorem dX2_clearBelow_43 : decode cX2_clearBelow 43 = .ok (.lstore 7, 2) := by decide +kernel
theorem dX2_clearBelow_45 : decode cX2_clearBelow 45 = .ok (.iload_n 2, 1) := by decide +kernel
theorem dX2_clearBelow_46 : decode cX2_clearBelow 46 = .ok (.istore 9, 2) := by decide +kernel
theorem dX2_clearBelow_48 : decode cX2_clearBelow 48 = .ok (.iload 9, 2) := by decide +kernel
theorem dX2_clearBelow_50 : decode cX2_clearBelow 50 = .ok (.aload_n 0, 1) := by decide +kernel
theorem dX2_clearBelow_51 : decode cX2_clearBelow 51 = .ok (.getfield 35, 3) := by decide +kernel
theorem dX2_clearBelow_54 : decode cX2_clearBelow 54 = .ok (.if_icmp .ge 76, 3) := by decide +kernel
theorem dX2_clearBelow_57 : decode cX2_clearBelow 57 = .ok (.lload 7, 2) := by decide +kernel
theorem dX2_clearBelow_59 : decode cX2_clearBelow 59 = .ok (.lconst 0, 1) := by decide +kernel
theorem dX2_clearBelow_60 : decode cX2_clearBelow 60 = .ok (.lcmp, 1) := by decide +kernel
theorem dX2_clearBelow_61 : decode cX2_clearBelow 61 = .ok (.ifCond .eq 69, 3) := by decide +kernel
theorem dX2_clearBelow_64 : decode cX2_clearBelow 64 = .ok (.lload 4, 2) := by decide +kernel
theorem dX2_clearBelow_66 : decode cX2_clearBelow 66 = .ok (.aload_n 0, 1) := by decide +kernel
theorem dX2_clearBelow_67 : decode cX2_clearBelow 67 = .ok (.getfield 9, 3) := by decide +kernel
theorem dX2_clearBelow_70 : decode cX2_clearBelow 70 = .ok (.iload 6, 2) := by decide +kernel
theorem dX2_clearBelow_72 : decode cX2_clearBelow 72 = .ok (.aload_n 0, 1) := by decide +kernel
theorem dX2_clearBelow_73 : decode cX2_clearBelow 73 = .ok (.getfield 35, 3) := by decide +kernel
theorem dX2_clearBelow_76 : decode cX2_clearBelow 76 = .ok (.imul, 1) := by decide +kernel
theorem dX2_clearBelow_77 : decode cX2_clearBelow 77 = .ok (.iload 9, 2) := by decide +kernel
theorem dX2_clearBelow_79 : decode cX2_clearBelow 79 = .ok (.iadd, 1) := by decide +kernel
theorem dX2_clearBelow_80 : decode cX2_clearBelow 80 = .ok (.laload, 1) := by decide +kernel
theorem dX2_clearBelow_81 : decode cX2_clearBelow 81 = .ok (.lmul, 1) := by decide +kernel
theorem dX2_clearBelow_82 : decode cX2_clearBelow 82 = .ok (.lload 7, 2) := by decide +kernel
theorem dX2_clearBelow_84 : decode cX2_clearBelow 84 = .ok (.aload_n 0, 1) := by decide +kernel
theorem dX2_clearBelow_85 : decode cX2_clearBelow 85 = .ok (.getfield 9, 3) := by decide +kernel
theorem dX2_clearBelow_88 : decode cX2_clearBelow 88 = .ok (.iload_n 1, 1) := by decide +kernel
theorem dX2_clearBelow_89 : decode cX2_clearBelow 89 = .ok (.aload_n 0, 1) := by decide +kernel
theorem dX2_clearBelow_90 : decode cX2_clearBelow 90 = .ok (.getfield 35, 3) := by decide +kernel
theorem dX2_clearBelow_93 : decode cX2_clearBelow 93 = .ok (.imul, 1) := by decide +kernel
theorem dX2_clearBelow_94 : decode cX2_clearBelow 94 = .ok (.iload 9, 2) := by decide +kernel
theorem dX2_clearBelow_96 : decode cX2_clearBelow 96 = .ok (.iadd, 1) := by decide +kernel
theorem dX2_clearBelow_97 : decode cX2_clearBelow 97 = .ok (.laload, 1) := by decide +kernel
theorem dX2_clearBelow_98 : decode cX2_clearBelow 98 = .ok (.lmul, 1) := by decide +kernel
theorem dX2_clearBelow_99 : decode cX2_clearBelow 99 = .ok (.lsub, 1) := by decide +kernel
theorem dX2_clearBelow_100 : decode cX2_clearBelow 100 = .ok (.lstore 10, 2) := by decide +kernel
theorem dX2_clearBelow_102 : decode cX2_clearBelow 102 = .ok (.aload_n 0, 1) := by decide +kernel
theorem dX2_clearBelow_103 : decode cX2_clearBelow 103 = .ok (.getfield 9, 3) := by decide +kernel
theorem dX2_clearBelow_106 : decode cX2_clearBelow 106 = .ok (.iload 6, 2) := by decide +kernel
theorem dX2_clearBelow_108 : decode cX2_clearBelow 108 = .ok (.aload_n 0, 1) := by decide +kernel
theorem dX2_clearBelow_109 : decode cX2_clearBelow 109 = .ok (.getfield 35, 3) := by decide +kernel
theorem dX2_clearBelow_112 : decode cX2_clearBelow 112 = .ok (.imul, 1) := by decide +kernel
theorem dX2_clearBelow_113 : decode cX2_clearBelow 113 = .ok (.iload 9, 2) := by decide +kernel
theorem dX2_clearBelow_115 : decode cX2_clearBelow 115 = .ok (.iadd, 1) := by decide +kernel
theorem dX2_clearBelow_116 : decode cX2_clearBelow 116 = .ok (.lload 10, 2) := by decide +kernel
theorem dX2_clearBelow_118 : decode cX2_clearBelow 118 = .ok (.iload_n 3, 1) := by decide +kernel
theorem dX2_clearBelow_119 : decode cX2_clearBelow 119 = .ok (.i2l, 1) := by decide +kernel
theorem dX2_clearBelow_120 : decode cX2_clearBelow 120 = .ok (.invokestatic 77, 3) := by decide +kernel
theorem dX2_clearBelow_123 : decode cX2_clearBelow 123 = .ok (.lastore, 1) := by decide +kernel
theorem dX2_clearBelow_124 : decode cX2_clearBelow 124 = .ok (.iinc 9 1, 3) := by decide +kernel
theorem dX2_clearBelow_127 : decode cX2_clearBelow 127 = .ok (.goto (-79), 3) := by decide +kernel
theorem dX2_clearBelow_130 : decode cX2_clearBelow 130 = .ok (.iinc 6 1, 3) := by decide +kernel
theorem dX2_clearBelow_133 : decode cX2_clearBelow 133 = .ok (.goto (-113), 3) := by decide +kernel
theorem dX2_clearBelow_136 : decode cX2_clearBelow 136 = .ok (.return_, 1) := by decide +kernel
theorem dX2_rankOfFractions_0 : decode cX2_rankOfFractions 0 = .ok (.aload_n 0, 1) := by decide +kernel
theorem dX2_rankOfFractions_1 : decode cX2_rankOfFractions 1 = .ok (.lconst 1, 1) := by decide +kernel
theorem dX2_rankOfFractions_2 : decode cX2_rankOfFractions 2 = .ok (.putfield 97, 3) := by decide +kernel
theorem dX2_rankOfFractions_5 : decode cX2_rankOfFractions 5 = .ok (.iconst 0, 1) := by decide +kernel
theorem dX2_rankOfFractions_6 : decode cX2_rankOfFractions 6 = .ok (.istore_n 1, 1) := by decide +kernel
theorem dX2_rankOfFractions_7 : decode cX2_rankOfFractions 7 = .ok (.iconst 0, 1) := by decide +kernel
theorem dX2_rankOfFractions_8 : decode cX2_rankOfFractions 8 = .ok (.istore_n 2, 1) := by decide +kernel
theorem dX2_rankOfFractions_9 : decode cX2_rankOfFractions 9 = .ok (.iload_n 2, 1) := by decide +kernel
theorem dX2_rankOfFractions_10 : decode cX2_rankOfFractions 10 = .ok (.aload_n 0, 1) := by decide +kernel
theorem dX2_rankOfFractions_11 : decode cX2_rankOfFractions 11 = .ok (.getfield 35, 3) := by decide +kernel
theorem dX2_rankOfFractions_14 : decode cX2_rankOfFractions 14 = .ok (.if_icmp .ge 61, 3) := by decide +kernel
theorem dX2_rankOfFractions_17 : decode cX2_rankOfFractions 17 = .ok (.iload_n 1, 1) := by decide +kernel
theorem dX2_rankOfFractions_18 : decode cX2_rankOfFractions 18 = .ok (.aload_n 0, 1) := by decide +kernel
theorem dX2_rankOfFractions_19 : decode cX2_rankOfFractions 19 = .ok (.getfield 56, 3) := by decide +kernel
theorem dX2_rankOfFractions_22 : decode cX2_rankOfFractions 22 = .ok (.if_icmp .ge 53, 3) := by decide +kernel
theorem dX2_rankOfFractions_25 : decode cX2_rankOfFractions 25 = .ok (.aload_n 0, 1) := by decide +kernel
theorem dX2_rankOfFractions_26 : decode cX2_rankOfFractions 26 = .ok (.iload_n 2, 1) := by decide +kernel
theorem dX2_rankOfFractions_27 : decode cX2_rankOfFractions 27 = .ok (.iload_n 1, 1) := by decide +kernel
theorem dX2_rankOfFractions_28 : decode cX2_rankOfFractions 28 = .ok (.invokevirtual 87, 3) := by decide +kernel
theorem dX2_rankOfFractions_31 : decode cX2_rankOfFractions 31 = .ok (.istore_n 3, 1) := by decide +kernel
theorem dX2_rankOfFractions_32 : decode cX2_rankOfFractions 32 = .ok (.iload_n 3, 1) := by decide +kernel
theorem dX2_rankOfFractions_33 : decode cX2_rankOfFractions 33 = .ok (.iconst (-1), 1) := by decide +kernel
theorem dX2_rankOfFractions_34 : decode cX2_rankOfFractions 34 = .ok (.if_icmp .eq 35, 3) := by decide +kernel
theorem dX2_rankOfFractions_37 : decode cX2_rankOfFractions 37 = .ok (.aload_n 0, 1) := by decide +kernel
theorem dX2_rankOfFractions_38 : decode cX2_rankOfFractions 38 = .ok (.iload_n 3, 1) := by decide +kernel
theorem dX2_rankOfFractions_39 : decode cX2_rankOfFractions 39 = .ok (.iload_n 1, 1) := by decide +kernel
theorem dX2_rankOfFractions_40 : decode cX2_rankOfFractions 40 = .ok (.invokevirtual 90, 3) := by decide +kernel
theorem dX2_rankOfFractions_43 : decode cX2_rankOfFractions 43 = .ok (.aload_n 0, 1) := by decide +kernel
theorem dX2_rankOfFractions_44 : decode cX2_rankOfFractions 44 = .ok (.iload_n 1, 1) := by decide +kernel
theorem dX2_rankOfFractions_45 : decode cX2_rankOfFractions 45 = .ok (.iload_n 2, 1) := by decide +kernel
theorem dX2_rankOfFractions_46 : decode cX2_rankOfFractions 46 = .ok (.invokevirtual 101, 3) := by decide +kernel
theorem dX2_rankOfFractions_49 : decode cX2_rankOfFractions 49 = .ok (.aload_n 0, 1) := by decide +kernel
theorem dX2_rankOfFractions_50 : decode cX2_rankOfFractions 50 = .ok (.aload_n 0, 1) := by decide +kernel
theorem dX2_rankOfFractions_51 : decode cX2_rankOfFractions 51 = .ok (.getfield 9, 3) := by decide +kernel
theorem dX2_rankOfFractions_54 : decode cX2_rankOfFractions 54 = .ok (.iload_n 1, 1) := by decide +kernel
theorem dX2_rankOfFractions_55 : decode cX2_rankOfFractions 55 = .ok (.aload_n 0, 1) := by decide +kernel
theorem dX2_rankOfFractions_56 : decode cX2_rankOfFractions 56 = .ok (.getfield 35, 3) := by decide +kernel
theorem dX2_rankOfFractions_59 : decode cX2_rankOfFractions 59 = .ok (.imul, 1) := by decide +kernel
theorem dX2_rankOfFractions_60 : decode cX2_rankOfFractions 60 = .ok (.iload_n 2, 1) := by decide +kernel
theorem dX2_rankOfFractions_61 : decode cX2_rankOfFractions 61 = .ok (.iadd, 1) := by decide +kernel
theorem dX2_rankOfFractions_62 : decode cX2_rankOfFractions 62 = .ok (.laload, 1) := by decide +kernel
theorem dX2_rankOfFractions_63 : decode cX2_rankOfFractions 63 = .ok (.putfield 97, 3) := by decide +kernel
theorem dX2_rankOfFractions_66 : decode cX2_rankOfFractions 66 = .ok (.iinc 1 1, 3) := by decide +kernel
theorem dX2_rankOfFractions_69 : decode cX2_rankOfFractions 69 = .ok (.iinc 2 1, 3) := by decide +kernel
theorem dX2_rankOfFractions_72 : decode cX2_rankOfFractions 72 = .ok (.goto (-63), 3) := by decide +kernel
theorem dX2_rankOfFractions_75 : decode cX2_rankOfFractions 75 = .ok (.iload_n 1, 1) := by decide +kernel
theorem dX2_rankOfFractions_76 : decode cX2_rankOfFractions 76 = .ok (.ireturn, 1) := by decide +kernel
theorem dX2_clearBelowWhole_0 : decode cX2_clearBelowWhole 0 = .ok (.aload_n 0, 1) := by decide +kernel
theorem dX2_clearBelowWhole_1 : decode cX2_clearBelowWhole 1 = .ok (.getfield 97, 3) := by decide +kernel
theorem dX2_clearBelowWhole_4 : decode cX2_clearBelowWhole 4 = .ok (.lconst 0, 1) := by decide +kernel
theorem dX2_clearBelowWhole_5 : decode cX2_clearBelowWhole 5 = .ok (.lcmp, 1) := by decide +kernel
theorem dX2_clearBelowWhole_6 : decode cX2_clearBelowWhole 6 = .ok (.ifCond .ne 4, 3) := by decide +kernel
theorem dX2_clearBelowWhole_9 : decode cX2_clearBelowWhole 9 = .ok (.return_, 1) := by decide +kernel
theorem dX2_clearBelowWhole_10 : decode cX2_clearBelowWhole 10 = .ok (.aload_n 0, 1) := by decide +kernel
theorem dX2_clearBelowWhole_11 : decode cX2_clearBelowWhole 11 = .ok (.getfield 9, 3) := by decide +kernel
theorem dX2_clearBelowWhole_14 : decode cX2_clearBelowWhole 14 = .ok (.iload_n 1, 1) := by decide +kernel
theorem dX2_clearBelowWhole_15 : decode cX2_clearBelowWhole 15 = .ok (.aload_n 0, 1) := by decide +kernel
theorem dX2_clearBelowWhole_16 : decode cX2_clearBelowWhole 16 = .ok (.getfield 35, 3) := by decide +kernel
theorem dX2_clearBelowWhole_19 : decode cX2_clearBelowWhole 19 = .ok (.imul, 1) := by decide +kernel
theorem dX2_clearBelowWhole_20 : decode cX2_clearBelowWhole 20 = .ok (.iload_n 2, 1) := by decide +kernel
theorem dX2_clearBelowWhole_21 : decode cX2_clearBelowWhole 21 = .ok (.iadd, 1) := by decide +kernel
theorem dX2_clearBelowWhole_22 : decode cX2_clearBelowWhole 22 = .ok (.laload, 1) := by decide +kernel
theorem dX2_clearBelowWhole_23 : decode cX2_clearBelowWhole 23 = .ok (.lstore_n 3, 1) := by decide +kernel
theorem dX2_clearBelowWhole_24 : decode cX2_clearBelowWhole 24 = .ok (.iload_n 1, 1) := by decide +kernel
theorem dX2_clearBelowWhole_25 : decode cX2_clearBelowWhole 25 = .ok (.iconst 1, 1) := by decide +kernel
theorem dX2_clearBelowWhole_26 : decode cX2_clearBelowWhole 26 = .ok (.iadd, 1) := by decide +kernel
theorem dX2_clearBelowWhole_27 : decode cX2_clearBelowWhole 27 = .ok (.istore 5, 2) := by decide +kernel
theorem dX2_clearBelowWhole_29 : decode cX2_clearBelowWhole 29 = .ok (.iload 5, 2) := by decide +kernel
theorem dX2_clearBelowWhole_31 : decode cX2_clearBelowWhole 31 = .ok (.aload_n 0, 1) := by decide +kernel
theorem dX2_clearBelowWhole_32 : decode cX2_clearBelowWhole 32 = .ok (.getfield 56, 3) := by decide +kernel
theorem dX2_clearBelowWhole_35 : decode cX2_clearBelowWhole 35 = .ok (.if_icmp .ge 102, 3) := by decide +kernel
theorem dX2_clearBelowWhole_38 : decode cX2_clearBelowWhole 38 = .ok (.aload_n 0, 1) := by decide +kernel
theorem dX2_clearBelowWhole_39 : decode cX2_clearBelowWhole 39 = .ok (.getfield 9, 3) := by decide +kernel
theorem dX2_clearBelowWhole_42 : decode cX2_clearBelowWhole 42 = .ok (.iload 5, 2) := by decide +kernel
theorem dX2_clearBelowWhole_44 : decode cX2_clearBelowWhole 44 = .ok (.aload_n 0, 1) := by decide +kernel
theorem dX2_clearBelowWhole_45 : decode cX2_clearBelowWhole 45 = .ok (.getfield 35, 3) := by decide +kernel
theorem dX2_clearBelowWhole_48 : decode cX2_clearBelowWhole 48 = .ok (.imul, 1) := by decide +kernel
theorem dX2_clearBelowWhole_49 : decode cX2_clearBelowWhole 49 = .ok (.iload_n 2, 1) := by decide +kernel
theorem dX2_clearBelowWhole_50 : decode cX2_clearBelowWhole 50 = .ok (.iadd, 1) := by decide +kernel
theorem dX2_clearBelowWhole_51 : decode cX2_clearBelowWhole 51 = .ok (.laload, 1) := by decide +kernel
theorem dX2_clearBelowWhole_52 : decode cX2_clearBelowWhole 52 = .ok (.lstore 6, 2) := by decide +kernel
theorem dX2_clearBelowWhole_54 : decode cX2_clearBelowWhole 54 = .ok (.iload_n 2, 1) := by decide +kernel
theorem dX2_clearBelowWhole_55 : decode cX2_clearBelowWhole 55 = .ok (.istore 8, 2) := by decide +kernel
theorem dX2_clearBelowWhole_57 : decode cX2_clearBelowWhole 57 = .ok (.iload 8, 2) := by decide +kernel
theorem dX2_clearBelowWhole_59 : decode cX2_clearBelowWhole 59 = .ok (.aload_n 0, 1) := by decide +kernel
theorem dX2_clearBelowWhole_60 : decode cX2_clearBelowWhole 60 = .ok (.getfield 35, 3) := by decide +kernel
theorem dX2_clearBelowWhole_63 : decode cX2_clearBelowWhole 63 = .ok (.if_icmp .ge 68, 3) := by decide +kernel
theorem dX2_clearBelowWhole_66 : decode cX2_clearBelowWhole 66 = .ok (.lload_n 3, 1) := by decide +kernel
theorem dX2_clearBelowWhole_67 : decode cX2_clearBelowWhole 67 = .ok (.aload_n 0, 1) := by decide +kernel
theorem dX2_clearBelowWhole_68 : decode cX2_clearBelowWhole 68 = .ok (.getfield 9, 3) := by decide +kernel
theorem dX2_clearBelowWhole_71 : decode cX2_clearBelowWhole 71 = .ok (.iload 5, 2) := by decide +kernel
theorem dX2_clearBelowWhole_73 : decode cX2_clearBelowWhole 73 = .ok (.aload_n 0, 1) := by decide +kernel
theorem dX2_clearBelowWhole_74 : decode cX2_clearBelowWhole 74 = .ok (.getfield 35, 3) := by decide +kernel
theorem dX2_clearBelowWhole_77 : decode cX2_clearBelowWhole 77 = .ok (.imul, 1) := by decide +kernel
theorem dX2_clearBelowWhole_78 : decode cX2_clearBelowWhole 78 = .ok (.iload 8, 2) := by decide +kernel
theorem dX2_clearBelowWhole_80 : decode cX2_clearBelowWhole 80 = .ok (.iadd, 1) := by decide +kernel
theorem dX2_clearBelowWhole_81 : decode cX2_clearBelowWhole 81 = .ok (.laload, 1) := by decide +kernel
theorem dX2_clearBelowWhole_82 : decode cX2_clearBelowWhole 82 = .ok (.lmul, 1) := by decide +kernel
theorem dX2_clearBelowWhole_83 : decode cX2_clearBelowWhole 83 = .ok (.lload 6, 2) := by decide +kernel
theorem dX2_clearBelowWhole_85 : decode cX2_clearBelowWhole 85 = .ok (.aload_n 0, 1) := by decide +kernel
theorem dX2_clearBelowWhole_86 : decode cX2_clearBelowWhole 86 = .ok (.getfield 9, 3) := by decide +kernel
theorem dX2_clearBelowWhole_89 : decode cX2_clearBelowWhole 89 = .ok (.iload_n 1, 1) := by decide +kernel
theorem dX2_clearBelowWhole_90 : decode cX2_clearBelowWhole 90 = .ok (.aload_n 0, 1) := by decide +kernel
theorem dX2_clearBelowWhole_91 : decode cX2_clearBelowWhole 91 = .ok (.getfield 35, 3) := by decide +kernel
theorem dX2_clearBelowWhole_94 : decode cX2_clearBelowWhole 94 = .ok (.imul, 1) := by decide +kernel
theorem dX2_clearBelowWhole_95 : decode cX2_clearBelowWhole 95 = .ok (.iload 8, 2) := by decide +kernel
theorem dX2_clearBelowWhole_97 : decode cX2_clearBelowWhole 97 = .ok (.iadd, 1) := by decide +kernel
theorem dX2_clearBelowWhole_98 : decode cX2_clearBelowWhole 98 = .ok (.laload, 1) := by decide +kernel
theorem dX2_clearBelowWhole_99 : decode cX2_clearBelowWhole 99 = .ok (.lmul, 1) := by decide +kernel
theorem dX2_clearBelowWhole_100 : decode cX2_clearBelowWhole 100 = .ok (.lsub, 1) := by decide +kernel
theorem dX2_clearBelowWhole_101 : decode cX2_clearBelowWhole 101 = .ok (.lstore 9, 2) := by decide +kernel
theorem dX2_clearBelowWhole_103 : decode cX2_clearBelowWhole 103 = .ok (.aload_n 0, 1) := by decide +kernel
theorem dX2_clearBelowWhole_104 : decode cX2_clearBelowWhole 104 = .ok (.getfield 9, 3) := by decide +kernel
theorem dX2_clearBelowWhole_107 : decode cX2_clearBelowWhole 107 = .ok (.iload 5, 2) := by decide +kernel
theorem dX2_clearBelowWhole_109 : decode cX2_clearBelowWhole 109 = .ok (.aload_n 0, 1) := by decide +kernel
theorem dX2_clearBelowWhole_110 : decode cX2_clearBelowWhole 110 = .ok (.getfield 35, 3) := by decide +kernel
theorem dX2_clearBelowWhole_113 : decode cX2_clearBelowWhole 113 = .ok (.imul, 1) := by decide +kernel
theorem dX2_clearBelowWhole_114 : decode cX2_clearBelowWhole 114 = .ok (.iload 8, 2) := by decide +kernel
theorem dX2_clearBelowWhole_116 : decode cX2_clearBelowWhole 116 = .ok (.iadd, 1) := by decide +kernel
theorem dX2_clearBelowWhole_117 : decode cX2_clearBelowWhole 117 = .ok (.lload 9, 2) := by decide +kernel
theorem dX2_clearBelowWhole_119 : decode cX2_clearBelowWhole 119 = .ok (.aload_n 0, 1) := by decide +kernel
theorem dX2_clearBelowWhole_120 : decode cX2_clearBelowWhole 120 = .ok (.getfield 97, 3) := by decide +kernel
theorem dX2_clearBelowWhole_123 : decode cX2_clearBelowWhole 123 = .ok (.ldiv, 1) := by decide +kernel
theorem dX2_clearBelowWhole_124 : decode cX2_clearBelowWhole 124 = .ok (.lastore, 1) := by decide +kernel
theorem dX2_clearBelowWhole_125 : decode cX2_clearBelowWhole 125 = .ok (.iinc 8 1, 3) := by decide +kernel
theorem dX2_clearBelowWhole_128 : decode cX2_clearBelowWhole 128 = .ok (.goto (-71), 3) := by decide +kernel
theorem dX2_clearBelowWhole_131 : decode cX2_clearBelowWhole 131 = .ok (.iinc 5 1, 3) := by decide +kernel
theorem dX2_clearBelowWhole_134 : decode cX2_clearBelowWhole 134 = .ok (.goto (-105), 3) := by decide +kernel
theorem dX2_clearBelowWhole_137 : decode cX2_clearBelowWhole 137 = .ok (.return_, 1) := by decide +kernel
theorem dX2_findFactors_0 : decode cX2_findFactors 0 = .ok (.aload_n 0, 1) := by decide +kernel
theorem dX2_findFactors_1 : decode cX2_findFactors 1 = .ok (.aload_n 1, 1) := by decide +kernel
theorem dX2_findFactors_2 : decode cX2_findFactors 2 = .ok (.iconst 0, 1) := by decide +kernel
theorem dX2_findFactors_3 : decode cX2_findFactors 3 = .ok (.invokevirtual 104, 3) := by decide +kernel
theorem dX2_findFactors_6 : decode cX2_findFactors 6 = .ok (.aload_n 0, 1) := by decide +kernel
theorem dX2_findFactors_7 : decode cX2_findFactors 7 = .ok (.getfield 15, 3) := by decide +kernel
theorem dX2_findFactors_10 : decode cX2_findFactors 10 = .ok (.arraylength, 1) := by decide +kernel
theorem dX2_findFactors_11 : decode cX2_findFactors 11 = .ok (.invokestatic 108, 3) := by decide +kernel
theorem dX2_findFactors_14 : decode cX2_findFactors 14 = .ok (.istore_n 2, 1) := by decide +kernel
theorem dX2_findFactors_15 : decode cX2_findFactors 15 = .ok (.aload_n 0, 1) := by decide +kernel
theorem dX2_findFactors_16 : decode cX2_findFactors 16 = .ok (.lconst 1, 1) := by decide +kernel
theorem dX2_findFactors_17 : decode cX2_findFactors 17 = .ok (.aload_n 0, 1) := by decide +kernel
theorem dX2_findFactors_18 : decode cX2_findFactors 18 = .ok (.getfield 97, 3) := by decide +kernel
theorem dX2_findFactors_21 : decode cX2_findFactors 21 = .ok (.invokestatic 111, 3) := by decide +kernel
theorem dX2_findFactors_24 : decode cX2_findFactors 24 = .ok (.invokestatic 115, 3) := by decide +kernel
theorem dX2_findFactors_27 : decode cX2_findFactors 27 = .ok (.putfield 118, 3) := by decide +kernel
theorem dX2_findFactors_30 : decode cX2_findFactors 30 = .ok (.aload_n 0, 1) := by decide +kernel
theorem dX2_findFactors_31 : decode cX2_findFactors 31 = .ok (.aload_n 1, 1) := by decide +kernel
theorem dX2_findFactors_32 : decode cX2_findFactors 32 = .ok (.invokevirtual 52, 3) := by decide +kernel
theorem dX2_findFactors_35 : decode cX2_findFactors 35 = .ok (.aload_n 0, 1) := by decide +kernel
theorem dX2_findFactors_36 : decode cX2_findFactors 36 = .ok (.aload_n 0, 1) := by decide +kernel
theorem dX2_findFactors_37 : decode cX2_findFactors 37 = .ok (.getfield 118, 3) := by decide +kernel
theorem dX2_findFactors_40 : decode cX2_findFactors 40 = .ok (.invokevirtual 83, 3) := by decide +kernel
theorem dX2_findFactors_43 : decode cX2_findFactors 43 = .ok (.iconst 0, 1) := by decide +kernel
theorem dX2_findFactors_44 : decode cX2_findFactors 44 = .ok (.istore_n 3, 1) := by decide +kernel
theorem dX2_findFactors_45 : decode cX2_findFactors 45 = .ok (.iload_n 3, 1) := by decide +kernel
theorem dX2_findFactors_46 : decode cX2_findFactors 46 = .ok (.iload_n 2, 1) := by decide +kernel
theorem dX2_findFactors_47 : decode cX2_findFactors 47 = .ok (.if_icmp .ge 20, 3) := by decide +kernel
theorem dX2_findFactors_50 : decode cX2_findFactors 50 = .ok (.aload_n 0, 1) := by decide +kernel
theorem dX2_findFactors_51 : decode cX2_findFactors 51 = .ok (.getfield 15, 3) := by decide +kernel
theorem dX2_findFactors_54 : decode cX2_findFactors 54 = .ok (.iload_n 3, 1) := by decide +kernel
theorem dX2_findFactors_55 : decode cX2_findFactors 55 = .ok (.aload_n 0, 1) := by decide +kernel
theorem dX2_findFactors_56 : decode cX2_findFactors 56 = .ok (.iload_n 3, 1) := by decide +kernel
theorem dX2_findFactors_57 : decode cX2_findFactors 57 = .ok (.invokevirtual 121, 3) := by decide +kernel
theorem dX2_findFactors_60 : decode cX2_findFactors 60 = .ok (.lastore, 1) := by decide +kernel
theorem dX2_findFactors_61 : decode cX2_findFactors 61 = .ok (.iinc 3 1, 3) := by decide +kernel
theorem dX2_findFactors_64 : decode cX2_findFactors 64 = .ok (.goto (-19), 3) := by decide +kernel
theorem dX2_findFactors_67 : decode cX2_findFactors 67 = .ok (.iload_n 2, 1) := by decide +kernel
theorem dX2_findFactors_68 : decode cX2_findFactors 68 = .ok (.ireturn, 1) := by decide +kernel
theorem dX2_nextFactor_0 : decode cX2_nextFactor 0 = .ok (.iconst 0, 1) := by decide +kernel
theorem dX2_nextFactor_1 : decode cX2_nextFactor 1 = .ok (.istore_n 2, 1) := by decide +kernel
theorem dX2_nextFactor_2 : decode cX2_nextFactor 2 = .ok (.iload_n 2, 1) := by decide +kernel
theorem dX2_nextFactor_3 : decode cX2_nextFactor 3 = .ok (.ldc 125, 2) := by decide +kernel
theorem dX2_nextFactor_5 : decode cX2_nextFactor 5 = .ok (.if_icmp .ge 94, 3) := by decide +kernel
theorem dX2_nextFactor_8 : decode cX2_nextFactor 8 = .ok (.aload_n 0, 1) := by decide +kernel
theorem dX2_nextFactor_9 : decode cX2_nextFactor 9 = .ok (.iload_n 1, 1) := by decide +kernel
theorem dX2_nextFactor_10 : decode cX2_nextFactor 10 = .ok (.invokevirtual 126, 3) := by decide +kernel
theorem dX2_nextFactor_13 : decode cX2_nextFactor 13 = .ok (.ifCond .ne 8, 3) := by decide +kernel
theorem dX2_nextFactor_16 : decode cX2_nextFactor 16 = .ok (.aload_n 0, 1) := by decide +kernel
theorem dX2_nextFactor_17 : decode cX2_nextFactor 17 = .ok (.getfield 118, 3) := by decide +kernel
theorem dX2_nextFactor_20 : decode cX2_nextFactor 20 = .ok (.lreturn, 1) := by decide +kernel
theorem dX2_nextFactor_21 : decode cX2_nextFactor 21 = .ok (.aload_n 0, 1) := by decide +kernel
theorem dX2_nextFactor_22 : decode cX2_nextFactor 22 = .ok (.iload_n 1, 1) := by decide +kernel
theorem dX2_nextFactor_23 : decode cX2_nextFactor 23 = .ok (.invokevirtual 130, 3) := by decide +kernel
theorem dX2_nextFactor_26 : decode cX2_nextFactor 26 = .ok (.ifCond .eq 67, 3) := by decide +kernel
theorem dX2_nextFactor_29 : decode cX2_nextFactor 29 = .ok (.aload_n 0, 1) := by decide +kernel
theorem dX2_nextFactor_30 : decode cX2_nextFactor 30 = .ok (.getfield 9, 3) := by decide +kernel
theorem dX2_nextFactor_33 : decode cX2_nextFactor 33 = .ok (.iload_n 1, 1) := by decide +kernel
theorem dX2_nextFactor_34 : decode cX2_nextFactor 34 = .ok (.aload_n 0, 1) := by decide +kernel
theorem dX2_nextFactor_35 : decode cX2_nextFactor 35 = .ok (.getfield 35, 3) := by decide +kernel
theorem dX2_nextFactor_38 : decode cX2_nextFactor 38 = .ok (.imul, 1) := by decide +kernel
theorem dX2_nextFactor_39 : decode cX2_nextFactor 39 = .ok (.iload_n 1, 1) := by decide +kernel
theorem dX2_nextFactor_40 : decode cX2_nextFactor 40 = .ok (.iadd, 1) := by decide +kernel
theorem dX2_nextFactor_41 : decode cX2_nextFactor 41 = .ok (.laload, 1) := by decide +kernel
theorem dX2_nextFactor_42 : decode cX2_nextFactor 42 = .ok (.aload_n 0, 1) := by decide +kernel
theorem dX2_nextFactor_43 : decode cX2_nextFactor 43 = .ok (.getfield 118, 3) := by decide +kernel
theorem dX2_nextFactor_46 : decode cX2_nextFactor 46 = .ok (.invokestatic 133, 3) := by decide +kernel
theorem dX2_nextFactor_49 : decode cX2_nextFactor 49 = .ok (.lstore_n 3, 1) := by decide +kernel
theorem dX2_nextFactor_50 : decode cX2_nextFactor 50 = .ok (.aload_n 0, 1) := by decide +kernel
theorem dX2_nextFactor_51 : decode cX2_nextFactor 51 = .ok (.getfield 9, 3) := by decide +kernel
theorem dX2_nextFactor_54 : decode cX2_nextFactor 54 = .ok (.iload_n 1, 1) := by decide +kernel
theorem dX2_nextFactor_55 : decode cX2_nextFactor 55 = .ok (.aload_n 0, 1) := by decide +kernel
theorem dX2_nextFactor_56 : decode cX2_nextFactor 56 = .ok (.getfield 35, 3) := by decide +kernel
theorem dX2_nextFactor_59 : decode cX2_nextFactor 59 = .ok (.imul, 1) := by decide +kernel
theorem dX2_nextFactor_60 : decode cX2_nextFactor 60 = .ok (.iload_n 1, 1) := by decide +kernel
theorem dX2_nextFactor_61 : decode cX2_nextFactor 61 = .ok (.iadd, 1) := by decide +kernel
theorem dX2_nextFactor_62 : decode cX2_nextFactor 62 = .ok (.lload_n 3, 1) := by decide +kernel
theorem dX2_nextFactor_63 : decode cX2_nextFactor 63 = .ok (.lastore, 1) := by decide +kernel
theorem dX2_nextFactor_64 : decode cX2_nextFactor 64 = .ok (.aload_n 0, 1) := by decide +kernel
theorem dX2_nextFactor_65 : decode cX2_nextFactor 65 = .ok (.iload_n 1, 1) := by decide +kernel
theorem dX2_nextFactor_66 : decode cX2_nextFactor 66 = .ok (.lload_n 3, 1) := by decide +kernel
theorem dX2_nextFactor_67 : decode cX2_nextFactor 67 = .ok (.invokevirtual 136, 3) := by decide +kernel
theorem dX2_nextFactor_70 : decode cX2_nextFactor 70 = .ok (.istore 5, 2) := by decide +kernel
theorem dX2_nextFactor_72 : decode cX2_nextFactor 72 = .ok (.iload 5, 2) := by decide +kernel
theorem dX2_nextFactor_74 : decode cX2_nextFactor 74 = .ok (.iconst (-1), 1) := by decide +kernel
theorem dX2_nextFactor_75 : decode cX2_nextFactor 75 = .ok (.if_icmp .ne 5, 3) := by decide +kernel
theorem dX2_nextFactor_78 : decode cX2_nextFactor 78 = .ok (.lload_n 3, 1) := by decide +kernel
theorem dX2_nextFactor_79 : decode cX2_nextFactor 79 = .ok (.lreturn, 1) := by decide +kernel
theorem dX2_nextFactor_80 : decode cX2_nextFactor 80 = .ok (.aload_n 0, 1) := by decide +kernel
theorem dX2_nextFactor_81 : decode cX2_nextFactor 81 = .ok (.iload 5, 2) := by decide +kernel
theorem dX2_nextFactor_83 : decode cX2_nextFactor 83 = .ok (.iload_n 1, 1) := by decide +kernel
theorem dX2_nextFactor_84 : decode cX2_nextFactor 84 = .ok (.invokevirtual 140, 3) := by decide +kernel
theorem dX2_nextFactor_87 : decode cX2_nextFactor 87 = .ok (.aload_n 0, 1) := by decide +kernel
theorem dX2_nextFactor_88 : decode cX2_nextFactor 88 = .ok (.iload_n 1, 1) := by decide +kernel
theorem dX2_nextFactor_89 : decode cX2_nextFactor 89 = .ok (.invokevirtual 130, 3) := by decide +kernel
theorem dX2_nextFactor_92 : decode cX2_nextFactor 92 = .ok (.pop, 1) := by decide +kernel
theorem dX2_nextFactor_93 : decode cX2_nextFactor 93 = .ok (.iinc 2 1, 3) := by decide +kernel
theorem dX2_nextFactor_96 : decode cX2_nextFactor 96 = .ok (.goto (-94), 3) := by decide +kernel
theorem dX2_nextFactor_99 : decode cX2_nextFactor 99 = .ok (.aload_n 0, 1) := by decide +kernel
theorem dX2_nextFactor_100 : decode cX2_nextFactor 100 = .ok (.getfield 118, 3) := by decide +kernel
theorem dX2_nextFactor_103 : decode cX2_nextFactor 103 = .ok (.lreturn, 1) := by decide +kernel
theorem dX2_bringLeast_0 : decode cX2_bringLeast 0 = .ok (.iconst (-1), 1) := by decide +kernel
theorem dX2_bringLeast_1 : decode cX2_bringLeast 1 = .ok (.istore_n 2, 1) := by decide +kernel
theorem dX2_bringLeast_2 : decode cX2_bringLeast 2 = .ok (.iload_n 1, 1) := by decide +kernel
theorem dX2_bringLeast_3 : decode cX2_bringLeast 3 = .ok (.istore_n 3, 1) := by decide +kernel
theorem dX2_bringLeast_4 : decode cX2_bringLeast 4 = .ok (.iload_n 3, 1) := by decide +kernel
theorem dX2_bringLeast_5 : decode cX2_bringLeast 5 = .ok (.aload_n 0, 1) := by decide +kernel
theorem dX2_bringLeast_6 : decode cX2_bringLeast 6 = .ok (.getfield 56, 3) := by decide +kernel
theorem dX2_bringLeast_9 : decode cX2_bringLeast 9 = .ok (.if_icmp .ge 75, 3) := by decide +kernel
theorem dX2_bringLeast_12 : decode cX2_bringLeast 12 = .ok (.iload_n 1, 1) := by decide +kernel
theorem dX2_bringLeast_13 : decode cX2_bringLeast 13 = .ok (.istore 4, 2) := by decide +kernel
theorem dX2_bringLeast_15 : decode cX2_bringLeast 15 = .ok (.iload 4, 2) := by decide +kernel
theorem dX2_bringLeast_17 : decode cX2_bringLeast 17 = .ok (.aload_n 0, 1) := by decide +kernel
theorem dX2_bringLeast_18 : decode cX2_bringLeast 18 = .ok (.getfield 35, 3) := by decide +kernel
theorem dX2_bringLeast_21 : decode cX2_bringLeast 21 = .ok (.if_icmp .ge 57, 3) := by decide +kernel
theorem dX2_bringLeast_24 : decode cX2_bringLeast 24 = .ok (.iload_n 3, 1) := by decide +kernel
theorem dX2_bringLeast_25 : decode cX2_bringLeast 25 = .ok (.aload_n 0, 1) := by decide +kernel
theorem dX2_bringLeast_26 : decode cX2_bringLeast 26 = .ok (.getfield 35, 3) := by decide +kernel
theorem dX2_bringLeast_29 : decode cX2_bringLeast 29 = .ok (.imul, 1) := by decide +kernel
theorem dX2_bringLeast_30 : decode cX2_bringLeast 30 = .ok (.iload 4, 2) := by decide +kernel
theorem dX2_bringLeast_32 : decode cX2_bringLeast 32 = .ok (.iadd, 1) := by decide +kernel
theorem dX2_bringLeast_33 : decode cX2_bringLeast 33 = .ok (.istore 5, 2) := by decide +kernel
theorem dX2_bringLeast_35 : decode cX2_bringLeast 35 = .ok (.aload_n 0, 1) := by decide +kernel
theorem dX2_bringLeast_36 : decode cX2_bringLeast 36 = .ok (.getfield 9, 3) := by decide +kernel
theorem dX2_bringLeast_39 : decode cX2_bringLeast 39 = .ok (.iload 5, 2) := by decide +kernel
theorem dX2_bringLeast_41 : decode cX2_bringLeast 41 = .ok (.laload, 1) := by decide +kernel
theorem dX2_bringLeast_42 : decode cX2_bringLeast 42 = .ok (.lconst 0, 1) := by decide +kernel
theorem dX2_bringLeast_43 : decode cX2_bringLeast 43 = .ok (.lcmp, 1) := by decide +kernel
theorem dX2_bringLeast_44 : decode cX2_bringLeast 44 = .ok (.ifCond .eq 28, 3) := by decide +kernel
theorem dX2_bringLeast_47 : decode cX2_bringLeast 47 = .ok (.iload_n 2, 1) := by decide +kernel
theorem dX2_bringLeast_48 : decode cX2_bringLeast 48 = .ok (.iconst (-1), 1) := by decide +kernel
theorem dX2_bringLeast_49 : decode cX2_bringLeast 49 = .ok (.if_icmp .eq 20, 3) := by decide +kernel
theorem dX2_bringLeast_52 : decode cX2_bringLeast 52 = .ok (.aload_n 0, 1) := by decide +kernel
theorem dX2_bringLeast_53 : decode cX2_bringLeast 53 = .ok (.getfield 9, 3) := by decide +kernel
theorem dX2_bringLeast_56 : decode cX2_bringLeast 56 = .ok (.iload 5, 2) := by decide +kernel
theorem dX2_bringLeast_58 : decode cX2_bringLeast 58 = .ok (.laload, 1) := by decide +kernel
theorem dX2_bringLeast_59 : decode cX2_bringLeast 59 = .ok (.aload_n 0, 1) := by decide +kernel
theorem dX2_bringLeast_60 : decode cX2_bringLeast 60 = .ok (.getfield 9, 3) := by decide +kernel
theorem dX2_bringLeast_63 : decode cX2_bringLeast 63 = .ok (.iload_n 2, 1) := by decide +kernel
theorem dX2_bringLeast_64 : decode cX2_bringLeast 64 = .ok (.laload, 1) := by decide +kernel
theorem dX2_bringLeast_65 : decode cX2_bringLeast 65 = .ok (.lcmp, 1) := by decide +kernel
theorem dX2_bringLeast_66 : decode cX2_bringLeast 66 = .ok (.ifCond .ge 6, 3) := by decide +kernel
theorem dX2_bringLeast_69 : decode cX2_bringLeast 69 = .ok (.iload 5, 2) := by decide +kernel
theorem dX2_bringLeast_71 : decode cX2_bringLeast 71 = .ok (.istore_n 2, 1) := by decide +kernel
theorem dX2_bringLeast_72 : decode cX2_bringLeast 72 = .ok (.iinc 4 1, 3) := by decide +kernel
theorem dX2_bringLeast_75 : decode cX2_bringLeast 75 = .ok (.goto (-60), 3) := by decide +kernel
theorem dX2_bringLeast_78 : decode cX2_bringLeast 78 = .ok (.iinc 3 1, 3) := by decide +kernel
theorem dX2_bringLeast_81 : decode cX2_bringLeast 81 = .ok (.goto (-77), 3) := by decide +kernel
theorem dX2_bringLeast_84 : decode cX2_bringLeast 84 = .ok (.iload_n 2, 1) := by decide +kernel
theorem dX2_bringLeast_85 : decode cX2_bringLeast 85 = .ok (.iconst (-1), 1) := by decide +kernel
theorem dX2_bringLeast_86 : decode cX2_bringLeast 86 = .ok (.if_icmp .ne 5, 3) := by decide +kernel
theorem dX2_bringLeast_89 : decode cX2_bringLeast 89 = .ok (.iconst 0, 1) := by decide +kernel
theorem dX2_bringLeast_90 : decode cX2_bringLeast 90 = .ok (.ireturn, 1) := by decide +kernel
theorem dX2_bringLeast_91 : decode cX2_bringLeast 91 = .ok (.aload_n 0, 1) := by decide +kernel
theorem dX2_bringLeast_92 : decode cX2_bringLeast 92 = .ok (.iload_n 2, 1) := by decide +kernel
theorem dX2_bringLeast_93 : decode cX2_bringLeast 93 = .ok (.aload_n 0, 1) := by decide +kernel
theorem dX2_bringLeast_94 : decode cX2_bringLeast 94 = .ok (.getfield 35, 3) := by decide +kernel
theorem dX2_bringLeast_97 : decode cX2_bringLeast 97 = .ok (.idiv, 1) := by decide +kernel
theorem dX2_bringLeast_98 : decode cX2_bringLeast 98 = .ok (.iload_n 1, 1) := by decide +kernel
theorem dX2_bringLeast_99 : decode cX2_bringLeast 99 = .ok (.invokevirtual 90, 3) := by decide +kernel
theorem dX2_bringLeast_102 : decode cX2_bringLeast 102 = .ok (.aload_n 0, 1) := by decide +kernel
theorem dX2_bringLeast_103 : decode cX2_bringLeast 103 = .ok (.iload_n 2, 1) := by decide +kernel
theorem dX2_bringLeast_104 : decode cX2_bringLeast 104 = .ok (.aload_n 0, 1) := by decide +kernel
theorem dX2_bringLeast_105 : decode cX2_bringLeast 105 = .ok (.getfield 35, 3) := by decide +kernel
theorem dX2_bringLeast_108 : decode cX2_bringLeast 108 = .ok (.irem, 1) := by decide +kernel
theorem dX2_bringLeast_109 : decode cX2_bringLeast 109 = .ok (.iload_n 1, 1) := by decide +kernel
theorem dX2_bringLeast_110 : decode cX2_bringLeast 110 = .ok (.invokevirtual 143, 3) := by decide +kernel
theorem dX2_bringLeast_113 : decode cX2_bringLeast 113 = .ok (.iconst 1, 1) := by decide +kernel
theorem dX2_bringLeast_114 : decode cX2_bringLeast 114 = .ok (.ireturn, 1) := by decide +kernel
theorem dX2_swapColumns_0 : decode cX2_swapColumns 0 = .ok (.iconst 0, 1) := by decide +kernel
theorem dX2_swapColumns_1 : decode cX2_swapColumns 1 = .ok (.istore_n 3, 1) := by decide +kernel
theorem dX2_swapColumns_2 : decode cX2_swapColumns 2 = .ok (.iload_n 3, 1) := by decide +kernel
theorem dX2_swapColumns_3 : decode cX2_swapColumns 3 = .ok (.aload_n 0, 1) := by decide +kernel
theorem dX2_swapColumns_4 : decode cX2_swapColumns 4 = .ok (.getfield 56, 3) := by decide +kernel
theorem dX2_swapColumns_7 : decode cX2_swapColumns 7 = .ok (.if_icmp .ge 70, 3) := by decide +kernel
theorem dX2_swapColumns_10 : decode cX2_swapColumns 10 = .ok (.iload_n 1, 1) := by decide +kernel
theorem dX2_swapColumns_11 : decode cX2_swapColumns 11 = .ok (.iload_n 2, 1) := by decide +kernel
theorem dX2_swapColumns_12 : decode cX2_swapColumns 12 = .ok (.if_icmp .eq 65, 3) := by decide +kernel
theorem dX2_swapColumns_15 : decode cX2_swapColumns 15 = .ok (.aload_n 0, 1) := by decide +kernel
theorem dX2_swapColumns_16 : decode cX2_swapColumns 16 = .ok (.getfield 9, 3) := by decide +kernel
theorem dX2_swapColumns_19 : decode cX2_swapColumns 19 = .ok (.iload_n 3, 1) := by decide +kernel
theorem dX2_swapColumns_20 : decode cX2_swapColumns 20 = .ok (.aload_n 0, 1) := by decide +kernel
theorem dX2_swapColumns_21 : decode cX2_swapColumns 21 = .ok (.getfield 35, 3) := by decide +kernel
theorem dX2_swapColumns_24 : decode cX2_swapColumns 24 = .ok (.imul, 1) := by decide +kernel
theorem dX2_swapColumns_25 : decode cX2_swapColumns 25 = .ok (.iload_n 1, 1) := by decide +kernel
theorem dX2_swapColumns_26 : decode cX2_swapColumns 26 = .ok (.iadd, 1) := by decide +kernel
theorem dX2_swapColumns_27 : decode cX2_swapColumns 27 = .ok (.laload, 1) := by decide +kernel
theorem dX2_swapColumns_28 : decode cX2_swapColumns 28 = .ok (.lstore 4, 2) := by decide +kernel
theorem dX2_swapColumns_30 : decode cX2_swapColumns 30 = .ok (.aload_n 0, 1) := by decide +kernel
theorem dX2_swapColumns_31 : decode cX2_swapColumns 31 = .ok (.getfield 9, 3) := by decide +kernel
theorem dX2_swapColumns_34 : decode cX2_swapColumns 34 = .ok (.iload_n 3, 1) := by decide +kernel
theorem dX2_swapColumns_35 : decode cX2_swapColumns 35 = .ok (.aload_n 0, 1) := by decide +kernel
theorem dX2_swapColumns_36 : decode cX2_swapColumns 36 = .ok (.getfield 35, 3) := by decide +kernel
theorem dX2_swapColumns_39 : decode cX2_swapColumns 39 = .ok (.imul, 1) := by decide +kernel
theorem dX2_swapColumns_40 : decode cX2_swapColumns 40 = .ok (.iload_n 1, 1) := by decide +kernel
theorem dX2_swapColumns_41 : decode cX2_swapColumns 41 = .ok (.iadd, 1) := by decide +kernel
theorem dX2_swapColumns_42 : decode cX2_swapColumns 42 = .ok (.aload_n 0, 1) := by decide +kernel
theorem dX2_swapColumns_43 : decode cX2_swapColumns 43 = .ok (.getfield 9, 3) := by decide +kernel
theorem dX2_swapColumns_46 : decode cX2_swapColumns 46 = .ok (.iload_n 3, 1) := by decide +kernel
theorem dX2_swapColumns_47 : decode cX2_swapColumns 47 = .ok (.aload_n 0, 1) := by decide +kernel
theorem dX2_swapColumns_48 : decode cX2_swapColumns 48 = .ok (.getfield 35, 3) := by decide +kernel
theorem dX2_swapColumns_51 : decode cX2_swapColumns 51 = .ok (.imul, 1) := by decide +kernel
theorem dX2_swapColumns_52 : decode cX2_swapColumns 52 = .ok (.iload_n 2, 1) := by decide +kernel
theorem dX2_swapColumns_53 : decode cX2_swapColumns 53 = .ok (.iadd, 1) := by decide +kernel
theorem dX2_swapColumns_54 : decode cX2_swapColumns 54 = .ok (.laload, 1) := by decide +kernel
theorem dX2_swapColumns_55 : decode cX2_swapColumns 55 = .ok (.lastore, 1) := by decide +kernel
theorem dX2_swapColumns_56 : decode cX2_swapColumns 56 = .ok (.aload_n 0, 1) := by decide +kernel
theorem dX2_swapColumns_57 : decode cX2_swapColumns 57 = .ok (.getfield 9, 3) := by decide +kernel
theorem dX2_swapColumns_60 : decode cX2_swapColumns 60 = .ok (.iload_n 3, 1) := by decide +kernel
theorem dX2_swapColumns_61 : decode cX2_swapColumns 61 = .ok (.aload_n 0, 1) := by decide +kernel
theorem dX2_swapColumns_62 : decode cX2_swapColumns 62 = .ok (.getfield 35, 3) := by decide +kernel
theorem dX2_swapColumns_65 : decode cX2_swapColumns 65 = .ok (.imul, 1) := by decide +kernel
theorem dX2_swapColumns_66 : decode cX2_swapColumns 66 = .ok (.iload_n 2, 1) := by decide +kernel
theorem dX2_swapColumns_67 : decode cX2_swapColumns 67 = .ok (.iadd, 1) := by decide +kernel
theorem dX2_swapColumns_68 : decode cX2_swapColumns 68 = .ok (.lload 4, 2) := by decide +kernel
theorem dX2_swapColumns_70 : decode cX2_swapColumns 70 = .ok (.lastore, 1) := by decide +kernel
theorem dX2_swapColumns_71 : decode cX2_swapColumns 71 = .ok (.iinc 3 1, 3) := by decide +kernel
theorem dX2_swapColumns_74 : decode cX2_swapColumns 74 = .ok (.goto (-72), 3) := by decide +kernel
theorem dX2_swapColumns_77 : decode cX2_swapColumns 77 = .ok (.return_, 1) := by decide +kernel
theorem dX2_clearLines_0 : decode cX2_clearLines 0 = .ok (.aload_n 0, 1) := by decide +kernel
theorem dX2_clearLines_1 : decode cX2_clearLines 1 = .ok (.getfield 9, 3) := by decide +kernel
theorem dX2_clearLines_4 : decode cX2_clearLines 4 = .ok (.iload_n 1, 1) := by decide +kernel
theorem dX2_clearLines_5 : decode cX2_clearLines 5 = .ok (.aload_n 0, 1) := by decide +kernel
theorem dX2_clearLines_6 : decode cX2_clearLines 6 = .ok (.getfield 35, 3) := by decide +kernel
theorem dX2_clearLines_9 : decode cX2_clearLines 9 = .ok (.imul, 1) := by decide +kernel
theorem dX2_clearLines_10 : decode cX2_clearLines 10 = .ok (.iload_n 1, 1) := by decide +kernel
theorem dX2_clearLines_11 : decode cX2_clearLines 11 = .ok (.iadd, 1) := by decide +kernel
theorem dX2_clearLines_12 : decode cX2_clearLines 12 = .ok (.laload, 1) := by decide +kernel
theorem dX2_clearLines_13 : decode cX2_clearLines 13 = .ok (.lstore_n 2, 1) := by decide +kernel
theorem dX2_clearLines_14 : decode cX2_clearLines 14 = .ok (.lload_n 2, 1) := by decide +kernel
theorem dX2_clearLines_15 : decode cX2_clearLines 15 = .ok (.lconst 0, 1) := by decide +kernel
theorem dX2_clearLines_16 : decode cX2_clearLines 16 = .ok (.lcmp, 1) := by decide +kernel
theorem dX2_clearLines_17 : decode cX2_clearLines 17 = .ok (.ifCond .ne 5, 3) := by decide +kernel
theorem dX2_clearLines_20 : decode cX2_clearLines 20 = .ok (.iconst 0, 1) := by decide +kernel
theorem dX2_clearLines_21 : decode cX2_clearLines 21 = .ok (.ireturn, 1) := by decide +kernel
theorem dX2_clearLines_22 : decode cX2_clearLines 22 = .ok (.iconst 1, 1) := by decide +kernel
theorem dX2_clearLines_23 : decode cX2_clearLines 23 = .ok (.istore 4, 2) := by decide +kernel
theorem dX2_clearLines_25 : decode cX2_clearLines 25 = .ok (.iload_n 1, 1) := by decide +kernel
theorem dX2_clearLines_26 : decode cX2_clearLines 26 = .ok (.iconst 1, 1) := by decide +kernel
theorem dX2_clearLines_27 : decode cX2_clearLines 27 = .ok (.iadd, 1) := by decide +kernel
theorem dX2_clearLines_28 : decode cX2_clearLines 28 = .ok (.istore 5, 2) := by decide +kernel
theorem dX2_clearLines_30 : decode cX2_clearLines 30 = .ok (.iload 5, 2) := by decide +kernel
theorem dX2_clearLines_32 : decode cX2_clearLines 32 = .ok (.aload_n 0, 1) := by decide +kernel
theorem dX2_clearLines_33 : decode cX2_clearLines 33 = .ok (.getfield 56, 3) := by decide +kernel
theorem dX2_clearLines_36 : decode cX2_clearLines 36 = .ok (.if_icmp .ge 106, 3) := by decide +kernel
theorem dX2_clearLines_39 : decode cX2_clearLines 39 = .ok (.aload_n 0, 1) := by decide +kernel
theorem dX2_clearLines_40 : decode cX2_clearLines 40 = .ok (.getfield 9, 3) := by decide +kernel
theorem dX2_clearLines_43 : decode cX2_clearLines 43 = .ok (.iload 5, 2) := by decide +kernel
theorem dX2_clearLines_45 : decode cX2_clearLines 45 = .ok (.aload_n 0, 1) := by decide +kernel
theorem dX2_clearLines_46 : decode cX2_clearLines 46 = .ok (.getfield 35, 3) := by decide +kernel
theorem dX2_clearLines_49 : decode cX2_clearLines 49 = .ok (.imul, 1) := by decide +kernel
theorem dX2_clearLines_50 : decode cX2_clearLines 50 = .ok (.iload_n 1, 1) := by decide +kernel
theorem dX2_clearLines_51 : decode cX2_clearLines 51 = .ok (.iadd, 1) := by decide +kernel
theorem dX2_clearLines_52 : decode cX2_clearLines 52 = .ok (.laload, 1) := by decide +kernel
theorem dX2_clearLines_53 : decode cX2_clearLines 53 = .ok (.lload_n 2, 1) := by decide +kernel
theorem dX2_clearLines_54 : decode cX2_clearLines 54 = .ok (.ldiv, 1) := by decide +kernel
theorem dX2_clearLines_55 : decode cX2_clearLines 55 = .ok (.lstore 6, 2) := by decide +kernel
theorem dX2_clearLines_57 : decode cX2_clearLines 57 = .ok (.iload_n 1, 1) := by decide +kernel
theorem dX2_clearLines_58 : decode cX2_clearLines 58 = .ok (.istore 8, 2) := by decide +kernel
theorem dX2_clearLines_60 : decode cX2_clearLines 60 = .ok (.iload 8, 2) := by decide +kernel
theorem dX2_clearLines_62 : decode cX2_clearLines 62 = .ok (.aload_n 0, 1) := by decide +kernel
theorem dX2_clearLines_63 : decode cX2_clearLines 63 = .ok (.getfield 35, 3) := by decide +kernel
theorem dX2_clearLines_66 : decode cX2_clearLines 66 = .ok (.if_icmp .ge 41, 3) := by decide +kernel
theorem dX2_clearLines_69 : decode cX2_clearLines 69 = .ok (.lload 6, 2) := by decide +kernel
theorem dX2_clearLines_71 : decode cX2_clearLines 71 = .ok (.lconst 0, 1) := by decide +kernel
theorem dX2_clearLines_72 : decode cX2_clearLines 72 = .ok (.lcmp, 1) := by decide +kernel
theorem dX2_clearLines_73 : decode cX2_clearLines 73 = .ok (.ifCond .eq 34, 3) := by decide +kernel
theorem dX2_clearLines_76 : decode cX2_clearLines 76 = .ok (.aload_n 0, 1) := by decide +kernel
theorem dX2_clearLines_77 : decode cX2_clearLines 77 = .ok (.iload 5, 2) := by decide +kernel
theorem dX2_clearLines_79 : decode cX2_clearLines 79 = .ok (.aload_n 0, 1) := by decide +kernel
theorem dX2_clearLines_80 : decode cX2_clearLines 80 = .ok (.getfield 35, 3) := by decide +kernel
theorem dX2_clearLines_83 : decode cX2_clearLines 83 = .ok (.imul, 1) := by decide +kernel
theorem dX2_clearLines_84 : decode cX2_clearLines 84 = .ok (.iload 8, 2) := by decide +kernel
theorem dX2_clearLines_86 : decode cX2_clearLines 86 = .ok (.iadd, 1) := by decide +kernel
theorem dX2_clearLines_87 : decode cX2_clearLines 87 = .ok (.lload 6, 2) := by decide +kernel
theorem dX2_clearLines_89 : decode cX2_clearLines 89 = .ok (.iload_n 1, 1) := by decide +kernel
theorem dX2_clearLines_90 : decode cX2_clearLines 90 = .ok (.aload_n 0, 1) := by decide +kernel
theorem dX2_clearLines_91 : decode cX2_clearLines 91 = .ok (.getfield 35, 3) := by decide +kernel
theorem dX2_clearLines_94 : decode cX2_clearLines 94 = .ok (.imul, 1) := by decide +kernel
theorem dX2_clearLines_95 : decode cX2_clearLines 95 = .ok (.iload 8, 2) := by decide +kernel
theorem dX2_clearLines_97 : decode cX2_clearLines 97 = .ok (.iadd, 1) := by decide +kernel
theorem dX2_clearLines_98 : decode cX2_clearLines 98 = .ok (.invokevirtual 146, 3) := by decide +kernel
theorem dX2_clearLines_101 : decode cX2_clearLines 101 = .ok (.iinc 8 1, 3) := by decide +kernel
theorem dX2_clearLines_104 : decode cX2_clearLines 104 = .ok (.goto (-44), 3) := by decide +kernel
theorem dX2_clearLines_107 : decode cX2_clearLines 107 = .ok (.iload 4, 2) := by decide +kernel
theorem dX2_clearLines_109 : decode cX2_clearLines 109 = .ok (.aload_n 0, 1) := by decide +kernel
theorem dX2_clearLines_110 : decode cX2_clearLines 110 = .ok (.getfield 9, 3) := by decide +kernel
theorem dX2_clearLines_113 : decode cX2_clearLines 113 = .ok (.iload 5, 2) := by decide +kernel
theorem dX2_clearLines_115 : decode cX2_clearLines 115 = .ok (.aload_n 0, 1) := by decide +kernel
theorem dX2_clearLines_116 : decode cX2_clearLines 116 = .ok (.getfield 35, 3) := by decide +kernel
theorem dX2_clearLines_119 : decode cX2_clearLines 119 = .ok (.imul, 1) := by decide +kernel
theorem dX2_clearLines_120 : decode cX2_clearLines 120 = .ok (.iload_n 1, 1) := by decide +kernel
theorem dX2_clearLines_121 : decode cX2_clearLines 121 = .ok (.iadd, 1) := by decide +kernel
theorem dX2_clearLines_122 : decode cX2_clearLines 122 = .ok (.laload, 1) := by decide +kernel
theorem dX2_clearLines_123 : decode cX2_clearLines 123 = .ok (.lconst 0, 1) := by decide +kernel
theorem dX2_clearLines_124 : decode cX2_clearLines 124 = .ok (.lcmp, 1) := by decide +kernel
theorem dX2_clearLines_125 : decode cX2_clearLines 125 = .ok (.ifCond .ne 7, 3) := by decide +kernel
theorem dX2_clearLines_128 : decode cX2_clearLines 128 = .ok (.iconst 1, 1) := by decide +kernel
theorem dX2_clearLines_129 : decode cX2_clearLines 129 = .ok (.goto 4, 3) := by decide +kernel
theorem dX2_clearLines_132 : decode cX2_clearLines 132 = .ok (.iconst 0, 1) := by decide +kernel
theorem dX2_clearLines_133 : decode cX2_clearLines 133 = .ok (.iand, 1) := by decide +kernel
theorem dX2_clearLines_134 : decode cX2_clearLines 134 = .ok (.istore 4, 2) := by decide +kernel
theorem dX2_clearLines_136 : decode cX2_clearLines 136 = .ok (.iinc 5 1, 3) := by decide +kernel
theorem dX2_clearLines_139 : decode cX2_clearLines 139 = .ok (.goto (-109), 3) := by decide +kernel
theorem dX2_clearLines_142 : decode cX2_clearLines 142 = .ok (.iload_n 1, 1) := by decide +kernel
theorem dX2_clearLines_143 : decode cX2_clearLines 143 = .ok (.iconst 1, 1) := by decide +kernel
theorem dX2_clearLines_144 : decode cX2_clearLines 144 = .ok (.iadd, 1) := by decide +kernel
theorem dX2_clearLines_145 : decode cX2_clearLines 145 = .ok (.istore 5, 2) := by decide +kernel
theorem dX2_clearLines_147 : decode cX2_clearLines 147 = .ok (.iload 5, 2) := by decide +kernel
theorem dX2_clearLines_149 : decode cX2_clearLines 149 = .ok (.aload_n 0, 1) := by decide +kernel
theorem dX2_clearLines_150 : decode cX2_clearLines 150 = .ok (.getfield 35, 3) := by decide +kernel
theorem dX2_clearLines_153 : decode cX2_clearLines 153 = .ok (.if_icmp .ge 106, 3) := by decide +kernel
theorem dX2_clearLines_156 : decode cX2_clearLines 156 = .ok (.aload_n 0, 1) := by decide +kernel
theorem dX2_clearLines_157 : decode cX2_clearLines 157 = .ok (.getfield 9, 3) := by decide +kernel
theorem dX2_clearLines_160 : decode cX2_clearLines 160 = .ok (.iload_n 1, 1) := by decide +kernel
theorem dX2_clearLines_161 : decode cX2_clearLines 161 = .ok (.aload_n 0, 1) := by decide +kernel
theorem dX2_clearLines_162 : decode cX2_clearLines 162 = .ok (.getfield 35, 3) := by decide +kernel
theorem dX2_clearLines_165 : decode cX2_clearLines 165 = .ok (.imul, 1) := by decide +kernel
theorem dX2_clearLines_166 : decode cX2_clearLines 166 = .ok (.iload 5, 2) := by decide +kernel
theorem dX2_clearLines_168 : decode cX2_clearLines 168 = .ok (.iadd, 1) := by decide +kernel
theorem dX2_clearLines_169 : decode cX2_clearLines 169 = .ok (.laload, 1) := by decide +kernel
theorem dX2_clearLines_170 : decode cX2_clearLines 170 = .ok (.lload_n 2, 1) := by decide +kernel
theorem dX2_clearLines_171 : decode cX2_clearLines 171 = .ok (.ldiv, 1) := by decide +kernel
theorem dX2_clearLines_172 : decode cX2_clearLines 172 = .ok (.lstore 6, 2) := by decide +kernel
theorem dX2_clearLines_174 : decode cX2_clearLines 174 = .ok (.iload_n 1, 1) := by decide +kernel
theorem dX2_clearLines_175 : decode cX2_clearLines 175 = .ok (.istore 8, 2) := by decide +kernel
theorem dX2_clearLines_177 : decode cX2_clearLines 177 = .ok (.iload 8, 2) := by decide +kernel
theorem dX2_clearLines_179 : decode cX2_clearLines 179 = .ok (.aload_n 0, 1) := by decide +kernel
theorem dX2_clearLines_180 : decode cX2_clearLines 180 = .ok (.getfield 56, 3) := by decide +kernel
theorem dX2_clearLines_183 : decode cX2_clearLines 183 = .ok (.if_icmp .ge 41, 3) := by decide +kernel
theorem dX2_clearLines_186 : decode cX2_clearLines 186 = .ok (.lload 6, 2) := by decide +kernel
theorem dX2_clearLines_188 : decode cX2_clearLines 188 = .ok (.lconst 0, 1) := by decide +kernel
theorem dX2_clearLines_189 : decode cX2_clearLines 189 = .ok (.lcmp, 1) := by decide +kernel
theorem dX2_clearLines_190 : decode cX2_clearLines 190 = .ok (.ifCond .eq 34, 3) := by decide +kernel
theorem dX2_clearLines_193 : decode cX2_clearLines 193 = .ok (.aload_n 0, 1) := by decide +kernel
theorem dX2_clearLines_194 : decode cX2_clearLines 194 = .ok (.iload 8, 2) := by decide +kernel
theorem dX2_clearLines_196 : decode cX2_clearLines 196 = .ok (.aload_n 0, 1) := by decide +kernel
theorem dX2_clearLines_197 : decode cX2_clearLines 197 = .ok (.getfield 35, 3) := by decide +kernel
theorem dX2_clearLines_200 : decode cX2_clearLines 200 = .ok (.imul, 1) := by decide +kernel
theorem dX2_clearLines_201 : decode cX2_clearLines 201 = .ok (.iload 5, 2) := by decide +kernel
theorem dX2_clearLines_203 : decode cX2_clearLines 203 = .ok (.iadd, 1) := by decide +kernel
theorem dX2_clearLines_204 : decode cX2_clearLines 204 = .ok (.lload 6, 2) := by decide +kernel
theorem dX2_clearLines_206 : decode cX2_clearLines 206 = .ok (.iload 8, 2) := by decide +kernel
theorem dX2_clearLines_208 : decode cX2_clearLines 208 = .ok (.aload_n 0, 1) := by decide +kernel
theorem dX2_clearLines_209 : decode cX2_clearLines 209 = .ok (.getfield 35, 3) := by decide +kernel
theorem dX2_clearLines_212 : decode cX2_clearLines 212 = .ok (.imul, 1) := by decide +kernel
theorem dX2_clearLines_213 : decode cX2_clearLines 213 = .ok (.iload_n 1, 1) := by decide +kernel
theorem dX2_clearLines_214 : decode cX2_clearLines 214 = .ok (.iadd, 1) := by decide +kernel
theorem dX2_clearLines_215 : decode cX2_clearLines 215 = .ok (.invokevirtual 146, 3) := by decide +kernel
theorem dX2_clearLines_218 : decode cX2_clearLines 218 = .ok (.iinc 8 1, 3) := by decide +kernel
theorem dX2_clearLines_221 : decode cX2_clearLines 221 = .ok (.goto (-44), 3) := by decide +kernel
theorem dX2_clearLines_224 : decode cX2_clearLines 224 = .ok (.iload 4, 2) := by decide +kernel
theorem dX2_clearLines_226 : decode cX2_clearLines 226 = .ok (.aload_n 0, 1) := by decide +kernel
theorem dX2_clearLines_227 : decode cX2_clearLines 227 = .ok (.getfield 9, 3) := by decide +kernel
theorem dX2_clearLines_230 : decode cX2_clearLines 230 = .ok (.iload_n 1, 1) := by decide +kernel
theorem dX2_clearLines_231 : decode cX2_clearLines 231 = .ok (.aload_n 0, 1) := by decide +kernel
theorem dX2_clearLines_232 : decode cX2_clearLines 232 = .ok (.getfield 35, 3) := by decide +kernel
theorem dX2_clearLines_235 : decode cX2_clearLines 235 = .ok (.imul, 1) := by decide +kernel
theorem dX2_clearLines_236 : decode cX2_clearLines 236 = .ok (.iload 5, 2) := by decide +kernel
theorem dX2_clearLines_238 : decode cX2_clearLines 238 = .ok (.iadd, 1) := by decide +kernel
theorem dX2_clearLines_239 : decode cX2_clearLines 239 = .ok (.laload, 1) := by decide +kernel
theorem dX2_clearLines_240 : decode cX2_clearLines 240 = .ok (.lconst 0, 1) := by decide +kernel
theorem dX2_clearLines_241 : decode cX2_clearLines 241 = .ok (.lcmp, 1) := by decide +kernel
theorem dX2_clearLines_242 : decode cX2_clearLines 242 = .ok (.ifCond .ne 7, 3) := by decide +kernel
theorem dX2_clearLines_245 : decode cX2_clearLines 245 = .ok (.iconst 1, 1) := by decide +kernel
theorem dX2_clearLines_246 : decode cX2_clearLines 246 = .ok (.goto 4, 3) := by decide +kernel
theorem dX2_clearLines_249 : decode cX2_clearLines 249 = .ok (.iconst 0, 1) := by decide +kernel
theorem dX2_clearLines_250 : decode cX2_clearLines 250 = .ok (.iand, 1) := by decide +kernel
theorem dX2_clearLines_251 : decode cX2_clearLines 251 = .ok (.istore 4, 2) := by decide +kernel
theorem dX2_clearLines_253 : decode cX2_clearLines 253 = .ok (.iinc 5 1, 3) := by decide +kernel
theorem dX2_clearLines_256 : decode cX2_clearLines 256 = .ok (.goto (-109), 3) := by decide +kernel
theorem dX2_clearLines_259 : decode cX2_clearLines 259 = .ok (.iload 4, 2) := by decide +kernel
theorem dX2_clearLines_261 : decode cX2_clearLines 261 = .ok (.ireturn, 1) := by decide +kernel
theorem dX2_takeOut_0 : decode cX2_takeOut 0 = .ok (.aload_n 0, 1) := by decide +kernel
theorem dX2_takeOut_1 : decode cX2_takeOut 1 = .ok (.getfield 9, 3) := by decide +kernel
theorem dX2_takeOut_4 : decode cX2_takeOut 4 = .ok (.iload_n 1, 1) := by decide +kernel
theorem dX2_takeOut_5 : decode cX2_takeOut 5 = .ok (.aload_n 0, 1) := by decide +kernel
theorem dX2_takeOut_6 : decode cX2_takeOut 6 = .ok (.getfield 9, 3) := by decide +kernel
theorem dX2_takeOut_9 : decode cX2_takeOut 9 = .ok (.iload_n 1, 1) := by decide +kernel
theorem dX2_takeOut_10 : decode cX2_takeOut 10 = .ok (.laload, 1) := by decide +kernel
theorem dX2_takeOut_11 : decode cX2_takeOut 11 = .ok (.lload_n 2, 1) := by decide +kernel
theorem dX2_takeOut_12 : decode cX2_takeOut 12 = .ok (.aload_n 0, 1) := by decide +kernel
theorem dX2_takeOut_13 : decode cX2_takeOut 13 = .ok (.getfield 9, 3) := by decide +kernel
theorem dX2_takeOut_16 : decode cX2_takeOut 16 = .ok (.iload 4, 2) := by decide +kernel
theorem dX2_takeOut_18 : decode cX2_takeOut 18 = .ok (.laload, 1) := by decide +kernel
theorem dX2_takeOut_19 : decode cX2_takeOut 19 = .ok (.lmul, 1) := by decide +kernel
theorem dX2_takeOut_20 : decode cX2_takeOut 20 = .ok (.lsub, 1) := by decide +kernel
theorem dX2_takeOut_21 : decode cX2_takeOut 21 = .ok (.aload_n 0, 1) := by decide +kernel
theorem dX2_takeOut_22 : decode cX2_takeOut 22 = .ok (.getfield 118, 3) := by decide +kernel
theorem dX2_takeOut_25 : decode cX2_takeOut 25 = .ok (.invokestatic 77, 3) := by decide +kernel
theorem dX2_takeOut_28 : decode cX2_takeOut 28 = .ok (.lastore, 1) := by decide +kernel
theorem dX2_takeOut_29 : decode cX2_takeOut 29 = .ok (.return_, 1) := by decide +kernel
theorem dX2_rowNotDivided_0 : decode cX2_rowNotDivided 0 = .ok (.iload_n 1, 1) := by decide +kernel
theorem dX2_rowNotDivided_1 : decode cX2_rowNotDivided 1 = .ok (.iconst 1, 1) := by decide +kernel
theorem dX2_rowNotDivided_2 : decode cX2_rowNotDivided 2 = .ok (.iadd, 1) := by decide +kernel
theorem dX2_rowNotDivided_3 : decode cX2_rowNotDivided 3 = .ok (.istore 4, 2) := by decide +kernel
theorem dX2_rowNotDivided_5 : decode cX2_rowNotDivided 5 = .ok (.iload 4, 2) := by decide +kernel
theorem dX2_rowNotDivided_7 : decode cX2_rowNotDivided 7 = .ok (.aload_n 0, 1) := by decide +kernel
theorem dX2_rowNotDivided_8 : decode cX2_rowNotDivided 8 = .ok (.getfield 56, 3) := by decide +kernel
theorem dX2_rowNotDivided_11 : decode cX2_rowNotDivided 11 = .ok (.if_icmp .ge 60, 3) := by decide +kernel
theorem dX2_rowNotDivided_14 : decode cX2_rowNotDivided 14 = .ok (.iload_n 1, 1) := by decide +kernel
theorem dX2_rowNotDivided_15 : decode cX2_rowNotDivided 15 = .ok (.iconst 1, 1) := by decide +kernel
theorem dX2_rowNotDivided_16 : decode cX2_rowNotDivided 16 = .ok (.iadd, 1) := by decide +kernel
theorem dX2_rowNotDivided_17 : decode cX2_rowNotDivided 17 = .ok (.istore 5, 2) := by decide +kernel
theorem dX2_rowNotDivided_19 : decode cX2_rowNotDivided 19 = .ok (.iload 5, 2) := by decide +kernel
theorem dX2_rowNotDivided_21 : decode cX2_rowNotDivided 21 = .ok (.aload_n 0, 1) := by decide +kernel
theorem dX2_rowNotDivided_22 : decode cX2_rowNotDivided 22 = .ok (.getfield 35, 3) := by decide +kernel
theorem dX2_rowNotDivided_25 : decode cX2_rowNotDivided 25 = .ok (.if_icmp .ge 40, 3) := by decide +kernel
theorem dX2_rowNotDivided_28 : decode cX2_rowNotDivided 28 = .ok (.lload_n 2, 1) := by decide +kernel
theorem dX2_rowNotDivided_29 : decode cX2_rowNotDivided 29 = .ok (.lconst 0, 1) := by decide +kernel
theorem dX2_rowNotDivided_30 : decode cX2_rowNotDivided 30 = .ok (.lcmp, 1) := by decide +kernel
theorem dX2_rowNotDivided_31 : decode cX2_rowNotDivided 31 = .ok (.ifCond .eq 28, 3) := by decide +kernel
theorem dX2_rowNotDivided_34 : decode cX2_rowNotDivided 34 = .ok (.aload_n 0, 1) := by decide +kernel
theorem dX2_rowNotDivided_35 : decode cX2_rowNotDivided 35 = .ok (.getfield 9, 3) := by decide +kernel
theorem dX2_rowNotDivided_38 : decode cX2_rowNotDivided 38 = .ok (.iload 4, 2) := by decide +kernel
theorem dX2_rowNotDivided_40 : decode cX2_rowNotDivided 40 = .ok (.aload_n 0, 1) := by decide +kernel
theorem dX2_rowNotDivided_41 : decode cX2_rowNotDivided 41 = .ok (.getfield 35, 3) := by decide +kernel
theorem dX2_rowNotDivided_44 : decode cX2_rowNotDivided 44 = .ok (.imul, 1) := by decide +kernel
theorem dX2_rowNotDivided_45 : decode cX2_rowNotDivided 45 = .ok (.iload 5, 2) := by decide +kernel
theorem dX2_rowNotDivided_47 : decode cX2_rowNotDivided 47 = .ok (.iadd, 1) := by decide +kernel
theorem dX2_rowNotDivided_48 : decode cX2_rowNotDivided 48 = .ok (.laload, 1) := by decide +kernel
theorem dX2_rowNotDivided_49 : decode cX2_rowNotDivided 49 = .ok (.lload_n 2, 1) := by decide +kernel
theorem dX2_rowNotDivided_50 : decode cX2_rowNotDivided 50 = .ok (.lrem, 1) := by decide +kernel
theorem dX2_rowNotDivided_51 : decode cX2_rowNotDivided 51 = .ok (.lconst 0, 1) := by decide +kernel
theorem dX2_rowNotDivided_52 : decode cX2_rowNotDivided 52 = .ok (.lcmp, 1) := by decide +kernel
theorem dX2_rowNotDivided_53 : decode cX2_rowNotDivided 53 = .ok (.ifCond .eq 6, 3) := by decide +kernel
theorem dX2_rowNotDivided_56 : decode cX2_rowNotDivided 56 = .ok (.iload 4, 2) := by decide +kernel
theorem dX2_rowNotDivided_58 : decode cX2_rowNotDivided 58 = .ok (.ireturn, 1) := by decide +kernel
theorem dX2_rowNotDivided_59 : decode cX2_rowNotDivided 59 = .ok (.iinc 5 1, 3) := by decide +kernel
theorem dX2_rowNotDivided_62 : decode cX2_rowNotDivided 62 = .ok (.goto (-43), 3) := by decide +kernel
theorem dX2_rowNotDivided_65 : decode cX2_rowNotDivided 65 = .ok (.iinc 4 1, 3) := by decide +kernel
theorem dX2_rowNotDivided_68 : decode cX2_rowNotDivided 68 = .ok (.goto (-63), 3) := by decide +kernel
theorem dX2_rowNotDivided_71 : decode cX2_rowNotDivided 71 = .ok (.iconst (-1), 1) := by decide +kernel
theorem dX2_rowNotDivided_72 : decode cX2_rowNotDivided 72 = .ok (.ireturn, 1) := by decide +kernel
theorem dX2_addRow_0 : decode cX2_addRow 0 = .ok (.iload_n 2, 1) := by decide +kernel
theorem dX2_addRow_1 : decode cX2_addRow 1 = .ok (.istore_n 3, 1) := by decide +kernel
theorem dX2_addRow_2 : decode cX2_addRow 2 = .ok (.iload_n 3, 1) := by decide +kernel
theorem dX2_addRow_3 : decode cX2_addRow 3 = .ok (.aload_n 0, 1) := by decide +kernel
theorem dX2_addRow_4 : decode cX2_addRow 4 = .ok (.getfield 35, 3) := by decide +kernel
theorem dX2_addRow_7 : decode cX2_addRow 7 = .ok (.if_icmp .ge 32, 3) := by decide +kernel
theorem dX2_addRow_10 : decode cX2_addRow 10 = .ok (.aload_n 0, 1) := by decide +kernel
theorem dX2_addRow_11 : decode cX2_addRow 11 = .ok (.iload_n 2, 1) := by decide +kernel
theorem dX2_addRow_12 : decode cX2_addRow 12 = .ok (.aload_n 0, 1) := by decide +kernel
theorem dX2_addRow_13 : decode cX2_addRow 13 = .ok (.getfield 35, 3) := by decide +kernel
theorem dX2_addRow_16 : decode cX2_addRow 16 = .ok (.imul, 1) := by decide +kernel
theorem dX2_addRow_17 : decode cX2_addRow 17 = .ok (.iload_n 3, 1) := by decide +kernel
theorem dX2_addRow_18 : decode cX2_addRow 18 = .ok (.iadd, 1) := by decide +kernel
theorem dX2_addRow_19 : decode cX2_addRow 19 = .ok (.ldc2_w 75, 3) := by decide +kernel
theorem dX2_addRow_22 : decode cX2_addRow 22 = .ok (.iload_n 1, 1) := by decide +kernel
theorem dX2_addRow_23 : decode cX2_addRow 23 = .ok (.aload_n 0, 1) := by decide +kernel
theorem dX2_addRow_24 : decode cX2_addRow 24 = .ok (.getfield 35, 3) := by decide +kernel
theorem dX2_addRow_27 : decode cX2_addRow 27 = .ok (.imul, 1) := by decide +kernel
theorem dX2_addRow_28 : decode cX2_addRow 28 = .ok (.iload_n 3, 1) := by decide +kernel
theorem dX2_addRow_29 : decode cX2_addRow 29 = .ok (.iadd, 1) := by decide +kernel
theorem dX2_addRow_30 : decode cX2_addRow 30 = .ok (.invokevirtual 146, 3) := by decide +kernel
theorem dX2_addRow_33 : decode cX2_addRow 33 = .ok (.iinc 3 1, 3) := by decide +kernel
theorem dX2_addRow_36 : decode cX2_addRow 36 = .ok (.goto (-34), 3) := by decide +kernel
theorem dX2_addRow_39 : decode cX2_addRow 39 = .ok (.return_, 1) := by decide +kernel
theorem dX2_divisorOf_0 : decode cX2_divisorOf 0 = .ok (.lload_n 0, 1) := by decide +kernel
theorem dX2_divisorOf_1 : decode cX2_divisorOf 1 = .ok (.lstore 4, 2) := by decide +kernel
theorem dX2_divisorOf_3 : decode cX2_divisorOf 3 = .ok (.lload_n 2, 1) := by decide +kernel
theorem dX2_divisorOf_4 : decode cX2_divisorOf 4 = .ok (.lstore 6, 2) := by decide +kernel
theorem dX2_divisorOf_6 : decode cX2_divisorOf 6 = .ok (.iconst 0, 1) := by decide +kernel
theorem dX2_divisorOf_7 : decode cX2_divisorOf 7 = .ok (.istore 8, 2) := by decide +kernel
theorem dX2_divisorOf_9 : decode cX2_divisorOf 9 = .ok (.iload 8, 2) := by decide +kernel
theorem dX2_divisorOf_11 : decode cX2_divisorOf 11 = .ok (.ldc 125, 2) := by decide +kernel
theorem dX2_divisorOf_13 : decode cX2_divisorOf 13 = .ok (.if_icmp .ge 31, 3) := by decide +kernel
theorem dX2_divisorOf_16 : decode cX2_divisorOf 16 = .ok (.lload 6, 2) := by decide +kernel
theorem dX2_divisorOf_18 : decode cX2_divisorOf 18 = .ok (.lconst 0, 1) := by decide +kernel
theorem dX2_divisorOf_19 : decode cX2_divisorOf 19 = .ok (.lcmp, 1) := by decide +kernel
theorem dX2_divisorOf_20 : decode cX2_divisorOf 20 = .ok (.ifCond .eq 24, 3) := by decide +kernel
theorem dX2_divisorOf_23 : decode cX2_divisorOf 23 = .ok (.lload 4, 2) := by decide +kernel
theorem dX2_divisorOf_25 : decode cX2_divisorOf 25 = .ok (.lload 6, 2) := by decide +kernel
theorem dX2_divisorOf_27 : decode cX2_divisorOf 27 = .ok (.lrem, 1) := by decide +kernel
theorem dX2_divisorOf_28 : decode cX2_divisorOf 28 = .ok (.lstore 9, 2) := by decide +kernel
theorem dX2_divisorOf_30 : decode cX2_divisorOf 30 = .ok (.lload 6, 2) := by decide +kernel
theorem dX2_divisorOf_32 : decode cX2_divisorOf 32 = .ok (.lstore 4, 2) := by decide +kernel
theorem dX2_divisorOf_34 : decode cX2_divisorOf 34 = .ok (.lload 9, 2) := by decide +kernel
theorem dX2_divisorOf_36 : decode cX2_divisorOf 36 = .ok (.lstore 6, 2) := by decide +kernel
theorem dX2_divisorOf_38 : decode cX2_divisorOf 38 = .ok (.iinc 8 1, 3) := by decide +kernel
theorem dX2_divisorOf_41 : decode cX2_divisorOf 41 = .ok (.goto (-32), 3) := by decide +kernel
theorem dX2_divisorOf_44 : decode cX2_divisorOf 44 = .ok (.lload 4, 2) := by decide +kernel
theorem dX2_divisorOf_46 : decode cX2_divisorOf 46 = .ok (.lreturn, 1) := by decide +kernel
theorem dX2_isSumOfEdges_0 : decode cX2_isSumOfEdges 0 = .ok (.aload_n 0, 1) := by decide +kernel
theorem dX2_isSumOfEdges_1 : decode cX2_isSumOfEdges 1 = .ok (.getfield 18, 3) := by decide +kernel
theorem dX2_isSumOfEdges_4 : decode cX2_isSumOfEdges 4 = .ok (.iconst 0, 1) := by decide +kernel
theorem dX2_isSumOfEdges_5 : decode cX2_isSumOfEdges 5 = .ok (.invokestatic 150, 3) := by decide +kernel
theorem dX2_isSumOfEdges_8 : decode cX2_isSumOfEdges 8 = .ok (.iconst 0, 1) := by decide +kernel
theorem dX2_isSumOfEdges_9 : decode cX2_isSumOfEdges 9 = .ok (.istore_n 3, 1) := by decide +kernel
theorem dX2_isSumOfEdges_10 : decode cX2_isSumOfEdges 10 = .ok (.iload_n 3, 1) := by decide +kernel
theorem dX2_isSumOfEdges_11 : decode cX2_isSumOfEdges 11 = .ok (.aload_n 1, 1) := by decide +kernel
theorem dX2_isSumOfEdges_12 : decode cX2_isSumOfEdges 12 = .ok (.getfield 22, 3) := by decide +kernel
theorem dX2_isSumOfEdges_15 : decode cX2_isSumOfEdges 15 = .ok (.if_icmp .ge 37, 3) := by decide +kernel
theorem dX2_isSumOfEdges_18 : decode cX2_isSumOfEdges 18 = .ok (.aload_n 0, 1) := by decide +kernel
theorem dX2_isSumOfEdges_19 : decode cX2_isSumOfEdges 19 = .ok (.aload_n 1, 1) := by decide +kernel
theorem dX2_isSumOfEdges_20 : decode cX2_isSumOfEdges 20 = .ok (.iload_n 3, 1) := by decide +kernel
theorem dX2_isSumOfEdges_21 : decode cX2_isSumOfEdges 21 = .ok (.invokevirtual 153, 3) := by decide +kernel
theorem dX2_isSumOfEdges_24 : decode cX2_isSumOfEdges 24 = .ok (.invokevirtual 156, 3) := by decide +kernel
theorem dX2_isSumOfEdges_27 : decode cX2_isSumOfEdges 27 = .ok (.istore 4, 2) := by decide +kernel
theorem dX2_isSumOfEdges_29 : decode cX2_isSumOfEdges 29 = .ok (.iload 4, 2) := by decide +kernel
theorem dX2_isSumOfEdges_31 : decode cX2_isSumOfEdges 31 = .ok (.ifCond .eq 15, 3) := by decide +kernel
theorem dX2_isSumOfEdges_34 : decode cX2_isSumOfEdges 34 = .ok (.aload_n 0, 1) := by decide +kernel
theorem dX2_isSumOfEdges_35 : decode cX2_isSumOfEdges 35 = .ok (.getfield 18, 3) := by decide +kernel
theorem dX2_isSumOfEdges_38 : decode cX2_isSumOfEdges 38 = .ok (.iload 4, 2) := by decide +kernel
theorem dX2_isSumOfEdges_40 : decode cX2_isSumOfEdges 40 = .ok (.invokestatic 159, 3) := by decide +kernel
theorem dX2_isSumOfEdges_43 : decode cX2_isSumOfEdges 43 = .ok (.iload 4, 2) := by decide +kernel
theorem dX2_isSumOfEdges_45 : decode cX2_isSumOfEdges 45 = .ok (.iastore, 1) := by decide +kernel
theorem dX2_isSumOfEdges_46 : decode cX2_isSumOfEdges 46 = .ok (.iinc 3 1, 3) := by decide +kernel
theorem dX2_isSumOfEdges_49 : decode cX2_isSumOfEdges 49 = .ok (.goto (-39), 3) := by decide +kernel
theorem dX2_isSumOfEdges_52 : decode cX2_isSumOfEdges 52 = .ok (.aload_n 0, 1) := by decide +kernel
theorem dX2_isSumOfEdges_53 : decode cX2_isSumOfEdges 53 = .ok (.iload_n 2, 1) := by decide +kernel
theorem dX2_isSumOfEdges_54 : decode cX2_isSumOfEdges 54 = .ok (.invokevirtual 156, 3) := by decide +kernel
theorem dX2_isSumOfEdges_57 : decode cX2_isSumOfEdges 57 = .ok (.ifCond .ne 7, 3) := by decide +kernel
theorem dX2_isSumOfEdges_60 : decode cX2_isSumOfEdges 60 = .ok (.iconst 1, 1) := by decide +kernel
theorem dX2_isSumOfEdges_61 : decode cX2_isSumOfEdges 61 = .ok (.goto 4, 3) := by decide +kernel
theorem dX2_isSumOfEdges_64 : decode cX2_isSumOfEdges 64 = .ok (.iconst 0, 1) := by decide +kernel
theorem dX2_isSumOfEdges_65 : decode cX2_isSumOfEdges 65 = .ok (.ireturn, 1) := by decide +kernel
theorem dX2_clearByBasis_0 : decode cX2_clearByBasis 0 = .ok (.iload_n 1, 1) := by decide +kernel
theorem dX2_clearByBasis_1 : decode cX2_clearByBasis 1 = .ok (.istore_n 2, 1) := by decide +kernel
theorem dX2_clearByBasis_2 : decode cX2_clearByBasis 2 = .ok (.bipush 7, 2) := by decide +kernel
theorem dX2_clearByBasis_4 : decode cX2_clearByBasis 4 = .ok (.istore_n 3, 1) := by decide +kernel
theorem dX2_clearByBasis_5 : decode cX2_clearByBasis 5 = .ok (.iload_n 3, 1) := by decide +kernel
theorem dX2_clearByBasis_6 : decode cX2_clearByBasis 6 = .ok (.ifCond .lt 27, 3) := by decide +kernel
theorem dX2_clearByBasis_9 : decode cX2_clearByBasis 9 = .ok (.iload_n 2, 1) := by decide +kernel
theorem dX2_clearByBasis_10 : decode cX2_clearByBasis 10 = .ok (.iload_n 3, 1) := by decide +kernel
theorem dX2_clearByBasis_11 : decode cX2_clearByBasis 11 = .ok (.ishr, 1) := by decide +kernel
theorem dX2_clearByBasis_12 : decode cX2_clearByBasis 12 = .ok (.iconst 1, 1) := by decide +kernel
theorem dX2_clearByBasis_13 : decode cX2_clearByBasis 13 = .ok (.iand, 1) := by decide +kernel
theorem dX2_clearByBasis_14 : decode cX2_clearByBasis 14 = .ok (.iconst 1, 1) := by decide +kernel
theorem dX2_clearByBasis_15 : decode cX2_clearByBasis 15 = .ok (.if_icmp .ne 12, 3) := by decide +kernel
theorem dX2_clearByBasis_18 : decode cX2_clearByBasis 18 = .ok (.iload_n 2, 1) := by decide +kernel
theorem dX2_clearByBasis_19 : decode cX2_clearByBasis 19 = .ok (.aload_n 0, 1) := by decide +kernel
theorem dX2_clearByBasis_20 : decode cX2_clearByBasis 20 = .ok (.getfield 18, 3) := by decide +kernel
theorem dX2_clearByBasis_23 : decode cX2_clearByBasis 23 = .ok (.iload_n 3, 1) := by decide +kernel
theorem dX2_clearByBasis_24 : decode cX2_clearByBasis 24 = .ok (.iaload, 1) := by decide +kernel
theorem dX2_clearByBasis_25 : decode cX2_clearByBasis 25 = .ok (.ixor, 1) := by decide +kernel
theorem dX2_clearByBasis_26 : decode cX2_clearByBasis 26 = .ok (.istore_n 2, 1) := by decide +kernel
theorem dX2_clearByBasis_27 : decode cX2_clearByBasis 27 = .ok (.iinc 3 (-1), 3) := by decide +kernel
theorem dX2_clearByBasis_30 : decode cX2_clearByBasis 30 = .ok (.goto (-25), 3) := by decide +kernel
theorem dX2_clearByBasis_33 : decode cX2_clearByBasis 33 = .ok (.iload_n 2, 1) := by decide +kernel
theorem dX2_clearByBasis_34 : decode cX2_clearByBasis 34 = .ok (.ireturn, 1) := by decide +kernel
theorem dX2_highestBit_0 : decode cX2_highestBit 0 = .ok (.bipush 7, 2) := by decide +kernel
theorem dX2_highestBit_2 : decode cX2_highestBit 2 = .ok (.istore_n 1, 1) := by decide +kernel
theorem dX2_highestBit_3 : decode cX2_highestBit 3 = .ok (.iload_n 1, 1) := by decide +kernel
theorem dX2_highestBit_4 : decode cX2_highestBit 4 = .ok (.ifCond .le 15, 3) := by decide +kernel
theorem dX2_highestBit_7 : decode cX2_highestBit 7 = .ok (.iload_n 0, 1) := by decide +kernel
theorem dX2_highestBit_8 : decode cX2_highestBit 8 = .ok (.iload_n 1, 1) := by decide +kernel
theorem dX2_highestBit_9 : decode cX2_highestBit 9 = .ok (.ishr, 1) := by decide +kernel
theorem dX2_highestBit_10 : decode cX2_highestBit 10 = .ok (.ifCond .ne 9, 3) := by decide +kernel
theorem dX2_highestBit_13 : decode cX2_highestBit 13 = .ok (.iinc 1 (-1), 3) := by decide +kernel
theorem dX2_highestBit_16 : decode cX2_highestBit 16 = .ok (.goto (-13), 3) := by decide +kernel
theorem dX2_highestBit_19 : decode cX2_highestBit 19 = .ok (.iload_n 1, 1) := by decide +kernel
theorem dX2_highestBit_20 : decode cX2_highestBit 20 = .ok (.ireturn, 1) := by decide +kernel
theorem dX3_init_0 : decode cX3_init 0 = .ok (.aload_n 0, 1) := by decide +kernel
theorem dX3_init_1 : decode cX3_init 1 = .ok (.invokespecial 3, 3) := by decide +kernel
theorem dX3_init_4 : decode cX3_init 4 = .ok (.aload_n 0, 1) := by decide +kernel
theorem dX3_init_5 : decode cX3_init 5 = .ok (.bipush 20, 2) := by decide +kernel
theorem dX3_init_7 : decode cX3_init 7 = .ok (.newarray .int, 2) := by decide +kernel
theorem dX3_init_9 : decode cX3_init 9 = .ok (.putfield 9, 3) := by decide +kernel
theorem dX3_init_12 : decode cX3_init 12 = .ok (.aload_n 0, 1) := by decide +kernel
theorem dX3_init_13 : decode cX3_init 13 = .ok (.iconst (-1), 1) := by decide +kernel
theorem dX3_init_14 : decode cX3_init 14 = .ok (.putfield 15, 3) := by decide +kernel
theorem dX3_init_17 : decode cX3_init 17 = .ok (.return_, 1) := by decide +kernel
theorem dX3_renew_0 : decode cX3_renew 0 = .ok (.aload_n 0, 1) := by decide +kernel
theorem dX3_renew_1 : decode cX3_renew 1 = .ok (.iload_n 1, 1) := by decide +kernel
theorem dX3_renew_2 : decode cX3_renew 2 = .ok (.putfield 15, 3) := by decide +kernel
theorem dX3_renew_5 : decode cX3_renew 5 = .ok (.aload_n 0, 1) := by decide +kernel
theorem dX3_renew_6 : decode cX3_renew 6 = .ok (.iload_n 2, 1) := by decide +kernel
theorem dX3_renew_7 : decode cX3_renew 7 = .ok (.putfield 19, 3) := by decide +kernel
theorem dX3_renew_10 : decode cX3_renew 10 = .ok (.aload_n 0, 1) := by decide +kernel
theorem dX3_renew_11 : decode cX3_renew 11 = .ok (.getfield 9, 3) := by decide +kernel
theorem dX3_renew_14 : decode cX3_renew 14 = .ok (.iconst 0, 1) := by decide +kernel
theorem dX3_renew_15 : decode cX3_renew 15 = .ok (.invokestatic 22, 3) := by decide +kernel
theorem dX3_renew_18 : decode cX3_renew 18 = .ok (.return_, 1) := by decide +kernel
theorem dX3_put_0 : decode cX3_put 0 = .ok (.aload_n 0, 1) := by decide +kernel
theorem dX3_put_1 : decode cX3_put 1 = .ok (.getfield 15, 3) := by decide +kernel
theorem dX3_put_4 : decode cX3_put 4 = .ok (.ifCond .ne 14, 3) := by decide +kernel
theorem dX3_put_7 : decode cX3_put 7 = .ok (.aload_n 0, 1) := by decide +kernel
theorem dX3_put_8 : decode cX3_put 8 = .ok (.getfield 9, 3) := by decide +kernel
theorem dX3_put_11 : decode cX3_put 11 = .ok (.iload_n 1, 1) := by decide +kernel
theorem dX3_put_12 : decode cX3_put 12 = .ok (.iload_n 2, 1) := by decide +kernel
theorem dX3_put_13 : decode cX3_put 13 = .ok (.i2b, 1) := by decide +kernel
theorem dX3_put_14 : decode cX3_put 14 = .ok (.iastore, 1) := by decide +kernel
theorem dX3_put_15 : decode cX3_put 15 = .ok (.goto 29, 3) := by decide +kernel
theorem dX3_put_18 : decode cX3_put 18 = .ok (.aload_n 0, 1) := by decide +kernel
theorem dX3_put_19 : decode cX3_put 19 = .ok (.getfield 15, 3) := by decide +kernel
theorem dX3_put_22 : decode cX3_put 22 = .ok (.iconst 1, 1) := by decide +kernel
theorem dX3_put_23 : decode cX3_put 23 = .ok (.if_icmp .ne 14, 3) := by decide +kernel
theorem dX3_put_26 : decode cX3_put 26 = .ok (.aload_n 0, 1) := by decide +kernel
theorem dX3_put_27 : decode cX3_put 27 = .ok (.getfield 9, 3) := by decide +kernel
theorem dX3_put_30 : decode cX3_put 30 = .ok (.iload_n 1, 1) := by decide +kernel
theorem dX3_put_31 : decode cX3_put 31 = .ok (.iload_n 2, 1) := by decide +kernel
theorem dX3_put_32 : decode cX3_put 32 = .ok (.i2s, 1) := by decide +kernel
theorem dX3_put_33 : decode cX3_put 33 = .ok (.iastore, 1) := by decide +kernel
theorem dX3_put_34 : decode cX3_put 34 = .ok (.goto 10, 3) := by decide +kernel
theorem dX3_put_37 : decode cX3_put 37 = .ok (.aload_n 0, 1) := by decide +kernel
theorem dX3_put_38 : decode cX3_put 38 = .ok (.getfield 9, 3) := by decide +kernel
theorem dX3_put_41 : decode cX3_put 41 = .ok (.iload_n 1, 1) := by decide +kernel
theorem dX3_put_42 : decode cX3_put 42 = .ok (.iload_n 2, 1) := by decide +kernel
theorem dX3_put_43 : decode cX3_put 43 = .ok (.iastore, 1) := by decide +kernel
theorem dX3_put_44 : decode cX3_put 44 = .ok (.return_, 1) := by decide +kernel
theorem dX4_init_0 : decode cX4_init 0 = .ok (.aload_n 0, 1) := by decide +kernel
theorem dX4_init_1 : decode cX4_init 1 = .ok (.invokespecial 1, 3) := by decide +kernel
theorem dX4_init_4 : decode cX4_init 4 = .ok (.aload_n 0, 1) := by decide +kernel
theorem dX4_init_5 : decode cX4_init 5 = .ok (.iload_n 1, 1) := by decide +kernel
theorem dX4_init_6 : decode cX4_init 6 = .ok (.putfield 7, 3) := by decide +kernel
theorem dX4_init_9 : decode cX4_init 9 = .ok (.aload_n 0, 1) := by decide +kernel
theorem dX4_init_10 : decode cX4_init 10 = .ok (.iload_n 1, 1) := by decide +kernel
theorem dX4_init_11 : decode cX4_init 11 = .ok (.invokestatic 13, 3) := by decide +kernel
theorem dX4_init_14 : decode cX4_init 14 = .ok (.putfield 17, 3) := by decide +kernel
theorem dX4_init_17 : decode cX4_init 17 = .ok (.aload_n 0, 1) := by decide +kernel
theorem dX4_init_18 : decode cX4_init 18 = .ok (.aload_n 0, 1) := by decide +kernel
theorem dX4_init_19 : decode cX4_init 19 = .ok (.getfield 17, 3) := by decide +kernel
theorem dX4_init_22 : decode cX4_init 22 = .ok (.iload_n 1, 1) := by decide +kernel
theorem dX4_init_23 : decode cX4_init 23 = .ok (.imul, 1) := by decide +kernel
theorem dX4_init_24 : decode cX4_init 24 = .ok (.newarray .int, 2) := by decide +kernel
theorem dX4_init_26 : decode cX4_init 26 = .ok (.putfield 20, 3) := by decide +kernel
theorem dX4_init_29 : decode cX4_init 29 = .ok (.aload_n 0, 1) := by decide +kernel
theorem dX4_init_30 : decode cX4_init 30 = .ok (.aload_n 0, 1) := by decide +kernel
theorem dX4_init_31 : decode cX4_init 31 = .ok (.getfield 17, 3) := by decide +kernel
theorem dX4_init_34 : decode cX4_init 34 = .ok (.aload_n 0, 1) := by decide +kernel
theorem dX4_init_35 : decode cX4_init 35 = .ok (.getfield 17, 3) := by decide +kernel
theorem dX4_init_38 : decode cX4_init 38 = .ok (.imul, 1) := by decide +kernel
theorem dX4_init_39 : decode cX4_init 39 = .ok (.newarray .int, 2) := by decide +kernel
theorem dX4_init_41 : decode cX4_init 41 = .ok (.putfield 24, 3) := by decide +kernel
theorem dX4_init_44 : decode cX4_init 44 = .ok (.aload_n 0, 1) := by decide +kernel
theorem dX4_init_45 : decode cX4_init 45 = .ok (.aload_n 0, 1) := by decide +kernel
theorem dX4_init_46 : decode cX4_init 46 = .ok (.getfield 17, 3) := by decide +kernel
theorem dX4_init_49 : decode cX4_init 49 = .ok (.newarray .int, 2) := by decide +kernel
theorem dX4_init_51 : decode cX4_init 51 = .ok (.putfield 27, 3) := by decide +kernel
theorem dX4_init_54 : decode cX4_init 54 = .ok (.iconst 0, 1) := by decide +kernel
theorem dX4_init_55 : decode cX4_init 55 = .ok (.istore_n 2, 1) := by decide +kernel
theorem dX4_init_56 : decode cX4_init 56 = .ok (.iconst 0, 1) := by decide +kernel
theorem dX4_init_57 : decode cX4_init 57 = .ok (.istore_n 3, 1) := by decide +kernel
theorem dX4_init_58 : decode cX4_init 58 = .ok (.iload_n 3, 1) := by decide +kernel
theorem dX4_init_59 : decode cX4_init 59 = .ok (.iconst 1, 1) := by decide +kernel
theorem dX4_init_60 : decode cX4_init 60 = .ok (.iconst 2, 1) := by decide +kernel
theorem dX4_init_61 : decode cX4_init 61 = .ok (.iload_n 1, 1) := by decide +kernel
theorem dX4_init_62 : decode cX4_init 62 = .ok (.imul, 1) := by decide +kernel
theorem dX4_init_63 : decode cX4_init 63 = .ok (.ishl, 1) := by decide +kernel
theorem dX4_init_64 : decode cX4_init 64 = .ok (.if_icmp .ge 61, 3) := by decide +kernel
theorem dX4_init_67 : decode cX4_init 67 = .ok (.iload_n 2, 1) := by decide +kernel
theorem dX4_init_68 : decode cX4_init 68 = .ok (.aload_n 0, 1) := by decide +kernel
theorem dX4_init_69 : decode cX4_init 69 = .ok (.getfield 17, 3) := by decide +kernel
theorem dX4_init_72 : decode cX4_init 72 = .ok (.if_icmp .ge 53, 3) := by decide +kernel
theorem dX4_init_75 : decode cX4_init 75 = .ok (.iload_n 3, 1) := by decide +kernel
theorem dX4_init_76 : decode cX4_init 76 = .ok (.iload_n 1, 1) := by decide +kernel
theorem dX4_init_77 : decode cX4_init 77 = .ok (.invokestatic 30, 3) := by decide +kernel
theorem dX4_init_80 : decode cX4_init 80 = .ok (.ifCond .eq 39, 3) := by decide +kernel
theorem dX4_init_83 : decode cX4_init 83 = .ok (.iconst 0, 1) := by decide +kernel
theorem dX4_init_84 : decode cX4_init 84 = .ok (.istore 4, 2) := by decide +kernel
theorem dX4_init_86 : decode cX4_init 86 = .ok (.iload 4, 2) := by decide +kernel
theorem dX4_init_88 : decode cX4_init 88 = .ok (.iload_n 1, 1) := by decide +kernel
theorem dX4_init_89 : decode cX4_init 89 = .ok (.if_icmp .ge 27, 3) := by decide +kernel
theorem dX4_init_92 : decode cX4_init 92 = .ok (.aload_n 0, 1) := by decide +kernel
theorem dX4_init_93 : decode cX4_init 93 = .ok (.getfield 20, 3) := by decide +kernel
theorem dX4_init_96 : decode cX4_init 96 = .ok (.iload_n 2, 1) := by decide +kernel
theorem dX4_init_97 : decode cX4_init 97 = .ok (.iload_n 1, 1) := by decide +kernel
theorem dX4_init_98 : decode cX4_init 98 = .ok (.imul, 1) := by decide +kernel
theorem dX4_init_99 : decode cX4_init 99 = .ok (.iload 4, 2) := by decide +kernel
theorem dX4_init_101 : decode cX4_init 101 = .ok (.iadd, 1) := by decide +kernel
theorem dX4_init_102 : decode cX4_init 102 = .ok (.iload_n 3, 1) := by decide +kernel
theorem dX4_init_103 : decode cX4_init 103 = .ok (.iload 4, 2) := by decide +kernel
theorem dX4_init_105 : decode cX4_init 105 = .ok (.iload_n 1, 1) := by decide +kernel
theorem dX4_init_106 : decode cX4_init 106 = .ok (.invokestatic 34, 3) := by decide +kernel
theorem dX4_init_109 : decode cX4_init 109 = .ok (.iastore, 1) := by decide +kernel
theorem dX4_init_110 : decode cX4_init 110 = .ok (.iinc 4 1, 3) := by decide +kernel
theorem dX4_init_113 : decode cX4_init 113 = .ok (.goto (-27), 3) := by decide +kernel
theorem dX4_init_116 : decode cX4_init 116 = .ok (.iinc 2 1, 3) := by decide +kernel
theorem dX4_init_119 : decode cX4_init 119 = .ok (.iinc 3 1, 3) := by decide +kernel
theorem dX4_init_122 : decode cX4_init 122 = .ok (.goto (-64), 3) := by decide +kernel
theorem dX4_init_125 : decode cX4_init 125 = .ok (.aload_n 0, 1) := by decide +kernel
theorem dX4_init_126 : decode cX4_init 126 = .ok (.invokevirtual 38, 3) := by decide +kernel
theorem dX4_init_129 : decode cX4_init 129 = .ok (.return_, 1) := by decide +kernel
theorem dX4_factorial_0 : decode cX4_factorial 0 = .ok (.iconst 1, 1) := by decide +kernel
theorem dX4_factorial_1 : decode cX4_factorial 1 = .ok (.istore_n 1, 1) := by decide +kernel
theorem dX4_factorial_2 : decode cX4_factorial 2 = .ok (.iconst 2, 1) := by decide +kernel
theorem dX4_factorial_3 : decode cX4_factorial 3 = .ok (.istore_n 2, 1) := by decide +kernel
theorem dX4_factorial_4 : decode cX4_factorial 4 = .ok (.iload_n 2, 1) := by decide +kernel
theorem dX4_factorial_5 : decode cX4_factorial 5 = .ok (.iload_n 0, 1) := by decide +kernel
theorem dX4_factorial_6 : decode cX4_factorial 6 = .ok (.if_icmp .gt 13, 3) := by decide +kernel
theorem dX4_factorial_9 : decode cX4_factorial 9 = .ok (.iload_n 1, 1) := by decide +kernel
theorem dX4_factorial_10 : decode cX4_factorial 10 = .ok (.iload_n 2, 1) := by decide +kernel
theorem dX4_factorial_11 : decode cX4_factorial 11 = .ok (.imul, 1) := by decide +kernel
theorem dX4_factorial_12 : decode cX4_factorial 12 = .ok (.istore_n 1, 1) := by decide +kernel
theorem dX4_factorial_13 : decode cX4_factorial 13 = .ok (.iinc 2 1, 3) := by decide +kernel
theorem dX4_factorial_16 : decode cX4_factorial 16 = .ok (.goto (-12), 3) := by decide +kernel
theorem dX4_factorial_19 : decode cX4_factorial 19 = .ok (.iload_n 1, 1) := by decide +kernel
theorem dX4_factorial_20 : decode cX4_factorial 20 = .ok (.ireturn, 1) := by decide +kernel
theorem dX4_goal_0 : decode cX4_goal 0 = .ok (.iload_n 0, 1) := by decide +kernel
theorem dX4_goal_1 : decode cX4_goal 1 = .ok (.iconst 2, 1) := by decide +kernel
theorem dX4_goal_2 : decode cX4_goal 2 = .ok (.iload_n 2, 1) := by decide +kernel
theorem dX4_goal_3 : decode cX4_goal 3 = .ok (.iconst 1, 1) := by decide +kernel
theorem dX4_goal_4 : decode cX4_goal 4 = .ok (.isub, 1) := by decide +kernel
theorem dX4_goal_5 : decode cX4_goal 5 = .ok (.iload_n 1, 1) := by decide +kernel
theorem dX4_goal_6 : decode cX4_goal 6 = .ok (.isub, 1) := by decide +kernel
theorem dX4_goal_7 : decode cX4_goal 7 = .ok (.imul, 1) := by decide +kernel
theorem dX4_goal_8 : decode cX4_goal 8 = .ok (.ishr, 1) := by decide +kernel
theorem dX4_goal_9 : decode cX4_goal 9 = .ok (.iconst 3, 1) := by decide +kernel
theorem dX4_goal_10 : decode cX4_goal 10 = .ok (.iand, 1) := by decide +kernel
theorem dX4_goal_11 : decode cX4_goal 11 = .ok (.ireturn, 1) := by decide +kernel
theorem dX4_isShuffle_0 : decode cX4_isShuffle 0 = .ok (.iconst 0, 1) := by decide +kernel
theorem dX4_isShuffle_1 : decode cX4_isShuffle 1 = .ok (.istore_n 2, 1) := by decide +kernel
theorem dX4_isShuffle_2 : decode cX4_isShuffle 2 = .ok (.iconst 0, 1) := by decide +kernel
theorem dX4_isShuffle_3 : decode cX4_isShuffle 3 = .ok (.istore_n 3, 1) := by decide +kernel
theorem dX4_isShuffle_4 : decode cX4_isShuffle 4 = .ok (.iload_n 3, 1) := by decide +kernel
theorem dX4_isShuffle_5 : decode cX4_isShuffle 5 = .ok (.iload_n 1, 1) := by decide +kernel
theorem dX4_isShuffle_6 : decode cX4_isShuffle 6 = .ok (.if_icmp .ge 20, 3) := by decide +kernel
theorem dX4_isShuffle_9 : decode cX4_isShuffle 9 = .ok (.iload_n 2, 1) := by decide +kernel
theorem dX4_isShuffle_10 : decode cX4_isShuffle 10 = .ok (.iconst 1, 1) := by decide +kernel
theorem dX4_isShuffle_11 : decode cX4_isShuffle 11 = .ok (.iload_n 0, 1) := by decide +kernel
theorem dX4_isShuffle_12 : decode cX4_isShuffle 12 = .ok (.iload_n 3, 1) := by decide +kernel
theorem dX4_isShuffle_13 : decode cX4_isShuffle 13 = .ok (.iload_n 1, 1) := by decide +kernel
theorem dX4_isShuffle_14 : decode cX4_isShuffle 14 = .ok (.invokestatic 34, 3) := by decide +kernel
theorem dX4_isShuffle_17 : decode cX4_isShuffle 17 = .ok (.ishl, 1) := by decide +kernel
theorem dX4_isShuffle_18 : decode cX4_isShuffle 18 = .ok (.ior, 1) := by decide +kernel
theorem dX4_isShuffle_19 : decode cX4_isShuffle 19 = .ok (.istore_n 2, 1) := by decide +kernel
theorem dX4_isShuffle_20 : decode cX4_isShuffle 20 = .ok (.iinc 3 1, 3) := by decide +kernel
theorem dX4_isShuffle_23 : decode cX4_isShuffle 23 = .ok (.goto (-19), 3) := by decide +kernel
theorem dX4_isShuffle_26 : decode cX4_isShuffle 26 = .ok (.iload_n 2, 1) := by decide +kernel
theorem dX4_isShuffle_27 : decode cX4_isShuffle 27 = .ok (.iconst 1, 1) := by decide +kernel
theorem dX4_isShuffle_28 : decode cX4_isShuffle 28 = .ok (.iload_n 1, 1) := by decide +kernel
theorem dX4_isShuffle_29 : decode cX4_isShuffle 29 = .ok (.ishl, 1) := by decide +kernel
theorem dX4_isShuffle_30 : decode cX4_isShuffle 30 = .ok (.iconst 1, 1) := by decide +kernel
theorem dX4_isShuffle_31 : decode cX4_isShuffle 31 = .ok (.isub, 1) := by decide +kernel
theorem dX4_isShuffle_32 : decode cX4_isShuffle 32 = .ok (.if_icmp .ne 7, 3) := by decide +kernel
theorem dX4_isShuffle_35 : decode cX4_isShuffle 35 = .ok (.iconst 1, 1) := by decide +kernel
theorem dX4_isShuffle_36 : decode cX4_isShuffle 36 = .ok (.goto 4, 3) := by decide +kernel
theorem dX4_isShuffle_39 : decode cX4_isShuffle 39 = .ok (.iconst 0, 1) := by decide +kernel
theorem dX4_isShuffle_40 : decode cX4_isShuffle 40 = .ok (.ireturn, 1) := by decide +kernel
theorem dX4_multiplyAll_0 : decode cX4_multiplyAll 0 = .ok (.iconst 0, 1) := by decide +kernel
theorem dX4_multiplyAll_1 : decode cX4_multiplyAll 1 = .ok (.istore_n 1, 1) := by decide +kernel
theorem dX4_multiplyAll_2 : decode cX4_multiplyAll 2 = .ok (.iload_n 1, 1) := by decide +kernel
theorem dX4_multiplyAll_3 : decode cX4_multiplyAll 3 = .ok (.aload_n 0, 1) := by decide +kernel
theorem dX4_multiplyAll_4 : decode cX4_multiplyAll 4 = .ok (.getfield 17, 3) := by decide +kernel
theorem dX4_multiplyAll_7 : decode cX4_multiplyAll 7 = .ok (.if_icmp .ge 57, 3) := by decide +kernel
theorem dX4_multiplyAll_10 : decode cX4_multiplyAll 10 = .ok (.iconst 0, 1) := by decide +kernel
theorem dX4_multiplyAll_11 : decode cX4_multiplyAll 11 = .ok (.istore_n 2, 1) := by decide +kernel
theorem dX4_multiplyAll_12 : decode cX4_multiplyAll 12 = .ok (.iload_n 2, 1) := by decide +kernel
theorem dX4_multiplyAll_13 : decode cX4_multiplyAll 13 = .ok (.aload_n 0, 1) := by decide +kernel
theorem dX4_multiplyAll_14 : decode cX4_multiplyAll 14 = .ok (.getfield 17, 3) := by decide +kernel
theorem dX4_multiplyAll_17 : decode cX4_multiplyAll 17 = .ok (.if_icmp .ge 41, 3) := by decide +kernel
theorem dX4_multiplyAll_20 : decode cX4_multiplyAll 20 = .ok (.aload_n 0, 1) := by decide +kernel
theorem dX4_multiplyAll_21 : decode cX4_multiplyAll 21 = .ok (.iload_n 1, 1) := by decide +kernel
theorem dX4_multiplyAll_22 : decode cX4_multiplyAll 22 = .ok (.iload_n 2, 1) := by decide +kernel
theorem dX4_multiplyAll_23 : decode cX4_multiplyAll 23 = .ok (.invokevirtual 41, 3) := by decide +kernel
theorem dX4_multiplyAll_26 : decode cX4_multiplyAll 26 = .ok (.istore_n 3, 1) := by decide +kernel
theorem dX4_multiplyAll_27 : decode cX4_multiplyAll 27 = .ok (.aload_n 0, 1) := by decide +kernel
theorem dX4_multiplyAll_28 : decode cX4_multiplyAll 28 = .ok (.getfield 24, 3) := by decide +kernel
theorem dX4_multiplyAll_31 : decode cX4_multiplyAll 31 = .ok (.iload_n 1, 1) := by decide +kernel
theorem dX4_multiplyAll_32 : decode cX4_multiplyAll 32 = .ok (.aload_n 0, 1) := by decide +kernel
theorem dX4_multiplyAll_33 : decode cX4_multiplyAll 33 = .ok (.getfield 17, 3) := by decide +kernel
theorem dX4_multiplyAll_36 : decode cX4_multiplyAll 36 = .ok (.imul, 1) := by decide +kernel
theorem dX4_multiplyAll_37 : decode cX4_multiplyAll 37 = .ok (.iload_n 2, 1) := by decide +kernel
theorem dX4_multiplyAll_38 : decode cX4_multiplyAll 38 = .ok (.iadd, 1) := by decide +kernel
theorem dX4_multiplyAll_39 : decode cX4_multiplyAll 39 = .ok (.iload_n 3, 1) := by decide +kernel
theorem dX4_multiplyAll_40 : decode cX4_multiplyAll 40 = .ok (.iastore, 1) := by decide +kernel
theorem dX4_multiplyAll_41 : decode cX4_multiplyAll 41 = .ok (.iload_n 3, 1) := by decide +kernel
theorem dX4_multiplyAll_42 : decode cX4_multiplyAll 42 = .ok (.ifCond .ne 10, 3) := by decide +kernel
theorem dX4_multiplyAll_45 : decode cX4_multiplyAll 45 = .ok (.aload_n 0, 1) := by decide +kernel
theorem dX4_multiplyAll_46 : decode cX4_multiplyAll 46 = .ok (.getfield 27, 3) := by decide +kernel
theorem dX4_multiplyAll_49 : decode cX4_multiplyAll 49 = .ok (.iload_n 1, 1) := by decide +kernel
theorem dX4_multiplyAll_50 : decode cX4_multiplyAll 50 = .ok (.iload_n 2, 1) := by decide +kernel
theorem dX4_multiplyAll_51 : decode cX4_multiplyAll 51 = .ok (.iastore, 1) := by decide +kernel
theorem dX4_multiplyAll_52 : decode cX4_multiplyAll 52 = .ok (.iinc 2 1, 3) := by decide +kernel
theorem dX4_multiplyAll_55 : decode cX4_multiplyAll 55 = .ok (.goto (-43), 3) := by decide +kernel
theorem dX4_multiplyAll_58 : decode cX4_multiplyAll 58 = .ok (.iinc 1 1, 3) := by decide +kernel
theorem dX4_multiplyAll_61 : decode cX4_multiplyAll 61 = .ok (.goto (-59), 3) := by decide +kernel
theorem dX4_multiplyAll_64 : decode cX4_multiplyAll 64 = .ok (.return_, 1) := by decide +kernel
theorem dX4_numberOf_0 : decode cX4_numberOf 0 = .ok (.iconst 0, 1) := by decide +kernel
theorem dX4_numberOf_1 : decode cX4_numberOf 1 = .ok (.istore_n 3, 1) := by decide +kernel
theorem dX4_numberOf_2 : decode cX4_numberOf 2 = .ok (.iload_n 3, 1) := by decide +kernel
theorem dX4_numberOf_3 : decode cX4_numberOf 3 = .ok (.aload_n 0, 1) := by decide +kernel
theorem dX4_numberOf_4 : decode cX4_numberOf 4 = .ok (.getfield 17, 3) := by decide +kernel
theorem dX4_numberOf_7 : decode cX4_numberOf 7 = .ok (.if_icmp .ge 60, 3) := by decide +kernel
theorem dX4_numberOf_10 : decode cX4_numberOf 10 = .ok (.iconst 0, 1) := by decide +kernel
theorem dX4_numberOf_11 : decode cX4_numberOf 11 = .ok (.istore 4, 2) := by decide +kernel
theorem dX4_numberOf_13 : decode cX4_numberOf 13 = .ok (.iload 4, 2) := by decide +kernel
theorem dX4_numberOf_15 : decode cX4_numberOf 15 = .ok (.aload_n 0, 1) := by decide +kernel
theorem dX4_numberOf_16 : decode cX4_numberOf 16 = .ok (.getfield 7, 3) := by decide +kernel
theorem dX4_numberOf_19 : decode cX4_numberOf 19 = .ok (.if_icmp .ge 31, 3) := by decide +kernel
theorem dX4_numberOf_22 : decode cX4_numberOf 22 = .ok (.aload_n 0, 1) := by decide +kernel
theorem dX4_numberOf_23 : decode cX4_numberOf 23 = .ok (.iload_n 3, 1) := by decide +kernel
theorem dX4_numberOf_24 : decode cX4_numberOf 24 = .ok (.iload 4, 2) := by decide +kernel
theorem dX4_numberOf_26 : decode cX4_numberOf 26 = .ok (.invokevirtual 45, 3) := by decide +kernel
theorem dX4_numberOf_29 : decode cX4_numberOf 29 = .ok (.aload_n 0, 1) := by decide +kernel
theorem dX4_numberOf_30 : decode cX4_numberOf 30 = .ok (.iload_n 2, 1) := by decide +kernel
theorem dX4_numberOf_31 : decode cX4_numberOf 31 = .ok (.aload_n 0, 1) := by decide +kernel
theorem dX4_numberOf_32 : decode cX4_numberOf 32 = .ok (.iload_n 1, 1) := by decide +kernel
theorem dX4_numberOf_33 : decode cX4_numberOf 33 = .ok (.iload 4, 2) := by decide +kernel
theorem dX4_numberOf_35 : decode cX4_numberOf 35 = .ok (.invokevirtual 45, 3) := by decide +kernel
theorem dX4_numberOf_38 : decode cX4_numberOf 38 = .ok (.invokevirtual 45, 3) := by decide +kernel
theorem dX4_numberOf_41 : decode cX4_numberOf 41 = .ok (.if_icmp .ne 9, 3) := by decide +kernel
theorem dX4_numberOf_44 : decode cX4_numberOf 44 = .ok (.iinc 4 1, 3) := by decide +kernel
theorem dX4_numberOf_47 : decode cX4_numberOf 47 = .ok (.goto (-34), 3) := by decide +kernel
theorem dX4_numberOf_50 : decode cX4_numberOf 50 = .ok (.iload 4, 2) := by decide +kernel
theorem dX4_numberOf_52 : decode cX4_numberOf 52 = .ok (.aload_n 0, 1) := by decide +kernel
theorem dX4_numberOf_53 : decode cX4_numberOf 53 = .ok (.getfield 7, 3) := by decide +kernel
theorem dX4_numberOf_56 : decode cX4_numberOf 56 = .ok (.if_icmp .ne 5, 3) := by decide +kernel
theorem dX4_numberOf_59 : decode cX4_numberOf 59 = .ok (.iload_n 3, 1) := by decide +kernel
theorem dX4_numberOf_60 : decode cX4_numberOf 60 = .ok (.ireturn, 1) := by decide +kernel
theorem dX4_numberOf_61 : decode cX4_numberOf 61 = .ok (.iinc 3 1, 3) := by decide +kernel
theorem dX4_numberOf_64 : decode cX4_numberOf 64 = .ok (.goto (-62), 3) := by decide +kernel
theorem dX4_numberOf_67 : decode cX4_numberOf 67 = .ok (.iconst 0, 1) := by decide +kernel
theorem dX4_numberOf_68 : decode cX4_numberOf 68 = .ok (.ireturn, 1) := by decide +kernel
theorem dX4_move_0 : decode cX4_move 0 = .ok (.aload_n 0, 1) := by decide +kernel
theorem dX4_move_1 : decode cX4_move 1 = .ok (.getfield 20, 3) := by decide +kernel
theorem dX4_move_4 : decode cX4_move 4 = .ok (.iload_n 1, 1) := by decide +kernel
theorem dX4_move_5 : decode cX4_move 5 = .ok (.aload_n 0, 1) := by decide +kernel
theorem dX4_move_6 : decode cX4_move 6 = .ok (.getfield 7, 3) := by decide +kernel
theorem dX4_move_9 : decode cX4_move 9 = .ok (.imul, 1) := by decide +kernel
theorem dX4_move_10 : decode cX4_move 10 = .ok (.iload_n 2, 1) := by decide +kernel
theorem dX4_move_11 : decode cX4_move 11 = .ok (.iadd, 1) := by decide +kernel
theorem dX4_move_12 : decode cX4_move 12 = .ok (.iaload, 1) := by decide +kernel
theorem dX4_move_13 : decode cX4_move 13 = .ok (.ireturn, 1) := by decide +kernel
theorem dX4_back_0 : decode cX4_back 0 = .ok (.aload_n 0, 1) := by decide +kernel
theorem dX4_back_1 : decode cX4_back 1 = .ok (.getfield 27, 3) := by decide +kernel
theorem dX4_back_4 : decode cX4_back 4 = .ok (.iload_n 1, 1) := by decide +kernel
theorem dX4_back_5 : decode cX4_back 5 = .ok (.iaload, 1) := by decide +kernel
theorem dX4_back_6 : decode cX4_back 6 = .ok (.ireturn, 1) := by decide +kernel
theorem dX4_follow_0 : decode cX4_follow 0 = .ok (.aload_n 0, 1) := by decide +kernel
theorem dX4_follow_1 : decode cX4_follow 1 = .ok (.getfield 24, 3) := by decide +kernel
theorem dX4_follow_4 : decode cX4_follow 4 = .ok (.iload_n 1, 1) := by decide +kernel
theorem dX4_follow_5 : decode cX4_follow 5 = .ok (.aload_n 0, 1) := by decide +kernel
theorem dX4_follow_6 : decode cX4_follow 6 = .ok (.getfield 17, 3) := by decide +kernel
theorem dX4_follow_9 : decode cX4_follow 9 = .ok (.imul, 1) := by decide +kernel
theorem dX4_follow_10 : decode cX4_follow 10 = .ok (.iload_n 2, 1) := by decide +kernel
theorem dX4_follow_11 : decode cX4_follow 11 = .ok (.iadd, 1) := by decide +kernel
theorem dX4_follow_12 : decode cX4_follow 12 = .ok (.iaload, 1) := by decide +kernel
theorem dX4_follow_13 : decode cX4_follow 13 = .ok (.ireturn, 1) := by decide +kernel
theorem dX4_renumber_0 : decode cX4_renumber 0 = .ok (.aload_n 0, 1) := by decide +kernel
theorem dX4_renumber_1 : decode cX4_renumber 1 = .ok (.aload_n 0, 1) := by decide +kernel
theorem dX4_renumber_2 : decode cX4_renumber 2 = .ok (.aload_n 0, 1) := by decide +kernel
theorem dX4_renumber_3 : decode cX4_renumber 3 = .ok (.iload_n 2, 1) := by decide +kernel
theorem dX4_renumber_4 : decode cX4_renumber 4 = .ok (.invokevirtual 48, 3) := by decide +kernel
theorem dX4_renumber_7 : decode cX4_renumber 7 = .ok (.iload_n 1, 1) := by decide +kernel
theorem dX4_renumber_8 : decode cX4_renumber 8 = .ok (.invokevirtual 51, 3) := by decide +kernel
theorem dX4_renumber_11 : decode cX4_renumber 11 = .ok (.iload_n 2, 1) := by decide +kernel
theorem dX4_renumber_12 : decode cX4_renumber 12 = .ok (.invokevirtual 51, 3) := by decide +kernel
theorem dX4_renumber_15 : decode cX4_renumber 15 = .ok (.ireturn, 1) := by decide +kernel
theorem dX5_init_0 : decode cX5_init 0 = .ok (.aload_n 0, 1) := by decide +kernel
theorem dX5_init_1 : decode cX5_init 1 = .ok (.invokespecial 3, 3) := by decide +kernel
theorem dX5_init_4 : decode cX5_init 4 = .ok (.aload_n 0, 1) := by decide +kernel
theorem dX5_init_5 : decode cX5_init 5 = .ok (.iload_n 2, 1) := by decide +kernel
theorem dX5_init_6 : decode cX5_init 6 = .ok (.newarray .int, 2) := by decide +kernel
theorem dX5_init_8 : decode cX5_init 8 = .ok (.putfield 9, 3) := by decide +kernel
theorem dX5_init_11 : decode cX5_init 11 = .ok (.aload_n 0, 1) := by decide +kernel
theorem dX5_init_12 : decode cX5_init 12 = .ok (.iload_n 2, 1) := by decide +kernel
theorem dX5_init_13 : decode cX5_init 13 = .ok (.newarray .int, 2) := by decide +kernel
theorem dX5_init_15 : decode cX5_init 15 = .ok (.putfield 15, 3) := by decide +kernel
theorem dX5_init_18 : decode cX5_init 18 = .ok (.aload_n 0, 1) := by decide +kernel
theorem dX5_init_19 : decode cX5_init 19 = .ok (.iload_n 2, 1) := by decide +kernel
theorem dX5_init_20 : decode cX5_init 20 = .ok (.newarray .int, 2) := by decide +kernel
theorem dX5_init_22 : decode cX5_init 22 = .ok (.putfield 18, 3) := by decide +kernel
theorem dX5_init_25 : decode cX5_init 25 = .ok (.aload_n 0, 1) := by decide +kernel
theorem dX5_init_26 : decode cX5_init 26 = .ok (.iload_n 1, 1) := by decide +kernel
theorem dX5_init_27 : decode cX5_init 27 = .ok (.newarray .boolean, 2) := by decide +kernel
theorem dX5_init_29 : decode cX5_init 29 = .ok (.putfield 21, 3) := by decide +kernel
theorem dX5_init_32 : decode cX5_init 32 = .ok (.aload_n 0, 1) := by decide +kernel
theorem dX5_init_33 : decode cX5_init 33 = .ok (.iload_n 3, 1) := by decide +kernel
theorem dX5_init_34 : decode cX5_init 34 = .ok (.bipush 8, 2) := by decide +kernel
theorem dX5_init_36 : decode cX5_init 36 = .ok (.imul, 1) := by decide +kernel
theorem dX5_init_37 : decode cX5_init 37 = .ok (.newarray .int, 2) := by decide +kernel
theorem dX5_init_39 : decode cX5_init 39 = .ok (.putfield 25, 3) := by decide +kernel
theorem dX5_init_42 : decode cX5_init 42 = .ok (.aload_n 0, 1) := by decide +kernel
theorem dX5_init_43 : decode cX5_init 43 = .ok (.iload_n 3, 1) := by decide +kernel
theorem dX5_init_44 : decode cX5_init 44 = .ok (.newarray .int, 2) := by decide +kernel
theorem dX5_init_46 : decode cX5_init 46 = .ok (.putfield 28, 3) := by decide +kernel
theorem dX5_init_49 : decode cX5_init 49 = .ok (.aload_n 0, 1) := by decide +kernel
theorem dX5_init_50 : decode cX5_init 50 = .ok (.iconst 1, 1) := by decide +kernel
theorem dX5_init_51 : decode cX5_init 51 = .ok (.invokevirtual 31, 3) := by decide +kernel
theorem dX5_init_54 : decode cX5_init 54 = .ok (.aload_n 0, 1) := by decide +kernel
theorem dX5_init_55 : decode cX5_init 55 = .ok (.invokevirtual 35, 3) := by decide +kernel
theorem dX5_init_58 : decode cX5_init 58 = .ok (.return_, 1) := by decide +kernel
theorem dX5_clear_0 : decode cX5_clear 0 = .ok (.aload_n 0, 1) := by decide +kernel
theorem dX5_clear_1 : decode cX5_clear 1 = .ok (.iload_n 1, 1) := by decide +kernel
theorem dX5_clear_2 : decode cX5_clear 2 = .ok (.aload_n 0, 1) := by decide +kernel
theorem dX5_clear_3 : decode cX5_clear 3 = .ok (.getfield 21, 3) := by decide +kernel
theorem dX5_clear_6 : decode cX5_clear 6 = .ok (.arraylength, 1) := by decide +kernel
theorem dX5_clear_7 : decode cX5_clear 7 = .ok (.invokestatic 38, 3) := by decide +kernel
theorem dX5_clear_10 : decode cX5_clear 10 = .ok (.putfield 44, 3) := by decide +kernel
theorem dX5_clear_13 : decode cX5_clear 13 = .ok (.aload_n 0, 1) := by decide +kernel
theorem dX5_clear_14 : decode cX5_clear 14 = .ok (.iconst 0, 1) := by decide +kernel
theorem dX5_clear_15 : decode cX5_clear 15 = .ok (.putfield 48, 3) := by decide +kernel
theorem dX5_clear_18 : decode cX5_clear 18 = .ok (.aload_n 0, 1) := by decide +kernel
theorem dX5_clear_19 : decode cX5_clear 19 = .ok (.iconst 0, 1) := by decide +kernel
theorem dX5_clear_20 : decode cX5_clear 20 = .ok (.putfield 51, 3) := by decide +kernel
theorem dX5_clear_23 : decode cX5_clear 23 = .ok (.return_, 1) := by decide +kernel
theorem dX5_hasCorner_0 : decode cX5_hasCorner 0 = .ok (.iload_n 1, 1) := by decide +kernel
theorem dX5_hasCorner_1 : decode cX5_hasCorner 1 = .ok (.ifCond .lt 15, 3) := by decide +kernel
theorem dX5_hasCorner_4 : decode cX5_hasCorner 4 = .ok (.iload_n 1, 1) := by decide +kernel
theorem dX5_hasCorner_5 : decode cX5_hasCorner 5 = .ok (.aload_n 0, 1) := by decide +kernel
theorem dX5_hasCorner_6 : decode cX5_hasCorner 6 = .ok (.getfield 44, 3) := by decide +kernel
theorem dX5_hasCorner_9 : decode cX5_hasCorner 9 = .ok (.if_icmp .ge 7, 3) := by decide +kernel
theorem dX5_hasCorner_12 : decode cX5_hasCorner 12 = .ok (.iconst 1, 1) := by decide +kernel
theorem dX5_hasCorner_13 : decode cX5_hasCorner 13 = .ok (.goto 4, 3) := by decide +kernel
theorem dX5_hasCorner_16 : decode cX5_hasCorner 16 = .ok (.iconst 0, 1) := by decide +kernel
theorem dX5_hasCorner_17 : decode cX5_hasCorner 17 = .ok (.ireturn, 1) := by decide +kernel
theorem dX5_addEdge_0 : decode cX5_addEdge 0 = .ok (.aload_n 0, 1) := by decide +kernel
theorem dX5_addEdge_1 : decode cX5_addEdge 1 = .ok (.getfield 48, 3) := by decide +kernel
theorem dX5_addEdge_4 : decode cX5_addEdge 4 = .ok (.aload_n 0, 1) := by decide +kernel
theorem dX5_addEdge_5 : decode cX5_addEdge 5 = .ok (.getfield 9, 3) := by decide +kernel
theorem dX5_addEdge_8 : decode cX5_addEdge 8 = .ok (.arraylength, 1) := by decide +kernel
theorem dX5_addEdge_9 : decode cX5_addEdge 9 = .ok (.if_icmp .ge 33, 3) := by decide +kernel
theorem dX5_addEdge_12 : decode cX5_addEdge 12 = .ok (.aload_n 0, 1) := by decide +kernel
theorem dX5_addEdge_13 : decode cX5_addEdge 13 = .ok (.getfield 9, 3) := by decide +kernel
theorem dX5_addEdge_16 : decode cX5_addEdge 16 = .ok (.aload_n 0, 1) := by decide +kernel
theorem dX5_addEdge_17 : decode cX5_addEdge 17 = .ok (.getfield 48, 3) := by decide +kernel
theorem dX5_addEdge_20 : decode cX5_addEdge 20 = .ok (.iload_n 1, 1) := by decide +kernel
theorem dX5_addEdge_21 : decode cX5_addEdge 21 = .ok (.iastore, 1) := by decide +kernel
theorem dX5_addEdge_22 : decode cX5_addEdge 22 = .ok (.aload_n 0, 1) := by decide +kernel
theorem dX5_addEdge_23 : decode cX5_addEdge 23 = .ok (.getfield 15, 3) := by decide +kernel
theorem dX5_addEdge_26 : decode cX5_addEdge 26 = .ok (.aload_n 0, 1) := by decide +kernel
theorem dX5_addEdge_27 : decode cX5_addEdge 27 = .ok (.getfield 48, 3) := by decide +kernel
theorem dX5_addEdge_30 : decode cX5_addEdge 30 = .ok (.iload_n 2, 1) := by decide +kernel
theorem dX5_addEdge_31 : decode cX5_addEdge 31 = .ok (.iastore, 1) := by decide +kernel
theorem dX5_addEdge_32 : decode cX5_addEdge 32 = .ok (.aload_n 0, 1) := by decide +kernel
theorem dX5_addEdge_33 : decode cX5_addEdge 33 = .ok (.dup, 1) := by decide +kernel
theorem dX5_addEdge_34 : decode cX5_addEdge 34 = .ok (.getfield 48, 3) := by decide +kernel
theorem dX5_addEdge_37 : decode cX5_addEdge 37 = .ok (.iconst 1, 1) := by decide +kernel
theorem dX5_addEdge_38 : decode cX5_addEdge 38 = .ok (.iadd, 1) := by decide +kernel
theorem dX5_addEdge_39 : decode cX5_addEdge 39 = .ok (.putfield 48, 3) := by decide +kernel
theorem dX5_addEdge_42 : decode cX5_addEdge 42 = .ok (.return_, 1) := by decide +kernel
theorem dX5_addPane_0 : decode cX5_addPane 0 = .ok (.aload_n 0, 1) := by decide +kernel
theorem dX5_addPane_1 : decode cX5_addPane 1 = .ok (.getfield 51, 3) := by decide +kernel
theorem dX5_addPane_4 : decode cX5_addPane 4 = .ok (.aload_n 0, 1) := by decide +kernel
theorem dX5_addPane_5 : decode cX5_addPane 5 = .ok (.getfield 28, 3) := by decide +kernel
theorem dX5_addPane_8 : decode cX5_addPane 8 = .ok (.arraylength, 1) := by decide +kernel
theorem dX5_addPane_9 : decode cX5_addPane 9 = .ok (.if_icmp .ge 46, 3) := by decide +kernel
theorem dX5_addPane_12 : decode cX5_addPane 12 = .ok (.iload_n 2, 1) := by decide +kernel
theorem dX5_addPane_13 : decode cX5_addPane 13 = .ok (.bipush 8, 2) := by decide +kernel
theorem dX5_addPane_15 : decode cX5_addPane 15 = .ok (.if_icmp .gt 40, 3) := by decide +kernel
theorem dX5_addPane_18 : decode cX5_addPane 18 = .ok (.aload_n 1, 1) := by decide +kernel
theorem dX5_addPane_19 : decode cX5_addPane 19 = .ok (.iconst 0, 1) := by decide +kernel
theorem dX5_addPane_20 : decode cX5_addPane 20 = .ok (.aload_n 0, 1) := by decide +kernel
theorem dX5_addPane_21 : decode cX5_addPane 21 = .ok (.getfield 25, 3) := by decide +kernel
theorem dX5_addPane_24 : decode cX5_addPane 24 = .ok (.aload_n 0, 1) := by decide +kernel
theorem dX5_addPane_25 : decode cX5_addPane 25 = .ok (.getfield 51, 3) := by decide +kernel
theorem dX5_addPane_28 : decode cX5_addPane 28 = .ok (.bipush 8, 2) := by decide +kernel
theorem dX5_addPane_30 : decode cX5_addPane 30 = .ok (.imul, 1) := by decide +kernel
theorem dX5_addPane_31 : decode cX5_addPane 31 = .ok (.iload_n 2, 1) := by decide +kernel
theorem dX5_addPane_32 : decode cX5_addPane 32 = .ok (.invokestatic 54, 3) := by decide +kernel
theorem dX5_addPane_35 : decode cX5_addPane 35 = .ok (.aload_n 0, 1) := by decide +kernel
theorem dX5_addPane_36 : decode cX5_addPane 36 = .ok (.getfield 28, 3) := by decide +kernel
theorem dX5_addPane_39 : decode cX5_addPane 39 = .ok (.aload_n 0, 1) := by decide +kernel
theorem dX5_addPane_40 : decode cX5_addPane 40 = .ok (.getfield 51, 3) := by decide +kernel
theorem dX5_addPane_43 : decode cX5_addPane 43 = .ok (.iload_n 2, 1) := by decide +kernel
theorem dX5_addPane_44 : decode cX5_addPane 44 = .ok (.iastore, 1) := by decide +kernel
theorem dX5_addPane_45 : decode cX5_addPane 45 = .ok (.aload_n 0, 1) := by decide +kernel
theorem dX5_addPane_46 : decode cX5_addPane 46 = .ok (.dup, 1) := by decide +kernel
theorem dX5_addPane_47 : decode cX5_addPane 47 = .ok (.getfield 51, 3) := by decide +kernel
theorem dX5_addPane_50 : decode cX5_addPane 50 = .ok (.iconst 1, 1) := by decide +kernel
theorem dX5_addPane_51 : decode cX5_addPane 51 = .ok (.iadd, 1) := by decide +kernel
theorem dX5_addPane_52 : decode cX5_addPane 52 = .ok (.putfield 51, 3) := by decide +kernel
theorem dX5_addPane_55 : decode cX5_addPane 55 = .ok (.return_, 1) := by decide +kernel
theorem dX5_rimStep_0 : decode cX5_rimStep 0 = .ok (.aload_n 0, 1) := by decide +kernel
theorem dX5_rimStep_1 : decode cX5_rimStep 1 = .ok (.getfield 25, 3) := by decide +kernel
theorem dX5_rimStep_4 : decode cX5_rimStep 4 = .ok (.iload_n 1, 1) := by decide +kernel
theorem dX5_rimStep_5 : decode cX5_rimStep 5 = .ok (.bipush 8, 2) := by decide +kernel
theorem dX5_rimStep_7 : decode cX5_rimStep 7 = .ok (.imul, 1) := by decide +kernel
theorem dX5_rimStep_8 : decode cX5_rimStep 8 = .ok (.iload_n 2, 1) := by decide +kernel
theorem dX5_rimStep_9 : decode cX5_rimStep 9 = .ok (.iadd, 1) := by decide +kernel
theorem dX5_rimStep_10 : decode cX5_rimStep 10 = .ok (.iaload, 1) := by decide +kernel
theorem dX5_rimStep_11 : decode cX5_rimStep 11 = .ok (.ireturn, 1) := by decide +kernel
theorem dX5_startOf_0 : decode cX5_startOf 0 = .ok (.iload_n 1, 1) := by decide +kernel
theorem dX5_startOf_1 : decode cX5_startOf 1 = .ok (.iconst 1, 1) := by decide +kernel
theorem dX5_startOf_2 : decode cX5_startOf 2 = .ok (.iand, 1) := by decide +kernel
theorem dX5_startOf_3 : decode cX5_startOf 3 = .ok (.ifCond .ne 14, 3) := by decide +kernel
theorem dX5_startOf_6 : decode cX5_startOf 6 = .ok (.aload_n 0, 1) := by decide +kernel
theorem dX5_startOf_7 : decode cX5_startOf 7 = .ok (.getfield 9, 3) := by decide +kernel
theorem dX5_startOf_10 : decode cX5_startOf 10 = .ok (.iload_n 1, 1) := by decide +kernel
theorem dX5_startOf_11 : decode cX5_startOf 11 = .ok (.iconst 1, 1) := by decide +kernel
theorem dX5_startOf_12 : decode cX5_startOf 12 = .ok (.ishr, 1) := by decide +kernel
theorem dX5_startOf_13 : decode cX5_startOf 13 = .ok (.iaload, 1) := by decide +kernel
theorem dX5_startOf_14 : decode cX5_startOf 14 = .ok (.goto 11, 3) := by decide +kernel
theorem dX5_startOf_17 : decode cX5_startOf 17 = .ok (.aload_n 0, 1) := by decide +kernel
theorem dX5_startOf_18 : decode cX5_startOf 18 = .ok (.getfield 15, 3) := by decide +kernel
theorem dX5_startOf_21 : decode cX5_startOf 21 = .ok (.iload_n 1, 1) := by decide +kernel
theorem dX5_startOf_22 : decode cX5_startOf 22 = .ok (.iconst 1, 1) := by decide +kernel
theorem dX5_startOf_23 : decode cX5_startOf 23 = .ok (.ishr, 1) := by decide +kernel
theorem dX5_startOf_24 : decode cX5_startOf 24 = .ok (.iaload, 1) := by decide +kernel
theorem dX5_startOf_25 : decode cX5_startOf 25 = .ok (.ireturn, 1) := by decide +kernel
theorem dX5_endOf_0 : decode cX5_endOf 0 = .ok (.iload_n 1, 1) := by decide +kernel
theorem dX5_endOf_1 : decode cX5_endOf 1 = .ok (.iconst 1, 1) := by decide +kernel
theorem dX5_endOf_2 : decode cX5_endOf 2 = .ok (.iand, 1) := by decide +kernel
theorem dX5_endOf_3 : decode cX5_endOf 3 = .ok (.ifCond .ne 14, 3) := by decide +kernel
theorem dX5_endOf_6 : decode cX5_endOf 6 = .ok (.aload_n 0, 1) := by decide +kernel
theorem dX5_endOf_7 : decode cX5_endOf 7 = .ok (.getfield 15, 3) := by decide +kernel
theorem dX5_endOf_10 : decode cX5_endOf 10 = .ok (.iload_n 1, 1) := by decide +kernel
theorem dX5_endOf_11 : decode cX5_endOf 11 = .ok (.iconst 1, 1) := by decide +kernel
theorem dX5_endOf_12 : decode cX5_endOf 12 = .ok (.ishr, 1) := by decide +kernel
theorem dX5_endOf_13 : decode cX5_endOf 13 = .ok (.iaload, 1) := by decide +kernel
theorem dX5_endOf_14 : decode cX5_endOf 14 = .ok (.goto 11, 3) := by decide +kernel
theorem dX5_endOf_17 : decode cX5_endOf 17 = .ok (.aload_n 0, 1) := by decide +kernel
theorem dX5_endOf_18 : decode cX5_endOf 18 = .ok (.getfield 9, 3) := by decide +kernel
theorem dX5_endOf_21 : decode cX5_endOf 21 = .ok (.iload_n 1, 1) := by decide +kernel
theorem dX5_endOf_22 : decode cX5_endOf 22 = .ok (.iconst 1, 1) := by decide +kernel
theorem dX5_endOf_23 : decode cX5_endOf 23 = .ok (.ishr, 1) := by decide +kernel
theorem dX5_endOf_24 : decode cX5_endOf 24 = .ok (.iaload, 1) := by decide +kernel
theorem dX5_endOf_25 : decode cX5_endOf 25 = .ok (.ireturn, 1) := by decide +kernel
theorem dX5_isPaneOfPart_0 : decode cX5_isPaneOfPart 0 = .ok (.aload_n 0, 1) := by decide +kernel
theorem dX5_isPaneOfPart_1 : decode cX5_isPaneOfPart 1 = .ok (.getfield 21, 3) := by decide +kernel
theorem dX5_isPaneOfPart_4 : decode cX5_isPaneOfPart 4 = .ok (.aload_n 0, 1) := by decide +kernel
theorem dX5_isPaneOfPart_5 : decode cX5_isPaneOfPart 5 = .ok (.aload_n 0, 1) := by decide +kernel
theorem dX5_isPaneOfPart_6 : decode cX5_isPaneOfPart 6 = .ok (.iload_n 1, 1) := by decide +kernel
theorem dX5_isPaneOfPart_7 : decode cX5_isPaneOfPart 7 = .ok (.iconst 0, 1) := by decide +kernel
theorem dX5_isPaneOfPart_8 : decode cX5_isPaneOfPart 8 = .ok (.invokevirtual 60, 3) := by decide +kernel
theorem dX5_isPaneOfPart_11 : decode cX5_isPaneOfPart 11 = .ok (.invokevirtual 63, 3) := by decide +kernel
theorem dX5_isPaneOfPart_14 : decode cX5_isPaneOfPart 14 = .ok (.baload, 1) := by decide +kernel
theorem dX5_isPaneOfPart_15 : decode cX5_isPaneOfPart 15 = .ok (.ireturn, 1) := by decide +kernel
theorem dX5_findPart_0 : decode cX5_findPart 0 = .ok (.iconst 0, 1) := by decide +kernel
theorem dX5_findPart_1 : decode cX5_findPart 1 = .ok (.istore_n 1, 1) := by decide +kernel
theorem dX5_findPart_2 : decode cX5_findPart 2 = .ok (.iload_n 1, 1) := by decide +kernel
theorem dX5_findPart_3 : decode cX5_findPart 3 = .ok (.aload_n 0, 1) := by decide +kernel
theorem dX5_findPart_4 : decode cX5_findPart 4 = .ok (.getfield 44, 3) := by decide +kernel
theorem dX5_findPart_7 : decode cX5_findPart 7 = .ok (.if_icmp .ge 24, 3) := by decide +kernel
theorem dX5_findPart_10 : decode cX5_findPart 10 = .ok (.aload_n 0, 1) := by decide +kernel
theorem dX5_findPart_11 : decode cX5_findPart 11 = .ok (.getfield 21, 3) := by decide +kernel
theorem dX5_findPart_14 : decode cX5_findPart 14 = .ok (.iload_n 1, 1) := by decide +kernel
theorem dX5_findPart_15 : decode cX5_findPart 15 = .ok (.iload_n 1, 1) := by decide +kernel
theorem dX5_findPart_16 : decode cX5_findPart 16 = .ok (.ifCond .ne 7, 3) := by decide +kernel
theorem dX5_findPart_19 : decode cX5_findPart 19 = .ok (.iconst 1, 1) := by decide +kernel
theorem dX5_findPart_20 : decode cX5_findPart 20 = .ok (.goto 4, 3) := by decide +kernel
theorem dX5_findPart_23 : decode cX5_findPart 23 = .ok (.iconst 0, 1) := by decide +kernel
theorem dX5_findPart_24 : decode cX5_findPart 24 = .ok (.bastore, 1) := by decide +kernel
theorem dX5_findPart_25 : decode cX5_findPart 25 = .ok (.iinc 1 1, 3) := by decide +kernel
theorem dX5_findPart_28 : decode cX5_findPart 28 = .ok (.goto (-26), 3) := by decide +kernel
theorem dX5_findPart_31 : decode cX5_findPart 31 = .ok (.iconst 0, 1) := by decide +kernel
theorem dX5_findPart_32 : decode cX5_findPart 32 = .ok (.istore_n 1, 1) := by decide +kernel
theorem dX5_findPart_33 : decode cX5_findPart 33 = .ok (.iload_n 1, 1) := by decide +kernel
theorem dX5_findPart_34 : decode cX5_findPart 34 = .ok (.aload_n 0, 1) := by decide +kernel
theorem dX5_findPart_35 : decode cX5_findPart 35 = .ok (.getfield 48, 3) := by decide +kernel
theorem dX5_findPart_38 : decode cX5_findPart 38 = .ok (.if_icmp .ge 17, 3) := by decide +kernel
theorem dX5_findPart_41 : decode cX5_findPart 41 = .ok (.aload_n 0, 1) := by decide +kernel
theorem dX5_findPart_42 : decode cX5_findPart 42 = .ok (.getfield 18, 3) := by decide +kernel
theorem dX5_findPart_45 : decode cX5_findPart 45 = .ok (.iload_n 1, 1) := by decide +kernel
theorem dX5_findPart_46 : decode cX5_findPart 46 = .ok (.bipush (-2), 2) := by decide +kernel
theorem dX5_findPart_48 : decode cX5_findPart 48 = .ok (.iastore, 1) := by decide +kernel
theorem dX5_findPart_49 : decode cX5_findPart 49 = .ok (.iinc 1 1, 3) := by decide +kernel
theorem dX5_findPart_52 : decode cX5_findPart 52 = .ok (.goto (-19), 3) := by decide +kernel
theorem dX5_findPart_55 : decode cX5_findPart 55 = .ok (.aload_n 0, 1) := by decide +kernel
theorem dX5_findPart_56 : decode cX5_findPart 56 = .ok (.iconst 1, 1) := by decide +kernel
theorem dX5_findPart_57 : decode cX5_findPart 57 = .ok (.putfield 67, 3) := by decide +kernel
theorem dX5_findPart_60 : decode cX5_findPart 60 = .ok (.aload_n 0, 1) := by decide +kernel
theorem dX5_findPart_61 : decode cX5_findPart 61 = .ok (.invokevirtual 70, 3) := by decide +kernel
theorem dX5_findPart_64 : decode cX5_findPart 64 = .ok (.istore_n 1, 1) := by decide +kernel
theorem dX5_findPart_65 : decode cX5_findPart 65 = .ok (.aload_n 0, 1) := by decide +kernel
theorem dX5_findPart_66 : decode cX5_findPart 66 = .ok (.getfield 67, 3) := by decide +kernel
theorem dX5_findPart_69 : decode cX5_findPart 69 = .ok (.aload_n 0, 1) := by decide +kernel
theorem dX5_findPart_70 : decode cX5_findPart 70 = .ok (.getfield 44, 3) := by decide +kernel
theorem dX5_findPart_73 : decode cX5_findPart 73 = .ok (.if_icmp .ge 57, 3) := by decide +kernel
theorem dX5_findPart_76 : decode cX5_findPart 76 = .ok (.iload_n 1, 1) := by decide +kernel
theorem dX5_findPart_77 : decode cX5_findPart 77 = .ok (.iconst (-1), 1) := by decide +kernel
theorem dX5_findPart_78 : decode cX5_findPart 78 = .ok (.if_icmp .eq 52, 3) := by decide +kernel
theorem dX5_findPart_81 : decode cX5_findPart 81 = .ok (.aload_n 0, 1) := by decide +kernel
theorem dX5_findPart_82 : decode cX5_findPart 82 = .ok (.getfield 18, 3) := by decide +kernel
theorem dX5_findPart_85 : decode cX5_findPart 85 = .ok (.iload_n 1, 1) := by decide +kernel
theorem dX5_findPart_86 : decode cX5_findPart 86 = .ok (.iconst (-1), 1) := by decide +kernel
theorem dX5_findPart_87 : decode cX5_findPart 87 = .ok (.iastore, 1) := by decide +kernel
theorem dX5_findPart_88 : decode cX5_findPart 88 = .ok (.aload_n 0, 1) := by decide +kernel
theorem dX5_findPart_89 : decode cX5_findPart 89 = .ok (.getfield 21, 3) := by decide +kernel
theorem dX5_findPart_92 : decode cX5_findPart 92 = .ok (.aload_n 0, 1) := by decide +kernel
theorem dX5_findPart_93 : decode cX5_findPart 93 = .ok (.getfield 9, 3) := by decide +kernel
theorem dX5_findPart_96 : decode cX5_findPart 96 = .ok (.iload_n 1, 1) := by decide +kernel
theorem dX5_findPart_97 : decode cX5_findPart 97 = .ok (.iaload, 1) := by decide +kernel
theorem dX5_findPart_98 : decode cX5_findPart 98 = .ok (.iconst 1, 1) := by decide +kernel
theorem dX5_findPart_99 : decode cX5_findPart 99 = .ok (.bastore, 1) := by decide +kernel
theorem dX5_findPart_100 : decode cX5_findPart 100 = .ok (.aload_n 0, 1) := by decide +kernel
theorem dX5_findPart_101 : decode cX5_findPart 101 = .ok (.getfield 21, 3) := by decide +kernel
theorem dX5_findPart_104 : decode cX5_findPart 104 = .ok (.aload_n 0, 1) := by decide +kernel
theorem dX5_findPart_105 : decode cX5_findPart 105 = .ok (.getfield 15, 3) := by decide +kernel
theorem dX5_findPart_108 : decode cX5_findPart 108 = .ok (.iload_n 1, 1) := by decide +kernel
theorem dX5_findPart_109 : decode cX5_findPart 109 = .ok (.iaload, 1) := by decide +kernel
theorem dX5_findPart_110 : decode cX5_findPart 110 = .ok (.iconst 1, 1) := by decide +kernel
theorem dX5_findPart_111 : decode cX5_findPart 111 = .ok (.bastore, 1) := by decide +kernel
theorem dX5_findPart_112 : decode cX5_findPart 112 = .ok (.aload_n 0, 1) := by decide +kernel
theorem dX5_findPart_113 : decode cX5_findPart 113 = .ok (.dup, 1) := by decide +kernel
theorem dX5_findPart_114 : decode cX5_findPart 114 = .ok (.getfield 67, 3) := by decide +kernel
theorem dX5_findPart_117 : decode cX5_findPart 117 = .ok (.iconst 1, 1) := by decide +kernel
theorem dX5_findPart_118 : decode cX5_findPart 118 = .ok (.iadd, 1) := by decide +kernel
theorem dX5_findPart_119 : decode cX5_findPart 119 = .ok (.putfield 67, 3) := by decide +kernel
theorem dX5_findPart_122 : decode cX5_findPart 122 = .ok (.aload_n 0, 1) := by decide +kernel
theorem dX5_findPart_123 : decode cX5_findPart 123 = .ok (.invokevirtual 70, 3) := by decide +kernel
theorem dX5_findPart_126 : decode cX5_findPart 126 = .ok (.istore_n 1, 1) := by decide +kernel
theorem dX5_findPart_127 : decode cX5_findPart 127 = .ok (.goto (-62), 3) := by decide +kernel
theorem dX5_findPart_130 : decode cX5_findPart 130 = .ok (.aload_n 0, 1) := by decide +kernel
theorem dX5_findPart_131 : decode cX5_findPart 131 = .ok (.invokevirtual 74, 3) := by decide +kernel
theorem dX5_findPart_134 : decode cX5_findPart 134 = .ok (.return_, 1) := by decide +kernel
theorem dX5_leastLeadingOut_0 : decode cX5_leastLeadingOut 0 = .ok (.iconst 0, 1) := by decide +kernel
theorem dX5_leastLeadingOut_1 : decode cX5_leastLeadingOut 1 = .ok (.istore_n 1, 1) := by decide +kernel
theorem dX5_leastLeadingOut_2 : decode cX5_leastLeadingOut 2 = .ok (.iload_n 1, 1) := by decide +kernel
theorem dX5_leastLeadingOut_3 : decode cX5_leastLeadingOut 3 = .ok (.aload_n 0, 1) := by decide +kernel
theorem dX5_leastLeadingOut_4 : decode cX5_leastLeadingOut 4 = .ok (.getfield 48, 3) := by decide +kernel
theorem dX5_leastLeadingOut_7 : decode cX5_leastLeadingOut 7 = .ok (.if_icmp .ge 36, 3) := by decide +kernel
theorem dX5_leastLeadingOut_10 : decode cX5_leastLeadingOut 10 = .ok (.aload_n 0, 1) := by decide +kernel
theorem dX5_leastLeadingOut_11 : decode cX5_leastLeadingOut 11 = .ok (.getfield 21, 3) := by decide +kernel
theorem dX5_leastLeadingOut_14 : decode cX5_leastLeadingOut 14 = .ok (.aload_n 0, 1) := by decide +kernel
theorem dX5_leastLeadingOut_15 : decode cX5_leastLeadingOut 15 = .ok (.getfield 9, 3) := by decide +kernel
theorem dX5_leastLeadingOut_18 : decode cX5_leastLeadingOut 18 = .ok (.iload_n 1, 1) := by decide +kernel
theorem dX5_leastLeadingOut_19 : decode cX5_leastLeadingOut 19 = .ok (.iaload, 1) := by decide +kernel
theorem dX5_leastLeadingOut_20 : decode cX5_leastLeadingOut 20 = .ok (.baload, 1) := by decide +kernel
theorem dX5_leastLeadingOut_21 : decode cX5_leastLeadingOut 21 = .ok (.aload_n 0, 1) := by decide +kernel
theorem dX5_leastLeadingOut_22 : decode cX5_leastLeadingOut 22 = .ok (.getfield 21, 3) := by decide +kernel
theorem dX5_leastLeadingOut_25 : decode cX5_leastLeadingOut 25 = .ok (.aload_n 0, 1) := by decide +kernel
theorem dX5_leastLeadingOut_26 : decode cX5_leastLeadingOut 26 = .ok (.getfield 15, 3) := by decide +kernel
theorem dX5_leastLeadingOut_29 : decode cX5_leastLeadingOut 29 = .ok (.iload_n 1, 1) := by decide +kernel
theorem dX5_leastLeadingOut_30 : decode cX5_leastLeadingOut 30 = .ok (.iaload, 1) := by decide +kernel
theorem dX5_leastLeadingOut_31 : decode cX5_leastLeadingOut 31 = .ok (.baload, 1) := by decide +kernel
theorem dX5_leastLeadingOut_32 : decode cX5_leastLeadingOut 32 = .ok (.if_icmp .eq 5, 3) := by decide +kernel
theorem dX5_leastLeadingOut_35 : decode cX5_leastLeadingOut 35 = .ok (.iload_n 1, 1) := by decide +kernel
theorem dX5_leastLeadingOut_36 : decode cX5_leastLeadingOut 36 = .ok (.ireturn, 1) := by decide +kernel
theorem dX5_leastLeadingOut_37 : decode cX5_leastLeadingOut 37 = .ok (.iinc 1 1, 3) := by decide +kernel
theorem dX5_leastLeadingOut_40 : decode cX5_leastLeadingOut 40 = .ok (.goto (-38), 3) := by decide +kernel
theorem dX5_leastLeadingOut_43 : decode cX5_leastLeadingOut 43 = .ok (.iconst (-1), 1) := by decide +kernel
theorem dX5_leastLeadingOut_44 : decode cX5_leastLeadingOut 44 = .ok (.ireturn, 1) := by decide +kernel
theorem dX5_numberTurns_0 : decode cX5_numberTurns 0 = .ok (.aload_n 0, 1) := by decide +kernel
theorem dX5_numberTurns_1 : decode cX5_numberTurns 1 = .ok (.iconst 0, 1) := by decide +kernel
theorem dX5_numberTurns_2 : decode cX5_numberTurns 2 = .ok (.putfield 77, 3) := by decide +kernel
theorem dX5_numberTurns_5 : decode cX5_numberTurns 5 = .ok (.iconst 0, 1) := by decide +kernel
theorem dX5_numberTurns_6 : decode cX5_numberTurns 6 = .ok (.istore_n 1, 1) := by decide +kernel
theorem dX5_numberTurns_7 : decode cX5_numberTurns 7 = .ok (.iload_n 1, 1) := by decide +kernel
theorem dX5_numberTurns_8 : decode cX5_numberTurns 8 = .ok (.aload_n 0, 1) := by decide +kernel
theorem dX5_numberTurns_9 : decode cX5_numberTurns 9 = .ok (.getfield 48, 3) := by decide +kernel
theorem dX5_numberTurns_12 : decode cX5_numberTurns 12 = .ok (.if_icmp .ge 53, 3) := by decide +kernel
theorem dX5_numberTurns_15 : decode cX5_numberTurns 15 = .ok (.aload_n 0, 1) := by decide +kernel
theorem dX5_numberTurns_16 : decode cX5_numberTurns 16 = .ok (.getfield 18, 3) := by decide +kernel
theorem dX5_numberTurns_19 : decode cX5_numberTurns 19 = .ok (.iload_n 1, 1) := by decide +kernel
theorem dX5_numberTurns_20 : decode cX5_numberTurns 20 = .ok (.iaload, 1) := by decide +kernel
theorem dX5_numberTurns_21 : decode cX5_numberTurns 21 = .ok (.iconst (-1), 1) := by decide +kernel
theorem dX5_numberTurns_22 : decode cX5_numberTurns 22 = .ok (.if_icmp .eq 37, 3) := by decide +kernel
theorem dX5_numberTurns_25 : decode cX5_numberTurns 25 = .ok (.aload_n 0, 1) := by decide +kernel
theorem dX5_numberTurns_26 : decode cX5_numberTurns 26 = .ok (.getfield 21, 3) := by decide +kernel
theorem dX5_numberTurns_29 : decode cX5_numberTurns 29 = .ok (.aload_n 0, 1) := by decide +kernel
theorem dX5_numberTurns_30 : decode cX5_numberTurns 30 = .ok (.getfield 9, 3) := by decide +kernel
theorem dX5_numberTurns_33 : decode cX5_numberTurns 33 = .ok (.iload_n 1, 1) := by decide +kernel
theorem dX5_numberTurns_34 : decode cX5_numberTurns 34 = .ok (.iaload, 1) := by decide +kernel
theorem dX5_numberTurns_35 : decode cX5_numberTurns 35 = .ok (.baload, 1) := by decide +kernel
theorem dX5_numberTurns_36 : decode cX5_numberTurns 36 = .ok (.ifCond .eq 23, 3) := by decide +kernel
theorem dX5_numberTurns_39 : decode cX5_numberTurns 39 = .ok (.aload_n 0, 1) := by decide +kernel
theorem dX5_numberTurns_40 : decode cX5_numberTurns 40 = .ok (.getfield 18, 3) := by decide +kernel
theorem dX5_numberTurns_43 : decode cX5_numberTurns 43 = .ok (.iload_n 1, 1) := by decide +kernel
theorem dX5_numberTurns_44 : decode cX5_numberTurns 44 = .ok (.aload_n 0, 1) := by decide +kernel
theorem dX5_numberTurns_45 : decode cX5_numberTurns 45 = .ok (.getfield 77, 3) := by decide +kernel
theorem dX5_numberTurns_48 : decode cX5_numberTurns 48 = .ok (.iastore, 1) := by decide +kernel
theorem dX5_numberTurns_49 : decode cX5_numberTurns 49 = .ok (.aload_n 0, 1) := by decide +kernel
theorem dX5_numberTurns_50 : decode cX5_numberTurns 50 = .ok (.dup, 1) := by decide +kernel
theorem dX5_numberTurns_51 : decode cX5_numberTurns 51 = .ok (.getfield 77, 3) := by decide +kernel
theorem dX5_numberTurns_54 : decode cX5_numberTurns 54 = .ok (.iconst 1, 1) := by decide +kernel
theorem dX5_numberTurns_55 : decode cX5_numberTurns 55 = .ok (.iadd, 1) := by decide +kernel
theorem dX5_numberTurns_56 : decode cX5_numberTurns 56 = .ok (.putfield 77, 3) := by decide +kernel
theorem dX5_numberTurns_59 : decode cX5_numberTurns 59 = .ok (.iinc 1 1, 3) := by decide +kernel
theorem dX5_numberTurns_62 : decode cX5_numberTurns 62 = .ok (.goto (-55), 3) := by decide +kernel
theorem dX5_numberTurns_65 : decode cX5_numberTurns 65 = .ok (.return_, 1) := by decide +kernel
theorem dX5_isClass_0 : decode cX5_isClass 0 = .ok (.iconst 0, 1) := by decide +kernel
theorem dX5_isClass_1 : decode cX5_isClass 1 = .ok (.istore_n 2, 1) := by decide +kernel
theorem dX5_isClass_2 : decode cX5_isClass 2 = .ok (.iload_n 2, 1) := by decide +kernel
theorem dX5_isClass_3 : decode cX5_isClass 3 = .ok (.aload_n 0, 1) := by decide +kernel
theorem dX5_isClass_4 : decode cX5_isClass 4 = .ok (.getfield 51, 3) := by decide +kernel
theorem dX5_isClass_7 : decode cX5_isClass 7 = .ok (.if_icmp .ge 54, 3) := by decide +kernel
theorem dX5_isClass_10 : decode cX5_isClass 10 = .ok (.iconst 0, 1) := by decide +kernel
theorem dX5_isClass_11 : decode cX5_isClass 11 = .ok (.istore_n 3, 1) := by decide +kernel
theorem dX5_isClass_12 : decode cX5_isClass 12 = .ok (.iconst 0, 1) := by decide +kernel
theorem dX5_isClass_13 : decode cX5_isClass 13 = .ok (.istore 4, 2) := by decide +kernel
theorem dX5_isClass_15 : decode cX5_isClass 15 = .ok (.iload 4, 2) := by decide +kernel
theorem dX5_isClass_17 : decode cX5_isClass 17 = .ok (.aload_n 0, 1) := by decide +kernel
theorem dX5_isClass_18 : decode cX5_isClass 18 = .ok (.getfield 28, 3) := by decide +kernel
theorem dX5_isClass_21 : decode cX5_isClass 21 = .ok (.iload_n 2, 1) := by decide +kernel
theorem dX5_isClass_22 : decode cX5_isClass 22 = .ok (.iaload, 1) := by decide +kernel
theorem dX5_isClass_23 : decode cX5_isClass 23 = .ok (.if_icmp .ge 25, 3) := by decide +kernel
theorem dX5_isClass_26 : decode cX5_isClass 26 = .ok (.iload_n 3, 1) := by decide +kernel
theorem dX5_isClass_27 : decode cX5_isClass 27 = .ok (.iload_n 1, 1) := by decide +kernel
theorem dX5_isClass_28 : decode cX5_isClass 28 = .ok (.aload_n 0, 1) := by decide +kernel
theorem dX5_isClass_29 : decode cX5_isClass 29 = .ok (.iload_n 2, 1) := by decide +kernel
theorem dX5_isClass_30 : decode cX5_isClass 30 = .ok (.iload 4, 2) := by decide +kernel
theorem dX5_isClass_32 : decode cX5_isClass 32 = .ok (.invokevirtual 60, 3) := by decide +kernel
theorem dX5_isClass_35 : decode cX5_isClass 35 = .ok (.iconst 1, 1) := by decide +kernel
theorem dX5_isClass_36 : decode cX5_isClass 36 = .ok (.ishr, 1) := by decide +kernel
theorem dX5_isClass_37 : decode cX5_isClass 37 = .ok (.ishr, 1) := by decide +kernel
theorem dX5_isClass_38 : decode cX5_isClass 38 = .ok (.iconst 1, 1) := by decide +kernel
theorem dX5_isClass_39 : decode cX5_isClass 39 = .ok (.iand, 1) := by decide +kernel
theorem dX5_isClass_40 : decode cX5_isClass 40 = .ok (.ixor, 1) := by decide +kernel
theorem dX5_isClass_41 : decode cX5_isClass 41 = .ok (.istore_n 3, 1) := by decide +kernel
theorem dX5_isClass_42 : decode cX5_isClass 42 = .ok (.iinc 4 1, 3) := by decide +kernel
theorem dX5_isClass_45 : decode cX5_isClass 45 = .ok (.goto (-30), 3) := by decide +kernel
theorem dX5_isClass_48 : decode cX5_isClass 48 = .ok (.iload_n 3, 1) := by decide +kernel
theorem dX5_isClass_49 : decode cX5_isClass 49 = .ok (.iconst 1, 1) := by decide +kernel
theorem dX5_isClass_50 : decode cX5_isClass 50 = .ok (.if_icmp .ne 5, 3) := by decide +kernel
theorem dX5_isClass_53 : decode cX5_isClass 53 = .ok (.iconst 0, 1) := by decide +kernel
theorem dX5_isClass_54 : decode cX5_isClass 54 = .ok (.ireturn, 1) := by decide +kernel
theorem dX5_isClass_55 : decode cX5_isClass 55 = .ok (.iinc 2 1, 3) := by decide +kernel
theorem dX5_isClass_58 : decode cX5_isClass 58 = .ok (.goto (-56), 3) := by decide +kernel
theorem dX5_isClass_61 : decode cX5_isClass 61 = .ok (.iconst 1, 1) := by decide +kernel
theorem dX5_isClass_62 : decode cX5_isClass 62 = .ok (.ireturn, 1) := by decide +kernel
theorem dX5_oddPanes_0 : decode cX5_oddPanes 0 = .ok (.iconst 0, 1) := by decide +kernel
theorem dX5_oddPanes_1 : decode cX5_oddPanes 1 = .ok (.istore_n 2, 1) := by decide +kernel
theorem dX5_oddPanes_2 : decode cX5_oddPanes 2 = .ok (.iconst 0, 1) := by decide +kernel
theorem dX5_oddPanes_3 : decode cX5_oddPanes 3 = .ok (.istore_n 3, 1) := by decide +kernel
theorem dX5_oddPanes_4 : decode cX5_oddPanes 4 = .ok (.iload_n 3, 1) := by decide +kernel
theorem dX5_oddPanes_5 : decode cX5_oddPanes 5 = .ok (.aload_n 0, 1) := by decide +kernel
theorem dX5_oddPanes_6 : decode cX5_oddPanes 6 = .ok (.getfield 51, 3) := by decide +kernel
theorem dX5_oddPanes_9 : decode cX5_oddPanes 9 = .ok (.if_icmp .ge 22, 3) := by decide +kernel
theorem dX5_oddPanes_12 : decode cX5_oddPanes 12 = .ok (.iload_n 2, 1) := by decide +kernel
theorem dX5_oddPanes_13 : decode cX5_oddPanes 13 = .ok (.aload_n 0, 1) := by decide +kernel
theorem dX5_oddPanes_14 : decode cX5_oddPanes 14 = .ok (.iload_n 3, 1) := by decide +kernel
theorem dX5_oddPanes_15 : decode cX5_oddPanes 15 = .ok (.iload_n 1, 1) := by decide +kernel
theorem dX5_oddPanes_16 : decode cX5_oddPanes 16 = .ok (.invokevirtual 80, 3) := by decide +kernel
theorem dX5_oddPanes_19 : decode cX5_oddPanes 19 = .ok (.iconst 1, 1) := by decide +kernel
theorem dX5_oddPanes_20 : decode cX5_oddPanes 20 = .ok (.iand, 1) := by decide +kernel
theorem dX5_oddPanes_21 : decode cX5_oddPanes 21 = .ok (.iload_n 3, 1) := by decide +kernel
theorem dX5_oddPanes_22 : decode cX5_oddPanes 22 = .ok (.ishl, 1) := by decide +kernel
theorem dX5_oddPanes_23 : decode cX5_oddPanes 23 = .ok (.ior, 1) := by decide +kernel
theorem dX5_oddPanes_24 : decode cX5_oddPanes 24 = .ok (.istore_n 2, 1) := by decide +kernel
theorem dX5_oddPanes_25 : decode cX5_oddPanes 25 = .ok (.iinc 3 1, 3) := by decide +kernel
theorem dX5_oddPanes_28 : decode cX5_oddPanes 28 = .ok (.goto (-24), 3) := by decide +kernel
theorem dX5_oddPanes_31 : decode cX5_oddPanes 31 = .ok (.iload_n 2, 1) := by decide +kernel
theorem dX5_oddPanes_32 : decode cX5_oddPanes 32 = .ok (.ireturn, 1) := by decide +kernel
theorem dX5_multiply_0 : decode cX5_multiply 0 = .ok (.iconst 0, 1) := by decide +kernel
theorem dX5_multiply_1 : decode cX5_multiply 1 = .ok (.istore 4, 2) := by decide +kernel
theorem dX5_multiply_3 : decode cX5_multiply 3 = .ok (.iconst 0, 1) := by decide +kernel
theorem dX5_multiply_4 : decode cX5_multiply 4 = .ok (.istore 5, 2) := by decide +kernel
theorem dX5_multiply_6 : decode cX5_multiply 6 = .ok (.iconst 0, 1) := by decide +kernel
theorem dX5_multiply_7 : decode cX5_multiply 7 = .ok (.istore 6, 2) := by decide +kernel
theorem dX5_multiply_9 : decode cX5_multiply 9 = .ok (.iload 6, 2) := by decide +kernel
theorem dX5_multiply_11 : decode cX5_multiply 11 = .ok (.aload_n 0, 1) := by decide +kernel
theorem dX5_multiply_12 : decode cX5_multiply 12 = .ok (.getfield 28, 3) := by decide +kernel
theorem dX5_multiply_15 : decode cX5_multiply 15 = .ok (.iload_n 1, 1) := by decide +kernel
theorem dX5_multiply_16 : decode cX5_multiply 16 = .ok (.iaload, 1) := by decide +kernel
theorem dX5_multiply_17 : decode cX5_multiply 17 = .ok (.if_icmp .ge 64, 3) := by decide +kernel
theorem dX5_multiply_20 : decode cX5_multiply 20 = .ok (.aload_n 0, 1) := by decide +kernel
theorem dX5_multiply_21 : decode cX5_multiply 21 = .ok (.iload_n 1, 1) := by decide +kernel
theorem dX5_multiply_22 : decode cX5_multiply 22 = .ok (.iload 6, 2) := by decide +kernel
theorem dX5_multiply_24 : decode cX5_multiply 24 = .ok (.invokevirtual 60, 3) := by decide +kernel
theorem dX5_multiply_27 : decode cX5_multiply 27 = .ok (.istore 7, 2) := by decide +kernel
theorem dX5_multiply_29 : decode cX5_multiply 29 = .ok (.iload_n 2, 1) := by decide +kernel
theorem dX5_multiply_30 : decode cX5_multiply 30 = .ok (.iload 7, 2) := by decide +kernel
theorem dX5_multiply_32 : decode cX5_multiply 32 = .ok (.iconst 1, 1) := by decide +kernel
theorem dX5_multiply_33 : decode cX5_multiply 33 = .ok (.ishr, 1) := by decide +kernel
theorem dX5_multiply_34 : decode cX5_multiply 34 = .ok (.ishr, 1) := by decide +kernel
theorem dX5_multiply_35 : decode cX5_multiply 35 = .ok (.iconst 1, 1) := by decide +kernel
theorem dX5_multiply_36 : decode cX5_multiply 36 = .ok (.iand, 1) := by decide +kernel
theorem dX5_multiply_37 : decode cX5_multiply 37 = .ok (.istore 8, 2) := by decide +kernel
theorem dX5_multiply_39 : decode cX5_multiply 39 = .ok (.iload_n 3, 1) := by decide +kernel
theorem dX5_multiply_40 : decode cX5_multiply 40 = .ok (.iload 7, 2) := by decide +kernel
theorem dX5_multiply_42 : decode cX5_multiply 42 = .ok (.iconst 1, 1) := by decide +kernel
theorem dX5_multiply_43 : decode cX5_multiply 43 = .ok (.ishr, 1) := by decide +kernel
theorem dX5_multiply_44 : decode cX5_multiply 44 = .ok (.ishr, 1) := by decide +kernel
theorem dX5_multiply_45 : decode cX5_multiply 45 = .ok (.iconst 1, 1) := by decide +kernel
theorem dX5_multiply_46 : decode cX5_multiply 46 = .ok (.iand, 1) := by decide +kernel
theorem dX5_multiply_47 : decode cX5_multiply 47 = .ok (.istore 9, 2) := by decide +kernel
theorem dX5_multiply_49 : decode cX5_multiply 49 = .ok (.iload 5, 2) := by decide +kernel
theorem dX5_multiply_51 : decode cX5_multiply 51 = .ok (.iload 4, 2) := by decide +kernel
theorem dX5_multiply_53 : decode cX5_multiply 53 = .ok (.iload 9, 2) := by decide +kernel
theorem dX5_multiply_55 : decode cX5_multiply 55 = .ok (.iand, 1) := by decide +kernel
theorem dX5_multiply_56 : decode cX5_multiply 56 = .ok (.iload 7, 2) := by decide +kernel
theorem dX5_multiply_58 : decode cX5_multiply 58 = .ok (.iload 8, 2) := by decide +kernel
theorem dX5_multiply_60 : decode cX5_multiply 60 = .ok (.iand, 1) := by decide +kernel
theorem dX5_multiply_61 : decode cX5_multiply 61 = .ok (.iload 9, 2) := by decide +kernel
theorem dX5_multiply_63 : decode cX5_multiply 63 = .ok (.iand, 1) := by decide +kernel
theorem dX5_multiply_64 : decode cX5_multiply 64 = .ok (.ixor, 1) := by decide +kernel
theorem dX5_multiply_65 : decode cX5_multiply 65 = .ok (.ixor, 1) := by decide +kernel
theorem dX5_multiply_66 : decode cX5_multiply 66 = .ok (.istore 5, 2) := by decide +kernel
theorem dX5_multiply_68 : decode cX5_multiply 68 = .ok (.iload 4, 2) := by decide +kernel
theorem dX5_multiply_70 : decode cX5_multiply 70 = .ok (.iload 8, 2) := by decide +kernel
theorem dX5_multiply_72 : decode cX5_multiply 72 = .ok (.ixor, 1) := by decide +kernel
theorem dX5_multiply_73 : decode cX5_multiply 73 = .ok (.istore 4, 2) := by decide +kernel
theorem dX5_multiply_75 : decode cX5_multiply 75 = .ok (.iinc 6 1, 3) := by decide +kernel
theorem dX5_multiply_78 : decode cX5_multiply 78 = .ok (.goto (-69), 3) := by decide +kernel
theorem dX5_multiply_81 : decode cX5_multiply 81 = .ok (.iload 5, 2) := by decide +kernel
theorem dX5_multiply_83 : decode cX5_multiply 83 = .ok (.ireturn, 1) := by decide +kernel
theorem dX5_collapse_0 : decode cX5_collapse 0 = .ok (.iconst 0, 1) := by decide +kernel
theorem dX5_collapse_1 : decode cX5_collapse 1 = .ok (.istore_n 1, 1) := by decide +kernel
theorem dX5_collapse_2 : decode cX5_collapse 2 = .ok (.aload_n 0, 1) := by decide +kernel
theorem dX5_collapse_3 : decode cX5_collapse 3 = .ok (.invokevirtual 83, 3) := by decide +kernel
theorem dX5_collapse_6 : decode cX5_collapse 6 = .ok (.istore_n 2, 1) := by decide +kernel
theorem dX5_collapse_7 : decode cX5_collapse 7 = .ok (.iload_n 1, 1) := by decide +kernel
theorem dX5_collapse_8 : decode cX5_collapse 8 = .ok (.bipush 8, 2) := by decide +kernel
theorem dX5_collapse_10 : decode cX5_collapse 10 = .ok (.if_icmp .ge 33, 3) := by decide +kernel
theorem dX5_collapse_13 : decode cX5_collapse 13 = .ok (.iload_n 2, 1) := by decide +kernel
theorem dX5_collapse_14 : decode cX5_collapse 14 = .ok (.iconst (-1), 1) := by decide +kernel
theorem dX5_collapse_15 : decode cX5_collapse 15 = .ok (.if_icmp .eq 28, 3) := by decide +kernel
theorem dX5_collapse_18 : decode cX5_collapse 18 = .ok (.aload_n 0, 1) := by decide +kernel
theorem dX5_collapse_19 : decode cX5_collapse 19 = .ok (.aload_n 0, 1) := by decide +kernel
theorem dX5_collapse_20 : decode cX5_collapse 20 = .ok (.iload_n 2, 1) := by decide +kernel
theorem dX5_collapse_21 : decode cX5_collapse 21 = .ok (.invokevirtual 86, 3) := by decide +kernel
theorem dX5_collapse_24 : decode cX5_collapse 24 = .ok (.invokevirtual 89, 3) := by decide +kernel
theorem dX5_collapse_27 : decode cX5_collapse 27 = .ok (.aload_n 0, 1) := by decide +kernel
theorem dX5_collapse_28 : decode cX5_collapse 28 = .ok (.iload_n 2, 1) := by decide +kernel
theorem dX5_collapse_29 : decode cX5_collapse 29 = .ok (.invokevirtual 92, 3) := by decide +kernel
theorem dX5_collapse_32 : decode cX5_collapse 32 = .ok (.iinc 1 1, 3) := by decide +kernel
theorem dX5_collapse_35 : decode cX5_collapse 35 = .ok (.aload_n 0, 1) := by decide +kernel
theorem dX5_collapse_36 : decode cX5_collapse 36 = .ok (.invokevirtual 83, 3) := by decide +kernel
theorem dX5_collapse_39 : decode cX5_collapse 39 = .ok (.istore_n 2, 1) := by decide +kernel
theorem dX5_collapse_40 : decode cX5_collapse 40 = .ok (.goto (-33), 3) := by decide +kernel
theorem dX5_collapse_43 : decode cX5_collapse 43 = .ok (.iload_n 1, 1) := by decide +kernel
theorem dX5_collapse_44 : decode cX5_collapse 44 = .ok (.ireturn, 1) := by decide +kernel
theorem dX5_leastFreeEdge_0 : decode cX5_leastFreeEdge 0 = .ok (.iconst 0, 1) := by decide +kernel
theorem dX5_leastFreeEdge_1 : decode cX5_leastFreeEdge 1 = .ok (.istore_n 1, 1) := by decide +kernel
theorem dX5_leastFreeEdge_2 : decode cX5_leastFreeEdge 2 = .ok (.iload_n 1, 1) := by decide +kernel
theorem dX5_leastFreeEdge_3 : decode cX5_leastFreeEdge 3 = .ok (.aload_n 0, 1) := by decide +kernel
theorem dX5_leastFreeEdge_4 : decode cX5_leastFreeEdge 4 = .ok (.getfield 48, 3) := by decide +kernel
theorem dX5_leastFreeEdge_7 : decode cX5_leastFreeEdge 7 = .ok (.if_icmp .ge 43, 3) := by decide +kernel
theorem dX5_leastFreeEdge_10 : decode cX5_leastFreeEdge 10 = .ok (.iconst 0, 1) := by decide +kernel
theorem dX5_leastFreeEdge_11 : decode cX5_leastFreeEdge 11 = .ok (.istore_n 2, 1) := by decide +kernel
theorem dX5_leastFreeEdge_12 : decode cX5_leastFreeEdge 12 = .ok (.iconst 0, 1) := by decide +kernel
theorem dX5_leastFreeEdge_13 : decode cX5_leastFreeEdge 13 = .ok (.istore_n 3, 1) := by decide +kernel
theorem dX5_leastFreeEdge_14 : decode cX5_leastFreeEdge 14 = .ok (.iload_n 3, 1) := by decide +kernel
theorem dX5_leastFreeEdge_15 : decode cX5_leastFreeEdge 15 = .ok (.aload_n 0, 1) := by decide +kernel
theorem dX5_leastFreeEdge_16 : decode cX5_leastFreeEdge 16 = .ok (.getfield 51, 3) := by decide +kernel
theorem dX5_leastFreeEdge_19 : decode cX5_leastFreeEdge 19 = .ok (.if_icmp .ge 18, 3) := by decide +kernel
theorem dX5_leastFreeEdge_22 : decode cX5_leastFreeEdge 22 = .ok (.iload_n 2, 1) := by decide +kernel
theorem dX5_leastFreeEdge_23 : decode cX5_leastFreeEdge 23 = .ok (.aload_n 0, 1) := by decide +kernel
theorem dX5_leastFreeEdge_24 : decode cX5_leastFreeEdge 24 = .ok (.iload_n 3, 1) := by decide +kernel
theorem dX5_leastFreeEdge_25 : decode cX5_leastFreeEdge 25 = .ok (.iload_n 1, 1) := by decide +kernel
theorem dX5_leastFreeEdge_26 : decode cX5_leastFreeEdge 26 = .ok (.invokevirtual 80, 3) := by decide +kernel
theorem dX5_leastFreeEdge_29 : decode cX5_leastFreeEdge 29 = .ok (.iadd, 1) := by decide +kernel
theorem dX5_leastFreeEdge_30 : decode cX5_leastFreeEdge 30 = .ok (.istore_n 2, 1) := by decide +kernel
theorem dX5_leastFreeEdge_31 : decode cX5_leastFreeEdge 31 = .ok (.iinc 3 1, 3) := by decide +kernel
theorem dX5_leastFreeEdge_34 : decode cX5_leastFreeEdge 34 = .ok (.goto (-20), 3) := by decide +kernel
theorem dX5_leastFreeEdge_37 : decode cX5_leastFreeEdge 37 = .ok (.iload_n 2, 1) := by decide +kernel
theorem dX5_leastFreeEdge_38 : decode cX5_leastFreeEdge 38 = .ok (.iconst 1, 1) := by decide +kernel
theorem dX5_leastFreeEdge_39 : decode cX5_leastFreeEdge 39 = .ok (.if_icmp .ne 5, 3) := by decide +kernel
theorem dX5_leastFreeEdge_42 : decode cX5_leastFreeEdge 42 = .ok (.iload_n 1, 1) := by decide +kernel
theorem dX5_leastFreeEdge_43 : decode cX5_leastFreeEdge 43 = .ok (.ireturn, 1) := by decide +kernel
theorem dX5_leastFreeEdge_44 : decode cX5_leastFreeEdge 44 = .ok (.iinc 1 1, 3) := by decide +kernel
theorem dX5_leastFreeEdge_47 : decode cX5_leastFreeEdge 47 = .ok (.goto (-45), 3) := by decide +kernel
theorem dX5_leastFreeEdge_50 : decode cX5_leastFreeEdge 50 = .ok (.iconst (-1), 1) := by decide +kernel
theorem dX5_leastFreeEdge_51 : decode cX5_leastFreeEdge 51 = .ok (.ireturn, 1) := by decide +kernel
theorem dX5_stepsBy_0 : decode cX5_stepsBy 0 = .ok (.iconst 0, 1) := by decide +kernel
theorem dX5_stepsBy_1 : decode cX5_stepsBy 1 = .ok (.istore_n 3, 1) := by decide +kernel
theorem dX5_stepsBy_2 : decode cX5_stepsBy 2 = .ok (.iconst 0, 1) := by decide +kernel
theorem dX5_stepsBy_3 : decode cX5_stepsBy 3 = .ok (.istore 4, 2) := by decide +kernel
theorem dX5_stepsBy_5 : decode cX5_stepsBy 5 = .ok (.iload 4, 2) := by decide +kernel
theorem dX5_stepsBy_7 : decode cX5_stepsBy 7 = .ok (.aload_n 0, 1) := by decide +kernel
theorem dX5_stepsBy_8 : decode cX5_stepsBy 8 = .ok (.getfield 28, 3) := by decide +kernel
theorem dX5_stepsBy_11 : decode cX5_stepsBy 11 = .ok (.iload_n 1, 1) := by decide +kernel
theorem dX5_stepsBy_12 : decode cX5_stepsBy 12 = .ok (.iaload, 1) := by decide +kernel
theorem dX5_stepsBy_13 : decode cX5_stepsBy 13 = .ok (.if_icmp .ge 25, 3) := by decide +kernel
theorem dX5_stepsBy_16 : decode cX5_stepsBy 16 = .ok (.aload_n 0, 1) := by decide +kernel
theorem dX5_stepsBy_17 : decode cX5_stepsBy 17 = .ok (.iload_n 1, 1) := by decide +kernel
theorem dX5_stepsBy_18 : decode cX5_stepsBy 18 = .ok (.iload 4, 2) := by decide +kernel
theorem dX5_stepsBy_20 : decode cX5_stepsBy 20 = .ok (.invokevirtual 60, 3) := by decide +kernel
theorem dX5_stepsBy_23 : decode cX5_stepsBy 23 = .ok (.iconst 1, 1) := by decide +kernel
theorem dX5_stepsBy_24 : decode cX5_stepsBy 24 = .ok (.ishr, 1) := by decide +kernel
theorem dX5_stepsBy_25 : decode cX5_stepsBy 25 = .ok (.iload_n 2, 1) := by decide +kernel
theorem dX5_stepsBy_26 : decode cX5_stepsBy 26 = .ok (.if_icmp .ne 6, 3) := by decide +kernel
theorem dX5_stepsBy_29 : decode cX5_stepsBy 29 = .ok (.iinc 3 1, 3) := by decide +kernel
theorem dX5_stepsBy_32 : decode cX5_stepsBy 32 = .ok (.iinc 4 1, 3) := by decide +kernel
theorem dX5_stepsBy_35 : decode cX5_stepsBy 35 = .ok (.goto (-30), 3) := by decide +kernel
theorem dX5_stepsBy_38 : decode cX5_stepsBy 38 = .ok (.iload_n 3, 1) := by decide +kernel
theorem dX5_stepsBy_39 : decode cX5_stepsBy 39 = .ok (.ireturn, 1) := by decide +kernel
theorem dX5_paneBy_0 : decode cX5_paneBy 0 = .ok (.iconst 0, 1) := by decide +kernel
theorem dX5_paneBy_1 : decode cX5_paneBy 1 = .ok (.istore_n 2, 1) := by decide +kernel
theorem dX5_paneBy_2 : decode cX5_paneBy 2 = .ok (.iload_n 2, 1) := by decide +kernel
theorem dX5_paneBy_3 : decode cX5_paneBy 3 = .ok (.aload_n 0, 1) := by decide +kernel
theorem dX5_paneBy_4 : decode cX5_paneBy 4 = .ok (.getfield 51, 3) := by decide +kernel
theorem dX5_paneBy_7 : decode cX5_paneBy 7 = .ok (.iconst 1, 1) := by decide +kernel
theorem dX5_paneBy_8 : decode cX5_paneBy 8 = .ok (.isub, 1) := by decide +kernel
theorem dX5_paneBy_9 : decode cX5_paneBy 9 = .ok (.if_icmp .ge 18, 3) := by decide +kernel
theorem dX5_paneBy_12 : decode cX5_paneBy 12 = .ok (.aload_n 0, 1) := by decide +kernel
theorem dX5_paneBy_13 : decode cX5_paneBy 13 = .ok (.iload_n 2, 1) := by decide +kernel
theorem dX5_paneBy_14 : decode cX5_paneBy 14 = .ok (.iload_n 1, 1) := by decide +kernel
theorem dX5_paneBy_15 : decode cX5_paneBy 15 = .ok (.invokevirtual 80, 3) := by decide +kernel
theorem dX5_paneBy_18 : decode cX5_paneBy 18 = .ok (.ifCond .ne 9, 3) := by decide +kernel
theorem dX5_paneBy_21 : decode cX5_paneBy 21 = .ok (.iinc 2 1, 3) := by decide +kernel
theorem dX5_paneBy_24 : decode cX5_paneBy 24 = .ok (.goto (-22), 3) := by decide +kernel
theorem dX5_paneBy_27 : decode cX5_paneBy 27 = .ok (.iload_n 2, 1) := by decide +kernel
theorem dX5_paneBy_28 : decode cX5_paneBy 28 = .ok (.ireturn, 1) := by decide +kernel
theorem dX5_removePane_0 : decode cX5_removePane 0 = .ok (.aload_n 0, 1) := by decide +kernel
theorem dX5_removePane_1 : decode cX5_removePane 1 = .ok (.getfield 51, 3) := by decide +kernel
theorem dX5_removePane_4 : decode cX5_removePane 4 = .ok (.iload_n 1, 1) := by decide +kernel
theorem dX5_removePane_5 : decode cX5_removePane 5 = .ok (.isub, 1) := by decide +kernel
theorem dX5_removePane_6 : decode cX5_removePane 6 = .ok (.iconst 1, 1) := by decide +kernel
theorem dX5_removePane_7 : decode cX5_removePane 7 = .ok (.isub, 1) := by decide +kernel
theorem dX5_removePane_8 : decode cX5_removePane 8 = .ok (.istore_n 2, 1) := by decide +kernel
theorem dX5_removePane_9 : decode cX5_removePane 9 = .ok (.aload_n 0, 1) := by decide +kernel
theorem dX5_removePane_10 : decode cX5_removePane 10 = .ok (.getfield 25, 3) := by decide +kernel
theorem dX5_removePane_13 : decode cX5_removePane 13 = .ok (.iload_n 1, 1) := by decide +kernel
theorem dX5_removePane_14 : decode cX5_removePane 14 = .ok (.iconst 1, 1) := by decide +kernel
theorem dX5_removePane_15 : decode cX5_removePane 15 = .ok (.iadd, 1) := by decide +kernel
theorem dX5_removePane_16 : decode cX5_removePane 16 = .ok (.bipush 8, 2) := by decide +kernel
theorem dX5_removePane_18 : decode cX5_removePane 18 = .ok (.imul, 1) := by decide +kernel
theorem dX5_removePane_19 : decode cX5_removePane 19 = .ok (.aload_n 0, 1) := by decide +kernel
theorem dX5_removePane_20 : decode cX5_removePane 20 = .ok (.getfield 25, 3) := by decide +kernel
theorem dX5_removePane_23 : decode cX5_removePane 23 = .ok (.iload_n 1, 1) := by decide +kernel
theorem dX5_removePane_24 : decode cX5_removePane 24 = .ok (.bipush 8, 2) := by decide +kernel
theorem dX5_removePane_26 : decode cX5_removePane 26 = .ok (.imul, 1) := by decide +kernel
theorem dX5_removePane_27 : decode cX5_removePane 27 = .ok (.iload_n 2, 1) := by decide +kernel
theorem dX5_removePane_28 : decode cX5_removePane 28 = .ok (.bipush 8, 2) := by decide +kernel
theorem dX5_removePane_30 : decode cX5_removePane 30 = .ok (.imul, 1) := by decide +kernel
theorem dX5_removePane_31 : decode cX5_removePane 31 = .ok (.invokestatic 54, 3) := by decide +kernel
theorem dX5_removePane_34 : decode cX5_removePane 34 = .ok (.aload_n 0, 1) := by decide +kernel
theorem dX5_removePane_35 : decode cX5_removePane 35 = .ok (.getfield 28, 3) := by decide +kernel
theorem dX5_removePane_38 : decode cX5_removePane 38 = .ok (.iload_n 1, 1) := by decide +kernel
theorem dX5_removePane_39 : decode cX5_removePane 39 = .ok (.iconst 1, 1) := by decide +kernel
theorem dX5_removePane_40 : decode cX5_removePane 40 = .ok (.iadd, 1) := by decide +kernel
theorem dX5_removePane_41 : decode cX5_removePane 41 = .ok (.aload_n 0, 1) := by decide +kernel
theorem dX5_removePane_42 : decode cX5_removePane 42 = .ok (.getfield 28, 3) := by decide +kernel
theorem dX5_removePane_45 : decode cX5_removePane 45 = .ok (.iload_n 1, 1) := by decide +kernel
theorem dX5_removePane_46 : decode cX5_removePane 46 = .ok (.iload_n 2, 1) := by decide +kernel
theorem dX5_removePane_47 : decode cX5_removePane 47 = .ok (.invokestatic 54, 3) := by decide +kernel
theorem dX5_removePane_50 : decode cX5_removePane 50 = .ok (.aload_n 0, 1) := by decide +kernel
theorem dX5_removePane_51 : decode cX5_removePane 51 = .ok (.dup, 1) := by decide +kernel
theorem dX5_removePane_52 : decode cX5_removePane 52 = .ok (.getfield 51, 3) := by decide +kernel
theorem dX5_removePane_55 : decode cX5_removePane 55 = .ok (.iconst 1, 1) := by decide +kernel
theorem dX5_removePane_56 : decode cX5_removePane 56 = .ok (.isub, 1) := by decide +kernel
theorem dX5_removePane_57 : decode cX5_removePane 57 = .ok (.putfield 51, 3) := by decide +kernel
theorem dX5_removePane_60 : decode cX5_removePane 60 = .ok (.return_, 1) := by decide +kernel
theorem dX5_removeEdge_0 : decode cX5_removeEdge 0 = .ok (.aload_n 0, 1) := by decide +kernel
theorem dX5_removeEdge_1 : decode cX5_removeEdge 1 = .ok (.getfield 48, 3) := by decide +kernel
theorem dX5_removeEdge_4 : decode cX5_removeEdge 4 = .ok (.iload_n 1, 1) := by decide +kernel
theorem dX5_removeEdge_5 : decode cX5_removeEdge 5 = .ok (.isub, 1) := by decide +kernel
theorem dX5_removeEdge_6 : decode cX5_removeEdge 6 = .ok (.iconst 1, 1) := by decide +kernel
theorem dX5_removeEdge_7 : decode cX5_removeEdge 7 = .ok (.isub, 1) := by decide +kernel
theorem dX5_removeEdge_8 : decode cX5_removeEdge 8 = .ok (.istore_n 2, 1) := by decide +kernel
theorem dX5_removeEdge_9 : decode cX5_removeEdge 9 = .ok (.aload_n 0, 1) := by decide +kernel
theorem dX5_removeEdge_10 : decode cX5_removeEdge 10 = .ok (.getfield 9, 3) := by decide +kernel
theorem dX5_removeEdge_13 : decode cX5_removeEdge 13 = .ok (.iload_n 1, 1) := by decide +kernel
theorem dX5_removeEdge_14 : decode cX5_removeEdge 14 = .ok (.iconst 1, 1) := by decide +kernel
theorem dX5_removeEdge_15 : decode cX5_removeEdge 15 = .ok (.iadd, 1) := by decide +kernel
theorem dX5_removeEdge_16 : decode cX5_removeEdge 16 = .ok (.aload_n 0, 1) := by decide +kernel
theorem dX5_removeEdge_17 : decode cX5_removeEdge 17 = .ok (.getfield 9, 3) := by decide +kernel
theorem dX5_removeEdge_20 : decode cX5_removeEdge 20 = .ok (.iload_n 1, 1) := by decide +kernel
theorem dX5_removeEdge_21 : decode cX5_removeEdge 21 = .ok (.iload_n 2, 1) := by decide +kernel
theorem dX5_removeEdge_22 : decode cX5_removeEdge 22 = .ok (.invokestatic 54, 3) := by decide +kernel
theorem dX5_removeEdge_25 : decode cX5_removeEdge 25 = .ok (.aload_n 0, 1) := by decide +kernel
theorem dX5_removeEdge_26 : decode cX5_removeEdge 26 = .ok (.getfield 15, 3) := by decide +kernel
theorem dX5_removeEdge_29 : decode cX5_removeEdge 29 = .ok (.iload_n 1, 1) := by decide +kernel
theorem dX5_removeEdge_30 : decode cX5_removeEdge 30 = .ok (.iconst 1, 1) := by decide +kernel
theorem dX5_removeEdge_31 : decode cX5_removeEdge 31 = .ok (.iadd, 1) := by decide +kernel
theorem dX5_removeEdge_32 : decode cX5_removeEdge 32 = .ok (.aload_n 0, 1) := by decide +kernel
theorem dX5_removeEdge_33 : decode cX5_removeEdge 33 = .ok (.getfield 15, 3) := by decide +kernel
theorem dX5_removeEdge_36 : decode cX5_removeEdge 36 = .ok (.iload_n 1, 1) := by decide +kernel
theorem dX5_removeEdge_37 : decode cX5_removeEdge 37 = .ok (.iload_n 2, 1) := by decide +kernel
theorem dX5_removeEdge_38 : decode cX5_removeEdge 38 = .ok (.invokestatic 54, 3) := by decide +kernel
theorem dX5_removeEdge_41 : decode cX5_removeEdge 41 = .ok (.aload_n 0, 1) := by decide +kernel
theorem dX5_removeEdge_42 : decode cX5_removeEdge 42 = .ok (.dup, 1) := by decide +kernel
theorem dX5_removeEdge_43 : decode cX5_removeEdge 43 = .ok (.getfield 48, 3) := by decide +kernel
theorem dX5_removeEdge_46 : decode cX5_removeEdge 46 = .ok (.iconst 1, 1) := by decide +kernel
theorem dX5_removeEdge_47 : decode cX5_removeEdge 47 = .ok (.isub, 1) := by decide +kernel
theorem dX5_removeEdge_48 : decode cX5_removeEdge 48 = .ok (.putfield 48, 3) := by decide +kernel
theorem dX5_removeEdge_51 : decode cX5_removeEdge 51 = .ok (.iconst 0, 1) := by decide +kernel
theorem dX5_removeEdge_52 : decode cX5_removeEdge 52 = .ok (.istore_n 3, 1) := by decide +kernel
theorem dX5_removeEdge_53 : decode cX5_removeEdge 53 = .ok (.iload_n 3, 1) := by decide +kernel
theorem dX5_removeEdge_54 : decode cX5_removeEdge 54 = .ok (.aload_n 0, 1) := by decide +kernel
theorem dX5_removeEdge_55 : decode cX5_removeEdge 55 = .ok (.getfield 51, 3) := by decide +kernel
theorem dX5_removeEdge_58 : decode cX5_removeEdge 58 = .ok (.if_icmp .ge 61, 3) := by decide +kernel
theorem dX5_removeEdge_61 : decode cX5_removeEdge 61 = .ok (.iload_n 3, 1) := by decide +kernel
theorem dX5_removeEdge_62 : decode cX5_removeEdge 62 = .ok (.bipush 8, 2) := by decide +kernel
theorem dX5_removeEdge_64 : decode cX5_removeEdge 64 = .ok (.imul, 1) := by decide +kernel
theorem dX5_removeEdge_65 : decode cX5_removeEdge 65 = .ok (.istore 4, 2) := by decide +kernel
theorem dX5_removeEdge_67 : decode cX5_removeEdge 67 = .ok (.iload 4, 2) := by decide +kernel
theorem dX5_removeEdge_69 : decode cX5_removeEdge 69 = .ok (.iload_n 3, 1) := by decide +kernel
theorem dX5_removeEdge_70 : decode cX5_removeEdge 70 = .ok (.bipush 8, 2) := by decide +kernel
theorem dX5_removeEdge_72 : decode cX5_removeEdge 72 = .ok (.imul, 1) := by decide +kernel
theorem dX5_removeEdge_73 : decode cX5_removeEdge 73 = .ok (.aload_n 0, 1) := by decide +kernel
theorem dX5_removeEdge_74 : decode cX5_removeEdge 74 = .ok (.getfield 28, 3) := by decide +kernel
theorem dX5_removeEdge_77 : decode cX5_removeEdge 77 = .ok (.iload_n 3, 1) := by decide +kernel
theorem dX5_removeEdge_78 : decode cX5_removeEdge 78 = .ok (.iaload, 1) := by decide +kernel
theorem dX5_removeEdge_79 : decode cX5_removeEdge 79 = .ok (.iadd, 1) := by decide +kernel
theorem dX5_removeEdge_80 : decode cX5_removeEdge 80 = .ok (.if_icmp .ge 33, 3) := by decide +kernel
theorem dX5_removeEdge_83 : decode cX5_removeEdge 83 = .ok (.aload_n 0, 1) := by decide +kernel
theorem dX5_removeEdge_84 : decode cX5_removeEdge 84 = .ok (.getfield 25, 3) := by decide +kernel
theorem dX5_removeEdge_87 : decode cX5_removeEdge 87 = .ok (.iload 4, 2) := by decide +kernel
theorem dX5_removeEdge_89 : decode cX5_removeEdge 89 = .ok (.iaload, 1) := by decide +kernel
theorem dX5_removeEdge_90 : decode cX5_removeEdge 90 = .ok (.iconst 1, 1) := by decide +kernel
theorem dX5_removeEdge_91 : decode cX5_removeEdge 91 = .ok (.ishr, 1) := by decide +kernel
theorem dX5_removeEdge_92 : decode cX5_removeEdge 92 = .ok (.iload_n 1, 1) := by decide +kernel
theorem dX5_removeEdge_93 : decode cX5_removeEdge 93 = .ok (.if_icmp .le 14, 3) := by decide +kernel
theorem dX5_removeEdge_96 : decode cX5_removeEdge 96 = .ok (.aload_n 0, 1) := by decide +kernel
theorem dX5_removeEdge_97 : decode cX5_removeEdge 97 = .ok (.getfield 25, 3) := by decide +kernel
theorem dX5_removeEdge_100 : decode cX5_removeEdge 100 = .ok (.iload 4, 2) := by decide +kernel
theorem dX5_removeEdge_102 : decode cX5_removeEdge 102 = .ok (.dup2, 1) := by decide +kernel
theorem dX5_removeEdge_103 : decode cX5_removeEdge 103 = .ok (.iaload, 1) := by decide +kernel
theorem dX5_removeEdge_104 : decode cX5_removeEdge 104 = .ok (.iconst 2, 1) := by decide +kernel
theorem dX5_removeEdge_105 : decode cX5_removeEdge 105 = .ok (.isub, 1) := by decide +kernel
theorem dX5_removeEdge_106 : decode cX5_removeEdge 106 = .ok (.iastore, 1) := by decide +kernel
theorem dX5_removeEdge_107 : decode cX5_removeEdge 107 = .ok (.iinc 4 1, 3) := by decide +kernel
theorem dX5_removeEdge_110 : decode cX5_removeEdge 110 = .ok (.goto (-43), 3) := by decide +kernel
theorem dX5_removeEdge_113 : decode cX5_removeEdge 113 = .ok (.iinc 3 1, 3) := by decide +kernel
theorem dX5_removeEdge_116 : decode cX5_removeEdge 116 = .ok (.goto (-63), 3) := by decide +kernel
theorem dX5_removeEdge_119 : decode cX5_removeEdge 119 = .ok (.return_, 1) := by decide +kernel
theorem dX5_takeIn_0 : decode cX5_takeIn 0 = .ok (.aload_n 0, 1) := by decide +kernel
theorem dX5_takeIn_1 : decode cX5_takeIn 1 = .ok (.getfield 44, 3) := by decide +kernel
theorem dX5_takeIn_4 : decode cX5_takeIn 4 = .ok (.istore_n 2, 1) := by decide +kernel
theorem dX5_takeIn_5 : decode cX5_takeIn 5 = .ok (.aload_n 0, 1) := by decide +kernel
theorem dX5_takeIn_6 : decode cX5_takeIn 6 = .ok (.getfield 48, 3) := by decide +kernel
theorem dX5_takeIn_9 : decode cX5_takeIn 9 = .ok (.istore_n 3, 1) := by decide +kernel
theorem dX5_takeIn_10 : decode cX5_takeIn 10 = .ok (.aload_n 0, 1) := by decide +kernel
theorem dX5_takeIn_11 : decode cX5_takeIn 11 = .ok (.dup, 1) := by decide +kernel
theorem dX5_takeIn_12 : decode cX5_takeIn 12 = .ok (.getfield 44, 3) := by decide +kernel
theorem dX5_takeIn_15 : decode cX5_takeIn 15 = .ok (.aload_n 1, 1) := by decide +kernel
theorem dX5_takeIn_16 : decode cX5_takeIn 16 = .ok (.getfield 44, 3) := by decide +kernel
theorem dX5_takeIn_19 : decode cX5_takeIn 19 = .ok (.iconst 1, 1) := by decide +kernel
theorem dX5_takeIn_20 : decode cX5_takeIn 20 = .ok (.isub, 1) := by decide +kernel
theorem dX5_takeIn_21 : decode cX5_takeIn 21 = .ok (.iadd, 1) := by decide +kernel
theorem dX5_takeIn_22 : decode cX5_takeIn 22 = .ok (.putfield 44, 3) := by decide +kernel
theorem dX5_takeIn_25 : decode cX5_takeIn 25 = .ok (.iconst 0, 1) := by decide +kernel
theorem dX5_takeIn_26 : decode cX5_takeIn 26 = .ok (.istore 4, 2) := by decide +kernel
theorem dX5_takeIn_28 : decode cX5_takeIn 28 = .ok (.iload 4, 2) := by decide +kernel
theorem dX5_takeIn_30 : decode cX5_takeIn 30 = .ok (.aload_n 1, 1) := by decide +kernel
theorem dX5_takeIn_31 : decode cX5_takeIn 31 = .ok (.getfield 48, 3) := by decide +kernel
theorem dX5_takeIn_34 : decode cX5_takeIn 34 = .ok (.if_icmp .ge 35, 3) := by decide +kernel
theorem dX5_takeIn_37 : decode cX5_takeIn 37 = .ok (.aload_n 0, 1) := by decide +kernel
theorem dX5_takeIn_38 : decode cX5_takeIn 38 = .ok (.aload_n 1, 1) := by decide +kernel
theorem dX5_takeIn_39 : decode cX5_takeIn 39 = .ok (.getfield 9, 3) := by decide +kernel
theorem dX5_takeIn_42 : decode cX5_takeIn 42 = .ok (.iload 4, 2) := by decide +kernel
theorem dX5_takeIn_44 : decode cX5_takeIn 44 = .ok (.iaload, 1) := by decide +kernel
theorem dX5_takeIn_45 : decode cX5_takeIn 45 = .ok (.iload_n 2, 1) := by decide +kernel
theorem dX5_takeIn_46 : decode cX5_takeIn 46 = .ok (.invokestatic 95, 3) := by decide +kernel
theorem dX5_takeIn_49 : decode cX5_takeIn 49 = .ok (.aload_n 1, 1) := by decide +kernel
theorem dX5_takeIn_50 : decode cX5_takeIn 50 = .ok (.getfield 15, 3) := by decide +kernel
theorem dX5_takeIn_53 : decode cX5_takeIn 53 = .ok (.iload 4, 2) := by decide +kernel
theorem dX5_takeIn_55 : decode cX5_takeIn 55 = .ok (.iaload, 1) := by decide +kernel
theorem dX5_takeIn_56 : decode cX5_takeIn 56 = .ok (.iload_n 2, 1) := by decide +kernel
theorem dX5_takeIn_57 : decode cX5_takeIn 57 = .ok (.invokestatic 95, 3) := by decide +kernel
theorem dX5_takeIn_60 : decode cX5_takeIn 60 = .ok (.invokevirtual 98, 3) := by decide +kernel
theorem dX5_takeIn_63 : decode cX5_takeIn 63 = .ok (.iinc 4 1, 3) := by decide +kernel
theorem dX5_takeIn_66 : decode cX5_takeIn 66 = .ok (.goto (-38), 3) := by decide +kernel
theorem dX5_takeIn_69 : decode cX5_takeIn 69 = .ok (.iconst 0, 1) := by decide +kernel
theorem dX5_takeIn_70 : decode cX5_takeIn 70 = .ok (.istore 4, 2) := by decide +kernel
theorem dX5_takeIn_72 : decode cX5_takeIn 72 = .ok (.iload 4, 2) := by decide +kernel
theorem dX5_takeIn_74 : decode cX5_takeIn 74 = .ok (.aload_n 1, 1) := by decide +kernel
theorem dX5_takeIn_75 : decode cX5_takeIn 75 = .ok (.getfield 51, 3) := by decide +kernel
theorem dX5_takeIn_78 : decode cX5_takeIn 78 = .ok (.if_icmp .ge 87, 3) := by decide +kernel
theorem dX5_takeIn_81 : decode cX5_takeIn 81 = .ok (.aload_n 0, 1) := by decide +kernel
theorem dX5_takeIn_82 : decode cX5_takeIn 82 = .ok (.getfield 51, 3) := by decide +kernel
theorem dX5_takeIn_85 : decode cX5_takeIn 85 = .ok (.bipush 8, 2) := by decide +kernel
theorem dX5_takeIn_87 : decode cX5_takeIn 87 = .ok (.imul, 1) := by decide +kernel
theorem dX5_takeIn_88 : decode cX5_takeIn 88 = .ok (.istore 5, 2) := by decide +kernel
theorem dX5_takeIn_90 : decode cX5_takeIn 90 = .ok (.iconst 0, 1) := by decide +kernel
theorem dX5_takeIn_91 : decode cX5_takeIn 91 = .ok (.istore 6, 2) := by decide +kernel
theorem dX5_takeIn_93 : decode cX5_takeIn 93 = .ok (.iload 6, 2) := by decide +kernel
theorem dX5_takeIn_95 : decode cX5_takeIn 95 = .ok (.aload_n 1, 1) := by decide +kernel
theorem dX5_takeIn_96 : decode cX5_takeIn 96 = .ok (.getfield 28, 3) := by decide +kernel
theorem dX5_takeIn_99 : decode cX5_takeIn 99 = .ok (.iload 4, 2) := by decide +kernel
theorem dX5_takeIn_101 : decode cX5_takeIn 101 = .ok (.iaload, 1) := by decide +kernel
theorem dX5_takeIn_102 : decode cX5_takeIn 102 = .ok (.if_icmp .ge 31, 3) := by decide +kernel
theorem dX5_takeIn_105 : decode cX5_takeIn 105 = .ok (.aload_n 0, 1) := by decide +kernel
theorem dX5_takeIn_106 : decode cX5_takeIn 106 = .ok (.getfield 25, 3) := by decide +kernel
theorem dX5_takeIn_109 : decode cX5_takeIn 109 = .ok (.iload 5, 2) := by decide +kernel
theorem dX5_takeIn_111 : decode cX5_takeIn 111 = .ok (.iload 6, 2) := by decide +kernel
theorem dX5_takeIn_113 : decode cX5_takeIn 113 = .ok (.iadd, 1) := by decide +kernel
theorem dX5_takeIn_114 : decode cX5_takeIn 114 = .ok (.aload_n 1, 1) := by decide +kernel
theorem dX5_takeIn_115 : decode cX5_takeIn 115 = .ok (.iload 4, 2) := by decide +kernel
theorem dX5_takeIn_117 : decode cX5_takeIn 117 = .ok (.iload 6, 2) := by decide +kernel
theorem dX5_takeIn_119 : decode cX5_takeIn 119 = .ok (.invokevirtual 60, 3) := by decide +kernel
theorem dX5_takeIn_122 : decode cX5_takeIn 122 = .ok (.iconst 2, 1) := by decide +kernel
theorem dX5_takeIn_123 : decode cX5_takeIn 123 = .ok (.iload_n 3, 1) := by decide +kernel
theorem dX5_takeIn_124 : decode cX5_takeIn 124 = .ok (.imul, 1) := by decide +kernel
theorem dX5_takeIn_125 : decode cX5_takeIn 125 = .ok (.iadd, 1) := by decide +kernel
theorem dX5_takeIn_126 : decode cX5_takeIn 126 = .ok (.iastore, 1) := by decide +kernel
theorem dX5_takeIn_127 : decode cX5_takeIn 127 = .ok (.iinc 6 1, 3) := by decide +kernel
theorem dX5_takeIn_130 : decode cX5_takeIn 130 = .ok (.goto (-37), 3) := by decide +kernel
theorem dX5_takeIn_133 : decode cX5_takeIn 133 = .ok (.aload_n 0, 1) := by decide +kernel
theorem dX5_takeIn_134 : decode cX5_takeIn 134 = .ok (.getfield 28, 3) := by decide +kernel
theorem dX5_takeIn_137 : decode cX5_takeIn 137 = .ok (.aload_n 0, 1) := by decide +kernel
theorem dX5_takeIn_138 : decode cX5_takeIn 138 = .ok (.getfield 51, 3) := by decide +kernel
theorem dX5_takeIn_141 : decode cX5_takeIn 141 = .ok (.aload_n 1, 1) := by decide +kernel
theorem dX5_takeIn_142 : decode cX5_takeIn 142 = .ok (.getfield 28, 3) := by decide +kernel
theorem dX5_takeIn_145 : decode cX5_takeIn 145 = .ok (.iload 4, 2) := by decide +kernel
theorem dX5_takeIn_147 : decode cX5_takeIn 147 = .ok (.iaload, 1) := by decide +kernel
theorem dX5_takeIn_148 : decode cX5_takeIn 148 = .ok (.iastore, 1) := by decide +kernel
theorem dX5_takeIn_149 : decode cX5_takeIn 149 = .ok (.aload_n 0, 1) := by decide +kernel
theorem dX5_takeIn_150 : decode cX5_takeIn 150 = .ok (.dup, 1) := by decide +kernel
theorem dX5_takeIn_151 : decode cX5_takeIn 151 = .ok (.getfield 51, 3) := by decide +kernel
theorem dX5_takeIn_154 : decode cX5_takeIn 154 = .ok (.iconst 1, 1) := by decide +kernel
theorem dX5_takeIn_155 : decode cX5_takeIn 155 = .ok (.iadd, 1) := by decide +kernel
theorem dX5_takeIn_156 : decode cX5_takeIn 156 = .ok (.putfield 51, 3) := by decide +kernel
theorem dX5_takeIn_159 : decode cX5_takeIn 159 = .ok (.iinc 4 1, 3) := by decide +kernel
theorem dX5_takeIn_162 : decode cX5_takeIn 162 = .ok (.goto (-90), 3) := by decide +kernel
theorem dX5_takeIn_165 : decode cX5_takeIn 165 = .ok (.return_, 1) := by decide +kernel
theorem dX5_joined_0 : decode cX5_joined 0 = .ok (.iload_n 0, 1) := by decide +kernel
theorem dX5_joined_1 : decode cX5_joined 1 = .ok (.ifCond .ne 7, 3) := by decide +kernel
theorem dX5_joined_4 : decode cX5_joined 4 = .ok (.iconst 0, 1) := by decide +kernel
theorem dX5_joined_5 : decode cX5_joined 5 = .ok (.goto 8, 3) := by decide +kernel
theorem dX5_joined_8 : decode cX5_joined 8 = .ok (.iload_n 1, 1) := by decide +kernel
theorem dX5_joined_9 : decode cX5_joined 9 = .ok (.iload_n 0, 1) := by decide +kernel
theorem dX5_joined_10 : decode cX5_joined 10 = .ok (.iadd, 1) := by decide +kernel
theorem dX5_joined_11 : decode cX5_joined 11 = .ok (.iconst 1, 1) := by decide +kernel
theorem dX5_joined_12 : decode cX5_joined 12 = .ok (.isub, 1) := by decide +kernel
theorem dX5_joined_13 : decode cX5_joined 13 = .ok (.ireturn, 1) := by decide +kernel
theorem dX6_init_0 : decode cX6_init 0 = .ok (.aload_n 0, 1) := by decide +kernel
theorem dX6_init_1 : decode cX6_init 1 = .ok (.invokespecial 3, 3) := by decide +kernel
theorem dX6_init_4 : decode cX6_init 4 = .ok (.aload_n 0, 1) := by decide +kernel
theorem dX6_init_5 : decode cX6_init 5 = .ok (.bipush 12, 2) := by decide +kernel
theorem dX6_init_7 : decode cX6_init 7 = .ok (.newarray .int, 2) := by decide +kernel
theorem dX6_init_9 : decode cX6_init 9 = .ok (.putfield 9, 3) := by decide +kernel
theorem dX6_init_12 : decode cX6_init 12 = .ok (.aload_n 0, 1) := by decide +kernel
theorem dX6_init_13 : decode cX6_init 13 = .ok (.bipush 64, 2) := by decide +kernel
theorem dX6_init_15 : decode cX6_init 15 = .ok (.newarray .int, 2) := by decide +kernel
theorem dX6_init_17 : decode cX6_init 17 = .ok (.putfield 15, 3) := by decide +kernel
theorem dX6_init_20 : decode cX6_init 20 = .ok (.aload_n 0, 1) := by decide +kernel
theorem dX6_init_21 : decode cX6_init 21 = .ok (.bipush 8, 2) := by decide +kernel
theorem dX6_init_23 : decode cX6_init 23 = .ok (.newarray .int, 2) := by decide +kernel
theorem dX6_init_25 : decode cX6_init 25 = .ok (.putfield 18, 3) := by decide +kernel
theorem dX6_init_28 : decode cX6_init 28 = .ok (.aload_n 0, 1) := by decide +kernel
theorem dX6_init_29 : decode cX6_init 29 = .ok (.bipush 8, 2) := by decide +kernel
theorem dX6_init_31 : decode cX6_init 31 = .ok (.newarray .int, 2) := by decide +kernel
theorem dX6_init_33 : decode cX6_init 33 = .ok (.putfield 21, 3) := by decide +kernel
theorem dX6_init_36 : decode cX6_init 36 = .ok (.aload_n 0, 1) := by decide +kernel
theorem dX6_init_37 : decode cX6_init 37 = .ok (.bipush 16, 2) := by decide +kernel
theorem dX6_init_39 : decode cX6_init 39 = .ok (.newarray .int, 2) := by decide +kernel
theorem dX6_init_41 : decode cX6_init 41 = .ok (.putfield 24, 3) := by decide +kernel
theorem dX6_init_44 : decode cX6_init 44 = .ok (.return_, 1) := by decide +kernel
theorem dX6_isMany_0 : decode cX6_isMany 0 = .ok (.iconst 1, 1) := by decide +kernel
theorem dX6_isMany_1 : decode cX6_isMany 1 = .ok (.istore_n 3, 1) := by decide +kernel
theorem dX6_isMany_2 : decode cX6_isMany 2 = .ok (.iconst 0, 1) := by decide +kernel
theorem dX6_isMany_3 : decode cX6_isMany 3 = .ok (.istore 4, 2) := by decide +kernel
theorem dX6_isMany_5 : decode cX6_isMany 5 = .ok (.iload 4, 2) := by decide +kernel
theorem dX6_isMany_7 : decode cX6_isMany 7 = .ok (.aload_n 1, 1) := by decide +kernel
theorem dX6_isMany_8 : decode cX6_isMany 8 = .ok (.getfield 27, 3) := by decide +kernel
theorem dX6_isMany_11 : decode cX6_isMany 11 = .ok (.if_icmp .ge 23, 3) := by decide +kernel
theorem dX6_isMany_14 : decode cX6_isMany 14 = .ok (.iload_n 3, 1) := by decide +kernel
theorem dX6_isMany_15 : decode cX6_isMany 15 = .ok (.sipush 20000, 3) := by decide +kernel
theorem dX6_isMany_18 : decode cX6_isMany 18 = .ok (.if_icmp .gt 16, 3) := by decide +kernel
theorem dX6_isMany_21 : decode cX6_isMany 21 = .ok (.iload_n 3, 1) := by decide +kernel
theorem dX6_isMany_22 : decode cX6_isMany 22 = .ok (.aload_n 2, 1) := by decide +kernel
theorem dX6_isMany_23 : decode cX6_isMany 23 = .ok (.getfield 33, 3) := by decide +kernel
theorem dX6_isMany_26 : decode cX6_isMany 26 = .ok (.imul, 1) := by decide +kernel
theorem dX6_isMany_27 : decode cX6_isMany 27 = .ok (.istore_n 3, 1) := by decide +kernel
theorem dX6_isMany_28 : decode cX6_isMany 28 = .ok (.iinc 4 1, 3) := by decide +kernel
theorem dX6_isMany_31 : decode cX6_isMany 31 = .ok (.goto (-26), 3) := by decide +kernel
theorem dX6_isMany_34 : decode cX6_isMany 34 = .ok (.iload_n 3, 1) := by decide +kernel
theorem dX6_isMany_35 : decode cX6_isMany 35 = .ok (.sipush 20000, 3) := by decide +kernel
theorem dX6_isMany_38 : decode cX6_isMany 38 = .ok (.if_icmp .le 7, 3) := by decide +kernel
theorem dX6_isMany_41 : decode cX6_isMany 41 = .ok (.iconst 1, 1) := by decide +kernel
theorem dX6_isMany_42 : decode cX6_isMany 42 = .ok (.goto 4, 3) := by decide +kernel
theorem dX6_isMany_45 : decode cX6_isMany 45 = .ok (.iconst 0, 1) := by decide +kernel
theorem dX6_isMany_46 : decode cX6_isMany 46 = .ok (.ireturn, 1) := by decide +kernel
theorem dX6_begin_0 : decode cX6_begin 0 = .ok (.aload_n 0, 1) := by decide +kernel
theorem dX6_begin_1 : decode cX6_begin 1 = .ok (.aload_n 2, 1) := by decide +kernel
theorem dX6_begin_2 : decode cX6_begin 2 = .ok (.putfield 38, 3) := by decide +kernel
theorem dX6_begin_5 : decode cX6_begin 5 = .ok (.aload_n 0, 1) := by decide +kernel
theorem dX6_begin_6 : decode cX6_begin 6 = .ok (.aload_n 1, 1) := by decide +kernel
theorem dX6_begin_7 : decode cX6_begin 7 = .ok (.getfield 27, 3) := by decide +kernel
theorem dX6_begin_10 : decode cX6_begin 10 = .ok (.putfield 42, 3) := by decide +kernel
theorem dX6_begin_13 : decode cX6_begin 13 = .ok (.aload_n 0, 1) := by decide +kernel
theorem dX6_begin_14 : decode cX6_begin 14 = .ok (.iconst 0, 1) := by decide +kernel
theorem dX6_begin_15 : decode cX6_begin 15 = .ok (.putfield 43, 3) := by decide +kernel
theorem dX6_begin_18 : decode cX6_begin 18 = .ok (.aload_n 0, 1) := by decide +kernel
theorem dX6_begin_19 : decode cX6_begin 19 = .ok (.iconst 0, 1) := by decide +kernel
theorem dX6_begin_20 : decode cX6_begin 20 = .ok (.putfield 46, 3) := by decide +kernel
theorem dX6_begin_23 : decode cX6_begin 23 = .ok (.aload_n 0, 1) := by decide +kernel
theorem dX6_begin_24 : decode cX6_begin 24 = .ok (.getfield 9, 3) := by decide +kernel
theorem dX6_begin_27 : decode cX6_begin 27 = .ok (.iconst 0, 1) := by decide +kernel
theorem dX6_begin_28 : decode cX6_begin 28 = .ok (.iconst (-1), 1) := by decide +kernel
theorem dX6_begin_29 : decode cX6_begin 29 = .ok (.iastore, 1) := by decide +kernel
theorem dX6_begin_30 : decode cX6_begin 30 = .ok (.aload_n 0, 1) := by decide +kernel
theorem dX6_begin_31 : decode cX6_begin 31 = .ok (.iconst 0, 1) := by decide +kernel
theorem dX6_begin_32 : decode cX6_begin 32 = .ok (.putfield 50, 3) := by decide +kernel
theorem dX6_begin_35 : decode cX6_begin 35 = .ok (.iconst 0, 1) := by decide +kernel
theorem dX6_begin_36 : decode cX6_begin 36 = .ok (.istore_n 3, 1) := by decide +kernel
theorem dX6_begin_37 : decode cX6_begin 37 = .ok (.iload_n 3, 1) := by decide +kernel
theorem dX6_begin_38 : decode cX6_begin 38 = .ok (.aload_n 1, 1) := by decide +kernel
theorem dX6_begin_39 : decode cX6_begin 39 = .ok (.getfield 53, 3) := by decide +kernel
theorem dX6_begin_42 : decode cX6_begin 42 = .ok (.if_icmp .ge 23, 3) := by decide +kernel
theorem dX6_begin_45 : decode cX6_begin 45 = .ok (.aload_n 1, 1) := by decide +kernel
theorem dX6_begin_46 : decode cX6_begin 46 = .ok (.iload_n 3, 1) := by decide +kernel
theorem dX6_begin_47 : decode cX6_begin 47 = .ok (.invokevirtual 54, 3) := by decide +kernel
theorem dX6_begin_50 : decode cX6_begin 50 = .ok (.ifCond .eq 9, 3) := by decide +kernel
theorem dX6_begin_53 : decode cX6_begin 53 = .ok (.aload_n 0, 1) := by decide +kernel
theorem dX6_begin_54 : decode cX6_begin 54 = .ok (.aload_n 1, 1) := by decide +kernel
theorem dX6_begin_55 : decode cX6_begin 55 = .ok (.iload_n 3, 1) := by decide +kernel
theorem dX6_begin_56 : decode cX6_begin 56 = .ok (.invokevirtual 58, 3) := by decide +kernel
theorem dX6_begin_59 : decode cX6_begin 59 = .ok (.iinc 3 1, 3) := by decide +kernel
theorem dX6_begin_62 : decode cX6_begin 62 = .ok (.goto (-25), 3) := by decide +kernel
theorem dX6_begin_65 : decode cX6_begin 65 = .ok (.return_, 1) := by decide +kernel
theorem dX6_takeRim_0 : decode cX6_takeRim 0 = .ok (.iconst 0, 1) := by decide +kernel
theorem dX6_takeRim_1 : decode cX6_takeRim 1 = .ok (.istore_n 3, 1) := by decide +kernel
theorem dX6_takeRim_2 : decode cX6_takeRim 2 = .ok (.iconst (-1), 1) := by decide +kernel
theorem dX6_takeRim_3 : decode cX6_takeRim 3 = .ok (.istore 4, 2) := by decide +kernel
theorem dX6_takeRim_5 : decode cX6_takeRim 5 = .ok (.iconst 0, 1) := by decide +kernel
theorem dX6_takeRim_6 : decode cX6_takeRim 6 = .ok (.istore 5, 2) := by decide +kernel
theorem dX6_takeRim_8 : decode cX6_takeRim 8 = .ok (.iload 5, 2) := by decide +kernel
theorem dX6_takeRim_10 : decode cX6_takeRim 10 = .ok (.aload_n 1, 1) := by decide +kernel
theorem dX6_takeRim_11 : decode cX6_takeRim 11 = .ok (.getfield 62, 3) := by decide +kernel
theorem dX6_takeRim_14 : decode cX6_takeRim 14 = .ok (.iload_n 2, 1) := by decide +kernel
theorem dX6_takeRim_15 : decode cX6_takeRim 15 = .ok (.iaload, 1) := by decide +kernel
theorem dX6_takeRim_16 : decode cX6_takeRim 16 = .ok (.if_icmp .ge 69, 3) := by decide +kernel
theorem dX6_takeRim_19 : decode cX6_takeRim 19 = .ok (.aload_n 1, 1) := by decide +kernel
theorem dX6_takeRim_20 : decode cX6_takeRim 20 = .ok (.iload_n 2, 1) := by decide +kernel
theorem dX6_takeRim_21 : decode cX6_takeRim 21 = .ok (.iload 5, 2) := by decide +kernel
theorem dX6_takeRim_23 : decode cX6_takeRim 23 = .ok (.invokevirtual 63, 3) := by decide +kernel
theorem dX6_takeRim_26 : decode cX6_takeRim 26 = .ok (.istore 6, 2) := by decide +kernel
theorem dX6_takeRim_28 : decode cX6_takeRim 28 = .ok (.aload_n 1, 1) := by decide +kernel
theorem dX6_takeRim_29 : decode cX6_takeRim 29 = .ok (.getfield 67, 3) := by decide +kernel
theorem dX6_takeRim_32 : decode cX6_takeRim 32 = .ok (.iload 6, 2) := by decide +kernel
theorem dX6_takeRim_34 : decode cX6_takeRim 34 = .ok (.iconst 1, 1) := by decide +kernel
theorem dX6_takeRim_35 : decode cX6_takeRim 35 = .ok (.ishr, 1) := by decide +kernel
theorem dX6_takeRim_36 : decode cX6_takeRim 36 = .ok (.iaload, 1) := by decide +kernel
theorem dX6_takeRim_37 : decode cX6_takeRim 37 = .ok (.istore 7, 2) := by decide +kernel
theorem dX6_takeRim_39 : decode cX6_takeRim 39 = .ok (.iload 7, 2) := by decide +kernel
theorem dX6_takeRim_41 : decode cX6_takeRim 41 = .ok (.ifCond .lt 38, 3) := by decide +kernel
theorem dX6_takeRim_44 : decode cX6_takeRim 44 = .ok (.aload_n 0, 1) := by decide +kernel
theorem dX6_takeRim_45 : decode cX6_takeRim 45 = .ok (.getfield 15, 3) := by decide +kernel
theorem dX6_takeRim_48 : decode cX6_takeRim 48 = .ok (.aload_n 0, 1) := by decide +kernel
theorem dX6_takeRim_49 : decode cX6_takeRim 49 = .ok (.getfield 50, 3) := by decide +kernel
theorem dX6_takeRim_52 : decode cX6_takeRim 52 = .ok (.bipush 8, 2) := by decide +kernel
theorem dX6_takeRim_54 : decode cX6_takeRim 54 = .ok (.imul, 1) := by decide +kernel
theorem dX6_takeRim_55 : decode cX6_takeRim 55 = .ok (.iload_n 3, 1) := by decide +kernel
theorem dX6_takeRim_56 : decode cX6_takeRim 56 = .ok (.iadd, 1) := by decide +kernel
theorem dX6_takeRim_57 : decode cX6_takeRim 57 = .ok (.iconst 2, 1) := by decide +kernel
theorem dX6_takeRim_58 : decode cX6_takeRim 58 = .ok (.iload 7, 2) := by decide +kernel
theorem dX6_takeRim_60 : decode cX6_takeRim 60 = .ok (.imul, 1) := by decide +kernel
theorem dX6_takeRim_61 : decode cX6_takeRim 61 = .ok (.iload 6, 2) := by decide +kernel
theorem dX6_takeRim_63 : decode cX6_takeRim 63 = .ok (.iconst 1, 1) := by decide +kernel
theorem dX6_takeRim_64 : decode cX6_takeRim 64 = .ok (.iand, 1) := by decide +kernel
theorem dX6_takeRim_65 : decode cX6_takeRim 65 = .ok (.iadd, 1) := by decide +kernel
