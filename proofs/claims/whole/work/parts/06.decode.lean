theorem dX6_takeRim_66 : decode cX6_takeRim 66 = .ok (.iastore, 1) := by decide +kernel
theorem dX6_takeRim_67 : decode cX6_takeRim 67 = .ok (.iinc 3 1, 3) := by decide +kernel
theorem dX6_takeRim_70 : decode cX6_takeRim 70 = .ok (.iload 4, 2) := by decide +kernel
theorem dX6_takeRim_72 : decode cX6_takeRim 72 = .ok (.iload 7, 2) := by decide +kernel
theorem dX6_takeRim_74 : decode cX6_takeRim 74 = .ok (.invokestatic 70, 3) := by decide +kernel
theorem dX6_takeRim_77 : decode cX6_takeRim 77 = .ok (.istore 4, 2) := by decide +kernel
theorem dX6_takeRim_79 : decode cX6_takeRim 79 = .ok (.iinc 5 1, 3) := by decide +kernel
theorem dX6_takeRim_82 : decode cX6_takeRim 82 = .ok (.goto (-74), 3) := by decide +kernel
theorem dX6_takeRim_85 : decode cX6_takeRim 85 = .ok (.aload_n 0, 1) := by decide +kernel
theorem dX6_takeRim_86 : decode cX6_takeRim 86 = .ok (.getfield 18, 3) := by decide +kernel
theorem dX6_takeRim_89 : decode cX6_takeRim 89 = .ok (.aload_n 0, 1) := by decide +kernel
theorem dX6_takeRim_90 : decode cX6_takeRim 90 = .ok (.getfield 50, 3) := by decide +kernel
theorem dX6_takeRim_93 : decode cX6_takeRim 93 = .ok (.iload_n 3, 1) := by decide +kernel
theorem dX6_takeRim_94 : decode cX6_takeRim 94 = .ok (.iastore, 1) := by decide +kernel
theorem dX6_takeRim_95 : decode cX6_takeRim 95 = .ok (.aload_n 0, 1) := by decide +kernel
theorem dX6_takeRim_96 : decode cX6_takeRim 96 = .ok (.getfield 21, 3) := by decide +kernel
theorem dX6_takeRim_99 : decode cX6_takeRim 99 = .ok (.aload_n 0, 1) := by decide +kernel
theorem dX6_takeRim_100 : decode cX6_takeRim 100 = .ok (.getfield 50, 3) := by decide +kernel
theorem dX6_takeRim_103 : decode cX6_takeRim 103 = .ok (.iload 4, 2) := by decide +kernel
theorem dX6_takeRim_105 : decode cX6_takeRim 105 = .ok (.iastore, 1) := by decide +kernel
theorem dX6_takeRim_106 : decode cX6_takeRim 106 = .ok (.aload_n 0, 1) := by decide +kernel
theorem dX6_takeRim_107 : decode cX6_takeRim 107 = .ok (.dup, 1) := by decide +kernel
theorem dX6_takeRim_108 : decode cX6_takeRim 108 = .ok (.getfield 50, 3) := by decide +kernel
theorem dX6_takeRim_111 : decode cX6_takeRim 111 = .ok (.iconst 1, 1) := by decide +kernel
theorem dX6_takeRim_112 : decode cX6_takeRim 112 = .ok (.iadd, 1) := by decide +kernel
theorem dX6_takeRim_113 : decode cX6_takeRim 113 = .ok (.putfield 50, 3) := by decide +kernel
theorem dX6_takeRim_116 : decode cX6_takeRim 116 = .ok (.return_, 1) := by decide +kernel
theorem dX6_findNext_0 : decode cX6_findNext 0 = .ok (.aload_n 0, 1) := by decide +kernel
theorem dX6_findNext_1 : decode cX6_findNext 1 = .ok (.getfield 42, 3) := by decide +kernel
theorem dX6_findNext_4 : decode cX6_findNext 4 = .ok (.ifCond .ne 23, 3) := by decide +kernel
theorem dX6_findNext_7 : decode cX6_findNext 7 = .ok (.aload_n 0, 1) := by decide +kernel
theorem dX6_findNext_8 : decode cX6_findNext 8 = .ok (.getfield 46, 3) := by decide +kernel
theorem dX6_findNext_11 : decode cX6_findNext 11 = .ok (.ifCond .ne 7, 3) := by decide +kernel
theorem dX6_findNext_14 : decode cX6_findNext 14 = .ok (.iconst 1, 1) := by decide +kernel
theorem dX6_findNext_15 : decode cX6_findNext 15 = .ok (.goto 4, 3) := by decide +kernel
theorem dX6_findNext_18 : decode cX6_findNext 18 = .ok (.iconst 0, 1) := by decide +kernel
theorem dX6_findNext_19 : decode cX6_findNext 19 = .ok (.istore_n 2, 1) := by decide +kernel
theorem dX6_findNext_20 : decode cX6_findNext 20 = .ok (.aload_n 0, 1) := by decide +kernel
theorem dX6_findNext_21 : decode cX6_findNext 21 = .ok (.iconst 1, 1) := by decide +kernel
theorem dX6_findNext_22 : decode cX6_findNext 22 = .ok (.putfield 46, 3) := by decide +kernel
theorem dX6_findNext_25 : decode cX6_findNext 25 = .ok (.iload_n 2, 1) := by decide +kernel
theorem dX6_findNext_26 : decode cX6_findNext 26 = .ok (.ireturn, 1) := by decide +kernel
theorem dX6_findNext_27 : decode cX6_findNext 27 = .ok (.iconst 0, 1) := by decide +kernel
theorem dX6_findNext_28 : decode cX6_findNext 28 = .ok (.istore_n 2, 1) := by decide +kernel
theorem dX6_findNext_29 : decode cX6_findNext 29 = .ok (.iload_n 2, 1) := by decide +kernel
theorem dX6_findNext_30 : decode cX6_findNext 30 = .ok (.ldc 75, 2) := by decide +kernel
theorem dX6_findNext_32 : decode cX6_findNext 32 = .ok (.if_icmp .ge 114, 3) := by decide +kernel
theorem dX6_findNext_35 : decode cX6_findNext 35 = .ok (.aload_n 0, 1) := by decide +kernel
theorem dX6_findNext_36 : decode cX6_findNext 36 = .ok (.getfield 43, 3) := by decide +kernel
theorem dX6_findNext_39 : decode cX6_findNext 39 = .ok (.ifCond .lt 107, 3) := by decide +kernel
theorem dX6_findNext_42 : decode cX6_findNext 42 = .ok (.aload_n 0, 1) := by decide +kernel
theorem dX6_findNext_43 : decode cX6_findNext 43 = .ok (.getfield 9, 3) := by decide +kernel
theorem dX6_findNext_46 : decode cX6_findNext 46 = .ok (.aload_n 0, 1) := by decide +kernel
theorem dX6_findNext_47 : decode cX6_findNext 47 = .ok (.getfield 43, 3) := by decide +kernel
theorem dX6_findNext_50 : decode cX6_findNext 50 = .ok (.dup2, 1) := by decide +kernel
theorem dX6_findNext_51 : decode cX6_findNext 51 = .ok (.iaload, 1) := by decide +kernel
theorem dX6_findNext_52 : decode cX6_findNext 52 = .ok (.iconst 1, 1) := by decide +kernel
theorem dX6_findNext_53 : decode cX6_findNext 53 = .ok (.iadd, 1) := by decide +kernel
theorem dX6_findNext_54 : decode cX6_findNext 54 = .ok (.iastore, 1) := by decide +kernel
theorem dX6_findNext_55 : decode cX6_findNext 55 = .ok (.aload_n 0, 1) := by decide +kernel
theorem dX6_findNext_56 : decode cX6_findNext 56 = .ok (.getfield 9, 3) := by decide +kernel
theorem dX6_findNext_59 : decode cX6_findNext 59 = .ok (.aload_n 0, 1) := by decide +kernel
theorem dX6_findNext_60 : decode cX6_findNext 60 = .ok (.getfield 43, 3) := by decide +kernel
theorem dX6_findNext_63 : decode cX6_findNext 63 = .ok (.iaload, 1) := by decide +kernel
theorem dX6_findNext_64 : decode cX6_findNext 64 = .ok (.aload_n 0, 1) := by decide +kernel
theorem dX6_findNext_65 : decode cX6_findNext 65 = .ok (.getfield 38, 3) := by decide +kernel
theorem dX6_findNext_68 : decode cX6_findNext 68 = .ok (.getfield 33, 3) := by decide +kernel
theorem dX6_findNext_71 : decode cX6_findNext 71 = .ok (.if_icmp .lt 16, 3) := by decide +kernel
theorem dX6_findNext_74 : decode cX6_findNext 74 = .ok (.aload_n 0, 1) := by decide +kernel
theorem dX6_findNext_75 : decode cX6_findNext 75 = .ok (.dup, 1) := by decide +kernel
theorem dX6_findNext_76 : decode cX6_findNext 76 = .ok (.getfield 43, 3) := by decide +kernel
theorem dX6_findNext_79 : decode cX6_findNext 79 = .ok (.iconst 1, 1) := by decide +kernel
theorem dX6_findNext_80 : decode cX6_findNext 80 = .ok (.isub, 1) := by decide +kernel
theorem dX6_findNext_81 : decode cX6_findNext 81 = .ok (.putfield 43, 3) := by decide +kernel
theorem dX6_findNext_84 : decode cX6_findNext 84 = .ok (.goto 56, 3) := by decide +kernel
theorem dX6_findNext_87 : decode cX6_findNext 87 = .ok (.aload_n 0, 1) := by decide +kernel
theorem dX6_findNext_88 : decode cX6_findNext 88 = .ok (.invokevirtual 76, 3) := by decide +kernel
theorem dX6_findNext_91 : decode cX6_findNext 91 = .ok (.ifCond .eq 49, 3) := by decide +kernel
theorem dX6_findNext_94 : decode cX6_findNext 94 = .ok (.iload_n 1, 1) := by decide +kernel
theorem dX6_findNext_95 : decode cX6_findNext 95 = .ok (.ifCond .eq 10, 3) := by decide +kernel
theorem dX6_findNext_98 : decode cX6_findNext 98 = .ok (.aload_n 0, 1) := by decide +kernel
theorem dX6_findNext_99 : decode cX6_findNext 99 = .ok (.invokevirtual 80, 3) := by decide +kernel
theorem dX6_findNext_102 : decode cX6_findNext 102 = .ok (.ifCond .eq 38, 3) := by decide +kernel
theorem dX6_findNext_105 : decode cX6_findNext 105 = .ok (.aload_n 0, 1) := by decide +kernel
theorem dX6_findNext_106 : decode cX6_findNext 106 = .ok (.getfield 43, 3) := by decide +kernel
theorem dX6_findNext_109 : decode cX6_findNext 109 = .ok (.aload_n 0, 1) := by decide +kernel
theorem dX6_findNext_110 : decode cX6_findNext 110 = .ok (.getfield 42, 3) := by decide +kernel
theorem dX6_findNext_113 : decode cX6_findNext 113 = .ok (.iconst 1, 1) := by decide +kernel
theorem dX6_findNext_114 : decode cX6_findNext 114 = .ok (.isub, 1) := by decide +kernel
theorem dX6_findNext_115 : decode cX6_findNext 115 = .ok (.if_icmp .ne 5, 3) := by decide +kernel
theorem dX6_findNext_118 : decode cX6_findNext 118 = .ok (.iconst 1, 1) := by decide +kernel
theorem dX6_findNext_119 : decode cX6_findNext 119 = .ok (.ireturn, 1) := by decide +kernel
theorem dX6_findNext_120 : decode cX6_findNext 120 = .ok (.aload_n 0, 1) := by decide +kernel
theorem dX6_findNext_121 : decode cX6_findNext 121 = .ok (.dup, 1) := by decide +kernel
theorem dX6_findNext_122 : decode cX6_findNext 122 = .ok (.getfield 43, 3) := by decide +kernel
theorem dX6_findNext_125 : decode cX6_findNext 125 = .ok (.iconst 1, 1) := by decide +kernel
theorem dX6_findNext_126 : decode cX6_findNext 126 = .ok (.iadd, 1) := by decide +kernel
theorem dX6_findNext_127 : decode cX6_findNext 127 = .ok (.putfield 43, 3) := by decide +kernel
theorem dX6_findNext_130 : decode cX6_findNext 130 = .ok (.aload_n 0, 1) := by decide +kernel
theorem dX6_findNext_131 : decode cX6_findNext 131 = .ok (.getfield 9, 3) := by decide +kernel
theorem dX6_findNext_134 : decode cX6_findNext 134 = .ok (.aload_n 0, 1) := by decide +kernel
theorem dX6_findNext_135 : decode cX6_findNext 135 = .ok (.getfield 43, 3) := by decide +kernel
theorem dX6_findNext_138 : decode cX6_findNext 138 = .ok (.iconst (-1), 1) := by decide +kernel
theorem dX6_findNext_139 : decode cX6_findNext 139 = .ok (.iastore, 1) := by decide +kernel
theorem dX6_findNext_140 : decode cX6_findNext 140 = .ok (.iinc 2 1, 3) := by decide +kernel
theorem dX6_findNext_143 : decode cX6_findNext 143 = .ok (.goto (-114), 3) := by decide +kernel
theorem dX6_findNext_146 : decode cX6_findNext 146 = .ok (.iconst 0, 1) := by decide +kernel
theorem dX6_findNext_147 : decode cX6_findNext 147 = .ok (.ireturn, 1) := by decide +kernel
theorem dX6_findNextLayer_0 : decode cX6_findNextLayer 0 = .ok (.iconst 0, 1) := by decide +kernel
theorem dX6_findNextLayer_1 : decode cX6_findNextLayer 1 = .ok (.istore_n 1, 1) := by decide +kernel
theorem dX6_findNextLayer_2 : decode cX6_findNextLayer 2 = .ok (.iload_n 1, 1) := by decide +kernel
theorem dX6_findNextLayer_3 : decode cX6_findNextLayer 3 = .ok (.ldc 75, 2) := by decide +kernel
theorem dX6_findNextLayer_5 : decode cX6_findNextLayer 5 = .ok (.if_icmp .ge 26, 3) := by decide +kernel
theorem dX6_findNextLayer_8 : decode cX6_findNextLayer 8 = .ok (.aload_n 0, 1) := by decide +kernel
theorem dX6_findNextLayer_9 : decode cX6_findNextLayer 9 = .ok (.iconst 1, 1) := by decide +kernel
theorem dX6_findNextLayer_10 : decode cX6_findNextLayer 10 = .ok (.invokevirtual 83, 3) := by decide +kernel
theorem dX6_findNextLayer_13 : decode cX6_findNextLayer 13 = .ok (.ifCond .eq 18, 3) := by decide +kernel
theorem dX6_findNextLayer_16 : decode cX6_findNextLayer 16 = .ok (.aload_n 0, 1) := by decide +kernel
theorem dX6_findNextLayer_17 : decode cX6_findNextLayer 17 = .ok (.invokevirtual 87, 3) := by decide +kernel
theorem dX6_findNextLayer_20 : decode cX6_findNextLayer 20 = .ok (.ifCond .eq 5, 3) := by decide +kernel
theorem dX6_findNextLayer_23 : decode cX6_findNextLayer 23 = .ok (.iconst 1, 1) := by decide +kernel
theorem dX6_findNextLayer_24 : decode cX6_findNextLayer 24 = .ok (.ireturn, 1) := by decide +kernel
theorem dX6_findNextLayer_25 : decode cX6_findNextLayer 25 = .ok (.iinc 1 1, 3) := by decide +kernel
theorem dX6_findNextLayer_28 : decode cX6_findNextLayer 28 = .ok (.goto (-26), 3) := by decide +kernel
theorem dX6_findNextLayer_31 : decode cX6_findNextLayer 31 = .ok (.iconst 0, 1) := by decide +kernel
theorem dX6_findNextLayer_32 : decode cX6_findNextLayer 32 = .ok (.ireturn, 1) := by decide +kernel
theorem dX6_findLayer_0 : decode cX6_findLayer 0 = .ok (.iconst 0, 1) := by decide +kernel
theorem dX6_findLayer_1 : decode cX6_findLayer 1 = .ok (.istore_n 2, 1) := by decide +kernel
theorem dX6_findLayer_2 : decode cX6_findLayer 2 = .ok (.iload_n 2, 1) := by decide +kernel
theorem dX6_findLayer_3 : decode cX6_findLayer 3 = .ok (.sipush 20000, 3) := by decide +kernel
theorem dX6_findLayer_6 : decode cX6_findLayer 6 = .ok (.if_icmp .ge 23, 3) := by decide +kernel
theorem dX6_findLayer_9 : decode cX6_findLayer 9 = .ok (.aload_n 0, 1) := by decide +kernel
theorem dX6_findLayer_10 : decode cX6_findLayer 10 = .ok (.invokevirtual 90, 3) := by decide +kernel
theorem dX6_findLayer_13 : decode cX6_findLayer 13 = .ok (.ifCond .eq 16, 3) := by decide +kernel
theorem dX6_findLayer_16 : decode cX6_findLayer 16 = .ok (.iload_n 2, 1) := by decide +kernel
theorem dX6_findLayer_17 : decode cX6_findLayer 17 = .ok (.iload_n 1, 1) := by decide +kernel
theorem dX6_findLayer_18 : decode cX6_findLayer 18 = .ok (.if_icmp .ne 5, 3) := by decide +kernel
theorem dX6_findLayer_21 : decode cX6_findLayer 21 = .ok (.iconst 1, 1) := by decide +kernel
theorem dX6_findLayer_22 : decode cX6_findLayer 22 = .ok (.ireturn, 1) := by decide +kernel
theorem dX6_findLayer_23 : decode cX6_findLayer 23 = .ok (.iinc 2 1, 3) := by decide +kernel
theorem dX6_findLayer_26 : decode cX6_findLayer 26 = .ok (.goto (-24), 3) := by decide +kernel
theorem dX6_findLayer_29 : decode cX6_findLayer 29 = .ok (.iconst 0, 1) := by decide +kernel
theorem dX6_findLayer_30 : decode cX6_findLayer 30 = .ok (.ireturn, 1) := by decide +kernel
theorem dX6_doRimsHold_0 : decode cX6_doRimsHold 0 = .ok (.iconst 0, 1) := by decide +kernel
theorem dX6_doRimsHold_1 : decode cX6_doRimsHold 1 = .ok (.istore_n 1, 1) := by decide +kernel
theorem dX6_doRimsHold_2 : decode cX6_doRimsHold 2 = .ok (.iload_n 1, 1) := by decide +kernel
theorem dX6_doRimsHold_3 : decode cX6_doRimsHold 3 = .ok (.aload_n 0, 1) := by decide +kernel
theorem dX6_doRimsHold_4 : decode cX6_doRimsHold 4 = .ok (.getfield 50, 3) := by decide +kernel
theorem dX6_doRimsHold_7 : decode cX6_doRimsHold 7 = .ok (.if_icmp .ge 45, 3) := by decide +kernel
theorem dX6_doRimsHold_10 : decode cX6_doRimsHold 10 = .ok (.aload_n 0, 1) := by decide +kernel
theorem dX6_doRimsHold_11 : decode cX6_doRimsHold 11 = .ok (.getfield 21, 3) := by decide +kernel
theorem dX6_doRimsHold_14 : decode cX6_doRimsHold 14 = .ok (.iload_n 1, 1) := by decide +kernel
theorem dX6_doRimsHold_15 : decode cX6_doRimsHold 15 = .ok (.iaload, 1) := by decide +kernel
theorem dX6_doRimsHold_16 : decode cX6_doRimsHold 16 = .ok (.aload_n 0, 1) := by decide +kernel
theorem dX6_doRimsHold_17 : decode cX6_doRimsHold 17 = .ok (.getfield 43, 3) := by decide +kernel
theorem dX6_doRimsHold_20 : decode cX6_doRimsHold 20 = .ok (.if_icmp .ne 26, 3) := by decide +kernel
theorem dX6_doRimsHold_23 : decode cX6_doRimsHold 23 = .ok (.aload_n 0, 1) := by decide +kernel
theorem dX6_doRimsHold_24 : decode cX6_doRimsHold 24 = .ok (.aload_n 0, 1) := by decide +kernel
theorem dX6_doRimsHold_25 : decode cX6_doRimsHold 25 = .ok (.getfield 15, 3) := by decide +kernel
theorem dX6_doRimsHold_28 : decode cX6_doRimsHold 28 = .ok (.iload_n 1, 1) := by decide +kernel
theorem dX6_doRimsHold_29 : decode cX6_doRimsHold 29 = .ok (.bipush 8, 2) := by decide +kernel
theorem dX6_doRimsHold_31 : decode cX6_doRimsHold 31 = .ok (.imul, 1) := by decide +kernel
theorem dX6_doRimsHold_32 : decode cX6_doRimsHold 32 = .ok (.aload_n 0, 1) := by decide +kernel
theorem dX6_doRimsHold_33 : decode cX6_doRimsHold 33 = .ok (.getfield 18, 3) := by decide +kernel
theorem dX6_doRimsHold_36 : decode cX6_doRimsHold 36 = .ok (.iload_n 1, 1) := by decide +kernel
theorem dX6_doRimsHold_37 : decode cX6_doRimsHold 37 = .ok (.iaload, 1) := by decide +kernel
theorem dX6_doRimsHold_38 : decode cX6_doRimsHold 38 = .ok (.invokevirtual 93, 3) := by decide +kernel
theorem dX6_doRimsHold_41 : decode cX6_doRimsHold 41 = .ok (.ifCond .eq 5, 3) := by decide +kernel
theorem dX6_doRimsHold_44 : decode cX6_doRimsHold 44 = .ok (.iconst 0, 1) := by decide +kernel
theorem dX6_doRimsHold_45 : decode cX6_doRimsHold 45 = .ok (.ireturn, 1) := by decide +kernel
theorem dX6_doRimsHold_46 : decode cX6_doRimsHold 46 = .ok (.iinc 1 1, 3) := by decide +kernel
theorem dX6_doRimsHold_49 : decode cX6_doRimsHold 49 = .ok (.goto (-47), 3) := by decide +kernel
theorem dX6_doRimsHold_52 : decode cX6_doRimsHold 52 = .ok (.iconst 1, 1) := by decide +kernel
theorem dX6_doRimsHold_53 : decode cX6_doRimsHold 53 = .ok (.ireturn, 1) := by decide +kernel
theorem dX6_moveAlong_0 : decode cX6_moveAlong 0 = .ok (.iconst 0, 1) := by decide +kernel
theorem dX6_moveAlong_1 : decode cX6_moveAlong 1 = .ok (.istore 4, 2) := by decide +kernel
theorem dX6_moveAlong_3 : decode cX6_moveAlong 3 = .ok (.iload_n 2, 1) := by decide +kernel
theorem dX6_moveAlong_4 : decode cX6_moveAlong 4 = .ok (.istore 5, 2) := by decide +kernel
theorem dX6_moveAlong_6 : decode cX6_moveAlong 6 = .ok (.iload 5, 2) := by decide +kernel
theorem dX6_moveAlong_8 : decode cX6_moveAlong 8 = .ok (.iload_n 2, 1) := by decide +kernel
theorem dX6_moveAlong_9 : decode cX6_moveAlong 9 = .ok (.iload_n 3, 1) := by decide +kernel
theorem dX6_moveAlong_10 : decode cX6_moveAlong 10 = .ok (.iadd, 1) := by decide +kernel
theorem dX6_moveAlong_11 : decode cX6_moveAlong 11 = .ok (.if_icmp .ge 56, 3) := by decide +kernel
theorem dX6_moveAlong_14 : decode cX6_moveAlong 14 = .ok (.aload_n 0, 1) := by decide +kernel
theorem dX6_moveAlong_15 : decode cX6_moveAlong 15 = .ok (.getfield 9, 3) := by decide +kernel
theorem dX6_moveAlong_18 : decode cX6_moveAlong 18 = .ok (.aload_n 1, 1) := by decide +kernel
theorem dX6_moveAlong_19 : decode cX6_moveAlong 19 = .ok (.iload 5, 2) := by decide +kernel
theorem dX6_moveAlong_21 : decode cX6_moveAlong 21 = .ok (.iaload, 1) := by decide +kernel
theorem dX6_moveAlong_22 : decode cX6_moveAlong 22 = .ok (.iconst 1, 1) := by decide +kernel
theorem dX6_moveAlong_23 : decode cX6_moveAlong 23 = .ok (.ishr, 1) := by decide +kernel
theorem dX6_moveAlong_24 : decode cX6_moveAlong 24 = .ok (.iaload, 1) := by decide +kernel
theorem dX6_moveAlong_25 : decode cX6_moveAlong 25 = .ok (.istore 6, 2) := by decide +kernel
theorem dX6_moveAlong_27 : decode cX6_moveAlong 27 = .ok (.aload_n 0, 1) := by decide +kernel
theorem dX6_moveAlong_28 : decode cX6_moveAlong 28 = .ok (.getfield 38, 3) := by decide +kernel
theorem dX6_moveAlong_31 : decode cX6_moveAlong 31 = .ok (.iload 4, 2) := by decide +kernel
theorem dX6_moveAlong_33 : decode cX6_moveAlong 33 = .ok (.aload_n 1, 1) := by decide +kernel
theorem dX6_moveAlong_34 : decode cX6_moveAlong 34 = .ok (.iload 5, 2) := by decide +kernel
theorem dX6_moveAlong_36 : decode cX6_moveAlong 36 = .ok (.iaload, 1) := by decide +kernel
theorem dX6_moveAlong_37 : decode cX6_moveAlong 37 = .ok (.iconst 1, 1) := by decide +kernel
theorem dX6_moveAlong_38 : decode cX6_moveAlong 38 = .ok (.iand, 1) := by decide +kernel
theorem dX6_moveAlong_39 : decode cX6_moveAlong 39 = .ok (.ifCond .ne 8, 3) := by decide +kernel
theorem dX6_moveAlong_42 : decode cX6_moveAlong 42 = .ok (.iload 6, 2) := by decide +kernel
theorem dX6_moveAlong_44 : decode cX6_moveAlong 44 = .ok (.goto 12, 3) := by decide +kernel
theorem dX6_moveAlong_47 : decode cX6_moveAlong 47 = .ok (.aload_n 0, 1) := by decide +kernel
theorem dX6_moveAlong_48 : decode cX6_moveAlong 48 = .ok (.getfield 38, 3) := by decide +kernel
theorem dX6_moveAlong_51 : decode cX6_moveAlong 51 = .ok (.iload 6, 2) := by decide +kernel
theorem dX6_moveAlong_53 : decode cX6_moveAlong 53 = .ok (.invokevirtual 97, 3) := by decide +kernel
theorem dX6_moveAlong_56 : decode cX6_moveAlong 56 = .ok (.invokevirtual 101, 3) := by decide +kernel
theorem dX6_moveAlong_59 : decode cX6_moveAlong 59 = .ok (.istore 4, 2) := by decide +kernel
theorem dX6_moveAlong_61 : decode cX6_moveAlong 61 = .ok (.iinc 5 1, 3) := by decide +kernel
theorem dX6_moveAlong_64 : decode cX6_moveAlong 64 = .ok (.goto (-58), 3) := by decide +kernel
theorem dX6_moveAlong_67 : decode cX6_moveAlong 67 = .ok (.iload 4, 2) := by decide +kernel
theorem dX6_moveAlong_69 : decode cX6_moveAlong 69 = .ok (.ireturn, 1) := by decide +kernel
theorem dX6_isOne_0 : decode cX6_isOne 0 = .ok (.iconst 1, 1) := by decide +kernel
theorem dX6_isOne_1 : decode cX6_isOne 1 = .ok (.istore_n 1, 1) := by decide +kernel
theorem dX6_isOne_2 : decode cX6_isOne 2 = .ok (.iconst 1, 1) := by decide +kernel
theorem dX6_isOne_3 : decode cX6_isOne 3 = .ok (.istore_n 2, 1) := by decide +kernel
theorem dX6_isOne_4 : decode cX6_isOne 4 = .ok (.iload_n 2, 1) := by decide +kernel
theorem dX6_isOne_5 : decode cX6_isOne 5 = .ok (.aload_n 0, 1) := by decide +kernel
theorem dX6_isOne_6 : decode cX6_isOne 6 = .ok (.getfield 38, 3) := by decide +kernel
theorem dX6_isOne_9 : decode cX6_isOne 9 = .ok (.getfield 104, 3) := by decide +kernel
theorem dX6_isOne_12 : decode cX6_isOne 12 = .ok (.if_icmp .ge 75, 3) := by decide +kernel
theorem dX6_isOne_15 : decode cX6_isOne 15 = .ok (.iconst 0, 1) := by decide +kernel
theorem dX6_isOne_16 : decode cX6_isOne 16 = .ok (.istore_n 3, 1) := by decide +kernel
theorem dX6_isOne_17 : decode cX6_isOne 17 = .ok (.iload_n 3, 1) := by decide +kernel
theorem dX6_isOne_18 : decode cX6_isOne 18 = .ok (.aload_n 0, 1) := by decide +kernel
theorem dX6_isOne_19 : decode cX6_isOne 19 = .ok (.getfield 38, 3) := by decide +kernel
theorem dX6_isOne_22 : decode cX6_isOne 22 = .ok (.getfield 104, 3) := by decide +kernel
theorem dX6_isOne_25 : decode cX6_isOne 25 = .ok (.if_icmp .ge 56, 3) := by decide +kernel
theorem dX6_isOne_28 : decode cX6_isOne 28 = .ok (.iconst 0, 1) := by decide +kernel
theorem dX6_isOne_29 : decode cX6_isOne 29 = .ok (.istore 4, 2) := by decide +kernel
theorem dX6_isOne_31 : decode cX6_isOne 31 = .ok (.iload 4, 2) := by decide +kernel
theorem dX6_isOne_33 : decode cX6_isOne 33 = .ok (.aload_n 0, 1) := by decide +kernel
theorem dX6_isOne_34 : decode cX6_isOne 34 = .ok (.getfield 42, 3) := by decide +kernel
theorem dX6_isOne_37 : decode cX6_isOne 37 = .ok (.if_icmp .ge 38, 3) := by decide +kernel
theorem dX6_isOne_40 : decode cX6_isOne 40 = .ok (.iload_n 1, 1) := by decide +kernel
theorem dX6_isOne_41 : decode cX6_isOne 41 = .ok (.iload_n 3, 1) := by decide +kernel
theorem dX6_isOne_42 : decode cX6_isOne 42 = .ok (.ishr, 1) := by decide +kernel
theorem dX6_isOne_43 : decode cX6_isOne 43 = .ok (.iconst 1, 1) := by decide +kernel
theorem dX6_isOne_44 : decode cX6_isOne 44 = .ok (.iand, 1) := by decide +kernel
theorem dX6_isOne_45 : decode cX6_isOne 45 = .ok (.iconst 1, 1) := by decide +kernel
theorem dX6_isOne_46 : decode cX6_isOne 46 = .ok (.if_icmp .ne 29, 3) := by decide +kernel
theorem dX6_isOne_49 : decode cX6_isOne 49 = .ok (.iload_n 1, 1) := by decide +kernel
theorem dX6_isOne_50 : decode cX6_isOne 50 = .ok (.iconst 1, 1) := by decide +kernel
theorem dX6_isOne_51 : decode cX6_isOne 51 = .ok (.aload_n 0, 1) := by decide +kernel
theorem dX6_isOne_52 : decode cX6_isOne 52 = .ok (.getfield 38, 3) := by decide +kernel
theorem dX6_isOne_55 : decode cX6_isOne 55 = .ok (.aload_n 0, 1) := by decide +kernel
theorem dX6_isOne_56 : decode cX6_isOne 56 = .ok (.getfield 9, 3) := by decide +kernel
theorem dX6_isOne_59 : decode cX6_isOne 59 = .ok (.iload 4, 2) := by decide +kernel
theorem dX6_isOne_61 : decode cX6_isOne 61 = .ok (.iaload, 1) := by decide +kernel
theorem dX6_isOne_62 : decode cX6_isOne 62 = .ok (.iload_n 3, 1) := by decide +kernel
theorem dX6_isOne_63 : decode cX6_isOne 63 = .ok (.invokevirtual 107, 3) := by decide +kernel
theorem dX6_isOne_66 : decode cX6_isOne 66 = .ok (.ishl, 1) := by decide +kernel
theorem dX6_isOne_67 : decode cX6_isOne 67 = .ok (.ior, 1) := by decide +kernel
theorem dX6_isOne_68 : decode cX6_isOne 68 = .ok (.istore_n 1, 1) := by decide +kernel
theorem dX6_isOne_69 : decode cX6_isOne 69 = .ok (.iinc 4 1, 3) := by decide +kernel
theorem dX6_isOne_72 : decode cX6_isOne 72 = .ok (.goto (-41), 3) := by decide +kernel
theorem dX6_isOne_75 : decode cX6_isOne 75 = .ok (.iinc 3 1, 3) := by decide +kernel
theorem dX6_isOne_78 : decode cX6_isOne 78 = .ok (.goto (-61), 3) := by decide +kernel
theorem dX6_isOne_81 : decode cX6_isOne 81 = .ok (.iinc 2 1, 3) := by decide +kernel
theorem dX6_isOne_84 : decode cX6_isOne 84 = .ok (.goto (-80), 3) := by decide +kernel
theorem dX6_isOne_87 : decode cX6_isOne 87 = .ok (.iload_n 1, 1) := by decide +kernel
theorem dX6_isOne_88 : decode cX6_isOne 88 = .ok (.iconst 1, 1) := by decide +kernel
theorem dX6_isOne_89 : decode cX6_isOne 89 = .ok (.aload_n 0, 1) := by decide +kernel
theorem dX6_isOne_90 : decode cX6_isOne 90 = .ok (.getfield 38, 3) := by decide +kernel
theorem dX6_isOne_93 : decode cX6_isOne 93 = .ok (.getfield 104, 3) := by decide +kernel
theorem dX6_isOne_96 : decode cX6_isOne 96 = .ok (.ishl, 1) := by decide +kernel
theorem dX6_isOne_97 : decode cX6_isOne 97 = .ok (.iconst 1, 1) := by decide +kernel
theorem dX6_isOne_98 : decode cX6_isOne 98 = .ok (.isub, 1) := by decide +kernel
theorem dX6_isOne_99 : decode cX6_isOne 99 = .ok (.if_icmp .ne 7, 3) := by decide +kernel
theorem dX6_isOne_102 : decode cX6_isOne 102 = .ok (.iconst 1, 1) := by decide +kernel
theorem dX6_isOne_103 : decode cX6_isOne 103 = .ok (.goto 4, 3) := by decide +kernel
theorem dX6_isOne_106 : decode cX6_isOne 106 = .ok (.iconst 0, 1) := by decide +kernel
theorem dX6_isOne_107 : decode cX6_isOne 107 = .ok (.ireturn, 1) := by decide +kernel
theorem dX6_isFirstOfLike_0 : decode cX6_isFirstOfLike 0 = .ok (.iconst 1, 1) := by decide +kernel
theorem dX6_isFirstOfLike_1 : decode cX6_isFirstOfLike 1 = .ok (.istore_n 1, 1) := by decide +kernel
theorem dX6_isFirstOfLike_2 : decode cX6_isFirstOfLike 2 = .ok (.iload_n 1, 1) := by decide +kernel
theorem dX6_isFirstOfLike_3 : decode cX6_isFirstOfLike 3 = .ok (.aload_n 0, 1) := by decide +kernel
theorem dX6_isFirstOfLike_4 : decode cX6_isFirstOfLike 4 = .ok (.getfield 38, 3) := by decide +kernel
theorem dX6_isFirstOfLike_7 : decode cX6_isFirstOfLike 7 = .ok (.getfield 33, 3) := by decide +kernel
theorem dX6_isFirstOfLike_10 : decode cX6_isFirstOfLike 10 = .ok (.if_icmp .ge 73, 3) := by decide +kernel
theorem dX6_isFirstOfLike_13 : decode cX6_isFirstOfLike 13 = .ok (.iconst 0, 1) := by decide +kernel
theorem dX6_isFirstOfLike_14 : decode cX6_isFirstOfLike 14 = .ok (.istore_n 2, 1) := by decide +kernel
theorem dX6_isFirstOfLike_15 : decode cX6_isFirstOfLike 15 = .ok (.iload_n 2, 1) := by decide +kernel
theorem dX6_isFirstOfLike_16 : decode cX6_isFirstOfLike 16 = .ok (.aload_n 0, 1) := by decide +kernel
theorem dX6_isFirstOfLike_17 : decode cX6_isFirstOfLike 17 = .ok (.getfield 43, 3) := by decide +kernel
theorem dX6_isFirstOfLike_20 : decode cX6_isFirstOfLike 20 = .ok (.if_icmp .ge 32, 3) := by decide +kernel
theorem dX6_isFirstOfLike_23 : decode cX6_isFirstOfLike 23 = .ok (.aload_n 0, 1) := by decide +kernel
theorem dX6_isFirstOfLike_24 : decode cX6_isFirstOfLike 24 = .ok (.getfield 38, 3) := by decide +kernel
theorem dX6_isFirstOfLike_27 : decode cX6_isFirstOfLike 27 = .ok (.aload_n 0, 1) := by decide +kernel
theorem dX6_isFirstOfLike_28 : decode cX6_isFirstOfLike 28 = .ok (.getfield 9, 3) := by decide +kernel
theorem dX6_isFirstOfLike_31 : decode cX6_isFirstOfLike 31 = .ok (.iload_n 2, 1) := by decide +kernel
theorem dX6_isFirstOfLike_32 : decode cX6_isFirstOfLike 32 = .ok (.iaload, 1) := by decide +kernel
theorem dX6_isFirstOfLike_33 : decode cX6_isFirstOfLike 33 = .ok (.iload_n 1, 1) := by decide +kernel
theorem dX6_isFirstOfLike_34 : decode cX6_isFirstOfLike 34 = .ok (.invokevirtual 110, 3) := by decide +kernel
theorem dX6_isFirstOfLike_37 : decode cX6_isFirstOfLike 37 = .ok (.aload_n 0, 1) := by decide +kernel
theorem dX6_isFirstOfLike_38 : decode cX6_isFirstOfLike 38 = .ok (.getfield 9, 3) := by decide +kernel
theorem dX6_isFirstOfLike_41 : decode cX6_isFirstOfLike 41 = .ok (.iload_n 2, 1) := by decide +kernel
theorem dX6_isFirstOfLike_42 : decode cX6_isFirstOfLike 42 = .ok (.iaload, 1) := by decide +kernel
theorem dX6_isFirstOfLike_43 : decode cX6_isFirstOfLike 43 = .ok (.if_icmp .ne 9, 3) := by decide +kernel
theorem dX6_isFirstOfLike_46 : decode cX6_isFirstOfLike 46 = .ok (.iinc 2 1, 3) := by decide +kernel
theorem dX6_isFirstOfLike_49 : decode cX6_isFirstOfLike 49 = .ok (.goto (-34), 3) := by decide +kernel
theorem dX6_isFirstOfLike_52 : decode cX6_isFirstOfLike 52 = .ok (.aload_n 0, 1) := by decide +kernel
theorem dX6_isFirstOfLike_53 : decode cX6_isFirstOfLike 53 = .ok (.getfield 38, 3) := by decide +kernel
theorem dX6_isFirstOfLike_56 : decode cX6_isFirstOfLike 56 = .ok (.aload_n 0, 1) := by decide +kernel
theorem dX6_isFirstOfLike_57 : decode cX6_isFirstOfLike 57 = .ok (.getfield 9, 3) := by decide +kernel
theorem dX6_isFirstOfLike_60 : decode cX6_isFirstOfLike 60 = .ok (.iload_n 2, 1) := by decide +kernel
theorem dX6_isFirstOfLike_61 : decode cX6_isFirstOfLike 61 = .ok (.iaload, 1) := by decide +kernel
theorem dX6_isFirstOfLike_62 : decode cX6_isFirstOfLike 62 = .ok (.iload_n 1, 1) := by decide +kernel
theorem dX6_isFirstOfLike_63 : decode cX6_isFirstOfLike 63 = .ok (.invokevirtual 110, 3) := by decide +kernel
theorem dX6_isFirstOfLike_66 : decode cX6_isFirstOfLike 66 = .ok (.aload_n 0, 1) := by decide +kernel
theorem dX6_isFirstOfLike_67 : decode cX6_isFirstOfLike 67 = .ok (.getfield 9, 3) := by decide +kernel
theorem dX6_isFirstOfLike_70 : decode cX6_isFirstOfLike 70 = .ok (.iload_n 2, 1) := by decide +kernel
theorem dX6_isFirstOfLike_71 : decode cX6_isFirstOfLike 71 = .ok (.iaload, 1) := by decide +kernel
theorem dX6_isFirstOfLike_72 : decode cX6_isFirstOfLike 72 = .ok (.if_icmp .ge 5, 3) := by decide +kernel
theorem dX6_isFirstOfLike_75 : decode cX6_isFirstOfLike 75 = .ok (.iconst 0, 1) := by decide +kernel
theorem dX6_isFirstOfLike_76 : decode cX6_isFirstOfLike 76 = .ok (.ireturn, 1) := by decide +kernel
theorem dX6_isFirstOfLike_77 : decode cX6_isFirstOfLike 77 = .ok (.iinc 1 1, 3) := by decide +kernel
theorem dX6_isFirstOfLike_80 : decode cX6_isFirstOfLike 80 = .ok (.goto (-78), 3) := by decide +kernel
theorem dX6_isFirstOfLike_83 : decode cX6_isFirstOfLike 83 = .ok (.iconst 1, 1) := by decide +kernel
theorem dX6_isFirstOfLike_84 : decode cX6_isFirstOfLike 84 = .ok (.ireturn, 1) := by decide +kernel
theorem dX6_isMovedBySome_0 : decode cX6_isMovedBySome 0 = .ok (.iconst 0, 1) := by decide +kernel
theorem dX6_isMovedBySome_1 : decode cX6_isMovedBySome 1 = .ok (.istore 4, 2) := by decide +kernel
theorem dX6_isMovedBySome_3 : decode cX6_isMovedBySome 3 = .ok (.iconst 0, 1) := by decide +kernel
theorem dX6_isMovedBySome_4 : decode cX6_isMovedBySome 4 = .ok (.istore 5, 2) := by decide +kernel
theorem dX6_isMovedBySome_6 : decode cX6_isMovedBySome 6 = .ok (.iload 5, 2) := by decide +kernel
theorem dX6_isMovedBySome_8 : decode cX6_isMovedBySome 8 = .ok (.aload_n 3, 1) := by decide +kernel
theorem dX6_isMovedBySome_9 : decode cX6_isMovedBySome 9 = .ok (.getfield 113, 3) := by decide +kernel
theorem dX6_isMovedBySome_12 : decode cX6_isMovedBySome 12 = .ok (.if_icmp .ge 54, 3) := by decide +kernel
theorem dX6_isMovedBySome_15 : decode cX6_isMovedBySome 15 = .ok (.aload_n 1, 1) := by decide +kernel
theorem dX6_isMovedBySome_16 : decode cX6_isMovedBySome 16 = .ok (.getfield 67, 3) := by decide +kernel
theorem dX6_isMovedBySome_19 : decode cX6_isMovedBySome 19 = .ok (.aload_n 3, 1) := by decide +kernel
theorem dX6_isMovedBySome_20 : decode cX6_isMovedBySome 20 = .ok (.getfield 118, 3) := by decide +kernel
theorem dX6_isMovedBySome_23 : decode cX6_isMovedBySome 23 = .ok (.iload 5, 2) := by decide +kernel
theorem dX6_isMovedBySome_25 : decode cX6_isMovedBySome 25 = .ok (.iaload, 1) := by decide +kernel
theorem dX6_isMovedBySome_26 : decode cX6_isMovedBySome 26 = .ok (.iconst 1, 1) := by decide +kernel
theorem dX6_isMovedBySome_27 : decode cX6_isMovedBySome 27 = .ok (.ishr, 1) := by decide +kernel
theorem dX6_isMovedBySome_28 : decode cX6_isMovedBySome 28 = .ok (.iaload, 1) := by decide +kernel
theorem dX6_isMovedBySome_29 : decode cX6_isMovedBySome 29 = .ok (.istore 6, 2) := by decide +kernel
theorem dX6_isMovedBySome_31 : decode cX6_isMovedBySome 31 = .ok (.iload 6, 2) := by decide +kernel
theorem dX6_isMovedBySome_33 : decode cX6_isMovedBySome 33 = .ok (.ifCond .lt 27, 3) := by decide +kernel
theorem dX6_isMovedBySome_36 : decode cX6_isMovedBySome 36 = .ok (.aload_n 0, 1) := by decide +kernel
theorem dX6_isMovedBySome_37 : decode cX6_isMovedBySome 37 = .ok (.getfield 24, 3) := by decide +kernel
theorem dX6_isMovedBySome_40 : decode cX6_isMovedBySome 40 = .ok (.iload 4, 2) := by decide +kernel
theorem dX6_isMovedBySome_42 : decode cX6_isMovedBySome 42 = .ok (.iconst 2, 1) := by decide +kernel
theorem dX6_isMovedBySome_43 : decode cX6_isMovedBySome 43 = .ok (.iload 6, 2) := by decide +kernel
theorem dX6_isMovedBySome_45 : decode cX6_isMovedBySome 45 = .ok (.imul, 1) := by decide +kernel
theorem dX6_isMovedBySome_46 : decode cX6_isMovedBySome 46 = .ok (.aload_n 3, 1) := by decide +kernel
theorem dX6_isMovedBySome_47 : decode cX6_isMovedBySome 47 = .ok (.getfield 118, 3) := by decide +kernel
theorem dX6_isMovedBySome_50 : decode cX6_isMovedBySome 50 = .ok (.iload 5, 2) := by decide +kernel
theorem dX6_isMovedBySome_52 : decode cX6_isMovedBySome 52 = .ok (.iaload, 1) := by decide +kernel
theorem dX6_isMovedBySome_53 : decode cX6_isMovedBySome 53 = .ok (.iconst 1, 1) := by decide +kernel
theorem dX6_isMovedBySome_54 : decode cX6_isMovedBySome 54 = .ok (.iand, 1) := by decide +kernel
theorem dX6_isMovedBySome_55 : decode cX6_isMovedBySome 55 = .ok (.iadd, 1) := by decide +kernel
theorem dX6_isMovedBySome_56 : decode cX6_isMovedBySome 56 = .ok (.iastore, 1) := by decide +kernel
theorem dX6_isMovedBySome_57 : decode cX6_isMovedBySome 57 = .ok (.iinc 4 1, 3) := by decide +kernel
theorem dX6_isMovedBySome_60 : decode cX6_isMovedBySome 60 = .ok (.iinc 5 1, 3) := by decide +kernel
theorem dX6_isMovedBySome_63 : decode cX6_isMovedBySome 63 = .ok (.goto (-57), 3) := by decide +kernel
theorem dX6_isMovedBySome_66 : decode cX6_isMovedBySome 66 = .ok (.aload_n 0, 1) := by decide +kernel
theorem dX6_isMovedBySome_67 : decode cX6_isMovedBySome 67 = .ok (.aload_n 1, 1) := by decide +kernel
theorem dX6_isMovedBySome_68 : decode cX6_isMovedBySome 68 = .ok (.aload_n 2, 1) := by decide +kernel
theorem dX6_isMovedBySome_69 : decode cX6_isMovedBySome 69 = .ok (.invokevirtual 121, 3) := by decide +kernel
theorem dX6_isMovedBySome_72 : decode cX6_isMovedBySome 72 = .ok (.iconst 0, 1) := by decide +kernel
theorem dX6_isMovedBySome_73 : decode cX6_isMovedBySome 73 = .ok (.istore 5, 2) := by decide +kernel
theorem dX6_isMovedBySome_75 : decode cX6_isMovedBySome 75 = .ok (.iload 5, 2) := by decide +kernel
theorem dX6_isMovedBySome_77 : decode cX6_isMovedBySome 77 = .ok (.ldc 75, 2) := by decide +kernel
theorem dX6_isMovedBySome_79 : decode cX6_isMovedBySome 79 = .ok (.if_icmp .ge 33, 3) := by decide +kernel
theorem dX6_isMovedBySome_82 : decode cX6_isMovedBySome 82 = .ok (.aload_n 0, 1) := by decide +kernel
theorem dX6_isMovedBySome_83 : decode cX6_isMovedBySome 83 = .ok (.iconst 0, 1) := by decide +kernel
theorem dX6_isMovedBySome_84 : decode cX6_isMovedBySome 84 = .ok (.invokevirtual 83, 3) := by decide +kernel
theorem dX6_isMovedBySome_87 : decode cX6_isMovedBySome 87 = .ok (.ifCond .eq 25, 3) := by decide +kernel
theorem dX6_isMovedBySome_90 : decode cX6_isMovedBySome 90 = .ok (.aload_n 0, 1) := by decide +kernel
theorem dX6_isMovedBySome_91 : decode cX6_isMovedBySome 91 = .ok (.aload_n 0, 1) := by decide +kernel
theorem dX6_isMovedBySome_92 : decode cX6_isMovedBySome 92 = .ok (.getfield 24, 3) := by decide +kernel
theorem dX6_isMovedBySome_95 : decode cX6_isMovedBySome 95 = .ok (.iconst 0, 1) := by decide +kernel
theorem dX6_isMovedBySome_96 : decode cX6_isMovedBySome 96 = .ok (.iload 4, 2) := by decide +kernel
theorem dX6_isMovedBySome_98 : decode cX6_isMovedBySome 98 = .ok (.invokevirtual 93, 3) := by decide +kernel
theorem dX6_isMovedBySome_101 : decode cX6_isMovedBySome 101 = .ok (.ifCond .eq 5, 3) := by decide +kernel
theorem dX6_isMovedBySome_104 : decode cX6_isMovedBySome 104 = .ok (.iconst 1, 1) := by decide +kernel
theorem dX6_isMovedBySome_105 : decode cX6_isMovedBySome 105 = .ok (.ireturn, 1) := by decide +kernel
theorem dX6_isMovedBySome_106 : decode cX6_isMovedBySome 106 = .ok (.iinc 5 1, 3) := by decide +kernel
theorem dX6_isMovedBySome_109 : decode cX6_isMovedBySome 109 = .ok (.goto (-34), 3) := by decide +kernel
theorem dX6_isMovedBySome_112 : decode cX6_isMovedBySome 112 = .ok (.iconst 0, 1) := by decide +kernel
theorem dX6_isMovedBySome_113 : decode cX6_isMovedBySome 113 = .ok (.ireturn, 1) := by decide +kernel
theorem dX7_init_0 : decode cX7_init 0 = .ok (.aload_n 0, 1) := by decide +kernel
theorem dX7_init_1 : decode cX7_init 1 = .ok (.invokespecial 3, 3) := by decide +kernel
theorem dX7_init_4 : decode cX7_init 4 = .ok (.aload_n 0, 1) := by decide +kernel
theorem dX7_init_5 : decode cX7_init 5 = .ok (.bipush 120, 2) := by decide +kernel
theorem dX7_init_7 : decode cX7_init 7 = .ok (.newarray .char, 2) := by decide +kernel
theorem dX7_init_9 : decode cX7_init 9 = .ok (.putfield 9, 3) := by decide +kernel
theorem dX7_init_12 : decode cX7_init 12 = .ok (.return_, 1) := by decide +kernel
theorem dX7_put_0 : decode cX7_put 0 = .ok (.aload_n 0, 1) := by decide +kernel
theorem dX7_put_1 : decode cX7_put 1 = .ok (.getfield 15, 3) := by decide +kernel
theorem dX7_put_4 : decode cX7_put 4 = .ok (.bipush 120, 2) := by decide +kernel
theorem dX7_put_6 : decode cX7_put 6 = .ok (.if_icmp .ge 24, 3) := by decide +kernel
theorem dX7_put_9 : decode cX7_put 9 = .ok (.aload_n 0, 1) := by decide +kernel
theorem dX7_put_10 : decode cX7_put 10 = .ok (.getfield 9, 3) := by decide +kernel
theorem dX7_put_13 : decode cX7_put 13 = .ok (.aload_n 0, 1) := by decide +kernel
theorem dX7_put_14 : decode cX7_put 14 = .ok (.getfield 15, 3) := by decide +kernel
theorem dX7_put_17 : decode cX7_put 17 = .ok (.iload_n 1, 1) := by decide +kernel
theorem dX7_put_18 : decode cX7_put 18 = .ok (.i2c, 1) := by decide +kernel
theorem dX7_put_19 : decode cX7_put 19 = .ok (.castore, 1) := by decide +kernel
theorem dX7_put_20 : decode cX7_put 20 = .ok (.aload_n 0, 1) := by decide +kernel
theorem dX7_put_21 : decode cX7_put 21 = .ok (.dup, 1) := by decide +kernel
theorem dX7_put_22 : decode cX7_put 22 = .ok (.getfield 15, 3) := by decide +kernel
theorem dX7_put_25 : decode cX7_put 25 = .ok (.iconst 1, 1) := by decide +kernel
theorem dX7_put_26 : decode cX7_put 26 = .ok (.iadd, 1) := by decide +kernel
theorem dX7_put_27 : decode cX7_put 27 = .ok (.putfield 15, 3) := by decide +kernel
theorem dX7_put_30 : decode cX7_put 30 = .ok (.return_, 1) := by decide +kernel
theorem dX7_rewind_0 : decode cX7_rewind 0 = .ok (.aload_n 0, 1) := by decide +kernel
theorem dX7_rewind_1 : decode cX7_rewind 1 = .ok (.iconst 0, 1) := by decide +kernel
theorem dX7_rewind_2 : decode cX7_rewind 2 = .ok (.putfield 19, 3) := by decide +kernel
theorem dX7_rewind_5 : decode cX7_rewind 5 = .ok (.return_, 1) := by decide +kernel
theorem dX7_wipe_0 : decode cX7_wipe 0 = .ok (.aload_n 0, 1) := by decide +kernel
theorem dX7_wipe_1 : decode cX7_wipe 1 = .ok (.iconst 0, 1) := by decide +kernel
theorem dX7_wipe_2 : decode cX7_wipe 2 = .ok (.putfield 15, 3) := by decide +kernel
theorem dX7_wipe_5 : decode cX7_wipe 5 = .ok (.return_, 1) := by decide +kernel
theorem dX7_look_0 : decode cX7_look 0 = .ok (.aload_n 0, 1) := by decide +kernel
theorem dX7_look_1 : decode cX7_look 1 = .ok (.getfield 19, 3) := by decide +kernel
theorem dX7_look_4 : decode cX7_look 4 = .ok (.aload_n 0, 1) := by decide +kernel
theorem dX7_look_5 : decode cX7_look 5 = .ok (.getfield 15, 3) := by decide +kernel
theorem dX7_look_8 : decode cX7_look 8 = .ok (.if_icmp .ge 30, 3) := by decide +kernel
theorem dX7_look_11 : decode cX7_look 11 = .ok (.aload_n 0, 1) := by decide +kernel
theorem dX7_look_12 : decode cX7_look 12 = .ok (.getfield 9, 3) := by decide +kernel
theorem dX7_look_15 : decode cX7_look 15 = .ok (.aload_n 0, 1) := by decide +kernel
theorem dX7_look_16 : decode cX7_look 16 = .ok (.getfield 19, 3) := by decide +kernel
theorem dX7_look_19 : decode cX7_look 19 = .ok (.caload, 1) := by decide +kernel
theorem dX7_look_20 : decode cX7_look 20 = .ok (.bipush 32, 2) := by decide +kernel
theorem dX7_look_22 : decode cX7_look 22 = .ok (.if_icmp .ne 16, 3) := by decide +kernel
theorem dX7_look_25 : decode cX7_look 25 = .ok (.aload_n 0, 1) := by decide +kernel
theorem dX7_look_26 : decode cX7_look 26 = .ok (.dup, 1) := by decide +kernel
theorem dX7_look_27 : decode cX7_look 27 = .ok (.getfield 19, 3) := by decide +kernel
theorem dX7_look_30 : decode cX7_look 30 = .ok (.iconst 1, 1) := by decide +kernel
theorem dX7_look_31 : decode cX7_look 31 = .ok (.iadd, 1) := by decide +kernel
theorem dX7_look_32 : decode cX7_look 32 = .ok (.putfield 19, 3) := by decide +kernel
theorem dX7_look_35 : decode cX7_look 35 = .ok (.goto (-35), 3) := by decide +kernel
theorem dX7_look_38 : decode cX7_look 38 = .ok (.aload_n 0, 1) := by decide +kernel
theorem dX7_look_39 : decode cX7_look 39 = .ok (.getfield 19, 3) := by decide +kernel
theorem dX7_look_42 : decode cX7_look 42 = .ok (.aload_n 0, 1) := by decide +kernel
theorem dX7_look_43 : decode cX7_look 43 = .ok (.getfield 15, 3) := by decide +kernel
theorem dX7_look_46 : decode cX7_look 46 = .ok (.if_icmp .ge 15, 3) := by decide +kernel
theorem dX7_look_49 : decode cX7_look 49 = .ok (.aload_n 0, 1) := by decide +kernel
theorem dX7_look_50 : decode cX7_look 50 = .ok (.getfield 9, 3) := by decide +kernel
theorem dX7_look_53 : decode cX7_look 53 = .ok (.aload_n 0, 1) := by decide +kernel
theorem dX7_look_54 : decode cX7_look 54 = .ok (.getfield 19, 3) := by decide +kernel
theorem dX7_look_57 : decode cX7_look 57 = .ok (.caload, 1) := by decide +kernel
theorem dX7_look_58 : decode cX7_look 58 = .ok (.goto 4, 3) := by decide +kernel
theorem dX7_look_61 : decode cX7_look 61 = .ok (.iconst (-1), 1) := by decide +kernel
theorem dX7_look_62 : decode cX7_look 62 = .ok (.ireturn, 1) := by decide +kernel
theorem dX7_pass_0 : decode cX7_pass 0 = .ok (.aload_n 0, 1) := by decide +kernel
theorem dX7_pass_1 : decode cX7_pass 1 = .ok (.invokevirtual 22, 3) := by decide +kernel
theorem dX7_pass_4 : decode cX7_pass 4 = .ok (.iload_n 1, 1) := by decide +kernel
theorem dX7_pass_5 : decode cX7_pass 5 = .ok (.if_icmp .eq 5, 3) := by decide +kernel
theorem dX7_pass_8 : decode cX7_pass 8 = .ok (.iconst 0, 1) := by decide +kernel
theorem dX7_pass_9 : decode cX7_pass 9 = .ok (.ireturn, 1) := by decide +kernel
theorem dX7_pass_10 : decode cX7_pass 10 = .ok (.aload_n 0, 1) := by decide +kernel
theorem dX7_pass_11 : decode cX7_pass 11 = .ok (.dup, 1) := by decide +kernel
theorem dX7_pass_12 : decode cX7_pass 12 = .ok (.getfield 19, 3) := by decide +kernel
theorem dX7_pass_15 : decode cX7_pass 15 = .ok (.iconst 1, 1) := by decide +kernel
theorem dX7_pass_16 : decode cX7_pass 16 = .ok (.iadd, 1) := by decide +kernel
theorem dX7_pass_17 : decode cX7_pass 17 = .ok (.putfield 19, 3) := by decide +kernel
theorem dX7_pass_20 : decode cX7_pass 20 = .ok (.iconst 1, 1) := by decide +kernel
theorem dX7_pass_21 : decode cX7_pass 21 = .ok (.ireturn, 1) := by decide +kernel
theorem dX7_isRead_0 : decode cX7_isRead 0 = .ok (.aload_n 0, 1) := by decide +kernel
theorem dX7_isRead_1 : decode cX7_isRead 1 = .ok (.invokevirtual 22, 3) := by decide +kernel
theorem dX7_isRead_4 : decode cX7_isRead 4 = .ok (.iconst (-1), 1) := by decide +kernel
theorem dX7_isRead_5 : decode cX7_isRead 5 = .ok (.if_icmp .ne 7, 3) := by decide +kernel
theorem dX7_isRead_8 : decode cX7_isRead 8 = .ok (.iconst 1, 1) := by decide +kernel
theorem dX7_isRead_9 : decode cX7_isRead 9 = .ok (.goto 4, 3) := by decide +kernel
theorem dX7_isRead_12 : decode cX7_isRead 12 = .ok (.iconst 0, 1) := by decide +kernel
theorem dX7_isRead_13 : decode cX7_isRead 13 = .ok (.ireturn, 1) := by decide +kernel
theorem dX7_faultHere_0 : decode cX7_faultHere 0 = .ok (.aload_n 0, 1) := by decide +kernel
theorem dX7_faultHere_1 : decode cX7_faultHere 1 = .ok (.invokevirtual 22, 3) := by decide +kernel
theorem dX7_faultHere_4 : decode cX7_faultHere 4 = .ok (.pop, 1) := by decide +kernel
theorem dX7_faultHere_5 : decode cX7_faultHere 5 = .ok (.bipush (-20), 2) := by decide +kernel
theorem dX7_faultHere_7 : decode cX7_faultHere 7 = .ok (.aload_n 0, 1) := by decide +kernel
theorem dX7_faultHere_8 : decode cX7_faultHere 8 = .ok (.getfield 19, 3) := by decide +kernel
theorem dX7_faultHere_11 : decode cX7_faultHere 11 = .ok (.isub, 1) := by decide +kernel
theorem dX7_faultHere_12 : decode cX7_faultHere 12 = .ok (.ireturn, 1) := by decide +kernel
theorem dX7_readSpace_0 : decode cX7_readSpace 0 = .ok (.aload_n 0, 1) := by decide +kernel
theorem dX7_readSpace_1 : decode cX7_readSpace 1 = .ok (.iconst 1, 1) := by decide +kernel
theorem dX7_readSpace_2 : decode cX7_readSpace 2 = .ok (.bipush 8, 2) := by decide +kernel
theorem dX7_readSpace_4 : decode cX7_readSpace 4 = .ok (.invokevirtual 26, 3) := by decide +kernel
theorem dX7_readSpace_7 : decode cX7_readSpace 7 = .ok (.istore_n 3, 1) := by decide +kernel
theorem dX7_readSpace_8 : decode cX7_readSpace 8 = .ok (.iload_n 3, 1) := by decide +kernel
theorem dX7_readSpace_9 : decode cX7_readSpace 9 = .ok (.iconst (-1), 1) := by decide +kernel
theorem dX7_readSpace_10 : decode cX7_readSpace 10 = .ok (.if_icmp .ne 5, 3) := by decide +kernel
theorem dX7_readSpace_13 : decode cX7_readSpace 13 = .ok (.iconst 0, 1) := by decide +kernel
theorem dX7_readSpace_14 : decode cX7_readSpace 14 = .ok (.ireturn, 1) := by decide +kernel
theorem dX7_readSpace_15 : decode cX7_readSpace 15 = .ok (.aload_n 1, 1) := by decide +kernel
theorem dX7_readSpace_16 : decode cX7_readSpace 16 = .ok (.iload_n 3, 1) := by decide +kernel
theorem dX7_readSpace_17 : decode cX7_readSpace 17 = .ok (.invokevirtual 30, 3) := by decide +kernel
theorem dX7_readSpace_20 : decode cX7_readSpace 20 = .ok (.iconst 0, 1) := by decide +kernel
theorem dX7_readSpace_21 : decode cX7_readSpace 21 = .ok (.istore 4, 2) := by decide +kernel
theorem dX7_readSpace_23 : decode cX7_readSpace 23 = .ok (.iload 4, 2) := by decide +kernel
theorem dX7_readSpace_25 : decode cX7_readSpace 25 = .ok (.bipush 120, 2) := by decide +kernel
theorem dX7_readSpace_27 : decode cX7_readSpace 27 = .ok (.if_icmp .ge 29, 3) := by decide +kernel
theorem dX7_readSpace_30 : decode cX7_readSpace 30 = .ok (.aload_n 0, 1) := by decide +kernel
theorem dX7_readSpace_31 : decode cX7_readSpace 31 = .ok (.bipush 59, 2) := by decide +kernel
theorem dX7_readSpace_33 : decode cX7_readSpace 33 = .ok (.invokevirtual 36, 3) := by decide +kernel
theorem dX7_readSpace_36 : decode cX7_readSpace 36 = .ok (.ifCond .eq 20, 3) := by decide +kernel
theorem dX7_readSpace_39 : decode cX7_readSpace 39 = .ok (.aload_n 0, 1) := by decide +kernel
theorem dX7_readSpace_40 : decode cX7_readSpace 40 = .ok (.aload_n 1, 1) := by decide +kernel
theorem dX7_readSpace_41 : decode cX7_readSpace 41 = .ok (.aload_n 2, 1) := by decide +kernel
theorem dX7_readSpace_42 : decode cX7_readSpace 42 = .ok (.invokevirtual 40, 3) := by decide +kernel
theorem dX7_readSpace_45 : decode cX7_readSpace 45 = .ok (.ifCond .ne 5, 3) := by decide +kernel
theorem dX7_readSpace_48 : decode cX7_readSpace 48 = .ok (.iconst 0, 1) := by decide +kernel
theorem dX7_readSpace_49 : decode cX7_readSpace 49 = .ok (.ireturn, 1) := by decide +kernel
theorem dX7_readSpace_50 : decode cX7_readSpace 50 = .ok (.iinc 4 1, 3) := by decide +kernel
theorem dX7_readSpace_53 : decode cX7_readSpace 53 = .ok (.goto (-30), 3) := by decide +kernel
theorem dX7_readSpace_56 : decode cX7_readSpace 56 = .ok (.aload_n 0, 1) := by decide +kernel
theorem dX7_readSpace_57 : decode cX7_readSpace 57 = .ok (.invokevirtual 44, 3) := by decide +kernel
theorem dX7_readSpace_60 : decode cX7_readSpace 60 = .ok (.ireturn, 1) := by decide +kernel
theorem dX7_readClause_0 : decode cX7_readClause 0 = .ok (.aload_n 1, 1) := by decide +kernel
theorem dX7_readClause_1 : decode cX7_readClause 1 = .ok (.getfield 48, 3) := by decide +kernel
theorem dX7_readClause_4 : decode cX7_readClause 4 = .ok (.bipush 8, 2) := by decide +kernel
theorem dX7_readClause_6 : decode cX7_readClause 6 = .ok (.if_icmp .ge 37, 3) := by decide +kernel
theorem dX7_readClause_9 : decode cX7_readClause 9 = .ok (.aload_n 0, 1) := by decide +kernel
theorem dX7_readClause_10 : decode cX7_readClause 10 = .ok (.bipush 58, 2) := by decide +kernel
theorem dX7_readClause_12 : decode cX7_readClause 12 = .ok (.invokevirtual 36, 3) := by decide +kernel
theorem dX7_readClause_15 : decode cX7_readClause 15 = .ok (.ifCond .eq 28, 3) := by decide +kernel
theorem dX7_readClause_18 : decode cX7_readClause 18 = .ok (.aload_n 0, 1) := by decide +kernel
theorem dX7_readClause_19 : decode cX7_readClause 19 = .ok (.aload_n 1, 1) := by decide +kernel
theorem dX7_readClause_20 : decode cX7_readClause 20 = .ok (.aload_n 2, 1) := by decide +kernel
theorem dX7_readClause_21 : decode cX7_readClause 21 = .ok (.invokevirtual 51, 3) := by decide +kernel
theorem dX7_readClause_24 : decode cX7_readClause 24 = .ok (.ifCond .ne 5, 3) := by decide +kernel
theorem dX7_readClause_27 : decode cX7_readClause 27 = .ok (.iconst 0, 1) := by decide +kernel
theorem dX7_readClause_28 : decode cX7_readClause 28 = .ok (.ireturn, 1) := by decide +kernel
theorem dX7_readClause_29 : decode cX7_readClause 29 = .ok (.aload_n 1, 1) := by decide +kernel
theorem dX7_readClause_30 : decode cX7_readClause 30 = .ok (.aload_n 2, 1) := by decide +kernel
theorem dX7_readClause_31 : decode cX7_readClause 31 = .ok (.getfield 54, 3) := by decide +kernel
theorem dX7_readClause_34 : decode cX7_readClause 34 = .ok (.aload_n 2, 1) := by decide +kernel
theorem dX7_readClause_35 : decode cX7_readClause 35 = .ok (.getfield 60, 3) := by decide +kernel
theorem dX7_readClause_38 : decode cX7_readClause 38 = .ok (.invokevirtual 63, 3) := by decide +kernel
theorem dX7_readClause_41 : decode cX7_readClause 41 = .ok (.iconst 1, 1) := by decide +kernel
theorem dX7_readClause_42 : decode cX7_readClause 42 = .ok (.ireturn, 1) := by decide +kernel
theorem dX7_readClause_43 : decode cX7_readClause 43 = .ok (.aload_n 1, 1) := by decide +kernel
theorem dX7_readClause_44 : decode cX7_readClause 44 = .ok (.getfield 67, 3) := by decide +kernel
theorem dX7_readClause_47 : decode cX7_readClause 47 = .ok (.bipush 12, 2) := by decide +kernel
theorem dX7_readClause_49 : decode cX7_readClause 49 = .ok (.if_icmp .ge 30, 3) := by decide +kernel
theorem dX7_readClause_52 : decode cX7_readClause 52 = .ok (.aload_n 0, 1) := by decide +kernel
theorem dX7_readClause_53 : decode cX7_readClause 53 = .ok (.bipush 97, 2) := by decide +kernel
theorem dX7_readClause_55 : decode cX7_readClause 55 = .ok (.aload_n 1, 1) := by decide +kernel
theorem dX7_readClause_56 : decode cX7_readClause 56 = .ok (.getfield 67, 3) := by decide +kernel
theorem dX7_readClause_59 : decode cX7_readClause 59 = .ok (.iadd, 1) := by decide +kernel
theorem dX7_readClause_60 : decode cX7_readClause 60 = .ok (.i2c, 1) := by decide +kernel
theorem dX7_readClause_61 : decode cX7_readClause 61 = .ok (.invokevirtual 36, 3) := by decide +kernel
theorem dX7_readClause_64 : decode cX7_readClause 64 = .ok (.ifCond .eq 15, 3) := by decide +kernel
theorem dX7_readClause_67 : decode cX7_readClause 67 = .ok (.aload_n 0, 1) := by decide +kernel
theorem dX7_readClause_68 : decode cX7_readClause 68 = .ok (.aload_n 1, 1) := by decide +kernel
theorem dX7_readClause_69 : decode cX7_readClause 69 = .ok (.invokevirtual 70, 3) := by decide +kernel
theorem dX7_readClause_72 : decode cX7_readClause 72 = .ok (.ifCond .eq 7, 3) := by decide +kernel
theorem dX7_readClause_75 : decode cX7_readClause 75 = .ok (.iconst 1, 1) := by decide +kernel
theorem dX7_readClause_76 : decode cX7_readClause 76 = .ok (.goto 4, 3) := by decide +kernel
theorem dX7_readClause_79 : decode cX7_readClause 79 = .ok (.iconst 0, 1) := by decide +kernel
theorem dX7_readClause_80 : decode cX7_readClause 80 = .ok (.ireturn, 1) := by decide +kernel
theorem dX7_readEdge_0 : decode cX7_readEdge 0 = .ok (.aload_n 0, 1) := by decide +kernel
theorem dX7_readEdge_1 : decode cX7_readEdge 1 = .ok (.bipush 61, 2) := by decide +kernel
theorem dX7_readEdge_3 : decode cX7_readEdge 3 = .ok (.invokevirtual 36, 3) := by decide +kernel
theorem dX7_readEdge_6 : decode cX7_readEdge 6 = .ok (.ifCond .ne 5, 3) := by decide +kernel
theorem dX7_readEdge_9 : decode cX7_readEdge 9 = .ok (.iconst 0, 1) := by decide +kernel
theorem dX7_readEdge_10 : decode cX7_readEdge 10 = .ok (.ireturn, 1) := by decide +kernel
theorem dX7_readEdge_11 : decode cX7_readEdge 11 = .ok (.aload_n 0, 1) := by decide +kernel
theorem dX7_readEdge_12 : decode cX7_readEdge 12 = .ok (.iconst 0, 1) := by decide +kernel
theorem dX7_readEdge_13 : decode cX7_readEdge 13 = .ok (.aload_n 1, 1) := by decide +kernel
theorem dX7_readEdge_14 : decode cX7_readEdge 14 = .ok (.getfield 74, 3) := by decide +kernel
theorem dX7_readEdge_17 : decode cX7_readEdge 17 = .ok (.iconst 1, 1) := by decide +kernel
theorem dX7_readEdge_18 : decode cX7_readEdge 18 = .ok (.isub, 1) := by decide +kernel
theorem dX7_readEdge_19 : decode cX7_readEdge 19 = .ok (.invokevirtual 26, 3) := by decide +kernel
theorem dX7_readEdge_22 : decode cX7_readEdge 22 = .ok (.istore_n 2, 1) := by decide +kernel
theorem dX7_readEdge_23 : decode cX7_readEdge 23 = .ok (.iload_n 2, 1) := by decide +kernel
theorem dX7_readEdge_24 : decode cX7_readEdge 24 = .ok (.iconst (-1), 1) := by decide +kernel
theorem dX7_readEdge_25 : decode cX7_readEdge 25 = .ok (.if_icmp .eq 12, 3) := by decide +kernel
theorem dX7_readEdge_28 : decode cX7_readEdge 28 = .ok (.aload_n 0, 1) := by decide +kernel
theorem dX7_readEdge_29 : decode cX7_readEdge 29 = .ok (.bipush 62, 2) := by decide +kernel
theorem dX7_readEdge_31 : decode cX7_readEdge 31 = .ok (.invokevirtual 36, 3) := by decide +kernel
theorem dX7_readEdge_34 : decode cX7_readEdge 34 = .ok (.ifCond .ne 5, 3) := by decide +kernel
theorem dX7_readEdge_37 : decode cX7_readEdge 37 = .ok (.iconst 0, 1) := by decide +kernel
theorem dX7_readEdge_38 : decode cX7_readEdge 38 = .ok (.ireturn, 1) := by decide +kernel
theorem dX7_readEdge_39 : decode cX7_readEdge 39 = .ok (.aload_n 0, 1) := by decide +kernel
theorem dX7_readEdge_40 : decode cX7_readEdge 40 = .ok (.iconst 0, 1) := by decide +kernel
theorem dX7_readEdge_41 : decode cX7_readEdge 41 = .ok (.aload_n 1, 1) := by decide +kernel
theorem dX7_readEdge_42 : decode cX7_readEdge 42 = .ok (.getfield 74, 3) := by decide +kernel
theorem dX7_readEdge_45 : decode cX7_readEdge 45 = .ok (.iconst 1, 1) := by decide +kernel
theorem dX7_readEdge_46 : decode cX7_readEdge 46 = .ok (.isub, 1) := by decide +kernel
theorem dX7_readEdge_47 : decode cX7_readEdge 47 = .ok (.invokevirtual 26, 3) := by decide +kernel
theorem dX7_readEdge_50 : decode cX7_readEdge 50 = .ok (.istore_n 3, 1) := by decide +kernel
theorem dX7_readEdge_51 : decode cX7_readEdge 51 = .ok (.iload_n 3, 1) := by decide +kernel
theorem dX7_readEdge_52 : decode cX7_readEdge 52 = .ok (.iconst (-1), 1) := by decide +kernel
theorem dX7_readEdge_53 : decode cX7_readEdge 53 = .ok (.if_icmp .ne 5, 3) := by decide +kernel
theorem dX7_readEdge_56 : decode cX7_readEdge 56 = .ok (.iconst 0, 1) := by decide +kernel
theorem dX7_readEdge_57 : decode cX7_readEdge 57 = .ok (.ireturn, 1) := by decide +kernel
theorem dX7_readEdge_58 : decode cX7_readEdge 58 = .ok (.aload_n 1, 1) := by decide +kernel
theorem dX7_readEdge_59 : decode cX7_readEdge 59 = .ok (.iload_n 2, 1) := by decide +kernel
theorem dX7_readEdge_60 : decode cX7_readEdge 60 = .ok (.iload_n 3, 1) := by decide +kernel
theorem dX7_readEdge_61 : decode cX7_readEdge 61 = .ok (.invokevirtual 77, 3) := by decide +kernel
theorem dX7_readEdge_64 : decode cX7_readEdge 64 = .ok (.iconst 1, 1) := by decide +kernel
theorem dX7_readEdge_65 : decode cX7_readEdge 65 = .ok (.ireturn, 1) := by decide +kernel
theorem dX7_readRim_0 : decode cX7_readRim 0 = .ok (.aload_n 0, 1) := by decide +kernel
theorem dX7_readRim_1 : decode cX7_readRim 1 = .ok (.aload_n 1, 1) := by decide +kernel
theorem dX7_readRim_2 : decode cX7_readRim 2 = .ok (.aload_n 2, 1) := by decide +kernel
theorem dX7_readRim_3 : decode cX7_readRim 3 = .ok (.bipush 8, 2) := by decide +kernel
theorem dX7_readRim_5 : decode cX7_readRim 5 = .ok (.invokevirtual 81, 3) := by decide +kernel
theorem dX7_readRim_8 : decode cX7_readRim 8 = .ok (.aload_n 2, 1) := by decide +kernel
theorem dX7_readRim_9 : decode cX7_readRim 9 = .ok (.invokevirtual 85, 3) := by decide +kernel
theorem dX7_readRim_12 : decode cX7_readRim 12 = .ok (.ireturn, 1) := by decide +kernel
theorem dX7_readSteps_0 : decode cX7_readSteps 0 = .ok (.aload_n 2, 1) := by decide +kernel
theorem dX7_readSteps_1 : decode cX7_readSteps 1 = .ok (.invokevirtual 88, 3) := by decide +kernel
theorem dX7_readSteps_4 : decode cX7_readSteps 4 = .ok (.iconst 0, 1) := by decide +kernel
theorem dX7_readSteps_5 : decode cX7_readSteps 5 = .ok (.istore 4, 2) := by decide +kernel
theorem dX7_readSteps_7 : decode cX7_readSteps 7 = .ok (.iload 4, 2) := by decide +kernel
theorem dX7_readSteps_9 : decode cX7_readSteps 9 = .ok (.iload_n 3, 1) := by decide +kernel
theorem dX7_readSteps_10 : decode cX7_readSteps 10 = .ok (.if_icmp .ge 56, 3) := by decide +kernel
theorem dX7_readSteps_13 : decode cX7_readSteps 13 = .ok (.aload_n 0, 1) := by decide +kernel
theorem dX7_readSteps_14 : decode cX7_readSteps 14 = .ok (.invokevirtual 22, 3) := by decide +kernel
theorem dX7_readSteps_17 : decode cX7_readSteps 17 = .ok (.invokestatic 90, 3) := by decide +kernel
theorem dX7_readSteps_20 : decode cX7_readSteps 20 = .ok (.istore 5, 2) := by decide +kernel
theorem dX7_readSteps_22 : decode cX7_readSteps 22 = .ok (.iload 5, 2) := by decide +kernel
theorem dX7_readSteps_24 : decode cX7_readSteps 24 = .ok (.iconst (-1), 1) := by decide +kernel
theorem dX7_readSteps_25 : decode cX7_readSteps 25 = .ok (.if_icmp .eq 24, 3) := by decide +kernel
theorem dX7_readSteps_28 : decode cX7_readSteps 28 = .ok (.iload 5, 2) := by decide +kernel
theorem dX7_readSteps_30 : decode cX7_readSteps 30 = .ok (.iconst 1, 1) := by decide +kernel
theorem dX7_readSteps_31 : decode cX7_readSteps 31 = .ok (.ishr, 1) := by decide +kernel
theorem dX7_readSteps_32 : decode cX7_readSteps 32 = .ok (.aload_n 1, 1) := by decide +kernel
theorem dX7_readSteps_33 : decode cX7_readSteps 33 = .ok (.getfield 67, 3) := by decide +kernel
theorem dX7_readSteps_36 : decode cX7_readSteps 36 = .ok (.if_icmp .ge 13, 3) := by decide +kernel
theorem dX7_readSteps_39 : decode cX7_readSteps 39 = .ok (.aload_n 2, 1) := by decide +kernel
theorem dX7_readSteps_40 : decode cX7_readSteps 40 = .ok (.aload_n 1, 1) := by decide +kernel
theorem dX7_readSteps_41 : decode cX7_readSteps 41 = .ok (.iload 5, 2) := by decide +kernel
theorem dX7_readSteps_43 : decode cX7_readSteps 43 = .ok (.invokevirtual 94, 3) := by decide +kernel
theorem dX7_readSteps_46 : decode cX7_readSteps 46 = .ok (.ifCond .ne 4, 3) := by decide +kernel
theorem dX7_readSteps_49 : decode cX7_readSteps 49 = .ok (.return_, 1) := by decide +kernel
theorem dX7_readSteps_50 : decode cX7_readSteps 50 = .ok (.aload_n 0, 1) := by decide +kernel
theorem dX7_readSteps_51 : decode cX7_readSteps 51 = .ok (.dup, 1) := by decide +kernel
theorem dX7_readSteps_52 : decode cX7_readSteps 52 = .ok (.getfield 19, 3) := by decide +kernel
theorem dX7_readSteps_55 : decode cX7_readSteps 55 = .ok (.iconst 1, 1) := by decide +kernel
theorem dX7_readSteps_56 : decode cX7_readSteps 56 = .ok (.iadd, 1) := by decide +kernel
theorem dX7_readSteps_57 : decode cX7_readSteps 57 = .ok (.putfield 19, 3) := by decide +kernel
theorem dX7_readSteps_60 : decode cX7_readSteps 60 = .ok (.iinc 4 1, 3) := by decide +kernel
theorem dX7_readSteps_63 : decode cX7_readSteps 63 = .ok (.goto (-56), 3) := by decide +kernel
theorem dX7_readSteps_66 : decode cX7_readSteps 66 = .ok (.return_, 1) := by decide +kernel
theorem dX7_stepOfSign_0 : decode cX7_stepOfSign 0 = .ok (.iload_n 0, 1) := by decide +kernel
theorem dX7_stepOfSign_1 : decode cX7_stepOfSign 1 = .ok (.bipush 97, 2) := by decide +kernel
theorem dX7_stepOfSign_3 : decode cX7_stepOfSign 3 = .ok (.if_icmp .lt 16, 3) := by decide +kernel
theorem dX7_stepOfSign_6 : decode cX7_stepOfSign 6 = .ok (.iload_n 0, 1) := by decide +kernel
theorem dX7_stepOfSign_7 : decode cX7_stepOfSign 7 = .ok (.bipush 122, 2) := by decide +kernel
theorem dX7_stepOfSign_9 : decode cX7_stepOfSign 9 = .ok (.if_icmp .gt 10, 3) := by decide +kernel
theorem dX7_stepOfSign_12 : decode cX7_stepOfSign 12 = .ok (.iconst 2, 1) := by decide +kernel
theorem dX7_stepOfSign_13 : decode cX7_stepOfSign 13 = .ok (.iload_n 0, 1) := by decide +kernel
theorem dX7_stepOfSign_14 : decode cX7_stepOfSign 14 = .ok (.bipush 97, 2) := by decide +kernel
theorem dX7_stepOfSign_16 : decode cX7_stepOfSign 16 = .ok (.isub, 1) := by decide +kernel
theorem dX7_stepOfSign_17 : decode cX7_stepOfSign 17 = .ok (.imul, 1) := by decide +kernel
theorem dX7_stepOfSign_18 : decode cX7_stepOfSign 18 = .ok (.ireturn, 1) := by decide +kernel
theorem dX7_stepOfSign_19 : decode cX7_stepOfSign 19 = .ok (.iload_n 0, 1) := by decide +kernel
theorem dX7_stepOfSign_20 : decode cX7_stepOfSign 20 = .ok (.bipush 65, 2) := by decide +kernel
theorem dX7_stepOfSign_22 : decode cX7_stepOfSign 22 = .ok (.if_icmp .lt 20, 3) := by decide +kernel
theorem dX7_stepOfSign_25 : decode cX7_stepOfSign 25 = .ok (.iload_n 0, 1) := by decide +kernel
theorem dX7_stepOfSign_26 : decode cX7_stepOfSign 26 = .ok (.bipush 90, 2) := by decide +kernel
theorem dX7_stepOfSign_28 : decode cX7_stepOfSign 28 = .ok (.if_icmp .gt 14, 3) := by decide +kernel
theorem dX7_stepOfSign_31 : decode cX7_stepOfSign 31 = .ok (.iconst 2, 1) := by decide +kernel
theorem dX7_stepOfSign_32 : decode cX7_stepOfSign 32 = .ok (.iload_n 0, 1) := by decide +kernel
theorem dX7_stepOfSign_33 : decode cX7_stepOfSign 33 = .ok (.bipush 65, 2) := by decide +kernel
theorem dX7_stepOfSign_35 : decode cX7_stepOfSign 35 = .ok (.isub, 1) := by decide +kernel
theorem dX7_stepOfSign_36 : decode cX7_stepOfSign 36 = .ok (.imul, 1) := by decide +kernel
theorem dX7_stepOfSign_37 : decode cX7_stepOfSign 37 = .ok (.iconst 1, 1) := by decide +kernel
theorem dX7_stepOfSign_38 : decode cX7_stepOfSign 38 = .ok (.iadd, 1) := by decide +kernel
theorem dX7_stepOfSign_39 : decode cX7_stepOfSign 39 = .ok (.goto 4, 3) := by decide +kernel
theorem dX7_stepOfSign_42 : decode cX7_stepOfSign 42 = .ok (.iconst (-1), 1) := by decide +kernel
theorem dX7_stepOfSign_43 : decode cX7_stepOfSign 43 = .ok (.ireturn, 1) := by decide +kernel
theorem dX7_readNumber_0 : decode cX7_readNumber 0 = .ok (.aload_n 0, 1) := by decide +kernel
theorem dX7_readNumber_1 : decode cX7_readNumber 1 = .ok (.invokevirtual 22, 3) := by decide +kernel
theorem dX7_readNumber_4 : decode cX7_readNumber 4 = .ok (.pop, 1) := by decide +kernel
theorem dX7_readNumber_5 : decode cX7_readNumber 5 = .ok (.aload_n 0, 1) := by decide +kernel
theorem dX7_readNumber_6 : decode cX7_readNumber 6 = .ok (.getfield 19, 3) := by decide +kernel
theorem dX7_readNumber_9 : decode cX7_readNumber 9 = .ok (.istore_n 3, 1) := by decide +kernel
theorem dX7_readNumber_10 : decode cX7_readNumber 10 = .ok (.iconst 0, 1) := by decide +kernel
theorem dX7_readNumber_11 : decode cX7_readNumber 11 = .ok (.istore 4, 2) := by decide +kernel
theorem dX7_readNumber_13 : decode cX7_readNumber 13 = .ok (.aload_n 0, 1) := by decide +kernel
theorem dX7_readNumber_14 : decode cX7_readNumber 14 = .ok (.getfield 19, 3) := by decide +kernel
theorem dX7_readNumber_17 : decode cX7_readNumber 17 = .ok (.aload_n 0, 1) := by decide +kernel
theorem dX7_readNumber_18 : decode cX7_readNumber 18 = .ok (.getfield 15, 3) := by decide +kernel
theorem dX7_readNumber_21 : decode cX7_readNumber 21 = .ok (.if_icmp .ge 70, 3) := by decide +kernel
theorem dX7_readNumber_24 : decode cX7_readNumber 24 = .ok (.aload_n 0, 1) := by decide +kernel
theorem dX7_readNumber_25 : decode cX7_readNumber 25 = .ok (.getfield 9, 3) := by decide +kernel
theorem dX7_readNumber_28 : decode cX7_readNumber 28 = .ok (.aload_n 0, 1) := by decide +kernel
theorem dX7_readNumber_29 : decode cX7_readNumber 29 = .ok (.getfield 19, 3) := by decide +kernel
theorem dX7_readNumber_32 : decode cX7_readNumber 32 = .ok (.caload, 1) := by decide +kernel
theorem dX7_readNumber_33 : decode cX7_readNumber 33 = .ok (.bipush 48, 2) := by decide +kernel
theorem dX7_readNumber_35 : decode cX7_readNumber 35 = .ok (.if_icmp .lt 56, 3) := by decide +kernel
theorem dX7_readNumber_38 : decode cX7_readNumber 38 = .ok (.aload_n 0, 1) := by decide +kernel
theorem dX7_readNumber_39 : decode cX7_readNumber 39 = .ok (.getfield 9, 3) := by decide +kernel
theorem dX7_readNumber_42 : decode cX7_readNumber 42 = .ok (.aload_n 0, 1) := by decide +kernel
theorem dX7_readNumber_43 : decode cX7_readNumber 43 = .ok (.getfield 19, 3) := by decide +kernel
theorem dX7_readNumber_46 : decode cX7_readNumber 46 = .ok (.caload, 1) := by decide +kernel
theorem dX7_readNumber_47 : decode cX7_readNumber 47 = .ok (.bipush 57, 2) := by decide +kernel
theorem dX7_readNumber_49 : decode cX7_readNumber 49 = .ok (.if_icmp .gt 42, 3) := by decide +kernel
theorem dX7_readNumber_52 : decode cX7_readNumber 52 = .ok (.bipush 10, 2) := by decide +kernel
theorem dX7_readNumber_54 : decode cX7_readNumber 54 = .ok (.iload 4, 2) := by decide +kernel
theorem dX7_readNumber_56 : decode cX7_readNumber 56 = .ok (.imul, 1) := by decide +kernel
theorem dX7_readNumber_57 : decode cX7_readNumber 57 = .ok (.aload_n 0, 1) := by decide +kernel
theorem dX7_readNumber_58 : decode cX7_readNumber 58 = .ok (.getfield 9, 3) := by decide +kernel
theorem dX7_readNumber_61 : decode cX7_readNumber 61 = .ok (.aload_n 0, 1) := by decide +kernel
theorem dX7_readNumber_62 : decode cX7_readNumber 62 = .ok (.getfield 19, 3) := by decide +kernel
theorem dX7_readNumber_65 : decode cX7_readNumber 65 = .ok (.caload, 1) := by decide +kernel
theorem dX7_readNumber_66 : decode cX7_readNumber 66 = .ok (.iadd, 1) := by decide +kernel
theorem dX7_readNumber_67 : decode cX7_readNumber 67 = .ok (.bipush 48, 2) := by decide +kernel
theorem dX7_readNumber_69 : decode cX7_readNumber 69 = .ok (.isub, 1) := by decide +kernel
theorem dX7_readNumber_70 : decode cX7_readNumber 70 = .ok (.iload_n 2, 1) := by decide +kernel
theorem dX7_readNumber_71 : decode cX7_readNumber 71 = .ok (.iconst 1, 1) := by decide +kernel
theorem dX7_readNumber_72 : decode cX7_readNumber 72 = .ok (.iadd, 1) := by decide +kernel
theorem dX7_readNumber_73 : decode cX7_readNumber 73 = .ok (.invokestatic 98, 3) := by decide +kernel
theorem dX7_readNumber_76 : decode cX7_readNumber 76 = .ok (.istore 4, 2) := by decide +kernel
theorem dX7_readNumber_78 : decode cX7_readNumber 78 = .ok (.aload_n 0, 1) := by decide +kernel
theorem dX7_readNumber_79 : decode cX7_readNumber 79 = .ok (.dup, 1) := by decide +kernel
theorem dX7_readNumber_80 : decode cX7_readNumber 80 = .ok (.getfield 19, 3) := by decide +kernel
theorem dX7_readNumber_83 : decode cX7_readNumber 83 = .ok (.iconst 1, 1) := by decide +kernel
theorem dX7_readNumber_84 : decode cX7_readNumber 84 = .ok (.iadd, 1) := by decide +kernel
theorem dX7_readNumber_85 : decode cX7_readNumber 85 = .ok (.putfield 19, 3) := by decide +kernel
theorem dX7_readNumber_88 : decode cX7_readNumber 88 = .ok (.goto (-75), 3) := by decide +kernel
theorem dX7_readNumber_91 : decode cX7_readNumber 91 = .ok (.aload_n 0, 1) := by decide +kernel
theorem dX7_readNumber_92 : decode cX7_readNumber 92 = .ok (.getfield 19, 3) := by decide +kernel
theorem dX7_readNumber_95 : decode cX7_readNumber 95 = .ok (.iload_n 3, 1) := by decide +kernel
theorem dX7_readNumber_96 : decode cX7_readNumber 96 = .ok (.if_icmp .le 18, 3) := by decide +kernel
theorem dX7_readNumber_99 : decode cX7_readNumber 99 = .ok (.iload 4, 2) := by decide +kernel
theorem dX7_readNumber_101 : decode cX7_readNumber 101 = .ok (.iload_n 1, 1) := by decide +kernel
theorem dX7_readNumber_102 : decode cX7_readNumber 102 = .ok (.if_icmp .lt 12, 3) := by decide +kernel
theorem dX7_readNumber_105 : decode cX7_readNumber 105 = .ok (.iload 4, 2) := by decide +kernel
theorem dX7_readNumber_107 : decode cX7_readNumber 107 = .ok (.iload_n 2, 1) := by decide +kernel
theorem dX7_readNumber_108 : decode cX7_readNumber 108 = .ok (.if_icmp .gt 6, 3) := by decide +kernel
theorem dX7_readNumber_111 : decode cX7_readNumber 111 = .ok (.iload 4, 2) := by decide +kernel
theorem dX7_readNumber_113 : decode cX7_readNumber 113 = .ok (.ireturn, 1) := by decide +kernel
theorem dX7_readNumber_114 : decode cX7_readNumber 114 = .ok (.aload_n 0, 1) := by decide +kernel
theorem dX7_readNumber_115 : decode cX7_readNumber 115 = .ok (.iload_n 3, 1) := by decide +kernel
theorem dX7_readNumber_116 : decode cX7_readNumber 116 = .ok (.putfield 19, 3) := by decide +kernel
theorem dX7_readNumber_119 : decode cX7_readNumber 119 = .ok (.iconst (-1), 1) := by decide +kernel
theorem dX7_readNumber_120 : decode cX7_readNumber 120 = .ok (.ireturn, 1) := by decide +kernel
theorem dX8_init_0 : decode cX8_init 0 = .ok (.aload_n 0, 1) := by decide +kernel
theorem dX8_init_1 : decode cX8_init 1 = .ok (.invokespecial 3, 3) := by decide +kernel
theorem dX8_init_4 : decode cX8_init 4 = .ok (.aload_n 0, 1) := by decide +kernel
theorem dX8_init_5 : decode cX8_init 5 = .ok (.bipush 16, 2) := by decide +kernel
theorem dX8_init_7 : decode cX8_init 7 = .ok (.newarray .int, 2) := by decide +kernel
theorem dX8_init_9 : decode cX8_init 9 = .ok (.putfield 9, 3) := by decide +kernel
theorem dX8_init_12 : decode cX8_init 12 = .ok (.aload_n 0, 1) := by decide +kernel
theorem dX8_init_13 : decode cX8_init 13 = .ok (.iconst (-1), 1) := by decide +kernel
theorem dX8_init_14 : decode cX8_init 14 = .ok (.putfield 15, 3) := by decide +kernel
theorem dX8_init_17 : decode cX8_init 17 = .ok (.return_, 1) := by decide +kernel
theorem dX8_clear_0 : decode cX8_clear 0 = .ok (.aload_n 0, 1) := by decide +kernel
theorem dX8_clear_1 : decode cX8_clear 1 = .ok (.iconst 0, 1) := by decide +kernel
theorem dX8_clear_2 : decode cX8_clear 2 = .ok (.putfield 19, 3) := by decide +kernel
theorem dX8_clear_5 : decode cX8_clear 5 = .ok (.aload_n 0, 1) := by decide +kernel
theorem dX8_clear_6 : decode cX8_clear 6 = .ok (.iconst 0, 1) := by decide +kernel
theorem dX8_clear_7 : decode cX8_clear 7 = .ok (.putfield 22, 3) := by decide +kernel
theorem dX8_clear_10 : decode cX8_clear 10 = .ok (.aload_n 0, 1) := by decide +kernel
theorem dX8_clear_11 : decode cX8_clear 11 = .ok (.iconst 0, 1) := by decide +kernel
theorem dX8_clear_12 : decode cX8_clear 12 = .ok (.putfield 25, 3) := by decide +kernel
theorem dX8_clear_15 : decode cX8_clear 15 = .ok (.return_, 1) := by decide +kernel
theorem dX8_goOn_0 : decode cX8_goOn 0 = .ok (.aload_n 0, 1) := by decide +kernel
theorem dX8_goOn_1 : decode cX8_goOn 1 = .ok (.getfield 19, 3) := by decide +kernel
theorem dX8_goOn_4 : decode cX8_goOn 4 = .ok (.bipush 16, 2) := by decide +kernel
theorem dX8_goOn_6 : decode cX8_goOn 6 = .ok (.if_icmp .ge 22, 3) := by decide +kernel
theorem dX8_goOn_9 : decode cX8_goOn 9 = .ok (.aload_n 0, 1) := by decide +kernel
theorem dX8_goOn_10 : decode cX8_goOn 10 = .ok (.getfield 19, 3) := by decide +kernel
theorem dX8_goOn_13 : decode cX8_goOn 13 = .ok (.ifCond .le 17, 3) := by decide +kernel
theorem dX8_goOn_16 : decode cX8_goOn 16 = .ok (.aload_n 1, 1) := by decide +kernel
theorem dX8_goOn_17 : decode cX8_goOn 17 = .ok (.iload_n 2, 1) := by decide +kernel
theorem dX8_goOn_18 : decode cX8_goOn 18 = .ok (.invokevirtual 28, 3) := by decide +kernel
theorem dX8_goOn_21 : decode cX8_goOn 21 = .ok (.aload_n 0, 1) := by decide +kernel
theorem dX8_goOn_22 : decode cX8_goOn 22 = .ok (.getfield 25, 3) := by decide +kernel
theorem dX8_goOn_25 : decode cX8_goOn 25 = .ok (.if_icmp .eq 5, 3) := by decide +kernel
theorem dX8_goOn_28 : decode cX8_goOn 28 = .ok (.iconst 0, 1) := by decide +kernel
theorem dX8_goOn_29 : decode cX8_goOn 29 = .ok (.ireturn, 1) := by decide +kernel
theorem dX8_goOn_30 : decode cX8_goOn 30 = .ok (.aload_n 0, 1) := by decide +kernel
theorem dX8_goOn_31 : decode cX8_goOn 31 = .ok (.getfield 19, 3) := by decide +kernel
theorem dX8_goOn_34 : decode cX8_goOn 34 = .ok (.ifCond .ne 12, 3) := by decide +kernel
theorem dX8_goOn_37 : decode cX8_goOn 37 = .ok (.aload_n 0, 1) := by decide +kernel
theorem dX8_goOn_38 : decode cX8_goOn 38 = .ok (.aload_n 1, 1) := by decide +kernel
theorem dX8_goOn_39 : decode cX8_goOn 39 = .ok (.iload_n 2, 1) := by decide +kernel
theorem dX8_goOn_40 : decode cX8_goOn 40 = .ok (.invokevirtual 28, 3) := by decide +kernel
theorem dX8_goOn_43 : decode cX8_goOn 43 = .ok (.putfield 22, 3) := by decide +kernel
theorem dX8_goOn_46 : decode cX8_goOn 46 = .ok (.aload_n 0, 1) := by decide +kernel
theorem dX8_goOn_47 : decode cX8_goOn 47 = .ok (.getfield 9, 3) := by decide +kernel
theorem dX8_goOn_50 : decode cX8_goOn 50 = .ok (.aload_n 0, 1) := by decide +kernel
theorem dX8_goOn_51 : decode cX8_goOn 51 = .ok (.getfield 19, 3) := by decide +kernel
theorem dX8_goOn_54 : decode cX8_goOn 54 = .ok (.iload_n 2, 1) := by decide +kernel
theorem dX8_goOn_55 : decode cX8_goOn 55 = .ok (.iastore, 1) := by decide +kernel
theorem dX8_goOn_56 : decode cX8_goOn 56 = .ok (.aload_n 0, 1) := by decide +kernel
theorem dX8_goOn_57 : decode cX8_goOn 57 = .ok (.dup, 1) := by decide +kernel
theorem dX8_goOn_58 : decode cX8_goOn 58 = .ok (.getfield 19, 3) := by decide +kernel
theorem dX8_goOn_61 : decode cX8_goOn 61 = .ok (.iconst 1, 1) := by decide +kernel
theorem dX8_goOn_62 : decode cX8_goOn 62 = .ok (.iadd, 1) := by decide +kernel
theorem dX8_goOn_63 : decode cX8_goOn 63 = .ok (.putfield 19, 3) := by decide +kernel
theorem dX8_goOn_66 : decode cX8_goOn 66 = .ok (.aload_n 0, 1) := by decide +kernel
theorem dX8_goOn_67 : decode cX8_goOn 67 = .ok (.aload_n 1, 1) := by decide +kernel
theorem dX8_goOn_68 : decode cX8_goOn 68 = .ok (.iload_n 2, 1) := by decide +kernel
theorem dX8_goOn_69 : decode cX8_goOn 69 = .ok (.invokevirtual 34, 3) := by decide +kernel
theorem dX8_goOn_72 : decode cX8_goOn 72 = .ok (.putfield 25, 3) := by decide +kernel
theorem dX8_goOn_75 : decode cX8_goOn 75 = .ok (.iconst 1, 1) := by decide +kernel
theorem dX8_goOn_76 : decode cX8_goOn 76 = .ok (.ireturn, 1) := by decide +kernel
theorem dX8_isRim_0 : decode cX8_isRim 0 = .ok (.aload_n 0, 1) := by decide +kernel
theorem dX8_isRim_1 : decode cX8_isRim 1 = .ok (.getfield 19, 3) := by decide +kernel
theorem dX8_isRim_4 : decode cX8_isRim 4 = .ok (.ifCond .le 18, 3) := by decide +kernel
theorem dX8_isRim_7 : decode cX8_isRim 7 = .ok (.aload_n 0, 1) := by decide +kernel
theorem dX8_isRim_8 : decode cX8_isRim 8 = .ok (.getfield 22, 3) := by decide +kernel
theorem dX8_isRim_11 : decode cX8_isRim 11 = .ok (.aload_n 0, 1) := by decide +kernel
theorem dX8_isRim_12 : decode cX8_isRim 12 = .ok (.getfield 25, 3) := by decide +kernel
theorem dX8_isRim_15 : decode cX8_isRim 15 = .ok (.if_icmp .ne 7, 3) := by decide +kernel
theorem dX8_isRim_18 : decode cX8_isRim 18 = .ok (.iconst 1, 1) := by decide +kernel
theorem dX8_isRim_19 : decode cX8_isRim 19 = .ok (.goto 4, 3) := by decide +kernel
theorem dX8_isRim_22 : decode cX8_isRim 22 = .ok (.iconst 0, 1) := by decide +kernel
theorem dX8_isRim_23 : decode cX8_isRim 23 = .ok (.ireturn, 1) := by decide +kernel
theorem dX8_takeReduced_0 : decode cX8_takeReduced 0 = .ok (.aload_n 0, 1) := by decide +kernel
theorem dX8_takeReduced_1 : decode cX8_takeReduced 1 = .ok (.iconst 0, 1) := by decide +kernel
theorem dX8_takeReduced_2 : decode cX8_takeReduced 2 = .ok (.putfield 19, 3) := by decide +kernel
theorem dX8_takeReduced_5 : decode cX8_takeReduced 5 = .ok (.aload_n 0, 1) := by decide +kernel
theorem dX8_takeReduced_6 : decode cX8_takeReduced 6 = .ok (.aload_n 1, 1) := by decide +kernel
theorem dX8_takeReduced_7 : decode cX8_takeReduced 7 = .ok (.getfield 22, 3) := by decide +kernel
theorem dX8_takeReduced_10 : decode cX8_takeReduced 10 = .ok (.putfield 22, 3) := by decide +kernel
theorem dX8_takeReduced_13 : decode cX8_takeReduced 13 = .ok (.aload_n 0, 1) := by decide +kernel
theorem dX8_takeReduced_14 : decode cX8_takeReduced 14 = .ok (.aload_n 1, 1) := by decide +kernel
theorem dX8_takeReduced_15 : decode cX8_takeReduced 15 = .ok (.getfield 25, 3) := by decide +kernel
theorem dX8_takeReduced_18 : decode cX8_takeReduced 18 = .ok (.putfield 25, 3) := by decide +kernel
theorem dX8_takeReduced_21 : decode cX8_takeReduced 21 = .ok (.iconst 0, 1) := by decide +kernel
theorem dX8_takeReduced_22 : decode cX8_takeReduced 22 = .ok (.istore_n 2, 1) := by decide +kernel
theorem dX8_takeReduced_23 : decode cX8_takeReduced 23 = .ok (.iload_n 2, 1) := by decide +kernel
theorem dX8_takeReduced_24 : decode cX8_takeReduced 24 = .ok (.aload_n 1, 1) := by decide +kernel
theorem dX8_takeReduced_25 : decode cX8_takeReduced 25 = .ok (.getfield 19, 3) := by decide +kernel
theorem dX8_takeReduced_28 : decode cX8_takeReduced 28 = .ok (.if_icmp .ge 76, 3) := by decide +kernel
theorem dX8_takeReduced_31 : decode cX8_takeReduced 31 = .ok (.aload_n 0, 1) := by decide +kernel
theorem dX8_takeReduced_32 : decode cX8_takeReduced 32 = .ok (.getfield 19, 3) := by decide +kernel
theorem dX8_takeReduced_35 : decode cX8_takeReduced 35 = .ok (.ifCond .le 38, 3) := by decide +kernel
theorem dX8_takeReduced_38 : decode cX8_takeReduced 38 = .ok (.aload_n 0, 1) := by decide +kernel
theorem dX8_takeReduced_39 : decode cX8_takeReduced 39 = .ok (.getfield 9, 3) := by decide +kernel
theorem dX8_takeReduced_42 : decode cX8_takeReduced 42 = .ok (.aload_n 0, 1) := by decide +kernel
theorem dX8_takeReduced_43 : decode cX8_takeReduced 43 = .ok (.getfield 19, 3) := by decide +kernel
theorem dX8_takeReduced_46 : decode cX8_takeReduced 46 = .ok (.iconst 1, 1) := by decide +kernel
theorem dX8_takeReduced_47 : decode cX8_takeReduced 47 = .ok (.isub, 1) := by decide +kernel
theorem dX8_takeReduced_48 : decode cX8_takeReduced 48 = .ok (.iaload, 1) := by decide +kernel
theorem dX8_takeReduced_49 : decode cX8_takeReduced 49 = .ok (.aload_n 1, 1) := by decide +kernel
theorem dX8_takeReduced_50 : decode cX8_takeReduced 50 = .ok (.getfield 9, 3) := by decide +kernel
theorem dX8_takeReduced_53 : decode cX8_takeReduced 53 = .ok (.iload_n 2, 1) := by decide +kernel
theorem dX8_takeReduced_54 : decode cX8_takeReduced 54 = .ok (.iaload, 1) := by decide +kernel
theorem dX8_takeReduced_55 : decode cX8_takeReduced 55 = .ok (.iconst 1, 1) := by decide +kernel
theorem dX8_takeReduced_56 : decode cX8_takeReduced 56 = .ok (.ixor, 1) := by decide +kernel
theorem dX8_takeReduced_57 : decode cX8_takeReduced 57 = .ok (.if_icmp .ne 16, 3) := by decide +kernel
theorem dX8_takeReduced_60 : decode cX8_takeReduced 60 = .ok (.aload_n 0, 1) := by decide +kernel
theorem dX8_takeReduced_61 : decode cX8_takeReduced 61 = .ok (.dup, 1) := by decide +kernel
theorem dX8_takeReduced_62 : decode cX8_takeReduced 62 = .ok (.getfield 19, 3) := by decide +kernel
theorem dX8_takeReduced_65 : decode cX8_takeReduced 65 = .ok (.iconst 1, 1) := by decide +kernel
theorem dX8_takeReduced_66 : decode cX8_takeReduced 66 = .ok (.isub, 1) := by decide +kernel
theorem dX8_takeReduced_67 : decode cX8_takeReduced 67 = .ok (.putfield 19, 3) := by decide +kernel
theorem dX8_takeReduced_70 : decode cX8_takeReduced 70 = .ok (.goto 28, 3) := by decide +kernel
theorem dX8_takeReduced_73 : decode cX8_takeReduced 73 = .ok (.aload_n 0, 1) := by decide +kernel
theorem dX8_takeReduced_74 : decode cX8_takeReduced 74 = .ok (.getfield 9, 3) := by decide +kernel
theorem dX8_takeReduced_77 : decode cX8_takeReduced 77 = .ok (.aload_n 0, 1) := by decide +kernel
theorem dX8_takeReduced_78 : decode cX8_takeReduced 78 = .ok (.getfield 19, 3) := by decide +kernel
theorem dX8_takeReduced_81 : decode cX8_takeReduced 81 = .ok (.aload_n 1, 1) := by decide +kernel
theorem dX8_takeReduced_82 : decode cX8_takeReduced 82 = .ok (.getfield 9, 3) := by decide +kernel
theorem dX8_takeReduced_85 : decode cX8_takeReduced 85 = .ok (.iload_n 2, 1) := by decide +kernel
theorem dX8_takeReduced_86 : decode cX8_takeReduced 86 = .ok (.iaload, 1) := by decide +kernel
theorem dX8_takeReduced_87 : decode cX8_takeReduced 87 = .ok (.iastore, 1) := by decide +kernel
theorem dX8_takeReduced_88 : decode cX8_takeReduced 88 = .ok (.aload_n 0, 1) := by decide +kernel
theorem dX8_takeReduced_89 : decode cX8_takeReduced 89 = .ok (.dup, 1) := by decide +kernel
theorem dX8_takeReduced_90 : decode cX8_takeReduced 90 = .ok (.getfield 19, 3) := by decide +kernel
theorem dX8_takeReduced_93 : decode cX8_takeReduced 93 = .ok (.iconst 1, 1) := by decide +kernel
theorem dX8_takeReduced_94 : decode cX8_takeReduced 94 = .ok (.iadd, 1) := by decide +kernel
theorem dX8_takeReduced_95 : decode cX8_takeReduced 95 = .ok (.putfield 19, 3) := by decide +kernel
theorem dX8_takeReduced_98 : decode cX8_takeReduced 98 = .ok (.iinc 2 1, 3) := by decide +kernel
theorem dX8_takeReduced_101 : decode cX8_takeReduced 101 = .ok (.goto (-78), 3) := by decide +kernel
theorem dX8_takeReduced_104 : decode cX8_takeReduced 104 = .ok (.return_, 1) := by decide +kernel
theorem dX9_init_0 : decode cX9_init 0 = .ok (.aload_n 0, 1) := by decide +kernel
theorem dX9_init_1 : decode cX9_init 1 = .ok (.invokespecial 3, 3) := by decide +kernel
theorem dX9_init_4 : decode cX9_init 4 = .ok (.aload_n 0, 1) := by decide +kernel
theorem dX9_init_5 : decode cX9_init 5 = .ok (.iconst 2, 1) := by decide +kernel
theorem dX9_init_6 : decode cX9_init 6 = .ok (.anewarray 9, 3) := by decide +kernel
theorem dX9_init_9 : decode cX9_init 9 = .ok (.putfield 11, 3) := by decide +kernel
theorem dX9_init_12 : decode cX9_init 12 = .ok (.aload_n 0, 1) := by decide +kernel
theorem dX9_init_13 : decode cX9_init 13 = .ok (.new 15, 3) := by decide +kernel
theorem dX9_init_16 : decode cX9_init 16 = .ok (.dup, 1) := by decide +kernel
theorem dX9_init_17 : decode cX9_init 17 = .ok (.invokespecial 17, 3) := by decide +kernel
theorem dX9_init_20 : decode cX9_init 20 = .ok (.putfield 18, 3) := by decide +kernel
theorem dX9_init_23 : decode cX9_init 23 = .ok (.aload_n 0, 1) := by decide +kernel
theorem dX9_init_24 : decode cX9_init 24 = .ok (.iconst 4, 1) := by decide +kernel
theorem dX9_init_25 : decode cX9_init 25 = .ok (.anewarray 22, 3) := by decide +kernel
theorem dX9_init_28 : decode cX9_init 28 = .ok (.putfield 24, 3) := by decide +kernel
theorem dX9_init_31 : decode cX9_init 31 = .ok (.aload_n 0, 1) := by decide +kernel
theorem dX9_init_32 : decode cX9_init 32 = .ok (.iconst 4, 1) := by decide +kernel
theorem dX9_init_33 : decode cX9_init 33 = .ok (.anewarray 28, 3) := by decide +kernel
theorem dX9_init_36 : decode cX9_init 36 = .ok (.putfield 30, 3) := by decide +kernel
theorem dX9_init_39 : decode cX9_init 39 = .ok (.aload_n 0, 1) := by decide +kernel
theorem dX9_init_40 : decode cX9_init 40 = .ok (.iconst 5, 1) := by decide +kernel
theorem dX9_init_41 : decode cX9_init 41 = .ok (.anewarray 34, 3) := by decide +kernel
theorem dX9_init_44 : decode cX9_init 44 = .ok (.putfield 36, 3) := by decide +kernel
theorem dX9_init_47 : decode cX9_init 47 = .ok (.aload_n 0, 1) := by decide +kernel
theorem dX9_init_48 : decode cX9_init 48 = .ok (.new 40, 3) := by decide +kernel
theorem dX9_init_51 : decode cX9_init 51 = .ok (.dup, 1) := by decide +kernel
theorem dX9_init_52 : decode cX9_init 52 = .ok (.invokespecial 42, 3) := by decide +kernel
theorem dX9_init_55 : decode cX9_init 55 = .ok (.putfield 43, 3) := by decide +kernel
theorem dX9_init_58 : decode cX9_init 58 = .ok (.aload_n 0, 1) := by decide +kernel
theorem dX9_init_59 : decode cX9_init 59 = .ok (.new 22, 3) := by decide +kernel
theorem dX9_init_62 : decode cX9_init 62 = .ok (.dup, 1) := by decide +kernel
theorem dX9_init_63 : decode cX9_init 63 = .ok (.invokespecial 47, 3) := by decide +kernel
theorem dX9_init_66 : decode cX9_init 66 = .ok (.putfield 48, 3) := by decide +kernel
theorem dX9_init_69 : decode cX9_init 69 = .ok (.aload_n 0, 1) := by decide +kernel
theorem dX9_init_70 : decode cX9_init 70 = .ok (.new 52, 3) := by decide +kernel
theorem dX9_init_73 : decode cX9_init 73 = .ok (.dup, 1) := by decide +kernel
theorem dX9_init_74 : decode cX9_init 74 = .ok (.invokespecial 54, 3) := by decide +kernel
theorem dX9_init_77 : decode cX9_init 77 = .ok (.putfield 55, 3) := by decide +kernel
theorem dX9_init_80 : decode cX9_init 80 = .ok (.aload_n 0, 1) := by decide +kernel
theorem dX9_init_81 : decode cX9_init 81 = .ok (.new 59, 3) := by decide +kernel
theorem dX9_init_84 : decode cX9_init 84 = .ok (.dup, 1) := by decide +kernel
theorem dX9_init_85 : decode cX9_init 85 = .ok (.invokespecial 61, 3) := by decide +kernel
theorem dX9_init_88 : decode cX9_init 88 = .ok (.putfield 62, 3) := by decide +kernel
theorem dX9_init_91 : decode cX9_init 91 = .ok (.aload_n 0, 1) := by decide +kernel
theorem dX9_init_92 : decode cX9_init 92 = .ok (.new 66, 3) := by decide +kernel
theorem dX9_init_95 : decode cX9_init 95 = .ok (.dup, 1) := by decide +kernel
theorem dX9_init_96 : decode cX9_init 96 = .ok (.invokespecial 68, 3) := by decide +kernel
theorem dX9_init_99 : decode cX9_init 99 = .ok (.putfield 69, 3) := by decide +kernel
theorem dX9_init_102 : decode cX9_init 102 = .ok (.aload_n 0, 1) := by decide +kernel
theorem dX9_init_103 : decode cX9_init 103 = .ok (.new 9, 3) := by decide +kernel
theorem dX9_init_106 : decode cX9_init 106 = .ok (.dup, 1) := by decide +kernel
theorem dX9_init_107 : decode cX9_init 107 = .ok (.bipush 8, 2) := by decide +kernel
theorem dX9_init_109 : decode cX9_init 109 = .ok (.bipush 12, 2) := by decide +kernel
theorem dX9_init_111 : decode cX9_init 111 = .ok (.bipush 8, 2) := by decide +kernel
theorem dX9_init_113 : decode cX9_init 113 = .ok (.invokespecial 73, 3) := by decide +kernel
theorem dX9_init_116 : decode cX9_init 116 = .ok (.putfield 76, 3) := by decide +kernel
theorem dX9_init_119 : decode cX9_init 119 = .ok (.iconst 0, 1) := by decide +kernel
theorem dX9_init_120 : decode cX9_init 120 = .ok (.istore_n 1, 1) := by decide +kernel
theorem dX9_init_121 : decode cX9_init 121 = .ok (.iload_n 1, 1) := by decide +kernel
theorem dX9_init_122 : decode cX9_init 122 = .ok (.aload_n 0, 1) := by decide +kernel
theorem dX9_init_123 : decode cX9_init 123 = .ok (.getfield 11, 3) := by decide +kernel
theorem dX9_init_126 : decode cX9_init 126 = .ok (.arraylength, 1) := by decide +kernel
theorem dX9_init_127 : decode cX9_init 127 = .ok (.if_icmp .ge 28, 3) := by decide +kernel
theorem dX9_init_130 : decode cX9_init 130 = .ok (.aload_n 0, 1) := by decide +kernel
theorem dX9_init_131 : decode cX9_init 131 = .ok (.getfield 11, 3) := by decide +kernel
theorem dX9_init_134 : decode cX9_init 134 = .ok (.iload_n 1, 1) := by decide +kernel
theorem dX9_init_135 : decode cX9_init 135 = .ok (.new 9, 3) := by decide +kernel
theorem dX9_init_138 : decode cX9_init 138 = .ok (.dup, 1) := by decide +kernel
theorem dX9_init_139 : decode cX9_init 139 = .ok (.bipush 8, 2) := by decide +kernel
theorem dX9_init_141 : decode cX9_init 141 = .ok (.bipush 12, 2) := by decide +kernel
theorem dX9_init_143 : decode cX9_init 143 = .ok (.bipush 8, 2) := by decide +kernel
theorem dX9_init_145 : decode cX9_init 145 = .ok (.invokespecial 73, 3) := by decide +kernel
theorem dX9_init_148 : decode cX9_init 148 = .ok (.aastore, 1) := by decide +kernel
theorem dX9_init_149 : decode cX9_init 149 = .ok (.iinc 1 1, 3) := by decide +kernel
theorem dX9_init_152 : decode cX9_init 152 = .ok (.goto (-31), 3) := by decide +kernel
theorem dX9_init_155 : decode cX9_init 155 = .ok (.iconst 0, 1) := by decide +kernel
theorem dX9_init_156 : decode cX9_init 156 = .ok (.istore_n 1, 1) := by decide +kernel
theorem dX9_init_157 : decode cX9_init 157 = .ok (.iload_n 1, 1) := by decide +kernel
theorem dX9_init_158 : decode cX9_init 158 = .ok (.iconst 4, 1) := by decide +kernel
theorem dX9_init_159 : decode cX9_init 159 = .ok (.if_icmp .ge 22, 3) := by decide +kernel
theorem dX9_init_162 : decode cX9_init 162 = .ok (.aload_n 0, 1) := by decide +kernel
theorem dX9_init_163 : decode cX9_init 163 = .ok (.getfield 24, 3) := by decide +kernel
theorem dX9_init_166 : decode cX9_init 166 = .ok (.iload_n 1, 1) := by decide +kernel
theorem dX9_init_167 : decode cX9_init 167 = .ok (.new 22, 3) := by decide +kernel
theorem dX9_init_170 : decode cX9_init 170 = .ok (.dup, 1) := by decide +kernel
theorem dX9_init_171 : decode cX9_init 171 = .ok (.invokespecial 47, 3) := by decide +kernel
theorem dX9_init_174 : decode cX9_init 174 = .ok (.aastore, 1) := by decide +kernel
theorem dX9_init_175 : decode cX9_init 175 = .ok (.iinc 1 1, 3) := by decide +kernel
theorem dX9_init_178 : decode cX9_init 178 = .ok (.goto (-21), 3) := by decide +kernel
theorem dX9_init_181 : decode cX9_init 181 = .ok (.iconst 0, 1) := by decide +kernel
theorem dX9_init_182 : decode cX9_init 182 = .ok (.istore_n 1, 1) := by decide +kernel
theorem dX9_init_183 : decode cX9_init 183 = .ok (.iload_n 1, 1) := by decide +kernel
theorem dX9_init_184 : decode cX9_init 184 = .ok (.iconst 4, 1) := by decide +kernel
theorem dX9_init_185 : decode cX9_init 185 = .ok (.if_icmp .ge 22, 3) := by decide +kernel
theorem dX9_init_188 : decode cX9_init 188 = .ok (.aload_n 0, 1) := by decide +kernel
theorem dX9_init_189 : decode cX9_init 189 = .ok (.getfield 30, 3) := by decide +kernel
theorem dX9_init_192 : decode cX9_init 192 = .ok (.iload_n 1, 1) := by decide +kernel
theorem dX9_init_193 : decode cX9_init 193 = .ok (.new 28, 3) := by decide +kernel
theorem dX9_init_196 : decode cX9_init 196 = .ok (.dup, 1) := by decide +kernel
theorem dX9_init_197 : decode cX9_init 197 = .ok (.invokespecial 80, 3) := by decide +kernel
theorem dX9_init_200 : decode cX9_init 200 = .ok (.aastore, 1) := by decide +kernel
theorem dX9_init_201 : decode cX9_init 201 = .ok (.iinc 1 1, 3) := by decide +kernel
theorem dX9_init_204 : decode cX9_init 204 = .ok (.goto (-21), 3) := by decide +kernel
theorem dX9_init_207 : decode cX9_init 207 = .ok (.iconst 2, 1) := by decide +kernel
theorem dX9_init_208 : decode cX9_init 208 = .ok (.istore_n 1, 1) := by decide +kernel
theorem dX9_init_209 : decode cX9_init 209 = .ok (.iload_n 1, 1) := by decide +kernel
theorem dX9_init_210 : decode cX9_init 210 = .ok (.iconst 4, 1) := by decide +kernel
theorem dX9_init_211 : decode cX9_init 211 = .ok (.if_icmp .gt 23, 3) := by decide +kernel
theorem dX9_init_214 : decode cX9_init 214 = .ok (.aload_n 0, 1) := by decide +kernel
theorem dX9_init_215 : decode cX9_init 215 = .ok (.getfield 36, 3) := by decide +kernel
theorem dX9_init_218 : decode cX9_init 218 = .ok (.iload_n 1, 1) := by decide +kernel
theorem dX9_init_219 : decode cX9_init 219 = .ok (.new 34, 3) := by decide +kernel
theorem dX9_init_222 : decode cX9_init 222 = .ok (.dup, 1) := by decide +kernel
theorem dX9_init_223 : decode cX9_init 223 = .ok (.iload_n 1, 1) := by decide +kernel
theorem dX9_init_224 : decode cX9_init 224 = .ok (.invokespecial 81, 3) := by decide +kernel
theorem dX9_init_227 : decode cX9_init 227 = .ok (.aastore, 1) := by decide +kernel
theorem dX9_init_228 : decode cX9_init 228 = .ok (.iinc 1 1, 3) := by decide +kernel
theorem dX9_init_231 : decode cX9_init 231 = .ok (.goto (-22), 3) := by decide +kernel
theorem dX9_init_234 : decode cX9_init 234 = .ok (.return_, 1) := by decide +kernel
theorem dX9_corners_0 : decode cX9_corners 0 = .ok (.iload_n 1, 1) := by decide +kernel
theorem dX9_corners_1 : decode cX9_corners 1 = .ok (.invokestatic 84, 3) := by decide +kernel
theorem dX9_corners_4 : decode cX9_corners 4 = .ok (.ifCond .eq 14, 3) := by decide +kernel
theorem dX9_corners_7 : decode cX9_corners 7 = .ok (.iload_n 2, 1) := by decide +kernel
theorem dX9_corners_8 : decode cX9_corners 8 = .ok (.iconst 1, 1) := by decide +kernel
theorem dX9_corners_9 : decode cX9_corners 9 = .ok (.if_icmp .lt 9, 3) := by decide +kernel
theorem dX9_corners_12 : decode cX9_corners 12 = .ok (.iload_n 2, 1) := by decide +kernel
theorem dX9_corners_13 : decode cX9_corners 13 = .ok (.bipush 8, 2) := by decide +kernel
theorem dX9_corners_15 : decode cX9_corners 15 = .ok (.if_icmp .le 5, 3) := by decide +kernel
theorem dX9_corners_18 : decode cX9_corners 18 = .ok (.iconst (-1), 1) := by decide +kernel
theorem dX9_corners_19 : decode cX9_corners 19 = .ok (.ireturn, 1) := by decide +kernel
theorem dX9_corners_20 : decode cX9_corners 20 = .ok (.aload_n 0, 1) := by decide +kernel
theorem dX9_corners_21 : decode cX9_corners 21 = .ok (.getfield 11, 3) := by decide +kernel
theorem dX9_corners_24 : decode cX9_corners 24 = .ok (.iload_n 1, 1) := by decide +kernel
theorem dX9_corners_25 : decode cX9_corners 25 = .ok (.aaload, 1) := by decide +kernel
theorem dX9_corners_26 : decode cX9_corners 26 = .ok (.getfield 88, 3) := by decide +kernel
theorem dX9_corners_29 : decode cX9_corners 29 = .ok (.istore_n 3, 1) := by decide +kernel
theorem dX9_corners_30 : decode cX9_corners 30 = .ok (.aload_n 0, 1) := by decide +kernel
theorem dX9_corners_31 : decode cX9_corners 31 = .ok (.getfield 11, 3) := by decide +kernel
theorem dX9_corners_34 : decode cX9_corners 34 = .ok (.iload_n 1, 1) := by decide +kernel
theorem dX9_corners_35 : decode cX9_corners 35 = .ok (.aaload, 1) := by decide +kernel
theorem dX9_corners_36 : decode cX9_corners 36 = .ok (.iload_n 2, 1) := by decide +kernel
theorem dX9_corners_37 : decode cX9_corners 37 = .ok (.invokevirtual 92, 3) := by decide +kernel
theorem dX9_corners_40 : decode cX9_corners 40 = .ok (.aload_n 0, 1) := by decide +kernel
theorem dX9_corners_41 : decode cX9_corners 41 = .ok (.getfield 11, 3) := by decide +kernel
theorem dX9_corners_44 : decode cX9_corners 44 = .ok (.iload_n 1, 1) := by decide +kernel
theorem dX9_corners_45 : decode cX9_corners 45 = .ok (.aaload, 1) := by decide +kernel
theorem dX9_corners_46 : decode cX9_corners 46 = .ok (.invokevirtual 95, 3) := by decide +kernel
theorem dX9_corners_49 : decode cX9_corners 49 = .ok (.aload_n 0, 1) := by decide +kernel
theorem dX9_corners_50 : decode cX9_corners 50 = .ok (.iload_n 1, 1) := by decide +kernel
theorem dX9_corners_51 : decode cX9_corners 51 = .ok (.invokevirtual 98, 3) := by decide +kernel
theorem dX9_corners_54 : decode cX9_corners 54 = .ok (.iload_n 3, 1) := by decide +kernel
theorem dX9_corners_55 : decode cX9_corners 55 = .ok (.ireturn, 1) := by decide +kernel
theorem dX9_edge_0 : decode cX9_edge 0 = .ok (.iload_n 1, 1) := by decide +kernel
theorem dX9_edge_1 : decode cX9_edge 1 = .ok (.invokestatic 84, 3) := by decide +kernel
theorem dX9_edge_4 : decode cX9_edge 4 = .ok (.ifCond .ne 5, 3) := by decide +kernel
theorem dX9_edge_7 : decode cX9_edge 7 = .ok (.iconst (-1), 1) := by decide +kernel
theorem dX9_edge_8 : decode cX9_edge 8 = .ok (.ireturn, 1) := by decide +kernel
theorem dX9_edge_9 : decode cX9_edge 9 = .ok (.aload_n 0, 1) := by decide +kernel
theorem dX9_edge_10 : decode cX9_edge 10 = .ok (.getfield 11, 3) := by decide +kernel
theorem dX9_edge_13 : decode cX9_edge 13 = .ok (.iload_n 1, 1) := by decide +kernel
theorem dX9_edge_14 : decode cX9_edge 14 = .ok (.aaload, 1) := by decide +kernel
theorem dX9_edge_15 : decode cX9_edge 15 = .ok (.astore 4, 2) := by decide +kernel
theorem dX9_edge_17 : decode cX9_edge 17 = .ok (.aload 4, 2) := by decide +kernel
theorem dX9_edge_19 : decode cX9_edge 19 = .ok (.iload_n 2, 1) := by decide +kernel
theorem dX9_edge_20 : decode cX9_edge 20 = .ok (.invokevirtual 101, 3) := by decide +kernel
theorem dX9_edge_23 : decode cX9_edge 23 = .ok (.ifCond .eq 12, 3) := by decide +kernel
theorem dX9_edge_26 : decode cX9_edge 26 = .ok (.aload 4, 2) := by decide +kernel
theorem dX9_edge_28 : decode cX9_edge 28 = .ok (.iload_n 3, 1) := by decide +kernel
theorem dX9_edge_29 : decode cX9_edge 29 = .ok (.invokevirtual 101, 3) := by decide +kernel
theorem dX9_edge_32 : decode cX9_edge 32 = .ok (.ifCond .ne 5, 3) := by decide +kernel
theorem dX9_edge_35 : decode cX9_edge 35 = .ok (.iconst (-1), 1) := by decide +kernel
theorem dX9_edge_36 : decode cX9_edge 36 = .ok (.ireturn, 1) := by decide +kernel
theorem dX9_edge_37 : decode cX9_edge 37 = .ok (.aload 4, 2) := by decide +kernel
theorem dX9_edge_39 : decode cX9_edge 39 = .ok (.getfield 104, 3) := by decide +kernel
theorem dX9_edge_42 : decode cX9_edge 42 = .ok (.bipush 12, 2) := by decide +kernel
theorem dX9_edge_44 : decode cX9_edge 44 = .ok (.if_icmp .lt 6, 3) := by decide +kernel
theorem dX9_edge_47 : decode cX9_edge 47 = .ok (.bipush (-3), 2) := by decide +kernel
theorem dX9_edge_49 : decode cX9_edge 49 = .ok (.ireturn, 1) := by decide +kernel
theorem dX9_edge_50 : decode cX9_edge 50 = .ok (.aload 4, 2) := by decide +kernel
theorem dX9_edge_52 : decode cX9_edge 52 = .ok (.iload_n 2, 1) := by decide +kernel
theorem dX9_edge_53 : decode cX9_edge 53 = .ok (.iload_n 3, 1) := by decide +kernel
theorem dX9_edge_54 : decode cX9_edge 54 = .ok (.invokevirtual 107, 3) := by decide +kernel
theorem dX9_edge_57 : decode cX9_edge 57 = .ok (.aload 4, 2) := by decide +kernel
theorem dX9_edge_59 : decode cX9_edge 59 = .ok (.invokevirtual 95, 3) := by decide +kernel
theorem dX9_edge_62 : decode cX9_edge 62 = .ok (.aload 4, 2) := by decide +kernel
theorem dX9_edge_64 : decode cX9_edge 64 = .ok (.getfield 104, 3) := by decide +kernel
theorem dX9_edge_67 : decode cX9_edge 67 = .ok (.iconst 1, 1) := by decide +kernel
theorem dX9_edge_68 : decode cX9_edge 68 = .ok (.isub, 1) := by decide +kernel
theorem dX9_edge_69 : decode cX9_edge 69 = .ok (.ireturn, 1) := by decide +kernel
theorem dX9_type_0 : decode cX9_type 0 = .ok (.iload_n 3, 1) := by decide +kernel
theorem dX9_type_1 : decode cX9_type 1 = .ok (.iconst 1, 1) := by decide +kernel
theorem dX9_type_2 : decode cX9_type 2 = .ok (.if_icmp .lt 17, 3) := by decide +kernel
theorem dX9_type_5 : decode cX9_type 5 = .ok (.iload_n 3, 1) := by decide +kernel
theorem dX9_type_6 : decode cX9_type 6 = .ok (.bipush 8, 2) := by decide +kernel
theorem dX9_type_8 : decode cX9_type 8 = .ok (.if_icmp .gt 11, 3) := by decide +kernel
theorem dX9_type_11 : decode cX9_type 11 = .ok (.lload_n 1, 1) := by decide +kernel
theorem dX9_type_12 : decode cX9_type 12 = .ok (.iload_n 3, 1) := by decide +kernel
theorem dX9_type_13 : decode cX9_type 13 = .ok (.invokestatic 111, 3) := by decide +kernel
theorem dX9_type_16 : decode cX9_type 16 = .ok (.ifCond .ne 5, 3) := by decide +kernel
theorem dX9_type_19 : decode cX9_type 19 = .ok (.iconst (-1), 1) := by decide +kernel
theorem dX9_type_20 : decode cX9_type 20 = .ok (.ireturn, 1) := by decide +kernel
theorem dX9_type_21 : decode cX9_type 21 = .ok (.aload_n 0, 1) := by decide +kernel
theorem dX9_type_22 : decode cX9_type 22 = .ok (.getfield 43, 3) := by decide +kernel
theorem dX9_type_25 : decode cX9_type 25 = .ok (.getfield 115, 3) := by decide +kernel
theorem dX9_type_28 : decode cX9_type 28 = .ok (.iload_n 3, 1) := by decide +kernel
theorem dX9_type_29 : decode cX9_type 29 = .ok (.iadd, 1) := by decide +kernel
theorem dX9_type_30 : decode cX9_type 30 = .ok (.bipush 120, 2) := by decide +kernel
theorem dX9_type_32 : decode cX9_type 32 = .ok (.if_icmp .le 6, 3) := by decide +kernel
theorem dX9_type_35 : decode cX9_type 35 = .ok (.bipush (-3), 2) := by decide +kernel
theorem dX9_type_37 : decode cX9_type 37 = .ok (.ireturn, 1) := by decide +kernel
theorem dX9_type_38 : decode cX9_type 38 = .ok (.iload_n 3, 1) := by decide +kernel
theorem dX9_type_39 : decode cX9_type 39 = .ok (.iconst 1, 1) := by decide +kernel
theorem dX9_type_40 : decode cX9_type 40 = .ok (.isub, 1) := by decide +kernel
theorem dX9_type_41 : decode cX9_type 41 = .ok (.istore 4, 2) := by decide +kernel
theorem dX9_type_43 : decode cX9_type 43 = .ok (.iload 4, 2) := by decide +kernel
theorem dX9_type_45 : decode cX9_type 45 = .ok (.ifCond .lt 22, 3) := by decide +kernel
theorem dX9_type_48 : decode cX9_type 48 = .ok (.aload_n 0, 1) := by decide +kernel
theorem dX9_type_49 : decode cX9_type 49 = .ok (.getfield 43, 3) := by decide +kernel
theorem dX9_type_52 : decode cX9_type 52 = .ok (.lload_n 1, 1) := by decide +kernel
theorem dX9_type_53 : decode cX9_type 53 = .ok (.iload 4, 2) := by decide +kernel
theorem dX9_type_55 : decode cX9_type 55 = .ok (.invokestatic 118, 3) := by decide +kernel
theorem dX9_type_58 : decode cX9_type 58 = .ok (.invokevirtual 122, 3) := by decide +kernel
theorem dX9_type_61 : decode cX9_type 61 = .ok (.iinc 4 (-1), 3) := by decide +kernel
theorem dX9_type_64 : decode cX9_type 64 = .ok (.goto (-21), 3) := by decide +kernel
theorem dX9_type_67 : decode cX9_type 67 = .ok (.aload_n 0, 1) := by decide +kernel
theorem dX9_type_68 : decode cX9_type 68 = .ok (.getfield 43, 3) := by decide +kernel
theorem dX9_type_71 : decode cX9_type 71 = .ok (.getfield 115, 3) := by decide +kernel
theorem dX9_type_74 : decode cX9_type 74 = .ok (.ireturn, 1) := by decide +kernel
theorem dX9_face_0 : decode cX9_face 0 = .ok (.iload_n 1, 1) := by decide +kernel
theorem dX9_face_1 : decode cX9_face 1 = .ok (.invokestatic 84, 3) := by decide +kernel
theorem dX9_face_4 : decode cX9_face 4 = .ok (.ifCond .ne 5, 3) := by decide +kernel
theorem dX9_face_7 : decode cX9_face 7 = .ok (.iconst (-1), 1) := by decide +kernel
theorem dX9_face_8 : decode cX9_face 8 = .ok (.ireturn, 1) := by decide +kernel
theorem dX9_face_9 : decode cX9_face 9 = .ok (.aload_n 0, 1) := by decide +kernel
theorem dX9_face_10 : decode cX9_face 10 = .ok (.getfield 11, 3) := by decide +kernel
theorem dX9_face_13 : decode cX9_face 13 = .ok (.iload_n 1, 1) := by decide +kernel
theorem dX9_face_14 : decode cX9_face 14 = .ok (.aaload, 1) := by decide +kernel
theorem dX9_face_15 : decode cX9_face 15 = .ok (.astore_n 2, 1) := by decide +kernel
theorem dX9_face_16 : decode cX9_face 16 = .ok (.aload_n 0, 1) := by decide +kernel
theorem dX9_face_17 : decode cX9_face 17 = .ok (.getfield 43, 3) := by decide +kernel
theorem dX9_face_20 : decode cX9_face 20 = .ok (.invokevirtual 125, 3) := by decide +kernel
theorem dX9_face_23 : decode cX9_face 23 = .ok (.aload_n 0, 1) := by decide +kernel
theorem dX9_face_24 : decode cX9_face 24 = .ok (.getfield 43, 3) := by decide +kernel
theorem dX9_face_27 : decode cX9_face 27 = .ok (.aload_n 2, 1) := by decide +kernel
theorem dX9_face_28 : decode cX9_face 28 = .ok (.aload_n 0, 1) := by decide +kernel
theorem dX9_face_29 : decode cX9_face 29 = .ok (.getfield 48, 3) := by decide +kernel
theorem dX9_face_32 : decode cX9_face 32 = .ok (.invokevirtual 128, 3) := by decide +kernel
theorem dX9_face_35 : decode cX9_face 35 = .ok (.ifCond .eq 17, 3) := by decide +kernel
theorem dX9_face_38 : decode cX9_face 38 = .ok (.aload_n 0, 1) := by decide +kernel
theorem dX9_face_39 : decode cX9_face 39 = .ok (.getfield 43, 3) := by decide +kernel
theorem dX9_face_42 : decode cX9_face 42 = .ok (.invokevirtual 132, 3) := by decide +kernel
theorem dX9_face_45 : decode cX9_face 45 = .ok (.ifCond .eq 7, 3) := by decide +kernel
theorem dX9_face_48 : decode cX9_face 48 = .ok (.iconst 1, 1) := by decide +kernel
theorem dX9_face_49 : decode cX9_face 49 = .ok (.goto 4, 3) := by decide +kernel
theorem dX9_face_52 : decode cX9_face 52 = .ok (.iconst 0, 1) := by decide +kernel
theorem dX9_face_53 : decode cX9_face 53 = .ok (.istore_n 3, 1) := by decide +kernel
theorem dX9_face_54 : decode cX9_face 54 = .ok (.aload_n 0, 1) := by decide +kernel
theorem dX9_face_55 : decode cX9_face 55 = .ok (.getfield 43, 3) := by decide +kernel
theorem dX9_face_58 : decode cX9_face 58 = .ok (.invokevirtual 136, 3) := by decide +kernel
theorem dX9_face_61 : decode cX9_face 61 = .ok (.istore 4, 2) := by decide +kernel
theorem dX9_face_63 : decode cX9_face 63 = .ok (.aload_n 0, 1) := by decide +kernel
theorem dX9_face_64 : decode cX9_face 64 = .ok (.getfield 43, 3) := by decide +kernel
theorem dX9_face_67 : decode cX9_face 67 = .ok (.invokevirtual 140, 3) := by decide +kernel
theorem dX9_face_70 : decode cX9_face 70 = .ok (.iload_n 3, 1) := by decide +kernel
theorem dX9_face_71 : decode cX9_face 71 = .ok (.ifCond .ne 6, 3) := by decide +kernel
theorem dX9_face_74 : decode cX9_face 74 = .ok (.iload 4, 2) := by decide +kernel
theorem dX9_face_76 : decode cX9_face 76 = .ok (.ireturn, 1) := by decide +kernel
theorem dX9_face_77 : decode cX9_face 77 = .ok (.aload_n 2, 1) := by decide +kernel
theorem dX9_face_78 : decode cX9_face 78 = .ok (.getfield 143, 3) := by decide +kernel
theorem dX9_face_81 : decode cX9_face 81 = .ok (.bipush 8, 2) := by decide +kernel
theorem dX9_face_83 : decode cX9_face 83 = .ok (.if_icmp .lt 6, 3) := by decide +kernel
theorem dX9_face_86 : decode cX9_face 86 = .ok (.bipush (-3), 2) := by decide +kernel
theorem dX9_face_88 : decode cX9_face 88 = .ok (.ireturn, 1) := by decide +kernel
theorem dX9_face_89 : decode cX9_face 89 = .ok (.aload_n 2, 1) := by decide +kernel
theorem dX9_face_90 : decode cX9_face 90 = .ok (.aload_n 0, 1) := by decide +kernel
theorem dX9_face_91 : decode cX9_face 91 = .ok (.getfield 48, 3) := by decide +kernel
theorem dX9_face_94 : decode cX9_face 94 = .ok (.getfield 146, 3) := by decide +kernel
theorem dX9_face_97 : decode cX9_face 97 = .ok (.aload_n 0, 1) := by decide +kernel
theorem dX9_face_98 : decode cX9_face 98 = .ok (.getfield 48, 3) := by decide +kernel
theorem dX9_face_101 : decode cX9_face 101 = .ok (.getfield 150, 3) := by decide +kernel
theorem dX9_face_104 : decode cX9_face 104 = .ok (.invokevirtual 153, 3) := by decide +kernel
theorem dX9_face_107 : decode cX9_face 107 = .ok (.aload_n 2, 1) := by decide +kernel
theorem dX9_face_108 : decode cX9_face 108 = .ok (.getfield 143, 3) := by decide +kernel
theorem dX9_face_111 : decode cX9_face 111 = .ok (.iconst 1, 1) := by decide +kernel
theorem dX9_face_112 : decode cX9_face 112 = .ok (.isub, 1) := by decide +kernel
theorem dX9_face_113 : decode cX9_face 113 = .ok (.ireturn, 1) := by decide +kernel
theorem dX9_text_0 : decode cX9_text 0 = .ok (.iload_n 1, 1) := by decide +kernel
theorem dX9_text_1 : decode cX9_text 1 = .ok (.invokestatic 84, 3) := by decide +kernel
theorem dX9_text_4 : decode cX9_text 4 = .ok (.ifCond .ne 5, 3) := by decide +kernel
theorem dX9_text_7 : decode cX9_text 7 = .ok (.iconst (-1), 1) := by decide +kernel
theorem dX9_text_8 : decode cX9_text 8 = .ok (.ireturn, 1) := by decide +kernel
theorem dX9_text_9 : decode cX9_text 9 = .ok (.aload_n 0, 1) := by decide +kernel
theorem dX9_text_10 : decode cX9_text 10 = .ok (.getfield 43, 3) := by decide +kernel
theorem dX9_text_13 : decode cX9_text 13 = .ok (.invokevirtual 125, 3) := by decide +kernel
theorem dX9_text_16 : decode cX9_text 16 = .ok (.aload_n 0, 1) := by decide +kernel
theorem dX9_text_17 : decode cX9_text 17 = .ok (.getfield 43, 3) := by decide +kernel
theorem dX9_text_20 : decode cX9_text 20 = .ok (.aload_n 0, 1) := by decide +kernel
theorem dX9_text_21 : decode cX9_text 21 = .ok (.getfield 76, 3) := by decide +kernel
theorem dX9_text_24 : decode cX9_text 24 = .ok (.aload_n 0, 1) := by decide +kernel
theorem dX9_text_25 : decode cX9_text 25 = .ok (.getfield 48, 3) := by decide +kernel
theorem dX9_text_28 : decode cX9_text 28 = .ok (.invokevirtual 157, 3) := by decide +kernel
theorem dX9_text_31 : decode cX9_text 31 = .ok (.istore_n 2, 1) := by decide +kernel
theorem dX9_text_32 : decode cX9_text 32 = .ok (.aload_n 0, 1) := by decide +kernel
theorem dX9_text_33 : decode cX9_text 33 = .ok (.getfield 43, 3) := by decide +kernel
theorem dX9_text_36 : decode cX9_text 36 = .ok (.invokevirtual 136, 3) := by decide +kernel
theorem dX9_text_39 : decode cX9_text 39 = .ok (.istore_n 3, 1) := by decide +kernel
theorem dX9_text_40 : decode cX9_text 40 = .ok (.aload_n 0, 1) := by decide +kernel
theorem dX9_text_41 : decode cX9_text 41 = .ok (.getfield 43, 3) := by decide +kernel
theorem dX9_text_44 : decode cX9_text 44 = .ok (.invokevirtual 140, 3) := by decide +kernel
theorem dX9_text_47 : decode cX9_text 47 = .ok (.iload_n 2, 1) := by decide +kernel
theorem dX9_text_48 : decode cX9_text 48 = .ok (.ifCond .ne 5, 3) := by decide +kernel
theorem dX9_text_51 : decode cX9_text 51 = .ok (.iload_n 3, 1) := by decide +kernel
theorem dX9_text_52 : decode cX9_text 52 = .ok (.ireturn, 1) := by decide +kernel
theorem dX9_text_53 : decode cX9_text 53 = .ok (.aload_n 0, 1) := by decide +kernel
theorem dX9_text_54 : decode cX9_text 54 = .ok (.getfield 11, 3) := by decide +kernel
theorem dX9_text_57 : decode cX9_text 57 = .ok (.iload_n 1, 1) := by decide +kernel
theorem dX9_text_58 : decode cX9_text 58 = .ok (.aaload, 1) := by decide +kernel
theorem dX9_text_59 : decode cX9_text 59 = .ok (.astore 4, 2) := by decide +kernel
theorem dX9_text_61 : decode cX9_text 61 = .ok (.aload_n 0, 1) := by decide +kernel
theorem dX9_text_62 : decode cX9_text 62 = .ok (.getfield 11, 3) := by decide +kernel
theorem dX9_text_65 : decode cX9_text 65 = .ok (.iload_n 1, 1) := by decide +kernel
theorem dX9_text_66 : decode cX9_text 66 = .ok (.aload_n 0, 1) := by decide +kernel
theorem dX9_text_67 : decode cX9_text 67 = .ok (.getfield 76, 3) := by decide +kernel
theorem dX9_text_70 : decode cX9_text 70 = .ok (.aastore, 1) := by decide +kernel
theorem dX9_text_71 : decode cX9_text 71 = .ok (.aload_n 0, 1) := by decide +kernel
theorem dX9_text_72 : decode cX9_text 72 = .ok (.aload 4, 2) := by decide +kernel
theorem dX9_text_74 : decode cX9_text 74 = .ok (.putfield 76, 3) := by decide +kernel
theorem dX9_text_77 : decode cX9_text 77 = .ok (.aload_n 0, 1) := by decide +kernel
theorem dX9_text_78 : decode cX9_text 78 = .ok (.getfield 11, 3) := by decide +kernel
theorem dX9_text_81 : decode cX9_text 81 = .ok (.iload_n 1, 1) := by decide +kernel
theorem dX9_text_82 : decode cX9_text 82 = .ok (.aaload, 1) := by decide +kernel
theorem dX9_text_83 : decode cX9_text 83 = .ok (.invokevirtual 95, 3) := by decide +kernel
theorem dX9_text_86 : decode cX9_text 86 = .ok (.aload_n 0, 1) := by decide +kernel
theorem dX9_text_87 : decode cX9_text 87 = .ok (.iload_n 1, 1) := by decide +kernel
theorem dX9_text_88 : decode cX9_text 88 = .ok (.invokevirtual 98, 3) := by decide +kernel
theorem dX9_text_91 : decode cX9_text 91 = .ok (.aload_n 0, 1) := by decide +kernel
theorem dX9_text_92 : decode cX9_text 92 = .ok (.getfield 11, 3) := by decide +kernel
theorem dX9_text_95 : decode cX9_text 95 = .ok (.iload_n 1, 1) := by decide +kernel
theorem dX9_text_96 : decode cX9_text 96 = .ok (.aaload, 1) := by decide +kernel
theorem dX9_text_97 : decode cX9_text 97 = .ok (.getfield 143, 3) := by decide +kernel
theorem dX9_text_100 : decode cX9_text 100 = .ok (.ireturn, 1) := by decide +kernel
theorem dX9_count_0 : decode cX9_count 0 = .ok (.aload_n 0, 1) := by decide +kernel
theorem dX9_count_1 : decode cX9_count 1 = .ok (.iload_n 1, 1) := by decide +kernel
theorem dX9_count_2 : decode cX9_count 2 = .ok (.invokevirtual 160, 3) := by decide +kernel
theorem dX9_count_5 : decode cX9_count 5 = .ok (.astore_n 3, 1) := by decide +kernel
theorem dX9_count_6 : decode cX9_count 6 = .ok (.aload_n 3, 1) := by decide +kernel
theorem dX9_count_7 : decode cX9_count 7 = .ok (.ifnonnull 7, 3) := by decide +kernel
theorem dX9_count_10 : decode cX9_count 10 = .ok (.sipush (-1001), 3) := by decide +kernel
theorem dX9_count_13 : decode cX9_count 13 = .ok (.ireturn, 1) := by decide +kernel
theorem dX9_count_14 : decode cX9_count 14 = .ok (.iload_n 2, 1) := by decide +kernel
theorem dX9_count_15 : decode cX9_count 15 = .ok (.tableswitch 77 0 5 #[37, 42, 47, 52, 67, 72], 37) := by decide +kernel
theorem dX9_count_52 : decode cX9_count 52 = .ok (.aload_n 3, 1) := by decide +kernel
theorem dX9_count_53 : decode cX9_count 53 = .ok (.getfield 88, 3) := by decide +kernel
theorem dX9_count_56 : decode cX9_count 56 = .ok (.ireturn, 1) := by decide +kernel
theorem dX9_count_57 : decode cX9_count 57 = .ok (.aload_n 3, 1) := by decide +kernel
theorem dX9_count_58 : decode cX9_count 58 = .ok (.getfield 104, 3) := by decide +kernel
theorem dX9_count_61 : decode cX9_count 61 = .ok (.ireturn, 1) := by decide +kernel
theorem dX9_count_62 : decode cX9_count 62 = .ok (.aload_n 3, 1) := by decide +kernel
theorem dX9_count_63 : decode cX9_count 63 = .ok (.getfield 143, 3) := by decide +kernel
theorem dX9_count_66 : decode cX9_count 66 = .ok (.ireturn, 1) := by decide +kernel
theorem dX9_count_67 : decode cX9_count 67 = .ok (.aload_n 3, 1) := by decide +kernel
theorem dX9_count_68 : decode cX9_count 68 = .ok (.getfield 88, 3) := by decide +kernel
theorem dX9_count_71 : decode cX9_count 71 = .ok (.aload_n 3, 1) := by decide +kernel
theorem dX9_count_72 : decode cX9_count 72 = .ok (.getfield 104, 3) := by decide +kernel
theorem dX9_count_75 : decode cX9_count 75 = .ok (.isub, 1) := by decide +kernel
theorem dX9_count_76 : decode cX9_count 76 = .ok (.aload_n 3, 1) := by decide +kernel
theorem dX9_count_77 : decode cX9_count 77 = .ok (.getfield 143, 3) := by decide +kernel
theorem dX9_count_80 : decode cX9_count 80 = .ok (.iadd, 1) := by decide +kernel
theorem dX9_count_81 : decode cX9_count 81 = .ok (.ireturn, 1) := by decide +kernel
theorem dX9_count_82 : decode cX9_count 82 = .ok (.aload_n 3, 1) := by decide +kernel
theorem dX9_count_83 : decode cX9_count 83 = .ok (.getfield 164, 3) := by decide +kernel
theorem dX9_count_86 : decode cX9_count 86 = .ok (.ireturn, 1) := by decide +kernel
theorem dX9_count_87 : decode cX9_count 87 = .ok (.aload_n 3, 1) := by decide +kernel
theorem dX9_count_88 : decode cX9_count 88 = .ok (.getfield 167, 3) := by decide +kernel
theorem dX9_count_91 : decode cX9_count 91 = .ok (.ireturn, 1) := by decide +kernel
theorem dX9_count_92 : decode cX9_count 92 = .ok (.sipush (-1001), 3) := by decide +kernel
theorem dX9_count_95 : decode cX9_count 95 = .ok (.ireturn, 1) := by decide +kernel
theorem dX9_told_0 : decode cX9_told 0 = .ok (.aload_n 0, 1) := by decide +kernel
theorem dX9_told_1 : decode cX9_told 1 = .ok (.iload_n 1, 1) := by decide +kernel
theorem dX9_told_2 : decode cX9_told 2 = .ok (.invokevirtual 160, 3) := by decide +kernel
theorem dX9_told_5 : decode cX9_told 5 = .ok (.astore 4, 2) := by decide +kernel
theorem dX9_told_7 : decode cX9_told 7 = .ok (.aload 4, 2) := by decide +kernel
theorem dX9_told_9 : decode cX9_told 9 = .ok (.ifnull 16, 3) := by decide +kernel
theorem dX9_told_12 : decode cX9_told 12 = .ok (.iload_n 2, 1) := by decide +kernel
theorem dX9_told_13 : decode cX9_told 13 = .ok (.ifCond .lt 12, 3) := by decide +kernel
theorem dX9_told_16 : decode cX9_told 16 = .ok (.iload_n 2, 1) := by decide +kernel
theorem dX9_told_17 : decode cX9_told 17 = .ok (.aload 4, 2) := by decide +kernel
theorem dX9_told_19 : decode cX9_told 19 = .ok (.getfield 104, 3) := by decide +kernel
theorem dX9_told_22 : decode cX9_told 22 = .ok (.if_icmp .lt 5, 3) := by decide +kernel
theorem dX9_told_25 : decode cX9_told 25 = .ok (.iconst (-1), 1) := by decide +kernel
theorem dX9_told_26 : decode cX9_told 26 = .ok (.ireturn, 1) := by decide +kernel
theorem dX9_told_27 : decode cX9_told 27 = .ok (.iload_n 3, 1) := by decide +kernel
theorem dX9_told_28 : decode cX9_told 28 = .ok (.tableswitch 61 0 2 #[28, 36, 44], 28) := by decide +kernel
theorem dX9_told_56 : decode cX9_told 56 = .ok (.aload 4, 2) := by decide +kernel
theorem dX9_told_58 : decode cX9_told 58 = .ok (.getfield 170, 3) := by decide +kernel
theorem dX9_told_61 : decode cX9_told 61 = .ok (.iload_n 2, 1) := by decide +kernel
theorem dX9_told_62 : decode cX9_told 62 = .ok (.iaload, 1) := by decide +kernel
theorem dX9_told_63 : decode cX9_told 63 = .ok (.ireturn, 1) := by decide +kernel
theorem dX9_told_64 : decode cX9_told 64 = .ok (.aload 4, 2) := by decide +kernel
theorem dX9_told_66 : decode cX9_told 66 = .ok (.getfield 173, 3) := by decide +kernel
theorem dX9_told_69 : decode cX9_told 69 = .ok (.iload_n 2, 1) := by decide +kernel
theorem dX9_told_70 : decode cX9_told 70 = .ok (.iaload, 1) := by decide +kernel
theorem dX9_told_71 : decode cX9_told 71 = .ok (.ireturn, 1) := by decide +kernel
theorem dX9_told_72 : decode cX9_told 72 = .ok (.aload 4, 2) := by decide +kernel
theorem dX9_told_74 : decode cX9_told 74 = .ok (.getfield 176, 3) := by decide +kernel
theorem dX9_told_77 : decode cX9_told 77 = .ok (.iload_n 2, 1) := by decide +kernel
theorem dX9_told_78 : decode cX9_told 78 = .ok (.iaload, 1) := by decide +kernel
theorem dX9_told_79 : decode cX9_told 79 = .ok (.iconst (-1), 1) := by decide +kernel
theorem dX9_told_80 : decode cX9_told 80 = .ok (.if_icmp .ne 7, 3) := by decide +kernel
theorem dX9_told_83 : decode cX9_told 83 = .ok (.iconst 1, 1) := by decide +kernel
theorem dX9_told_84 : decode cX9_told 84 = .ok (.goto 4, 3) := by decide +kernel
theorem dX9_told_87 : decode cX9_told 87 = .ok (.iconst 0, 1) := by decide +kernel
theorem dX9_told_88 : decode cX9_told 88 = .ok (.ireturn, 1) := by decide +kernel
theorem dX9_told_89 : decode cX9_told 89 = .ok (.iconst (-1), 1) := by decide +kernel
theorem dX9_told_90 : decode cX9_told 90 = .ok (.ireturn, 1) := by decide +kernel
theorem dX9_rim_0 : decode cX9_rim 0 = .ok (.aload_n 0, 1) := by decide +kernel
theorem dX9_rim_1 : decode cX9_rim 1 = .ok (.iload_n 1, 1) := by decide +kernel
theorem dX9_rim_2 : decode cX9_rim 2 = .ok (.invokevirtual 160, 3) := by decide +kernel
theorem dX9_rim_5 : decode cX9_rim 5 = .ok (.astore 4, 2) := by decide +kernel
theorem dX9_rim_7 : decode cX9_rim 7 = .ok (.aload 4, 2) := by decide +kernel
theorem dX9_rim_9 : decode cX9_rim 9 = .ok (.ifnull 31, 3) := by decide +kernel
theorem dX9_rim_12 : decode cX9_rim 12 = .ok (.iload_n 2, 1) := by decide +kernel
theorem dX9_rim_13 : decode cX9_rim 13 = .ok (.ifCond .lt 27, 3) := by decide +kernel
theorem dX9_rim_16 : decode cX9_rim 16 = .ok (.iload_n 2, 1) := by decide +kernel
theorem dX9_rim_17 : decode cX9_rim 17 = .ok (.aload 4, 2) := by decide +kernel
theorem dX9_rim_19 : decode cX9_rim 19 = .ok (.getfield 143, 3) := by decide +kernel
theorem dX9_rim_22 : decode cX9_rim 22 = .ok (.if_icmp .ge 18, 3) := by decide +kernel
theorem dX9_rim_25 : decode cX9_rim 25 = .ok (.iload_n 3, 1) := by decide +kernel
theorem dX9_rim_26 : decode cX9_rim 26 = .ok (.ifCond .lt 14, 3) := by decide +kernel
theorem dX9_rim_29 : decode cX9_rim 29 = .ok (.iload_n 3, 1) := by decide +kernel
theorem dX9_rim_30 : decode cX9_rim 30 = .ok (.aload 4, 2) := by decide +kernel
theorem dX9_rim_32 : decode cX9_rim 32 = .ok (.getfield 179, 3) := by decide +kernel
theorem dX9_rim_35 : decode cX9_rim 35 = .ok (.iload_n 2, 1) := by decide +kernel
theorem dX9_rim_36 : decode cX9_rim 36 = .ok (.iaload, 1) := by decide +kernel
theorem dX9_rim_37 : decode cX9_rim 37 = .ok (.if_icmp .lt 5, 3) := by decide +kernel
theorem dX9_rim_40 : decode cX9_rim 40 = .ok (.iconst (-1), 1) := by decide +kernel
theorem dX9_rim_41 : decode cX9_rim 41 = .ok (.ireturn, 1) := by decide +kernel
theorem dX9_rim_42 : decode cX9_rim 42 = .ok (.aload 4, 2) := by decide +kernel
theorem dX9_rim_44 : decode cX9_rim 44 = .ok (.iload_n 2, 1) := by decide +kernel
theorem dX9_rim_45 : decode cX9_rim 45 = .ok (.iload_n 3, 1) := by decide +kernel
theorem dX9_rim_46 : decode cX9_rim 46 = .ok (.invokevirtual 182, 3) := by decide +kernel
theorem dX9_rim_49 : decode cX9_rim 49 = .ok (.invokestatic 186, 3) := by decide +kernel
theorem dX9_rim_52 : decode cX9_rim 52 = .ok (.ireturn, 1) := by decide +kernel
theorem dX9_holes_0 : decode cX9_holes 0 = .ok (.aload_n 0, 1) := by decide +kernel
theorem dX9_holes_1 : decode cX9_holes 1 = .ok (.iload_n 1, 1) := by decide +kernel
theorem dX9_holes_2 : decode cX9_holes 2 = .ok (.invokevirtual 160, 3) := by decide +kernel
theorem dX9_holes_5 : decode cX9_holes 5 = .ok (.astore 4, 2) := by decide +kernel
theorem dX9_holes_7 : decode cX9_holes 7 = .ok (.aload 4, 2) := by decide +kernel
theorem dX9_holes_9 : decode cX9_holes 9 = .ok (.ifnull 28, 3) := by decide +kernel
theorem dX9_holes_12 : decode cX9_holes 12 = .ok (.iload_n 2, 1) := by decide +kernel
theorem dX9_holes_13 : decode cX9_holes 13 = .ok (.ifCond .lt 24, 3) := by decide +kernel
theorem dX9_holes_16 : decode cX9_holes 16 = .ok (.iload_n 2, 1) := by decide +kernel
theorem dX9_holes_17 : decode cX9_holes 17 = .ok (.iconst 2, 1) := by decide +kernel
theorem dX9_holes_18 : decode cX9_holes 18 = .ok (.if_icmp .gt 19, 3) := by decide +kernel
theorem dX9_holes_21 : decode cX9_holes 21 = .ok (.iload_n 3, 1) := by decide +kernel
theorem dX9_holes_22 : decode cX9_holes 22 = .ok (.invokestatic 190, 3) := by decide +kernel
theorem dX9_holes_25 : decode cX9_holes 25 = .ok (.ifCond .eq 12, 3) := by decide +kernel
theorem dX9_holes_28 : decode cX9_holes 28 = .ok (.iload_n 3, 1) := by decide +kernel
theorem dX9_holes_29 : decode cX9_holes 29 = .ok (.ifCond .ne 10, 3) := by decide +kernel
theorem dX9_holes_32 : decode cX9_holes 32 = .ok (.iload_n 1, 1) := by decide +kernel
theorem dX9_holes_33 : decode cX9_holes 33 = .ok (.iconst 2, 1) := by decide +kernel
theorem dX9_holes_34 : decode cX9_holes 34 = .ok (.if_icmp .ne 5, 3) := by decide +kernel
theorem dX9_holes_37 : decode cX9_holes 37 = .ok (.iconst (-1), 1) := by decide +kernel
theorem dX9_holes_38 : decode cX9_holes 38 = .ok (.ireturn, 1) := by decide +kernel
theorem dX9_holes_39 : decode cX9_holes 39 = .ok (.iload_n 2, 1) := by decide +kernel
theorem dX9_holes_40 : decode cX9_holes 40 = .ok (.ifCond .ne 20, 3) := by decide +kernel
theorem dX9_holes_43 : decode cX9_holes 43 = .ok (.aload 4, 2) := by decide +kernel
theorem dX9_holes_45 : decode cX9_holes 45 = .ok (.getfield 88, 3) := by decide +kernel
theorem dX9_holes_48 : decode cX9_holes 48 = .ok (.aload_n 0, 1) := by decide +kernel
theorem dX9_holes_49 : decode cX9_holes 49 = .ok (.getfield 55, 3) := by decide +kernel
theorem dX9_holes_52 : decode cX9_holes 52 = .ok (.aload 4, 2) := by decide +kernel
theorem dX9_holes_54 : decode cX9_holes 54 = .ok (.iload_n 3, 1) := by decide +kernel
theorem dX9_holes_55 : decode cX9_holes 55 = .ok (.invokevirtual 193, 3) := by decide +kernel
theorem dX9_holes_58 : decode cX9_holes 58 = .ok (.isub, 1) := by decide +kernel
theorem dX9_holes_59 : decode cX9_holes 59 = .ok (.ireturn, 1) := by decide +kernel
theorem dX9_holes_60 : decode cX9_holes 60 = .ok (.aload_n 0, 1) := by decide +kernel
theorem dX9_holes_61 : decode cX9_holes 61 = .ok (.getfield 55, 3) := by decide +kernel
theorem dX9_holes_64 : decode cX9_holes 64 = .ok (.aload 4, 2) := by decide +kernel
theorem dX9_holes_66 : decode cX9_holes 66 = .ok (.iload_n 3, 1) := by decide +kernel
theorem dX9_holes_67 : decode cX9_holes 67 = .ok (.invokevirtual 197, 3) := by decide +kernel
theorem dX9_holes_70 : decode cX9_holes 70 = .ok (.istore 5, 2) := by decide +kernel
theorem dX9_holes_72 : decode cX9_holes 72 = .ok (.iload_n 2, 1) := by decide +kernel
theorem dX9_holes_73 : decode cX9_holes 73 = .ok (.iconst 2, 1) := by decide +kernel
theorem dX9_holes_74 : decode cX9_holes 74 = .ok (.if_icmp .ne 12, 3) := by decide +kernel
theorem dX9_holes_77 : decode cX9_holes 77 = .ok (.aload 4, 2) := by decide +kernel
theorem dX9_holes_79 : decode cX9_holes 79 = .ok (.getfield 143, 3) := by decide +kernel
theorem dX9_holes_82 : decode cX9_holes 82 = .ok (.iload 5, 2) := by decide +kernel
theorem dX9_holes_84 : decode cX9_holes 84 = .ok (.isub, 1) := by decide +kernel
theorem dX9_holes_85 : decode cX9_holes 85 = .ok (.ireturn, 1) := by decide +kernel
theorem dX9_holes_86 : decode cX9_holes 86 = .ok (.aload 4, 2) := by decide +kernel
theorem dX9_holes_88 : decode cX9_holes 88 = .ok (.getfield 104, 3) := by decide +kernel
theorem dX9_holes_91 : decode cX9_holes 91 = .ok (.aload_n 0, 1) := by decide +kernel
theorem dX9_holes_92 : decode cX9_holes 92 = .ok (.getfield 55, 3) := by decide +kernel
theorem dX9_holes_95 : decode cX9_holes 95 = .ok (.aload 4, 2) := by decide +kernel
theorem dX9_holes_97 : decode cX9_holes 97 = .ok (.iload_n 3, 1) := by decide +kernel
theorem dX9_holes_98 : decode cX9_holes 98 = .ok (.invokevirtual 193, 3) := by decide +kernel
theorem dX9_holes_101 : decode cX9_holes 101 = .ok (.isub, 1) := by decide +kernel
theorem dX9_holes_102 : decode cX9_holes 102 = .ok (.iload 5, 2) := by decide +kernel
theorem dX9_holes_104 : decode cX9_holes 104 = .ok (.isub, 1) := by decide +kernel
theorem dX9_holes_105 : decode cX9_holes 105 = .ok (.ireturn, 1) := by decide +kernel
theorem dX9_bend_0 : decode cX9_bend 0 = .ok (.iload_n 1, 1) := by decide +kernel
theorem dX9_bend_1 : decode cX9_bend 1 = .ok (.invokestatic 84, 3) := by decide +kernel
theorem dX9_bend_4 : decode cX9_bend 4 = .ok (.ifCond .eq 7, 3) := by decide +kernel
theorem dX9_bend_7 : decode cX9_bend 7 = .ok (.iload_n 2, 1) := by decide +kernel
theorem dX9_bend_8 : decode cX9_bend 8 = .ok (.ifCond .ge 7, 3) := by decide +kernel
theorem dX9_bend_11 : decode cX9_bend 11 = .ok (.ldc2_w 200, 3) := by decide +kernel
theorem dX9_bend_14 : decode cX9_bend 14 = .ok (.lreturn, 1) := by decide +kernel
theorem dX9_bend_15 : decode cX9_bend 15 = .ok (.aload_n 0, 1) := by decide +kernel
theorem dX9_bend_16 : decode cX9_bend 16 = .ok (.getfield 55, 3) := by decide +kernel
theorem dX9_bend_19 : decode cX9_bend 19 = .ok (.aload_n 0, 1) := by decide +kernel
theorem dX9_bend_20 : decode cX9_bend 20 = .ok (.getfield 11, 3) := by decide +kernel
theorem dX9_bend_23 : decode cX9_bend 23 = .ok (.iload_n 1, 1) := by decide +kernel
theorem dX9_bend_24 : decode cX9_bend 24 = .ok (.aaload, 1) := by decide +kernel
theorem dX9_bend_25 : decode cX9_bend 25 = .ok (.invokevirtual 202, 3) := by decide +kernel
theorem dX9_bend_28 : decode cX9_bend 28 = .ok (.istore_n 3, 1) := by decide +kernel
theorem dX9_bend_29 : decode cX9_bend 29 = .ok (.iconst 0, 1) := by decide +kernel
theorem dX9_bend_30 : decode cX9_bend 30 = .ok (.istore 4, 2) := by decide +kernel
theorem dX9_bend_32 : decode cX9_bend 32 = .ok (.iconst 0, 1) := by decide +kernel
theorem dX9_bend_33 : decode cX9_bend 33 = .ok (.istore 5, 2) := by decide +kernel
theorem dX9_bend_35 : decode cX9_bend 35 = .ok (.iload 5, 2) := by decide +kernel
theorem dX9_bend_37 : decode cX9_bend 37 = .ok (.iload_n 3, 1) := by decide +kernel
theorem dX9_bend_38 : decode cX9_bend 38 = .ok (.if_icmp .ge 44, 3) := by decide +kernel
theorem dX9_bend_41 : decode cX9_bend 41 = .ok (.aload_n 0, 1) := by decide +kernel
theorem dX9_bend_42 : decode cX9_bend 42 = .ok (.getfield 55, 3) := by decide +kernel
theorem dX9_bend_45 : decode cX9_bend 45 = .ok (.getfield 206, 3) := by decide +kernel
theorem dX9_bend_48 : decode cX9_bend 48 = .ok (.iload 5, 2) := by decide +kernel
theorem dX9_bend_50 : decode cX9_bend 50 = .ok (.laload, 1) := by decide +kernel
theorem dX9_bend_51 : decode cX9_bend 51 = .ok (.lconst 1, 1) := by decide +kernel
theorem dX9_bend_52 : decode cX9_bend 52 = .ok (.lcmp, 1) := by decide +kernel
theorem dX9_bend_53 : decode cX9_bend 53 = .ok (.ifCond .le 23, 3) := by decide +kernel
theorem dX9_bend_56 : decode cX9_bend 56 = .ok (.iload 4, 2) := by decide +kernel
theorem dX9_bend_58 : decode cX9_bend 58 = .ok (.iload_n 2, 1) := by decide +kernel
theorem dX9_bend_59 : decode cX9_bend 59 = .ok (.if_icmp .ne 14, 3) := by decide +kernel
theorem dX9_bend_62 : decode cX9_bend 62 = .ok (.aload_n 0, 1) := by decide +kernel
theorem dX9_bend_63 : decode cX9_bend 63 = .ok (.getfield 55, 3) := by decide +kernel
theorem dX9_bend_66 : decode cX9_bend 66 = .ok (.getfield 206, 3) := by decide +kernel
theorem dX9_bend_69 : decode cX9_bend 69 = .ok (.iload 5, 2) := by decide +kernel
theorem dX9_bend_71 : decode cX9_bend 71 = .ok (.laload, 1) := by decide +kernel
theorem dX9_bend_72 : decode cX9_bend 72 = .ok (.lreturn, 1) := by decide +kernel
theorem dX9_bend_73 : decode cX9_bend 73 = .ok (.iinc 4 1, 3) := by decide +kernel
theorem dX9_bend_76 : decode cX9_bend 76 = .ok (.iinc 5 1, 3) := by decide +kernel
theorem dX9_bend_79 : decode cX9_bend 79 = .ok (.goto (-44), 3) := by decide +kernel
theorem dX9_bend_82 : decode cX9_bend 82 = .ok (.ldc2_w 210, 3) := by decide +kernel
theorem dX9_bend_85 : decode cX9_bend 85 = .ok (.lreturn, 1) := by decide +kernel
theorem dX9_tables_0 : decode cX9_tables 0 = .ok (.iload_n 1, 1) := by decide +kernel
theorem dX9_tables_1 : decode cX9_tables 1 = .ok (.invokestatic 84, 3) := by decide +kernel
theorem dX9_tables_4 : decode cX9_tables 4 = .ok (.ifCond .eq 10, 3) := by decide +kernel
theorem dX9_tables_7 : decode cX9_tables 7 = .ok (.iload_n 2, 1) := by decide +kernel
theorem dX9_tables_8 : decode cX9_tables 8 = .ok (.invokestatic 212, 3) := by decide +kernel
theorem dX9_tables_11 : decode cX9_tables 11 = .ok (.ifCond .ne 5, 3) := by decide +kernel
theorem dX9_tables_14 : decode cX9_tables 14 = .ok (.iconst (-1), 1) := by decide +kernel
theorem dX9_tables_15 : decode cX9_tables 15 = .ok (.ireturn, 1) := by decide +kernel
theorem dX9_tables_16 : decode cX9_tables 16 = .ok (.aload_n 0, 1) := by decide +kernel
theorem dX9_tables_17 : decode cX9_tables 17 = .ok (.getfield 62, 3) := by decide +kernel
theorem dX9_tables_20 : decode cX9_tables 20 = .ok (.aload_n 0, 1) := by decide +kernel
theorem dX9_tables_21 : decode cX9_tables 21 = .ok (.getfield 11, 3) := by decide +kernel
theorem dX9_tables_24 : decode cX9_tables 24 = .ok (.iload_n 1, 1) := by decide +kernel
theorem dX9_tables_25 : decode cX9_tables 25 = .ok (.aaload, 1) := by decide +kernel
theorem dX9_tables_26 : decode cX9_tables 26 = .ok (.aload_n 0, 1) := by decide +kernel
theorem dX9_tables_27 : decode cX9_tables 27 = .ok (.getfield 36, 3) := by decide +kernel
theorem dX9_tables_30 : decode cX9_tables 30 = .ok (.iload_n 2, 1) := by decide +kernel
theorem dX9_tables_31 : decode cX9_tables 31 = .ok (.aaload, 1) := by decide +kernel
theorem dX9_tables_32 : decode cX9_tables 32 = .ok (.invokevirtual 215, 3) := by decide +kernel
theorem dX9_tables_35 : decode cX9_tables 35 = .ok (.ifCond .eq 6, 3) := by decide +kernel
theorem dX9_tables_38 : decode cX9_tables 38 = .ok (.bipush (-2), 2) := by decide +kernel
theorem dX9_tables_40 : decode cX9_tables 40 = .ok (.ireturn, 1) := by decide +kernel
theorem dX9_tables_41 : decode cX9_tables 41 = .ok (.aload_n 0, 1) := by decide +kernel
theorem dX9_tables_42 : decode cX9_tables 42 = .ok (.getfield 62, 3) := by decide +kernel
theorem dX9_tables_45 : decode cX9_tables 45 = .ok (.aload_n 0, 1) := by decide +kernel
theorem dX9_tables_46 : decode cX9_tables 46 = .ok (.getfield 11, 3) := by decide +kernel
theorem dX9_tables_49 : decode cX9_tables 49 = .ok (.iload_n 1, 1) := by decide +kernel
theorem dX9_tables_50 : decode cX9_tables 50 = .ok (.aaload, 1) := by decide +kernel
theorem dX9_tables_51 : decode cX9_tables 51 = .ok (.aload_n 0, 1) := by decide +kernel
theorem dX9_tables_52 : decode cX9_tables 52 = .ok (.getfield 36, 3) := by decide +kernel
theorem dX9_tables_55 : decode cX9_tables 55 = .ok (.iload_n 2, 1) := by decide +kernel
theorem dX9_tables_56 : decode cX9_tables 56 = .ok (.aaload, 1) := by decide +kernel
theorem dX9_tables_57 : decode cX9_tables 57 = .ok (.invokevirtual 219, 3) := by decide +kernel
theorem dX9_tables_60 : decode cX9_tables 60 = .ok (.iconst 0, 1) := by decide +kernel
theorem dX9_tables_61 : decode cX9_tables 61 = .ok (.istore_n 3, 1) := by decide +kernel
theorem dX9_tables_62 : decode cX9_tables 62 = .ok (.iload_n 3, 1) := by decide +kernel
theorem dX9_tables_63 : decode cX9_tables 63 = .ok (.sipush 20000, 3) := by decide +kernel
theorem dX9_tables_66 : decode cX9_tables 66 = .ok (.if_icmp .gt 20, 3) := by decide +kernel
theorem dX9_tables_69 : decode cX9_tables 69 = .ok (.aload_n 0, 1) := by decide +kernel
theorem dX9_tables_70 : decode cX9_tables 70 = .ok (.getfield 62, 3) := by decide +kernel
theorem dX9_tables_73 : decode cX9_tables 73 = .ok (.iconst 0, 1) := by decide +kernel
theorem dX9_tables_74 : decode cX9_tables 74 = .ok (.invokevirtual 223, 3) := by decide +kernel
theorem dX9_tables_77 : decode cX9_tables 77 = .ok (.ifCond .eq 9, 3) := by decide +kernel
theorem dX9_tables_80 : decode cX9_tables 80 = .ok (.iinc 3 1, 3) := by decide +kernel
theorem dX9_tables_83 : decode cX9_tables 83 = .ok (.goto (-21), 3) := by decide +kernel
theorem dX9_tables_86 : decode cX9_tables 86 = .ok (.iload_n 3, 1) := by decide +kernel
theorem dX9_tables_87 : decode cX9_tables 87 = .ok (.ireturn, 1) := by decide +kernel
theorem dX9_layers_0 : decode cX9_layers 0 = .ok (.iload_n 1, 1) := by decide +kernel
theorem dX9_layers_1 : decode cX9_layers 1 = .ok (.invokestatic 84, 3) := by decide +kernel
theorem dX9_layers_4 : decode cX9_layers 4 = .ok (.ifCond .eq 10, 3) := by decide +kernel
theorem dX9_layers_7 : decode cX9_layers 7 = .ok (.iload_n 2, 1) := by decide +kernel
theorem dX9_layers_8 : decode cX9_layers 8 = .ok (.invokestatic 212, 3) := by decide +kernel
theorem dX9_layers_11 : decode cX9_layers 11 = .ok (.ifCond .ne 5, 3) := by decide +kernel
theorem dX9_layers_14 : decode cX9_layers 14 = .ok (.iconst (-1), 1) := by decide +kernel
theorem dX9_layers_15 : decode cX9_layers 15 = .ok (.ireturn, 1) := by decide +kernel
theorem dX9_layers_16 : decode cX9_layers 16 = .ok (.aload_n 0, 1) := by decide +kernel
theorem dX9_layers_17 : decode cX9_layers 17 = .ok (.getfield 62, 3) := by decide +kernel
theorem dX9_layers_20 : decode cX9_layers 20 = .ok (.aload_n 0, 1) := by decide +kernel
theorem dX9_layers_21 : decode cX9_layers 21 = .ok (.getfield 11, 3) := by decide +kernel
theorem dX9_layers_24 : decode cX9_layers 24 = .ok (.iload_n 1, 1) := by decide +kernel
theorem dX9_layers_25 : decode cX9_layers 25 = .ok (.aaload, 1) := by decide +kernel
theorem dX9_layers_26 : decode cX9_layers 26 = .ok (.aload_n 0, 1) := by decide +kernel
theorem dX9_layers_27 : decode cX9_layers 27 = .ok (.getfield 36, 3) := by decide +kernel
theorem dX9_layers_30 : decode cX9_layers 30 = .ok (.iload_n 2, 1) := by decide +kernel
theorem dX9_layers_31 : decode cX9_layers 31 = .ok (.aaload, 1) := by decide +kernel
theorem dX9_layers_32 : decode cX9_layers 32 = .ok (.invokevirtual 215, 3) := by decide +kernel
theorem dX9_layers_35 : decode cX9_layers 35 = .ok (.ifCond .eq 6, 3) := by decide +kernel
theorem dX9_layers_38 : decode cX9_layers 38 = .ok (.bipush (-2), 2) := by decide +kernel
theorem dX9_layers_40 : decode cX9_layers 40 = .ok (.ireturn, 1) := by decide +kernel
theorem dX9_layers_41 : decode cX9_layers 41 = .ok (.aload_n 0, 1) := by decide +kernel
theorem dX9_layers_42 : decode cX9_layers 42 = .ok (.getfield 62, 3) := by decide +kernel
theorem dX9_layers_45 : decode cX9_layers 45 = .ok (.aload_n 0, 1) := by decide +kernel
theorem dX9_layers_46 : decode cX9_layers 46 = .ok (.getfield 11, 3) := by decide +kernel
theorem dX9_layers_49 : decode cX9_layers 49 = .ok (.iload_n 1, 1) := by decide +kernel
theorem dX9_layers_50 : decode cX9_layers 50 = .ok (.aaload, 1) := by decide +kernel
theorem dX9_layers_51 : decode cX9_layers 51 = .ok (.aload_n 0, 1) := by decide +kernel
theorem dX9_layers_52 : decode cX9_layers 52 = .ok (.getfield 36, 3) := by decide +kernel
theorem dX9_layers_55 : decode cX9_layers 55 = .ok (.iload_n 2, 1) := by decide +kernel
theorem dX9_layers_56 : decode cX9_layers 56 = .ok (.aaload, 1) := by decide +kernel
theorem dX9_layers_57 : decode cX9_layers 57 = .ok (.invokevirtual 219, 3) := by decide +kernel
theorem dX9_layers_60 : decode cX9_layers 60 = .ok (.iconst 0, 1) := by decide +kernel
theorem dX9_layers_61 : decode cX9_layers 61 = .ok (.istore_n 3, 1) := by decide +kernel
theorem dX9_layers_62 : decode cX9_layers 62 = .ok (.iload_n 3, 1) := by decide +kernel
theorem dX9_layers_63 : decode cX9_layers 63 = .ok (.sipush 20000, 3) := by decide +kernel
theorem dX9_layers_66 : decode cX9_layers 66 = .ok (.if_icmp .gt 19, 3) := by decide +kernel
theorem dX9_layers_69 : decode cX9_layers 69 = .ok (.aload_n 0, 1) := by decide +kernel
theorem dX9_layers_70 : decode cX9_layers 70 = .ok (.getfield 62, 3) := by decide +kernel
theorem dX9_layers_73 : decode cX9_layers 73 = .ok (.invokevirtual 227, 3) := by decide +kernel
theorem dX9_layers_76 : decode cX9_layers 76 = .ok (.ifCond .eq 9, 3) := by decide +kernel
theorem dX9_layers_79 : decode cX9_layers 79 = .ok (.iinc 3 1, 3) := by decide +kernel
theorem dX9_layers_82 : decode cX9_layers 82 = .ok (.goto (-20), 3) := by decide +kernel
theorem dX9_layers_85 : decode cX9_layers 85 = .ok (.iload_n 3, 1) := by decide +kernel
theorem dX9_layers_86 : decode cX9_layers 86 = .ok (.ireturn, 1) := by decide +kernel
theorem dX9_layer_0 : decode cX9_layer 0 = .ok (.iload_n 1, 1) := by decide +kernel
theorem dX9_layer_1 : decode cX9_layer 1 = .ok (.invokestatic 84, 3) := by decide +kernel
theorem dX9_layer_4 : decode cX9_layer 4 = .ok (.ifCond .eq 14, 3) := by decide +kernel
theorem dX9_layer_7 : decode cX9_layer 7 = .ok (.iload_n 2, 1) := by decide +kernel
theorem dX9_layer_8 : decode cX9_layer 8 = .ok (.invokestatic 212, 3) := by decide +kernel
theorem dX9_layer_11 : decode cX9_layer 11 = .ok (.ifCond .eq 7, 3) := by decide +kernel
theorem dX9_layer_14 : decode cX9_layer 14 = .ok (.iload_n 3, 1) := by decide +kernel
theorem dX9_layer_15 : decode cX9_layer 15 = .ok (.ifCond .ge 5, 3) := by decide +kernel
theorem dX9_layer_18 : decode cX9_layer 18 = .ok (.iconst (-1), 1) := by decide +kernel
theorem dX9_layer_19 : decode cX9_layer 19 = .ok (.ireturn, 1) := by decide +kernel
theorem dX9_layer_20 : decode cX9_layer 20 = .ok (.aload_n 0, 1) := by decide +kernel
theorem dX9_layer_21 : decode cX9_layer 21 = .ok (.getfield 62, 3) := by decide +kernel
theorem dX9_layer_24 : decode cX9_layer 24 = .ok (.aload_n 0, 1) := by decide +kernel
theorem dX9_layer_25 : decode cX9_layer 25 = .ok (.getfield 11, 3) := by decide +kernel
theorem dX9_layer_28 : decode cX9_layer 28 = .ok (.iload_n 1, 1) := by decide +kernel
theorem dX9_layer_29 : decode cX9_layer 29 = .ok (.aaload, 1) := by decide +kernel
theorem dX9_layer_30 : decode cX9_layer 30 = .ok (.aload_n 0, 1) := by decide +kernel
theorem dX9_layer_31 : decode cX9_layer 31 = .ok (.getfield 36, 3) := by decide +kernel
theorem dX9_layer_34 : decode cX9_layer 34 = .ok (.iload_n 2, 1) := by decide +kernel
theorem dX9_layer_35 : decode cX9_layer 35 = .ok (.aaload, 1) := by decide +kernel
theorem dX9_layer_36 : decode cX9_layer 36 = .ok (.invokevirtual 215, 3) := by decide +kernel
theorem dX9_layer_39 : decode cX9_layer 39 = .ok (.ifCond .eq 6, 3) := by decide +kernel
theorem dX9_layer_42 : decode cX9_layer 42 = .ok (.bipush (-2), 2) := by decide +kernel
theorem dX9_layer_44 : decode cX9_layer 44 = .ok (.ireturn, 1) := by decide +kernel
theorem dX9_layer_45 : decode cX9_layer 45 = .ok (.aload_n 0, 1) := by decide +kernel
theorem dX9_layer_46 : decode cX9_layer 46 = .ok (.getfield 62, 3) := by decide +kernel
theorem dX9_layer_49 : decode cX9_layer 49 = .ok (.aload_n 0, 1) := by decide +kernel
theorem dX9_layer_50 : decode cX9_layer 50 = .ok (.getfield 11, 3) := by decide +kernel
theorem dX9_layer_53 : decode cX9_layer 53 = .ok (.iload_n 1, 1) := by decide +kernel
theorem dX9_layer_54 : decode cX9_layer 54 = .ok (.aaload, 1) := by decide +kernel
theorem dX9_layer_55 : decode cX9_layer 55 = .ok (.aload_n 0, 1) := by decide +kernel
theorem dX9_layer_56 : decode cX9_layer 56 = .ok (.getfield 36, 3) := by decide +kernel
theorem dX9_layer_59 : decode cX9_layer 59 = .ok (.iload_n 2, 1) := by decide +kernel
theorem dX9_layer_60 : decode cX9_layer 60 = .ok (.aaload, 1) := by decide +kernel
theorem dX9_layer_61 : decode cX9_layer 61 = .ok (.invokevirtual 219, 3) := by decide +kernel
theorem dX9_layer_64 : decode cX9_layer 64 = .ok (.aload_n 0, 1) := by decide +kernel
theorem dX9_layer_65 : decode cX9_layer 65 = .ok (.getfield 62, 3) := by decide +kernel
theorem dX9_layer_68 : decode cX9_layer 68 = .ok (.iload_n 3, 1) := by decide +kernel
theorem dX9_layer_69 : decode cX9_layer 69 = .ok (.invokevirtual 230, 3) := by decide +kernel
theorem dX9_layer_72 : decode cX9_layer 72 = .ok (.ifCond .ne 5, 3) := by decide +kernel
theorem dX9_layer_75 : decode cX9_layer 75 = .ok (.iconst (-1), 1) := by decide +kernel
theorem dX9_layer_76 : decode cX9_layer 76 = .ok (.ireturn, 1) := by decide +kernel
theorem dX9_layer_77 : decode cX9_layer 77 = .ok (.aload_n 0, 1) := by decide +kernel
theorem dX9_layer_78 : decode cX9_layer 78 = .ok (.getfield 18, 3) := by decide +kernel
theorem dX9_layer_81 : decode cX9_layer 81 = .ok (.aload_n 0, 1) := by decide +kernel
theorem dX9_layer_82 : decode cX9_layer 82 = .ok (.getfield 11, 3) := by decide +kernel
theorem dX9_layer_85 : decode cX9_layer 85 = .ok (.iload_n 1, 1) := by decide +kernel
theorem dX9_layer_86 : decode cX9_layer 86 = .ok (.aaload, 1) := by decide +kernel
theorem dX9_layer_87 : decode cX9_layer 87 = .ok (.iload_n 1, 1) := by decide +kernel
theorem dX9_layer_88 : decode cX9_layer 88 = .ok (.aload_n 0, 1) := by decide +kernel
theorem dX9_layer_89 : decode cX9_layer 89 = .ok (.getfield 62, 3) := by decide +kernel
theorem dX9_layer_92 : decode cX9_layer 92 = .ok (.invokevirtual 233, 3) := by decide +kernel
theorem dX9_layer_95 : decode cX9_layer 95 = .ok (.aload_n 0, 1) := by decide +kernel
theorem dX9_layer_96 : decode cX9_layer 96 = .ok (.getfield 18, 3) := by decide +kernel
theorem dX9_layer_99 : decode cX9_layer 99 = .ok (.getfield 237, 3) := by decide +kernel
theorem dX9_layer_102 : decode cX9_layer 102 = .ok (.getfield 167, 3) := by decide +kernel
theorem dX9_layer_105 : decode cX9_layer 105 = .ok (.ireturn, 1) := by decide +kernel
theorem dX9_storeys_0 : decode cX9_storeys 0 = .ok (.iload_n 1, 1) := by decide +kernel
theorem dX9_storeys_1 : decode cX9_storeys 1 = .ok (.invokestatic 84, 3) := by decide +kernel
theorem dX9_storeys_4 : decode cX9_storeys 4 = .ok (.ifCond .eq 6, 3) := by decide +kernel
theorem dX9_storeys_7 : decode cX9_storeys 7 = .ok (.bipush (-12), 2) := by decide +kernel
theorem dX9_storeys_9 : decode cX9_storeys 9 = .ok (.ireturn, 1) := by decide +kernel
theorem dX9_storeys_10 : decode cX9_storeys 10 = .ok (.iload_n 1, 1) := by decide +kernel
theorem dX9_storeys_11 : decode cX9_storeys 11 = .ok (.iconst 2, 1) := by decide +kernel
theorem dX9_storeys_12 : decode cX9_storeys 12 = .ok (.if_icmp .ne 13, 3) := by decide +kernel
theorem dX9_storeys_15 : decode cX9_storeys 15 = .ok (.aload_n 0, 1) := by decide +kernel
theorem dX9_storeys_16 : decode cX9_storeys 16 = .ok (.getfield 18, 3) := by decide +kernel
theorem dX9_storeys_19 : decode cX9_storeys 19 = .ok (.invokevirtual 240, 3) := by decide +kernel
theorem dX9_storeys_22 : decode cX9_storeys 22 = .ok (.ifCond .ne 5, 3) := by decide +kernel
theorem dX9_storeys_25 : decode cX9_storeys 25 = .ok (.iconst (-1), 1) := by decide +kernel
theorem dX9_storeys_26 : decode cX9_storeys 26 = .ok (.ireturn, 1) := by decide +kernel
theorem dX9_storeys_27 : decode cX9_storeys 27 = .ok (.aload_n 0, 1) := by decide +kernel
theorem dX9_storeys_28 : decode cX9_storeys 28 = .ok (.getfield 18, 3) := by decide +kernel
theorem dX9_storeys_31 : decode cX9_storeys 31 = .ok (.getfield 243, 3) := by decide +kernel
theorem dX9_storeys_34 : decode cX9_storeys 34 = .ok (.getfield 246, 3) := by decide +kernel
theorem dX9_storeys_37 : decode cX9_storeys 37 = .ok (.ireturn, 1) := by decide +kernel
theorem dX9_moves_0 : decode cX9_moves 0 = .ok (.aload_n 0, 1) := by decide +kernel
theorem dX9_moves_1 : decode cX9_moves 1 = .ok (.getfield 18, 3) := by decide +kernel
theorem dX9_moves_4 : decode cX9_moves 4 = .ok (.invokevirtual 240, 3) := by decide +kernel
theorem dX9_moves_7 : decode cX9_moves 7 = .ok (.ifCond .ne 6, 3) := by decide +kernel
theorem dX9_moves_10 : decode cX9_moves 10 = .ok (.bipush (-4), 2) := by decide +kernel
theorem dX9_moves_12 : decode cX9_moves 12 = .ok (.ireturn, 1) := by decide +kernel
theorem dX9_moves_13 : decode cX9_moves 13 = .ok (.iload_n 1, 1) := by decide +kernel
theorem dX9_moves_14 : decode cX9_moves 14 = .ok (.ifCond .lt 25, 3) := by decide +kernel
theorem dX9_moves_17 : decode cX9_moves 17 = .ok (.iload_n 1, 1) := by decide +kernel
theorem dX9_moves_18 : decode cX9_moves 18 = .ok (.aload_n 0, 1) := by decide +kernel
theorem dX9_moves_19 : decode cX9_moves 19 = .ok (.getfield 18, 3) := by decide +kernel
theorem dX9_moves_22 : decode cX9_moves 22 = .ok (.getfield 249, 3) := by decide +kernel
theorem dX9_moves_25 : decode cX9_moves 25 = .ok (.if_icmp .ge 14, 3) := by decide +kernel
theorem dX9_moves_28 : decode cX9_moves 28 = .ok (.aload_n 0, 1) := by decide +kernel
theorem dX9_moves_29 : decode cX9_moves 29 = .ok (.getfield 18, 3) := by decide +kernel
theorem dX9_moves_32 : decode cX9_moves 32 = .ok (.iload_n 2, 1) := by decide +kernel
theorem dX9_moves_33 : decode cX9_moves 33 = .ok (.invokevirtual 250, 3) := by decide +kernel
theorem dX9_moves_36 : decode cX9_moves 36 = .ok (.ifCond .ne 5, 3) := by decide +kernel
theorem dX9_moves_39 : decode cX9_moves 39 = .ok (.iconst (-1), 1) := by decide +kernel
theorem dX9_moves_40 : decode cX9_moves 40 = .ok (.ireturn, 1) := by decide +kernel
theorem dX9_moves_41 : decode cX9_moves 41 = .ok (.aload_n 0, 1) := by decide +kernel
theorem dX9_moves_42 : decode cX9_moves 42 = .ok (.getfield 18, 3) := by decide +kernel
theorem dX9_moves_45 : decode cX9_moves 45 = .ok (.getfield 243, 3) := by decide +kernel
theorem dX9_moves_48 : decode cX9_moves 48 = .ok (.aload_n 0, 1) := by decide +kernel
theorem dX9_moves_49 : decode cX9_moves 49 = .ok (.getfield 18, 3) := by decide +kernel
theorem dX9_moves_52 : decode cX9_moves 52 = .ok (.getfield 253, 3) := by decide +kernel
theorem dX9_moves_55 : decode cX9_moves 55 = .ok (.iload_n 1, 1) := by decide +kernel
theorem dX9_moves_56 : decode cX9_moves 56 = .ok (.iaload, 1) := by decide +kernel
theorem dX9_moves_57 : decode cX9_moves 57 = .ok (.iload_n 2, 1) := by decide +kernel
theorem dX9_moves_58 : decode cX9_moves 58 = .ok (.invokevirtual 256, 3) := by decide +kernel
theorem dX9_moves_61 : decode cX9_moves 61 = .ok (.ireturn, 1) := by decide +kernel
theorem dX9_lift_0 : decode cX9_lift 0 = .ok (.aload_n 0, 1) := by decide +kernel
theorem dX9_lift_1 : decode cX9_lift 1 = .ok (.getfield 18, 3) := by decide +kernel
theorem dX9_lift_4 : decode cX9_lift 4 = .ok (.invokevirtual 240, 3) := by decide +kernel
theorem dX9_lift_7 : decode cX9_lift 7 = .ok (.ifCond .ne 6, 3) := by decide +kernel
theorem dX9_lift_10 : decode cX9_lift 10 = .ok (.bipush (-4), 2) := by decide +kernel
theorem dX9_lift_12 : decode cX9_lift 12 = .ok (.ireturn, 1) := by decide +kernel
theorem dX9_lift_13 : decode cX9_lift 13 = .ok (.iload_n 1, 1) := by decide +kernel
theorem dX9_lift_14 : decode cX9_lift 14 = .ok (.invokestatic 259, 3) := by decide +kernel
theorem dX9_lift_17 : decode cX9_lift 17 = .ok (.ifCond .eq 14, 3) := by decide +kernel
theorem dX9_lift_20 : decode cX9_lift 20 = .ok (.aload_n 0, 1) := by decide +kernel
theorem dX9_lift_21 : decode cX9_lift 21 = .ok (.getfield 18, 3) := by decide +kernel
theorem dX9_lift_24 : decode cX9_lift 24 = .ok (.iload_n 2, 1) := by decide +kernel
theorem dX9_lift_25 : decode cX9_lift 25 = .ok (.invokevirtual 250, 3) := by decide +kernel
theorem dX9_lift_28 : decode cX9_lift 28 = .ok (.ifCond .ne 5, 3) := by decide +kernel
theorem dX9_lift_31 : decode cX9_lift 31 = .ok (.iconst (-1), 1) := by decide +kernel
theorem dX9_lift_32 : decode cX9_lift 32 = .ok (.ireturn, 1) := by decide +kernel
theorem dX9_lift_33 : decode cX9_lift 33 = .ok (.aload_n 0, 1) := by decide +kernel
theorem dX9_lift_34 : decode cX9_lift 34 = .ok (.getfield 24, 3) := by decide +kernel
theorem dX9_lift_37 : decode cX9_lift 37 = .ok (.iload_n 1, 1) := by decide +kernel
theorem dX9_lift_38 : decode cX9_lift 38 = .ok (.aaload, 1) := by decide +kernel
theorem dX9_lift_39 : decode cX9_lift 39 = .ok (.astore_n 3, 1) := by decide +kernel
theorem dX9_lift_40 : decode cX9_lift 40 = .ok (.aload_n 3, 1) := by decide +kernel
theorem dX9_lift_41 : decode cX9_lift 41 = .ok (.getfield 262, 3) := by decide +kernel
theorem dX9_lift_44 : decode cX9_lift 44 = .ok (.aload_n 0, 1) := by decide +kernel
theorem dX9_lift_45 : decode cX9_lift 45 = .ok (.getfield 18, 3) := by decide +kernel
theorem dX9_lift_48 : decode cX9_lift 48 = .ok (.getfield 264, 3) := by decide +kernel
theorem dX9_lift_51 : decode cX9_lift 51 = .ok (.if_icmp .ne 21, 3) := by decide +kernel
theorem dX9_lift_54 : decode cX9_lift 54 = .ok (.aload_n 3, 1) := by decide +kernel
theorem dX9_lift_55 : decode cX9_lift 55 = .ok (.getfield 267, 3) := by decide +kernel
theorem dX9_lift_58 : decode cX9_lift 58 = .ok (.ifCond .ne 14, 3) := by decide +kernel
theorem dX9_lift_61 : decode cX9_lift 61 = .ok (.aload_n 0, 1) := by decide +kernel
theorem dX9_lift_62 : decode cX9_lift 62 = .ok (.getfield 18, 3) := by decide +kernel
theorem dX9_lift_65 : decode cX9_lift 65 = .ok (.aload_n 3, 1) := by decide +kernel
theorem dX9_lift_66 : decode cX9_lift 66 = .ok (.invokevirtual 269, 3) := by decide +kernel
theorem dX9_lift_69 : decode cX9_lift 69 = .ok (.ifCond .ne 6, 3) := by decide +kernel
theorem dX9_lift_72 : decode cX9_lift 72 = .ok (.bipush (-2), 2) := by decide +kernel
theorem dX9_lift_74 : decode cX9_lift 74 = .ok (.ireturn, 1) := by decide +kernel
theorem dX9_lift_75 : decode cX9_lift 75 = .ok (.iload_n 2, 1) := by decide +kernel
theorem dX9_lift_76 : decode cX9_lift 76 = .ok (.istore 4, 2) := by decide +kernel
theorem dX9_lift_78 : decode cX9_lift 78 = .ok (.iconst 0, 1) := by decide +kernel
theorem dX9_lift_79 : decode cX9_lift 79 = .ok (.istore 5, 2) := by decide +kernel
theorem dX9_lift_81 : decode cX9_lift 81 = .ok (.iload 5, 2) := by decide +kernel
theorem dX9_lift_83 : decode cX9_lift 83 = .ok (.aload_n 3, 1) := by decide +kernel
theorem dX9_lift_84 : decode cX9_lift 84 = .ok (.getfield 150, 3) := by decide +kernel
theorem dX9_lift_87 : decode cX9_lift 87 = .ok (.if_icmp .ge 27, 3) := by decide +kernel
theorem dX9_lift_90 : decode cX9_lift 90 = .ok (.aload_n 0, 1) := by decide +kernel
theorem dX9_lift_91 : decode cX9_lift 91 = .ok (.getfield 18, 3) := by decide +kernel
theorem dX9_lift_94 : decode cX9_lift 94 = .ok (.aload_n 3, 1) := by decide +kernel
theorem dX9_lift_95 : decode cX9_lift 95 = .ok (.getfield 146, 3) := by decide +kernel
theorem dX9_lift_98 : decode cX9_lift 98 = .ok (.iload 5, 2) := by decide +kernel
theorem dX9_lift_100 : decode cX9_lift 100 = .ok (.iaload, 1) := by decide +kernel
theorem dX9_lift_101 : decode cX9_lift 101 = .ok (.iload 4, 2) := by decide +kernel
theorem dX9_lift_103 : decode cX9_lift 103 = .ok (.invokevirtual 273, 3) := by decide +kernel
theorem dX9_lift_106 : decode cX9_lift 106 = .ok (.istore 4, 2) := by decide +kernel
theorem dX9_lift_108 : decode cX9_lift 108 = .ok (.iinc 5 1, 3) := by decide +kernel
theorem dX9_lift_111 : decode cX9_lift 111 = .ok (.goto (-30), 3) := by decide +kernel
theorem dX9_lift_114 : decode cX9_lift 114 = .ok (.iload 4, 2) := by decide +kernel
theorem dX9_lift_116 : decode cX9_lift 116 = .ok (.ireturn, 1) := by decide +kernel
theorem dX9_moved_0 : decode cX9_moved 0 = .ok (.iload_n 1, 1) := by decide +kernel
theorem dX9_moved_1 : decode cX9_moved 1 = .ok (.invokestatic 259, 3) := by decide +kernel
theorem dX9_moved_4 : decode cX9_moved 4 = .ok (.ifCond .ne 5, 3) := by decide +kernel
theorem dX9_moved_7 : decode cX9_moved 7 = .ok (.iconst (-1), 1) := by decide +kernel
theorem dX9_moved_8 : decode cX9_moved 8 = .ok (.ireturn, 1) := by decide +kernel
theorem dX9_moved_9 : decode cX9_moved 9 = .ok (.aload_n 0, 1) := by decide +kernel
theorem dX9_moved_10 : decode cX9_moved 10 = .ok (.getfield 24, 3) := by decide +kernel
theorem dX9_moved_13 : decode cX9_moved 13 = .ok (.iload_n 1, 1) := by decide +kernel
theorem dX9_moved_14 : decode cX9_moved 14 = .ok (.aaload, 1) := by decide +kernel
theorem dX9_moved_15 : decode cX9_moved 15 = .ok (.astore_n 2, 1) := by decide +kernel
theorem dX9_moved_16 : decode cX9_moved 16 = .ok (.aload_n 2, 1) := by decide +kernel
theorem dX9_moved_17 : decode cX9_moved 17 = .ok (.getfield 262, 3) := by decide +kernel
theorem dX9_moved_20 : decode cX9_moved 20 = .ok (.invokestatic 84, 3) := by decide +kernel
theorem dX9_moved_23 : decode cX9_moved 23 = .ok (.ifCond .eq 17, 3) := by decide +kernel
theorem dX9_moved_26 : decode cX9_moved 26 = .ok (.aload_n 2, 1) := by decide +kernel
theorem dX9_moved_27 : decode cX9_moved 27 = .ok (.getfield 267, 3) := by decide +kernel
theorem dX9_moved_30 : decode cX9_moved 30 = .ok (.ifCond .ne 10, 3) := by decide +kernel
theorem dX9_moved_33 : decode cX9_moved 33 = .ok (.aload_n 2, 1) := by decide +kernel
theorem dX9_moved_34 : decode cX9_moved 34 = .ok (.getfield 276, 3) := by decide +kernel
theorem dX9_moved_37 : decode cX9_moved 37 = .ok (.ifCond .eq 6, 3) := by decide +kernel
theorem dX9_moved_40 : decode cX9_moved 40 = .ok (.bipush (-2), 2) := by decide +kernel
theorem dX9_moved_42 : decode cX9_moved 42 = .ok (.ireturn, 1) := by decide +kernel
theorem dX9_moved_43 : decode cX9_moved 43 = .ok (.aload_n 0, 1) := by decide +kernel
theorem dX9_moved_44 : decode cX9_moved 44 = .ok (.getfield 11, 3) := by decide +kernel
theorem dX9_moved_47 : decode cX9_moved 47 = .ok (.aload_n 2, 1) := by decide +kernel
theorem dX9_moved_48 : decode cX9_moved 48 = .ok (.getfield 262, 3) := by decide +kernel
theorem dX9_moved_51 : decode cX9_moved 51 = .ok (.aaload, 1) := by decide +kernel
theorem dX9_moved_52 : decode cX9_moved 52 = .ok (.astore_n 3, 1) := by decide +kernel
theorem dX9_moved_53 : decode cX9_moved 53 = .ok (.iconst 2, 1) := by decide +kernel
theorem dX9_moved_54 : decode cX9_moved 54 = .ok (.istore 4, 2) := by decide +kernel
theorem dX9_moved_56 : decode cX9_moved 56 = .ok (.iload 4, 2) := by decide +kernel
theorem dX9_moved_58 : decode cX9_moved 58 = .ok (.iconst 4, 1) := by decide +kernel
theorem dX9_moved_59 : decode cX9_moved 59 = .ok (.if_icmp .gt 49, 3) := by decide +kernel
theorem dX9_moved_62 : decode cX9_moved 62 = .ok (.aload_n 0, 1) := by decide +kernel
theorem dX9_moved_63 : decode cX9_moved 63 = .ok (.getfield 62, 3) := by decide +kernel
theorem dX9_moved_66 : decode cX9_moved 66 = .ok (.aload_n 3, 1) := by decide +kernel
theorem dX9_moved_67 : decode cX9_moved 67 = .ok (.aload_n 0, 1) := by decide +kernel
theorem dX9_moved_68 : decode cX9_moved 68 = .ok (.getfield 36, 3) := by decide +kernel
theorem dX9_moved_71 : decode cX9_moved 71 = .ok (.iload 4, 2) := by decide +kernel
theorem dX9_moved_73 : decode cX9_moved 73 = .ok (.aaload, 1) := by decide +kernel
theorem dX9_moved_74 : decode cX9_moved 74 = .ok (.invokevirtual 215, 3) := by decide +kernel
theorem dX9_moved_77 : decode cX9_moved 77 = .ok (.ifCond .ne 25, 3) := by decide +kernel
theorem dX9_moved_80 : decode cX9_moved 80 = .ok (.aload_n 0, 1) := by decide +kernel
theorem dX9_moved_81 : decode cX9_moved 81 = .ok (.getfield 62, 3) := by decide +kernel
theorem dX9_moved_84 : decode cX9_moved 84 = .ok (.aload_n 3, 1) := by decide +kernel
theorem dX9_moved_85 : decode cX9_moved 85 = .ok (.aload_n 0, 1) := by decide +kernel
theorem dX9_moved_86 : decode cX9_moved 86 = .ok (.getfield 36, 3) := by decide +kernel
theorem dX9_moved_89 : decode cX9_moved 89 = .ok (.iload 4, 2) := by decide +kernel
theorem dX9_moved_91 : decode cX9_moved 91 = .ok (.aaload, 1) := by decide +kernel
theorem dX9_moved_92 : decode cX9_moved 92 = .ok (.aload_n 2, 1) := by decide +kernel
theorem dX9_moved_93 : decode cX9_moved 93 = .ok (.invokevirtual 279, 3) := by decide +kernel
theorem dX9_moved_96 : decode cX9_moved 96 = .ok (.ifCond .eq 6, 3) := by decide +kernel
theorem dX9_moved_99 : decode cX9_moved 99 = .ok (.iload 4, 2) := by decide +kernel
theorem dX9_moved_101 : decode cX9_moved 101 = .ok (.ireturn, 1) := by decide +kernel
theorem dX9_moved_102 : decode cX9_moved 102 = .ok (.iinc 4 1, 3) := by decide +kernel
theorem dX9_moved_105 : decode cX9_moved 105 = .ok (.goto (-49), 3) := by decide +kernel
theorem dX9_moved_108 : decode cX9_moved 108 = .ok (.bipush (-4), 2) := by decide +kernel
theorem dX9_moved_110 : decode cX9_moved 110 = .ok (.ireturn, 1) := by decide +kernel
theorem dX9_word_0 : decode cX9_word 0 = .ok (.iload_n 1, 1) := by decide +kernel
theorem dX9_word_1 : decode cX9_word 1 = .ok (.invokestatic 259, 3) := by decide +kernel
theorem dX9_word_4 : decode cX9_word 4 = .ok (.ifCond .eq 10, 3) := by decide +kernel
theorem dX9_word_7 : decode cX9_word 7 = .ok (.iload_n 2, 1) := by decide +kernel
theorem dX9_word_8 : decode cX9_word 8 = .ok (.invokestatic 84, 3) := by decide +kernel
theorem dX9_word_11 : decode cX9_word 11 = .ok (.ifCond .ne 5, 3) := by decide +kernel
theorem dX9_word_14 : decode cX9_word 14 = .ok (.iconst (-1), 1) := by decide +kernel
theorem dX9_word_15 : decode cX9_word 15 = .ok (.ireturn, 1) := by decide +kernel
theorem dX9_word_16 : decode cX9_word 16 = .ok (.aload_n 0, 1) := by decide +kernel
theorem dX9_word_17 : decode cX9_word 17 = .ok (.getfield 43, 3) := by decide +kernel
theorem dX9_word_20 : decode cX9_word 20 = .ok (.invokevirtual 125, 3) := by decide +kernel
theorem dX9_word_23 : decode cX9_word 23 = .ok (.aload_n 0, 1) := by decide +kernel
theorem dX9_word_24 : decode cX9_word 24 = .ok (.getfield 43, 3) := by decide +kernel
theorem dX9_word_27 : decode cX9_word 27 = .ok (.aload_n 0, 1) := by decide +kernel
theorem dX9_word_28 : decode cX9_word 28 = .ok (.getfield 11, 3) := by decide +kernel
theorem dX9_word_31 : decode cX9_word 31 = .ok (.iload_n 2, 1) := by decide +kernel
theorem dX9_word_32 : decode cX9_word 32 = .ok (.aaload, 1) := by decide +kernel
theorem dX9_word_33 : decode cX9_word 33 = .ok (.aload_n 0, 1) := by decide +kernel
theorem dX9_word_34 : decode cX9_word 34 = .ok (.getfield 48, 3) := by decide +kernel
theorem dX9_word_37 : decode cX9_word 37 = .ok (.bipush 16, 2) := by decide +kernel
theorem dX9_word_39 : decode cX9_word 39 = .ok (.invokevirtual 283, 3) := by decide +kernel
theorem dX9_word_42 : decode cX9_word 42 = .ok (.aload_n 0, 1) := by decide +kernel
theorem dX9_word_43 : decode cX9_word 43 = .ok (.getfield 43, 3) := by decide +kernel
theorem dX9_word_46 : decode cX9_word 46 = .ok (.invokevirtual 132, 3) := by decide +kernel
theorem dX9_word_49 : decode cX9_word 49 = .ok (.istore_n 3, 1) := by decide +kernel
theorem dX9_word_50 : decode cX9_word 50 = .ok (.aload_n 0, 1) := by decide +kernel
theorem dX9_word_51 : decode cX9_word 51 = .ok (.getfield 43, 3) := by decide +kernel
theorem dX9_word_54 : decode cX9_word 54 = .ok (.invokevirtual 136, 3) := by decide +kernel
theorem dX9_word_57 : decode cX9_word 57 = .ok (.istore 4, 2) := by decide +kernel
theorem dX9_word_59 : decode cX9_word 59 = .ok (.aload_n 0, 1) := by decide +kernel
theorem dX9_word_60 : decode cX9_word 60 = .ok (.getfield 43, 3) := by decide +kernel
theorem dX9_word_63 : decode cX9_word 63 = .ok (.invokevirtual 140, 3) := by decide +kernel
theorem dX9_word_66 : decode cX9_word 66 = .ok (.iload_n 3, 1) := by decide +kernel
theorem dX9_word_67 : decode cX9_word 67 = .ok (.ifCond .ne 6, 3) := by decide +kernel
theorem dX9_word_70 : decode cX9_word 70 = .ok (.iload 4, 2) := by decide +kernel
theorem dX9_word_72 : decode cX9_word 72 = .ok (.ireturn, 1) := by decide +kernel
theorem dX9_word_73 : decode cX9_word 73 = .ok (.aload_n 0, 1) := by decide +kernel
theorem dX9_word_74 : decode cX9_word 74 = .ok (.iload_n 1, 1) := by decide +kernel
theorem dX9_word_75 : decode cX9_word 75 = .ok (.iload_n 2, 1) := by decide +kernel
theorem dX9_word_76 : decode cX9_word 76 = .ok (.invokevirtual 287, 3) := by decide +kernel
theorem dX9_word_79 : decode cX9_word 79 = .ok (.ireturn, 1) := by decide +kernel
theorem dX9_walk_0 : decode cX9_walk 0 = .ok (.iload_n 1, 1) := by decide +kernel
theorem dX9_walk_1 : decode cX9_walk 1 = .ok (.invokestatic 259, 3) := by decide +kernel
theorem dX9_walk_4 : decode cX9_walk 4 = .ok (.ifCond .eq 22, 3) := by decide +kernel
theorem dX9_walk_7 : decode cX9_walk 7 = .ok (.iload_n 2, 1) := by decide +kernel
theorem dX9_walk_8 : decode cX9_walk 8 = .ok (.invokestatic 84, 3) := by decide +kernel
theorem dX9_walk_11 : decode cX9_walk 11 = .ok (.ifCond .eq 15, 3) := by decide +kernel
theorem dX9_walk_14 : decode cX9_walk 14 = .ok (.iload 6, 2) := by decide +kernel
theorem dX9_walk_16 : decode cX9_walk 16 = .ok (.ifCond .lt 10, 3) := by decide +kernel
theorem dX9_walk_19 : decode cX9_walk 19 = .ok (.iload 6, 2) := by decide +kernel
theorem dX9_walk_21 : decode cX9_walk 21 = .ok (.bipush 16, 2) := by decide +kernel
theorem dX9_walk_23 : decode cX9_walk 23 = .ok (.if_icmp .le 5, 3) := by decide +kernel
theorem dX9_walk_26 : decode cX9_walk 26 = .ok (.iconst (-1), 1) := by decide +kernel
theorem dX9_walk_27 : decode cX9_walk 27 = .ok (.ireturn, 1) := by decide +kernel
theorem dX9_walk_28 : decode cX9_walk 28 = .ok (.aload_n 0, 1) := by decide +kernel
theorem dX9_walk_29 : decode cX9_walk 29 = .ok (.iload_n 3, 1) := by decide +kernel
theorem dX9_walk_30 : decode cX9_walk 30 = .ok (.iload 4, 2) := by decide +kernel
theorem dX9_walk_32 : decode cX9_walk 32 = .ok (.invokevirtual 290, 3) := by decide +kernel
theorem dX9_walk_35 : decode cX9_walk 35 = .ok (.istore 7, 2) := by decide +kernel
theorem dX9_walk_37 : decode cX9_walk 37 = .ok (.iload 7, 2) := by decide +kernel
theorem dX9_walk_39 : decode cX9_walk 39 = .ok (.ifCond .eq 6, 3) := by decide +kernel
theorem dX9_walk_42 : decode cX9_walk 42 = .ok (.iload 7, 2) := by decide +kernel
theorem dX9_walk_44 : decode cX9_walk 44 = .ok (.ireturn, 1) := by decide +kernel
theorem dX9_walk_45 : decode cX9_walk 45 = .ok (.aload_n 0, 1) := by decide +kernel
theorem dX9_walk_46 : decode cX9_walk 46 = .ok (.getfield 30, 3) := by decide +kernel
theorem dX9_walk_49 : decode cX9_walk 49 = .ok (.iload_n 3, 1) := by decide +kernel
theorem dX9_walk_50 : decode cX9_walk 50 = .ok (.aaload, 1) := by decide +kernel
theorem dX9_walk_51 : decode cX9_walk 51 = .ok (.astore 8, 2) := by decide +kernel
theorem dX9_walk_53 : decode cX9_walk 53 = .ok (.iload 5, 2) := by decide +kernel
theorem dX9_walk_55 : decode cX9_walk 55 = .ok (.ifCond .lt 16, 3) := by decide +kernel
theorem dX9_walk_58 : decode cX9_walk 58 = .ok (.iload 5, 2) := by decide +kernel
theorem dX9_walk_60 : decode cX9_walk 60 = .ok (.aload 8, 2) := by decide +kernel
theorem dX9_walk_62 : decode cX9_walk 62 = .ok (.getfield 293, 3) := by decide +kernel
theorem dX9_walk_65 : decode cX9_walk 65 = .ok (.iload 6, 2) := by decide +kernel
theorem dX9_walk_67 : decode cX9_walk 67 = .ok (.isub, 1) := by decide +kernel
theorem dX9_walk_68 : decode cX9_walk 68 = .ok (.if_icmp .le 6, 3) := by decide +kernel
theorem dX9_walk_71 : decode cX9_walk 71 = .ok (.bipush (-13), 2) := by decide +kernel
theorem dX9_walk_73 : decode cX9_walk 73 = .ok (.ireturn, 1) := by decide +kernel
theorem dX9_walk_74 : decode cX9_walk 74 = .ok (.aload_n 0, 1) := by decide +kernel
theorem dX9_walk_75 : decode cX9_walk 75 = .ok (.getfield 48, 3) := by decide +kernel
theorem dX9_walk_78 : decode cX9_walk 78 = .ok (.invokevirtual 296, 3) := by decide +kernel
theorem dX9_walk_81 : decode cX9_walk 81 = .ok (.iconst 0, 1) := by decide +kernel
theorem dX9_walk_82 : decode cX9_walk 82 = .ok (.istore 9, 2) := by decide +kernel
theorem dX9_walk_84 : decode cX9_walk 84 = .ok (.iload 9, 2) := by decide +kernel
theorem dX9_walk_86 : decode cX9_walk 86 = .ok (.iload 6, 2) := by decide +kernel
theorem dX9_walk_88 : decode cX9_walk 88 = .ok (.if_icmp .ge 61, 3) := by decide +kernel
theorem dX9_walk_91 : decode cX9_walk 91 = .ok (.aload 8, 2) := by decide +kernel
theorem dX9_walk_93 : decode cX9_walk 93 = .ok (.getfield 298, 3) := by decide +kernel
theorem dX9_walk_96 : decode cX9_walk 96 = .ok (.iload 5, 2) := by decide +kernel
theorem dX9_walk_98 : decode cX9_walk 98 = .ok (.iload 9, 2) := by decide +kernel
theorem dX9_walk_100 : decode cX9_walk 100 = .ok (.iadd, 1) := by decide +kernel
theorem dX9_walk_101 : decode cX9_walk 101 = .ok (.iaload, 1) := by decide +kernel
theorem dX9_walk_102 : decode cX9_walk 102 = .ok (.aload_n 0, 1) := by decide +kernel
theorem dX9_walk_103 : decode cX9_walk 103 = .ok (.getfield 11, 3) := by decide +kernel
theorem dX9_walk_106 : decode cX9_walk 106 = .ok (.iload_n 2, 1) := by decide +kernel
theorem dX9_walk_107 : decode cX9_walk 107 = .ok (.aaload, 1) := by decide +kernel
theorem dX9_walk_108 : decode cX9_walk 108 = .ok (.getfield 104, 3) := by decide +kernel
theorem dX9_walk_111 : decode cX9_walk 111 = .ok (.invokestatic 301, 3) := by decide +kernel
theorem dX9_walk_114 : decode cX9_walk 114 = .ok (.istore 10, 2) := by decide +kernel
theorem dX9_walk_116 : decode cX9_walk 116 = .ok (.iload 10, 2) := by decide +kernel
theorem dX9_walk_118 : decode cX9_walk 118 = .ok (.iconst (-1), 1) := by decide +kernel
theorem dX9_walk_119 : decode cX9_walk 119 = .ok (.if_icmp .eq 21, 3) := by decide +kernel
theorem dX9_walk_122 : decode cX9_walk 122 = .ok (.aload_n 0, 1) := by decide +kernel
theorem dX9_walk_123 : decode cX9_walk 123 = .ok (.getfield 48, 3) := by decide +kernel
theorem dX9_walk_126 : decode cX9_walk 126 = .ok (.aload_n 0, 1) := by decide +kernel
theorem dX9_walk_127 : decode cX9_walk 127 = .ok (.getfield 11, 3) := by decide +kernel
theorem dX9_walk_130 : decode cX9_walk 130 = .ok (.iload_n 2, 1) := by decide +kernel
theorem dX9_walk_131 : decode cX9_walk 131 = .ok (.aaload, 1) := by decide +kernel
theorem dX9_walk_132 : decode cX9_walk 132 = .ok (.iload 10, 2) := by decide +kernel
theorem dX9_walk_134 : decode cX9_walk 134 = .ok (.invokevirtual 304, 3) := by decide +kernel
theorem dX9_walk_137 : decode cX9_walk 137 = .ok (.ifCond .ne 6, 3) := by decide +kernel
theorem dX9_walk_140 : decode cX9_walk 140 = .ok (.bipush (-2), 2) := by decide +kernel
theorem dX9_walk_142 : decode cX9_walk 142 = .ok (.ireturn, 1) := by decide +kernel
theorem dX9_walk_143 : decode cX9_walk 143 = .ok (.iinc 9 1, 3) := by decide +kernel
theorem dX9_walk_146 : decode cX9_walk 146 = .ok (.goto (-62), 3) := by decide +kernel
theorem dX9_walk_149 : decode cX9_walk 149 = .ok (.aload_n 0, 1) := by decide +kernel
theorem dX9_walk_150 : decode cX9_walk 150 = .ok (.iload_n 1, 1) := by decide +kernel
theorem dX9_walk_151 : decode cX9_walk 151 = .ok (.iload_n 2, 1) := by decide +kernel
theorem dX9_walk_152 : decode cX9_walk 152 = .ok (.invokevirtual 287, 3) := by decide +kernel
theorem dX9_walk_155 : decode cX9_walk 155 = .ok (.ireturn, 1) := by decide +kernel
theorem dX9_about_0 : decode cX9_about 0 = .ok (.iload_n 1, 1) := by decide +kernel
theorem dX9_about_1 : decode cX9_about 1 = .ok (.invokestatic 259, 3) := by decide +kernel
theorem dX9_about_4 : decode cX9_about 4 = .ok (.ifCond .eq 12, 3) := by decide +kernel
theorem dX9_about_7 : decode cX9_about 7 = .ok (.iload_n 2, 1) := by decide +kernel
theorem dX9_about_8 : decode cX9_about 8 = .ok (.ifCond .lt 8, 3) := by decide +kernel
theorem dX9_about_11 : decode cX9_about 11 = .ok (.iload_n 2, 1) := by decide +kernel
theorem dX9_about_12 : decode cX9_about 12 = .ok (.iconst 3, 1) := by decide +kernel
theorem dX9_about_13 : decode cX9_about 13 = .ok (.if_icmp .le 5, 3) := by decide +kernel
theorem dX9_about_16 : decode cX9_about 16 = .ok (.iconst (-1), 1) := by decide +kernel
theorem dX9_about_17 : decode cX9_about 17 = .ok (.ireturn, 1) := by decide +kernel
theorem dX9_about_18 : decode cX9_about 18 = .ok (.aload_n 0, 1) := by decide +kernel
theorem dX9_about_19 : decode cX9_about 19 = .ok (.getfield 24, 3) := by decide +kernel
theorem dX9_about_22 : decode cX9_about 22 = .ok (.iload_n 1, 1) := by decide +kernel
theorem dX9_about_23 : decode cX9_about 23 = .ok (.aaload, 1) := by decide +kernel
theorem dX9_about_24 : decode cX9_about 24 = .ok (.astore_n 3, 1) := by decide +kernel
theorem dX9_about_25 : decode cX9_about 25 = .ok (.aload_n 3, 1) := by decide +kernel
theorem dX9_about_26 : decode cX9_about 26 = .ok (.getfield 262, 3) := by decide +kernel
theorem dX9_about_29 : decode cX9_about 29 = .ok (.iconst (-1), 1) := by decide +kernel
theorem dX9_about_30 : decode cX9_about 30 = .ok (.if_icmp .ne 6, 3) := by decide +kernel
theorem dX9_about_33 : decode cX9_about 33 = .ok (.bipush (-4), 2) := by decide +kernel
theorem dX9_about_35 : decode cX9_about 35 = .ok (.ireturn, 1) := by decide +kernel
theorem dX9_about_36 : decode cX9_about 36 = .ok (.iload_n 2, 1) := by decide +kernel
theorem dX9_about_37 : decode cX9_about 37 = .ok (.tableswitch 42 0 2 #[27, 32, 37], 27) := by decide +kernel
theorem dX9_about_64 : decode cX9_about 64 = .ok (.aload_n 3, 1) := by decide +kernel
theorem dX9_about_65 : decode cX9_about 65 = .ok (.getfield 150, 3) := by decide +kernel
theorem dX9_about_68 : decode cX9_about 68 = .ok (.ireturn, 1) := by decide +kernel
theorem dX9_about_69 : decode cX9_about 69 = .ok (.aload_n 3, 1) := by decide +kernel
theorem dX9_about_70 : decode cX9_about 70 = .ok (.getfield 262, 3) := by decide +kernel
theorem dX9_about_73 : decode cX9_about 73 = .ok (.ireturn, 1) := by decide +kernel
theorem dX9_about_74 : decode cX9_about 74 = .ok (.aload_n 3, 1) := by decide +kernel
theorem dX9_about_75 : decode cX9_about 75 = .ok (.getfield 267, 3) := by decide +kernel
theorem dX9_about_78 : decode cX9_about 78 = .ok (.ireturn, 1) := by decide +kernel
theorem dX9_about_79 : decode cX9_about 79 = .ok (.aload_n 3, 1) := by decide +kernel
theorem dX9_about_80 : decode cX9_about 80 = .ok (.getfield 276, 3) := by decide +kernel
theorem dX9_about_83 : decode cX9_about 83 = .ok (.ireturn, 1) := by decide +kernel
theorem dX9_step_0 : decode cX9_step 0 = .ok (.iload_n 1, 1) := by decide +kernel
theorem dX9_step_1 : decode cX9_step 1 = .ok (.invokestatic 259, 3) := by decide +kernel
theorem dX9_step_4 : decode cX9_step 4 = .ok (.ifCond .eq 7, 3) := by decide +kernel
theorem dX9_step_7 : decode cX9_step 7 = .ok (.iload_n 2, 1) := by decide +kernel
theorem dX9_step_8 : decode cX9_step 8 = .ok (.ifCond .ge 5, 3) := by decide +kernel
theorem dX9_step_11 : decode cX9_step 11 = .ok (.iconst (-1), 1) := by decide +kernel
theorem dX9_step_12 : decode cX9_step 12 = .ok (.ireturn, 1) := by decide +kernel
theorem dX9_step_13 : decode cX9_step 13 = .ok (.aload_n 0, 1) := by decide +kernel
theorem dX9_step_14 : decode cX9_step 14 = .ok (.getfield 24, 3) := by decide +kernel
theorem dX9_step_17 : decode cX9_step 17 = .ok (.iload_n 1, 1) := by decide +kernel
theorem dX9_step_18 : decode cX9_step 18 = .ok (.aaload, 1) := by decide +kernel
theorem dX9_step_19 : decode cX9_step 19 = .ok (.astore_n 3, 1) := by decide +kernel
theorem dX9_step_20 : decode cX9_step 20 = .ok (.aload_n 3, 1) := by decide +kernel
theorem dX9_step_21 : decode cX9_step 21 = .ok (.getfield 262, 3) := by decide +kernel
theorem dX9_step_24 : decode cX9_step 24 = .ok (.iconst (-1), 1) := by decide +kernel
theorem dX9_step_25 : decode cX9_step 25 = .ok (.if_icmp .ne 6, 3) := by decide +kernel
theorem dX9_step_28 : decode cX9_step 28 = .ok (.bipush (-4), 2) := by decide +kernel
theorem dX9_step_30 : decode cX9_step 30 = .ok (.ireturn, 1) := by decide +kernel
theorem dX9_step_31 : decode cX9_step 31 = .ok (.iload_n 2, 1) := by decide +kernel
theorem dX9_step_32 : decode cX9_step 32 = .ok (.aload_n 3, 1) := by decide +kernel
theorem dX9_step_33 : decode cX9_step 33 = .ok (.getfield 150, 3) := by decide +kernel
theorem dX9_step_36 : decode cX9_step 36 = .ok (.if_icmp .lt 5, 3) := by decide +kernel
theorem dX9_step_39 : decode cX9_step 39 = .ok (.iconst (-1), 1) := by decide +kernel
theorem dX9_step_40 : decode cX9_step 40 = .ok (.ireturn, 1) := by decide +kernel
theorem dX9_step_41 : decode cX9_step 41 = .ok (.aload_n 3, 1) := by decide +kernel
theorem dX9_step_42 : decode cX9_step 42 = .ok (.getfield 146, 3) := by decide +kernel
theorem dX9_step_45 : decode cX9_step 45 = .ok (.iload_n 2, 1) := by decide +kernel
theorem dX9_step_46 : decode cX9_step 46 = .ok (.iaload, 1) := by decide +kernel
theorem dX9_step_47 : decode cX9_step 47 = .ok (.invokestatic 186, 3) := by decide +kernel
theorem dX9_step_50 : decode cX9_step 50 = .ok (.ireturn, 1) := by decide +kernel
theorem dX9_drawn_0 : decode cX9_drawn 0 = .ok (.iload_n 1, 1) := by decide +kernel
theorem dX9_drawn_1 : decode cX9_drawn 1 = .ok (.invokestatic 259, 3) := by decide +kernel
theorem dX9_drawn_4 : decode cX9_drawn 4 = .ok (.ifCond .eq 10, 3) := by decide +kernel
theorem dX9_drawn_7 : decode cX9_drawn 7 = .ok (.iload_n 2, 1) := by decide +kernel
theorem dX9_drawn_8 : decode cX9_drawn 8 = .ok (.invokestatic 259, 3) := by decide +kernel
theorem dX9_drawn_11 : decode cX9_drawn 11 = .ok (.ifCond .ne 5, 3) := by decide +kernel
theorem dX9_drawn_14 : decode cX9_drawn 14 = .ok (.iconst (-1), 1) := by decide +kernel
theorem dX9_drawn_15 : decode cX9_drawn 15 = .ok (.ireturn, 1) := by decide +kernel
theorem dX9_drawn_16 : decode cX9_drawn 16 = .ok (.aload_n 0, 1) := by decide +kernel
theorem dX9_drawn_17 : decode cX9_drawn 17 = .ok (.getfield 24, 3) := by decide +kernel
theorem dX9_drawn_20 : decode cX9_drawn 20 = .ok (.iload_n 1, 1) := by decide +kernel
theorem dX9_drawn_21 : decode cX9_drawn 21 = .ok (.aaload, 1) := by decide +kernel
theorem dX9_drawn_22 : decode cX9_drawn 22 = .ok (.astore_n 3, 1) := by decide +kernel
theorem dX9_drawn_23 : decode cX9_drawn 23 = .ok (.aload_n 0, 1) := by decide +kernel
theorem dX9_drawn_24 : decode cX9_drawn 24 = .ok (.getfield 24, 3) := by decide +kernel
theorem dX9_drawn_27 : decode cX9_drawn 27 = .ok (.iload_n 2, 1) := by decide +kernel
theorem dX9_drawn_28 : decode cX9_drawn 28 = .ok (.aaload, 1) := by decide +kernel
theorem dX9_drawn_29 : decode cX9_drawn 29 = .ok (.astore 4, 2) := by decide +kernel
theorem dX9_drawn_31 : decode cX9_drawn 31 = .ok (.aload_n 3, 1) := by decide +kernel
theorem dX9_drawn_32 : decode cX9_drawn 32 = .ok (.getfield 262, 3) := by decide +kernel
theorem dX9_drawn_35 : decode cX9_drawn 35 = .ok (.invokestatic 84, 3) := by decide +kernel
theorem dX9_drawn_38 : decode cX9_drawn 38 = .ok (.ifCond .eq 39, 3) := by decide +kernel
theorem dX9_drawn_41 : decode cX9_drawn 41 = .ok (.aload_n 3, 1) := by decide +kernel
theorem dX9_drawn_42 : decode cX9_drawn 42 = .ok (.getfield 262, 3) := by decide +kernel
theorem dX9_drawn_45 : decode cX9_drawn 45 = .ok (.aload 4, 2) := by decide +kernel
theorem dX9_drawn_47 : decode cX9_drawn 47 = .ok (.getfield 262, 3) := by decide +kernel
theorem dX9_drawn_50 : decode cX9_drawn 50 = .ok (.if_icmp .ne 27, 3) := by decide +kernel
theorem dX9_drawn_53 : decode cX9_drawn 53 = .ok (.aload_n 3, 1) := by decide +kernel
theorem dX9_drawn_54 : decode cX9_drawn 54 = .ok (.getfield 267, 3) := by decide +kernel
theorem dX9_drawn_57 : decode cX9_drawn 57 = .ok (.aload 4, 2) := by decide +kernel
theorem dX9_drawn_59 : decode cX9_drawn 59 = .ok (.getfield 267, 3) := by decide +kernel
theorem dX9_drawn_62 : decode cX9_drawn 62 = .ok (.if_icmp .ne 15, 3) := by decide +kernel
theorem dX9_drawn_65 : decode cX9_drawn 65 = .ok (.aload_n 3, 1) := by decide +kernel
theorem dX9_drawn_66 : decode cX9_drawn 66 = .ok (.getfield 276, 3) := by decide +kernel
theorem dX9_drawn_69 : decode cX9_drawn 69 = .ok (.aload 4, 2) := by decide +kernel
theorem dX9_drawn_71 : decode cX9_drawn 71 = .ok (.getfield 276, 3) := by decide +kernel
theorem dX9_drawn_74 : decode cX9_drawn 74 = .ok (.if_icmp .eq 6, 3) := by decide +kernel
theorem dX9_drawn_77 : decode cX9_drawn 77 = .ok (.bipush (-2), 2) := by decide +kernel
theorem dX9_drawn_79 : decode cX9_drawn 79 = .ok (.ireturn, 1) := by decide +kernel
theorem dX9_drawn_80 : decode cX9_drawn 80 = .ok (.aload_n 0, 1) := by decide +kernel
theorem dX9_drawn_81 : decode cX9_drawn 81 = .ok (.getfield 69, 3) := by decide +kernel
theorem dX9_drawn_84 : decode cX9_drawn 84 = .ok (.aload_n 0, 1) := by decide +kernel
theorem dX9_drawn_85 : decode cX9_drawn 85 = .ok (.getfield 11, 3) := by decide +kernel
theorem dX9_drawn_88 : decode cX9_drawn 88 = .ok (.aload_n 3, 1) := by decide +kernel
theorem dX9_drawn_89 : decode cX9_drawn 89 = .ok (.getfield 262, 3) := by decide +kernel
theorem dX9_drawn_92 : decode cX9_drawn 92 = .ok (.aaload, 1) := by decide +kernel
theorem dX9_drawn_93 : decode cX9_drawn 93 = .ok (.aload_n 3, 1) := by decide +kernel
theorem dX9_drawn_94 : decode cX9_drawn 94 = .ok (.aload 4, 2) := by decide +kernel
theorem dX9_drawn_96 : decode cX9_drawn 96 = .ok (.invokevirtual 308, 3) := by decide +kernel
theorem dX9_drawn_99 : decode cX9_drawn 99 = .ok (.ireturn, 1) := by decide +kernel
theorem dX9_product_0 : decode cX9_product 0 = .ok (.iload_n 1, 1) := by decide +kernel
theorem dX9_product_1 : decode cX9_product 1 = .ok (.invokestatic 84, 3) := by decide +kernel
theorem dX9_product_4 : decode cX9_product 4 = .ok (.ifCond .ne 5, 3) := by decide +kernel
theorem dX9_product_7 : decode cX9_product 7 = .ok (.iconst (-1), 1) := by decide +kernel
theorem dX9_product_8 : decode cX9_product 8 = .ok (.ireturn, 1) := by decide +kernel
theorem dX9_product_9 : decode cX9_product 9 = .ok (.aload_n 0, 1) := by decide +kernel
theorem dX9_product_10 : decode cX9_product 10 = .ok (.getfield 11, 3) := by decide +kernel
theorem dX9_product_13 : decode cX9_product 13 = .ok (.iload_n 1, 1) := by decide +kernel
theorem dX9_product_14 : decode cX9_product 14 = .ok (.aaload, 1) := by decide +kernel
theorem dX9_product_15 : decode cX9_product 15 = .ok (.astore 4, 2) := by decide +kernel
theorem dX9_product_17 : decode cX9_product 17 = .ok (.iload_n 2, 1) := by decide +kernel
theorem dX9_product_18 : decode cX9_product 18 = .ok (.aload 4, 2) := by decide +kernel
theorem dX9_product_20 : decode cX9_product 20 = .ok (.getfield 104, 3) := by decide +kernel
theorem dX9_product_23 : decode cX9_product 23 = .ok (.invokestatic 312, 3) := by decide +kernel
theorem dX9_product_26 : decode cX9_product 26 = .ok (.ifCond .eq 15, 3) := by decide +kernel
theorem dX9_product_29 : decode cX9_product 29 = .ok (.iload_n 3, 1) := by decide +kernel
theorem dX9_product_30 : decode cX9_product 30 = .ok (.aload 4, 2) := by decide +kernel
theorem dX9_product_32 : decode cX9_product 32 = .ok (.getfield 104, 3) := by decide +kernel
theorem dX9_product_35 : decode cX9_product 35 = .ok (.invokestatic 312, 3) := by decide +kernel
theorem dX9_product_38 : decode cX9_product 38 = .ok (.ifCond .ne 5, 3) := by decide +kernel
theorem dX9_product_41 : decode cX9_product 41 = .ok (.iconst (-1), 1) := by decide +kernel
theorem dX9_product_42 : decode cX9_product 42 = .ok (.ireturn, 1) := by decide +kernel
theorem dX9_product_43 : decode cX9_product 43 = .ok (.aload 4, 2) := by decide +kernel
theorem dX9_product_45 : decode cX9_product 45 = .ok (.iload_n 2, 1) := by decide +kernel
theorem dX9_product_46 : decode cX9_product 46 = .ok (.invokevirtual 316, 3) := by decide +kernel
theorem dX9_product_49 : decode cX9_product 49 = .ok (.ifCond .eq 12, 3) := by decide +kernel
theorem dX9_product_52 : decode cX9_product 52 = .ok (.aload 4, 2) := by decide +kernel
theorem dX9_product_54 : decode cX9_product 54 = .ok (.iload_n 3, 1) := by decide +kernel
theorem dX9_product_55 : decode cX9_product 55 = .ok (.invokevirtual 316, 3) := by decide +kernel
theorem dX9_product_58 : decode cX9_product 58 = .ok (.ifCond .ne 6, 3) := by decide +kernel
theorem dX9_product_61 : decode cX9_product 61 = .ok (.bipush (-2), 2) := by decide +kernel
theorem dX9_product_63 : decode cX9_product 63 = .ok (.ireturn, 1) := by decide +kernel
theorem dX9_product_64 : decode cX9_product 64 = .ok (.iconst 0, 1) := by decide +kernel
theorem dX9_product_65 : decode cX9_product 65 = .ok (.istore 5, 2) := by decide +kernel
theorem dX9_product_67 : decode cX9_product 67 = .ok (.iconst 0, 1) := by decide +kernel
theorem dX9_product_68 : decode cX9_product 68 = .ok (.istore 6, 2) := by decide +kernel
theorem dX9_product_70 : decode cX9_product 70 = .ok (.iload 6, 2) := by decide +kernel
theorem dX9_product_72 : decode cX9_product 72 = .ok (.aload 4, 2) := by decide +kernel
theorem dX9_product_74 : decode cX9_product 74 = .ok (.getfield 143, 3) := by decide +kernel
theorem dX9_product_77 : decode cX9_product 77 = .ok (.if_icmp .ge 26, 3) := by decide +kernel
theorem dX9_product_80 : decode cX9_product 80 = .ok (.iload 5, 2) := by decide +kernel
theorem dX9_product_82 : decode cX9_product 82 = .ok (.aload 4, 2) := by decide +kernel
theorem dX9_product_84 : decode cX9_product 84 = .ok (.iload 6, 2) := by decide +kernel
theorem dX9_product_86 : decode cX9_product 86 = .ok (.iload_n 2, 1) := by decide +kernel
theorem dX9_product_87 : decode cX9_product 87 = .ok (.iload_n 3, 1) := by decide +kernel
theorem dX9_product_88 : decode cX9_product 88 = .ok (.invokevirtual 319, 3) := by decide +kernel
theorem dX9_product_91 : decode cX9_product 91 = .ok (.iload 6, 2) := by decide +kernel
theorem dX9_product_93 : decode cX9_product 93 = .ok (.ishl, 1) := by decide +kernel
theorem dX9_product_94 : decode cX9_product 94 = .ok (.ior, 1) := by decide +kernel
theorem dX9_product_95 : decode cX9_product 95 = .ok (.istore 5, 2) := by decide +kernel
theorem dX9_product_97 : decode cX9_product 97 = .ok (.iinc 6 1, 3) := by decide +kernel
theorem dX9_product_100 : decode cX9_product 100 = .ok (.goto (-30), 3) := by decide +kernel
theorem dX9_product_103 : decode cX9_product 103 = .ok (.iload 5, 2) := by decide +kernel
theorem dX9_product_105 : decode cX9_product 105 = .ok (.ireturn, 1) := by decide +kernel
theorem dX9_nought_0 : decode cX9_nought 0 = .ok (.iload_n 1, 1) := by decide +kernel
theorem dX9_nought_1 : decode cX9_nought 1 = .ok (.invokestatic 84, 3) := by decide +kernel
theorem dX9_nought_4 : decode cX9_nought 4 = .ok (.ifCond .eq 19, 3) := by decide +kernel
theorem dX9_nought_7 : decode cX9_nought 7 = .ok (.iload_n 2, 1) := by decide +kernel
theorem dX9_nought_8 : decode cX9_nought 8 = .ok (.aload_n 0, 1) := by decide +kernel
theorem dX9_nought_9 : decode cX9_nought 9 = .ok (.getfield 11, 3) := by decide +kernel
theorem dX9_nought_12 : decode cX9_nought 12 = .ok (.iload_n 1, 1) := by decide +kernel
theorem dX9_nought_13 : decode cX9_nought 13 = .ok (.aaload, 1) := by decide +kernel
theorem dX9_nought_14 : decode cX9_nought 14 = .ok (.getfield 143, 3) := by decide +kernel
theorem dX9_nought_17 : decode cX9_nought 17 = .ok (.invokestatic 312, 3) := by decide +kernel
theorem dX9_nought_20 : decode cX9_nought 20 = .ok (.ifCond .ne 5, 3) := by decide +kernel
theorem dX9_nought_23 : decode cX9_nought 23 = .ok (.iconst (-1), 1) := by decide +kernel
theorem dX9_nought_24 : decode cX9_nought 24 = .ok (.ireturn, 1) := by decide +kernel
theorem dX9_nought_25 : decode cX9_nought 25 = .ok (.aload_n 0, 1) := by decide +kernel
theorem dX9_nought_26 : decode cX9_nought 26 = .ok (.getfield 55, 3) := by decide +kernel
theorem dX9_nought_29 : decode cX9_nought 29 = .ok (.aload_n 0, 1) := by decide +kernel
theorem dX9_nought_30 : decode cX9_nought 30 = .ok (.getfield 11, 3) := by decide +kernel
theorem dX9_nought_33 : decode cX9_nought 33 = .ok (.iload_n 1, 1) := by decide +kernel
theorem dX9_nought_34 : decode cX9_nought 34 = .ok (.aaload, 1) := by decide +kernel
theorem dX9_nought_35 : decode cX9_nought 35 = .ok (.iload_n 2, 1) := by decide +kernel
theorem dX9_nought_36 : decode cX9_nought 36 = .ok (.invokevirtual 323, 3) := by decide +kernel
theorem dX9_nought_39 : decode cX9_nought 39 = .ok (.ifCond .eq 7, 3) := by decide +kernel
theorem dX9_nought_42 : decode cX9_nought 42 = .ok (.iconst 1, 1) := by decide +kernel
theorem dX9_nought_43 : decode cX9_nought 43 = .ok (.goto 4, 3) := by decide +kernel
theorem dX9_nought_46 : decode cX9_nought 46 = .ok (.iconst 0, 1) := by decide +kernel
theorem dX9_nought_47 : decode cX9_nought 47 = .ok (.ireturn, 1) := by decide +kernel
theorem dX9_fold_0 : decode cX9_fold 0 = .ok (.iload_n 1, 1) := by decide +kernel
theorem dX9_fold_1 : decode cX9_fold 1 = .ok (.invokestatic 84, 3) := by decide +kernel
theorem dX9_fold_4 : decode cX9_fold 4 = .ok (.ifCond .ne 5, 3) := by decide +kernel
theorem dX9_fold_7 : decode cX9_fold 7 = .ok (.iconst (-1), 1) := by decide +kernel
theorem dX9_fold_8 : decode cX9_fold 8 = .ok (.ireturn, 1) := by decide +kernel
theorem dX9_fold_9 : decode cX9_fold 9 = .ok (.aload_n 0, 1) := by decide +kernel
theorem dX9_fold_10 : decode cX9_fold 10 = .ok (.getfield 11, 3) := by decide +kernel
theorem dX9_fold_13 : decode cX9_fold 13 = .ok (.iload_n 1, 1) := by decide +kernel
theorem dX9_fold_14 : decode cX9_fold 14 = .ok (.aaload, 1) := by decide +kernel
theorem dX9_fold_15 : decode cX9_fold 15 = .ok (.invokevirtual 326, 3) := by decide +kernel
theorem dX9_fold_18 : decode cX9_fold 18 = .ok (.istore_n 2, 1) := by decide +kernel
theorem dX9_fold_19 : decode cX9_fold 19 = .ok (.aload_n 0, 1) := by decide +kernel
theorem dX9_fold_20 : decode cX9_fold 20 = .ok (.getfield 11, 3) := by decide +kernel
theorem dX9_fold_23 : decode cX9_fold 23 = .ok (.iload_n 1, 1) := by decide +kernel
theorem dX9_fold_24 : decode cX9_fold 24 = .ok (.aaload, 1) := by decide +kernel
theorem dX9_fold_25 : decode cX9_fold 25 = .ok (.invokevirtual 95, 3) := by decide +kernel
theorem dX9_fold_28 : decode cX9_fold 28 = .ok (.aload_n 0, 1) := by decide +kernel
theorem dX9_fold_29 : decode cX9_fold 29 = .ok (.iload_n 1, 1) := by decide +kernel
theorem dX9_fold_30 : decode cX9_fold 30 = .ok (.invokevirtual 98, 3) := by decide +kernel
theorem dX9_fold_33 : decode cX9_fold 33 = .ok (.iload_n 2, 1) := by decide +kernel
theorem dX9_fold_34 : decode cX9_fold 34 = .ok (.ireturn, 1) := by decide +kernel
theorem dX9_join_0 : decode cX9_join 0 = .ok (.aload_n 0, 1) := by decide +kernel
theorem dX9_join_1 : decode cX9_join 1 = .ok (.getfield 11, 3) := by decide +kernel
theorem dX9_join_4 : decode cX9_join 4 = .ok (.iconst 0, 1) := by decide +kernel
theorem dX9_join_5 : decode cX9_join 5 = .ok (.aaload, 1) := by decide +kernel
theorem dX9_join_6 : decode cX9_join 6 = .ok (.astore_n 1, 1) := by decide +kernel
theorem dX9_join_7 : decode cX9_join 7 = .ok (.aload_n 0, 1) := by decide +kernel
theorem dX9_join_8 : decode cX9_join 8 = .ok (.getfield 11, 3) := by decide +kernel
theorem dX9_join_11 : decode cX9_join 11 = .ok (.iconst 1, 1) := by decide +kernel
theorem dX9_join_12 : decode cX9_join 12 = .ok (.aaload, 1) := by decide +kernel
theorem dX9_join_13 : decode cX9_join 13 = .ok (.astore_n 2, 1) := by decide +kernel
theorem dX9_join_14 : decode cX9_join 14 = .ok (.aload_n 1, 1) := by decide +kernel
theorem dX9_join_15 : decode cX9_join 15 = .ok (.getfield 88, 3) := by decide +kernel
theorem dX9_join_18 : decode cX9_join 18 = .ok (.aload_n 2, 1) := by decide +kernel
theorem dX9_join_19 : decode cX9_join 19 = .ok (.getfield 88, 3) := by decide +kernel
theorem dX9_join_22 : decode cX9_join 22 = .ok (.iadd, 1) := by decide +kernel
theorem dX9_join_23 : decode cX9_join 23 = .ok (.iconst 1, 1) := by decide +kernel
theorem dX9_join_24 : decode cX9_join 24 = .ok (.isub, 1) := by decide +kernel
theorem dX9_join_25 : decode cX9_join 25 = .ok (.bipush 8, 2) := by decide +kernel
theorem dX9_join_27 : decode cX9_join 27 = .ok (.if_icmp .gt 31, 3) := by decide +kernel
theorem dX9_join_30 : decode cX9_join 30 = .ok (.aload_n 1, 1) := by decide +kernel
theorem dX9_join_31 : decode cX9_join 31 = .ok (.getfield 104, 3) := by decide +kernel
theorem dX9_join_34 : decode cX9_join 34 = .ok (.aload_n 2, 1) := by decide +kernel
theorem dX9_join_35 : decode cX9_join 35 = .ok (.getfield 104, 3) := by decide +kernel
theorem dX9_join_38 : decode cX9_join 38 = .ok (.iadd, 1) := by decide +kernel
theorem dX9_join_39 : decode cX9_join 39 = .ok (.bipush 12, 2) := by decide +kernel
theorem dX9_join_41 : decode cX9_join 41 = .ok (.if_icmp .gt 17, 3) := by decide +kernel
theorem dX9_join_44 : decode cX9_join 44 = .ok (.aload_n 1, 1) := by decide +kernel
theorem dX9_join_45 : decode cX9_join 45 = .ok (.getfield 143, 3) := by decide +kernel
theorem dX9_join_48 : decode cX9_join 48 = .ok (.aload_n 2, 1) := by decide +kernel
theorem dX9_join_49 : decode cX9_join 49 = .ok (.getfield 143, 3) := by decide +kernel
theorem dX9_join_52 : decode cX9_join 52 = .ok (.iadd, 1) := by decide +kernel
theorem dX9_join_53 : decode cX9_join 53 = .ok (.bipush 8, 2) := by decide +kernel
theorem dX9_join_55 : decode cX9_join 55 = .ok (.if_icmp .le 6, 3) := by decide +kernel
theorem dX9_join_58 : decode cX9_join 58 = .ok (.bipush (-3), 2) := by decide +kernel
theorem dX9_join_60 : decode cX9_join 60 = .ok (.ireturn, 1) := by decide +kernel
theorem dX9_join_61 : decode cX9_join 61 = .ok (.aload_n 1, 1) := by decide +kernel
theorem dX9_join_62 : decode cX9_join 62 = .ok (.aload_n 2, 1) := by decide +kernel
theorem dX9_join_63 : decode cX9_join 63 = .ok (.invokevirtual 329, 3) := by decide +kernel
theorem dX9_join_66 : decode cX9_join 66 = .ok (.aload_n 1, 1) := by decide +kernel
theorem dX9_join_67 : decode cX9_join 67 = .ok (.invokevirtual 95, 3) := by decide +kernel
theorem dX9_join_70 : decode cX9_join 70 = .ok (.aload_n 0, 1) := by decide +kernel
theorem dX9_join_71 : decode cX9_join 71 = .ok (.iconst 0, 1) := by decide +kernel
theorem dX9_join_72 : decode cX9_join 72 = .ok (.invokevirtual 98, 3) := by decide +kernel
theorem dX9_join_75 : decode cX9_join 75 = .ok (.aload_n 1, 1) := by decide +kernel
theorem dX9_join_76 : decode cX9_join 76 = .ok (.getfield 88, 3) := by decide +kernel
theorem dX9_join_79 : decode cX9_join 79 = .ok (.ireturn, 1) := by decide +kernel
theorem dX9_sheet_0 : decode cX9_sheet 0 = .ok (.iload_n 1, 1) := by decide +kernel
theorem dX9_sheet_1 : decode cX9_sheet 1 = .ok (.invokestatic 333, 3) := by decide +kernel
theorem dX9_sheet_4 : decode cX9_sheet 4 = .ok (.ifCond .eq 16, 3) := by decide +kernel
theorem dX9_sheet_7 : decode cX9_sheet 7 = .ok (.iload_n 2, 1) := by decide +kernel
theorem dX9_sheet_8 : decode cX9_sheet 8 = .ok (.invokestatic 336, 3) := by decide +kernel
theorem dX9_sheet_11 : decode cX9_sheet 11 = .ok (.ifCond .eq 9, 3) := by decide +kernel
theorem dX9_sheet_14 : decode cX9_sheet 14 = .ok (.iload_n 3, 1) := by decide +kernel
theorem dX9_sheet_15 : decode cX9_sheet 15 = .ok (.bipush 20, 2) := by decide +kernel
theorem dX9_sheet_17 : decode cX9_sheet 17 = .ok (.if_icmp .le 5, 3) := by decide +kernel
theorem dX9_sheet_20 : decode cX9_sheet 20 = .ok (.iconst (-1), 1) := by decide +kernel
theorem dX9_sheet_21 : decode cX9_sheet 21 = .ok (.ireturn, 1) := by decide +kernel
theorem dX9_sheet_22 : decode cX9_sheet 22 = .ok (.iload_n 3, 1) := by decide +kernel
theorem dX9_sheet_23 : decode cX9_sheet 23 = .ok (.ifCond .ge 6, 3) := by decide +kernel
theorem dX9_sheet_26 : decode cX9_sheet 26 = .ok (.bipush (-14), 2) := by decide +kernel
theorem dX9_sheet_28 : decode cX9_sheet 28 = .ok (.ireturn, 1) := by decide +kernel
theorem dX9_sheet_29 : decode cX9_sheet 29 = .ok (.aload_n 0, 1) := by decide +kernel
theorem dX9_sheet_30 : decode cX9_sheet 30 = .ok (.getfield 30, 3) := by decide +kernel
theorem dX9_sheet_33 : decode cX9_sheet 33 = .ok (.iload_n 1, 1) := by decide +kernel
theorem dX9_sheet_34 : decode cX9_sheet 34 = .ok (.aaload, 1) := by decide +kernel
theorem dX9_sheet_35 : decode cX9_sheet 35 = .ok (.iload_n 2, 1) := by decide +kernel
theorem dX9_sheet_36 : decode cX9_sheet 36 = .ok (.iload_n 3, 1) := by decide +kernel
theorem dX9_sheet_37 : decode cX9_sheet 37 = .ok (.invokevirtual 339, 3) := by decide +kernel
theorem dX9_sheet_40 : decode cX9_sheet 40 = .ok (.iload_n 3, 1) := by decide +kernel
theorem dX9_sheet_41 : decode cX9_sheet 41 = .ok (.ireturn, 1) := by decide +kernel
theorem dX9_drop_0 : decode cX9_drop 0 = .ok (.iload_n 1, 1) := by decide +kernel
theorem dX9_drop_1 : decode cX9_drop 1 = .ok (.invokestatic 333, 3) := by decide +kernel
theorem dX9_drop_4 : decode cX9_drop 4 = .ok (.ifCond .ne 5, 3) := by decide +kernel
theorem dX9_drop_7 : decode cX9_drop 7 = .ok (.iconst (-1), 1) := by decide +kernel
theorem dX9_drop_8 : decode cX9_drop 8 = .ok (.ireturn, 1) := by decide +kernel
theorem dX9_drop_9 : decode cX9_drop 9 = .ok (.aload_n 0, 1) := by decide +kernel
theorem dX9_drop_10 : decode cX9_drop 10 = .ok (.getfield 30, 3) := by decide +kernel
theorem dX9_drop_13 : decode cX9_drop 13 = .ok (.iload_n 1, 1) := by decide +kernel
theorem dX9_drop_14 : decode cX9_drop 14 = .ok (.aaload, 1) := by decide +kernel
theorem dX9_drop_15 : decode cX9_drop 15 = .ok (.getfield 342, 3) := by decide +kernel
theorem dX9_drop_18 : decode cX9_drop 18 = .ok (.iconst (-1), 1) := by decide +kernel
theorem dX9_drop_19 : decode cX9_drop 19 = .ok (.if_icmp .ne 6, 3) := by decide +kernel
theorem dX9_drop_22 : decode cX9_drop 22 = .ok (.bipush (-11), 2) := by decide +kernel
theorem dX9_drop_24 : decode cX9_drop 24 = .ok (.ireturn, 1) := by decide +kernel
theorem dX9_drop_25 : decode cX9_drop 25 = .ok (.aload_n 0, 1) := by decide +kernel
theorem dX9_drop_26 : decode cX9_drop 26 = .ok (.getfield 30, 3) := by decide +kernel
theorem dX9_drop_29 : decode cX9_drop 29 = .ok (.iload_n 1, 1) := by decide +kernel
theorem dX9_drop_30 : decode cX9_drop 30 = .ok (.aaload, 1) := by decide +kernel
theorem dX9_drop_31 : decode cX9_drop 31 = .ok (.getfield 293, 3) := by decide +kernel
theorem dX9_drop_34 : decode cX9_drop 34 = .ok (.istore_n 2, 1) := by decide +kernel
theorem dX9_drop_35 : decode cX9_drop 35 = .ok (.aload_n 0, 1) := by decide +kernel
theorem dX9_drop_36 : decode cX9_drop 36 = .ok (.getfield 30, 3) := by decide +kernel
theorem dX9_drop_39 : decode cX9_drop 39 = .ok (.iload_n 1, 1) := by decide +kernel
theorem dX9_drop_40 : decode cX9_drop 40 = .ok (.aaload, 1) := by decide +kernel
theorem dX9_drop_41 : decode cX9_drop 41 = .ok (.iconst (-1), 1) := by decide +kernel
theorem dX9_drop_42 : decode cX9_drop 42 = .ok (.iconst 0, 1) := by decide +kernel
theorem dX9_drop_43 : decode cX9_drop 43 = .ok (.invokevirtual 339, 3) := by decide +kernel
theorem dX9_drop_46 : decode cX9_drop 46 = .ok (.iload_n 2, 1) := by decide +kernel
theorem dX9_drop_47 : decode cX9_drop 47 = .ok (.ireturn, 1) := by decide +kernel
theorem dX9_item_0 : decode cX9_item 0 = .ok (.aload_n 0, 1) := by decide +kernel
theorem dX9_item_1 : decode cX9_item 1 = .ok (.iload_n 1, 1) := by decide +kernel
theorem dX9_item_2 : decode cX9_item 2 = .ok (.iload_n 2, 1) := by decide +kernel
theorem dX9_item_3 : decode cX9_item 3 = .ok (.invokevirtual 290, 3) := by decide +kernel
theorem dX9_item_6 : decode cX9_item 6 = .ok (.istore 5, 2) := by decide +kernel
theorem dX9_item_8 : decode cX9_item 8 = .ok (.iload 5, 2) := by decide +kernel
theorem dX9_item_10 : decode cX9_item 10 = .ok (.ifCond .eq 6, 3) := by decide +kernel
theorem dX9_item_13 : decode cX9_item 13 = .ok (.iload 5, 2) := by decide +kernel
theorem dX9_item_15 : decode cX9_item 15 = .ok (.ireturn, 1) := by decide +kernel
theorem dX9_item_16 : decode cX9_item 16 = .ok (.aload_n 0, 1) := by decide +kernel
theorem dX9_item_17 : decode cX9_item 17 = .ok (.getfield 30, 3) := by decide +kernel
theorem dX9_item_20 : decode cX9_item 20 = .ok (.iload_n 1, 1) := by decide +kernel
theorem dX9_item_21 : decode cX9_item 21 = .ok (.aaload, 1) := by decide +kernel
theorem dX9_item_22 : decode cX9_item 22 = .ok (.astore 6, 2) := by decide +kernel
theorem dX9_item_24 : decode cX9_item 24 = .ok (.iload_n 3, 1) := by decide +kernel
theorem dX9_item_25 : decode cX9_item 25 = .ok (.ifCond .lt 12, 3) := by decide +kernel
theorem dX9_item_28 : decode cX9_item 28 = .ok (.iload_n 3, 1) := by decide +kernel
theorem dX9_item_29 : decode cX9_item 29 = .ok (.aload 6, 2) := by decide +kernel
theorem dX9_item_31 : decode cX9_item 31 = .ok (.getfield 293, 3) := by decide +kernel
theorem dX9_item_34 : decode cX9_item 34 = .ok (.if_icmp .lt 6, 3) := by decide +kernel
theorem dX9_item_37 : decode cX9_item 37 = .ok (.bipush (-13), 2) := by decide +kernel
theorem dX9_item_39 : decode cX9_item 39 = .ok (.ireturn, 1) := by decide +kernel
theorem dX9_item_40 : decode cX9_item 40 = .ok (.aload 6, 2) := by decide +kernel
theorem dX9_item_42 : decode cX9_item 42 = .ok (.iload_n 3, 1) := by decide +kernel
theorem dX9_item_43 : decode cX9_item 43 = .ok (.iload 4, 2) := by decide +kernel
theorem dX9_item_45 : decode cX9_item 45 = .ok (.invokevirtual 345, 3) := by decide +kernel
theorem dX9_item_48 : decode cX9_item 48 = .ok (.iconst 1, 1) := by decide +kernel
theorem dX9_item_49 : decode cX9_item 49 = .ok (.ireturn, 1) := by decide +kernel
theorem dX9_isOwn_0 : decode cX9_isOwn 0 = .ok (.iload_n 0, 1) := by decide +kernel
theorem dX9_isOwn_1 : decode cX9_isOwn 1 = .ok (.ifCond .eq 8, 3) := by decide +kernel
theorem dX9_isOwn_4 : decode cX9_isOwn 4 = .ok (.iload_n 0, 1) := by decide +kernel
theorem dX9_isOwn_5 : decode cX9_isOwn 5 = .ok (.iconst 1, 1) := by decide +kernel
theorem dX9_isOwn_6 : decode cX9_isOwn 6 = .ok (.if_icmp .ne 7, 3) := by decide +kernel
theorem dX9_isOwn_9 : decode cX9_isOwn 9 = .ok (.iconst 1, 1) := by decide +kernel
theorem dX9_isOwn_10 : decode cX9_isOwn 10 = .ok (.goto 4, 3) := by decide +kernel
theorem dX9_isOwn_13 : decode cX9_isOwn 13 = .ok (.iconst 0, 1) := by decide +kernel
theorem dX9_isOwn_14 : decode cX9_isOwn 14 = .ok (.ireturn, 1) := by decide +kernel
theorem dX9_isSlot_0 : decode cX9_isSlot 0 = .ok (.iload_n 0, 1) := by decide +kernel
theorem dX9_isSlot_1 : decode cX9_isSlot 1 = .ok (.ifCond .lt 12, 3) := by decide +kernel
theorem dX9_isSlot_4 : decode cX9_isSlot 4 = .ok (.iload_n 0, 1) := by decide +kernel
theorem dX9_isSlot_5 : decode cX9_isSlot 5 = .ok (.iconst 4, 1) := by decide +kernel
theorem dX9_isSlot_6 : decode cX9_isSlot 6 = .ok (.if_icmp .ge 7, 3) := by decide +kernel
theorem dX9_isSlot_9 : decode cX9_isSlot 9 = .ok (.iconst 1, 1) := by decide +kernel
theorem dX9_isSlot_10 : decode cX9_isSlot 10 = .ok (.goto 4, 3) := by decide +kernel
theorem dX9_isSlot_13 : decode cX9_isSlot 13 = .ok (.iconst 0, 1) := by decide +kernel
theorem dX9_isSlot_14 : decode cX9_isSlot 14 = .ok (.ireturn, 1) := by decide +kernel
theorem dX9_isSheet_0 : decode cX9_isSheet 0 = .ok (.iload_n 0, 1) := by decide +kernel
theorem dX9_isSheet_1 : decode cX9_isSheet 1 = .ok (.ifCond .lt 12, 3) := by decide +kernel
theorem dX9_isSheet_4 : decode cX9_isSheet 4 = .ok (.iload_n 0, 1) := by decide +kernel
theorem dX9_isSheet_5 : decode cX9_isSheet 5 = .ok (.iconst 4, 1) := by decide +kernel
theorem dX9_isSheet_6 : decode cX9_isSheet 6 = .ok (.if_icmp .ge 7, 3) := by decide +kernel
theorem dX9_isSheet_9 : decode cX9_isSheet 9 = .ok (.iconst 1, 1) := by decide +kernel
theorem dX9_isSheet_10 : decode cX9_isSheet 10 = .ok (.goto 4, 3) := by decide +kernel
theorem dX9_isSheet_13 : decode cX9_isSheet 13 = .ok (.iconst 0, 1) := by decide +kernel
theorem dX9_isSheet_14 : decode cX9_isSheet 14 = .ok (.ireturn, 1) := by decide +kernel
theorem dX9_isLane_0 : decode cX9_isLane 0 = .ok (.iload_n 0, 1) := by decide +kernel
theorem dX9_isLane_1 : decode cX9_isLane 1 = .ok (.ifCond .lt 12, 3) := by decide +kernel
theorem dX9_isLane_4 : decode cX9_isLane 4 = .ok (.iload_n 0, 1) := by decide +kernel
theorem dX9_isLane_5 : decode cX9_isLane 5 = .ok (.iconst 3, 1) := by decide +kernel
theorem dX9_isLane_6 : decode cX9_isLane 6 = .ok (.if_icmp .ge 7, 3) := by decide +kernel
theorem dX9_isLane_9 : decode cX9_isLane 9 = .ok (.iconst 1, 1) := by decide +kernel
theorem dX9_isLane_10 : decode cX9_isLane 10 = .ok (.goto 4, 3) := by decide +kernel
theorem dX9_isLane_13 : decode cX9_isLane 13 = .ok (.iconst 0, 1) := by decide +kernel
theorem dX9_isLane_14 : decode cX9_isLane 14 = .ok (.ireturn, 1) := by decide +kernel
theorem dX9_isStoreys_0 : decode cX9_isStoreys 0 = .ok (.iload_n 0, 1) := by decide +kernel
theorem dX9_isStoreys_1 : decode cX9_isStoreys 1 = .ok (.iconst 2, 1) := by decide +kernel
theorem dX9_isStoreys_2 : decode cX9_isStoreys 2 = .ok (.if_icmp .lt 12, 3) := by decide +kernel
theorem dX9_isStoreys_5 : decode cX9_isStoreys 5 = .ok (.iload_n 0, 1) := by decide +kernel
theorem dX9_isStoreys_6 : decode cX9_isStoreys 6 = .ok (.iconst 4, 1) := by decide +kernel
theorem dX9_isStoreys_7 : decode cX9_isStoreys 7 = .ok (.if_icmp .gt 7, 3) := by decide +kernel
theorem dX9_isStoreys_10 : decode cX9_isStoreys 10 = .ok (.iconst 1, 1) := by decide +kernel
theorem dX9_isStoreys_11 : decode cX9_isStoreys 11 = .ok (.goto 4, 3) := by decide +kernel
theorem dX9_isStoreys_14 : decode cX9_isStoreys 14 = .ok (.iconst 0, 1) := by decide +kernel
theorem dX9_isStoreys_15 : decode cX9_isStoreys 15 = .ok (.ireturn, 1) := by decide +kernel
theorem dX9_isModulus_0 : decode cX9_isModulus 0 = .ok (.iload_n 0, 1) := by decide +kernel
theorem dX9_isModulus_1 : decode cX9_isModulus 1 = .ok (.ifCond .eq 24, 3) := by decide +kernel
theorem dX9_isModulus_4 : decode cX9_isModulus 4 = .ok (.iload_n 0, 1) := by decide +kernel
theorem dX9_isModulus_5 : decode cX9_isModulus 5 = .ok (.iconst 2, 1) := by decide +kernel
theorem dX9_isModulus_6 : decode cX9_isModulus 6 = .ok (.if_icmp .eq 19, 3) := by decide +kernel
theorem dX9_isModulus_9 : decode cX9_isModulus 9 = .ok (.iload_n 0, 1) := by decide +kernel
theorem dX9_isModulus_10 : decode cX9_isModulus 10 = .ok (.iconst 3, 1) := by decide +kernel
theorem dX9_isModulus_11 : decode cX9_isModulus 11 = .ok (.if_icmp .eq 14, 3) := by decide +kernel
theorem dX9_isModulus_14 : decode cX9_isModulus 14 = .ok (.iload_n 0, 1) := by decide +kernel
theorem dX9_isModulus_15 : decode cX9_isModulus 15 = .ok (.iconst 5, 1) := by decide +kernel
theorem dX9_isModulus_16 : decode cX9_isModulus 16 = .ok (.if_icmp .eq 9, 3) := by decide +kernel
theorem dX9_isModulus_19 : decode cX9_isModulus 19 = .ok (.iload_n 0, 1) := by decide +kernel
theorem dX9_isModulus_20 : decode cX9_isModulus 20 = .ok (.bipush 7, 2) := by decide +kernel
theorem dX9_isModulus_22 : decode cX9_isModulus 22 = .ok (.if_icmp .ne 7, 3) := by decide +kernel
theorem dX9_isModulus_25 : decode cX9_isModulus 25 = .ok (.iconst 1, 1) := by decide +kernel
theorem dX9_isModulus_26 : decode cX9_isModulus 26 = .ok (.goto 4, 3) := by decide +kernel
theorem dX9_isModulus_29 : decode cX9_isModulus 29 = .ok (.iconst 0, 1) := by decide +kernel
theorem dX9_isModulus_30 : decode cX9_isModulus 30 = .ok (.ireturn, 1) := by decide +kernel
theorem dX9_areBits_0 : decode cX9_areBits 0 = .ok (.iload_n 0, 1) := by decide +kernel
theorem dX9_areBits_1 : decode cX9_areBits 1 = .ok (.ifCond .lt 14, 3) := by decide +kernel
theorem dX9_areBits_4 : decode cX9_areBits 4 = .ok (.iload_n 0, 1) := by decide +kernel
theorem dX9_areBits_5 : decode cX9_areBits 5 = .ok (.iconst 1, 1) := by decide +kernel
theorem dX9_areBits_6 : decode cX9_areBits 6 = .ok (.iload_n 1, 1) := by decide +kernel
theorem dX9_areBits_7 : decode cX9_areBits 7 = .ok (.ishl, 1) := by decide +kernel
theorem dX9_areBits_8 : decode cX9_areBits 8 = .ok (.if_icmp .ge 7, 3) := by decide +kernel
theorem dX9_areBits_11 : decode cX9_areBits 11 = .ok (.iconst 1, 1) := by decide +kernel
theorem dX9_areBits_12 : decode cX9_areBits 12 = .ok (.goto 4, 3) := by decide +kernel
theorem dX9_areBits_15 : decode cX9_areBits 15 = .ok (.iconst 0, 1) := by decide +kernel
theorem dX9_areBits_16 : decode cX9_areBits 16 = .ok (.ireturn, 1) := by decide +kernel
theorem dX9_byteOf_0 : decode cX9_byteOf 0 = .ok (.lload_n 0, 1) := by decide +kernel
theorem dX9_byteOf_1 : decode cX9_byteOf 1 = .ok (.bipush 8, 2) := by decide +kernel
theorem dX9_byteOf_3 : decode cX9_byteOf 3 = .ok (.iload_n 2, 1) := by decide +kernel
theorem dX9_byteOf_4 : decode cX9_byteOf 4 = .ok (.imul, 1) := by decide +kernel
theorem dX9_byteOf_5 : decode cX9_byteOf 5 = .ok (.lushr, 1) := by decide +kernel
theorem dX9_byteOf_6 : decode cX9_byteOf 6 = .ok (.l2i, 1) := by decide +kernel
theorem dX9_byteOf_7 : decode cX9_byteOf 7 = .ok (.sipush 255, 3) := by decide +kernel
theorem dX9_byteOf_10 : decode cX9_byteOf 10 = .ok (.iand, 1) := by decide +kernel
theorem dX9_byteOf_11 : decode cX9_byteOf 11 = .ok (.ireturn, 1) := by decide +kernel
theorem dX9_isPrintable_0 : decode cX9_isPrintable 0 = .ok (.iconst 0, 1) := by decide +kernel
theorem dX9_isPrintable_1 : decode cX9_isPrintable 1 = .ok (.istore_n 3, 1) := by decide +kernel
theorem dX9_isPrintable_2 : decode cX9_isPrintable 2 = .ok (.iload_n 3, 1) := by decide +kernel
theorem dX9_isPrintable_3 : decode cX9_isPrintable 3 = .ok (.iload_n 2, 1) := by decide +kernel
theorem dX9_isPrintable_4 : decode cX9_isPrintable 4 = .ok (.if_icmp .ge 32, 3) := by decide +kernel
theorem dX9_isPrintable_7 : decode cX9_isPrintable 7 = .ok (.lload_n 0, 1) := by decide +kernel
theorem dX9_isPrintable_8 : decode cX9_isPrintable 8 = .ok (.iload_n 3, 1) := by decide +kernel
theorem dX9_isPrintable_9 : decode cX9_isPrintable 9 = .ok (.invokestatic 118, 3) := by decide +kernel
theorem dX9_isPrintable_12 : decode cX9_isPrintable 12 = .ok (.istore 4, 2) := by decide +kernel
theorem dX9_isPrintable_14 : decode cX9_isPrintable 14 = .ok (.iload 4, 2) := by decide +kernel
theorem dX9_isPrintable_16 : decode cX9_isPrintable 16 = .ok (.bipush 32, 2) := by decide +kernel
theorem dX9_isPrintable_18 : decode cX9_isPrintable 18 = .ok (.if_icmp .lt 10, 3) := by decide +kernel
theorem dX9_isPrintable_21 : decode cX9_isPrintable 21 = .ok (.iload 4, 2) := by decide +kernel
theorem dX9_isPrintable_23 : decode cX9_isPrintable 23 = .ok (.bipush 126, 2) := by decide +kernel
theorem dX9_isPrintable_25 : decode cX9_isPrintable 25 = .ok (.if_icmp .le 5, 3) := by decide +kernel
theorem dX9_isPrintable_28 : decode cX9_isPrintable 28 = .ok (.iconst 0, 1) := by decide +kernel
theorem dX9_isPrintable_29 : decode cX9_isPrintable 29 = .ok (.ireturn, 1) := by decide +kernel
theorem dX9_isPrintable_30 : decode cX9_isPrintable 30 = .ok (.iinc 3 1, 3) := by decide +kernel
theorem dX9_isPrintable_33 : decode cX9_isPrintable 33 = .ok (.goto (-31), 3) := by decide +kernel
theorem dX9_isPrintable_36 : decode cX9_isPrintable 36 = .ok (.iconst 1, 1) := by decide +kernel
theorem dX9_isPrintable_37 : decode cX9_isPrintable 37 = .ok (.ireturn, 1) := by decide +kernel
theorem dX9_toldStep_0 : decode cX9_toldStep 0 = .ok (.iload_n 0, 1) := by decide +kernel
theorem dX9_toldStep_1 : decode cX9_toldStep 1 = .ok (.iconst 1, 1) := by decide +kernel
theorem dX9_toldStep_2 : decode cX9_toldStep 2 = .ok (.ishr, 1) := by decide +kernel
theorem dX9_toldStep_3 : decode cX9_toldStep 3 = .ok (.iload_n 0, 1) := by decide +kernel
theorem dX9_toldStep_4 : decode cX9_toldStep 4 = .ok (.iconst 1, 1) := by decide +kernel
theorem dX9_toldStep_5 : decode cX9_toldStep 5 = .ok (.iand, 1) := by decide +kernel
theorem dX9_toldStep_6 : decode cX9_toldStep 6 = .ok (.iconst 1, 1) := by decide +kernel
theorem dX9_toldStep_7 : decode cX9_toldStep 7 = .ok (.if_icmp .ne 8, 3) := by decide +kernel
theorem dX9_toldStep_10 : decode cX9_toldStep 10 = .ok (.bipush 100, 2) := by decide +kernel
theorem dX9_toldStep_12 : decode cX9_toldStep 12 = .ok (.goto 4, 3) := by decide +kernel
theorem dX9_toldStep_15 : decode cX9_toldStep 15 = .ok (.iconst 0, 1) := by decide +kernel
theorem dX9_toldStep_16 : decode cX9_toldStep 16 = .ok (.iadd, 1) := by decide +kernel
theorem dX9_toldStep_17 : decode cX9_toldStep 17 = .ok (.ireturn, 1) := by decide +kernel
theorem dX9_stepOfItem_0 : decode cX9_stepOfItem 0 = .ok (.iload_n 0, 1) := by decide +kernel
theorem dX9_stepOfItem_1 : decode cX9_stepOfItem 1 = .ok (.ifCond .le 9, 3) := by decide +kernel
theorem dX9_stepOfItem_4 : decode cX9_stepOfItem 4 = .ok (.iload_n 0, 1) := by decide +kernel
theorem dX9_stepOfItem_5 : decode cX9_stepOfItem 5 = .ok (.iconst 1, 1) := by decide +kernel
theorem dX9_stepOfItem_6 : decode cX9_stepOfItem 6 = .ok (.isub, 1) := by decide +kernel
theorem dX9_stepOfItem_7 : decode cX9_stepOfItem 7 = .ok (.goto 6, 3) := by decide +kernel
theorem dX9_stepOfItem_10 : decode cX9_stepOfItem 10 = .ok (.iconst (-1), 1) := by decide +kernel
theorem dX9_stepOfItem_11 : decode cX9_stepOfItem 11 = .ok (.iload_n 0, 1) := by decide +kernel
theorem dX9_stepOfItem_12 : decode cX9_stepOfItem 12 = .ok (.isub, 1) := by decide +kernel
theorem dX9_stepOfItem_13 : decode cX9_stepOfItem 13 = .ok (.istore_n 2, 1) := by decide +kernel
theorem dX9_stepOfItem_14 : decode cX9_stepOfItem 14 = .ok (.iload_n 0, 1) := by decide +kernel
theorem dX9_stepOfItem_15 : decode cX9_stepOfItem 15 = .ok (.ifCond .eq 8, 3) := by decide +kernel
theorem dX9_stepOfItem_18 : decode cX9_stepOfItem 18 = .ok (.iload_n 2, 1) := by decide +kernel
theorem dX9_stepOfItem_19 : decode cX9_stepOfItem 19 = .ok (.iload_n 1, 1) := by decide +kernel
theorem dX9_stepOfItem_20 : decode cX9_stepOfItem 20 = .ok (.if_icmp .lt 5, 3) := by decide +kernel
theorem dX9_stepOfItem_23 : decode cX9_stepOfItem 23 = .ok (.iconst (-1), 1) := by decide +kernel
theorem dX9_stepOfItem_24 : decode cX9_stepOfItem 24 = .ok (.ireturn, 1) := by decide +kernel
theorem dX9_stepOfItem_25 : decode cX9_stepOfItem 25 = .ok (.iconst 2, 1) := by decide +kernel
theorem dX9_stepOfItem_26 : decode cX9_stepOfItem 26 = .ok (.iload_n 2, 1) := by decide +kernel
theorem dX9_stepOfItem_27 : decode cX9_stepOfItem 27 = .ok (.imul, 1) := by decide +kernel
theorem dX9_stepOfItem_28 : decode cX9_stepOfItem 28 = .ok (.iload_n 0, 1) := by decide +kernel
theorem dX9_stepOfItem_29 : decode cX9_stepOfItem 29 = .ok (.ifCond .ge 7, 3) := by decide +kernel
theorem dX9_stepOfItem_32 : decode cX9_stepOfItem 32 = .ok (.iconst 1, 1) := by decide +kernel
theorem dX9_stepOfItem_33 : decode cX9_stepOfItem 33 = .ok (.goto 4, 3) := by decide +kernel
theorem dX9_stepOfItem_36 : decode cX9_stepOfItem 36 = .ok (.iconst 0, 1) := by decide +kernel
theorem dX9_stepOfItem_37 : decode cX9_stepOfItem 37 = .ok (.iadd, 1) := by decide +kernel
theorem dX9_stepOfItem_38 : decode cX9_stepOfItem 38 = .ok (.ireturn, 1) := by decide +kernel
theorem dX9_seenSpace_0 : decode cX9_seenSpace 0 = .ok (.iload_n 1, 1) := by decide +kernel
theorem dX9_seenSpace_1 : decode cX9_seenSpace 1 = .ok (.invokestatic 84, 3) := by decide +kernel
theorem dX9_seenSpace_4 : decode cX9_seenSpace 4 = .ok (.ifCond .eq 10, 3) := by decide +kernel
theorem dX9_seenSpace_7 : decode cX9_seenSpace 7 = .ok (.aload_n 0, 1) := by decide +kernel
theorem dX9_seenSpace_8 : decode cX9_seenSpace 8 = .ok (.getfield 11, 3) := by decide +kernel
theorem dX9_seenSpace_11 : decode cX9_seenSpace 11 = .ok (.iload_n 1, 1) := by decide +kernel
theorem dX9_seenSpace_12 : decode cX9_seenSpace 12 = .ok (.aaload, 1) := by decide +kernel
theorem dX9_seenSpace_13 : decode cX9_seenSpace 13 = .ok (.areturn, 1) := by decide +kernel
theorem dX9_seenSpace_14 : decode cX9_seenSpace 14 = .ok (.iload_n 1, 1) := by decide +kernel
theorem dX9_seenSpace_15 : decode cX9_seenSpace 15 = .ok (.iconst 2, 1) := by decide +kernel
theorem dX9_seenSpace_16 : decode cX9_seenSpace 16 = .ok (.if_icmp .ne 23, 3) := by decide +kernel
theorem dX9_seenSpace_19 : decode cX9_seenSpace 19 = .ok (.aload_n 0, 1) := by decide +kernel
theorem dX9_seenSpace_20 : decode cX9_seenSpace 20 = .ok (.getfield 18, 3) := by decide +kernel
theorem dX9_seenSpace_23 : decode cX9_seenSpace 23 = .ok (.invokevirtual 240, 3) := by decide +kernel
theorem dX9_seenSpace_26 : decode cX9_seenSpace 26 = .ok (.ifCond .eq 13, 3) := by decide +kernel
theorem dX9_seenSpace_29 : decode cX9_seenSpace 29 = .ok (.aload_n 0, 1) := by decide +kernel
theorem dX9_seenSpace_30 : decode cX9_seenSpace 30 = .ok (.getfield 18, 3) := by decide +kernel
theorem dX9_seenSpace_33 : decode cX9_seenSpace 33 = .ok (.getfield 237, 3) := by decide +kernel
theorem dX9_seenSpace_36 : decode cX9_seenSpace 36 = .ok (.goto 4, 3) := by decide +kernel
theorem dX9_seenSpace_39 : decode cX9_seenSpace 39 = .ok (.aconst_null, 1) := by decide +kernel
theorem dX9_seenSpace_40 : decode cX9_seenSpace 40 = .ok (.areturn, 1) := by decide +kernel
theorem dX9_refuseRow_0 : decode cX9_refuseRow 0 = .ok (.iload_n 1, 1) := by decide +kernel
theorem dX9_refuseRow_1 : decode cX9_refuseRow 1 = .ok (.invokestatic 333, 3) := by decide +kernel
theorem dX9_refuseRow_4 : decode cX9_refuseRow 4 = .ok (.ifCond .eq 10, 3) := by decide +kernel
theorem dX9_refuseRow_7 : decode cX9_refuseRow 7 = .ok (.iload_n 2, 1) := by decide +kernel
theorem dX9_refuseRow_8 : decode cX9_refuseRow 8 = .ok (.invokestatic 336, 3) := by decide +kernel
theorem dX9_refuseRow_11 : decode cX9_refuseRow 11 = .ok (.ifCond .ne 5, 3) := by decide +kernel
theorem dX9_refuseRow_14 : decode cX9_refuseRow 14 = .ok (.iconst (-1), 1) := by decide +kernel
theorem dX9_refuseRow_15 : decode cX9_refuseRow 15 = .ok (.ireturn, 1) := by decide +kernel
theorem dX9_refuseRow_16 : decode cX9_refuseRow 16 = .ok (.aload_n 0, 1) := by decide +kernel
theorem dX9_refuseRow_17 : decode cX9_refuseRow 17 = .ok (.getfield 30, 3) := by decide +kernel
theorem dX9_refuseRow_20 : decode cX9_refuseRow 20 = .ok (.iload_n 1, 1) := by decide +kernel
theorem dX9_refuseRow_21 : decode cX9_refuseRow 21 = .ok (.aaload, 1) := by decide +kernel
theorem dX9_refuseRow_22 : decode cX9_refuseRow 22 = .ok (.getfield 342, 3) := by decide +kernel
theorem dX9_refuseRow_25 : decode cX9_refuseRow 25 = .ok (.iconst (-1), 1) := by decide +kernel
theorem dX9_refuseRow_26 : decode cX9_refuseRow 26 = .ok (.if_icmp .ne 6, 3) := by decide +kernel
theorem dX9_refuseRow_29 : decode cX9_refuseRow 29 = .ok (.bipush (-11), 2) := by decide +kernel
theorem dX9_refuseRow_31 : decode cX9_refuseRow 31 = .ok (.ireturn, 1) := by decide +kernel
theorem dX9_refuseRow_32 : decode cX9_refuseRow 32 = .ok (.aload_n 0, 1) := by decide +kernel
theorem dX9_refuseRow_33 : decode cX9_refuseRow 33 = .ok (.getfield 30, 3) := by decide +kernel
theorem dX9_refuseRow_36 : decode cX9_refuseRow 36 = .ok (.iload_n 1, 1) := by decide +kernel
theorem dX9_refuseRow_37 : decode cX9_refuseRow 37 = .ok (.aaload, 1) := by decide +kernel
theorem dX9_refuseRow_38 : decode cX9_refuseRow 38 = .ok (.getfield 342, 3) := by decide +kernel
theorem dX9_refuseRow_41 : decode cX9_refuseRow 41 = .ok (.iload_n 2, 1) := by decide +kernel
theorem dX9_refuseRow_42 : decode cX9_refuseRow 42 = .ok (.if_icmp .ne 7, 3) := by decide +kernel
theorem dX9_refuseRow_45 : decode cX9_refuseRow 45 = .ok (.iconst 0, 1) := by decide +kernel
theorem dX9_refuseRow_46 : decode cX9_refuseRow 46 = .ok (.goto 5, 3) := by decide +kernel
theorem dX9_refuseRow_49 : decode cX9_refuseRow 49 = .ok (.bipush (-12), 2) := by decide +kernel
theorem dX9_refuseRow_51 : decode cX9_refuseRow 51 = .ok (.ireturn, 1) := by decide +kernel
theorem dX9_keepReduced_0 : decode cX9_keepReduced 0 = .ok (.aload_n 0, 1) := by decide +kernel
theorem dX9_keepReduced_1 : decode cX9_keepReduced 1 = .ok (.getfield 24, 3) := by decide +kernel
theorem dX9_keepReduced_4 : decode cX9_keepReduced 4 = .ok (.iload_n 1, 1) := by decide +kernel
theorem dX9_keepReduced_5 : decode cX9_keepReduced 5 = .ok (.aaload, 1) := by decide +kernel
theorem dX9_keepReduced_6 : decode cX9_keepReduced 6 = .ok (.aload_n 0, 1) := by decide +kernel
theorem dX9_keepReduced_7 : decode cX9_keepReduced 7 = .ok (.getfield 48, 3) := by decide +kernel
theorem dX9_keepReduced_10 : decode cX9_keepReduced 10 = .ok (.invokevirtual 347, 3) := by decide +kernel
theorem dX9_keepReduced_13 : decode cX9_keepReduced 13 = .ok (.aload_n 0, 1) := by decide +kernel
theorem dX9_keepReduced_14 : decode cX9_keepReduced 14 = .ok (.getfield 24, 3) := by decide +kernel
theorem dX9_keepReduced_17 : decode cX9_keepReduced 17 = .ok (.iload_n 1, 1) := by decide +kernel
theorem dX9_keepReduced_18 : decode cX9_keepReduced 18 = .ok (.aaload, 1) := by decide +kernel
theorem dX9_keepReduced_19 : decode cX9_keepReduced 19 = .ok (.iload_n 2, 1) := by decide +kernel
theorem dX9_keepReduced_20 : decode cX9_keepReduced 20 = .ok (.putfield 262, 3) := by decide +kernel
theorem dX9_keepReduced_23 : decode cX9_keepReduced 23 = .ok (.aload_n 0, 1) := by decide +kernel
theorem dX9_keepReduced_24 : decode cX9_keepReduced 24 = .ok (.getfield 24, 3) := by decide +kernel
theorem dX9_keepReduced_27 : decode cX9_keepReduced 27 = .ok (.iload_n 1, 1) := by decide +kernel
theorem dX9_keepReduced_28 : decode cX9_keepReduced 28 = .ok (.aaload, 1) := by decide +kernel
theorem dX9_keepReduced_29 : decode cX9_keepReduced 29 = .ok (.getfield 150, 3) := by decide +kernel
theorem dX9_keepReduced_32 : decode cX9_keepReduced 32 = .ok (.ireturn, 1) := by decide +kernel
theorem dX9_emptySlots_0 : decode cX9_emptySlots 0 = .ok (.iconst 0, 1) := by decide +kernel
theorem dX9_emptySlots_1 : decode cX9_emptySlots 1 = .ok (.istore_n 2, 1) := by decide +kernel
theorem dX9_emptySlots_2 : decode cX9_emptySlots 2 = .ok (.iload_n 2, 1) := by decide +kernel
theorem dX9_emptySlots_3 : decode cX9_emptySlots 3 = .ok (.iconst 4, 1) := by decide +kernel
theorem dX9_emptySlots_4 : decode cX9_emptySlots 4 = .ok (.if_icmp .ge 32, 3) := by decide +kernel
theorem dX9_emptySlots_7 : decode cX9_emptySlots 7 = .ok (.aload_n 0, 1) := by decide +kernel
theorem dX9_emptySlots_8 : decode cX9_emptySlots 8 = .ok (.getfield 24, 3) := by decide +kernel
theorem dX9_emptySlots_11 : decode cX9_emptySlots 11 = .ok (.iload_n 2, 1) := by decide +kernel
theorem dX9_emptySlots_12 : decode cX9_emptySlots 12 = .ok (.aaload, 1) := by decide +kernel
theorem dX9_emptySlots_13 : decode cX9_emptySlots 13 = .ok (.getfield 262, 3) := by decide +kernel
theorem dX9_emptySlots_16 : decode cX9_emptySlots 16 = .ok (.iload_n 1, 1) := by decide +kernel
theorem dX9_emptySlots_17 : decode cX9_emptySlots 17 = .ok (.if_icmp .ne 13, 3) := by decide +kernel
theorem dX9_emptySlots_20 : decode cX9_emptySlots 20 = .ok (.aload_n 0, 1) := by decide +kernel
theorem dX9_emptySlots_21 : decode cX9_emptySlots 21 = .ok (.getfield 24, 3) := by decide +kernel
theorem dX9_emptySlots_24 : decode cX9_emptySlots 24 = .ok (.iload_n 2, 1) := by decide +kernel
theorem dX9_emptySlots_25 : decode cX9_emptySlots 25 = .ok (.aaload, 1) := by decide +kernel
theorem dX9_emptySlots_26 : decode cX9_emptySlots 26 = .ok (.iconst (-1), 1) := by decide +kernel
theorem dX9_emptySlots_27 : decode cX9_emptySlots 27 = .ok (.putfield 262, 3) := by decide +kernel
theorem dX9_emptySlots_30 : decode cX9_emptySlots 30 = .ok (.iinc 2 1, 3) := by decide +kernel
theorem dX9_emptySlots_33 : decode cX9_emptySlots 33 = .ok (.goto (-31), 3) := by decide +kernel
theorem dX9_emptySlots_36 : decode cX9_emptySlots 36 = .ok (.return_, 1) := by decide +kernel
theorem dX10_init_0 : decode cX10_init 0 = .ok (.aload_n 0, 1) := by decide +kernel
theorem dX10_init_1 : decode cX10_init 1 = .ok (.invokespecial 1, 3) := by decide +kernel
theorem dX10_init_4 : decode cX10_init 4 = .ok (.aload_n 0, 1) := by decide +kernel
theorem dX10_init_5 : decode cX10_init 5 = .ok (.iconst 3, 1) := by decide +kernel
theorem dX10_init_6 : decode cX10_init 6 = .ok (.newarray .int, 2) := by decide +kernel
theorem dX10_init_8 : decode cX10_init 8 = .ok (.putfield 7, 3) := by decide +kernel
theorem dX10_init_11 : decode cX10_init 11 = .ok (.aload_n 0, 1) := by decide +kernel
theorem dX10_init_12 : decode cX10_init 12 = .ok (.iconst 3, 1) := by decide +kernel
theorem dX10_init_13 : decode cX10_init 13 = .ok (.newarray .int, 2) := by decide +kernel
theorem dX10_init_15 : decode cX10_init 15 = .ok (.putfield 13, 3) := by decide +kernel
theorem dX10_init_18 : decode cX10_init 18 = .ok (.aload_n 0, 1) := by decide +kernel
theorem dX10_init_19 : decode cX10_init 19 = .ok (.iconst 3, 1) := by decide +kernel
theorem dX10_init_20 : decode cX10_init 20 = .ok (.newarray .int, 2) := by decide +kernel
theorem dX10_init_22 : decode cX10_init 22 = .ok (.putfield 16, 3) := by decide +kernel
theorem dX10_init_25 : decode cX10_init 25 = .ok (.aload_n 0, 1) := by decide +kernel
theorem dX10_init_26 : decode cX10_init 26 = .ok (.sipush 144, 3) := by decide +kernel
theorem dX10_init_29 : decode cX10_init 29 = .ok (.newarray .int, 2) := by decide +kernel
theorem dX10_init_31 : decode cX10_init 31 = .ok (.putfield 19, 3) := by decide +kernel
theorem dX10_init_34 : decode cX10_init 34 = .ok (.aload_n 0, 1) := by decide +kernel
theorem dX10_init_35 : decode cX10_init 35 = .ok (.sipush 144, 3) := by decide +kernel
theorem dX10_init_38 : decode cX10_init 38 = .ok (.newarray .int, 2) := by decide +kernel
theorem dX10_init_40 : decode cX10_init 40 = .ok (.putfield 22, 3) := by decide +kernel
theorem dX10_init_43 : decode cX10_init 43 = .ok (.aload_n 0, 1) := by decide +kernel
theorem dX10_init_44 : decode cX10_init 44 = .ok (.bipush 96, 2) := by decide +kernel
theorem dX10_init_46 : decode cX10_init 46 = .ok (.newarray .int, 2) := by decide +kernel
theorem dX10_init_48 : decode cX10_init 48 = .ok (.putfield 25, 3) := by decide +kernel
theorem dX10_init_51 : decode cX10_init 51 = .ok (.aload_n 0, 1) := by decide +kernel
theorem dX10_init_52 : decode cX10_init 52 = .ok (.sipush 768, 3) := by decide +kernel
theorem dX10_init_55 : decode cX10_init 55 = .ok (.newarray .int, 2) := by decide +kernel
theorem dX10_init_57 : decode cX10_init 57 = .ok (.putfield 28, 3) := by decide +kernel
theorem dX10_init_60 : decode cX10_init 60 = .ok (.aload_n 0, 1) := by decide +kernel
theorem dX10_init_61 : decode cX10_init 61 = .ok (.bipush 120, 2) := by decide +kernel
theorem dX10_init_63 : decode cX10_init 63 = .ok (.newarray .int, 2) := by decide +kernel
theorem dX10_init_65 : decode cX10_init 65 = .ok (.putfield 31, 3) := by decide +kernel
theorem dX10_init_68 : decode cX10_init 68 = .ok (.aload_n 0, 1) := by decide +kernel
theorem dX10_init_69 : decode cX10_init 69 = .ok (.bipush 17, 2) := by decide +kernel
theorem dX10_init_71 : decode cX10_init 71 = .ok (.newarray .int, 2) := by decide +kernel
theorem dX10_init_73 : decode cX10_init 73 = .ok (.putfield 34, 3) := by decide +kernel
theorem dX10_init_76 : decode cX10_init 76 = .ok (.aload_n 0, 1) := by decide +kernel
theorem dX10_init_77 : decode cX10_init 77 = .ok (.bipush 96, 2) := by decide +kernel
theorem dX10_init_79 : decode cX10_init 79 = .ok (.newarray .int, 2) := by decide +kernel
theorem dX10_init_81 : decode cX10_init 81 = .ok (.putfield 37, 3) := by decide +kernel
theorem dX10_init_84 : decode cX10_init 84 = .ok (.aload_n 0, 1) := by decide +kernel
theorem dX10_init_85 : decode cX10_init 85 = .ok (.sipush 256, 3) := by decide +kernel
theorem dX10_init_88 : decode cX10_init 88 = .ok (.newarray .int, 2) := by decide +kernel
theorem dX10_init_90 : decode cX10_init 90 = .ok (.putfield 40, 3) := by decide +kernel
theorem dX10_init_93 : decode cX10_init 93 = .ok (.aload_n 0, 1) := by decide +kernel
theorem dX10_init_94 : decode cX10_init 94 = .ok (.bipush 32, 2) := by decide +kernel
theorem dX10_init_96 : decode cX10_init 96 = .ok (.newarray .int, 2) := by decide +kernel
theorem dX10_init_98 : decode cX10_init 98 = .ok (.putfield 43, 3) := by decide +kernel
theorem dX10_init_101 : decode cX10_init 101 = .ok (.aload_n 0, 1) := by decide +kernel
theorem dX10_init_102 : decode cX10_init 102 = .ok (.bipush 32, 2) := by decide +kernel
theorem dX10_init_104 : decode cX10_init 104 = .ok (.newarray .boolean, 2) := by decide +kernel
theorem dX10_init_106 : decode cX10_init 106 = .ok (.putfield 46, 3) := by decide +kernel
theorem dX10_init_109 : decode cX10_init 109 = .ok (.aload_n 0, 1) := by decide +kernel
theorem dX10_init_110 : decode cX10_init 110 = .ok (.bipush 48, 2) := by decide +kernel
theorem dX10_init_112 : decode cX10_init 112 = .ok (.newarray .boolean, 2) := by decide +kernel
theorem dX10_init_114 : decode cX10_init 114 = .ok (.putfield 50, 3) := by decide +kernel
theorem dX10_init_117 : decode cX10_init 117 = .ok (.aload_n 0, 1) := by decide +kernel
theorem dX10_init_118 : decode cX10_init 118 = .ok (.bipush 48, 2) := by decide +kernel
theorem dX10_init_120 : decode cX10_init 120 = .ok (.newarray .int, 2) := by decide +kernel
theorem dX10_init_122 : decode cX10_init 122 = .ok (.putfield 53, 3) := by decide +kernel
theorem dX10_init_125 : decode cX10_init 125 = .ok (.aload_n 0, 1) := by decide +kernel
theorem dX10_init_126 : decode cX10_init 126 = .ok (.sipush 2304, 3) := by decide +kernel
theorem dX10_init_129 : decode cX10_init 129 = .ok (.newarray .int, 2) := by decide +kernel
theorem dX10_init_131 : decode cX10_init 131 = .ok (.putfield 56, 3) := by decide +kernel
theorem dX10_init_134 : decode cX10_init 134 = .ok (.aload_n 0, 1) := by decide +kernel
theorem dX10_init_135 : decode cX10_init 135 = .ok (.bipush 9, 2) := by decide +kernel
theorem dX10_init_137 : decode cX10_init 137 = .ok (.newarray .long, 2) := by decide +kernel
theorem dX10_init_139 : decode cX10_init 139 = .ok (.putfield 59, 3) := by decide +kernel
theorem dX10_init_142 : decode cX10_init 142 = .ok (.aload_n 0, 1) := by decide +kernel
theorem dX10_init_143 : decode cX10_init 143 = .ok (.ldc 63, 2) := by decide +kernel
theorem dX10_init_145 : decode cX10_init 145 = .ok (.newarray .long, 2) := by decide +kernel
theorem dX10_init_147 : decode cX10_init 147 = .ok (.putfield 64, 3) := by decide +kernel
theorem dX10_init_150 : decode cX10_init 150 = .ok (.aload_n 0, 1) := by decide +kernel
theorem dX10_init_151 : decode cX10_init 151 = .ok (.sipush 4096, 3) := by decide +kernel
theorem dX10_init_154 : decode cX10_init 154 = .ok (.newarray .int, 2) := by decide +kernel
theorem dX10_init_156 : decode cX10_init 156 = .ok (.putfield 67, 3) := by decide +kernel
theorem dX10_init_159 : decode cX10_init 159 = .ok (.aload_n 0, 1) := by decide +kernel
theorem dX10_init_160 : decode cX10_init 160 = .ok (.bipush 64, 2) := by decide +kernel
theorem dX10_init_162 : decode cX10_init 162 = .ok (.newarray .int, 2) := by decide +kernel
theorem dX10_init_164 : decode cX10_init 164 = .ok (.putfield 70, 3) := by decide +kernel
theorem dX10_init_167 : decode cX10_init 167 = .ok (.aload_n 0, 1) := by decide +kernel
theorem dX10_init_168 : decode cX10_init 168 = .ok (.bipush 64, 2) := by decide +kernel
theorem dX10_init_170 : decode cX10_init 170 = .ok (.newarray .int, 2) := by decide +kernel
theorem dX10_init_172 : decode cX10_init 172 = .ok (.putfield 73, 3) := by decide +kernel
theorem dX10_init_175 : decode cX10_init 175 = .ok (.aload_n 0, 1) := by decide +kernel
theorem dX10_init_176 : decode cX10_init 176 = .ok (.bipush 96, 2) := by decide +kernel
theorem dX10_init_178 : decode cX10_init 178 = .ok (.newarray .int, 2) := by decide +kernel
theorem dX10_init_180 : decode cX10_init 180 = .ok (.putfield 76, 3) := by decide +kernel
theorem dX10_init_183 : decode cX10_init 183 = .ok (.aload_n 0, 1) := by decide +kernel
theorem dX10_init_184 : decode cX10_init 184 = .ok (.iconst 4, 1) := by decide +kernel
theorem dX10_init_185 : decode cX10_init 185 = .ok (.newarray .int, 2) := by decide +kernel
theorem dX10_init_187 : decode cX10_init 187 = .ok (.putfield 79, 3) := by decide +kernel
theorem dX10_init_190 : decode cX10_init 190 = .ok (.aload_n 0, 1) := by decide +kernel
theorem dX10_init_191 : decode cX10_init 191 = .ok (.bipush 64, 2) := by decide +kernel
theorem dX10_init_193 : decode cX10_init 193 = .ok (.newarray .int, 2) := by decide +kernel
theorem dX10_init_195 : decode cX10_init 195 = .ok (.putfield 82, 3) := by decide +kernel
theorem dX10_init_198 : decode cX10_init 198 = .ok (.aload_n 0, 1) := by decide +kernel
theorem dX10_init_199 : decode cX10_init 199 = .ok (.bipush 64, 2) := by decide +kernel
theorem dX10_init_201 : decode cX10_init 201 = .ok (.newarray .int, 2) := by decide +kernel
theorem dX10_init_203 : decode cX10_init 203 = .ok (.putfield 85, 3) := by decide +kernel
theorem dX10_init_206 : decode cX10_init 206 = .ok (.aload_n 0, 1) := by decide +kernel
theorem dX10_init_207 : decode cX10_init 207 = .ok (.bipush 12, 2) := by decide +kernel
theorem dX10_init_209 : decode cX10_init 209 = .ok (.newarray .int, 2) := by decide +kernel
theorem dX10_init_211 : decode cX10_init 211 = .ok (.putfield 88, 3) := by decide +kernel
theorem dX10_init_214 : decode cX10_init 214 = .ok (.aload_n 0, 1) := by decide +kernel
theorem dX10_init_215 : decode cX10_init 215 = .ok (.bipush 12, 2) := by decide +kernel
theorem dX10_init_217 : decode cX10_init 217 = .ok (.newarray .boolean, 2) := by decide +kernel
theorem dX10_init_219 : decode cX10_init 219 = .ok (.putfield 91, 3) := by decide +kernel
theorem dX10_init_222 : decode cX10_init 222 = .ok (.aload_n 0, 1) := by decide +kernel
theorem dX10_init_223 : decode cX10_init 223 = .ok (.bipush 32, 2) := by decide +kernel
theorem dX10_init_225 : decode cX10_init 225 = .ok (.newarray .int, 2) := by decide +kernel
theorem dX10_init_227 : decode cX10_init 227 = .ok (.putfield 94, 3) := by decide +kernel
theorem dX10_init_230 : decode cX10_init 230 = .ok (.aload_n 0, 1) := by decide +kernel
theorem dX10_init_231 : decode cX10_init 231 = .ok (.bipush 48, 2) := by decide +kernel
theorem dX10_init_233 : decode cX10_init 233 = .ok (.newarray .int, 2) := by decide +kernel
theorem dX10_init_235 : decode cX10_init 235 = .ok (.putfield 97, 3) := by decide +kernel
theorem dX10_init_238 : decode cX10_init 238 = .ok (.aload_n 0, 1) := by decide +kernel
theorem dX10_init_239 : decode cX10_init 239 = .ok (.iconst 4, 1) := by decide +kernel
theorem dX10_init_240 : decode cX10_init 240 = .ok (.newarray .int, 2) := by decide +kernel
theorem dX10_init_242 : decode cX10_init 242 = .ok (.putfield 100, 3) := by decide +kernel
theorem dX10_init_245 : decode cX10_init 245 = .ok (.aload_n 0, 1) := by decide +kernel
theorem dX10_init_246 : decode cX10_init 246 = .ok (.iconst 4, 1) := by decide +kernel
theorem dX10_init_247 : decode cX10_init 247 = .ok (.newarray .int, 2) := by decide +kernel
theorem dX10_init_249 : decode cX10_init 249 = .ok (.putfield 103, 3) := by decide +kernel
theorem dX10_init_252 : decode cX10_init 252 = .ok (.aload_n 0, 1) := by decide +kernel
theorem dX10_init_253 : decode cX10_init 253 = .ok (.iconst 4, 1) := by decide +kernel
theorem dX10_init_254 : decode cX10_init 254 = .ok (.newarray .int, 2) := by decide +kernel
theorem dX10_init_256 : decode cX10_init 256 = .ok (.putfield 106, 3) := by decide +kernel
theorem dX10_init_259 : decode cX10_init 259 = .ok (.aload_n 0, 1) := by decide +kernel
theorem dX10_init_260 : decode cX10_init 260 = .ok (.iconst 4, 1) := by decide +kernel
theorem dX10_init_261 : decode cX10_init 261 = .ok (.newarray .int, 2) := by decide +kernel
theorem dX10_init_263 : decode cX10_init 263 = .ok (.putfield 109, 3) := by decide +kernel
theorem dX10_init_266 : decode cX10_init 266 = .ok (.aload_n 0, 1) := by decide +kernel
theorem dX10_init_267 : decode cX10_init 267 = .ok (.bipush 64, 2) := by decide +kernel
theorem dX10_init_269 : decode cX10_init 269 = .ok (.newarray .int, 2) := by decide +kernel
theorem dX10_init_271 : decode cX10_init 271 = .ok (.putfield 112, 3) := by decide +kernel
theorem dX10_init_274 : decode cX10_init 274 = .ok (.aload_n 0, 1) := by decide +kernel
theorem dX10_init_275 : decode cX10_init 275 = .ok (.bipush 24, 2) := by decide +kernel
theorem dX10_init_277 : decode cX10_init 277 = .ok (.newarray .int, 2) := by decide +kernel
theorem dX10_init_279 : decode cX10_init 279 = .ok (.putfield 115, 3) := by decide +kernel
theorem dX10_init_282 : decode cX10_init 282 = .ok (.aload_n 0, 1) := by decide +kernel
theorem dX10_init_283 : decode cX10_init 283 = .ok (.sipush 4800, 3) := by decide +kernel
theorem dX10_init_286 : decode cX10_init 286 = .ok (.newarray .long, 2) := by decide +kernel
theorem dX10_init_288 : decode cX10_init 288 = .ok (.putfield 118, 3) := by decide +kernel
theorem dX10_init_291 : decode cX10_init 291 = .ok (.aload_n 0, 1) := by decide +kernel
theorem dX10_init_292 : decode cX10_init 292 = .ok (.sipush 4800, 3) := by decide +kernel
theorem dX10_init_295 : decode cX10_init 295 = .ok (.newarray .long, 2) := by decide +kernel
theorem dX10_init_297 : decode cX10_init 297 = .ok (.putfield 121, 3) := by decide +kernel
theorem dX10_init_300 : decode cX10_init 300 = .ok (.aload_n 0, 1) := by decide +kernel
theorem dX10_init_301 : decode cX10_init 301 = .ok (.iconst 4, 1) := by decide +kernel
theorem dX10_init_302 : decode cX10_init 302 = .ok (.newarray .int, 2) := by decide +kernel
theorem dX10_init_304 : decode cX10_init 304 = .ok (.putfield 124, 3) := by decide +kernel
theorem dX10_init_307 : decode cX10_init 307 = .ok (.aload_n 0, 1) := by decide +kernel
theorem dX10_init_308 : decode cX10_init 308 = .ok (.iconst 4, 1) := by decide +kernel
theorem dX10_init_309 : decode cX10_init 309 = .ok (.newarray .int, 2) := by decide +kernel
theorem dX10_init_311 : decode cX10_init 311 = .ok (.putfield 127, 3) := by decide +kernel
theorem dX10_init_314 : decode cX10_init 314 = .ok (.aload_n 0, 1) := by decide +kernel
theorem dX10_init_315 : decode cX10_init 315 = .ok (.bipush 80, 2) := by decide +kernel
theorem dX10_init_317 : decode cX10_init 317 = .ok (.newarray .int, 2) := by decide +kernel
theorem dX10_init_319 : decode cX10_init 319 = .ok (.putfield 130, 3) := by decide +kernel
theorem dX10_init_322 : decode cX10_init 322 = .ok (.aload_n 0, 1) := by decide +kernel
theorem dX10_init_323 : decode cX10_init 323 = .ok (.getfield 7, 3) := by decide +kernel
theorem dX10_init_326 : decode cX10_init 326 = .ok (.iconst 0, 1) := by decide +kernel
theorem dX10_init_327 : decode cX10_init 327 = .ok (.iconst 1, 1) := by decide +kernel
theorem dX10_init_328 : decode cX10_init 328 = .ok (.iastore, 1) := by decide +kernel
theorem dX10_init_329 : decode cX10_init 329 = .ok (.aload_n 0, 1) := by decide +kernel
theorem dX10_init_330 : decode cX10_init 330 = .ok (.getfield 7, 3) := by decide +kernel
theorem dX10_init_333 : decode cX10_init 333 = .ok (.iconst 1, 1) := by decide +kernel
theorem dX10_init_334 : decode cX10_init 334 = .ok (.iconst 1, 1) := by decide +kernel
theorem dX10_init_335 : decode cX10_init 335 = .ok (.iastore, 1) := by decide +kernel
theorem dX10_init_336 : decode cX10_init 336 = .ok (.iconst 0, 1) := by decide +kernel
theorem dX10_init_337 : decode cX10_init 337 = .ok (.istore_n 1, 1) := by decide +kernel
theorem dX10_init_338 : decode cX10_init 338 = .ok (.iload_n 1, 1) := by decide +kernel
theorem dX10_init_339 : decode cX10_init 339 = .ok (.iconst 4, 1) := by decide +kernel
theorem dX10_init_340 : decode cX10_init 340 = .ok (.if_icmp .ge 25, 3) := by decide +kernel
theorem dX10_init_343 : decode cX10_init 343 = .ok (.aload_n 0, 1) := by decide +kernel
theorem dX10_init_344 : decode cX10_init 344 = .ok (.getfield 100, 3) := by decide +kernel
theorem dX10_init_347 : decode cX10_init 347 = .ok (.iload_n 1, 1) := by decide +kernel
theorem dX10_init_348 : decode cX10_init 348 = .ok (.bipush (-4), 2) := by decide +kernel
theorem dX10_init_350 : decode cX10_init 350 = .ok (.iastore, 1) := by decide +kernel
theorem dX10_init_351 : decode cX10_init 351 = .ok (.aload_n 0, 1) := by decide +kernel
theorem dX10_init_352 : decode cX10_init 352 = .ok (.getfield 124, 3) := by decide +kernel
theorem dX10_init_355 : decode cX10_init 355 = .ok (.iload_n 1, 1) := by decide +kernel
theorem dX10_init_356 : decode cX10_init 356 = .ok (.bipush (-4), 2) := by decide +kernel
theorem dX10_init_358 : decode cX10_init 358 = .ok (.iastore, 1) := by decide +kernel
theorem dX10_init_359 : decode cX10_init 359 = .ok (.iinc 1 1, 3) := by decide +kernel
theorem dX10_init_362 : decode cX10_init 362 = .ok (.goto (-24), 3) := by decide +kernel
theorem dX10_init_365 : decode cX10_init 365 = .ok (.return_, 1) := by decide +kernel
theorem dX10_in_0 : decode cX10_in 0 = .ok (.iload_n 0, 1) := by decide +kernel
theorem dX10_in_1 : decode cX10_in 1 = .ok (.iload_n 1, 1) := by decide +kernel
theorem dX10_in_2 : decode cX10_in 2 = .ok (.if_icmp .lt 12, 3) := by decide +kernel
theorem dX10_in_5 : decode cX10_in 5 = .ok (.iload_n 0, 1) := by decide +kernel
theorem dX10_in_6 : decode cX10_in 6 = .ok (.iload_n 2, 1) := by decide +kernel
theorem dX10_in_7 : decode cX10_in 7 = .ok (.if_icmp .gt 7, 3) := by decide +kernel
theorem dX10_in_10 : decode cX10_in 10 = .ok (.iconst 1, 1) := by decide +kernel
theorem dX10_in_11 : decode cX10_in 11 = .ok (.goto 4, 3) := by decide +kernel
theorem dX10_in_14 : decode cX10_in 14 = .ok (.iconst 0, 1) := by decide +kernel
theorem dX10_in_15 : decode cX10_in 15 = .ok (.ireturn, 1) := by decide +kernel
theorem dX10_isSpace_0 : decode cX10_isSpace 0 = .ok (.iload_n 0, 1) := by decide +kernel
theorem dX10_isSpace_1 : decode cX10_isSpace 1 = .ok (.iconst 0, 1) := by decide +kernel
theorem dX10_isSpace_2 : decode cX10_isSpace 2 = .ok (.iconst 1, 1) := by decide +kernel
theorem dX10_isSpace_3 : decode cX10_isSpace 3 = .ok (.invokestatic 133, 3) := by decide +kernel
theorem dX10_isSpace_6 : decode cX10_isSpace 6 = .ok (.ireturn, 1) := by decide +kernel
theorem dX10_isAny_0 : decode cX10_isAny 0 = .ok (.iload_n 1, 1) := by decide +kernel
theorem dX10_isAny_1 : decode cX10_isAny 1 = .ok (.invokestatic 137, 3) := by decide +kernel
theorem dX10_isAny_4 : decode cX10_isAny 4 = .ok (.ifCond .ne 15, 3) := by decide +kernel
theorem dX10_isAny_7 : decode cX10_isAny 7 = .ok (.iload_n 1, 1) := by decide +kernel
theorem dX10_isAny_8 : decode cX10_isAny 8 = .ok (.iconst 2, 1) := by decide +kernel
theorem dX10_isAny_9 : decode cX10_isAny 9 = .ok (.if_icmp .ne 14, 3) := by decide +kernel
theorem dX10_isAny_12 : decode cX10_isAny 12 = .ok (.aload_n 0, 1) := by decide +kernel
theorem dX10_isAny_13 : decode cX10_isAny 13 = .ok (.getfield 141, 3) := by decide +kernel
theorem dX10_isAny_16 : decode cX10_isAny 16 = .ok (.ifCond .eq 7, 3) := by decide +kernel
theorem dX10_isAny_19 : decode cX10_isAny 19 = .ok (.iconst 1, 1) := by decide +kernel
theorem dX10_isAny_20 : decode cX10_isAny 20 = .ok (.goto 4, 3) := by decide +kernel
theorem dX10_isAny_23 : decode cX10_isAny 23 = .ok (.iconst 0, 1) := by decide +kernel
theorem dX10_isAny_24 : decode cX10_isAny 24 = .ok (.ireturn, 1) := by decide +kernel
theorem dX10_fromOf_0 : decode cX10_fromOf 0 = .ok (.iload_n 2, 1) := by decide +kernel
theorem dX10_fromOf_1 : decode cX10_fromOf 1 = .ok (.ifCond .le 19, 3) := by decide +kernel
theorem dX10_fromOf_4 : decode cX10_fromOf 4 = .ok (.aload_n 0, 1) := by decide +kernel
theorem dX10_fromOf_5 : decode cX10_fromOf 5 = .ok (.getfield 19, 3) := by decide +kernel
theorem dX10_fromOf_8 : decode cX10_fromOf 8 = .ok (.bipush 48, 2) := by decide +kernel
theorem dX10_fromOf_10 : decode cX10_fromOf 10 = .ok (.iload_n 1, 1) := by decide +kernel
theorem dX10_fromOf_11 : decode cX10_fromOf 11 = .ok (.imul, 1) := by decide +kernel
theorem dX10_fromOf_12 : decode cX10_fromOf 12 = .ok (.iload_n 2, 1) := by decide +kernel
theorem dX10_fromOf_13 : decode cX10_fromOf 13 = .ok (.iadd, 1) := by decide +kernel
theorem dX10_fromOf_14 : decode cX10_fromOf 14 = .ok (.iconst 1, 1) := by decide +kernel
theorem dX10_fromOf_15 : decode cX10_fromOf 15 = .ok (.isub, 1) := by decide +kernel
theorem dX10_fromOf_16 : decode cX10_fromOf 16 = .ok (.iaload, 1) := by decide +kernel
theorem dX10_fromOf_17 : decode cX10_fromOf 17 = .ok (.goto 16, 3) := by decide +kernel
theorem dX10_fromOf_20 : decode cX10_fromOf 20 = .ok (.aload_n 0, 1) := by decide +kernel
theorem dX10_fromOf_21 : decode cX10_fromOf 21 = .ok (.getfield 22, 3) := by decide +kernel
theorem dX10_fromOf_24 : decode cX10_fromOf 24 = .ok (.bipush 48, 2) := by decide +kernel
theorem dX10_fromOf_26 : decode cX10_fromOf 26 = .ok (.iload_n 1, 1) := by decide +kernel
theorem dX10_fromOf_27 : decode cX10_fromOf 27 = .ok (.imul, 1) := by decide +kernel
theorem dX10_fromOf_28 : decode cX10_fromOf 28 = .ok (.iload_n 2, 1) := by decide +kernel
theorem dX10_fromOf_29 : decode cX10_fromOf 29 = .ok (.isub, 1) := by decide +kernel
theorem dX10_fromOf_30 : decode cX10_fromOf 30 = .ok (.iconst 1, 1) := by decide +kernel
theorem dX10_fromOf_31 : decode cX10_fromOf 31 = .ok (.isub, 1) := by decide +kernel
theorem dX10_fromOf_32 : decode cX10_fromOf 32 = .ok (.iaload, 1) := by decide +kernel
theorem dX10_fromOf_33 : decode cX10_fromOf 33 = .ok (.ireturn, 1) := by decide +kernel
theorem dX10_toOf_0 : decode cX10_toOf 0 = .ok (.aload_n 0, 1) := by decide +kernel
theorem dX10_toOf_1 : decode cX10_toOf 1 = .ok (.iload_n 1, 1) := by decide +kernel
theorem dX10_toOf_2 : decode cX10_toOf 2 = .ok (.iload_n 2, 1) := by decide +kernel
theorem dX10_toOf_3 : decode cX10_toOf 3 = .ok (.ineg, 1) := by decide +kernel
theorem dX10_toOf_4 : decode cX10_toOf 4 = .ok (.invokevirtual 145, 3) := by decide +kernel
theorem dX10_toOf_7 : decode cX10_toOf 7 = .ok (.ireturn, 1) := by decide +kernel
theorem dX10_rimAt_0 : decode cX10_rimAt 0 = .ok (.aload_n 0, 1) := by decide +kernel
theorem dX10_rimAt_1 : decode cX10_rimAt 1 = .ok (.getfield 28, 3) := by decide +kernel
theorem dX10_rimAt_4 : decode cX10_rimAt 4 = .ok (.bipush 8, 2) := by decide +kernel
theorem dX10_rimAt_6 : decode cX10_rimAt 6 = .ok (.bipush 32, 2) := by decide +kernel
theorem dX10_rimAt_8 : decode cX10_rimAt 8 = .ok (.iload_n 1, 1) := by decide +kernel
theorem dX10_rimAt_9 : decode cX10_rimAt 9 = .ok (.imul, 1) := by decide +kernel
theorem dX10_rimAt_10 : decode cX10_rimAt 10 = .ok (.iload_n 2, 1) := by decide +kernel
theorem dX10_rimAt_11 : decode cX10_rimAt 11 = .ok (.iadd, 1) := by decide +kernel
theorem dX10_rimAt_12 : decode cX10_rimAt 12 = .ok (.imul, 1) := by decide +kernel
theorem dX10_rimAt_13 : decode cX10_rimAt 13 = .ok (.iload_n 3, 1) := by decide +kernel
theorem dX10_rimAt_14 : decode cX10_rimAt 14 = .ok (.iadd, 1) := by decide +kernel
theorem dX10_rimAt_15 : decode cX10_rimAt 15 = .ok (.iaload, 1) := by decide +kernel
theorem dX10_rimAt_16 : decode cX10_rimAt 16 = .ok (.ireturn, 1) := by decide +kernel
theorem dX10_emptySlots_0 : decode cX10_emptySlots 0 = .ok (.iconst 0, 1) := by decide +kernel
theorem dX10_emptySlots_1 : decode cX10_emptySlots 1 = .ok (.istore_n 2, 1) := by decide +kernel
theorem dX10_emptySlots_2 : decode cX10_emptySlots 2 = .ok (.iload_n 2, 1) := by decide +kernel
theorem dX10_emptySlots_3 : decode cX10_emptySlots 3 = .ok (.iconst 4, 1) := by decide +kernel
theorem dX10_emptySlots_4 : decode cX10_emptySlots 4 = .ok (.if_icmp .ge 36, 3) := by decide +kernel
theorem dX10_emptySlots_7 : decode cX10_emptySlots 7 = .ok (.aload_n 0, 1) := by decide +kernel
theorem dX10_emptySlots_8 : decode cX10_emptySlots 8 = .ok (.getfield 100, 3) := by decide +kernel
theorem dX10_emptySlots_11 : decode cX10_emptySlots 11 = .ok (.iload_n 2, 1) := by decide +kernel
theorem dX10_emptySlots_12 : decode cX10_emptySlots 12 = .ok (.aload_n 0, 1) := by decide +kernel
theorem dX10_emptySlots_13 : decode cX10_emptySlots 13 = .ok (.getfield 100, 3) := by decide +kernel
theorem dX10_emptySlots_16 : decode cX10_emptySlots 16 = .ok (.iload_n 2, 1) := by decide +kernel
theorem dX10_emptySlots_17 : decode cX10_emptySlots 17 = .ok (.iaload, 1) := by decide +kernel
theorem dX10_emptySlots_18 : decode cX10_emptySlots 18 = .ok (.iload_n 1, 1) := by decide +kernel
theorem dX10_emptySlots_19 : decode cX10_emptySlots 19 = .ok (.if_icmp .ne 8, 3) := by decide +kernel
theorem dX10_emptySlots_22 : decode cX10_emptySlots 22 = .ok (.bipush (-4), 2) := by decide +kernel
theorem dX10_emptySlots_24 : decode cX10_emptySlots 24 = .ok (.goto 9, 3) := by decide +kernel
theorem dX10_emptySlots_27 : decode cX10_emptySlots 27 = .ok (.aload_n 0, 1) := by decide +kernel
theorem dX10_emptySlots_28 : decode cX10_emptySlots 28 = .ok (.getfield 100, 3) := by decide +kernel
theorem dX10_emptySlots_31 : decode cX10_emptySlots 31 = .ok (.iload_n 2, 1) := by decide +kernel
theorem dX10_emptySlots_32 : decode cX10_emptySlots 32 = .ok (.iaload, 1) := by decide +kernel
theorem dX10_emptySlots_33 : decode cX10_emptySlots 33 = .ok (.iastore, 1) := by decide +kernel
theorem dX10_emptySlots_34 : decode cX10_emptySlots 34 = .ok (.iinc 2 1, 3) := by decide +kernel
theorem dX10_emptySlots_37 : decode cX10_emptySlots 37 = .ok (.goto (-35), 3) := by decide +kernel
theorem dX10_emptySlots_40 : decode cX10_emptySlots 40 = .ok (.return_, 1) := by decide +kernel
theorem dX10_clear_0 : decode cX10_clear 0 = .ok (.aload_n 0, 1) := by decide +kernel
theorem dX10_clear_1 : decode cX10_clear 1 = .ok (.getfield 7, 3) := by decide +kernel
theorem dX10_clear_4 : decode cX10_clear 4 = .ok (.iload_n 1, 1) := by decide +kernel
theorem dX10_clear_5 : decode cX10_clear 5 = .ok (.iload_n 2, 1) := by decide +kernel
theorem dX10_clear_6 : decode cX10_clear 6 = .ok (.iastore, 1) := by decide +kernel
theorem dX10_clear_7 : decode cX10_clear 7 = .ok (.aload_n 0, 1) := by decide +kernel
theorem dX10_clear_8 : decode cX10_clear 8 = .ok (.getfield 13, 3) := by decide +kernel
theorem dX10_clear_11 : decode cX10_clear 11 = .ok (.iload_n 1, 1) := by decide +kernel
theorem dX10_clear_12 : decode cX10_clear 12 = .ok (.iconst 0, 1) := by decide +kernel
theorem dX10_clear_13 : decode cX10_clear 13 = .ok (.iastore, 1) := by decide +kernel
theorem dX10_clear_14 : decode cX10_clear 14 = .ok (.aload_n 0, 1) := by decide +kernel
theorem dX10_clear_15 : decode cX10_clear 15 = .ok (.getfield 16, 3) := by decide +kernel
theorem dX10_clear_18 : decode cX10_clear 18 = .ok (.iload_n 1, 1) := by decide +kernel
theorem dX10_clear_19 : decode cX10_clear 19 = .ok (.iconst 0, 1) := by decide +kernel
theorem dX10_clear_20 : decode cX10_clear 20 = .ok (.iastore, 1) := by decide +kernel
theorem dX10_clear_21 : decode cX10_clear 21 = .ok (.return_, 1) := by decide +kernel
theorem dX10_corners_0 : decode cX10_corners 0 = .ok (.iload_n 1, 1) := by decide +kernel
theorem dX10_corners_1 : decode cX10_corners 1 = .ok (.invokestatic 137, 3) := by decide +kernel
theorem dX10_corners_4 : decode cX10_corners 4 = .ok (.ifCond .eq 13, 3) := by decide +kernel
theorem dX10_corners_7 : decode cX10_corners 7 = .ok (.iload_n 2, 1) := by decide +kernel
theorem dX10_corners_8 : decode cX10_corners 8 = .ok (.iconst 1, 1) := by decide +kernel
theorem dX10_corners_9 : decode cX10_corners 9 = .ok (.bipush 8, 2) := by decide +kernel
theorem dX10_corners_11 : decode cX10_corners 11 = .ok (.invokestatic 133, 3) := by decide +kernel
theorem dX10_corners_14 : decode cX10_corners 14 = .ok (.ifCond .ne 5, 3) := by decide +kernel
theorem dX10_corners_17 : decode cX10_corners 17 = .ok (.iconst (-1), 1) := by decide +kernel
theorem dX10_corners_18 : decode cX10_corners 18 = .ok (.ireturn, 1) := by decide +kernel
theorem dX10_corners_19 : decode cX10_corners 19 = .ok (.aload_n 0, 1) := by decide +kernel
theorem dX10_corners_20 : decode cX10_corners 20 = .ok (.getfield 7, 3) := by decide +kernel
theorem dX10_corners_23 : decode cX10_corners 23 = .ok (.iload_n 1, 1) := by decide +kernel
theorem dX10_corners_24 : decode cX10_corners 24 = .ok (.iaload, 1) := by decide +kernel
theorem dX10_corners_25 : decode cX10_corners 25 = .ok (.istore_n 3, 1) := by decide +kernel
theorem dX10_corners_26 : decode cX10_corners 26 = .ok (.aload_n 0, 1) := by decide +kernel
theorem dX10_corners_27 : decode cX10_corners 27 = .ok (.iload_n 1, 1) := by decide +kernel
theorem dX10_corners_28 : decode cX10_corners 28 = .ok (.iload_n 2, 1) := by decide +kernel
theorem dX10_corners_29 : decode cX10_corners 29 = .ok (.invokevirtual 149, 3) := by decide +kernel
theorem dX10_corners_32 : decode cX10_corners 32 = .ok (.aload_n 0, 1) := by decide +kernel
theorem dX10_corners_33 : decode cX10_corners 33 = .ok (.iload_n 1, 1) := by decide +kernel
theorem dX10_corners_34 : decode cX10_corners 34 = .ok (.invokevirtual 153, 3) := by decide +kernel
theorem dX10_corners_37 : decode cX10_corners 37 = .ok (.iload_n 3, 1) := by decide +kernel
theorem dX10_corners_38 : decode cX10_corners 38 = .ok (.ireturn, 1) := by decide +kernel
theorem dX10_addEdge_0 : decode cX10_addEdge 0 = .ok (.aload_n 0, 1) := by decide +kernel
theorem dX10_addEdge_1 : decode cX10_addEdge 1 = .ok (.getfield 19, 3) := by decide +kernel
theorem dX10_addEdge_4 : decode cX10_addEdge 4 = .ok (.bipush 48, 2) := by decide +kernel
theorem dX10_addEdge_6 : decode cX10_addEdge 6 = .ok (.iload_n 1, 1) := by decide +kernel
theorem dX10_addEdge_7 : decode cX10_addEdge 7 = .ok (.imul, 1) := by decide +kernel
theorem dX10_addEdge_8 : decode cX10_addEdge 8 = .ok (.aload_n 0, 1) := by decide +kernel
theorem dX10_addEdge_9 : decode cX10_addEdge 9 = .ok (.getfield 13, 3) := by decide +kernel
theorem dX10_addEdge_12 : decode cX10_addEdge 12 = .ok (.iload_n 1, 1) := by decide +kernel
theorem dX10_addEdge_13 : decode cX10_addEdge 13 = .ok (.iaload, 1) := by decide +kernel
theorem dX10_addEdge_14 : decode cX10_addEdge 14 = .ok (.iadd, 1) := by decide +kernel
theorem dX10_addEdge_15 : decode cX10_addEdge 15 = .ok (.iload_n 2, 1) := by decide +kernel
theorem dX10_addEdge_16 : decode cX10_addEdge 16 = .ok (.iastore, 1) := by decide +kernel
theorem dX10_addEdge_17 : decode cX10_addEdge 17 = .ok (.aload_n 0, 1) := by decide +kernel
theorem dX10_addEdge_18 : decode cX10_addEdge 18 = .ok (.getfield 22, 3) := by decide +kernel
theorem dX10_addEdge_21 : decode cX10_addEdge 21 = .ok (.bipush 48, 2) := by decide +kernel
theorem dX10_addEdge_23 : decode cX10_addEdge 23 = .ok (.iload_n 1, 1) := by decide +kernel
theorem dX10_addEdge_24 : decode cX10_addEdge 24 = .ok (.imul, 1) := by decide +kernel
theorem dX10_addEdge_25 : decode cX10_addEdge 25 = .ok (.aload_n 0, 1) := by decide +kernel
theorem dX10_addEdge_26 : decode cX10_addEdge 26 = .ok (.getfield 13, 3) := by decide +kernel
theorem dX10_addEdge_29 : decode cX10_addEdge 29 = .ok (.iload_n 1, 1) := by decide +kernel
theorem dX10_addEdge_30 : decode cX10_addEdge 30 = .ok (.iaload, 1) := by decide +kernel
theorem dX10_addEdge_31 : decode cX10_addEdge 31 = .ok (.iadd, 1) := by decide +kernel
theorem dX10_addEdge_32 : decode cX10_addEdge 32 = .ok (.iload_n 3, 1) := by decide +kernel
theorem dX10_addEdge_33 : decode cX10_addEdge 33 = .ok (.iastore, 1) := by decide +kernel
theorem dX10_addEdge_34 : decode cX10_addEdge 34 = .ok (.aload_n 0, 1) := by decide +kernel
theorem dX10_addEdge_35 : decode cX10_addEdge 35 = .ok (.getfield 13, 3) := by decide +kernel
theorem dX10_addEdge_38 : decode cX10_addEdge 38 = .ok (.iload_n 1, 1) := by decide +kernel
theorem dX10_addEdge_39 : decode cX10_addEdge 39 = .ok (.dup2, 1) := by decide +kernel
theorem dX10_addEdge_40 : decode cX10_addEdge 40 = .ok (.iaload, 1) := by decide +kernel
theorem dX10_addEdge_41 : decode cX10_addEdge 41 = .ok (.iconst 1, 1) := by decide +kernel
theorem dX10_addEdge_42 : decode cX10_addEdge 42 = .ok (.iadd, 1) := by decide +kernel
theorem dX10_addEdge_43 : decode cX10_addEdge 43 = .ok (.iastore, 1) := by decide +kernel
theorem dX10_addEdge_44 : decode cX10_addEdge 44 = .ok (.aload_n 0, 1) := by decide +kernel
theorem dX10_addEdge_45 : decode cX10_addEdge 45 = .ok (.getfield 13, 3) := by decide +kernel
theorem dX10_addEdge_48 : decode cX10_addEdge 48 = .ok (.iload_n 1, 1) := by decide +kernel
theorem dX10_addEdge_49 : decode cX10_addEdge 49 = .ok (.iaload, 1) := by decide +kernel
theorem dX10_addEdge_50 : decode cX10_addEdge 50 = .ok (.iconst 1, 1) := by decide +kernel
theorem dX10_addEdge_51 : decode cX10_addEdge 51 = .ok (.isub, 1) := by decide +kernel
theorem dX10_addEdge_52 : decode cX10_addEdge 52 = .ok (.ireturn, 1) := by decide +kernel
theorem dX10_edge_0 : decode cX10_edge 0 = .ok (.iload_n 1, 1) := by decide +kernel
theorem dX10_edge_1 : decode cX10_edge 1 = .ok (.invokestatic 137, 3) := by decide +kernel
theorem dX10_edge_4 : decode cX10_edge 4 = .ok (.ifCond .eq 35, 3) := by decide +kernel
theorem dX10_edge_7 : decode cX10_edge 7 = .ok (.iload_n 2, 1) := by decide +kernel
theorem dX10_edge_8 : decode cX10_edge 8 = .ok (.iconst 0, 1) := by decide +kernel
theorem dX10_edge_9 : decode cX10_edge 9 = .ok (.aload_n 0, 1) := by decide +kernel
theorem dX10_edge_10 : decode cX10_edge 10 = .ok (.getfield 7, 3) := by decide +kernel
theorem dX10_edge_13 : decode cX10_edge 13 = .ok (.iload_n 1, 1) := by decide +kernel
theorem dX10_edge_14 : decode cX10_edge 14 = .ok (.iaload, 1) := by decide +kernel
theorem dX10_edge_15 : decode cX10_edge 15 = .ok (.iconst 1, 1) := by decide +kernel
theorem dX10_edge_16 : decode cX10_edge 16 = .ok (.isub, 1) := by decide +kernel
theorem dX10_edge_17 : decode cX10_edge 17 = .ok (.invokestatic 133, 3) := by decide +kernel
theorem dX10_edge_20 : decode cX10_edge 20 = .ok (.ifCond .eq 19, 3) := by decide +kernel
theorem dX10_edge_23 : decode cX10_edge 23 = .ok (.iload_n 3, 1) := by decide +kernel
theorem dX10_edge_24 : decode cX10_edge 24 = .ok (.iconst 0, 1) := by decide +kernel
theorem dX10_edge_25 : decode cX10_edge 25 = .ok (.aload_n 0, 1) := by decide +kernel
theorem dX10_edge_26 : decode cX10_edge 26 = .ok (.getfield 7, 3) := by decide +kernel
theorem dX10_edge_29 : decode cX10_edge 29 = .ok (.iload_n 1, 1) := by decide +kernel
theorem dX10_edge_30 : decode cX10_edge 30 = .ok (.iaload, 1) := by decide +kernel
theorem dX10_edge_31 : decode cX10_edge 31 = .ok (.iconst 1, 1) := by decide +kernel
theorem dX10_edge_32 : decode cX10_edge 32 = .ok (.isub, 1) := by decide +kernel
theorem dX10_edge_33 : decode cX10_edge 33 = .ok (.invokestatic 133, 3) := by decide +kernel
theorem dX10_edge_36 : decode cX10_edge 36 = .ok (.ifCond .ne 5, 3) := by decide +kernel
theorem dX10_edge_39 : decode cX10_edge 39 = .ok (.iconst (-1), 1) := by decide +kernel
theorem dX10_edge_40 : decode cX10_edge 40 = .ok (.ireturn, 1) := by decide +kernel
theorem dX10_edge_41 : decode cX10_edge 41 = .ok (.aload_n 0, 1) := by decide +kernel
theorem dX10_edge_42 : decode cX10_edge 42 = .ok (.getfield 13, 3) := by decide +kernel
theorem dX10_edge_45 : decode cX10_edge 45 = .ok (.iload_n 1, 1) := by decide +kernel
theorem dX10_edge_46 : decode cX10_edge 46 = .ok (.iaload, 1) := by decide +kernel
theorem dX10_edge_47 : decode cX10_edge 47 = .ok (.bipush 12, 2) := by decide +kernel
theorem dX10_edge_49 : decode cX10_edge 49 = .ok (.if_icmp .ne 8, 3) := by decide +kernel
theorem dX10_edge_52 : decode cX10_edge 52 = .ok (.bipush (-3), 2) := by decide +kernel
theorem dX10_edge_54 : decode cX10_edge 54 = .ok (.goto 10, 3) := by decide +kernel
theorem dX10_edge_57 : decode cX10_edge 57 = .ok (.aload_n 0, 1) := by decide +kernel
theorem dX10_edge_58 : decode cX10_edge 58 = .ok (.iload_n 1, 1) := by decide +kernel
theorem dX10_edge_59 : decode cX10_edge 59 = .ok (.iload_n 2, 1) := by decide +kernel
theorem dX10_edge_60 : decode cX10_edge 60 = .ok (.iload_n 3, 1) := by decide +kernel
theorem dX10_edge_61 : decode cX10_edge 61 = .ok (.invokevirtual 157, 3) := by decide +kernel
theorem dX10_edge_64 : decode cX10_edge 64 = .ok (.ireturn, 1) := by decide +kernel
theorem dX10_type_0 : decode cX10_type 0 = .ok (.iload_n 3, 1) := by decide +kernel
theorem dX10_type_1 : decode cX10_type 1 = .ok (.iconst 1, 1) := by decide +kernel
theorem dX10_type_2 : decode cX10_type 2 = .ok (.bipush 8, 2) := by decide +kernel
theorem dX10_type_4 : decode cX10_type 4 = .ok (.invokestatic 133, 3) := by decide +kernel
theorem dX10_type_7 : decode cX10_type 7 = .ok (.ifCond .ne 5, 3) := by decide +kernel
theorem dX10_type_10 : decode cX10_type 10 = .ok (.iconst (-1), 1) := by decide +kernel
theorem dX10_type_11 : decode cX10_type 11 = .ok (.ireturn, 1) := by decide +kernel
theorem dX10_type_12 : decode cX10_type 12 = .ok (.iconst 1, 1) := by decide +kernel
theorem dX10_type_13 : decode cX10_type 13 = .ok (.istore 4, 2) := by decide +kernel
theorem dX10_type_15 : decode cX10_type 15 = .ok (.iconst 0, 1) := by decide +kernel
theorem dX10_type_16 : decode cX10_type 16 = .ok (.istore 5, 2) := by decide +kernel
theorem dX10_type_18 : decode cX10_type 18 = .ok (.iload 5, 2) := by decide +kernel
theorem dX10_type_20 : decode cX10_type 20 = .ok (.iload_n 3, 1) := by decide +kernel
theorem dX10_type_21 : decode cX10_type 21 = .ok (.if_icmp .ge 43, 3) := by decide +kernel
theorem dX10_type_24 : decode cX10_type 24 = .ok (.iload 4, 2) := by decide +kernel
theorem dX10_type_26 : decode cX10_type 26 = .ok (.ifCond .eq 29, 3) := by decide +kernel
theorem dX10_type_29 : decode cX10_type 29 = .ok (.lload_n 1, 1) := by decide +kernel
theorem dX10_type_30 : decode cX10_type 30 = .ok (.bipush 8, 2) := by decide +kernel
theorem dX10_type_32 : decode cX10_type 32 = .ok (.iload 5, 2) := by decide +kernel
theorem dX10_type_34 : decode cX10_type 34 = .ok (.imul, 1) := by decide +kernel
theorem dX10_type_35 : decode cX10_type 35 = .ok (.lshr, 1) := by decide +kernel
theorem dX10_type_36 : decode cX10_type 36 = .ok (.ldc2_w 161, 3) := by decide +kernel
theorem dX10_type_39 : decode cX10_type 39 = .ok (.land, 1) := by decide +kernel
theorem dX10_type_40 : decode cX10_type 40 = .ok (.l2i, 1) := by decide +kernel
theorem dX10_type_41 : decode cX10_type 41 = .ok (.bipush 32, 2) := by decide +kernel
theorem dX10_type_43 : decode cX10_type 43 = .ok (.bipush 126, 2) := by decide +kernel
theorem dX10_type_45 : decode cX10_type 45 = .ok (.invokestatic 133, 3) := by decide +kernel
theorem dX10_type_48 : decode cX10_type 48 = .ok (.ifCond .eq 7, 3) := by decide +kernel
theorem dX10_type_51 : decode cX10_type 51 = .ok (.iconst 1, 1) := by decide +kernel
theorem dX10_type_52 : decode cX10_type 52 = .ok (.goto 4, 3) := by decide +kernel
theorem dX10_type_55 : decode cX10_type 55 = .ok (.iconst 0, 1) := by decide +kernel
theorem dX10_type_56 : decode cX10_type 56 = .ok (.istore 4, 2) := by decide +kernel
theorem dX10_type_58 : decode cX10_type 58 = .ok (.iinc 5 1, 3) := by decide +kernel
theorem dX10_type_61 : decode cX10_type 61 = .ok (.goto (-43), 3) := by decide +kernel
theorem dX10_type_64 : decode cX10_type 64 = .ok (.iload 4, 2) := by decide +kernel
theorem dX10_type_66 : decode cX10_type 66 = .ok (.ifCond .ne 5, 3) := by decide +kernel
theorem dX10_type_69 : decode cX10_type 69 = .ok (.iconst (-1), 1) := by decide +kernel
theorem dX10_type_70 : decode cX10_type 70 = .ok (.ireturn, 1) := by decide +kernel
theorem dX10_type_71 : decode cX10_type 71 = .ok (.aload_n 0, 1) := by decide +kernel
theorem dX10_type_72 : decode cX10_type 72 = .ok (.getfield 163, 3) := by decide +kernel
theorem dX10_type_75 : decode cX10_type 75 = .ok (.iload_n 3, 1) := by decide +kernel
theorem dX10_type_76 : decode cX10_type 76 = .ok (.iadd, 1) := by decide +kernel
theorem dX10_type_77 : decode cX10_type 77 = .ok (.bipush 120, 2) := by decide +kernel
theorem dX10_type_79 : decode cX10_type 79 = .ok (.if_icmp .le 6, 3) := by decide +kernel
theorem dX10_type_82 : decode cX10_type 82 = .ok (.bipush (-3), 2) := by decide +kernel
theorem dX10_type_84 : decode cX10_type 84 = .ok (.ireturn, 1) := by decide +kernel
theorem dX10_type_85 : decode cX10_type 85 = .ok (.iload_n 3, 1) := by decide +kernel
theorem dX10_type_86 : decode cX10_type 86 = .ok (.iconst 1, 1) := by decide +kernel
theorem dX10_type_87 : decode cX10_type 87 = .ok (.isub, 1) := by decide +kernel
theorem dX10_type_88 : decode cX10_type 88 = .ok (.istore 5, 2) := by decide +kernel
theorem dX10_type_90 : decode cX10_type 90 = .ok (.iload 5, 2) := by decide +kernel
theorem dX10_type_92 : decode cX10_type 92 = .ok (.ifCond .lt 40, 3) := by decide +kernel
theorem dX10_type_95 : decode cX10_type 95 = .ok (.aload_n 0, 1) := by decide +kernel
theorem dX10_type_96 : decode cX10_type 96 = .ok (.getfield 31, 3) := by decide +kernel
theorem dX10_type_99 : decode cX10_type 99 = .ok (.aload_n 0, 1) := by decide +kernel
theorem dX10_type_100 : decode cX10_type 100 = .ok (.getfield 163, 3) := by decide +kernel
theorem dX10_type_103 : decode cX10_type 103 = .ok (.lload_n 1, 1) := by decide +kernel
theorem dX10_type_104 : decode cX10_type 104 = .ok (.bipush 8, 2) := by decide +kernel
theorem dX10_type_106 : decode cX10_type 106 = .ok (.iload 5, 2) := by decide +kernel
theorem dX10_type_108 : decode cX10_type 108 = .ok (.imul, 1) := by decide +kernel
theorem dX10_type_109 : decode cX10_type 109 = .ok (.lshr, 1) := by decide +kernel
theorem dX10_type_110 : decode cX10_type 110 = .ok (.ldc2_w 161, 3) := by decide +kernel
theorem dX10_type_113 : decode cX10_type 113 = .ok (.land, 1) := by decide +kernel
theorem dX10_type_114 : decode cX10_type 114 = .ok (.l2i, 1) := by decide +kernel
theorem dX10_type_115 : decode cX10_type 115 = .ok (.iastore, 1) := by decide +kernel
theorem dX10_type_116 : decode cX10_type 116 = .ok (.aload_n 0, 1) := by decide +kernel
theorem dX10_type_117 : decode cX10_type 117 = .ok (.dup, 1) := by decide +kernel
theorem dX10_type_118 : decode cX10_type 118 = .ok (.getfield 163, 3) := by decide +kernel
theorem dX10_type_121 : decode cX10_type 121 = .ok (.iconst 1, 1) := by decide +kernel
theorem dX10_type_122 : decode cX10_type 122 = .ok (.iadd, 1) := by decide +kernel
theorem dX10_type_123 : decode cX10_type 123 = .ok (.putfield 163, 3) := by decide +kernel
theorem dX10_type_126 : decode cX10_type 126 = .ok (.iinc 5 (-1), 3) := by decide +kernel
theorem dX10_type_129 : decode cX10_type 129 = .ok (.goto (-39), 3) := by decide +kernel
theorem dX10_type_132 : decode cX10_type 132 = .ok (.aload_n 0, 1) := by decide +kernel
theorem dX10_type_133 : decode cX10_type 133 = .ok (.getfield 163, 3) := by decide +kernel
theorem dX10_type_136 : decode cX10_type 136 = .ok (.ireturn, 1) := by decide +kernel
theorem dX10_pass_0 : decode cX10_pass 0 = .ok (.aload_n 0, 1) := by decide +kernel
theorem dX10_pass_1 : decode cX10_pass 1 = .ok (.getfield 167, 3) := by decide +kernel
theorem dX10_pass_4 : decode cX10_pass 4 = .ok (.aload_n 0, 1) := by decide +kernel
theorem dX10_pass_5 : decode cX10_pass 5 = .ok (.getfield 163, 3) := by decide +kernel
theorem dX10_pass_8 : decode cX10_pass 8 = .ok (.if_icmp .ge 30, 3) := by decide +kernel
theorem dX10_pass_11 : decode cX10_pass 11 = .ok (.aload_n 0, 1) := by decide +kernel
theorem dX10_pass_12 : decode cX10_pass 12 = .ok (.getfield 31, 3) := by decide +kernel
theorem dX10_pass_15 : decode cX10_pass 15 = .ok (.aload_n 0, 1) := by decide +kernel
theorem dX10_pass_16 : decode cX10_pass 16 = .ok (.getfield 167, 3) := by decide +kernel
theorem dX10_pass_19 : decode cX10_pass 19 = .ok (.iaload, 1) := by decide +kernel
theorem dX10_pass_20 : decode cX10_pass 20 = .ok (.bipush 32, 2) := by decide +kernel
theorem dX10_pass_22 : decode cX10_pass 22 = .ok (.if_icmp .ne 16, 3) := by decide +kernel
theorem dX10_pass_25 : decode cX10_pass 25 = .ok (.aload_n 0, 1) := by decide +kernel
theorem dX10_pass_26 : decode cX10_pass 26 = .ok (.dup, 1) := by decide +kernel
theorem dX10_pass_27 : decode cX10_pass 27 = .ok (.getfield 167, 3) := by decide +kernel
theorem dX10_pass_30 : decode cX10_pass 30 = .ok (.iconst 1, 1) := by decide +kernel
theorem dX10_pass_31 : decode cX10_pass 31 = .ok (.iadd, 1) := by decide +kernel
theorem dX10_pass_32 : decode cX10_pass 32 = .ok (.putfield 167, 3) := by decide +kernel
theorem dX10_pass_35 : decode cX10_pass 35 = .ok (.goto (-35), 3) := by decide +kernel
theorem dX10_pass_38 : decode cX10_pass 38 = .ok (.return_, 1) := by decide +kernel
theorem dX10_now_0 : decode cX10_now 0 = .ok (.aload_n 0, 1) := by decide +kernel
theorem dX10_now_1 : decode cX10_now 1 = .ok (.getfield 167, 3) := by decide +kernel
theorem dX10_now_4 : decode cX10_now 4 = .ok (.aload_n 0, 1) := by decide +kernel
theorem dX10_now_5 : decode cX10_now 5 = .ok (.getfield 163, 3) := by decide +kernel
theorem dX10_now_8 : decode cX10_now 8 = .ok (.if_icmp .ge 15, 3) := by decide +kernel
theorem dX10_now_11 : decode cX10_now 11 = .ok (.aload_n 0, 1) := by decide +kernel
theorem dX10_now_12 : decode cX10_now 12 = .ok (.getfield 31, 3) := by decide +kernel
theorem dX10_now_15 : decode cX10_now 15 = .ok (.aload_n 0, 1) := by decide +kernel
theorem dX10_now_16 : decode cX10_now 16 = .ok (.getfield 167, 3) := by decide +kernel
theorem dX10_now_19 : decode cX10_now 19 = .ok (.iaload, 1) := by decide +kernel
theorem dX10_now_20 : decode cX10_now 20 = .ok (.goto 4, 3) := by decide +kernel
theorem dX10_now_23 : decode cX10_now 23 = .ok (.iconst 0, 1) := by decide +kernel
theorem dX10_now_24 : decode cX10_now 24 = .ok (.ireturn, 1) := by decide +kernel
theorem dX10_fails_0 : decode cX10_fails 0 = .ok (.aload_n 0, 1) := by decide +kernel
theorem dX10_fails_1 : decode cX10_fails 1 = .ok (.bipush (-20), 2) := by decide +kernel
theorem dX10_fails_3 : decode cX10_fails 3 = .ok (.iload_n 1, 1) := by decide +kernel
theorem dX10_fails_4 : decode cX10_fails 4 = .ok (.isub, 1) := by decide +kernel
theorem dX10_fails_5 : decode cX10_fails 5 = .ok (.putfield 170, 3) := by decide +kernel
theorem dX10_fails_8 : decode cX10_fails 8 = .ok (.iconst 0, 1) := by decide +kernel
theorem dX10_fails_9 : decode cX10_fails 9 = .ok (.ireturn, 1) := by decide +kernel
theorem dX10_readNumber_0 : decode cX10_readNumber 0 = .ok (.aload_n 0, 1) := by decide +kernel
theorem dX10_readNumber_1 : decode cX10_readNumber 1 = .ok (.invokevirtual 173, 3) := by decide +kernel
theorem dX10_readNumber_4 : decode cX10_readNumber 4 = .ok (.aload_n 0, 1) := by decide +kernel
theorem dX10_readNumber_5 : decode cX10_readNumber 5 = .ok (.getfield 167, 3) := by decide +kernel
theorem dX10_readNumber_8 : decode cX10_readNumber 8 = .ok (.istore_n 3, 1) := by decide +kernel
theorem dX10_readNumber_9 : decode cX10_readNumber 9 = .ok (.aload_n 0, 1) := by decide +kernel
theorem dX10_readNumber_10 : decode cX10_readNumber 10 = .ok (.iconst 0, 1) := by decide +kernel
theorem dX10_readNumber_11 : decode cX10_readNumber 11 = .ok (.putfield 176, 3) := by decide +kernel
theorem dX10_readNumber_14 : decode cX10_readNumber 14 = .ok (.aload_n 0, 1) := by decide +kernel
theorem dX10_readNumber_15 : decode cX10_readNumber 15 = .ok (.invokevirtual 179, 3) := by decide +kernel
theorem dX10_readNumber_18 : decode cX10_readNumber 18 = .ok (.bipush 48, 2) := by decide +kernel
theorem dX10_readNumber_20 : decode cX10_readNumber 20 = .ok (.bipush 57, 2) := by decide +kernel
theorem dX10_readNumber_22 : decode cX10_readNumber 22 = .ok (.invokestatic 133, 3) := by decide +kernel
theorem dX10_readNumber_25 : decode cX10_readNumber 25 = .ok (.ifCond .eq 52, 3) := by decide +kernel
theorem dX10_readNumber_28 : decode cX10_readNumber 28 = .ok (.aload_n 0, 1) := by decide +kernel
theorem dX10_readNumber_29 : decode cX10_readNumber 29 = .ok (.aload_n 0, 1) := by decide +kernel
theorem dX10_readNumber_30 : decode cX10_readNumber 30 = .ok (.getfield 176, 3) := by decide +kernel
theorem dX10_readNumber_33 : decode cX10_readNumber 33 = .ok (.sipush 1000, 3) := by decide +kernel
theorem dX10_readNumber_36 : decode cX10_readNumber 36 = .ok (.if_icmp .le 10, 3) := by decide +kernel
theorem dX10_readNumber_39 : decode cX10_readNumber 39 = .ok (.aload_n 0, 1) := by decide +kernel
theorem dX10_readNumber_40 : decode cX10_readNumber 40 = .ok (.getfield 176, 3) := by decide +kernel
theorem dX10_readNumber_43 : decode cX10_readNumber 43 = .ok (.goto 18, 3) := by decide +kernel
theorem dX10_readNumber_46 : decode cX10_readNumber 46 = .ok (.bipush 10, 2) := by decide +kernel
theorem dX10_readNumber_48 : decode cX10_readNumber 48 = .ok (.aload_n 0, 1) := by decide +kernel
theorem dX10_readNumber_49 : decode cX10_readNumber 49 = .ok (.getfield 176, 3) := by decide +kernel
theorem dX10_readNumber_52 : decode cX10_readNumber 52 = .ok (.imul, 1) := by decide +kernel
theorem dX10_readNumber_53 : decode cX10_readNumber 53 = .ok (.aload_n 0, 1) := by decide +kernel
theorem dX10_readNumber_54 : decode cX10_readNumber 54 = .ok (.invokevirtual 179, 3) := by decide +kernel
theorem dX10_readNumber_57 : decode cX10_readNumber 57 = .ok (.iadd, 1) := by decide +kernel
theorem dX10_readNumber_58 : decode cX10_readNumber 58 = .ok (.bipush 48, 2) := by decide +kernel
theorem dX10_readNumber_60 : decode cX10_readNumber 60 = .ok (.isub, 1) := by decide +kernel
theorem dX10_readNumber_61 : decode cX10_readNumber 61 = .ok (.putfield 176, 3) := by decide +kernel
theorem dX10_readNumber_64 : decode cX10_readNumber 64 = .ok (.aload_n 0, 1) := by decide +kernel
theorem dX10_readNumber_65 : decode cX10_readNumber 65 = .ok (.dup, 1) := by decide +kernel
theorem dX10_readNumber_66 : decode cX10_readNumber 66 = .ok (.getfield 167, 3) := by decide +kernel
theorem dX10_readNumber_69 : decode cX10_readNumber 69 = .ok (.iconst 1, 1) := by decide +kernel
theorem dX10_readNumber_70 : decode cX10_readNumber 70 = .ok (.iadd, 1) := by decide +kernel
theorem dX10_readNumber_71 : decode cX10_readNumber 71 = .ok (.putfield 167, 3) := by decide +kernel
theorem dX10_readNumber_74 : decode cX10_readNumber 74 = .ok (.goto (-60), 3) := by decide +kernel
theorem dX10_readNumber_77 : decode cX10_readNumber 77 = .ok (.aload_n 0, 1) := by decide +kernel
theorem dX10_readNumber_78 : decode cX10_readNumber 78 = .ok (.getfield 167, 3) := by decide +kernel
theorem dX10_readNumber_81 : decode cX10_readNumber 81 = .ok (.iload_n 3, 1) := by decide +kernel
theorem dX10_readNumber_82 : decode cX10_readNumber 82 = .ok (.if_icmp .le 15, 3) := by decide +kernel
theorem dX10_readNumber_85 : decode cX10_readNumber 85 = .ok (.aload_n 0, 1) := by decide +kernel
theorem dX10_readNumber_86 : decode cX10_readNumber 86 = .ok (.getfield 176, 3) := by decide +kernel
theorem dX10_readNumber_89 : decode cX10_readNumber 89 = .ok (.iload_n 1, 1) := by decide +kernel
theorem dX10_readNumber_90 : decode cX10_readNumber 90 = .ok (.iload_n 2, 1) := by decide +kernel
theorem dX10_readNumber_91 : decode cX10_readNumber 91 = .ok (.invokestatic 133, 3) := by decide +kernel
theorem dX10_readNumber_94 : decode cX10_readNumber 94 = .ok (.ifCond .ne 11, 3) := by decide +kernel
theorem dX10_readNumber_97 : decode cX10_readNumber 97 = .ok (.aload_n 0, 1) := by decide +kernel
theorem dX10_readNumber_98 : decode cX10_readNumber 98 = .ok (.iload_n 3, 1) := by decide +kernel
theorem dX10_readNumber_99 : decode cX10_readNumber 99 = .ok (.invokevirtual 183, 3) := by decide +kernel
theorem dX10_readNumber_102 : decode cX10_readNumber 102 = .ok (.ifCond .eq 7, 3) := by decide +kernel
theorem dX10_readNumber_105 : decode cX10_readNumber 105 = .ok (.iconst 1, 1) := by decide +kernel
theorem dX10_readNumber_106 : decode cX10_readNumber 106 = .ok (.goto 4, 3) := by decide +kernel
