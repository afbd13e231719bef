theorem dX9_apartOf_10 : decode cX9_apartOf 10 = .ok (.iaload, 1) := by decide +kernel
theorem dX9_apartOf_11 : decode cX9_apartOf 11 = .ok (.ireturn, 1) := by decide +kernel
theorem dX9_howManyNames_0 : decode cX9_howManyNames 0 = .ok (.iconst 0, 1) := by decide +kernel
theorem dX9_howManyNames_1 : decode cX9_howManyNames 1 = .ok (.istore_n 1, 1) := by decide +kernel
theorem dX9_howManyNames_2 : decode cX9_howManyNames 2 = .ok (.iconst 0, 1) := by decide +kernel
theorem dX9_howManyNames_3 : decode cX9_howManyNames 3 = .ok (.istore_n 2, 1) := by decide +kernel
theorem dX9_howManyNames_4 : decode cX9_howManyNames 4 = .ok (.iload_n 2, 1) := by decide +kernel
theorem dX9_howManyNames_5 : decode cX9_howManyNames 5 = .ok (.aload_n 0, 1) := by decide +kernel
theorem dX9_howManyNames_6 : decode cX9_howManyNames 6 = .ok (.getfield 47, 3) := by decide +kernel
theorem dX9_howManyNames_9 : decode cX9_howManyNames 9 = .ok (.if_icmp .ge 22, 3) := by decide +kernel
theorem dX9_howManyNames_12 : decode cX9_howManyNames 12 = .ok (.aload_n 0, 1) := by decide +kernel
theorem dX9_howManyNames_13 : decode cX9_howManyNames 13 = .ok (.getfield 32, 3) := by decide +kernel
theorem dX9_howManyNames_16 : decode cX9_howManyNames 16 = .ok (.iload_n 2, 1) := by decide +kernel
theorem dX9_howManyNames_17 : decode cX9_howManyNames 17 = .ok (.iaload, 1) := by decide +kernel
theorem dX9_howManyNames_18 : decode cX9_howManyNames 18 = .ok (.iload_n 2, 1) := by decide +kernel
theorem dX9_howManyNames_19 : decode cX9_howManyNames 19 = .ok (.if_icmp .ne 6, 3) := by decide +kernel
theorem dX9_howManyNames_22 : decode cX9_howManyNames 22 = .ok (.iinc 1 1, 3) := by decide +kernel
theorem dX9_howManyNames_25 : decode cX9_howManyNames 25 = .ok (.iinc 2 1, 3) := by decide +kernel
theorem dX9_howManyNames_28 : decode cX9_howManyNames 28 = .ok (.goto (-24), 3) := by decide +kernel
theorem dX9_howManyNames_31 : decode cX9_howManyNames 31 = .ok (.iload_n 1, 1) := by decide +kernel
theorem dX9_howManyNames_32 : decode cX9_howManyNames 32 = .ok (.ireturn, 1) := by decide +kernel
theorem dX9_hear_0 : decode cX9_hear 0 = .ok (.iconst 0, 1) := by decide +kernel
theorem dX9_hear_1 : decode cX9_hear 1 = .ok (.istore_n 2, 1) := by decide +kernel
theorem dX9_hear_2 : decode cX9_hear 2 = .ok (.aload_n 0, 1) := by decide +kernel
theorem dX9_hear_3 : decode cX9_hear 3 = .ok (.getfield 15, 3) := by decide +kernel
theorem dX9_hear_6 : decode cX9_hear 6 = .ok (.iload_n 1, 1) := by decide +kernel
theorem dX9_hear_7 : decode cX9_hear 7 = .ok (.laload, 1) := by decide +kernel
theorem dX9_hear_8 : decode cX9_hear 8 = .ok (.lstore_n 3, 1) := by decide +kernel
theorem dX9_hear_9 : decode cX9_hear 9 = .ok (.lload_n 3, 1) := by decide +kernel
theorem dX9_hear_10 : decode cX9_hear 10 = .ok (.lconst 0, 1) := by decide +kernel
theorem dX9_hear_11 : decode cX9_hear 11 = .ok (.lcmp, 1) := by decide +kernel
theorem dX9_hear_12 : decode cX9_hear 12 = .ok (.ifCond .le 19, 3) := by decide +kernel
theorem dX9_hear_15 : decode cX9_hear 15 = .ok (.iload_n 2, 1) := by decide +kernel
theorem dX9_hear_16 : decode cX9_hear 16 = .ok (.bipush 10, 2) := by decide +kernel
theorem dX9_hear_18 : decode cX9_hear 18 = .ok (.if_icmp .ge 13, 3) := by decide +kernel
theorem dX9_hear_21 : decode cX9_hear 21 = .ok (.iinc 2 1, 3) := by decide +kernel
theorem dX9_hear_24 : decode cX9_hear 24 = .ok (.lload_n 3, 1) := by decide +kernel
theorem dX9_hear_25 : decode cX9_hear 25 = .ok (.iconst 5, 1) := by decide +kernel
theorem dX9_hear_26 : decode cX9_hear 26 = .ok (.lshr, 1) := by decide +kernel
theorem dX9_hear_27 : decode cX9_hear 27 = .ok (.lstore_n 3, 1) := by decide +kernel
theorem dX9_hear_28 : decode cX9_hear 28 = .ok (.goto (-19), 3) := by decide +kernel
theorem dX9_hear_31 : decode cX9_hear 31 = .ok (.aload_n 0, 1) := by decide +kernel
theorem dX9_hear_32 : decode cX9_hear 32 = .ok (.getfield 23, 3) := by decide +kernel
theorem dX9_hear_35 : decode cX9_hear 35 = .ok (.iload_n 1, 1) := by decide +kernel
theorem dX9_hear_36 : decode cX9_hear 36 = .ok (.iconst 0, 1) := by decide +kernel
theorem dX9_hear_37 : decode cX9_hear 37 = .ok (.iastore, 1) := by decide +kernel
theorem dX9_hear_38 : decode cX9_hear 38 = .ok (.iconst 0, 1) := by decide +kernel
theorem dX9_hear_39 : decode cX9_hear 39 = .ok (.istore_n 3, 1) := by decide +kernel
theorem dX9_hear_40 : decode cX9_hear 40 = .ok (.iload_n 3, 1) := by decide +kernel
theorem dX9_hear_41 : decode cX9_hear 41 = .ok (.bipush 10, 2) := by decide +kernel
theorem dX9_hear_43 : decode cX9_hear 43 = .ok (.if_icmp .ge 103, 3) := by decide +kernel
theorem dX9_hear_46 : decode cX9_hear 46 = .ok (.iload_n 2, 1) := by decide +kernel
theorem dX9_hear_47 : decode cX9_hear 47 = .ok (.ifCond .le 99, 3) := by decide +kernel
theorem dX9_hear_50 : decode cX9_hear 50 = .ok (.aload_n 0, 1) := by decide +kernel
theorem dX9_hear_51 : decode cX9_hear 51 = .ok (.getfield 11, 3) := by decide +kernel
theorem dX9_hear_54 : decode cX9_hear 54 = .ok (.aload_n 0, 1) := by decide +kernel
theorem dX9_hear_55 : decode cX9_hear 55 = .ok (.getfield 15, 3) := by decide +kernel
theorem dX9_hear_58 : decode cX9_hear 58 = .ok (.iload_n 1, 1) := by decide +kernel
theorem dX9_hear_59 : decode cX9_hear 59 = .ok (.laload, 1) := by decide +kernel
theorem dX9_hear_60 : decode cX9_hear 60 = .ok (.iload_n 2, 1) := by decide +kernel
theorem dX9_hear_61 : decode cX9_hear 61 = .ok (.invokevirtual 72, 3) := by decide +kernel
theorem dX9_hear_64 : decode cX9_hear 64 = .ok (.istore 4, 2) := by decide +kernel
theorem dX9_hear_66 : decode cX9_hear 66 = .ok (.iload 4, 2) := by decide +kernel
theorem dX9_hear_68 : decode cX9_hear 68 = .ok (.bipush (-4), 2) := by decide +kernel
theorem dX9_hear_70 : decode cX9_hear 70 = .ok (.if_icmp .ne 32, 3) := by decide +kernel
theorem dX9_hear_73 : decode cX9_hear 73 = .ok (.aload_n 0, 1) := by decide +kernel
theorem dX9_hear_74 : decode cX9_hear 74 = .ok (.iload_n 1, 1) := by decide +kernel
theorem dX9_hear_75 : decode cX9_hear 75 = .ok (.aload_n 0, 1) := by decide +kernel
theorem dX9_hear_76 : decode cX9_hear 76 = .ok (.getfield 15, 3) := by decide +kernel
theorem dX9_hear_79 : decode cX9_hear 79 = .ok (.iload_n 1, 1) := by decide +kernel
theorem dX9_hear_80 : decode cX9_hear 80 = .ok (.laload, 1) := by decide +kernel
theorem dX9_hear_81 : decode cX9_hear 81 = .ok (.iconst 5, 1) := by decide +kernel
theorem dX9_hear_82 : decode cX9_hear 82 = .ok (.iload_n 2, 1) := by decide +kernel
theorem dX9_hear_83 : decode cX9_hear 83 = .ok (.iconst 1, 1) := by decide +kernel
theorem dX9_hear_84 : decode cX9_hear 84 = .ok (.isub, 1) := by decide +kernel
theorem dX9_hear_85 : decode cX9_hear 85 = .ok (.imul, 1) := by decide +kernel
theorem dX9_hear_86 : decode cX9_hear 86 = .ok (.lshr, 1) := by decide +kernel
theorem dX9_hear_87 : decode cX9_hear 87 = .ok (.ldc2_w 43, 3) := by decide +kernel
theorem dX9_hear_90 : decode cX9_hear 90 = .ok (.land, 1) := by decide +kernel
theorem dX9_hear_91 : decode cX9_hear 91 = .ok (.l2i, 1) := by decide +kernel
theorem dX9_hear_92 : decode cX9_hear 92 = .ok (.iconst 1, 1) := by decide +kernel
theorem dX9_hear_93 : decode cX9_hear 93 = .ok (.invokevirtual 76, 3) := by decide +kernel
theorem dX9_hear_96 : decode cX9_hear 96 = .ok (.iinc 2 (-1), 3) := by decide +kernel
theorem dX9_hear_99 : decode cX9_hear 99 = .ok (.goto 41, 3) := by decide +kernel
theorem dX9_hear_102 : decode cX9_hear 102 = .ok (.aload_n 0, 1) := by decide +kernel
theorem dX9_hear_103 : decode cX9_hear 103 = .ok (.iload_n 1, 1) := by decide +kernel
theorem dX9_hear_104 : decode cX9_hear 104 = .ok (.aload_n 0, 1) := by decide +kernel
theorem dX9_hear_105 : decode cX9_hear 105 = .ok (.getfield 11, 3) := by decide +kernel
theorem dX9_hear_108 : decode cX9_hear 108 = .ok (.getfield 80, 3) := by decide +kernel
theorem dX9_hear_111 : decode cX9_hear 111 = .ok (.iload 4, 2) := by decide +kernel
theorem dX9_hear_113 : decode cX9_hear 113 = .ok (.iaload, 1) := by decide +kernel
theorem dX9_hear_114 : decode cX9_hear 114 = .ok (.aload_n 0, 1) := by decide +kernel
theorem dX9_hear_115 : decode cX9_hear 115 = .ok (.getfield 11, 3) := by decide +kernel
theorem dX9_hear_118 : decode cX9_hear 118 = .ok (.getfield 83, 3) := by decide +kernel
theorem dX9_hear_121 : decode cX9_hear 121 = .ok (.iload 4, 2) := by decide +kernel
theorem dX9_hear_123 : decode cX9_hear 123 = .ok (.iaload, 1) := by decide +kernel
theorem dX9_hear_124 : decode cX9_hear 124 = .ok (.invokevirtual 76, 3) := by decide +kernel
theorem dX9_hear_127 : decode cX9_hear 127 = .ok (.iload_n 2, 1) := by decide +kernel
theorem dX9_hear_128 : decode cX9_hear 128 = .ok (.aload_n 0, 1) := by decide +kernel
theorem dX9_hear_129 : decode cX9_hear 129 = .ok (.getfield 11, 3) := by decide +kernel
theorem dX9_hear_132 : decode cX9_hear 132 = .ok (.getfield 86, 3) := by decide +kernel
theorem dX9_hear_135 : decode cX9_hear 135 = .ok (.iload 4, 2) := by decide +kernel
theorem dX9_hear_137 : decode cX9_hear 137 = .ok (.iaload, 1) := by decide +kernel
theorem dX9_hear_138 : decode cX9_hear 138 = .ok (.isub, 1) := by decide +kernel
theorem dX9_hear_139 : decode cX9_hear 139 = .ok (.istore_n 2, 1) := by decide +kernel
theorem dX9_hear_140 : decode cX9_hear 140 = .ok (.iinc 3 1, 3) := by decide +kernel
theorem dX9_hear_143 : decode cX9_hear 143 = .ok (.goto (-103), 3) := by decide +kernel
theorem dX9_hear_146 : decode cX9_hear 146 = .ok (.return_, 1) := by decide +kernel
theorem dX9_appendSounds_0 : decode cX9_appendSounds 0 = .ok (.iconst 5, 1) := by decide +kernel
theorem dX9_appendSounds_1 : decode cX9_appendSounds 1 = .ok (.iload_n 3, 1) := by decide +kernel
theorem dX9_appendSounds_2 : decode cX9_appendSounds 2 = .ok (.iconst 1, 1) := by decide +kernel
theorem dX9_appendSounds_3 : decode cX9_appendSounds 3 = .ok (.isub, 1) := by decide +kernel
theorem dX9_appendSounds_4 : decode cX9_appendSounds 4 = .ok (.imul, 1) := by decide +kernel
theorem dX9_appendSounds_5 : decode cX9_appendSounds 5 = .ok (.istore 4, 2) := by decide +kernel
theorem dX9_appendSounds_7 : decode cX9_appendSounds 7 = .ok (.iload 4, 2) := by decide +kernel
theorem dX9_appendSounds_9 : decode cX9_appendSounds 9 = .ok (.ifCond .lt 53, 3) := by decide +kernel
theorem dX9_appendSounds_12 : decode cX9_appendSounds 12 = .ok (.aload_n 0, 1) := by decide +kernel
theorem dX9_appendSounds_13 : decode cX9_appendSounds 13 = .ok (.getfield 23, 3) := by decide +kernel
theorem dX9_appendSounds_16 : decode cX9_appendSounds 16 = .ok (.iload_n 1, 1) := by decide +kernel
theorem dX9_appendSounds_17 : decode cX9_appendSounds 17 = .ok (.iaload, 1) := by decide +kernel
theorem dX9_appendSounds_18 : decode cX9_appendSounds 18 = .ok (.bipush 20, 2) := by decide +kernel
theorem dX9_appendSounds_20 : decode cX9_appendSounds 20 = .ok (.if_icmp .ge 36, 3) := by decide +kernel
theorem dX9_appendSounds_23 : decode cX9_appendSounds 23 = .ok (.aload_n 0, 1) := by decide +kernel
theorem dX9_appendSounds_24 : decode cX9_appendSounds 24 = .ok (.getfield 19, 3) := by decide +kernel
theorem dX9_appendSounds_27 : decode cX9_appendSounds 27 = .ok (.iload_n 1, 1) := by decide +kernel
theorem dX9_appendSounds_28 : decode cX9_appendSounds 28 = .ok (.bipush 20, 2) := by decide +kernel
theorem dX9_appendSounds_30 : decode cX9_appendSounds 30 = .ok (.imul, 1) := by decide +kernel
theorem dX9_appendSounds_31 : decode cX9_appendSounds 31 = .ok (.aload_n 0, 1) := by decide +kernel
theorem dX9_appendSounds_32 : decode cX9_appendSounds 32 = .ok (.getfield 23, 3) := by decide +kernel
theorem dX9_appendSounds_35 : decode cX9_appendSounds 35 = .ok (.iload_n 1, 1) := by decide +kernel
theorem dX9_appendSounds_36 : decode cX9_appendSounds 36 = .ok (.iaload, 1) := by decide +kernel
theorem dX9_appendSounds_37 : decode cX9_appendSounds 37 = .ok (.iadd, 1) := by decide +kernel
theorem dX9_appendSounds_38 : decode cX9_appendSounds 38 = .ok (.iload_n 2, 1) := by decide +kernel
theorem dX9_appendSounds_39 : decode cX9_appendSounds 39 = .ok (.iload 4, 2) := by decide +kernel
theorem dX9_appendSounds_41 : decode cX9_appendSounds 41 = .ok (.ishr, 1) := by decide +kernel
theorem dX9_appendSounds_42 : decode cX9_appendSounds 42 = .ok (.bipush 31, 2) := by decide +kernel
theorem dX9_appendSounds_44 : decode cX9_appendSounds 44 = .ok (.iand, 1) := by decide +kernel
theorem dX9_appendSounds_45 : decode cX9_appendSounds 45 = .ok (.iastore, 1) := by decide +kernel
theorem dX9_appendSounds_46 : decode cX9_appendSounds 46 = .ok (.aload_n 0, 1) := by decide +kernel
theorem dX9_appendSounds_47 : decode cX9_appendSounds 47 = .ok (.getfield 23, 3) := by decide +kernel
theorem dX9_appendSounds_50 : decode cX9_appendSounds 50 = .ok (.iload_n 1, 1) := by decide +kernel
theorem dX9_appendSounds_51 : decode cX9_appendSounds 51 = .ok (.dup2, 1) := by decide +kernel
theorem dX9_appendSounds_52 : decode cX9_appendSounds 52 = .ok (.iaload, 1) := by decide +kernel
theorem dX9_appendSounds_53 : decode cX9_appendSounds 53 = .ok (.iconst 1, 1) := by decide +kernel
theorem dX9_appendSounds_54 : decode cX9_appendSounds 54 = .ok (.iadd, 1) := by decide +kernel
theorem dX9_appendSounds_55 : decode cX9_appendSounds 55 = .ok (.iastore, 1) := by decide +kernel
theorem dX9_appendSounds_56 : decode cX9_appendSounds 56 = .ok (.iinc 4 (-5), 3) := by decide +kernel
theorem dX9_appendSounds_59 : decode cX9_appendSounds 59 = .ok (.goto (-52), 3) := by decide +kernel
theorem dX9_appendSounds_62 : decode cX9_appendSounds 62 = .ok (.return_, 1) := by decide +kernel
theorem dX9_measure_0 : decode cX9_measure 0 = .ok (.aload_n 0, 1) := by decide +kernel
theorem dX9_measure_1 : decode cX9_measure 1 = .ok (.getfield 11, 3) := by decide +kernel
theorem dX9_measure_4 : decode cX9_measure 4 = .ok (.getfield 65, 3) := by decide +kernel
theorem dX9_measure_7 : decode cX9_measure 7 = .ok (.iconst 0, 1) := by decide +kernel
theorem dX9_measure_8 : decode cX9_measure 8 = .ok (.iaload, 1) := by decide +kernel
theorem dX9_measure_9 : decode cX9_measure 9 = .ok (.istore_n 3, 1) := by decide +kernel
theorem dX9_measure_10 : decode cX9_measure 10 = .ok (.aload_n 0, 1) := by decide +kernel
theorem dX9_measure_11 : decode cX9_measure 11 = .ok (.getfield 23, 3) := by decide +kernel
theorem dX9_measure_14 : decode cX9_measure 14 = .ok (.iload_n 2, 1) := by decide +kernel
theorem dX9_measure_15 : decode cX9_measure 15 = .ok (.iaload, 1) := by decide +kernel
theorem dX9_measure_16 : decode cX9_measure 16 = .ok (.istore 4, 2) := by decide +kernel
theorem dX9_measure_18 : decode cX9_measure 18 = .ok (.iconst 0, 1) := by decide +kernel
theorem dX9_measure_19 : decode cX9_measure 19 = .ok (.istore 5, 2) := by decide +kernel
theorem dX9_measure_21 : decode cX9_measure 21 = .ok (.iload 5, 2) := by decide +kernel
theorem dX9_measure_23 : decode cX9_measure 23 = .ok (.iload 4, 2) := by decide +kernel
theorem dX9_measure_25 : decode cX9_measure 25 = .ok (.if_icmp .gt 20, 3) := by decide +kernel
theorem dX9_measure_28 : decode cX9_measure 28 = .ok (.aload_n 0, 1) := by decide +kernel
theorem dX9_measure_29 : decode cX9_measure 29 = .ok (.getfield 38, 3) := by decide +kernel
theorem dX9_measure_32 : decode cX9_measure 32 = .ok (.iload 5, 2) := by decide +kernel
theorem dX9_measure_34 : decode cX9_measure 34 = .ok (.iload 5, 2) := by decide +kernel
theorem dX9_measure_36 : decode cX9_measure 36 = .ok (.iload_n 3, 1) := by decide +kernel
theorem dX9_measure_37 : decode cX9_measure 37 = .ok (.imul, 1) := by decide +kernel
theorem dX9_measure_38 : decode cX9_measure 38 = .ok (.iastore, 1) := by decide +kernel
theorem dX9_measure_39 : decode cX9_measure 39 = .ok (.iinc 5 1, 3) := by decide +kernel
theorem dX9_measure_42 : decode cX9_measure 42 = .ok (.goto (-21), 3) := by decide +kernel
theorem dX9_measure_45 : decode cX9_measure 45 = .ok (.iconst 0, 1) := by decide +kernel
theorem dX9_measure_46 : decode cX9_measure 46 = .ok (.istore 5, 2) := by decide +kernel
theorem dX9_measure_48 : decode cX9_measure 48 = .ok (.iload 5, 2) := by decide +kernel
theorem dX9_measure_50 : decode cX9_measure 50 = .ok (.aload_n 0, 1) := by decide +kernel
theorem dX9_measure_51 : decode cX9_measure 51 = .ok (.getfield 23, 3) := by decide +kernel
theorem dX9_measure_54 : decode cX9_measure 54 = .ok (.iload_n 1, 1) := by decide +kernel
theorem dX9_measure_55 : decode cX9_measure 55 = .ok (.iaload, 1) := by decide +kernel
theorem dX9_measure_56 : decode cX9_measure 56 = .ok (.if_icmp .ge 122, 3) := by decide +kernel
theorem dX9_measure_59 : decode cX9_measure 59 = .ok (.aload_n 0, 1) := by decide +kernel
theorem dX9_measure_60 : decode cX9_measure 60 = .ok (.getfield 38, 3) := by decide +kernel
theorem dX9_measure_63 : decode cX9_measure 63 = .ok (.iconst 0, 1) := by decide +kernel
theorem dX9_measure_64 : decode cX9_measure 64 = .ok (.iaload, 1) := by decide +kernel
theorem dX9_measure_65 : decode cX9_measure 65 = .ok (.istore 6, 2) := by decide +kernel
theorem dX9_measure_67 : decode cX9_measure 67 = .ok (.aload_n 0, 1) := by decide +kernel
theorem dX9_measure_68 : decode cX9_measure 68 = .ok (.getfield 38, 3) := by decide +kernel
theorem dX9_measure_71 : decode cX9_measure 71 = .ok (.iconst 0, 1) := by decide +kernel
theorem dX9_measure_72 : decode cX9_measure 72 = .ok (.dup2, 1) := by decide +kernel
theorem dX9_measure_73 : decode cX9_measure 73 = .ok (.iaload, 1) := by decide +kernel
theorem dX9_measure_74 : decode cX9_measure 74 = .ok (.iload_n 3, 1) := by decide +kernel
theorem dX9_measure_75 : decode cX9_measure 75 = .ok (.iadd, 1) := by decide +kernel
theorem dX9_measure_76 : decode cX9_measure 76 = .ok (.iastore, 1) := by decide +kernel
theorem dX9_measure_77 : decode cX9_measure 77 = .ok (.aload_n 0, 1) := by decide +kernel
theorem dX9_measure_78 : decode cX9_measure 78 = .ok (.getfield 19, 3) := by decide +kernel
theorem dX9_measure_81 : decode cX9_measure 81 = .ok (.iload_n 1, 1) := by decide +kernel
theorem dX9_measure_82 : decode cX9_measure 82 = .ok (.bipush 20, 2) := by decide +kernel
theorem dX9_measure_84 : decode cX9_measure 84 = .ok (.imul, 1) := by decide +kernel
theorem dX9_measure_85 : decode cX9_measure 85 = .ok (.iload 5, 2) := by decide +kernel
theorem dX9_measure_87 : decode cX9_measure 87 = .ok (.iadd, 1) := by decide +kernel
theorem dX9_measure_88 : decode cX9_measure 88 = .ok (.iaload, 1) := by decide +kernel
theorem dX9_measure_89 : decode cX9_measure 89 = .ok (.istore 7, 2) := by decide +kernel
theorem dX9_measure_91 : decode cX9_measure 91 = .ok (.iconst 0, 1) := by decide +kernel
theorem dX9_measure_92 : decode cX9_measure 92 = .ok (.istore 8, 2) := by decide +kernel
theorem dX9_measure_94 : decode cX9_measure 94 = .ok (.iload 8, 2) := by decide +kernel
theorem dX9_measure_96 : decode cX9_measure 96 = .ok (.iload 4, 2) := by decide +kernel
theorem dX9_measure_98 : decode cX9_measure 98 = .ok (.if_icmp .ge 74, 3) := by decide +kernel
theorem dX9_measure_101 : decode cX9_measure 101 = .ok (.iload 6, 2) := by decide +kernel
theorem dX9_measure_103 : decode cX9_measure 103 = .ok (.aload_n 0, 1) := by decide +kernel
theorem dX9_measure_104 : decode cX9_measure 104 = .ok (.getfield 11, 3) := by decide +kernel
theorem dX9_measure_107 : decode cX9_measure 107 = .ok (.iload 7, 2) := by decide +kernel
theorem dX9_measure_109 : decode cX9_measure 109 = .ok (.aload_n 0, 1) := by decide +kernel
theorem dX9_measure_110 : decode cX9_measure 110 = .ok (.getfield 19, 3) := by decide +kernel
theorem dX9_measure_113 : decode cX9_measure 113 = .ok (.iload_n 2, 1) := by decide +kernel
theorem dX9_measure_114 : decode cX9_measure 114 = .ok (.bipush 20, 2) := by decide +kernel
theorem dX9_measure_116 : decode cX9_measure 116 = .ok (.imul, 1) := by decide +kernel
theorem dX9_measure_117 : decode cX9_measure 117 = .ok (.iload 8, 2) := by decide +kernel
theorem dX9_measure_119 : decode cX9_measure 119 = .ok (.iadd, 1) := by decide +kernel
theorem dX9_measure_120 : decode cX9_measure 120 = .ok (.iaload, 1) := by decide +kernel
theorem dX9_measure_121 : decode cX9_measure 121 = .ok (.invokevirtual 89, 3) := by decide +kernel
theorem dX9_measure_124 : decode cX9_measure 124 = .ok (.iadd, 1) := by decide +kernel
theorem dX9_measure_125 : decode cX9_measure 125 = .ok (.istore 9, 2) := by decide +kernel
theorem dX9_measure_127 : decode cX9_measure 127 = .ok (.aload_n 0, 1) := by decide +kernel
theorem dX9_measure_128 : decode cX9_measure 128 = .ok (.getfield 38, 3) := by decide +kernel
theorem dX9_measure_131 : decode cX9_measure 131 = .ok (.iload 8, 2) := by decide +kernel
theorem dX9_measure_133 : decode cX9_measure 133 = .ok (.iconst 1, 1) := by decide +kernel
theorem dX9_measure_134 : decode cX9_measure 134 = .ok (.iadd, 1) := by decide +kernel
theorem dX9_measure_135 : decode cX9_measure 135 = .ok (.iaload, 1) := by decide +kernel
theorem dX9_measure_136 : decode cX9_measure 136 = .ok (.istore 6, 2) := by decide +kernel
theorem dX9_measure_138 : decode cX9_measure 138 = .ok (.aload_n 0, 1) := by decide +kernel
theorem dX9_measure_139 : decode cX9_measure 139 = .ok (.getfield 38, 3) := by decide +kernel
theorem dX9_measure_142 : decode cX9_measure 142 = .ok (.iload 8, 2) := by decide +kernel
theorem dX9_measure_144 : decode cX9_measure 144 = .ok (.iconst 1, 1) := by decide +kernel
theorem dX9_measure_145 : decode cX9_measure 145 = .ok (.iadd, 1) := by decide +kernel
theorem dX9_measure_146 : decode cX9_measure 146 = .ok (.iload 9, 2) := by decide +kernel
theorem dX9_measure_148 : decode cX9_measure 148 = .ok (.iload 6, 2) := by decide +kernel
theorem dX9_measure_150 : decode cX9_measure 150 = .ok (.aload_n 0, 1) := by decide +kernel
theorem dX9_measure_151 : decode cX9_measure 151 = .ok (.getfield 38, 3) := by decide +kernel
theorem dX9_measure_154 : decode cX9_measure 154 = .ok (.iload 8, 2) := by decide +kernel
theorem dX9_measure_156 : decode cX9_measure 156 = .ok (.iaload, 1) := by decide +kernel
theorem dX9_measure_157 : decode cX9_measure 157 = .ok (.invokestatic 92, 3) := by decide +kernel
theorem dX9_measure_160 : decode cX9_measure 160 = .ok (.iload_n 3, 1) := by decide +kernel
theorem dX9_measure_161 : decode cX9_measure 161 = .ok (.iadd, 1) := by decide +kernel
theorem dX9_measure_162 : decode cX9_measure 162 = .ok (.invokestatic 92, 3) := by decide +kernel
theorem dX9_measure_165 : decode cX9_measure 165 = .ok (.iastore, 1) := by decide +kernel
theorem dX9_measure_166 : decode cX9_measure 166 = .ok (.iinc 8 1, 3) := by decide +kernel
theorem dX9_measure_169 : decode cX9_measure 169 = .ok (.goto (-75), 3) := by decide +kernel
theorem dX9_measure_172 : decode cX9_measure 172 = .ok (.iinc 5 1, 3) := by decide +kernel
theorem dX9_measure_175 : decode cX9_measure 175 = .ok (.goto (-127), 3) := by decide +kernel
theorem dX9_measure_178 : decode cX9_measure 178 = .ok (.aload_n 0, 1) := by decide +kernel
theorem dX9_measure_179 : decode cX9_measure 179 = .ok (.getfield 38, 3) := by decide +kernel
theorem dX9_measure_182 : decode cX9_measure 182 = .ok (.iload 4, 2) := by decide +kernel
theorem dX9_measure_184 : decode cX9_measure 184 = .ok (.iaload, 1) := by decide +kernel
theorem dX9_measure_185 : decode cX9_measure 185 = .ok (.ireturn, 1) := by decide +kernel
theorem dX9_nameAll_0 : decode cX9_nameAll 0 = .ok (.iconst 0, 1) := by decide +kernel
theorem dX9_nameAll_1 : decode cX9_nameAll 1 = .ok (.istore_n 1, 1) := by decide +kernel
theorem dX9_nameAll_2 : decode cX9_nameAll 2 = .ok (.iconst 0, 1) := by decide +kernel
theorem dX9_nameAll_3 : decode cX9_nameAll 3 = .ok (.istore_n 2, 1) := by decide +kernel
theorem dX9_nameAll_4 : decode cX9_nameAll 4 = .ok (.iload_n 2, 1) := by decide +kernel
theorem dX9_nameAll_5 : decode cX9_nameAll 5 = .ok (.aload_n 0, 1) := by decide +kernel
theorem dX9_nameAll_6 : decode cX9_nameAll 6 = .ok (.getfield 47, 3) := by decide +kernel
theorem dX9_nameAll_9 : decode cX9_nameAll 9 = .ok (.if_icmp .ge 33, 3) := by decide +kernel
theorem dX9_nameAll_12 : decode cX9_nameAll 12 = .ok (.iload_n 1, 1) := by decide +kernel
theorem dX9_nameAll_13 : decode cX9_nameAll 13 = .ok (.iload_n 2, 1) := by decide +kernel
theorem dX9_nameAll_14 : decode cX9_nameAll 14 = .ok (.ishr, 1) := by decide +kernel
theorem dX9_nameAll_15 : decode cX9_nameAll 15 = .ok (.iconst 1, 1) := by decide +kernel
theorem dX9_nameAll_16 : decode cX9_nameAll 16 = .ok (.iand, 1) := by decide +kernel
theorem dX9_nameAll_17 : decode cX9_nameAll 17 = .ok (.ifCond .ne 19, 3) := by decide +kernel
theorem dX9_nameAll_20 : decode cX9_nameAll 20 = .ok (.aload_n 0, 1) := by decide +kernel
theorem dX9_nameAll_21 : decode cX9_nameAll 21 = .ok (.iload_n 2, 1) := by decide +kernel
theorem dX9_nameAll_22 : decode cX9_nameAll 22 = .ok (.invokevirtual 97, 3) := by decide +kernel
theorem dX9_nameAll_25 : decode cX9_nameAll 25 = .ok (.istore_n 3, 1) := by decide +kernel
theorem dX9_nameAll_26 : decode cX9_nameAll 26 = .ok (.iload_n 1, 1) := by decide +kernel
theorem dX9_nameAll_27 : decode cX9_nameAll 27 = .ok (.iload_n 3, 1) := by decide +kernel
theorem dX9_nameAll_28 : decode cX9_nameAll 28 = .ok (.ior, 1) := by decide +kernel
theorem dX9_nameAll_29 : decode cX9_nameAll 29 = .ok (.istore_n 1, 1) := by decide +kernel
theorem dX9_nameAll_30 : decode cX9_nameAll 30 = .ok (.aload_n 0, 1) := by decide +kernel
theorem dX9_nameAll_31 : decode cX9_nameAll 31 = .ok (.iload_n 3, 1) := by decide +kernel
theorem dX9_nameAll_32 : decode cX9_nameAll 32 = .ok (.iload_n 2, 1) := by decide +kernel
theorem dX9_nameAll_33 : decode cX9_nameAll 33 = .ok (.invokevirtual 101, 3) := by decide +kernel
theorem dX9_nameAll_36 : decode cX9_nameAll 36 = .ok (.iinc 2 1, 3) := by decide +kernel
theorem dX9_nameAll_39 : decode cX9_nameAll 39 = .ok (.goto (-35), 3) := by decide +kernel
theorem dX9_nameAll_42 : decode cX9_nameAll 42 = .ok (.return_, 1) := by decide +kernel
theorem dX9_reachedFrom_0 : decode cX9_reachedFrom 0 = .ok (.iconst 1, 1) := by decide +kernel
theorem dX9_reachedFrom_1 : decode cX9_reachedFrom 1 = .ok (.iload_n 1, 1) := by decide +kernel
theorem dX9_reachedFrom_2 : decode cX9_reachedFrom 2 = .ok (.ishl, 1) := by decide +kernel
theorem dX9_reachedFrom_3 : decode cX9_reachedFrom 3 = .ok (.istore_n 2, 1) := by decide +kernel
theorem dX9_reachedFrom_4 : decode cX9_reachedFrom 4 = .ok (.iconst 0, 1) := by decide +kernel
theorem dX9_reachedFrom_5 : decode cX9_reachedFrom 5 = .ok (.istore_n 3, 1) := by decide +kernel
theorem dX9_reachedFrom_6 : decode cX9_reachedFrom 6 = .ok (.iconst 0, 1) := by decide +kernel
theorem dX9_reachedFrom_7 : decode cX9_reachedFrom 7 = .ok (.istore 4, 2) := by decide +kernel
theorem dX9_reachedFrom_9 : decode cX9_reachedFrom 9 = .ok (.iload 4, 2) := by decide +kernel
theorem dX9_reachedFrom_11 : decode cX9_reachedFrom 11 = .ok (.aload_n 0, 1) := by decide +kernel
theorem dX9_reachedFrom_12 : decode cX9_reachedFrom 12 = .ok (.getfield 47, 3) := by decide +kernel
theorem dX9_reachedFrom_15 : decode cX9_reachedFrom 15 = .ok (.if_icmp .ge 54, 3) := by decide +kernel
theorem dX9_reachedFrom_18 : decode cX9_reachedFrom 18 = .ok (.iload_n 2, 1) := by decide +kernel
theorem dX9_reachedFrom_19 : decode cX9_reachedFrom 19 = .ok (.iload_n 3, 1) := by decide +kernel
theorem dX9_reachedFrom_20 : decode cX9_reachedFrom 20 = .ok (.if_icmp .eq 49, 3) := by decide +kernel
theorem dX9_reachedFrom_23 : decode cX9_reachedFrom 23 = .ok (.iload_n 2, 1) := by decide +kernel
theorem dX9_reachedFrom_24 : decode cX9_reachedFrom 24 = .ok (.istore_n 3, 1) := by decide +kernel
theorem dX9_reachedFrom_25 : decode cX9_reachedFrom 25 = .ok (.iconst 0, 1) := by decide +kernel
theorem dX9_reachedFrom_26 : decode cX9_reachedFrom 26 = .ok (.istore 5, 2) := by decide +kernel
theorem dX9_reachedFrom_28 : decode cX9_reachedFrom 28 = .ok (.iload 5, 2) := by decide +kernel
theorem dX9_reachedFrom_30 : decode cX9_reachedFrom 30 = .ok (.aload_n 0, 1) := by decide +kernel
theorem dX9_reachedFrom_31 : decode cX9_reachedFrom 31 = .ok (.getfield 47, 3) := by decide +kernel
theorem dX9_reachedFrom_34 : decode cX9_reachedFrom 34 = .ok (.if_icmp .ge 29, 3) := by decide +kernel
theorem dX9_reachedFrom_37 : decode cX9_reachedFrom 37 = .ok (.iload_n 2, 1) := by decide +kernel
theorem dX9_reachedFrom_38 : decode cX9_reachedFrom 38 = .ok (.iload 5, 2) := by decide +kernel
theorem dX9_reachedFrom_40 : decode cX9_reachedFrom 40 = .ok (.ishr, 1) := by decide +kernel
theorem dX9_reachedFrom_41 : decode cX9_reachedFrom 41 = .ok (.iconst 1, 1) := by decide +kernel
theorem dX9_reachedFrom_42 : decode cX9_reachedFrom 42 = .ok (.iand, 1) := by decide +kernel
theorem dX9_reachedFrom_43 : decode cX9_reachedFrom 43 = .ok (.iconst 1, 1) := by decide +kernel
theorem dX9_reachedFrom_44 : decode cX9_reachedFrom 44 = .ok (.if_icmp .ne 13, 3) := by decide +kernel
theorem dX9_reachedFrom_47 : decode cX9_reachedFrom 47 = .ok (.iload_n 2, 1) := by decide +kernel
theorem dX9_reachedFrom_48 : decode cX9_reachedFrom 48 = .ok (.aload_n 0, 1) := by decide +kernel
theorem dX9_reachedFrom_49 : decode cX9_reachedFrom 49 = .ok (.getfield 29, 3) := by decide +kernel
theorem dX9_reachedFrom_52 : decode cX9_reachedFrom 52 = .ok (.iload 5, 2) := by decide +kernel
theorem dX9_reachedFrom_54 : decode cX9_reachedFrom 54 = .ok (.iaload, 1) := by decide +kernel
theorem dX9_reachedFrom_55 : decode cX9_reachedFrom 55 = .ok (.ior, 1) := by decide +kernel
theorem dX9_reachedFrom_56 : decode cX9_reachedFrom 56 = .ok (.istore_n 2, 1) := by decide +kernel
theorem dX9_reachedFrom_57 : decode cX9_reachedFrom 57 = .ok (.iinc 5 1, 3) := by decide +kernel
theorem dX9_reachedFrom_60 : decode cX9_reachedFrom 60 = .ok (.goto (-32), 3) := by decide +kernel
theorem dX9_reachedFrom_63 : decode cX9_reachedFrom 63 = .ok (.iinc 4 1, 3) := by decide +kernel
theorem dX9_reachedFrom_66 : decode cX9_reachedFrom 66 = .ok (.goto (-57), 3) := by decide +kernel
theorem dX9_reachedFrom_69 : decode cX9_reachedFrom 69 = .ok (.iload_n 2, 1) := by decide +kernel
theorem dX9_reachedFrom_70 : decode cX9_reachedFrom 70 = .ok (.ireturn, 1) := by decide +kernel
theorem dX9_nameMembers_0 : decode cX9_nameMembers 0 = .ok (.iconst 0, 1) := by decide +kernel
theorem dX9_nameMembers_1 : decode cX9_nameMembers 1 = .ok (.istore_n 3, 1) := by decide +kernel
theorem dX9_nameMembers_2 : decode cX9_nameMembers 2 = .ok (.iload_n 3, 1) := by decide +kernel
theorem dX9_nameMembers_3 : decode cX9_nameMembers 3 = .ok (.aload_n 0, 1) := by decide +kernel
theorem dX9_nameMembers_4 : decode cX9_nameMembers 4 = .ok (.getfield 47, 3) := by decide +kernel
theorem dX9_nameMembers_7 : decode cX9_nameMembers 7 = .ok (.if_icmp .ge 25, 3) := by decide +kernel
theorem dX9_nameMembers_10 : decode cX9_nameMembers 10 = .ok (.iload_n 1, 1) := by decide +kernel
theorem dX9_nameMembers_11 : decode cX9_nameMembers 11 = .ok (.iload_n 3, 1) := by decide +kernel
theorem dX9_nameMembers_12 : decode cX9_nameMembers 12 = .ok (.ishr, 1) := by decide +kernel
theorem dX9_nameMembers_13 : decode cX9_nameMembers 13 = .ok (.iconst 1, 1) := by decide +kernel
theorem dX9_nameMembers_14 : decode cX9_nameMembers 14 = .ok (.iand, 1) := by decide +kernel
theorem dX9_nameMembers_15 : decode cX9_nameMembers 15 = .ok (.iconst 1, 1) := by decide +kernel
theorem dX9_nameMembers_16 : decode cX9_nameMembers 16 = .ok (.if_icmp .ne 10, 3) := by decide +kernel
theorem dX9_nameMembers_19 : decode cX9_nameMembers 19 = .ok (.aload_n 0, 1) := by decide +kernel
theorem dX9_nameMembers_20 : decode cX9_nameMembers 20 = .ok (.getfield 32, 3) := by decide +kernel
theorem dX9_nameMembers_23 : decode cX9_nameMembers 23 = .ok (.iload_n 3, 1) := by decide +kernel
theorem dX9_nameMembers_24 : decode cX9_nameMembers 24 = .ok (.iload_n 2, 1) := by decide +kernel
theorem dX9_nameMembers_25 : decode cX9_nameMembers 25 = .ok (.iastore, 1) := by decide +kernel
theorem dX9_nameMembers_26 : decode cX9_nameMembers 26 = .ok (.iinc 3 1, 3) := by decide +kernel
theorem dX9_nameMembers_29 : decode cX9_nameMembers 29 = .ok (.goto (-27), 3) := by decide +kernel
theorem dX9_nameMembers_32 : decode cX9_nameMembers 32 = .ok (.return_, 1) := by decide +kernel
theorem dX9_walkTo_0 : decode cX9_walkTo 0 = .ok (.aload_n 0, 1) := by decide +kernel
theorem dX9_walkTo_1 : decode cX9_walkTo 1 = .ok (.getfield 35, 3) := by decide +kernel
theorem dX9_walkTo_4 : decode cX9_walkTo 4 = .ok (.ldc 105, 2) := by decide +kernel
theorem dX9_walkTo_6 : decode cX9_walkTo 6 = .ok (.invokestatic 106, 3) := by decide +kernel
theorem dX9_walkTo_9 : decode cX9_walkTo 9 = .ok (.aload_n 0, 1) := by decide +kernel
theorem dX9_walkTo_10 : decode cX9_walkTo 10 = .ok (.getfield 35, 3) := by decide +kernel
theorem dX9_walkTo_13 : decode cX9_walkTo 13 = .ok (.iload_n 1, 1) := by decide +kernel
theorem dX9_walkTo_14 : decode cX9_walkTo 14 = .ok (.iconst 0, 1) := by decide +kernel
theorem dX9_walkTo_15 : decode cX9_walkTo 15 = .ok (.iastore, 1) := by decide +kernel
theorem dX9_walkTo_16 : decode cX9_walkTo 16 = .ok (.iconst 1, 1) := by decide +kernel
theorem dX9_walkTo_17 : decode cX9_walkTo 17 = .ok (.istore_n 2, 1) := by decide +kernel
theorem dX9_walkTo_18 : decode cX9_walkTo 18 = .ok (.iconst 0, 1) := by decide +kernel
theorem dX9_walkTo_19 : decode cX9_walkTo 19 = .ok (.istore_n 3, 1) := by decide +kernel
theorem dX9_walkTo_20 : decode cX9_walkTo 20 = .ok (.iload_n 3, 1) := by decide +kernel
theorem dX9_walkTo_21 : decode cX9_walkTo 21 = .ok (.bipush 16, 2) := by decide +kernel
theorem dX9_walkTo_23 : decode cX9_walkTo 23 = .ok (.if_icmp .ge 64, 3) := by decide +kernel
theorem dX9_walkTo_26 : decode cX9_walkTo 26 = .ok (.iload_n 2, 1) := by decide +kernel
theorem dX9_walkTo_27 : decode cX9_walkTo 27 = .ok (.ifCond .eq 60, 3) := by decide +kernel
theorem dX9_walkTo_30 : decode cX9_walkTo 30 = .ok (.iconst 0, 1) := by decide +kernel
theorem dX9_walkTo_31 : decode cX9_walkTo 31 = .ok (.istore_n 2, 1) := by decide +kernel
theorem dX9_walkTo_32 : decode cX9_walkTo 32 = .ok (.iconst 0, 1) := by decide +kernel
theorem dX9_walkTo_33 : decode cX9_walkTo 33 = .ok (.istore 4, 2) := by decide +kernel
theorem dX9_walkTo_35 : decode cX9_walkTo 35 = .ok (.iload 4, 2) := by decide +kernel
theorem dX9_walkTo_37 : decode cX9_walkTo 37 = .ok (.aload_n 0, 1) := by decide +kernel
theorem dX9_walkTo_38 : decode cX9_walkTo 38 = .ok (.getfield 47, 3) := by decide +kernel
theorem dX9_walkTo_41 : decode cX9_walkTo 41 = .ok (.if_icmp .ge 40, 3) := by decide +kernel
theorem dX9_walkTo_44 : decode cX9_walkTo 44 = .ok (.aload_n 0, 1) := by decide +kernel
theorem dX9_walkTo_45 : decode cX9_walkTo 45 = .ok (.iload 4, 2) := by decide +kernel
theorem dX9_walkTo_47 : decode cX9_walkTo 47 = .ok (.invokevirtual 112, 3) := by decide +kernel
theorem dX9_walkTo_50 : decode cX9_walkTo 50 = .ok (.istore 5, 2) := by decide +kernel
theorem dX9_walkTo_52 : decode cX9_walkTo 52 = .ok (.iload 5, 2) := by decide +kernel
theorem dX9_walkTo_54 : decode cX9_walkTo 54 = .ok (.aload_n 0, 1) := by decide +kernel
theorem dX9_walkTo_55 : decode cX9_walkTo 55 = .ok (.getfield 35, 3) := by decide +kernel
theorem dX9_walkTo_58 : decode cX9_walkTo 58 = .ok (.iload 4, 2) := by decide +kernel
theorem dX9_walkTo_60 : decode cX9_walkTo 60 = .ok (.iaload, 1) := by decide +kernel
theorem dX9_walkTo_61 : decode cX9_walkTo 61 = .ok (.if_icmp .ge 14, 3) := by decide +kernel
theorem dX9_walkTo_64 : decode cX9_walkTo 64 = .ok (.aload_n 0, 1) := by decide +kernel
theorem dX9_walkTo_65 : decode cX9_walkTo 65 = .ok (.getfield 35, 3) := by decide +kernel
theorem dX9_walkTo_68 : decode cX9_walkTo 68 = .ok (.iload 4, 2) := by decide +kernel
theorem dX9_walkTo_70 : decode cX9_walkTo 70 = .ok (.iload 5, 2) := by decide +kernel
theorem dX9_walkTo_72 : decode cX9_walkTo 72 = .ok (.iastore, 1) := by decide +kernel
theorem dX9_walkTo_73 : decode cX9_walkTo 73 = .ok (.iconst 1, 1) := by decide +kernel
theorem dX9_walkTo_74 : decode cX9_walkTo 74 = .ok (.istore_n 2, 1) := by decide +kernel
theorem dX9_walkTo_75 : decode cX9_walkTo 75 = .ok (.iinc 4 1, 3) := by decide +kernel
theorem dX9_walkTo_78 : decode cX9_walkTo 78 = .ok (.goto (-43), 3) := by decide +kernel
theorem dX9_walkTo_81 : decode cX9_walkTo 81 = .ok (.iinc 3 1, 3) := by decide +kernel
theorem dX9_walkTo_84 : decode cX9_walkTo 84 = .ok (.goto (-64), 3) := by decide +kernel
theorem dX9_walkTo_87 : decode cX9_walkTo 87 = .ok (.return_, 1) := by decide +kernel
theorem dX9_cheapestStep_0 : decode cX9_cheapestStep 0 = .ok (.ldc 105, 2) := by decide +kernel
theorem dX9_cheapestStep_2 : decode cX9_cheapestStep 2 = .ok (.istore_n 2, 1) := by decide +kernel
theorem dX9_cheapestStep_3 : decode cX9_cheapestStep 3 = .ok (.iconst 0, 1) := by decide +kernel
theorem dX9_cheapestStep_4 : decode cX9_cheapestStep 4 = .ok (.istore_n 3, 1) := by decide +kernel
theorem dX9_cheapestStep_5 : decode cX9_cheapestStep 5 = .ok (.iload_n 3, 1) := by decide +kernel
theorem dX9_cheapestStep_6 : decode cX9_cheapestStep 6 = .ok (.aload_n 0, 1) := by decide +kernel
theorem dX9_cheapestStep_7 : decode cX9_cheapestStep 7 = .ok (.getfield 47, 3) := by decide +kernel
theorem dX9_cheapestStep_10 : decode cX9_cheapestStep 10 = .ok (.if_icmp .ge 39, 3) := by decide +kernel
theorem dX9_cheapestStep_13 : decode cX9_cheapestStep 13 = .ok (.iload_n 3, 1) := by decide +kernel
theorem dX9_cheapestStep_14 : decode cX9_cheapestStep 14 = .ok (.iload_n 1, 1) := by decide +kernel
theorem dX9_cheapestStep_15 : decode cX9_cheapestStep 15 = .ok (.if_icmp .eq 28, 3) := by decide +kernel
theorem dX9_cheapestStep_18 : decode cX9_cheapestStep 18 = .ok (.aload_n 0, 1) := by decide +kernel
theorem dX9_cheapestStep_19 : decode cX9_cheapestStep 19 = .ok (.getfield 29, 3) := by decide +kernel
theorem dX9_cheapestStep_22 : decode cX9_cheapestStep 22 = .ok (.iload_n 1, 1) := by decide +kernel
theorem dX9_cheapestStep_23 : decode cX9_cheapestStep 23 = .ok (.iaload, 1) := by decide +kernel
theorem dX9_cheapestStep_24 : decode cX9_cheapestStep 24 = .ok (.iload_n 3, 1) := by decide +kernel
theorem dX9_cheapestStep_25 : decode cX9_cheapestStep 25 = .ok (.ishr, 1) := by decide +kernel
theorem dX9_cheapestStep_26 : decode cX9_cheapestStep 26 = .ok (.iconst 1, 1) := by decide +kernel
theorem dX9_cheapestStep_27 : decode cX9_cheapestStep 27 = .ok (.iand, 1) := by decide +kernel
theorem dX9_cheapestStep_28 : decode cX9_cheapestStep 28 = .ok (.iconst 1, 1) := by decide +kernel
theorem dX9_cheapestStep_29 : decode cX9_cheapestStep 29 = .ok (.if_icmp .ne 14, 3) := by decide +kernel
theorem dX9_cheapestStep_32 : decode cX9_cheapestStep 32 = .ok (.iload_n 2, 1) := by decide +kernel
theorem dX9_cheapestStep_33 : decode cX9_cheapestStep 33 = .ok (.aload_n 0, 1) := by decide +kernel
theorem dX9_cheapestStep_34 : decode cX9_cheapestStep 34 = .ok (.iload_n 1, 1) := by decide +kernel
theorem dX9_cheapestStep_35 : decode cX9_cheapestStep 35 = .ok (.iload_n 3, 1) := by decide +kernel
theorem dX9_cheapestStep_36 : decode cX9_cheapestStep 36 = .ok (.invokevirtual 115, 3) := by decide +kernel
theorem dX9_cheapestStep_39 : decode cX9_cheapestStep 39 = .ok (.invokestatic 92, 3) := by decide +kernel
theorem dX9_cheapestStep_42 : decode cX9_cheapestStep 42 = .ok (.istore_n 2, 1) := by decide +kernel
theorem dX9_cheapestStep_43 : decode cX9_cheapestStep 43 = .ok (.iinc 3 1, 3) := by decide +kernel
theorem dX9_cheapestStep_46 : decode cX9_cheapestStep 46 = .ok (.goto (-41), 3) := by decide +kernel
theorem dX9_cheapestStep_49 : decode cX9_cheapestStep 49 = .ok (.iload_n 2, 1) := by decide +kernel
theorem dX9_cheapestStep_50 : decode cX9_cheapestStep 50 = .ok (.ireturn, 1) := by decide +kernel
theorem dX9_costOver_0 : decode cX9_costOver 0 = .ok (.aload_n 0, 1) := by decide +kernel
theorem dX9_costOver_1 : decode cX9_costOver 1 = .ok (.getfield 35, 3) := by decide +kernel
theorem dX9_costOver_4 : decode cX9_costOver 4 = .ok (.iload_n 2, 1) := by decide +kernel
theorem dX9_costOver_5 : decode cX9_costOver 5 = .ok (.iaload, 1) := by decide +kernel
theorem dX9_costOver_6 : decode cX9_costOver 6 = .ok (.aload_n 0, 1) := by decide +kernel
theorem dX9_costOver_7 : decode cX9_costOver 7 = .ok (.getfield 26, 3) := by decide +kernel
theorem dX9_costOver_10 : decode cX9_costOver 10 = .ok (.iload_n 1, 1) := by decide +kernel
theorem dX9_costOver_11 : decode cX9_costOver 11 = .ok (.bipush 16, 2) := by decide +kernel
theorem dX9_costOver_13 : decode cX9_costOver 13 = .ok (.imul, 1) := by decide +kernel
theorem dX9_costOver_14 : decode cX9_costOver 14 = .ok (.iload_n 2, 1) := by decide +kernel
theorem dX9_costOver_15 : decode cX9_costOver 15 = .ok (.iadd, 1) := by decide +kernel
theorem dX9_costOver_16 : decode cX9_costOver 16 = .ok (.iaload, 1) := by decide +kernel
theorem dX9_costOver_17 : decode cX9_costOver 17 = .ok (.bipush 32, 2) := by decide +kernel
theorem dX9_costOver_19 : decode cX9_costOver 19 = .ok (.imul, 1) := by decide +kernel
theorem dX9_costOver_20 : decode cX9_costOver 20 = .ok (.iadd, 1) := by decide +kernel
theorem dX9_costOver_21 : decode cX9_costOver 21 = .ok (.iconst 1, 1) := by decide +kernel
theorem dX9_costOver_22 : decode cX9_costOver 22 = .ok (.iadd, 1) := by decide +kernel
theorem dX9_costOver_23 : decode cX9_costOver 23 = .ok (.ireturn, 1) := by decide +kernel
theorem dX9_chainLength_0 : decode cX9_chainLength 0 = .ok (.aload_n 0, 1) := by decide +kernel
theorem dX9_chainLength_1 : decode cX9_chainLength 1 = .ok (.getfield 35, 3) := by decide +kernel
theorem dX9_chainLength_4 : decode cX9_chainLength 4 = .ok (.iload_n 1, 1) := by decide +kernel
theorem dX9_chainLength_5 : decode cX9_chainLength 5 = .ok (.iaload, 1) := by decide +kernel
theorem dX9_chainLength_6 : decode cX9_chainLength 6 = .ok (.bipush 32, 2) := by decide +kernel
theorem dX9_chainLength_8 : decode cX9_chainLength 8 = .ok (.irem, 1) := by decide +kernel
theorem dX9_chainLength_9 : decode cX9_chainLength 9 = .ok (.iconst 1, 1) := by decide +kernel
theorem dX9_chainLength_10 : decode cX9_chainLength 10 = .ok (.iadd, 1) := by decide +kernel
theorem dX9_chainLength_11 : decode cX9_chainLength 11 = .ok (.ireturn, 1) := by decide +kernel
theorem dX9_chainSum_0 : decode cX9_chainSum 0 = .ok (.aload_n 0, 1) := by decide +kernel
theorem dX9_chainSum_1 : decode cX9_chainSum 1 = .ok (.getfield 35, 3) := by decide +kernel
theorem dX9_chainSum_4 : decode cX9_chainSum 4 = .ok (.iload_n 1, 1) := by decide +kernel
theorem dX9_chainSum_5 : decode cX9_chainSum 5 = .ok (.iaload, 1) := by decide +kernel
theorem dX9_chainSum_6 : decode cX9_chainSum 6 = .ok (.bipush 32, 2) := by decide +kernel
theorem dX9_chainSum_8 : decode cX9_chainSum 8 = .ok (.idiv, 1) := by decide +kernel
theorem dX9_chainSum_9 : decode cX9_chainSum 9 = .ok (.ireturn, 1) := by decide +kernel
theorem dX9_chainMember_0 : decode cX9_chainMember 0 = .ok (.iload_n 2, 1) := by decide +kernel
theorem dX9_chainMember_1 : decode cX9_chainMember 1 = .ok (.aload_n 0, 1) := by decide +kernel
theorem dX9_chainMember_2 : decode cX9_chainMember 2 = .ok (.iload_n 1, 1) := by decide +kernel
theorem dX9_chainMember_3 : decode cX9_chainMember 3 = .ok (.invokevirtual 118, 3) := by decide +kernel
theorem dX9_chainMember_6 : decode cX9_chainMember 6 = .ok (.if_icmp .lt 6, 3) := by decide +kernel
theorem dX9_chainMember_9 : decode cX9_chainMember 9 = .ok (.bipush (-4), 2) := by decide +kernel
theorem dX9_chainMember_11 : decode cX9_chainMember 11 = .ok (.ireturn, 1) := by decide +kernel
theorem dX9_chainMember_12 : decode cX9_chainMember 12 = .ok (.iload_n 1, 1) := by decide +kernel
theorem dX9_chainMember_13 : decode cX9_chainMember 13 = .ok (.istore_n 3, 1) := by decide +kernel
theorem dX9_chainMember_14 : decode cX9_chainMember 14 = .ok (.iconst 0, 1) := by decide +kernel
theorem dX9_chainMember_15 : decode cX9_chainMember 15 = .ok (.istore 4, 2) := by decide +kernel
theorem dX9_chainMember_17 : decode cX9_chainMember 17 = .ok (.iload 4, 2) := by decide +kernel
theorem dX9_chainMember_19 : decode cX9_chainMember 19 = .ok (.iload_n 2, 1) := by decide +kernel
theorem dX9_chainMember_20 : decode cX9_chainMember 20 = .ok (.if_icmp .ge 15, 3) := by decide +kernel
theorem dX9_chainMember_23 : decode cX9_chainMember 23 = .ok (.aload_n 0, 1) := by decide +kernel
theorem dX9_chainMember_24 : decode cX9_chainMember 24 = .ok (.iload_n 3, 1) := by decide +kernel
theorem dX9_chainMember_25 : decode cX9_chainMember 25 = .ok (.invokevirtual 121, 3) := by decide +kernel
theorem dX9_chainMember_28 : decode cX9_chainMember 28 = .ok (.istore_n 3, 1) := by decide +kernel
theorem dX9_chainMember_29 : decode cX9_chainMember 29 = .ok (.iinc 4 1, 3) := by decide +kernel
theorem dX9_chainMember_32 : decode cX9_chainMember 32 = .ok (.goto (-15), 3) := by decide +kernel
theorem dX9_chainMember_35 : decode cX9_chainMember 35 = .ok (.iload_n 3, 1) := by decide +kernel
theorem dX9_chainMember_36 : decode cX9_chainMember 36 = .ok (.ireturn, 1) := by decide +kernel
theorem dX9_nextOnChain_0 : decode cX9_nextOnChain 0 = .ok (.iconst 0, 1) := by decide +kernel
theorem dX9_nextOnChain_1 : decode cX9_nextOnChain 1 = .ok (.istore_n 2, 1) := by decide +kernel
theorem dX9_nextOnChain_2 : decode cX9_nextOnChain 2 = .ok (.iload_n 2, 1) := by decide +kernel
theorem dX9_nextOnChain_3 : decode cX9_nextOnChain 3 = .ok (.aload_n 0, 1) := by decide +kernel
theorem dX9_nextOnChain_4 : decode cX9_nextOnChain 4 = .ok (.getfield 47, 3) := by decide +kernel
theorem dX9_nextOnChain_7 : decode cX9_nextOnChain 7 = .ok (.if_icmp .ge 45, 3) := by decide +kernel
theorem dX9_nextOnChain_10 : decode cX9_nextOnChain 10 = .ok (.iload_n 2, 1) := by decide +kernel
theorem dX9_nextOnChain_11 : decode cX9_nextOnChain 11 = .ok (.iload_n 1, 1) := by decide +kernel
theorem dX9_nextOnChain_12 : decode cX9_nextOnChain 12 = .ok (.if_icmp .eq 34, 3) := by decide +kernel
theorem dX9_nextOnChain_15 : decode cX9_nextOnChain 15 = .ok (.aload_n 0, 1) := by decide +kernel
theorem dX9_nextOnChain_16 : decode cX9_nextOnChain 16 = .ok (.getfield 29, 3) := by decide +kernel
theorem dX9_nextOnChain_19 : decode cX9_nextOnChain 19 = .ok (.iload_n 1, 1) := by decide +kernel
theorem dX9_nextOnChain_20 : decode cX9_nextOnChain 20 = .ok (.iaload, 1) := by decide +kernel
theorem dX9_nextOnChain_21 : decode cX9_nextOnChain 21 = .ok (.iload_n 2, 1) := by decide +kernel
theorem dX9_nextOnChain_22 : decode cX9_nextOnChain 22 = .ok (.ishr, 1) := by decide +kernel
theorem dX9_nextOnChain_23 : decode cX9_nextOnChain 23 = .ok (.iconst 1, 1) := by decide +kernel
theorem dX9_nextOnChain_24 : decode cX9_nextOnChain 24 = .ok (.iand, 1) := by decide +kernel
theorem dX9_nextOnChain_25 : decode cX9_nextOnChain 25 = .ok (.iconst 1, 1) := by decide +kernel
theorem dX9_nextOnChain_26 : decode cX9_nextOnChain 26 = .ok (.if_icmp .ne 20, 3) := by decide +kernel
theorem dX9_nextOnChain_29 : decode cX9_nextOnChain 29 = .ok (.aload_n 0, 1) := by decide +kernel
theorem dX9_nextOnChain_30 : decode cX9_nextOnChain 30 = .ok (.iload_n 1, 1) := by decide +kernel
theorem dX9_nextOnChain_31 : decode cX9_nextOnChain 31 = .ok (.iload_n 2, 1) := by decide +kernel
theorem dX9_nextOnChain_32 : decode cX9_nextOnChain 32 = .ok (.invokevirtual 115, 3) := by decide +kernel
theorem dX9_nextOnChain_35 : decode cX9_nextOnChain 35 = .ok (.aload_n 0, 1) := by decide +kernel
theorem dX9_nextOnChain_36 : decode cX9_nextOnChain 36 = .ok (.getfield 35, 3) := by decide +kernel
theorem dX9_nextOnChain_39 : decode cX9_nextOnChain 39 = .ok (.iload_n 1, 1) := by decide +kernel
theorem dX9_nextOnChain_40 : decode cX9_nextOnChain 40 = .ok (.iaload, 1) := by decide +kernel
theorem dX9_nextOnChain_41 : decode cX9_nextOnChain 41 = .ok (.if_icmp .ne 5, 3) := by decide +kernel
theorem dX9_nextOnChain_44 : decode cX9_nextOnChain 44 = .ok (.iload_n 2, 1) := by decide +kernel
theorem dX9_nextOnChain_45 : decode cX9_nextOnChain 45 = .ok (.ireturn, 1) := by decide +kernel
theorem dX9_nextOnChain_46 : decode cX9_nextOnChain 46 = .ok (.iinc 2 1, 3) := by decide +kernel
theorem dX9_nextOnChain_49 : decode cX9_nextOnChain 49 = .ok (.goto (-47), 3) := by decide +kernel
theorem dX9_nextOnChain_52 : decode cX9_nextOnChain 52 = .ok (.iload_n 1, 1) := by decide +kernel
theorem dX9_nextOnChain_53 : decode cX9_nextOnChain 53 = .ok (.ireturn, 1) := by decide +kernel
theorem dX10_init_0 : decode cX10_init 0 = .ok (.aload_n 0, 1) := by decide +kernel
theorem dX10_init_1 : decode cX10_init 1 = .ok (.invokespecial 1, 3) := by decide +kernel
theorem dX10_init_4 : decode cX10_init 4 = .ok (.aload_n 0, 1) := by decide +kernel
theorem dX10_init_5 : decode cX10_init 5 = .ok (.new 7, 3) := by decide +kernel
theorem dX10_init_8 : decode cX10_init 8 = .ok (.dup, 1) := by decide +kernel
theorem dX10_init_9 : decode cX10_init 9 = .ok (.invokespecial 9, 3) := by decide +kernel
theorem dX10_init_12 : decode cX10_init 12 = .ok (.putfield 10, 3) := by decide +kernel
theorem dX10_init_15 : decode cX10_init 15 = .ok (.aload_n 0, 1) := by decide +kernel
theorem dX10_init_16 : decode cX10_init 16 = .ok (.new 16, 3) := by decide +kernel
theorem dX10_init_19 : decode cX10_init 19 = .ok (.dup, 1) := by decide +kernel
theorem dX10_init_20 : decode cX10_init 20 = .ok (.aload_n 0, 1) := by decide +kernel
theorem dX10_init_21 : decode cX10_init 21 = .ok (.getfield 10, 3) := by decide +kernel
theorem dX10_init_24 : decode cX10_init 24 = .ok (.invokespecial 18, 3) := by decide +kernel
theorem dX10_init_27 : decode cX10_init 27 = .ok (.putfield 21, 3) := by decide +kernel
theorem dX10_init_30 : decode cX10_init 30 = .ok (.aload_n 0, 1) := by decide +kernel
theorem dX10_init_31 : decode cX10_init 31 = .ok (.new 25, 3) := by decide +kernel
theorem dX10_init_34 : decode cX10_init 34 = .ok (.dup, 1) := by decide +kernel
theorem dX10_init_35 : decode cX10_init 35 = .ok (.invokespecial 27, 3) := by decide +kernel
theorem dX10_init_38 : decode cX10_init 38 = .ok (.putfield 28, 3) := by decide +kernel
theorem dX10_init_41 : decode cX10_init 41 = .ok (.aload_n 0, 1) := by decide +kernel
theorem dX10_init_42 : decode cX10_init 42 = .ok (.new 25, 3) := by decide +kernel
theorem dX10_init_45 : decode cX10_init 45 = .ok (.dup, 1) := by decide +kernel
theorem dX10_init_46 : decode cX10_init 46 = .ok (.invokespecial 27, 3) := by decide +kernel
theorem dX10_init_49 : decode cX10_init 49 = .ok (.putfield 32, 3) := by decide +kernel
theorem dX10_init_52 : decode cX10_init 52 = .ok (.aload_n 0, 1) := by decide +kernel
theorem dX10_init_53 : decode cX10_init 53 = .ok (.new 35, 3) := by decide +kernel
theorem dX10_init_56 : decode cX10_init 56 = .ok (.dup, 1) := by decide +kernel
theorem dX10_init_57 : decode cX10_init 57 = .ok (.aload_n 0, 1) := by decide +kernel
theorem dX10_init_58 : decode cX10_init 58 = .ok (.getfield 28, 3) := by decide +kernel
theorem dX10_init_61 : decode cX10_init 61 = .ok (.invokespecial 37, 3) := by decide +kernel
theorem dX10_init_64 : decode cX10_init 64 = .ok (.putfield 40, 3) := by decide +kernel
theorem dX10_init_67 : decode cX10_init 67 = .ok (.aload_n 0, 1) := by decide +kernel
theorem dX10_init_68 : decode cX10_init 68 = .ok (.new 44, 3) := by decide +kernel
theorem dX10_init_71 : decode cX10_init 71 = .ok (.dup, 1) := by decide +kernel
theorem dX10_init_72 : decode cX10_init 72 = .ok (.invokespecial 46, 3) := by decide +kernel
theorem dX10_init_75 : decode cX10_init 75 = .ok (.putfield 47, 3) := by decide +kernel
theorem dX10_init_78 : decode cX10_init 78 = .ok (.aload_n 0, 1) := by decide +kernel
theorem dX10_init_79 : decode cX10_init 79 = .ok (.new 51, 3) := by decide +kernel
theorem dX10_init_82 : decode cX10_init 82 = .ok (.dup, 1) := by decide +kernel
theorem dX10_init_83 : decode cX10_init 83 = .ok (.aload_n 0, 1) := by decide +kernel
theorem dX10_init_84 : decode cX10_init 84 = .ok (.getfield 40, 3) := by decide +kernel
theorem dX10_init_87 : decode cX10_init 87 = .ok (.aload_n 0, 1) := by decide +kernel
theorem dX10_init_88 : decode cX10_init 88 = .ok (.getfield 47, 3) := by decide +kernel
theorem dX10_init_91 : decode cX10_init 91 = .ok (.invokespecial 53, 3) := by decide +kernel
theorem dX10_init_94 : decode cX10_init 94 = .ok (.putfield 56, 3) := by decide +kernel
theorem dX10_init_97 : decode cX10_init 97 = .ok (.aload_n 0, 1) := by decide +kernel
theorem dX10_init_98 : decode cX10_init 98 = .ok (.new 60, 3) := by decide +kernel
theorem dX10_init_101 : decode cX10_init 101 = .ok (.dup, 1) := by decide +kernel
theorem dX10_init_102 : decode cX10_init 102 = .ok (.aload_n 0, 1) := by decide +kernel
theorem dX10_init_103 : decode cX10_init 103 = .ok (.getfield 56, 3) := by decide +kernel
theorem dX10_init_106 : decode cX10_init 106 = .ok (.aload_n 0, 1) := by decide +kernel
theorem dX10_init_107 : decode cX10_init 107 = .ok (.getfield 47, 3) := by decide +kernel
theorem dX10_init_110 : decode cX10_init 110 = .ok (.invokespecial 62, 3) := by decide +kernel
theorem dX10_init_113 : decode cX10_init 113 = .ok (.putfield 65, 3) := by decide +kernel
theorem dX10_init_116 : decode cX10_init 116 = .ok (.aload_n 0, 1) := by decide +kernel
theorem dX10_init_117 : decode cX10_init 117 = .ok (.new 69, 3) := by decide +kernel
theorem dX10_init_120 : decode cX10_init 120 = .ok (.dup, 1) := by decide +kernel
theorem dX10_init_121 : decode cX10_init 121 = .ok (.invokespecial 71, 3) := by decide +kernel
theorem dX10_init_124 : decode cX10_init 124 = .ok (.putfield 72, 3) := by decide +kernel
theorem dX10_init_127 : decode cX10_init 127 = .ok (.aload_n 0, 1) := by decide +kernel
theorem dX10_init_128 : decode cX10_init 128 = .ok (.iconst 4, 1) := by decide +kernel
theorem dX10_init_129 : decode cX10_init 129 = .ok (.anewarray 76, 3) := by decide +kernel
theorem dX10_init_132 : decode cX10_init 132 = .ok (.putfield 78, 3) := by decide +kernel
theorem dX10_init_135 : decode cX10_init 135 = .ok (.iconst 0, 1) := by decide +kernel
theorem dX10_init_136 : decode cX10_init 136 = .ok (.istore_n 1, 1) := by decide +kernel
theorem dX10_init_137 : decode cX10_init 137 = .ok (.iload_n 1, 1) := by decide +kernel
theorem dX10_init_138 : decode cX10_init 138 = .ok (.aload_n 0, 1) := by decide +kernel
theorem dX10_init_139 : decode cX10_init 139 = .ok (.getfield 78, 3) := by decide +kernel
theorem dX10_init_142 : decode cX10_init 142 = .ok (.arraylength, 1) := by decide +kernel
theorem dX10_init_143 : decode cX10_init 143 = .ok (.if_icmp .ge 22, 3) := by decide +kernel
theorem dX10_init_146 : decode cX10_init 146 = .ok (.aload_n 0, 1) := by decide +kernel
theorem dX10_init_147 : decode cX10_init 147 = .ok (.getfield 78, 3) := by decide +kernel
theorem dX10_init_150 : decode cX10_init 150 = .ok (.iload_n 1, 1) := by decide +kernel
theorem dX10_init_151 : decode cX10_init 151 = .ok (.new 76, 3) := by decide +kernel
theorem dX10_init_154 : decode cX10_init 154 = .ok (.dup, 1) := by decide +kernel
theorem dX10_init_155 : decode cX10_init 155 = .ok (.invokespecial 82, 3) := by decide +kernel
theorem dX10_init_158 : decode cX10_init 158 = .ok (.aastore, 1) := by decide +kernel
theorem dX10_init_159 : decode cX10_init 159 = .ok (.iinc 1 1, 3) := by decide +kernel
theorem dX10_init_162 : decode cX10_init 162 = .ok (.goto (-25), 3) := by decide +kernel
theorem dX10_init_165 : decode cX10_init 165 = .ok (.return_, 1) := by decide +kernel
theorem dX10_spelling_0 : decode cX10_spelling 0 = .ok (.lload_n 1, 1) := by decide +kernel
theorem dX10_spelling_1 : decode cX10_spelling 1 = .ok (.invokestatic 83, 3) := by decide +kernel
theorem dX10_spelling_4 : decode cX10_spelling 4 = .ok (.ifCond .eq 14, 3) := by decide +kernel
theorem dX10_spelling_7 : decode cX10_spelling 7 = .ok (.aload_n 0, 1) := by decide +kernel
theorem dX10_spelling_8 : decode cX10_spelling 8 = .ok (.getfield 40, 3) := by decide +kernel
theorem dX10_spelling_11 : decode cX10_spelling 11 = .ok (.lload_n 1, 1) := by decide +kernel
theorem dX10_spelling_12 : decode cX10_spelling 12 = .ok (.invokevirtual 87, 3) := by decide +kernel
theorem dX10_spelling_15 : decode cX10_spelling 15 = .ok (.ifCond .eq 5, 3) := by decide +kernel
theorem dX10_spelling_18 : decode cX10_spelling 18 = .ok (.iconst (-1), 1) := by decide +kernel
theorem dX10_spelling_19 : decode cX10_spelling 19 = .ok (.ireturn, 1) := by decide +kernel
theorem dX10_spelling_20 : decode cX10_spelling 20 = .ok (.aload_n 0, 1) := by decide +kernel
theorem dX10_spelling_21 : decode cX10_spelling 21 = .ok (.getfield 40, 3) := by decide +kernel
theorem dX10_spelling_24 : decode cX10_spelling 24 = .ok (.lload_n 1, 1) := by decide +kernel
theorem dX10_spelling_25 : decode cX10_spelling 25 = .ok (.invokevirtual 90, 3) := by decide +kernel
theorem dX10_spelling_28 : decode cX10_spelling 28 = .ok (.ireturn, 1) := by decide +kernel
theorem dX10_letters_0 : decode cX10_letters 0 = .ok (.aload_n 0, 1) := by decide +kernel
theorem dX10_letters_1 : decode cX10_letters 1 = .ok (.getfield 40, 3) := by decide +kernel
theorem dX10_letters_4 : decode cX10_letters 4 = .ok (.iload_n 1, 1) := by decide +kernel
theorem dX10_letters_5 : decode cX10_letters 5 = .ok (.invokevirtual 94, 3) := by decide +kernel
theorem dX10_letters_8 : decode cX10_letters 8 = .ok (.ifCond .eq 15, 3) := by decide +kernel
theorem dX10_letters_11 : decode cX10_letters 11 = .ok (.aload_n 0, 1) := by decide +kernel
theorem dX10_letters_12 : decode cX10_letters 12 = .ok (.getfield 40, 3) := by decide +kernel
theorem dX10_letters_15 : decode cX10_letters 15 = .ok (.getfield 98, 3) := by decide +kernel
theorem dX10_letters_18 : decode cX10_letters 18 = .ok (.iload_n 1, 1) := by decide +kernel
theorem dX10_letters_19 : decode cX10_letters 19 = .ok (.laload, 1) := by decide +kernel
theorem dX10_letters_20 : decode cX10_letters 20 = .ok (.goto 6, 3) := by decide +kernel
theorem dX10_letters_23 : decode cX10_letters 23 = .ok (.ldc2_w 102, 3) := by decide +kernel
theorem dX10_letters_26 : decode cX10_letters 26 = .ok (.lreturn, 1) := by decide +kernel
theorem dX10_feed_0 : decode cX10_feed 0 = .ok (.aload_n 0, 1) := by decide +kernel
theorem dX10_feed_1 : decode cX10_feed 1 = .ok (.getfield 10, 3) := by decide +kernel
theorem dX10_feed_4 : decode cX10_feed 4 = .ok (.lload_n 1, 1) := by decide +kernel
theorem dX10_feed_5 : decode cX10_feed 5 = .ok (.invokevirtual 104, 3) := by decide +kernel
theorem dX10_feed_8 : decode cX10_feed 8 = .ok (.ifCond .eq 13, 3) := by decide +kernel
theorem dX10_feed_11 : decode cX10_feed 11 = .ok (.aload_n 0, 1) := by decide +kernel
theorem dX10_feed_12 : decode cX10_feed 12 = .ok (.getfield 10, 3) := by decide +kernel
theorem dX10_feed_15 : decode cX10_feed 15 = .ok (.getfield 106, 3) := by decide +kernel
theorem dX10_feed_18 : decode cX10_feed 18 = .ok (.goto 5, 3) := by decide +kernel
theorem dX10_feed_21 : decode cX10_feed 21 = .ok (.bipush (-3), 2) := by decide +kernel
theorem dX10_feed_23 : decode cX10_feed 23 = .ok (.ireturn, 1) := by decide +kernel
theorem dX10_end_0 : decode cX10_end 0 = .ok (.iload_n 1, 1) := by decide +kernel
theorem dX10_end_1 : decode cX10_end 1 = .ok (.ifCond .lt 14, 3) := by decide +kernel
theorem dX10_end_4 : decode cX10_end 4 = .ok (.iload_n 1, 1) := by decide +kernel
theorem dX10_end_5 : decode cX10_end 5 = .ok (.aload_n 0, 1) := by decide +kernel
theorem dX10_end_6 : decode cX10_end 6 = .ok (.getfield 10, 3) := by decide +kernel
theorem dX10_end_9 : decode cX10_end 9 = .ok (.getfield 106, 3) := by decide +kernel
theorem dX10_end_12 : decode cX10_end 12 = .ok (.if_icmp .le 5, 3) := by decide +kernel
theorem dX10_end_15 : decode cX10_end 15 = .ok (.iconst (-1), 1) := by decide +kernel
theorem dX10_end_16 : decode cX10_end 16 = .ok (.ireturn, 1) := by decide +kernel
theorem dX10_end_17 : decode cX10_end 17 = .ok (.aload_n 0, 1) := by decide +kernel
theorem dX10_end_18 : decode cX10_end 18 = .ok (.getfield 10, 3) := by decide +kernel
theorem dX10_end_21 : decode cX10_end 21 = .ok (.getfield 106, 3) := by decide +kernel
theorem dX10_end_24 : decode cX10_end 24 = .ok (.istore_n 2, 1) := by decide +kernel
theorem dX10_end_25 : decode cX10_end 25 = .ok (.aload_n 0, 1) := by decide +kernel
theorem dX10_end_26 : decode cX10_end 26 = .ok (.getfield 10, 3) := by decide +kernel
theorem dX10_end_29 : decode cX10_end 29 = .ok (.iload_n 1, 1) := by decide +kernel
theorem dX10_end_30 : decode cX10_end 30 = .ok (.putfield 106, 3) := by decide +kernel
theorem dX10_end_33 : decode cX10_end 33 = .ok (.iload_n 2, 1) := by decide +kernel
theorem dX10_end_34 : decode cX10_end 34 = .ok (.ireturn, 1) := by decide +kernel
theorem dX10_rules_0 : decode cX10_rules 0 = .ok (.aload_n 0, 1) := by decide +kernel
theorem dX10_rules_1 : decode cX10_rules 1 = .ok (.getfield 21, 3) := by decide +kernel
theorem dX10_rules_4 : decode cX10_rules 4 = .ok (.aload_n 0, 1) := by decide +kernel
theorem dX10_rules_5 : decode cX10_rules 5 = .ok (.getfield 32, 3) := by decide +kernel
theorem dX10_rules_8 : decode cX10_rules 8 = .ok (.invokevirtual 110, 3) := by decide +kernel
theorem dX10_rules_11 : decode cX10_rules 11 = .ok (.istore_n 1, 1) := by decide +kernel
theorem dX10_rules_12 : decode cX10_rules 12 = .ok (.aload_n 0, 1) := by decide +kernel
theorem dX10_rules_13 : decode cX10_rules 13 = .ok (.getfield 10, 3) := by decide +kernel
theorem dX10_rules_16 : decode cX10_rules 16 = .ok (.iconst 0, 1) := by decide +kernel
theorem dX10_rules_17 : decode cX10_rules 17 = .ok (.putfield 106, 3) := by decide +kernel
theorem dX10_rules_20 : decode cX10_rules 20 = .ok (.aload_n 0, 1) := by decide +kernel
theorem dX10_rules_21 : decode cX10_rules 21 = .ok (.aload_n 0, 1) := by decide +kernel
theorem dX10_rules_22 : decode cX10_rules 22 = .ok (.getfield 21, 3) := by decide +kernel
theorem dX10_rules_25 : decode cX10_rules 25 = .ok (.getfield 114, 3) := by decide +kernel
theorem dX10_rules_28 : decode cX10_rules 28 = .ok (.putfield 117, 3) := by decide +kernel
theorem dX10_rules_31 : decode cX10_rules 31 = .ok (.aload_n 0, 1) := by decide +kernel
theorem dX10_rules_32 : decode cX10_rules 32 = .ok (.getfield 117, 3) := by decide +kernel
theorem dX10_rules_35 : decode cX10_rules 35 = .ok (.ifCond .eq 14, 3) := by decide +kernel
theorem dX10_rules_38 : decode cX10_rules 38 = .ok (.bipush (-10), 2) := by decide +kernel
theorem dX10_rules_40 : decode cX10_rules 40 = .ok (.aload_n 0, 1) := by decide +kernel
theorem dX10_rules_41 : decode cX10_rules 41 = .ok (.getfield 21, 3) := by decide +kernel
theorem dX10_rules_44 : decode cX10_rules 44 = .ok (.getfield 120, 3) := by decide +kernel
theorem dX10_rules_47 : decode cX10_rules 47 = .ok (.isub, 1) := by decide +kernel
theorem dX10_rules_48 : decode cX10_rules 48 = .ok (.ireturn, 1) := by decide +kernel
theorem dX10_rules_49 : decode cX10_rules 49 = .ok (.aload_n 0, 1) := by decide +kernel
theorem dX10_rules_50 : decode cX10_rules 50 = .ok (.getfield 28, 3) := by decide +kernel
theorem dX10_rules_53 : decode cX10_rules 53 = .ok (.astore_n 2, 1) := by decide +kernel
theorem dX10_rules_54 : decode cX10_rules 54 = .ok (.aload_n 0, 1) := by decide +kernel
theorem dX10_rules_55 : decode cX10_rules 55 = .ok (.aload_n 0, 1) := by decide +kernel
theorem dX10_rules_56 : decode cX10_rules 56 = .ok (.getfield 32, 3) := by decide +kernel
theorem dX10_rules_59 : decode cX10_rules 59 = .ok (.putfield 28, 3) := by decide +kernel
theorem dX10_rules_62 : decode cX10_rules 62 = .ok (.aload_n 0, 1) := by decide +kernel
theorem dX10_rules_63 : decode cX10_rules 63 = .ok (.aload_n 2, 1) := by decide +kernel
theorem dX10_rules_64 : decode cX10_rules 64 = .ok (.putfield 32, 3) := by decide +kernel
theorem dX10_rules_67 : decode cX10_rules 67 = .ok (.aload_n 0, 1) := by decide +kernel
theorem dX10_rules_68 : decode cX10_rules 68 = .ok (.getfield 40, 3) := by decide +kernel
theorem dX10_rules_71 : decode cX10_rules 71 = .ok (.aload_n 0, 1) := by decide +kernel
theorem dX10_rules_72 : decode cX10_rules 72 = .ok (.getfield 28, 3) := by decide +kernel
theorem dX10_rules_75 : decode cX10_rules 75 = .ok (.invokevirtual 123, 3) := by decide +kernel
theorem dX10_rules_78 : decode cX10_rules 78 = .ok (.iload_n 1, 1) := by decide +kernel
theorem dX10_rules_79 : decode cX10_rules 79 = .ok (.ireturn, 1) := by decide +kernel
theorem dX10_fault_0 : decode cX10_fault 0 = .ok (.aload_n 0, 1) := by decide +kernel
theorem dX10_fault_1 : decode cX10_fault 1 = .ok (.getfield 117, 3) := by decide +kernel
theorem dX10_fault_4 : decode cX10_fault 4 = .ok (.ireturn, 1) := by decide +kernel
theorem dX10_rule_0 : decode cX10_rule 0 = .ok (.iload_n 1, 1) := by decide +kernel
theorem dX10_rule_1 : decode cX10_rule 1 = .ok (.ifCond .lt 9, 3) := by decide +kernel
theorem dX10_rule_4 : decode cX10_rule 4 = .ok (.iload_n 1, 1) := by decide +kernel
theorem dX10_rule_5 : decode cX10_rule 5 = .ok (.bipush 9, 2) := by decide +kernel
theorem dX10_rule_7 : decode cX10_rule 7 = .ok (.if_icmp .le 5, 3) := by decide +kernel
theorem dX10_rule_10 : decode cX10_rule 10 = .ok (.iconst (-1), 1) := by decide +kernel
theorem dX10_rule_11 : decode cX10_rule 11 = .ok (.ireturn, 1) := by decide +kernel
theorem dX10_rule_12 : decode cX10_rule 12 = .ok (.iload_n 1, 1) := by decide +kernel
theorem dX10_rule_13 : decode cX10_rule 13 = .ok (.bipush 8, 2) := by decide +kernel
theorem dX10_rule_15 : decode cX10_rule 15 = .ok (.if_icmp .ge 13, 3) := by decide +kernel
theorem dX10_rule_18 : decode cX10_rule 18 = .ok (.aload_n 0, 1) := by decide +kernel
theorem dX10_rule_19 : decode cX10_rule 19 = .ok (.getfield 28, 3) := by decide +kernel
theorem dX10_rule_22 : decode cX10_rule 22 = .ok (.getfield 126, 3) := by decide +kernel
theorem dX10_rule_25 : decode cX10_rule 25 = .ok (.iload_n 1, 1) := by decide +kernel
theorem dX10_rule_26 : decode cX10_rule 26 = .ok (.iaload, 1) := by decide +kernel
theorem dX10_rule_27 : decode cX10_rule 27 = .ok (.ireturn, 1) := by decide +kernel
theorem dX10_rule_28 : decode cX10_rule 28 = .ok (.iload_n 1, 1) := by decide +kernel
theorem dX10_rule_29 : decode cX10_rule 29 = .ok (.bipush 8, 2) := by decide +kernel
theorem dX10_rule_31 : decode cX10_rule 31 = .ok (.if_icmp .ne 13, 3) := by decide +kernel
theorem dX10_rule_34 : decode cX10_rule 34 = .ok (.aload_n 0, 1) := by decide +kernel
theorem dX10_rule_35 : decode cX10_rule 35 = .ok (.getfield 28, 3) := by decide +kernel
theorem dX10_rule_38 : decode cX10_rule 38 = .ok (.getfield 130, 3) := by decide +kernel
theorem dX10_rule_41 : decode cX10_rule 41 = .ok (.goto 10, 3) := by decide +kernel
theorem dX10_rule_44 : decode cX10_rule 44 = .ok (.aload_n 0, 1) := by decide +kernel
theorem dX10_rule_45 : decode cX10_rule 45 = .ok (.getfield 28, 3) := by decide +kernel
theorem dX10_rule_48 : decode cX10_rule 48 = .ok (.getfield 133, 3) := by decide +kernel
theorem dX10_rule_51 : decode cX10_rule 51 = .ok (.ireturn, 1) := by decide +kernel
theorem dX10_sound_0 : decode cX10_sound 0 = .ok (.aload_n 0, 1) := by decide +kernel
theorem dX10_sound_1 : decode cX10_sound 1 = .ok (.getfield 40, 3) := by decide +kernel
theorem dX10_sound_4 : decode cX10_sound 4 = .ok (.iload_n 1, 1) := by decide +kernel
theorem dX10_sound_5 : decode cX10_sound 5 = .ok (.invokevirtual 94, 3) := by decide +kernel
theorem dX10_sound_8 : decode cX10_sound 8 = .ok (.ifCond .eq 14, 3) := by decide +kernel
theorem dX10_sound_11 : decode cX10_sound 11 = .ok (.aload_n 0, 1) := by decide +kernel
theorem dX10_sound_12 : decode cX10_sound 12 = .ok (.getfield 40, 3) := by decide +kernel
theorem dX10_sound_15 : decode cX10_sound 15 = .ok (.iload_n 1, 1) := by decide +kernel
theorem dX10_sound_16 : decode cX10_sound 16 = .ok (.invokevirtual 136, 3) := by decide +kernel
theorem dX10_sound_19 : decode cX10_sound 19 = .ok (.goto 6, 3) := by decide +kernel
theorem dX10_sound_22 : decode cX10_sound 22 = .ok (.ldc2_w 102, 3) := by decide +kernel
theorem dX10_sound_25 : decode cX10_sound 25 = .ok (.lreturn, 1) := by decide +kernel
theorem dX10_sounds_0 : decode cX10_sounds 0 = .ok (.aload_n 0, 1) := by decide +kernel
theorem dX10_sounds_1 : decode cX10_sounds 1 = .ok (.getfield 40, 3) := by decide +kernel
theorem dX10_sounds_4 : decode cX10_sounds 4 = .ok (.iload_n 1, 1) := by decide +kernel
theorem dX10_sounds_5 : decode cX10_sounds 5 = .ok (.invokevirtual 94, 3) := by decide +kernel
theorem dX10_sounds_8 : decode cX10_sounds 8 = .ok (.ifCond .eq 15, 3) := by decide +kernel
theorem dX10_sounds_11 : decode cX10_sounds 11 = .ok (.aload_n 0, 1) := by decide +kernel
theorem dX10_sounds_12 : decode cX10_sounds 12 = .ok (.getfield 40, 3) := by decide +kernel
theorem dX10_sounds_15 : decode cX10_sounds 15 = .ok (.getfield 140, 3) := by decide +kernel
theorem dX10_sounds_18 : decode cX10_sounds 18 = .ok (.iload_n 1, 1) := by decide +kernel
theorem dX10_sounds_19 : decode cX10_sounds 19 = .ok (.iaload, 1) := by decide +kernel
theorem dX10_sounds_20 : decode cX10_sounds 20 = .ok (.goto 4, 3) := by decide +kernel
theorem dX10_sounds_23 : decode cX10_sounds 23 = .ok (.iconst (-1), 1) := by decide +kernel
theorem dX10_sounds_24 : decode cX10_sounds 24 = .ok (.ireturn, 1) := by decide +kernel
theorem dX10_apart_0 : decode cX10_apart 0 = .ok (.aload_n 0, 1) := by decide +kernel
theorem dX10_apart_1 : decode cX10_apart 1 = .ok (.getfield 40, 3) := by decide +kernel
theorem dX10_apart_4 : decode cX10_apart 4 = .ok (.iload_n 1, 1) := by decide +kernel
theorem dX10_apart_5 : decode cX10_apart 5 = .ok (.invokevirtual 94, 3) := by decide +kernel
theorem dX10_apart_8 : decode cX10_apart 8 = .ok (.ifCond .eq 26, 3) := by decide +kernel
theorem dX10_apart_11 : decode cX10_apart 11 = .ok (.aload_n 0, 1) := by decide +kernel
theorem dX10_apart_12 : decode cX10_apart 12 = .ok (.getfield 40, 3) := by decide +kernel
theorem dX10_apart_15 : decode cX10_apart 15 = .ok (.iload_n 2, 1) := by decide +kernel
theorem dX10_apart_16 : decode cX10_apart 16 = .ok (.invokevirtual 94, 3) := by decide +kernel
theorem dX10_apart_19 : decode cX10_apart 19 = .ok (.ifCond .eq 15, 3) := by decide +kernel
theorem dX10_apart_22 : decode cX10_apart 22 = .ok (.aload_n 0, 1) := by decide +kernel
theorem dX10_apart_23 : decode cX10_apart 23 = .ok (.getfield 40, 3) := by decide +kernel
theorem dX10_apart_26 : decode cX10_apart 26 = .ok (.iload_n 1, 1) := by decide +kernel
theorem dX10_apart_27 : decode cX10_apart 27 = .ok (.iload_n 2, 1) := by decide +kernel
theorem dX10_apart_28 : decode cX10_apart 28 = .ok (.invokevirtual 143, 3) := by decide +kernel
theorem dX10_apart_31 : decode cX10_apart 31 = .ok (.goto 4, 3) := by decide +kernel
theorem dX10_apart_34 : decode cX10_apart 34 = .ok (.iconst (-1), 1) := by decide +kernel
theorem dX10_apart_35 : decode cX10_apart 35 = .ok (.ireturn, 1) := by decide +kernel
theorem dX10_name_0 : decode cX10_name 0 = .ok (.aload_n 0, 1) := by decide +kernel
theorem dX10_name_1 : decode cX10_name 1 = .ok (.getfield 40, 3) := by decide +kernel
theorem dX10_name_4 : decode cX10_name 4 = .ok (.iload_n 1, 1) := by decide +kernel
theorem dX10_name_5 : decode cX10_name 5 = .ok (.invokevirtual 94, 3) := by decide +kernel
theorem dX10_name_8 : decode cX10_name 8 = .ok (.ifCond .eq 15, 3) := by decide +kernel
theorem dX10_name_11 : decode cX10_name 11 = .ok (.aload_n 0, 1) := by decide +kernel
theorem dX10_name_12 : decode cX10_name 12 = .ok (.getfield 40, 3) := by decide +kernel
theorem dX10_name_15 : decode cX10_name 15 = .ok (.getfield 147, 3) := by decide +kernel
theorem dX10_name_18 : decode cX10_name 18 = .ok (.iload_n 1, 1) := by decide +kernel
theorem dX10_name_19 : decode cX10_name 19 = .ok (.iaload, 1) := by decide +kernel
theorem dX10_name_20 : decode cX10_name 20 = .ok (.goto 4, 3) := by decide +kernel
theorem dX10_name_23 : decode cX10_name 23 = .ok (.iconst (-1), 1) := by decide +kernel
theorem dX10_name_24 : decode cX10_name 24 = .ok (.ireturn, 1) := by decide +kernel
theorem dX10_chain_0 : decode cX10_chain 0 = .ok (.iload_n 3, 1) := by decide +kernel
theorem dX10_chain_1 : decode cX10_chain 1 = .ok (.bipush 10, 2) := by decide +kernel
theorem dX10_chain_3 : decode cX10_chain 3 = .ok (.if_icmp .lt 13, 3) := by decide +kernel
theorem dX10_chain_6 : decode cX10_chain 6 = .ok (.iload_n 3, 1) := by decide +kernel
theorem dX10_chain_7 : decode cX10_chain 7 = .ok (.bipush 26, 2) := by decide +kernel
theorem dX10_chain_9 : decode cX10_chain 9 = .ok (.if_icmp .ge 7, 3) := by decide +kernel
theorem dX10_chain_12 : decode cX10_chain 12 = .ok (.iconst 1, 1) := by decide +kernel
theorem dX10_chain_13 : decode cX10_chain 13 = .ok (.goto 4, 3) := by decide +kernel
theorem dX10_chain_16 : decode cX10_chain 16 = .ok (.iconst 0, 1) := by decide +kernel
theorem dX10_chain_17 : decode cX10_chain 17 = .ok (.istore 4, 2) := by decide +kernel
theorem dX10_chain_19 : decode cX10_chain 19 = .ok (.aload_n 0, 1) := by decide +kernel
theorem dX10_chain_20 : decode cX10_chain 20 = .ok (.getfield 40, 3) := by decide +kernel
theorem dX10_chain_23 : decode cX10_chain 23 = .ok (.iload_n 1, 1) := by decide +kernel
theorem dX10_chain_24 : decode cX10_chain 24 = .ok (.invokevirtual 94, 3) := by decide +kernel
theorem dX10_chain_27 : decode cX10_chain 27 = .ok (.ifCond .eq 28, 3) := by decide +kernel
theorem dX10_chain_30 : decode cX10_chain 30 = .ok (.aload_n 0, 1) := by decide +kernel
theorem dX10_chain_31 : decode cX10_chain 31 = .ok (.getfield 40, 3) := by decide +kernel
theorem dX10_chain_34 : decode cX10_chain 34 = .ok (.iload_n 2, 1) := by decide +kernel
theorem dX10_chain_35 : decode cX10_chain 35 = .ok (.invokevirtual 94, 3) := by decide +kernel
theorem dX10_chain_38 : decode cX10_chain 38 = .ok (.ifCond .eq 17, 3) := by decide +kernel
theorem dX10_chain_41 : decode cX10_chain 41 = .ok (.iload_n 3, 1) := by decide +kernel
theorem dX10_chain_42 : decode cX10_chain 42 = .ok (.ifCond .eq 15, 3) := by decide +kernel
theorem dX10_chain_45 : decode cX10_chain 45 = .ok (.iload_n 3, 1) := by decide +kernel
theorem dX10_chain_46 : decode cX10_chain 46 = .ok (.iconst 1, 1) := by decide +kernel
theorem dX10_chain_47 : decode cX10_chain 47 = .ok (.if_icmp .eq 10, 3) := by decide +kernel
theorem dX10_chain_50 : decode cX10_chain 50 = .ok (.iload 4, 2) := by decide +kernel
theorem dX10_chain_52 : decode cX10_chain 52 = .ok (.ifCond .ne 5, 3) := by decide +kernel
theorem dX10_chain_55 : decode cX10_chain 55 = .ok (.iconst (-1), 1) := by decide +kernel
theorem dX10_chain_56 : decode cX10_chain 56 = .ok (.ireturn, 1) := by decide +kernel
theorem dX10_chain_57 : decode cX10_chain 57 = .ok (.aload_n 0, 1) := by decide +kernel
theorem dX10_chain_58 : decode cX10_chain 58 = .ok (.getfield 40, 3) := by decide +kernel
theorem dX10_chain_61 : decode cX10_chain 61 = .ok (.getfield 147, 3) := by decide +kernel
theorem dX10_chain_64 : decode cX10_chain 64 = .ok (.iload_n 1, 1) := by decide +kernel
theorem dX10_chain_65 : decode cX10_chain 65 = .ok (.iaload, 1) := by decide +kernel
theorem dX10_chain_66 : decode cX10_chain 66 = .ok (.aload_n 0, 1) := by decide +kernel
theorem dX10_chain_67 : decode cX10_chain 67 = .ok (.getfield 40, 3) := by decide +kernel
theorem dX10_chain_70 : decode cX10_chain 70 = .ok (.getfield 147, 3) := by decide +kernel
theorem dX10_chain_73 : decode cX10_chain 73 = .ok (.iload_n 2, 1) := by decide +kernel
theorem dX10_chain_74 : decode cX10_chain 74 = .ok (.iaload, 1) := by decide +kernel
theorem dX10_chain_75 : decode cX10_chain 75 = .ok (.if_icmp .eq 6, 3) := by decide +kernel
theorem dX10_chain_78 : decode cX10_chain 78 = .ok (.bipush (-4), 2) := by decide +kernel
theorem dX10_chain_80 : decode cX10_chain 80 = .ok (.ireturn, 1) := by decide +kernel
theorem dX10_chain_81 : decode cX10_chain 81 = .ok (.aload_n 0, 1) := by decide +kernel
theorem dX10_chain_82 : decode cX10_chain 82 = .ok (.getfield 40, 3) := by decide +kernel
theorem dX10_chain_85 : decode cX10_chain 85 = .ok (.iload_n 2, 1) := by decide +kernel
theorem dX10_chain_86 : decode cX10_chain 86 = .ok (.invokevirtual 150, 3) := by decide +kernel
theorem dX10_chain_89 : decode cX10_chain 89 = .ok (.iload 4, 2) := by decide +kernel
theorem dX10_chain_91 : decode cX10_chain 91 = .ok (.ifCond .eq 16, 3) := by decide +kernel
theorem dX10_chain_94 : decode cX10_chain 94 = .ok (.aload_n 0, 1) := by decide +kernel
theorem dX10_chain_95 : decode cX10_chain 95 = .ok (.getfield 40, 3) := by decide +kernel
theorem dX10_chain_98 : decode cX10_chain 98 = .ok (.iload_n 1, 1) := by decide +kernel
theorem dX10_chain_99 : decode cX10_chain 99 = .ok (.iload_n 3, 1) := by decide +kernel
theorem dX10_chain_100 : decode cX10_chain 100 = .ok (.bipush 10, 2) := by decide +kernel
theorem dX10_chain_102 : decode cX10_chain 102 = .ok (.isub, 1) := by decide +kernel
theorem dX10_chain_103 : decode cX10_chain 103 = .ok (.invokevirtual 154, 3) := by decide +kernel
theorem dX10_chain_106 : decode cX10_chain 106 = .ok (.ireturn, 1) := by decide +kernel
theorem dX10_chain_107 : decode cX10_chain 107 = .ok (.iload_n 3, 1) := by decide +kernel
theorem dX10_chain_108 : decode cX10_chain 108 = .ok (.ifCond .ne 14, 3) := by decide +kernel
theorem dX10_chain_111 : decode cX10_chain 111 = .ok (.aload_n 0, 1) := by decide +kernel
theorem dX10_chain_112 : decode cX10_chain 112 = .ok (.getfield 40, 3) := by decide +kernel
theorem dX10_chain_115 : decode cX10_chain 115 = .ok (.iload_n 1, 1) := by decide +kernel
theorem dX10_chain_116 : decode cX10_chain 116 = .ok (.invokevirtual 157, 3) := by decide +kernel
theorem dX10_chain_119 : decode cX10_chain 119 = .ok (.goto 11, 3) := by decide +kernel
theorem dX10_chain_122 : decode cX10_chain 122 = .ok (.aload_n 0, 1) := by decide +kernel
theorem dX10_chain_123 : decode cX10_chain 123 = .ok (.getfield 40, 3) := by decide +kernel
theorem dX10_chain_126 : decode cX10_chain 126 = .ok (.iload_n 1, 1) := by decide +kernel
theorem dX10_chain_127 : decode cX10_chain 127 = .ok (.invokevirtual 161, 3) := by decide +kernel
theorem dX10_chain_130 : decode cX10_chain 130 = .ok (.ireturn, 1) := by decide +kernel
theorem dX10_standing_0 : decode cX10_standing 0 = .ok (.iload_n 1, 1) := by decide +kernel
theorem dX10_standing_1 : decode cX10_standing 1 = .ok (.ifCond .lt 8, 3) := by decide +kernel
theorem dX10_standing_4 : decode cX10_standing 4 = .ok (.iload_n 1, 1) := by decide +kernel
theorem dX10_standing_5 : decode cX10_standing 5 = .ok (.iconst 2, 1) := by decide +kernel
theorem dX10_standing_6 : decode cX10_standing 6 = .ok (.if_icmp .le 5, 3) := by decide +kernel
theorem dX10_standing_9 : decode cX10_standing 9 = .ok (.iconst (-1), 1) := by decide +kernel
theorem dX10_standing_10 : decode cX10_standing 10 = .ok (.ireturn, 1) := by decide +kernel
theorem dX10_standing_11 : decode cX10_standing 11 = .ok (.iload_n 1, 1) := by decide +kernel
theorem dX10_standing_12 : decode cX10_standing 12 = .ok (.iconst 2, 1) := by decide +kernel
theorem dX10_standing_13 : decode cX10_standing 13 = .ok (.if_icmp .ne 11, 3) := by decide +kernel
theorem dX10_standing_16 : decode cX10_standing 16 = .ok (.aload_n 0, 1) := by decide +kernel
theorem dX10_standing_17 : decode cX10_standing 17 = .ok (.getfield 40, 3) := by decide +kernel
theorem dX10_standing_20 : decode cX10_standing 20 = .ok (.invokevirtual 164, 3) := by decide +kernel
theorem dX10_standing_23 : decode cX10_standing 23 = .ok (.ireturn, 1) := by decide +kernel
theorem dX10_standing_24 : decode cX10_standing 24 = .ok (.aload_n 0, 1) := by decide +kernel
theorem dX10_standing_25 : decode cX10_standing 25 = .ok (.getfield 40, 3) := by decide +kernel
theorem dX10_standing_28 : decode cX10_standing 28 = .ok (.getfield 168, 3) := by decide +kernel
theorem dX10_standing_31 : decode cX10_standing 31 = .ok (.aload_n 0, 1) := by decide +kernel
theorem dX10_standing_32 : decode cX10_standing 32 = .ok (.getfield 40, 3) := by decide +kernel
theorem dX10_standing_35 : decode cX10_standing 35 = .ok (.getfield 171, 3) := by decide +kernel
theorem dX10_standing_38 : decode cX10_standing 38 = .ok (.invokestatic 174, 3) := by decide +kernel
theorem dX10_standing_41 : decode cX10_standing 41 = .ok (.istore_n 2, 1) := by decide +kernel
theorem dX10_standing_42 : decode cX10_standing 42 = .ok (.iload_n 1, 1) := by decide +kernel
theorem dX10_standing_43 : decode cX10_standing 43 = .ok (.ifCond .ne 10, 3) := by decide +kernel
theorem dX10_standing_46 : decode cX10_standing 46 = .ok (.iload_n 2, 1) := by decide +kernel
theorem dX10_standing_47 : decode cX10_standing 47 = .ok (.invokestatic 180, 3) := by decide +kernel
theorem dX10_standing_50 : decode cX10_standing 50 = .ok (.goto 4, 3) := by decide +kernel
theorem dX10_standing_53 : decode cX10_standing 53 = .ok (.iload_n 2, 1) := by decide +kernel
theorem dX10_standing_54 : decode cX10_standing 54 = .ok (.ireturn, 1) := by decide +kernel
theorem dX10_place_0 : decode cX10_place 0 = .ok (.iload_n 1, 1) := by decide +kernel
theorem dX10_place_1 : decode cX10_place 1 = .ok (.ifCond .lt 19, 3) := by decide +kernel
theorem dX10_place_4 : decode cX10_place 4 = .ok (.iload_n 1, 1) := by decide +kernel
theorem dX10_place_5 : decode cX10_place 5 = .ok (.bipush 99, 2) := by decide +kernel
theorem dX10_place_7 : decode cX10_place 7 = .ok (.if_icmp .gt 13, 3) := by decide +kernel
theorem dX10_place_10 : decode cX10_place 10 = .ok (.iload_n 2, 1) := by decide +kernel
theorem dX10_place_11 : decode cX10_place 11 = .ok (.ifCond .lt 9, 3) := by decide +kernel
theorem dX10_place_14 : decode cX10_place 14 = .ok (.iload_n 2, 1) := by decide +kernel
theorem dX10_place_15 : decode cX10_place 15 = .ok (.bipush 99, 2) := by decide +kernel
theorem dX10_place_17 : decode cX10_place 17 = .ok (.if_icmp .le 5, 3) := by decide +kernel
theorem dX10_place_20 : decode cX10_place 20 = .ok (.iconst (-1), 1) := by decide +kernel
theorem dX10_place_21 : decode cX10_place 21 = .ok (.ireturn, 1) := by decide +kernel
theorem dX10_place_22 : decode cX10_place 22 = .ok (.aload_n 0, 1) := by decide +kernel
theorem dX10_place_23 : decode cX10_place 23 = .ok (.getfield 47, 3) := by decide +kernel
theorem dX10_place_26 : decode cX10_place 26 = .ok (.iload_n 1, 1) := by decide +kernel
theorem dX10_place_27 : decode cX10_place 27 = .ok (.iload_n 2, 1) := by decide +kernel
theorem dX10_place_28 : decode cX10_place 28 = .ok (.invokevirtual 185, 3) := by decide +kernel
theorem dX10_place_31 : decode cX10_place 31 = .ok (.ireturn, 1) := by decide +kernel
theorem dX10_book_0 : decode cX10_book 0 = .ok (.aload_n 0, 1) := by decide +kernel
theorem dX10_book_1 : decode cX10_book 1 = .ok (.getfield 47, 3) := by decide +kernel
theorem dX10_book_4 : decode cX10_book 4 = .ok (.iload_n 1, 1) := by decide +kernel
theorem dX10_book_5 : decode cX10_book 5 = .ok (.invokevirtual 188, 3) := by decide +kernel
theorem dX10_book_8 : decode cX10_book 8 = .ok (.ifCond .eq 19, 3) := by decide +kernel
theorem dX10_book_11 : decode cX10_book 11 = .ok (.iload_n 2, 1) := by decide +kernel
theorem dX10_book_12 : decode cX10_book 12 = .ok (.iload_n 3, 1) := by decide +kernel
theorem dX10_book_13 : decode cX10_book 13 = .ok (.invokestatic 191, 3) := by decide +kernel
theorem dX10_book_16 : decode cX10_book 16 = .ok (.ifCond .eq 11, 3) := by decide +kernel
theorem dX10_book_19 : decode cX10_book 19 = .ok (.iload_n 3, 1) := by decide +kernel
theorem dX10_book_20 : decode cX10_book 20 = .ok (.iload_n 2, 1) := by decide +kernel
theorem dX10_book_21 : decode cX10_book 21 = .ok (.isub, 1) := by decide +kernel
theorem dX10_book_22 : decode cX10_book 22 = .ok (.bipush 64, 2) := by decide +kernel
theorem dX10_book_24 : decode cX10_book 24 = .ok (.if_icmp .lt 5, 3) := by decide +kernel
theorem dX10_book_27 : decode cX10_book 27 = .ok (.iconst (-1), 1) := by decide +kernel
theorem dX10_book_28 : decode cX10_book 28 = .ok (.ireturn, 1) := by decide +kernel
theorem dX10_book_29 : decode cX10_book 29 = .ok (.aload_n 0, 1) := by decide +kernel
theorem dX10_book_30 : decode cX10_book 30 = .ok (.getfield 47, 3) := by decide +kernel
theorem dX10_book_33 : decode cX10_book 33 = .ok (.iload_n 1, 1) := by decide +kernel
theorem dX10_book_34 : decode cX10_book 34 = .ok (.iload_n 2, 1) := by decide +kernel
theorem dX10_book_35 : decode cX10_book 35 = .ok (.iload_n 3, 1) := by decide +kernel
theorem dX10_book_36 : decode cX10_book 36 = .ok (.invokevirtual 195, 3) := by decide +kernel
theorem dX10_book_39 : decode cX10_book 39 = .ok (.ireturn, 1) := by decide +kernel
theorem dX10_hole_0 : decode cX10_hole 0 = .ok (.aload_n 0, 1) := by decide +kernel
theorem dX10_hole_1 : decode cX10_hole 1 = .ok (.getfield 47, 3) := by decide +kernel
theorem dX10_hole_4 : decode cX10_hole 4 = .ok (.iload_n 1, 1) := by decide +kernel
theorem dX10_hole_5 : decode cX10_hole 5 = .ok (.invokevirtual 198, 3) := by decide +kernel
theorem dX10_hole_8 : decode cX10_hole 8 = .ok (.ifCond .eq 15, 3) := by decide +kernel
theorem dX10_hole_11 : decode cX10_hole 11 = .ok (.aload_n 0, 1) := by decide +kernel
theorem dX10_hole_12 : decode cX10_hole 12 = .ok (.getfield 47, 3) := by decide +kernel
theorem dX10_hole_15 : decode cX10_hole 15 = .ok (.iload_n 1, 1) := by decide +kernel
theorem dX10_hole_16 : decode cX10_hole 16 = .ok (.iload_n 2, 1) := by decide +kernel
theorem dX10_hole_17 : decode cX10_hole 17 = .ok (.invokevirtual 199, 3) := by decide +kernel
theorem dX10_hole_20 : decode cX10_hole 20 = .ok (.ifCond .ne 5, 3) := by decide +kernel
theorem dX10_hole_23 : decode cX10_hole 23 = .ok (.iconst (-1), 1) := by decide +kernel
theorem dX10_hole_24 : decode cX10_hole 24 = .ok (.ireturn, 1) := by decide +kernel
theorem dX10_hole_25 : decode cX10_hole 25 = .ok (.aload_n 0, 1) := by decide +kernel
theorem dX10_hole_26 : decode cX10_hole 26 = .ok (.getfield 56, 3) := by decide +kernel
theorem dX10_hole_29 : decode cX10_hole 29 = .ok (.iload_n 1, 1) := by decide +kernel
theorem dX10_hole_30 : decode cX10_hole 30 = .ok (.iload_n 2, 1) := by decide +kernel
theorem dX10_hole_31 : decode cX10_hole 31 = .ok (.invokevirtual 202, 3) := by decide +kernel
theorem dX10_hole_34 : decode cX10_hole 34 = .ok (.ifCond .eq 6, 3) := by decide +kernel
theorem dX10_hole_37 : decode cX10_hole 37 = .ok (.bipush (-2), 2) := by decide +kernel
theorem dX10_hole_39 : decode cX10_hole 39 = .ok (.ireturn, 1) := by decide +kernel
theorem dX10_hole_40 : decode cX10_hole 40 = .ok (.aload_n 0, 1) := by decide +kernel
theorem dX10_hole_41 : decode cX10_hole 41 = .ok (.getfield 47, 3) := by decide +kernel
theorem dX10_hole_44 : decode cX10_hole 44 = .ok (.iload_n 1, 1) := by decide +kernel
theorem dX10_hole_45 : decode cX10_hole 45 = .ok (.iload_n 2, 1) := by decide +kernel
theorem dX10_hole_46 : decode cX10_hole 46 = .ok (.invokevirtual 205, 3) := by decide +kernel
theorem dX10_hole_49 : decode cX10_hole 49 = .ok (.istore 4, 2) := by decide +kernel
theorem dX10_hole_51 : decode cX10_hole 51 = .ok (.aload_n 0, 1) := by decide +kernel
theorem dX10_hole_52 : decode cX10_hole 52 = .ok (.getfield 47, 3) := by decide +kernel
theorem dX10_hole_55 : decode cX10_hole 55 = .ok (.iload_n 1, 1) := by decide +kernel
theorem dX10_hole_56 : decode cX10_hole 56 = .ok (.iload_n 2, 1) := by decide +kernel
theorem dX10_hole_57 : decode cX10_hole 57 = .ok (.iload_n 3, 1) := by decide +kernel
theorem dX10_hole_58 : decode cX10_hole 58 = .ok (.invokevirtual 208, 3) := by decide +kernel
theorem dX10_hole_61 : decode cX10_hole 61 = .ok (.iload 4, 2) := by decide +kernel
theorem dX10_hole_63 : decode cX10_hole 63 = .ok (.ifCond .eq 7, 3) := by decide +kernel
theorem dX10_hole_66 : decode cX10_hole 66 = .ok (.iconst 1, 1) := by decide +kernel
theorem dX10_hole_67 : decode cX10_hole 67 = .ok (.goto 4, 3) := by decide +kernel
theorem dX10_hole_70 : decode cX10_hole 70 = .ok (.iconst 0, 1) := by decide +kernel
theorem dX10_hole_71 : decode cX10_hole 71 = .ok (.ireturn, 1) := by decide +kernel
theorem dX10_bookOf_0 : decode cX10_bookOf 0 = .ok (.aload_n 0, 1) := by decide +kernel
theorem dX10_bookOf_1 : decode cX10_bookOf 1 = .ok (.getfield 47, 3) := by decide +kernel
theorem dX10_bookOf_4 : decode cX10_bookOf 4 = .ok (.iload_n 1, 1) := by decide +kernel
theorem dX10_bookOf_5 : decode cX10_bookOf 5 = .ok (.invokevirtual 198, 3) := by decide +kernel
theorem dX10_bookOf_8 : decode cX10_bookOf 8 = .ok (.ifCond .ne 5, 3) := by decide +kernel
theorem dX10_bookOf_11 : decode cX10_bookOf 11 = .ok (.iconst (-1), 1) := by decide +kernel
theorem dX10_bookOf_12 : decode cX10_bookOf 12 = .ok (.ireturn, 1) := by decide +kernel
theorem dX10_bookOf_13 : decode cX10_bookOf 13 = .ok (.iload_n 2, 1) := by decide +kernel
theorem dX10_bookOf_14 : decode cX10_bookOf 14 = .ok (.tableswitch 99 0 5 #[38, 48, 58, 68, 81, 90], 38) := by decide +kernel
theorem dX10_bookOf_52 : decode cX10_bookOf 52 = .ok (.aload_n 0, 1) := by decide +kernel
theorem dX10_bookOf_53 : decode cX10_bookOf 53 = .ok (.getfield 47, 3) := by decide +kernel
theorem dX10_bookOf_56 : decode cX10_bookOf 56 = .ok (.getfield 212, 3) := by decide +kernel
theorem dX10_bookOf_59 : decode cX10_bookOf 59 = .ok (.iload_n 1, 1) := by decide +kernel
theorem dX10_bookOf_60 : decode cX10_bookOf 60 = .ok (.iaload, 1) := by decide +kernel
theorem dX10_bookOf_61 : decode cX10_bookOf 61 = .ok (.ireturn, 1) := by decide +kernel
theorem dX10_bookOf_62 : decode cX10_bookOf 62 = .ok (.aload_n 0, 1) := by decide +kernel
theorem dX10_bookOf_63 : decode cX10_bookOf 63 = .ok (.getfield 47, 3) := by decide +kernel
theorem dX10_bookOf_66 : decode cX10_bookOf 66 = .ok (.getfield 215, 3) := by decide +kernel
theorem dX10_bookOf_69 : decode cX10_bookOf 69 = .ok (.iload_n 1, 1) := by decide +kernel
theorem dX10_bookOf_70 : decode cX10_bookOf 70 = .ok (.iaload, 1) := by decide +kernel
theorem dX10_bookOf_71 : decode cX10_bookOf 71 = .ok (.ireturn, 1) := by decide +kernel
theorem dX10_bookOf_72 : decode cX10_bookOf 72 = .ok (.aload_n 0, 1) := by decide +kernel
theorem dX10_bookOf_73 : decode cX10_bookOf 73 = .ok (.getfield 47, 3) := by decide +kernel
theorem dX10_bookOf_76 : decode cX10_bookOf 76 = .ok (.getfield 218, 3) := by decide +kernel
theorem dX10_bookOf_79 : decode cX10_bookOf 79 = .ok (.iload_n 1, 1) := by decide +kernel
theorem dX10_bookOf_80 : decode cX10_bookOf 80 = .ok (.iaload, 1) := by decide +kernel
theorem dX10_bookOf_81 : decode cX10_bookOf 81 = .ok (.ireturn, 1) := by decide +kernel
theorem dX10_bookOf_82 : decode cX10_bookOf 82 = .ok (.aload_n 0, 1) := by decide +kernel
theorem dX10_bookOf_83 : decode cX10_bookOf 83 = .ok (.getfield 47, 3) := by decide +kernel
theorem dX10_bookOf_86 : decode cX10_bookOf 86 = .ok (.getfield 221, 3) := by decide +kernel
theorem dX10_bookOf_89 : decode cX10_bookOf 89 = .ok (.iload_n 1, 1) := by decide +kernel
theorem dX10_bookOf_90 : decode cX10_bookOf 90 = .ok (.laload, 1) := by decide +kernel
theorem dX10_bookOf_91 : decode cX10_bookOf 91 = .ok (.invokestatic 224, 3) := by decide +kernel
theorem dX10_bookOf_94 : decode cX10_bookOf 94 = .ok (.ireturn, 1) := by decide +kernel
theorem dX10_bookOf_95 : decode cX10_bookOf 95 = .ok (.aload_n 0, 1) := by decide +kernel
theorem dX10_bookOf_96 : decode cX10_bookOf 96 = .ok (.getfield 56, 3) := by decide +kernel
theorem dX10_bookOf_99 : decode cX10_bookOf 99 = .ok (.iload_n 1, 1) := by decide +kernel
theorem dX10_bookOf_100 : decode cX10_bookOf 100 = .ok (.invokevirtual 228, 3) := by decide +kernel
theorem dX10_bookOf_103 : decode cX10_bookOf 103 = .ok (.ireturn, 1) := by decide +kernel
theorem dX10_bookOf_104 : decode cX10_bookOf 104 = .ok (.aload_n 0, 1) := by decide +kernel
theorem dX10_bookOf_105 : decode cX10_bookOf 105 = .ok (.getfield 47, 3) := by decide +kernel
theorem dX10_bookOf_108 : decode cX10_bookOf 108 = .ok (.iload_n 1, 1) := by decide +kernel
theorem dX10_bookOf_109 : decode cX10_bookOf 109 = .ok (.invokevirtual 231, 3) := by decide +kernel
theorem dX10_bookOf_112 : decode cX10_bookOf 112 = .ok (.ireturn, 1) := by decide +kernel
theorem dX10_bookOf_113 : decode cX10_bookOf 113 = .ok (.iconst (-1), 1) := by decide +kernel
theorem dX10_bookOf_114 : decode cX10_bookOf 114 = .ok (.ireturn, 1) := by decide +kernel
theorem dX10_line_0 : decode cX10_line 0 = .ok (.aload_n 0, 1) := by decide +kernel
theorem dX10_line_1 : decode cX10_line 1 = .ok (.getfield 47, 3) := by decide +kernel
theorem dX10_line_4 : decode cX10_line 4 = .ok (.iload_n 1, 1) := by decide +kernel
theorem dX10_line_5 : decode cX10_line 5 = .ok (.invokevirtual 198, 3) := by decide +kernel
theorem dX10_line_8 : decode cX10_line 8 = .ok (.ifCond .eq 34, 3) := by decide +kernel
theorem dX10_line_11 : decode cX10_line 11 = .ok (.aload_n 0, 1) := by decide +kernel
theorem dX10_line_12 : decode cX10_line 12 = .ok (.getfield 47, 3) := by decide +kernel
theorem dX10_line_15 : decode cX10_line 15 = .ok (.iload_n 1, 1) := by decide +kernel
theorem dX10_line_16 : decode cX10_line 16 = .ok (.iload_n 2, 1) := by decide +kernel
theorem dX10_line_17 : decode cX10_line 17 = .ok (.invokevirtual 199, 3) := by decide +kernel
theorem dX10_line_20 : decode cX10_line 20 = .ok (.ifCond .eq 22, 3) := by decide +kernel
theorem dX10_line_23 : decode cX10_line 23 = .ok (.aload_n 0, 1) := by decide +kernel
theorem dX10_line_24 : decode cX10_line 24 = .ok (.getfield 40, 3) := by decide +kernel
theorem dX10_line_27 : decode cX10_line 27 = .ok (.iload_n 3, 1) := by decide +kernel
theorem dX10_line_28 : decode cX10_line 28 = .ok (.invokevirtual 94, 3) := by decide +kernel
theorem dX10_line_31 : decode cX10_line 31 = .ok (.ifCond .eq 11, 3) := by decide +kernel
theorem dX10_line_34 : decode cX10_line 34 = .ok (.iload 4, 2) := by decide +kernel
theorem dX10_line_36 : decode cX10_line 36 = .ok (.invokestatic 234, 3) := by decide +kernel
theorem dX10_line_39 : decode cX10_line 39 = .ok (.ifCond .ne 5, 3) := by decide +kernel
theorem dX10_line_42 : decode cX10_line 42 = .ok (.iconst (-1), 1) := by decide +kernel
theorem dX10_line_43 : decode cX10_line 43 = .ok (.ireturn, 1) := by decide +kernel
theorem dX10_line_44 : decode cX10_line 44 = .ok (.aload_n 0, 1) := by decide +kernel
theorem dX10_line_45 : decode cX10_line 45 = .ok (.getfield 47, 3) := by decide +kernel
theorem dX10_line_48 : decode cX10_line 48 = .ok (.iload_n 1, 1) := by decide +kernel
theorem dX10_line_49 : decode cX10_line 49 = .ok (.iload_n 2, 1) := by decide +kernel
theorem dX10_line_50 : decode cX10_line 50 = .ok (.invokevirtual 205, 3) := by decide +kernel
theorem dX10_line_53 : decode cX10_line 53 = .ok (.ifCond .eq 6, 3) := by decide +kernel
theorem dX10_line_56 : decode cX10_line 56 = .ok (.bipush (-2), 2) := by decide +kernel
theorem dX10_line_58 : decode cX10_line 58 = .ok (.ireturn, 1) := by decide +kernel
theorem dX10_line_59 : decode cX10_line 59 = .ok (.aload_n 0, 1) := by decide +kernel
theorem dX10_line_60 : decode cX10_line 60 = .ok (.getfield 56, 3) := by decide +kernel
theorem dX10_line_63 : decode cX10_line 63 = .ok (.iload_n 1, 1) := by decide +kernel
theorem dX10_line_64 : decode cX10_line 64 = .ok (.iload_n 2, 1) := by decide +kernel
theorem dX10_line_65 : decode cX10_line 65 = .ok (.iload_n 3, 1) := by decide +kernel
theorem dX10_line_66 : decode cX10_line 66 = .ok (.iload 4, 2) := by decide +kernel
theorem dX10_line_68 : decode cX10_line 68 = .ok (.aload_n 0, 1) := by decide +kernel
theorem dX10_line_69 : decode cX10_line 69 = .ok (.getfield 237, 3) := by decide +kernel
theorem dX10_line_72 : decode cX10_line 72 = .ok (.invokevirtual 240, 3) := by decide +kernel
theorem dX10_line_75 : decode cX10_line 75 = .ok (.ireturn, 1) := by decide +kernel
theorem dX10_day_0 : decode cX10_day 0 = .ok (.iload_n 1, 1) := by decide +kernel
theorem dX10_day_1 : decode cX10_day 1 = .ok (.aload_n 0, 1) := by decide +kernel
theorem dX10_day_2 : decode cX10_day 2 = .ok (.getfield 237, 3) := by decide +kernel
theorem dX10_day_5 : decode cX10_day 5 = .ok (.if_icmp .lt 10, 3) := by decide +kernel
theorem dX10_day_8 : decode cX10_day 8 = .ok (.iload_n 1, 1) := by decide +kernel
theorem dX10_day_9 : decode cX10_day 9 = .ok (.sipush 999, 3) := by decide +kernel
theorem dX10_day_12 : decode cX10_day 12 = .ok (.if_icmp .le 5, 3) := by decide +kernel
theorem dX10_day_15 : decode cX10_day 15 = .ok (.iconst (-1), 1) := by decide +kernel
theorem dX10_day_16 : decode cX10_day 16 = .ok (.ireturn, 1) := by decide +kernel
theorem dX10_day_17 : decode cX10_day 17 = .ok (.aload_n 0, 1) := by decide +kernel
theorem dX10_day_18 : decode cX10_day 18 = .ok (.getfield 237, 3) := by decide +kernel
theorem dX10_day_21 : decode cX10_day 21 = .ok (.istore_n 2, 1) := by decide +kernel
theorem dX10_day_22 : decode cX10_day 22 = .ok (.aload_n 0, 1) := by decide +kernel
theorem dX10_day_23 : decode cX10_day 23 = .ok (.iload_n 1, 1) := by decide +kernel
theorem dX10_day_24 : decode cX10_day 24 = .ok (.putfield 237, 3) := by decide +kernel
theorem dX10_day_27 : decode cX10_day 27 = .ok (.iload_n 2, 1) := by decide +kernel
theorem dX10_day_28 : decode cX10_day 28 = .ok (.ireturn, 1) := by decide +kernel
theorem dX10_again_0 : decode cX10_again 0 = .ok (.aload_n 0, 1) := by decide +kernel
theorem dX10_again_1 : decode cX10_again 1 = .ok (.getfield 56, 3) := by decide +kernel
theorem dX10_again_4 : decode cX10_again 4 = .ok (.iload_n 1, 1) := by decide +kernel
theorem dX10_again_5 : decode cX10_again 5 = .ok (.invokevirtual 243, 3) := by decide +kernel
theorem dX10_again_8 : decode cX10_again 8 = .ok (.ifCond .eq 14, 3) := by decide +kernel
theorem dX10_again_11 : decode cX10_again 11 = .ok (.aload_n 0, 1) := by decide +kernel
theorem dX10_again_12 : decode cX10_again 12 = .ok (.getfield 40, 3) := by decide +kernel
theorem dX10_again_15 : decode cX10_again 15 = .ok (.iload_n 2, 1) := by decide +kernel
theorem dX10_again_16 : decode cX10_again 16 = .ok (.invokevirtual 94, 3) := by decide +kernel
theorem dX10_again_19 : decode cX10_again 19 = .ok (.ifCond .ne 5, 3) := by decide +kernel
theorem dX10_again_22 : decode cX10_again 22 = .ok (.iconst (-1), 1) := by decide +kernel
theorem dX10_again_23 : decode cX10_again 23 = .ok (.ireturn, 1) := by decide +kernel
theorem dX10_again_24 : decode cX10_again 24 = .ok (.aload_n 0, 1) := by decide +kernel
theorem dX10_again_25 : decode cX10_again 25 = .ok (.getfield 56, 3) := by decide +kernel
theorem dX10_again_28 : decode cX10_again 28 = .ok (.getfield 244, 3) := by decide +kernel
theorem dX10_again_31 : decode cX10_again 31 = .ok (.iload_n 1, 1) := by decide +kernel
theorem dX10_again_32 : decode cX10_again 32 = .ok (.iaload, 1) := by decide +kernel
theorem dX10_again_33 : decode cX10_again 33 = .ok (.iload_n 2, 1) := by decide +kernel
theorem dX10_again_34 : decode cX10_again 34 = .ok (.if_icmp .ne 6, 3) := by decide +kernel
theorem dX10_again_37 : decode cX10_again 37 = .ok (.bipush (-2), 2) := by decide +kernel
theorem dX10_again_39 : decode cX10_again 39 = .ok (.ireturn, 1) := by decide +kernel
theorem dX10_again_40 : decode cX10_again 40 = .ok (.aload_n 0, 1) := by decide +kernel
theorem dX10_again_41 : decode cX10_again 41 = .ok (.getfield 56, 3) := by decide +kernel
theorem dX10_again_44 : decode cX10_again 44 = .ok (.iload_n 1, 1) := by decide +kernel
theorem dX10_again_45 : decode cX10_again 45 = .ok (.iload_n 2, 1) := by decide +kernel
theorem dX10_again_46 : decode cX10_again 46 = .ok (.aload_n 0, 1) := by decide +kernel
theorem dX10_again_47 : decode cX10_again 47 = .ok (.getfield 237, 3) := by decide +kernel
theorem dX10_again_50 : decode cX10_again 50 = .ok (.invokevirtual 247, 3) := by decide +kernel
theorem dX10_again_53 : decode cX10_again 53 = .ok (.ireturn, 1) := by decide +kernel
theorem dX10_lineOf_0 : decode cX10_lineOf 0 = .ok (.aload_n 0, 1) := by decide +kernel
theorem dX10_lineOf_1 : decode cX10_lineOf 1 = .ok (.getfield 56, 3) := by decide +kernel
theorem dX10_lineOf_4 : decode cX10_lineOf 4 = .ok (.iload_n 1, 1) := by decide +kernel
theorem dX10_lineOf_5 : decode cX10_lineOf 5 = .ok (.invokevirtual 243, 3) := by decide +kernel
theorem dX10_lineOf_8 : decode cX10_lineOf 8 = .ok (.ifCond .ne 5, 3) := by decide +kernel
theorem dX10_lineOf_11 : decode cX10_lineOf 11 = .ok (.iconst (-1), 1) := by decide +kernel
theorem dX10_lineOf_12 : decode cX10_lineOf 12 = .ok (.ireturn, 1) := by decide +kernel
theorem dX10_lineOf_13 : decode cX10_lineOf 13 = .ok (.iload_n 2, 1) := by decide +kernel
theorem dX10_lineOf_14 : decode cX10_lineOf 14 = .ok (.tableswitch 125 0 7 #[46, 56, 66, 76, 86, 95, 105, 115], 46) := by decide +kernel
theorem dX10_lineOf_60 : decode cX10_lineOf 60 = .ok (.aload_n 0, 1) := by decide +kernel
theorem dX10_lineOf_61 : decode cX10_lineOf 61 = .ok (.getfield 56, 3) := by decide +kernel
theorem dX10_lineOf_64 : decode cX10_lineOf 64 = .ok (.getfield 250, 3) := by decide +kernel
theorem dX10_lineOf_67 : decode cX10_lineOf 67 = .ok (.iload_n 1, 1) := by decide +kernel
theorem dX10_lineOf_68 : decode cX10_lineOf 68 = .ok (.iaload, 1) := by decide +kernel
theorem dX10_lineOf_69 : decode cX10_lineOf 69 = .ok (.ireturn, 1) := by decide +kernel
theorem dX10_lineOf_70 : decode cX10_lineOf 70 = .ok (.aload_n 0, 1) := by decide +kernel
theorem dX10_lineOf_71 : decode cX10_lineOf 71 = .ok (.getfield 56, 3) := by decide +kernel
theorem dX10_lineOf_74 : decode cX10_lineOf 74 = .ok (.getfield 253, 3) := by decide +kernel
theorem dX10_lineOf_77 : decode cX10_lineOf 77 = .ok (.iload_n 1, 1) := by decide +kernel
theorem dX10_lineOf_78 : decode cX10_lineOf 78 = .ok (.iaload, 1) := by decide +kernel
theorem dX10_lineOf_79 : decode cX10_lineOf 79 = .ok (.ireturn, 1) := by decide +kernel
theorem dX10_lineOf_80 : decode cX10_lineOf 80 = .ok (.aload_n 0, 1) := by decide +kernel
theorem dX10_lineOf_81 : decode cX10_lineOf 81 = .ok (.getfield 56, 3) := by decide +kernel
theorem dX10_lineOf_84 : decode cX10_lineOf 84 = .ok (.getfield 244, 3) := by decide +kernel
theorem dX10_lineOf_87 : decode cX10_lineOf 87 = .ok (.iload_n 1, 1) := by decide +kernel
theorem dX10_lineOf_88 : decode cX10_lineOf 88 = .ok (.iaload, 1) := by decide +kernel
theorem dX10_lineOf_89 : decode cX10_lineOf 89 = .ok (.ireturn, 1) := by decide +kernel
theorem dX10_lineOf_90 : decode cX10_lineOf 90 = .ok (.aload_n 0, 1) := by decide +kernel
theorem dX10_lineOf_91 : decode cX10_lineOf 91 = .ok (.getfield 56, 3) := by decide +kernel
theorem dX10_lineOf_94 : decode cX10_lineOf 94 = .ok (.getfield 256, 3) := by decide +kernel
theorem dX10_lineOf_97 : decode cX10_lineOf 97 = .ok (.iload_n 1, 1) := by decide +kernel
theorem dX10_lineOf_98 : decode cX10_lineOf 98 = .ok (.iaload, 1) := by decide +kernel
theorem dX10_lineOf_99 : decode cX10_lineOf 99 = .ok (.ireturn, 1) := by decide +kernel
theorem dX10_lineOf_100 : decode cX10_lineOf 100 = .ok (.aload_n 0, 1) := by decide +kernel
theorem dX10_lineOf_101 : decode cX10_lineOf 101 = .ok (.getfield 56, 3) := by decide +kernel
theorem dX10_lineOf_104 : decode cX10_lineOf 104 = .ok (.iload_n 1, 1) := by decide +kernel
theorem dX10_lineOf_105 : decode cX10_lineOf 105 = .ok (.invokevirtual 259, 3) := by decide +kernel
theorem dX10_lineOf_108 : decode cX10_lineOf 108 = .ok (.ireturn, 1) := by decide +kernel
theorem dX10_lineOf_109 : decode cX10_lineOf 109 = .ok (.aload_n 0, 1) := by decide +kernel
theorem dX10_lineOf_110 : decode cX10_lineOf 110 = .ok (.getfield 56, 3) := by decide +kernel
theorem dX10_lineOf_113 : decode cX10_lineOf 113 = .ok (.getfield 262, 3) := by decide +kernel
theorem dX10_lineOf_116 : decode cX10_lineOf 116 = .ok (.iload_n 1, 1) := by decide +kernel
theorem dX10_lineOf_117 : decode cX10_lineOf 117 = .ok (.iaload, 1) := by decide +kernel
theorem dX10_lineOf_118 : decode cX10_lineOf 118 = .ok (.ireturn, 1) := by decide +kernel
theorem dX10_lineOf_119 : decode cX10_lineOf 119 = .ok (.aload_n 0, 1) := by decide +kernel
theorem dX10_lineOf_120 : decode cX10_lineOf 120 = .ok (.getfield 56, 3) := by decide +kernel
theorem dX10_lineOf_123 : decode cX10_lineOf 123 = .ok (.getfield 265, 3) := by decide +kernel
theorem dX10_lineOf_126 : decode cX10_lineOf 126 = .ok (.iload_n 1, 1) := by decide +kernel
theorem dX10_lineOf_127 : decode cX10_lineOf 127 = .ok (.iaload, 1) := by decide +kernel
theorem dX10_lineOf_128 : decode cX10_lineOf 128 = .ok (.ireturn, 1) := by decide +kernel
theorem dX10_lineOf_129 : decode cX10_lineOf 129 = .ok (.aload_n 0, 1) := by decide +kernel
theorem dX10_lineOf_130 : decode cX10_lineOf 130 = .ok (.getfield 56, 3) := by decide +kernel
theorem dX10_lineOf_133 : decode cX10_lineOf 133 = .ok (.getfield 268, 3) := by decide +kernel
theorem dX10_lineOf_136 : decode cX10_lineOf 136 = .ok (.iload_n 1, 1) := by decide +kernel
theorem dX10_lineOf_137 : decode cX10_lineOf 137 = .ok (.iaload, 1) := by decide +kernel
theorem dX10_lineOf_138 : decode cX10_lineOf 138 = .ok (.ireturn, 1) := by decide +kernel
theorem dX10_lineOf_139 : decode cX10_lineOf 139 = .ok (.iconst (-1), 1) := by decide +kernel
theorem dX10_lineOf_140 : decode cX10_lineOf 140 = .ok (.ireturn, 1) := by decide +kernel
theorem dX10_known_0 : decode cX10_known 0 = .ok (.aload_n 0, 1) := by decide +kernel
theorem dX10_known_1 : decode cX10_known 1 = .ok (.getfield 56, 3) := by decide +kernel
theorem dX10_known_4 : decode cX10_known 4 = .ok (.iload_n 1, 1) := by decide +kernel
theorem dX10_known_5 : decode cX10_known 5 = .ok (.invokevirtual 243, 3) := by decide +kernel
theorem dX10_known_8 : decode cX10_known 8 = .ok (.ifCond .eq 26, 3) := by decide +kernel
theorem dX10_known_11 : decode cX10_known 11 = .ok (.iload_n 2, 1) := by decide +kernel
theorem dX10_known_12 : decode cX10_known 12 = .ok (.ifCond .lt 22, 3) := by decide +kernel
theorem dX10_known_15 : decode cX10_known 15 = .ok (.iload_n 2, 1) := by decide +kernel
theorem dX10_known_16 : decode cX10_known 16 = .ok (.sipush 999, 3) := by decide +kernel
theorem dX10_known_19 : decode cX10_known 19 = .ok (.if_icmp .gt 15, 3) := by decide +kernel
theorem dX10_known_22 : decode cX10_known 22 = .ok (.aload_n 0, 1) := by decide +kernel
theorem dX10_known_23 : decode cX10_known 23 = .ok (.getfield 56, 3) := by decide +kernel
theorem dX10_known_26 : decode cX10_known 26 = .ok (.iload_n 1, 1) := by decide +kernel
theorem dX10_known_27 : decode cX10_known 27 = .ok (.iload_n 2, 1) := by decide +kernel
theorem dX10_known_28 : decode cX10_known 28 = .ok (.invokevirtual 271, 3) := by decide +kernel
theorem dX10_known_31 : decode cX10_known 31 = .ok (.goto 4, 3) := by decide +kernel
theorem dX10_known_34 : decode cX10_known 34 = .ok (.iconst (-1), 1) := by decide +kernel
theorem dX10_known_35 : decode cX10_known 35 = .ok (.ireturn, 1) := by decide +kernel
theorem dX10_bearers_0 : decode cX10_bearers 0 = .ok (.iload 5, 2) := by decide +kernel
theorem dX10_bearers_2 : decode cX10_bearers 2 = .ok (.ifCond .lt 13, 3) := by decide +kernel
theorem dX10_bearers_5 : decode cX10_bearers 5 = .ok (.iload 5, 2) := by decide +kernel
theorem dX10_bearers_7 : decode cX10_bearers 7 = .ok (.iconst 2, 1) := by decide +kernel
theorem dX10_bearers_8 : decode cX10_bearers 8 = .ok (.if_icmp .gt 7, 3) := by decide +kernel
theorem dX10_bearers_11 : decode cX10_bearers 11 = .ok (.iconst 1, 1) := by decide +kernel
theorem dX10_bearers_12 : decode cX10_bearers 12 = .ok (.goto 4, 3) := by decide +kernel
theorem dX10_bearers_15 : decode cX10_bearers 15 = .ok (.iconst 0, 1) := by decide +kernel
theorem dX10_bearers_16 : decode cX10_bearers 16 = .ok (.istore 6, 2) := by decide +kernel
theorem dX10_bearers_18 : decode cX10_bearers 18 = .ok (.aload_n 0, 1) := by decide +kernel
theorem dX10_bearers_19 : decode cX10_bearers 19 = .ok (.getfield 40, 3) := by decide +kernel
theorem dX10_bearers_22 : decode cX10_bearers 22 = .ok (.iload_n 1, 1) := by decide +kernel
theorem dX10_bearers_23 : decode cX10_bearers 23 = .ok (.invokevirtual 94, 3) := by decide +kernel
theorem dX10_bearers_26 : decode cX10_bearers 26 = .ok (.ifCond .eq 28, 3) := by decide +kernel
theorem dX10_bearers_29 : decode cX10_bearers 29 = .ok (.aload_n 0, 1) := by decide +kernel
theorem dX10_bearers_30 : decode cX10_bearers 30 = .ok (.getfield 47, 3) := by decide +kernel
theorem dX10_bearers_33 : decode cX10_bearers 33 = .ok (.iload_n 2, 1) := by decide +kernel
theorem dX10_bearers_34 : decode cX10_bearers 34 = .ok (.invokevirtual 188, 3) := by decide +kernel
theorem dX10_bearers_37 : decode cX10_bearers 37 = .ok (.ifCond .eq 17, 3) := by decide +kernel
theorem dX10_bearers_40 : decode cX10_bearers 40 = .ok (.iload_n 3, 1) := by decide +kernel
theorem dX10_bearers_41 : decode cX10_bearers 41 = .ok (.iload 4, 2) := by decide +kernel
theorem dX10_bearers_43 : decode cX10_bearers 43 = .ok (.invokestatic 191, 3) := by decide +kernel
theorem dX10_bearers_46 : decode cX10_bearers 46 = .ok (.ifCond .eq 8, 3) := by decide +kernel
theorem dX10_bearers_49 : decode cX10_bearers 49 = .ok (.iload 6, 2) := by decide +kernel
theorem dX10_bearers_51 : decode cX10_bearers 51 = .ok (.ifCond .ne 5, 3) := by decide +kernel
theorem dX10_bearers_54 : decode cX10_bearers 54 = .ok (.iconst (-1), 1) := by decide +kernel
theorem dX10_bearers_55 : decode cX10_bearers 55 = .ok (.ireturn, 1) := by decide +kernel
theorem dX10_bearers_56 : decode cX10_bearers 56 = .ok (.aload_n 0, 1) := by decide +kernel
theorem dX10_bearers_57 : decode cX10_bearers 57 = .ok (.getfield 47, 3) := by decide +kernel
theorem dX10_bearers_60 : decode cX10_bearers 60 = .ok (.iload_n 2, 1) := by decide +kernel
theorem dX10_bearers_61 : decode cX10_bearers 61 = .ok (.iload_n 3, 1) := by decide +kernel
theorem dX10_bearers_62 : decode cX10_bearers 62 = .ok (.iload 4, 2) := by decide +kernel
theorem dX10_bearers_64 : decode cX10_bearers 64 = .ok (.invokevirtual 274, 3) := by decide +kernel
theorem dX10_bearers_67 : decode cX10_bearers 67 = .ok (.istore 7, 2) := by decide +kernel
theorem dX10_bearers_69 : decode cX10_bearers 69 = .ok (.iload 5, 2) := by decide +kernel
theorem dX10_bearers_71 : decode cX10_bearers 71 = .ok (.iconst 2, 1) := by decide +kernel
theorem dX10_bearers_72 : decode cX10_bearers 72 = .ok (.if_icmp .ne 6, 3) := by decide +kernel
theorem dX10_bearers_75 : decode cX10_bearers 75 = .ok (.iload 7, 2) := by decide +kernel
theorem dX10_bearers_77 : decode cX10_bearers 77 = .ok (.ireturn, 1) := by decide +kernel
theorem dX10_bearers_78 : decode cX10_bearers 78 = .ok (.aload_n 0, 1) := by decide +kernel
theorem dX10_bearers_79 : decode cX10_bearers 79 = .ok (.getfield 56, 3) := by decide +kernel
theorem dX10_bearers_82 : decode cX10_bearers 82 = .ok (.aload_n 0, 1) := by decide +kernel
theorem dX10_bearers_83 : decode cX10_bearers 83 = .ok (.getfield 40, 3) := by decide +kernel
theorem dX10_bearers_86 : decode cX10_bearers 86 = .ok (.getfield 147, 3) := by decide +kernel
theorem dX10_bearers_89 : decode cX10_bearers 89 = .ok (.iload_n 1, 1) := by decide +kernel
theorem dX10_bearers_90 : decode cX10_bearers 90 = .ok (.iaload, 1) := by decide +kernel
theorem dX10_bearers_91 : decode cX10_bearers 91 = .ok (.iload_n 2, 1) := by decide +kernel
theorem dX10_bearers_92 : decode cX10_bearers 92 = .ok (.iload_n 3, 1) := by decide +kernel
theorem dX10_bearers_93 : decode cX10_bearers 93 = .ok (.iload 4, 2) := by decide +kernel
theorem dX10_bearers_95 : decode cX10_bearers 95 = .ok (.invokevirtual 277, 3) := by decide +kernel
theorem dX10_bearers_98 : decode cX10_bearers 98 = .ok (.istore 8, 2) := by decide +kernel
theorem dX10_bearers_100 : decode cX10_bearers 100 = .ok (.iload 5, 2) := by decide +kernel
theorem dX10_bearers_102 : decode cX10_bearers 102 = .ok (.ifCond .ne 8, 3) := by decide +kernel
theorem dX10_bearers_105 : decode cX10_bearers 105 = .ok (.iload 8, 2) := by decide +kernel
theorem dX10_bearers_107 : decode cX10_bearers 107 = .ok (.iconst 2, 1) := by decide +kernel
theorem dX10_bearers_108 : decode cX10_bearers 108 = .ok (.idiv, 1) := by decide +kernel
theorem dX10_bearers_109 : decode cX10_bearers 109 = .ok (.ireturn, 1) := by decide +kernel
theorem dX10_bearers_110 : decode cX10_bearers 110 = .ok (.iload 4, 2) := by decide +kernel
theorem dX10_bearers_112 : decode cX10_bearers 112 = .ok (.iload_n 3, 1) := by decide +kernel
theorem dX10_bearers_113 : decode cX10_bearers 113 = .ok (.isub, 1) := by decide +kernel
theorem dX10_bearers_114 : decode cX10_bearers 114 = .ok (.iconst 1, 1) := by decide +kernel
theorem dX10_bearers_115 : decode cX10_bearers 115 = .ok (.iadd, 1) := by decide +kernel
theorem dX10_bearers_116 : decode cX10_bearers 116 = .ok (.iload 7, 2) := by decide +kernel
theorem dX10_bearers_118 : decode cX10_bearers 118 = .ok (.invokestatic 281, 3) := by decide +kernel
theorem dX10_bearers_121 : decode cX10_bearers 121 = .ok (.istore 9, 2) := by decide +kernel
theorem dX10_bearers_123 : decode cX10_bearers 123 = .ok (.iload 7, 2) := by decide +kernel
theorem dX10_bearers_125 : decode cX10_bearers 125 = .ok (.ifCond .ne 8, 3) := by decide +kernel
theorem dX10_bearers_128 : decode cX10_bearers 128 = .ok (.bipush (-4), 2) := by decide +kernel
theorem dX10_bearers_130 : decode cX10_bearers 130 = .ok (.goto 15, 3) := by decide +kernel
theorem dX10_bearers_133 : decode cX10_bearers 133 = .ok (.iload 8, 2) := by decide +kernel
theorem dX10_bearers_135 : decode cX10_bearers 135 = .ok (.iload 9, 2) := by decide +kernel
theorem dX10_bearers_137 : decode cX10_bearers 137 = .ok (.imul, 1) := by decide +kernel
theorem dX10_bearers_138 : decode cX10_bearers 138 = .ok (.iconst 2, 1) := by decide +kernel
theorem dX10_bearers_139 : decode cX10_bearers 139 = .ok (.iload 7, 2) := by decide +kernel
theorem dX10_bearers_141 : decode cX10_bearers 141 = .ok (.imul, 1) := by decide +kernel
theorem dX10_bearers_142 : decode cX10_bearers 142 = .ok (.invokestatic 286, 3) := by decide +kernel
theorem dX10_bearers_145 : decode cX10_bearers 145 = .ok (.ireturn, 1) := by decide +kernel
theorem dX10_first_0 : decode cX10_first 0 = .ok (.aload_n 0, 1) := by decide +kernel
theorem dX10_first_1 : decode cX10_first 1 = .ok (.getfield 40, 3) := by decide +kernel
theorem dX10_first_4 : decode cX10_first 4 = .ok (.iload_n 1, 1) := by decide +kernel
theorem dX10_first_5 : decode cX10_first 5 = .ok (.invokevirtual 94, 3) := by decide +kernel
theorem dX10_first_8 : decode cX10_first 8 = .ok (.ifCond .eq 14, 3) := by decide +kernel
theorem dX10_first_11 : decode cX10_first 11 = .ok (.aload_n 0, 1) := by decide +kernel
theorem dX10_first_12 : decode cX10_first 12 = .ok (.getfield 47, 3) := by decide +kernel
theorem dX10_first_15 : decode cX10_first 15 = .ok (.iload_n 2, 1) := by decide +kernel
theorem dX10_first_16 : decode cX10_first 16 = .ok (.invokevirtual 188, 3) := by decide +kernel
theorem dX10_first_19 : decode cX10_first 19 = .ok (.ifCond .ne 5, 3) := by decide +kernel
theorem dX10_first_22 : decode cX10_first 22 = .ok (.iconst (-1), 1) := by decide +kernel
theorem dX10_first_23 : decode cX10_first 23 = .ok (.ireturn, 1) := by decide +kernel
theorem dX10_first_24 : decode cX10_first 24 = .ok (.aload_n 0, 1) := by decide +kernel
theorem dX10_first_25 : decode cX10_first 25 = .ok (.getfield 56, 3) := by decide +kernel
theorem dX10_first_28 : decode cX10_first 28 = .ok (.aload_n 0, 1) := by decide +kernel
theorem dX10_first_29 : decode cX10_first 29 = .ok (.getfield 40, 3) := by decide +kernel
theorem dX10_first_32 : decode cX10_first 32 = .ok (.getfield 147, 3) := by decide +kernel
theorem dX10_first_35 : decode cX10_first 35 = .ok (.iload_n 1, 1) := by decide +kernel
theorem dX10_first_36 : decode cX10_first 36 = .ok (.iaload, 1) := by decide +kernel
theorem dX10_first_37 : decode cX10_first 37 = .ok (.iload_n 2, 1) := by decide +kernel
theorem dX10_first_38 : decode cX10_first 38 = .ok (.invokevirtual 289, 3) := by decide +kernel
theorem dX10_first_41 : decode cX10_first 41 = .ok (.ireturn, 1) := by decide +kernel
theorem dX10_starts_0 : decode cX10_starts 0 = .ok (.aload_n 0, 1) := by decide +kernel
theorem dX10_starts_1 : decode cX10_starts 1 = .ok (.getfield 40, 3) := by decide +kernel
theorem dX10_starts_4 : decode cX10_starts 4 = .ok (.iload_n 1, 1) := by decide +kernel
theorem dX10_starts_5 : decode cX10_starts 5 = .ok (.invokevirtual 94, 3) := by decide +kernel
theorem dX10_starts_8 : decode cX10_starts 8 = .ok (.ifCond .eq 12, 3) := by decide +kernel
theorem dX10_starts_11 : decode cX10_starts 11 = .ok (.iload_n 2, 1) := by decide +kernel
theorem dX10_starts_12 : decode cX10_starts 12 = .ok (.ifCond .lt 8, 3) := by decide +kernel
theorem dX10_starts_15 : decode cX10_starts 15 = .ok (.iload_n 2, 1) := by decide +kernel
theorem dX10_starts_16 : decode cX10_starts 16 = .ok (.iconst 3, 1) := by decide +kernel
theorem dX10_starts_17 : decode cX10_starts 17 = .ok (.if_icmp .le 5, 3) := by decide +kernel
theorem dX10_starts_20 : decode cX10_starts 20 = .ok (.iconst (-1), 1) := by decide +kernel
theorem dX10_starts_21 : decode cX10_starts 21 = .ok (.ireturn, 1) := by decide +kernel
theorem dX10_starts_22 : decode cX10_starts 22 = .ok (.aload_n 0, 1) := by decide +kernel
theorem dX10_starts_23 : decode cX10_starts 23 = .ok (.getfield 65, 3) := by decide +kernel
theorem dX10_starts_26 : decode cX10_starts 26 = .ok (.aload_n 0, 1) := by decide +kernel
theorem dX10_starts_27 : decode cX10_starts 27 = .ok (.getfield 40, 3) := by decide +kernel
theorem dX10_starts_30 : decode cX10_starts 30 = .ok (.getfield 147, 3) := by decide +kernel
theorem dX10_starts_33 : decode cX10_starts 33 = .ok (.iload_n 1, 1) := by decide +kernel
theorem dX10_starts_34 : decode cX10_starts 34 = .ok (.iaload, 1) := by decide +kernel
theorem dX10_starts_35 : decode cX10_starts 35 = .ok (.invokevirtual 292, 3) := by decide +kernel
theorem dX10_starts_38 : decode cX10_starts 38 = .ok (.iload_n 2, 1) := by decide +kernel
theorem dX10_starts_39 : decode cX10_starts 39 = .ok (.iconst 2, 1) := by decide +kernel
theorem dX10_starts_40 : decode cX10_starts 40 = .ok (.if_icmp .ne 11, 3) := by decide +kernel
theorem dX10_starts_43 : decode cX10_starts 43 = .ok (.aload_n 0, 1) := by decide +kernel
theorem dX10_starts_44 : decode cX10_starts 44 = .ok (.getfield 65, 3) := by decide +kernel
theorem dX10_starts_47 : decode cX10_starts 47 = .ok (.getfield 295, 3) := by decide +kernel
theorem dX10_starts_50 : decode cX10_starts 50 = .ok (.ireturn, 1) := by decide +kernel
theorem dX10_starts_51 : decode cX10_starts 51 = .ok (.aload_n 0, 1) := by decide +kernel
theorem dX10_starts_52 : decode cX10_starts 52 = .ok (.getfield 65, 3) := by decide +kernel
theorem dX10_starts_55 : decode cX10_starts 55 = .ok (.aload_n 0, 1) := by decide +kernel
theorem dX10_starts_56 : decode cX10_starts 56 = .ok (.getfield 28, 3) := by decide +kernel
theorem dX10_starts_59 : decode cX10_starts 59 = .ok (.getfield 126, 3) := by decide +kernel
theorem dX10_starts_62 : decode cX10_starts 62 = .ok (.iconst 3, 1) := by decide +kernel
