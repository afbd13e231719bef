theorem dX11_layNames_89 : decode cX11_layNames 89 = .ok (.ifCond .eq 89, 3) := by decide +kernel
theorem dX11_layNames_92 : decode cX11_layNames 92 = .ok (.iconst 0, 1) := by decide +kernel
theorem dX11_layNames_93 : decode cX11_layNames 93 = .ok (.istore_n 1, 1) := by decide +kernel
theorem dX11_layNames_94 : decode cX11_layNames 94 = .ok (.iconst 0, 1) := by decide +kernel
theorem dX11_layNames_95 : decode cX11_layNames 95 = .ok (.istore_n 2, 1) := by decide +kernel
theorem dX11_layNames_96 : decode cX11_layNames 96 = .ok (.iload_n 2, 1) := by decide +kernel
theorem dX11_layNames_97 : decode cX11_layNames 97 = .ok (.aload_n 0, 1) := by decide +kernel
theorem dX11_layNames_98 : decode cX11_layNames 98 = .ok (.getfield 152, 3) := by decide +kernel
theorem dX11_layNames_101 : decode cX11_layNames 101 = .ok (.if_icmp .ge 74, 3) := by decide +kernel
theorem dX11_layNames_104 : decode cX11_layNames 104 = .ok (.iconst 0, 1) := by decide +kernel
theorem dX11_layNames_105 : decode cX11_layNames 105 = .ok (.istore_n 3, 1) := by decide +kernel
theorem dX11_layNames_106 : decode cX11_layNames 106 = .ok (.iload_n 3, 1) := by decide +kernel
theorem dX11_layNames_107 : decode cX11_layNames 107 = .ok (.aload_n 0, 1) := by decide +kernel
theorem dX11_layNames_108 : decode cX11_layNames 108 = .ok (.getfield 152, 3) := by decide +kernel
theorem dX11_layNames_111 : decode cX11_layNames 111 = .ok (.if_icmp .ge 58, 3) := by decide +kernel
theorem dX11_layNames_114 : decode cX11_layNames 114 = .ok (.aload_n 0, 1) := by decide +kernel
theorem dX11_layNames_115 : decode cX11_layNames 115 = .ok (.getfield 73, 3) := by decide +kernel
theorem dX11_layNames_118 : decode cX11_layNames 118 = .ok (.iload_n 3, 1) := by decide +kernel
theorem dX11_layNames_119 : decode cX11_layNames 119 = .ok (.iaload, 1) := by decide +kernel
theorem dX11_layNames_120 : decode cX11_layNames 120 = .ok (.aload_n 0, 1) := by decide +kernel
theorem dX11_layNames_121 : decode cX11_layNames 121 = .ok (.getfield 73, 3) := by decide +kernel
theorem dX11_layNames_124 : decode cX11_layNames 124 = .ok (.iload_n 2, 1) := by decide +kernel
theorem dX11_layNames_125 : decode cX11_layNames 125 = .ok (.iaload, 1) := by decide +kernel
theorem dX11_layNames_126 : decode cX11_layNames 126 = .ok (.if_icmp .ge 37, 3) := by decide +kernel
theorem dX11_layNames_129 : decode cX11_layNames 129 = .ok (.aload_n 0, 1) := by decide +kernel
theorem dX11_layNames_130 : decode cX11_layNames 130 = .ok (.getfield 70, 3) := by decide +kernel
theorem dX11_layNames_133 : decode cX11_layNames 133 = .ok (.bipush 16, 2) := by decide +kernel
theorem dX11_layNames_135 : decode cX11_layNames 135 = .ok (.iload_n 2, 1) := by decide +kernel
theorem dX11_layNames_136 : decode cX11_layNames 136 = .ok (.imul, 1) := by decide +kernel
theorem dX11_layNames_137 : decode cX11_layNames 137 = .ok (.iload_n 3, 1) := by decide +kernel
theorem dX11_layNames_138 : decode cX11_layNames 138 = .ok (.iadd, 1) := by decide +kernel
theorem dX11_layNames_139 : decode cX11_layNames 139 = .ok (.iaload, 1) := by decide +kernel
theorem dX11_layNames_140 : decode cX11_layNames 140 = .ok (.aload_n 0, 1) := by decide +kernel
theorem dX11_layNames_141 : decode cX11_layNames 141 = .ok (.getfield 28, 3) := by decide +kernel
theorem dX11_layNames_144 : decode cX11_layNames 144 = .ok (.iconst 2, 1) := by decide +kernel
theorem dX11_layNames_145 : decode cX11_layNames 145 = .ok (.iaload, 1) := by decide +kernel
theorem dX11_layNames_146 : decode cX11_layNames 146 = .ok (.if_icmp .gt 17, 3) := by decide +kernel
theorem dX11_layNames_149 : decode cX11_layNames 149 = .ok (.aload_n 0, 1) := by decide +kernel
theorem dX11_layNames_150 : decode cX11_layNames 150 = .ok (.getfield 73, 3) := by decide +kernel
theorem dX11_layNames_153 : decode cX11_layNames 153 = .ok (.iload_n 2, 1) := by decide +kernel
theorem dX11_layNames_154 : decode cX11_layNames 154 = .ok (.aload_n 0, 1) := by decide +kernel
theorem dX11_layNames_155 : decode cX11_layNames 155 = .ok (.getfield 73, 3) := by decide +kernel
theorem dX11_layNames_158 : decode cX11_layNames 158 = .ok (.iload_n 3, 1) := by decide +kernel
theorem dX11_layNames_159 : decode cX11_layNames 159 = .ok (.iaload, 1) := by decide +kernel
theorem dX11_layNames_160 : decode cX11_layNames 160 = .ok (.iastore, 1) := by decide +kernel
theorem dX11_layNames_161 : decode cX11_layNames 161 = .ok (.iconst 1, 1) := by decide +kernel
theorem dX11_layNames_162 : decode cX11_layNames 162 = .ok (.istore_n 1, 1) := by decide +kernel
theorem dX11_layNames_163 : decode cX11_layNames 163 = .ok (.iinc 3 1, 3) := by decide +kernel
theorem dX11_layNames_166 : decode cX11_layNames 166 = .ok (.goto (-60), 3) := by decide +kernel
theorem dX11_layNames_169 : decode cX11_layNames 169 = .ok (.iinc 2 1, 3) := by decide +kernel
theorem dX11_layNames_172 : decode cX11_layNames 172 = .ok (.goto (-76), 3) := by decide +kernel
theorem dX11_layNames_175 : decode cX11_layNames 175 = .ok (.goto (-87), 3) := by decide +kernel
theorem dX11_layNames_178 : decode cX11_layNames 178 = .ok (.return_, 1) := by decide +kernel
theorem dX11_sound_0 : decode cX11_sound 0 = .ok (.aload_n 0, 1) := by decide +kernel
theorem dX11_sound_1 : decode cX11_sound 1 = .ok (.iload_n 1, 1) := by decide +kernel
theorem dX11_sound_2 : decode cX11_sound 2 = .ok (.invokevirtual 166, 3) := by decide +kernel
theorem dX11_sound_5 : decode cX11_sound 5 = .ok (.ifCond .ne 7, 3) := by decide +kernel
theorem dX11_sound_8 : decode cX11_sound 8 = .ok (.ldc2_w 170, 3) := by decide +kernel
theorem dX11_sound_11 : decode cX11_sound 11 = .ok (.lreturn, 1) := by decide +kernel
theorem dX11_sound_12 : decode cX11_sound 12 = .ok (.aload_n 0, 1) := by decide +kernel
theorem dX11_sound_13 : decode cX11_sound 13 = .ok (.iload_n 1, 1) := by decide +kernel
theorem dX11_sound_14 : decode cX11_sound 14 = .ok (.invokevirtual 273, 3) := by decide +kernel
theorem dX11_sound_17 : decode cX11_sound 17 = .ok (.lconst 0, 1) := by decide +kernel
theorem dX11_sound_18 : decode cX11_sound 18 = .ok (.lstore_n 2, 1) := by decide +kernel
theorem dX11_sound_19 : decode cX11_sound 19 = .ok (.aload_n 0, 1) := by decide +kernel
theorem dX11_sound_20 : decode cX11_sound 20 = .ok (.getfield 64, 3) := by decide +kernel
theorem dX11_sound_23 : decode cX11_sound 23 = .ok (.iload_n 1, 1) := by decide +kernel
theorem dX11_sound_24 : decode cX11_sound 24 = .ok (.iaload, 1) := by decide +kernel
theorem dX11_sound_25 : decode cX11_sound 25 = .ok (.istore 4, 2) := by decide +kernel
theorem dX11_sound_27 : decode cX11_sound 27 = .ok (.iload 4, 2) := by decide +kernel
theorem dX11_sound_29 : decode cX11_sound 29 = .ok (.bipush 12, 2) := by decide +kernel
theorem dX11_sound_31 : decode cX11_sound 31 = .ok (.if_icmp .le 11, 3) := by decide +kernel
theorem dX11_sound_34 : decode cX11_sound 34 = .ok (.iload 4, 2) := by decide +kernel
theorem dX11_sound_36 : decode cX11_sound 36 = .ok (.bipush 12, 2) := by decide +kernel
theorem dX11_sound_38 : decode cX11_sound 38 = .ok (.isub, 1) := by decide +kernel
theorem dX11_sound_39 : decode cX11_sound 39 = .ok (.goto 4, 3) := by decide +kernel
theorem dX11_sound_42 : decode cX11_sound 42 = .ok (.iconst 0, 1) := by decide +kernel
theorem dX11_sound_43 : decode cX11_sound 43 = .ok (.istore 5, 2) := by decide +kernel
theorem dX11_sound_45 : decode cX11_sound 45 = .ok (.iload 5, 2) := by decide +kernel
theorem dX11_sound_47 : decode cX11_sound 47 = .ok (.iload 4, 2) := by decide +kernel
theorem dX11_sound_49 : decode cX11_sound 49 = .ok (.if_icmp .ge 27, 3) := by decide +kernel
theorem dX11_sound_52 : decode cX11_sound 52 = .ok (.lload_n 2, 1) := by decide +kernel
theorem dX11_sound_53 : decode cX11_sound 53 = .ok (.iconst 5, 1) := by decide +kernel
theorem dX11_sound_54 : decode cX11_sound 54 = .ok (.lshl, 1) := by decide +kernel
theorem dX11_sound_55 : decode cX11_sound 55 = .ok (.aload_n 0, 1) := by decide +kernel
theorem dX11_sound_56 : decode cX11_sound 56 = .ok (.getfield 67, 3) := by decide +kernel
theorem dX11_sound_59 : decode cX11_sound 59 = .ok (.bipush 20, 2) := by decide +kernel
theorem dX11_sound_61 : decode cX11_sound 61 = .ok (.iload_n 1, 1) := by decide +kernel
theorem dX11_sound_62 : decode cX11_sound 62 = .ok (.imul, 1) := by decide +kernel
theorem dX11_sound_63 : decode cX11_sound 63 = .ok (.iload 5, 2) := by decide +kernel
theorem dX11_sound_65 : decode cX11_sound 65 = .ok (.iadd, 1) := by decide +kernel
theorem dX11_sound_66 : decode cX11_sound 66 = .ok (.iaload, 1) := by decide +kernel
theorem dX11_sound_67 : decode cX11_sound 67 = .ok (.i2l, 1) := by decide +kernel
theorem dX11_sound_68 : decode cX11_sound 68 = .ok (.lor, 1) := by decide +kernel
theorem dX11_sound_69 : decode cX11_sound 69 = .ok (.lstore_n 2, 1) := by decide +kernel
theorem dX11_sound_70 : decode cX11_sound 70 = .ok (.iinc 5 1, 3) := by decide +kernel
theorem dX11_sound_73 : decode cX11_sound 73 = .ok (.goto (-28), 3) := by decide +kernel
theorem dX11_sound_76 : decode cX11_sound 76 = .ok (.lload_n 2, 1) := by decide +kernel
theorem dX11_sound_77 : decode cX11_sound 77 = .ok (.lreturn, 1) := by decide +kernel
theorem dX11_sounds_0 : decode cX11_sounds 0 = .ok (.aload_n 0, 1) := by decide +kernel
theorem dX11_sounds_1 : decode cX11_sounds 1 = .ok (.iload_n 1, 1) := by decide +kernel
theorem dX11_sounds_2 : decode cX11_sounds 2 = .ok (.invokevirtual 166, 3) := by decide +kernel
theorem dX11_sounds_5 : decode cX11_sounds 5 = .ok (.ifCond .ne 5, 3) := by decide +kernel
theorem dX11_sounds_8 : decode cX11_sounds 8 = .ok (.iconst (-1), 1) := by decide +kernel
theorem dX11_sounds_9 : decode cX11_sounds 9 = .ok (.ireturn, 1) := by decide +kernel
theorem dX11_sounds_10 : decode cX11_sounds 10 = .ok (.aload_n 0, 1) := by decide +kernel
theorem dX11_sounds_11 : decode cX11_sounds 11 = .ok (.iload_n 1, 1) := by decide +kernel
theorem dX11_sounds_12 : decode cX11_sounds 12 = .ok (.invokevirtual 273, 3) := by decide +kernel
theorem dX11_sounds_15 : decode cX11_sounds 15 = .ok (.aload_n 0, 1) := by decide +kernel
theorem dX11_sounds_16 : decode cX11_sounds 16 = .ok (.getfield 64, 3) := by decide +kernel
theorem dX11_sounds_19 : decode cX11_sounds 19 = .ok (.iload_n 1, 1) := by decide +kernel
theorem dX11_sounds_20 : decode cX11_sounds 20 = .ok (.iaload, 1) := by decide +kernel
theorem dX11_sounds_21 : decode cX11_sounds 21 = .ok (.ireturn, 1) := by decide +kernel
theorem dX11_apart_0 : decode cX11_apart 0 = .ok (.aload_n 0, 1) := by decide +kernel
theorem dX11_apart_1 : decode cX11_apart 1 = .ok (.iload_n 1, 1) := by decide +kernel
theorem dX11_apart_2 : decode cX11_apart 2 = .ok (.invokevirtual 166, 3) := by decide +kernel
theorem dX11_apart_5 : decode cX11_apart 5 = .ok (.ifCond .eq 11, 3) := by decide +kernel
theorem dX11_apart_8 : decode cX11_apart 8 = .ok (.aload_n 0, 1) := by decide +kernel
theorem dX11_apart_9 : decode cX11_apart 9 = .ok (.iload_n 2, 1) := by decide +kernel
theorem dX11_apart_10 : decode cX11_apart 10 = .ok (.invokevirtual 166, 3) := by decide +kernel
theorem dX11_apart_13 : decode cX11_apart 13 = .ok (.ifCond .ne 5, 3) := by decide +kernel
theorem dX11_apart_16 : decode cX11_apart 16 = .ok (.iconst (-1), 1) := by decide +kernel
theorem dX11_apart_17 : decode cX11_apart 17 = .ok (.ireturn, 1) := by decide +kernel
theorem dX11_apart_18 : decode cX11_apart 18 = .ok (.aload_n 0, 1) := by decide +kernel
theorem dX11_apart_19 : decode cX11_apart 19 = .ok (.invokevirtual 279, 3) := by decide +kernel
theorem dX11_apart_22 : decode cX11_apart 22 = .ok (.aload_n 0, 1) := by decide +kernel
theorem dX11_apart_23 : decode cX11_apart 23 = .ok (.getfield 70, 3) := by decide +kernel
theorem dX11_apart_26 : decode cX11_apart 26 = .ok (.bipush 16, 2) := by decide +kernel
theorem dX11_apart_28 : decode cX11_apart 28 = .ok (.iload_n 1, 1) := by decide +kernel
theorem dX11_apart_29 : decode cX11_apart 29 = .ok (.imul, 1) := by decide +kernel
theorem dX11_apart_30 : decode cX11_apart 30 = .ok (.iload_n 2, 1) := by decide +kernel
theorem dX11_apart_31 : decode cX11_apart 31 = .ok (.iadd, 1) := by decide +kernel
theorem dX11_apart_32 : decode cX11_apart 32 = .ok (.iaload, 1) := by decide +kernel
theorem dX11_apart_33 : decode cX11_apart 33 = .ok (.ireturn, 1) := by decide +kernel
theorem dX11_name_0 : decode cX11_name 0 = .ok (.aload_n 0, 1) := by decide +kernel
theorem dX11_name_1 : decode cX11_name 1 = .ok (.iload_n 1, 1) := by decide +kernel
theorem dX11_name_2 : decode cX11_name 2 = .ok (.invokevirtual 166, 3) := by decide +kernel
theorem dX11_name_5 : decode cX11_name 5 = .ok (.ifCond .ne 5, 3) := by decide +kernel
theorem dX11_name_8 : decode cX11_name 8 = .ok (.iconst (-1), 1) := by decide +kernel
theorem dX11_name_9 : decode cX11_name 9 = .ok (.ireturn, 1) := by decide +kernel
theorem dX11_name_10 : decode cX11_name 10 = .ok (.aload_n 0, 1) := by decide +kernel
theorem dX11_name_11 : decode cX11_name 11 = .ok (.invokevirtual 279, 3) := by decide +kernel
theorem dX11_name_14 : decode cX11_name 14 = .ok (.aload_n 0, 1) := by decide +kernel
theorem dX11_name_15 : decode cX11_name 15 = .ok (.getfield 73, 3) := by decide +kernel
theorem dX11_name_18 : decode cX11_name 18 = .ok (.iload_n 1, 1) := by decide +kernel
theorem dX11_name_19 : decode cX11_name 19 = .ok (.iaload, 1) := by decide +kernel
theorem dX11_name_20 : decode cX11_name 20 = .ok (.ireturn, 1) := by decide +kernel
theorem dX11_layChains_0 : decode cX11_layChains 0 = .ok (.iconst 0, 1) := by decide +kernel
theorem dX11_layChains_1 : decode cX11_layChains 1 = .ok (.istore_n 2, 1) := by decide +kernel
theorem dX11_layChains_2 : decode cX11_layChains 2 = .ok (.iload_n 2, 1) := by decide +kernel
theorem dX11_layChains_3 : decode cX11_layChains 3 = .ok (.aload_n 0, 1) := by decide +kernel
theorem dX11_layChains_4 : decode cX11_layChains 4 = .ok (.getfield 152, 3) := by decide +kernel
theorem dX11_layChains_7 : decode cX11_layChains 7 = .ok (.if_icmp .ge 45, 3) := by decide +kernel
theorem dX11_layChains_10 : decode cX11_layChains 10 = .ok (.aload_n 0, 1) := by decide +kernel
theorem dX11_layChains_11 : decode cX11_layChains 11 = .ok (.getfield 79, 3) := by decide +kernel
theorem dX11_layChains_14 : decode cX11_layChains 14 = .ok (.iload_n 2, 1) := by decide +kernel
theorem dX11_layChains_15 : decode cX11_layChains 15 = .ok (.iload_n 2, 1) := by decide +kernel
theorem dX11_layChains_16 : decode cX11_layChains 16 = .ok (.iload_n 1, 1) := by decide +kernel
theorem dX11_layChains_17 : decode cX11_layChains 17 = .ok (.if_icmp .ne 7, 3) := by decide +kernel
theorem dX11_layChains_20 : decode cX11_layChains 20 = .ok (.iconst 0, 1) := by decide +kernel
theorem dX11_layChains_21 : decode cX11_layChains 21 = .ok (.goto 6, 3) := by decide +kernel
theorem dX11_layChains_24 : decode cX11_layChains 24 = .ok (.ldc_w 282, 3) := by decide +kernel
theorem dX11_layChains_27 : decode cX11_layChains 27 = .ok (.iastore, 1) := by decide +kernel
theorem dX11_layChains_28 : decode cX11_layChains 28 = .ok (.aload_n 0, 1) := by decide +kernel
theorem dX11_layChains_29 : decode cX11_layChains 29 = .ok (.getfield 82, 3) := by decide +kernel
theorem dX11_layChains_32 : decode cX11_layChains 32 = .ok (.iload_n 2, 1) := by decide +kernel
theorem dX11_layChains_33 : decode cX11_layChains 33 = .ok (.iload_n 2, 1) := by decide +kernel
theorem dX11_layChains_34 : decode cX11_layChains 34 = .ok (.iload_n 1, 1) := by decide +kernel
theorem dX11_layChains_35 : decode cX11_layChains 35 = .ok (.if_icmp .ne 7, 3) := by decide +kernel
theorem dX11_layChains_38 : decode cX11_layChains 38 = .ok (.iconst 1, 1) := by decide +kernel
theorem dX11_layChains_39 : decode cX11_layChains 39 = .ok (.goto 6, 3) := by decide +kernel
theorem dX11_layChains_42 : decode cX11_layChains 42 = .ok (.ldc_w 282, 3) := by decide +kernel
theorem dX11_layChains_45 : decode cX11_layChains 45 = .ok (.iastore, 1) := by decide +kernel
theorem dX11_layChains_46 : decode cX11_layChains 46 = .ok (.iinc 2 1, 3) := by decide +kernel
theorem dX11_layChains_49 : decode cX11_layChains 49 = .ok (.goto (-47), 3) := by decide +kernel
theorem dX11_layChains_52 : decode cX11_layChains 52 = .ok (.iconst 1, 1) := by decide +kernel
theorem dX11_layChains_53 : decode cX11_layChains 53 = .ok (.istore_n 2, 1) := by decide +kernel
theorem dX11_layChains_54 : decode cX11_layChains 54 = .ok (.iload_n 2, 1) := by decide +kernel
theorem dX11_layChains_55 : decode cX11_layChains 55 = .ok (.ifCond .eq 163, 3) := by decide +kernel
theorem dX11_layChains_58 : decode cX11_layChains 58 = .ok (.iconst 0, 1) := by decide +kernel
theorem dX11_layChains_59 : decode cX11_layChains 59 = .ok (.istore_n 2, 1) := by decide +kernel
theorem dX11_layChains_60 : decode cX11_layChains 60 = .ok (.iconst 0, 1) := by decide +kernel
theorem dX11_layChains_61 : decode cX11_layChains 61 = .ok (.istore_n 3, 1) := by decide +kernel
theorem dX11_layChains_62 : decode cX11_layChains 62 = .ok (.iload_n 3, 1) := by decide +kernel
theorem dX11_layChains_63 : decode cX11_layChains 63 = .ok (.aload_n 0, 1) := by decide +kernel
theorem dX11_layChains_64 : decode cX11_layChains 64 = .ok (.getfield 152, 3) := by decide +kernel
theorem dX11_layChains_67 : decode cX11_layChains 67 = .ok (.if_icmp .ge 148, 3) := by decide +kernel
theorem dX11_layChains_70 : decode cX11_layChains 70 = .ok (.iconst 0, 1) := by decide +kernel
theorem dX11_layChains_71 : decode cX11_layChains 71 = .ok (.istore 4, 2) := by decide +kernel
theorem dX11_layChains_73 : decode cX11_layChains 73 = .ok (.iload 4, 2) := by decide +kernel
theorem dX11_layChains_75 : decode cX11_layChains 75 = .ok (.aload_n 0, 1) := by decide +kernel
theorem dX11_layChains_76 : decode cX11_layChains 76 = .ok (.getfield 152, 3) := by decide +kernel
theorem dX11_layChains_79 : decode cX11_layChains 79 = .ok (.if_icmp .ge 130, 3) := by decide +kernel
theorem dX11_layChains_82 : decode cX11_layChains 82 = .ok (.aload_n 0, 1) := by decide +kernel
theorem dX11_layChains_83 : decode cX11_layChains 83 = .ok (.getfield 70, 3) := by decide +kernel
theorem dX11_layChains_86 : decode cX11_layChains 86 = .ok (.bipush 16, 2) := by decide +kernel
theorem dX11_layChains_88 : decode cX11_layChains 88 = .ok (.iload_n 3, 1) := by decide +kernel
theorem dX11_layChains_89 : decode cX11_layChains 89 = .ok (.imul, 1) := by decide +kernel
theorem dX11_layChains_90 : decode cX11_layChains 90 = .ok (.iload 4, 2) := by decide +kernel
theorem dX11_layChains_92 : decode cX11_layChains 92 = .ok (.iadd, 1) := by decide +kernel
theorem dX11_layChains_93 : decode cX11_layChains 93 = .ok (.iaload, 1) := by decide +kernel
theorem dX11_layChains_94 : decode cX11_layChains 94 = .ok (.istore 5, 2) := by decide +kernel
theorem dX11_layChains_96 : decode cX11_layChains 96 = .ok (.iload_n 3, 1) := by decide +kernel
theorem dX11_layChains_97 : decode cX11_layChains 97 = .ok (.iload 4, 2) := by decide +kernel
theorem dX11_layChains_99 : decode cX11_layChains 99 = .ok (.if_icmp .eq 104, 3) := by decide +kernel
theorem dX11_layChains_102 : decode cX11_layChains 102 = .ok (.iload 5, 2) := by decide +kernel
theorem dX11_layChains_104 : decode cX11_layChains 104 = .ok (.aload_n 0, 1) := by decide +kernel
theorem dX11_layChains_105 : decode cX11_layChains 105 = .ok (.getfield 28, 3) := by decide +kernel
theorem dX11_layChains_108 : decode cX11_layChains 108 = .ok (.iconst 2, 1) := by decide +kernel
theorem dX11_layChains_109 : decode cX11_layChains 109 = .ok (.iaload, 1) := by decide +kernel
theorem dX11_layChains_110 : decode cX11_layChains 110 = .ok (.if_icmp .gt 93, 3) := by decide +kernel
theorem dX11_layChains_113 : decode cX11_layChains 113 = .ok (.aload_n 0, 1) := by decide +kernel
theorem dX11_layChains_114 : decode cX11_layChains 114 = .ok (.getfield 79, 3) := by decide +kernel
theorem dX11_layChains_117 : decode cX11_layChains 117 = .ok (.iload 4, 2) := by decide +kernel
theorem dX11_layChains_119 : decode cX11_layChains 119 = .ok (.iaload, 1) := by decide +kernel
theorem dX11_layChains_120 : decode cX11_layChains 120 = .ok (.ldc_w 282, 3) := by decide +kernel
theorem dX11_layChains_123 : decode cX11_layChains 123 = .ok (.if_icmp .ge 80, 3) := by decide +kernel
theorem dX11_layChains_126 : decode cX11_layChains 126 = .ok (.aload_n 0, 1) := by decide +kernel
theorem dX11_layChains_127 : decode cX11_layChains 127 = .ok (.getfield 79, 3) := by decide +kernel
theorem dX11_layChains_130 : decode cX11_layChains 130 = .ok (.iload 4, 2) := by decide +kernel
theorem dX11_layChains_132 : decode cX11_layChains 132 = .ok (.iaload, 1) := by decide +kernel
theorem dX11_layChains_133 : decode cX11_layChains 133 = .ok (.iload 5, 2) := by decide +kernel
theorem dX11_layChains_135 : decode cX11_layChains 135 = .ok (.iadd, 1) := by decide +kernel
theorem dX11_layChains_136 : decode cX11_layChains 136 = .ok (.istore 6, 2) := by decide +kernel
theorem dX11_layChains_138 : decode cX11_layChains 138 = .ok (.iload 6, 2) := by decide +kernel
theorem dX11_layChains_140 : decode cX11_layChains 140 = .ok (.aload_n 0, 1) := by decide +kernel
theorem dX11_layChains_141 : decode cX11_layChains 141 = .ok (.getfield 79, 3) := by decide +kernel
theorem dX11_layChains_144 : decode cX11_layChains 144 = .ok (.iload_n 3, 1) := by decide +kernel
theorem dX11_layChains_145 : decode cX11_layChains 145 = .ok (.iaload, 1) := by decide +kernel
theorem dX11_layChains_146 : decode cX11_layChains 146 = .ok (.if_icmp .lt 32, 3) := by decide +kernel
theorem dX11_layChains_149 : decode cX11_layChains 149 = .ok (.iload 6, 2) := by decide +kernel
theorem dX11_layChains_151 : decode cX11_layChains 151 = .ok (.aload_n 0, 1) := by decide +kernel
theorem dX11_layChains_152 : decode cX11_layChains 152 = .ok (.getfield 79, 3) := by decide +kernel
theorem dX11_layChains_155 : decode cX11_layChains 155 = .ok (.iload_n 3, 1) := by decide +kernel
theorem dX11_layChains_156 : decode cX11_layChains 156 = .ok (.iaload, 1) := by decide +kernel
theorem dX11_layChains_157 : decode cX11_layChains 157 = .ok (.if_icmp .ne 46, 3) := by decide +kernel
theorem dX11_layChains_160 : decode cX11_layChains 160 = .ok (.aload_n 0, 1) := by decide +kernel
theorem dX11_layChains_161 : decode cX11_layChains 161 = .ok (.getfield 82, 3) := by decide +kernel
theorem dX11_layChains_164 : decode cX11_layChains 164 = .ok (.iload 4, 2) := by decide +kernel
theorem dX11_layChains_166 : decode cX11_layChains 166 = .ok (.iaload, 1) := by decide +kernel
theorem dX11_layChains_167 : decode cX11_layChains 167 = .ok (.iconst 1, 1) := by decide +kernel
theorem dX11_layChains_168 : decode cX11_layChains 168 = .ok (.iadd, 1) := by decide +kernel
theorem dX11_layChains_169 : decode cX11_layChains 169 = .ok (.aload_n 0, 1) := by decide +kernel
theorem dX11_layChains_170 : decode cX11_layChains 170 = .ok (.getfield 82, 3) := by decide +kernel
theorem dX11_layChains_173 : decode cX11_layChains 173 = .ok (.iload_n 3, 1) := by decide +kernel
theorem dX11_layChains_174 : decode cX11_layChains 174 = .ok (.iaload, 1) := by decide +kernel
theorem dX11_layChains_175 : decode cX11_layChains 175 = .ok (.if_icmp .ge 28, 3) := by decide +kernel
theorem dX11_layChains_178 : decode cX11_layChains 178 = .ok (.aload_n 0, 1) := by decide +kernel
theorem dX11_layChains_179 : decode cX11_layChains 179 = .ok (.getfield 79, 3) := by decide +kernel
theorem dX11_layChains_182 : decode cX11_layChains 182 = .ok (.iload_n 3, 1) := by decide +kernel
theorem dX11_layChains_183 : decode cX11_layChains 183 = .ok (.iload 6, 2) := by decide +kernel
theorem dX11_layChains_185 : decode cX11_layChains 185 = .ok (.iastore, 1) := by decide +kernel
theorem dX11_layChains_186 : decode cX11_layChains 186 = .ok (.aload_n 0, 1) := by decide +kernel
theorem dX11_layChains_187 : decode cX11_layChains 187 = .ok (.getfield 82, 3) := by decide +kernel
theorem dX11_layChains_190 : decode cX11_layChains 190 = .ok (.iload_n 3, 1) := by decide +kernel
theorem dX11_layChains_191 : decode cX11_layChains 191 = .ok (.aload_n 0, 1) := by decide +kernel
theorem dX11_layChains_192 : decode cX11_layChains 192 = .ok (.getfield 82, 3) := by decide +kernel
theorem dX11_layChains_195 : decode cX11_layChains 195 = .ok (.iload 4, 2) := by decide +kernel
theorem dX11_layChains_197 : decode cX11_layChains 197 = .ok (.iaload, 1) := by decide +kernel
theorem dX11_layChains_198 : decode cX11_layChains 198 = .ok (.iconst 1, 1) := by decide +kernel
theorem dX11_layChains_199 : decode cX11_layChains 199 = .ok (.iadd, 1) := by decide +kernel
theorem dX11_layChains_200 : decode cX11_layChains 200 = .ok (.iastore, 1) := by decide +kernel
theorem dX11_layChains_201 : decode cX11_layChains 201 = .ok (.iconst 1, 1) := by decide +kernel
theorem dX11_layChains_202 : decode cX11_layChains 202 = .ok (.istore_n 2, 1) := by decide +kernel
theorem dX11_layChains_203 : decode cX11_layChains 203 = .ok (.iinc 4 1, 3) := by decide +kernel
theorem dX11_layChains_206 : decode cX11_layChains 206 = .ok (.goto (-133), 3) := by decide +kernel
theorem dX11_layChains_209 : decode cX11_layChains 209 = .ok (.iinc 3 1, 3) := by decide +kernel
theorem dX11_layChains_212 : decode cX11_layChains 212 = .ok (.goto (-150), 3) := by decide +kernel
theorem dX11_layChains_215 : decode cX11_layChains 215 = .ok (.goto (-161), 3) := by decide +kernel
theorem dX11_layChains_218 : decode cX11_layChains 218 = .ok (.return_, 1) := by decide +kernel
theorem dX11_goesOn_0 : decode cX11_goesOn 0 = .ok (.aload_n 0, 1) := by decide +kernel
theorem dX11_goesOn_1 : decode cX11_goesOn 1 = .ok (.getfield 70, 3) := by decide +kernel
theorem dX11_goesOn_4 : decode cX11_goesOn 4 = .ok (.bipush 16, 2) := by decide +kernel
theorem dX11_goesOn_6 : decode cX11_goesOn 6 = .ok (.iload_n 1, 1) := by decide +kernel
theorem dX11_goesOn_7 : decode cX11_goesOn 7 = .ok (.imul, 1) := by decide +kernel
theorem dX11_goesOn_8 : decode cX11_goesOn 8 = .ok (.iload_n 2, 1) := by decide +kernel
theorem dX11_goesOn_9 : decode cX11_goesOn 9 = .ok (.iadd, 1) := by decide +kernel
theorem dX11_goesOn_10 : decode cX11_goesOn 10 = .ok (.iaload, 1) := by decide +kernel
theorem dX11_goesOn_11 : decode cX11_goesOn 11 = .ok (.istore_n 3, 1) := by decide +kernel
theorem dX11_goesOn_12 : decode cX11_goesOn 12 = .ok (.iload_n 1, 1) := by decide +kernel
theorem dX11_goesOn_13 : decode cX11_goesOn 13 = .ok (.iload_n 2, 1) := by decide +kernel
theorem dX11_goesOn_14 : decode cX11_goesOn 14 = .ok (.if_icmp .eq 51, 3) := by decide +kernel
theorem dX11_goesOn_17 : decode cX11_goesOn 17 = .ok (.iload_n 3, 1) := by decide +kernel
theorem dX11_goesOn_18 : decode cX11_goesOn 18 = .ok (.aload_n 0, 1) := by decide +kernel
theorem dX11_goesOn_19 : decode cX11_goesOn 19 = .ok (.getfield 28, 3) := by decide +kernel
theorem dX11_goesOn_22 : decode cX11_goesOn 22 = .ok (.iconst 2, 1) := by decide +kernel
theorem dX11_goesOn_23 : decode cX11_goesOn 23 = .ok (.iaload, 1) := by decide +kernel
theorem dX11_goesOn_24 : decode cX11_goesOn 24 = .ok (.if_icmp .gt 41, 3) := by decide +kernel
theorem dX11_goesOn_27 : decode cX11_goesOn 27 = .ok (.aload_n 0, 1) := by decide +kernel
theorem dX11_goesOn_28 : decode cX11_goesOn 28 = .ok (.getfield 79, 3) := by decide +kernel
theorem dX11_goesOn_31 : decode cX11_goesOn 31 = .ok (.iload_n 2, 1) := by decide +kernel
theorem dX11_goesOn_32 : decode cX11_goesOn 32 = .ok (.iaload, 1) := by decide +kernel
theorem dX11_goesOn_33 : decode cX11_goesOn 33 = .ok (.iload_n 3, 1) := by decide +kernel
theorem dX11_goesOn_34 : decode cX11_goesOn 34 = .ok (.iadd, 1) := by decide +kernel
theorem dX11_goesOn_35 : decode cX11_goesOn 35 = .ok (.aload_n 0, 1) := by decide +kernel
theorem dX11_goesOn_36 : decode cX11_goesOn 36 = .ok (.getfield 79, 3) := by decide +kernel
theorem dX11_goesOn_39 : decode cX11_goesOn 39 = .ok (.iload_n 1, 1) := by decide +kernel
theorem dX11_goesOn_40 : decode cX11_goesOn 40 = .ok (.iaload, 1) := by decide +kernel
theorem dX11_goesOn_41 : decode cX11_goesOn 41 = .ok (.if_icmp .ne 24, 3) := by decide +kernel
theorem dX11_goesOn_44 : decode cX11_goesOn 44 = .ok (.aload_n 0, 1) := by decide +kernel
theorem dX11_goesOn_45 : decode cX11_goesOn 45 = .ok (.getfield 82, 3) := by decide +kernel
theorem dX11_goesOn_48 : decode cX11_goesOn 48 = .ok (.iload_n 2, 1) := by decide +kernel
theorem dX11_goesOn_49 : decode cX11_goesOn 49 = .ok (.iaload, 1) := by decide +kernel
theorem dX11_goesOn_50 : decode cX11_goesOn 50 = .ok (.iconst 1, 1) := by decide +kernel
theorem dX11_goesOn_51 : decode cX11_goesOn 51 = .ok (.iadd, 1) := by decide +kernel
theorem dX11_goesOn_52 : decode cX11_goesOn 52 = .ok (.aload_n 0, 1) := by decide +kernel
theorem dX11_goesOn_53 : decode cX11_goesOn 53 = .ok (.getfield 82, 3) := by decide +kernel
theorem dX11_goesOn_56 : decode cX11_goesOn 56 = .ok (.iload_n 1, 1) := by decide +kernel
theorem dX11_goesOn_57 : decode cX11_goesOn 57 = .ok (.iaload, 1) := by decide +kernel
theorem dX11_goesOn_58 : decode cX11_goesOn 58 = .ok (.if_icmp .ne 7, 3) := by decide +kernel
theorem dX11_goesOn_61 : decode cX11_goesOn 61 = .ok (.iconst 1, 1) := by decide +kernel
theorem dX11_goesOn_62 : decode cX11_goesOn 62 = .ok (.goto 4, 3) := by decide +kernel
theorem dX11_goesOn_65 : decode cX11_goesOn 65 = .ok (.iconst 0, 1) := by decide +kernel
theorem dX11_goesOn_66 : decode cX11_goesOn 66 = .ok (.ireturn, 1) := by decide +kernel
theorem dX11_chain_0 : decode cX11_chain 0 = .ok (.aload_n 0, 1) := by decide +kernel
theorem dX11_chain_1 : decode cX11_chain 1 = .ok (.iload_n 1, 1) := by decide +kernel
theorem dX11_chain_2 : decode cX11_chain 2 = .ok (.invokevirtual 166, 3) := by decide +kernel
theorem dX11_chain_5 : decode cX11_chain 5 = .ok (.ifCond .eq 35, 3) := by decide +kernel
theorem dX11_chain_8 : decode cX11_chain 8 = .ok (.aload_n 0, 1) := by decide +kernel
theorem dX11_chain_9 : decode cX11_chain 9 = .ok (.iload_n 2, 1) := by decide +kernel
theorem dX11_chain_10 : decode cX11_chain 10 = .ok (.invokevirtual 166, 3) := by decide +kernel
theorem dX11_chain_13 : decode cX11_chain 13 = .ok (.ifCond .eq 27, 3) := by decide +kernel
theorem dX11_chain_16 : decode cX11_chain 16 = .ok (.iload_n 3, 1) := by decide +kernel
theorem dX11_chain_17 : decode cX11_chain 17 = .ok (.i2l, 1) := by decide +kernel
theorem dX11_chain_18 : decode cX11_chain 18 = .ok (.lconst 0, 1) := by decide +kernel
theorem dX11_chain_19 : decode cX11_chain 19 = .ok (.lconst 1, 1) := by decide +kernel
theorem dX11_chain_20 : decode cX11_chain 20 = .ok (.invokestatic 156, 3) := by decide +kernel
theorem dX11_chain_23 : decode cX11_chain 23 = .ok (.ifCond .ne 19, 3) := by decide +kernel
theorem dX11_chain_26 : decode cX11_chain 26 = .ok (.iload_n 3, 1) := by decide +kernel
theorem dX11_chain_27 : decode cX11_chain 27 = .ok (.i2l, 1) := by decide +kernel
theorem dX11_chain_28 : decode cX11_chain 28 = .ok (.ldc2_w 283, 3) := by decide +kernel
theorem dX11_chain_31 : decode cX11_chain 31 = .ok (.ldc2_w 285, 3) := by decide +kernel
theorem dX11_chain_34 : decode cX11_chain 34 = .ok (.invokestatic 156, 3) := by decide +kernel
theorem dX11_chain_37 : decode cX11_chain 37 = .ok (.ifCond .ne 5, 3) := by decide +kernel
theorem dX11_chain_40 : decode cX11_chain 40 = .ok (.iconst (-1), 1) := by decide +kernel
theorem dX11_chain_41 : decode cX11_chain 41 = .ok (.ireturn, 1) := by decide +kernel
theorem dX11_chain_42 : decode cX11_chain 42 = .ok (.aload_n 0, 1) := by decide +kernel
theorem dX11_chain_43 : decode cX11_chain 43 = .ok (.invokevirtual 279, 3) := by decide +kernel
theorem dX11_chain_46 : decode cX11_chain 46 = .ok (.aload_n 0, 1) := by decide +kernel
theorem dX11_chain_47 : decode cX11_chain 47 = .ok (.iload_n 2, 1) := by decide +kernel
theorem dX11_chain_48 : decode cX11_chain 48 = .ok (.invokevirtual 287, 3) := by decide +kernel
theorem dX11_chain_51 : decode cX11_chain 51 = .ok (.aload_n 0, 1) := by decide +kernel
theorem dX11_chain_52 : decode cX11_chain 52 = .ok (.getfield 79, 3) := by decide +kernel
theorem dX11_chain_55 : decode cX11_chain 55 = .ok (.iload_n 1, 1) := by decide +kernel
theorem dX11_chain_56 : decode cX11_chain 56 = .ok (.iaload, 1) := by decide +kernel
theorem dX11_chain_57 : decode cX11_chain 57 = .ok (.ldc_w 282, 3) := by decide +kernel
theorem dX11_chain_60 : decode cX11_chain 60 = .ok (.if_icmp .ne 6, 3) := by decide +kernel
theorem dX11_chain_63 : decode cX11_chain 63 = .ok (.bipush (-4), 2) := by decide +kernel
theorem dX11_chain_65 : decode cX11_chain 65 = .ok (.ireturn, 1) := by decide +kernel
theorem dX11_chain_66 : decode cX11_chain 66 = .ok (.iload_n 3, 1) := by decide +kernel
theorem dX11_chain_67 : decode cX11_chain 67 = .ok (.bipush 10, 2) := by decide +kernel
theorem dX11_chain_69 : decode cX11_chain 69 = .ok (.if_icmp .ge 23, 3) := by decide +kernel
theorem dX11_chain_72 : decode cX11_chain 72 = .ok (.iload_n 3, 1) := by decide +kernel
theorem dX11_chain_73 : decode cX11_chain 73 = .ok (.ifCond .ne 12, 3) := by decide +kernel
theorem dX11_chain_76 : decode cX11_chain 76 = .ok (.aload_n 0, 1) := by decide +kernel
theorem dX11_chain_77 : decode cX11_chain 77 = .ok (.getfield 82, 3) := by decide +kernel
theorem dX11_chain_80 : decode cX11_chain 80 = .ok (.iload_n 1, 1) := by decide +kernel
theorem dX11_chain_81 : decode cX11_chain 81 = .ok (.iaload, 1) := by decide +kernel
theorem dX11_chain_82 : decode cX11_chain 82 = .ok (.goto 9, 3) := by decide +kernel
theorem dX11_chain_85 : decode cX11_chain 85 = .ok (.aload_n 0, 1) := by decide +kernel
theorem dX11_chain_86 : decode cX11_chain 86 = .ok (.getfield 79, 3) := by decide +kernel
theorem dX11_chain_89 : decode cX11_chain 89 = .ok (.iload_n 1, 1) := by decide +kernel
theorem dX11_chain_90 : decode cX11_chain 90 = .ok (.iaload, 1) := by decide +kernel
theorem dX11_chain_91 : decode cX11_chain 91 = .ok (.ireturn, 1) := by decide +kernel
theorem dX11_chain_92 : decode cX11_chain 92 = .ok (.iload_n 3, 1) := by decide +kernel
theorem dX11_chain_93 : decode cX11_chain 93 = .ok (.bipush 10, 2) := by decide +kernel
theorem dX11_chain_95 : decode cX11_chain 95 = .ok (.isub, 1) := by decide +kernel
theorem dX11_chain_96 : decode cX11_chain 96 = .ok (.aload_n 0, 1) := by decide +kernel
theorem dX11_chain_97 : decode cX11_chain 97 = .ok (.getfield 82, 3) := by decide +kernel
theorem dX11_chain_100 : decode cX11_chain 100 = .ok (.iload_n 1, 1) := by decide +kernel
theorem dX11_chain_101 : decode cX11_chain 101 = .ok (.iaload, 1) := by decide +kernel
theorem dX11_chain_102 : decode cX11_chain 102 = .ok (.if_icmp .lt 6, 3) := by decide +kernel
theorem dX11_chain_105 : decode cX11_chain 105 = .ok (.bipush (-4), 2) := by decide +kernel
theorem dX11_chain_107 : decode cX11_chain 107 = .ok (.ireturn, 1) := by decide +kernel
theorem dX11_chain_108 : decode cX11_chain 108 = .ok (.iload_n 1, 1) := by decide +kernel
theorem dX11_chain_109 : decode cX11_chain 109 = .ok (.istore 4, 2) := by decide +kernel
theorem dX11_chain_111 : decode cX11_chain 111 = .ok (.bipush 10, 2) := by decide +kernel
theorem dX11_chain_113 : decode cX11_chain 113 = .ok (.istore 5, 2) := by decide +kernel
theorem dX11_chain_115 : decode cX11_chain 115 = .ok (.iload 5, 2) := by decide +kernel
theorem dX11_chain_117 : decode cX11_chain 117 = .ok (.iload_n 3, 1) := by decide +kernel
theorem dX11_chain_118 : decode cX11_chain 118 = .ok (.if_icmp .ge 33, 3) := by decide +kernel
theorem dX11_chain_121 : decode cX11_chain 121 = .ok (.iconst 0, 1) := by decide +kernel
theorem dX11_chain_122 : decode cX11_chain 122 = .ok (.istore 6, 2) := by decide +kernel
theorem dX11_chain_124 : decode cX11_chain 124 = .ok (.aload_n 0, 1) := by decide +kernel
theorem dX11_chain_125 : decode cX11_chain 125 = .ok (.iload 4, 2) := by decide +kernel
theorem dX11_chain_127 : decode cX11_chain 127 = .ok (.iload 6, 2) := by decide +kernel
theorem dX11_chain_129 : decode cX11_chain 129 = .ok (.invokevirtual 290, 3) := by decide +kernel
theorem dX11_chain_132 : decode cX11_chain 132 = .ok (.ifCond .ne 9, 3) := by decide +kernel
theorem dX11_chain_135 : decode cX11_chain 135 = .ok (.iinc 6 1, 3) := by decide +kernel
theorem dX11_chain_138 : decode cX11_chain 138 = .ok (.goto (-14), 3) := by decide +kernel
theorem dX11_chain_141 : decode cX11_chain 141 = .ok (.iload 6, 2) := by decide +kernel
theorem dX11_chain_143 : decode cX11_chain 143 = .ok (.istore 4, 2) := by decide +kernel
theorem dX11_chain_145 : decode cX11_chain 145 = .ok (.iinc 5 1, 3) := by decide +kernel
theorem dX11_chain_148 : decode cX11_chain 148 = .ok (.goto (-33), 3) := by decide +kernel
theorem dX11_chain_151 : decode cX11_chain 151 = .ok (.iload 4, 2) := by decide +kernel
theorem dX11_chain_153 : decode cX11_chain 153 = .ok (.ireturn, 1) := by decide +kernel
theorem dX11_sizeOf_0 : decode cX11_sizeOf 0 = .ok (.iconst 0, 1) := by decide +kernel
theorem dX11_sizeOf_1 : decode cX11_sizeOf 1 = .ok (.istore_n 1, 1) := by decide +kernel
theorem dX11_sizeOf_2 : decode cX11_sizeOf 2 = .ok (.iconst 0, 1) := by decide +kernel
theorem dX11_sizeOf_3 : decode cX11_sizeOf 3 = .ok (.istore_n 2, 1) := by decide +kernel
theorem dX11_sizeOf_4 : decode cX11_sizeOf 4 = .ok (.iload_n 2, 1) := by decide +kernel
theorem dX11_sizeOf_5 : decode cX11_sizeOf 5 = .ok (.bipush 16, 2) := by decide +kernel
theorem dX11_sizeOf_7 : decode cX11_sizeOf 7 = .ok (.if_icmp .ge 17, 3) := by decide +kernel
theorem dX11_sizeOf_10 : decode cX11_sizeOf 10 = .ok (.iload_n 1, 1) := by decide +kernel
theorem dX11_sizeOf_11 : decode cX11_sizeOf 11 = .ok (.iload_n 0, 1) := by decide +kernel
theorem dX11_sizeOf_12 : decode cX11_sizeOf 12 = .ok (.iload_n 2, 1) := by decide +kernel
theorem dX11_sizeOf_13 : decode cX11_sizeOf 13 = .ok (.ishr, 1) := by decide +kernel
theorem dX11_sizeOf_14 : decode cX11_sizeOf 14 = .ok (.iconst 1, 1) := by decide +kernel
theorem dX11_sizeOf_15 : decode cX11_sizeOf 15 = .ok (.iand, 1) := by decide +kernel
theorem dX11_sizeOf_16 : decode cX11_sizeOf 16 = .ok (.iadd, 1) := by decide +kernel
theorem dX11_sizeOf_17 : decode cX11_sizeOf 17 = .ok (.istore_n 1, 1) := by decide +kernel
theorem dX11_sizeOf_18 : decode cX11_sizeOf 18 = .ok (.iinc 2 1, 3) := by decide +kernel
theorem dX11_sizeOf_21 : decode cX11_sizeOf 21 = .ok (.goto (-17), 3) := by decide +kernel
theorem dX11_sizeOf_24 : decode cX11_sizeOf 24 = .ok (.iload_n 1, 1) := by decide +kernel
theorem dX11_sizeOf_25 : decode cX11_sizeOf 25 = .ok (.ireturn, 1) := by decide +kernel
theorem dX11_standing_0 : decode cX11_standing 0 = .ok (.iload_n 1, 1) := by decide +kernel
theorem dX11_standing_1 : decode cX11_standing 1 = .ok (.i2l, 1) := by decide +kernel
theorem dX11_standing_2 : decode cX11_standing 2 = .ok (.lconst 0, 1) := by decide +kernel
theorem dX11_standing_3 : decode cX11_standing 3 = .ok (.ldc2_w 294, 3) := by decide +kernel
theorem dX11_standing_6 : decode cX11_standing 6 = .ok (.invokestatic 156, 3) := by decide +kernel
theorem dX11_standing_9 : decode cX11_standing 9 = .ok (.ifCond .ne 5, 3) := by decide +kernel
theorem dX11_standing_12 : decode cX11_standing 12 = .ok (.iconst (-1), 1) := by decide +kernel
theorem dX11_standing_13 : decode cX11_standing 13 = .ok (.ireturn, 1) := by decide +kernel
theorem dX11_standing_14 : decode cX11_standing 14 = .ok (.aload_n 0, 1) := by decide +kernel
theorem dX11_standing_15 : decode cX11_standing 15 = .ok (.invokevirtual 279, 3) := by decide +kernel
theorem dX11_standing_18 : decode cX11_standing 18 = .ok (.iconst 0, 1) := by decide +kernel
theorem dX11_standing_19 : decode cX11_standing 19 = .ok (.istore_n 2, 1) := by decide +kernel
theorem dX11_standing_20 : decode cX11_standing 20 = .ok (.iconst 0, 1) := by decide +kernel
theorem dX11_standing_21 : decode cX11_standing 21 = .ok (.istore_n 3, 1) := by decide +kernel
theorem dX11_standing_22 : decode cX11_standing 22 = .ok (.iload_n 3, 1) := by decide +kernel
theorem dX11_standing_23 : decode cX11_standing 23 = .ok (.aload_n 0, 1) := by decide +kernel
theorem dX11_standing_24 : decode cX11_standing 24 = .ok (.getfield 152, 3) := by decide +kernel
theorem dX11_standing_27 : decode cX11_standing 27 = .ok (.if_icmp .ge 96, 3) := by decide +kernel
theorem dX11_standing_30 : decode cX11_standing 30 = .ok (.iload_n 2, 1) := by decide +kernel
theorem dX11_standing_31 : decode cX11_standing 31 = .ok (.aload_n 0, 1) := by decide +kernel
theorem dX11_standing_32 : decode cX11_standing 32 = .ok (.getfield 73, 3) := by decide +kernel
theorem dX11_standing_35 : decode cX11_standing 35 = .ok (.iload_n 3, 1) := by decide +kernel
theorem dX11_standing_36 : decode cX11_standing 36 = .ok (.iaload, 1) := by decide +kernel
theorem dX11_standing_37 : decode cX11_standing 37 = .ok (.iload_n 3, 1) := by decide +kernel
theorem dX11_standing_38 : decode cX11_standing 38 = .ok (.if_icmp .ne 7, 3) := by decide +kernel
theorem dX11_standing_41 : decode cX11_standing 41 = .ok (.iconst 1, 1) := by decide +kernel
theorem dX11_standing_42 : decode cX11_standing 42 = .ok (.goto 4, 3) := by decide +kernel
theorem dX11_standing_45 : decode cX11_standing 45 = .ok (.iconst 0, 1) := by decide +kernel
theorem dX11_standing_46 : decode cX11_standing 46 = .ok (.iadd, 1) := by decide +kernel
theorem dX11_standing_47 : decode cX11_standing 47 = .ok (.istore_n 2, 1) := by decide +kernel
theorem dX11_standing_48 : decode cX11_standing 48 = .ok (.aload_n 0, 1) := by decide +kernel
theorem dX11_standing_49 : decode cX11_standing 49 = .ok (.getfield 85, 3) := by decide +kernel
theorem dX11_standing_52 : decode cX11_standing 52 = .ok (.iload_n 3, 1) := by decide +kernel
theorem dX11_standing_53 : decode cX11_standing 53 = .ok (.iconst 0, 1) := by decide +kernel
theorem dX11_standing_54 : decode cX11_standing 54 = .ok (.iastore, 1) := by decide +kernel
theorem dX11_standing_55 : decode cX11_standing 55 = .ok (.iconst 0, 1) := by decide +kernel
theorem dX11_standing_56 : decode cX11_standing 56 = .ok (.istore 4, 2) := by decide +kernel
theorem dX11_standing_58 : decode cX11_standing 58 = .ok (.iload 4, 2) := by decide +kernel
theorem dX11_standing_60 : decode cX11_standing 60 = .ok (.aload_n 0, 1) := by decide +kernel
theorem dX11_standing_61 : decode cX11_standing 61 = .ok (.getfield 152, 3) := by decide +kernel
theorem dX11_standing_64 : decode cX11_standing 64 = .ok (.if_icmp .ge 53, 3) := by decide +kernel
theorem dX11_standing_67 : decode cX11_standing 67 = .ok (.aload_n 0, 1) := by decide +kernel
theorem dX11_standing_68 : decode cX11_standing 68 = .ok (.getfield 85, 3) := by decide +kernel
theorem dX11_standing_71 : decode cX11_standing 71 = .ok (.iload_n 3, 1) := by decide +kernel
theorem dX11_standing_72 : decode cX11_standing 72 = .ok (.dup2, 1) := by decide +kernel
theorem dX11_standing_73 : decode cX11_standing 73 = .ok (.iaload, 1) := by decide +kernel
theorem dX11_standing_74 : decode cX11_standing 74 = .ok (.iload_n 3, 1) := by decide +kernel
theorem dX11_standing_75 : decode cX11_standing 75 = .ok (.iload 4, 2) := by decide +kernel
theorem dX11_standing_77 : decode cX11_standing 77 = .ok (.if_icmp .eq 24, 3) := by decide +kernel
theorem dX11_standing_80 : decode cX11_standing 80 = .ok (.aload_n 0, 1) := by decide +kernel
theorem dX11_standing_81 : decode cX11_standing 81 = .ok (.getfield 70, 3) := by decide +kernel
theorem dX11_standing_84 : decode cX11_standing 84 = .ok (.bipush 16, 2) := by decide +kernel
theorem dX11_standing_86 : decode cX11_standing 86 = .ok (.iload_n 3, 1) := by decide +kernel
theorem dX11_standing_87 : decode cX11_standing 87 = .ok (.imul, 1) := by decide +kernel
theorem dX11_standing_88 : decode cX11_standing 88 = .ok (.iload 4, 2) := by decide +kernel
theorem dX11_standing_90 : decode cX11_standing 90 = .ok (.iadd, 1) := by decide +kernel
theorem dX11_standing_91 : decode cX11_standing 91 = .ok (.iaload, 1) := by decide +kernel
theorem dX11_standing_92 : decode cX11_standing 92 = .ok (.aload_n 0, 1) := by decide +kernel
theorem dX11_standing_93 : decode cX11_standing 93 = .ok (.getfield 28, 3) := by decide +kernel
theorem dX11_standing_96 : decode cX11_standing 96 = .ok (.iconst 2, 1) := by decide +kernel
theorem dX11_standing_97 : decode cX11_standing 97 = .ok (.iaload, 1) := by decide +kernel
theorem dX11_standing_98 : decode cX11_standing 98 = .ok (.if_icmp .gt 10, 3) := by decide +kernel
theorem dX11_standing_101 : decode cX11_standing 101 = .ok (.iconst 1, 1) := by decide +kernel
theorem dX11_standing_102 : decode cX11_standing 102 = .ok (.iload 4, 2) := by decide +kernel
theorem dX11_standing_104 : decode cX11_standing 104 = .ok (.ishl, 1) := by decide +kernel
theorem dX11_standing_105 : decode cX11_standing 105 = .ok (.goto 4, 3) := by decide +kernel
theorem dX11_standing_108 : decode cX11_standing 108 = .ok (.iconst 0, 1) := by decide +kernel
theorem dX11_standing_109 : decode cX11_standing 109 = .ok (.ior, 1) := by decide +kernel
theorem dX11_standing_110 : decode cX11_standing 110 = .ok (.iastore, 1) := by decide +kernel
theorem dX11_standing_111 : decode cX11_standing 111 = .ok (.iinc 4 1, 3) := by decide +kernel
theorem dX11_standing_114 : decode cX11_standing 114 = .ok (.goto (-56), 3) := by decide +kernel
theorem dX11_standing_117 : decode cX11_standing 117 = .ok (.iinc 3 1, 3) := by decide +kernel
theorem dX11_standing_120 : decode cX11_standing 120 = .ok (.goto (-98), 3) := by decide +kernel
theorem dX11_standing_123 : decode cX11_standing 123 = .ok (.iconst 1, 1) := by decide +kernel
theorem dX11_standing_124 : decode cX11_standing 124 = .ok (.aload_n 0, 1) := by decide +kernel
theorem dX11_standing_125 : decode cX11_standing 125 = .ok (.getfield 152, 3) := by decide +kernel
theorem dX11_standing_128 : decode cX11_standing 128 = .ok (.ishl, 1) := by decide +kernel
theorem dX11_standing_129 : decode cX11_standing 129 = .ok (.iconst 1, 1) := by decide +kernel
theorem dX11_standing_130 : decode cX11_standing 130 = .ok (.isub, 1) := by decide +kernel
theorem dX11_standing_131 : decode cX11_standing 131 = .ok (.istore_n 3, 1) := by decide +kernel
theorem dX11_standing_132 : decode cX11_standing 132 = .ok (.iload_n 3, 1) := by decide +kernel
theorem dX11_standing_133 : decode cX11_standing 133 = .ok (.istore 4, 2) := by decide +kernel
theorem dX11_standing_135 : decode cX11_standing 135 = .ok (.iconst 0, 1) := by decide +kernel
theorem dX11_standing_136 : decode cX11_standing 136 = .ok (.istore 5, 2) := by decide +kernel
theorem dX11_standing_138 : decode cX11_standing 138 = .ok (.iload 5, 2) := by decide +kernel
theorem dX11_standing_140 : decode cX11_standing 140 = .ok (.iload_n 3, 1) := by decide +kernel
theorem dX11_standing_141 : decode cX11_standing 141 = .ok (.if_icmp .gt 85, 3) := by decide +kernel
theorem dX11_standing_144 : decode cX11_standing 144 = .ok (.iload_n 1, 1) := by decide +kernel
theorem dX11_standing_145 : decode cX11_standing 145 = .ok (.iconst 2, 1) := by decide +kernel
theorem dX11_standing_146 : decode cX11_standing 146 = .ok (.if_icmp .ge 80, 3) := by decide +kernel
theorem dX11_standing_149 : decode cX11_standing 149 = .ok (.iconst 0, 1) := by decide +kernel
theorem dX11_standing_150 : decode cX11_standing 150 = .ok (.istore 6, 2) := by decide +kernel
theorem dX11_standing_152 : decode cX11_standing 152 = .ok (.iconst 0, 1) := by decide +kernel
theorem dX11_standing_153 : decode cX11_standing 153 = .ok (.istore 7, 2) := by decide +kernel
theorem dX11_standing_155 : decode cX11_standing 155 = .ok (.iload 7, 2) := by decide +kernel
theorem dX11_standing_157 : decode cX11_standing 157 = .ok (.aload_n 0, 1) := by decide +kernel
theorem dX11_standing_158 : decode cX11_standing 158 = .ok (.getfield 152, 3) := by decide +kernel
theorem dX11_standing_161 : decode cX11_standing 161 = .ok (.if_icmp .ge 36, 3) := by decide +kernel
theorem dX11_standing_164 : decode cX11_standing 164 = .ok (.iload 6, 2) := by decide +kernel
theorem dX11_standing_166 : decode cX11_standing 166 = .ok (.iload 5, 2) := by decide +kernel
theorem dX11_standing_168 : decode cX11_standing 168 = .ok (.iload 7, 2) := by decide +kernel
theorem dX11_standing_170 : decode cX11_standing 170 = .ok (.ishr, 1) := by decide +kernel
theorem dX11_standing_171 : decode cX11_standing 171 = .ok (.iconst 1, 1) := by decide +kernel
theorem dX11_standing_172 : decode cX11_standing 172 = .ok (.iand, 1) := by decide +kernel
theorem dX11_standing_173 : decode cX11_standing 173 = .ok (.iconst 1, 1) := by decide +kernel
theorem dX11_standing_174 : decode cX11_standing 174 = .ok (.if_icmp .ne 13, 3) := by decide +kernel
theorem dX11_standing_177 : decode cX11_standing 177 = .ok (.aload_n 0, 1) := by decide +kernel
theorem dX11_standing_178 : decode cX11_standing 178 = .ok (.getfield 85, 3) := by decide +kernel
theorem dX11_standing_181 : decode cX11_standing 181 = .ok (.iload 7, 2) := by decide +kernel
theorem dX11_standing_183 : decode cX11_standing 183 = .ok (.iaload, 1) := by decide +kernel
theorem dX11_standing_184 : decode cX11_standing 184 = .ok (.goto 4, 3) := by decide +kernel
theorem dX11_standing_187 : decode cX11_standing 187 = .ok (.iconst 0, 1) := by decide +kernel
theorem dX11_standing_188 : decode cX11_standing 188 = .ok (.ior, 1) := by decide +kernel
theorem dX11_standing_189 : decode cX11_standing 189 = .ok (.istore 6, 2) := by decide +kernel
theorem dX11_standing_191 : decode cX11_standing 191 = .ok (.iinc 7 1, 3) := by decide +kernel
theorem dX11_standing_194 : decode cX11_standing 194 = .ok (.goto (-39), 3) := by decide +kernel
theorem dX11_standing_197 : decode cX11_standing 197 = .ok (.iload 6, 2) := by decide +kernel
theorem dX11_standing_199 : decode cX11_standing 199 = .ok (.iload_n 3, 1) := by decide +kernel
theorem dX11_standing_200 : decode cX11_standing 200 = .ok (.if_icmp .ne 20, 3) := by decide +kernel
theorem dX11_standing_203 : decode cX11_standing 203 = .ok (.iload 5, 2) := by decide +kernel
theorem dX11_standing_205 : decode cX11_standing 205 = .ok (.invokestatic 296, 3) := by decide +kernel
theorem dX11_standing_208 : decode cX11_standing 208 = .ok (.iload 4, 2) := by decide +kernel
theorem dX11_standing_210 : decode cX11_standing 210 = .ok (.invokestatic 296, 3) := by decide +kernel
theorem dX11_standing_213 : decode cX11_standing 213 = .ok (.if_icmp .ge 7, 3) := by decide +kernel
theorem dX11_standing_216 : decode cX11_standing 216 = .ok (.iload 5, 2) := by decide +kernel
theorem dX11_standing_218 : decode cX11_standing 218 = .ok (.istore 4, 2) := by decide +kernel
theorem dX11_standing_220 : decode cX11_standing 220 = .ok (.iinc 5 1, 3) := by decide +kernel
theorem dX11_standing_223 : decode cX11_standing 223 = .ok (.goto (-85), 3) := by decide +kernel
theorem dX11_standing_226 : decode cX11_standing 226 = .ok (.iload_n 1, 1) := by decide +kernel
theorem dX11_standing_227 : decode cX11_standing 227 = .ok (.ifCond .ne 11, 3) := by decide +kernel
theorem dX11_standing_230 : decode cX11_standing 230 = .ok (.iload 4, 2) := by decide +kernel
theorem dX11_standing_232 : decode cX11_standing 232 = .ok (.invokestatic 296, 3) := by decide +kernel
theorem dX11_standing_235 : decode cX11_standing 235 = .ok (.goto 22, 3) := by decide +kernel
theorem dX11_standing_238 : decode cX11_standing 238 = .ok (.iload_n 1, 1) := by decide +kernel
theorem dX11_standing_239 : decode cX11_standing 239 = .ok (.iconst 1, 1) := by decide +kernel
theorem dX11_standing_240 : decode cX11_standing 240 = .ok (.if_icmp .ne 16, 3) := by decide +kernel
theorem dX11_standing_243 : decode cX11_standing 243 = .ok (.aload_n 0, 1) := by decide +kernel
theorem dX11_standing_244 : decode cX11_standing 244 = .ok (.iload 4, 2) := by decide +kernel
theorem dX11_standing_246 : decode cX11_standing 246 = .ok (.invokestatic 296, 3) := by decide +kernel
theorem dX11_standing_249 : decode cX11_standing 249 = .ok (.iload_n 3, 1) := by decide +kernel
theorem dX11_standing_250 : decode cX11_standing 250 = .ok (.invokevirtual 299, 3) := by decide +kernel
theorem dX11_standing_253 : decode cX11_standing 253 = .ok (.goto 4, 3) := by decide +kernel
theorem dX11_standing_256 : decode cX11_standing 256 = .ok (.iload_n 2, 1) := by decide +kernel
theorem dX11_standing_257 : decode cX11_standing 257 = .ok (.ireturn, 1) := by decide +kernel
theorem dX11_firstAsFew_0 : decode cX11_firstAsFew 0 = .ok (.iconst 0, 1) := by decide +kernel
theorem dX11_firstAsFew_1 : decode cX11_firstAsFew 1 = .ok (.istore_n 3, 1) := by decide +kernel
theorem dX11_firstAsFew_2 : decode cX11_firstAsFew 2 = .ok (.iload_n 3, 1) := by decide +kernel
theorem dX11_firstAsFew_3 : decode cX11_firstAsFew 3 = .ok (.iload_n 2, 1) := by decide +kernel
theorem dX11_firstAsFew_4 : decode cX11_firstAsFew 4 = .ok (.if_icmp .gt 72, 3) := by decide +kernel
theorem dX11_firstAsFew_7 : decode cX11_firstAsFew 7 = .ok (.iconst 0, 1) := by decide +kernel
theorem dX11_firstAsFew_8 : decode cX11_firstAsFew 8 = .ok (.istore 4, 2) := by decide +kernel
theorem dX11_firstAsFew_10 : decode cX11_firstAsFew 10 = .ok (.iconst 0, 1) := by decide +kernel
theorem dX11_firstAsFew_11 : decode cX11_firstAsFew 11 = .ok (.istore 5, 2) := by decide +kernel
theorem dX11_firstAsFew_13 : decode cX11_firstAsFew 13 = .ok (.iload 5, 2) := by decide +kernel
theorem dX11_firstAsFew_15 : decode cX11_firstAsFew 15 = .ok (.aload_n 0, 1) := by decide +kernel
theorem dX11_firstAsFew_16 : decode cX11_firstAsFew 16 = .ok (.getfield 152, 3) := by decide +kernel
theorem dX11_firstAsFew_19 : decode cX11_firstAsFew 19 = .ok (.if_icmp .ge 35, 3) := by decide +kernel
theorem dX11_firstAsFew_22 : decode cX11_firstAsFew 22 = .ok (.iload 4, 2) := by decide +kernel
theorem dX11_firstAsFew_24 : decode cX11_firstAsFew 24 = .ok (.iload_n 3, 1) := by decide +kernel
theorem dX11_firstAsFew_25 : decode cX11_firstAsFew 25 = .ok (.iload 5, 2) := by decide +kernel
theorem dX11_firstAsFew_27 : decode cX11_firstAsFew 27 = .ok (.ishr, 1) := by decide +kernel
theorem dX11_firstAsFew_28 : decode cX11_firstAsFew 28 = .ok (.iconst 1, 1) := by decide +kernel
theorem dX11_firstAsFew_29 : decode cX11_firstAsFew 29 = .ok (.iand, 1) := by decide +kernel
theorem dX11_firstAsFew_30 : decode cX11_firstAsFew 30 = .ok (.iconst 1, 1) := by decide +kernel
theorem dX11_firstAsFew_31 : decode cX11_firstAsFew 31 = .ok (.if_icmp .ne 13, 3) := by decide +kernel
theorem dX11_firstAsFew_34 : decode cX11_firstAsFew 34 = .ok (.aload_n 0, 1) := by decide +kernel
theorem dX11_firstAsFew_35 : decode cX11_firstAsFew 35 = .ok (.getfield 85, 3) := by decide +kernel
theorem dX11_firstAsFew_38 : decode cX11_firstAsFew 38 = .ok (.iload 5, 2) := by decide +kernel
theorem dX11_firstAsFew_40 : decode cX11_firstAsFew 40 = .ok (.iaload, 1) := by decide +kernel
theorem dX11_firstAsFew_41 : decode cX11_firstAsFew 41 = .ok (.goto 4, 3) := by decide +kernel
theorem dX11_firstAsFew_44 : decode cX11_firstAsFew 44 = .ok (.iconst 0, 1) := by decide +kernel
theorem dX11_firstAsFew_45 : decode cX11_firstAsFew 45 = .ok (.ior, 1) := by decide +kernel
theorem dX11_firstAsFew_46 : decode cX11_firstAsFew 46 = .ok (.istore 4, 2) := by decide +kernel
theorem dX11_firstAsFew_48 : decode cX11_firstAsFew 48 = .ok (.iinc 5 1, 3) := by decide +kernel
theorem dX11_firstAsFew_51 : decode cX11_firstAsFew 51 = .ok (.goto (-38), 3) := by decide +kernel
theorem dX11_firstAsFew_54 : decode cX11_firstAsFew 54 = .ok (.iload 4, 2) := by decide +kernel
theorem dX11_firstAsFew_56 : decode cX11_firstAsFew 56 = .ok (.iload_n 2, 1) := by decide +kernel
theorem dX11_firstAsFew_57 : decode cX11_firstAsFew 57 = .ok (.if_icmp .ne 13, 3) := by decide +kernel
theorem dX11_firstAsFew_60 : decode cX11_firstAsFew 60 = .ok (.iload_n 3, 1) := by decide +kernel
theorem dX11_firstAsFew_61 : decode cX11_firstAsFew 61 = .ok (.invokestatic 296, 3) := by decide +kernel
theorem dX11_firstAsFew_64 : decode cX11_firstAsFew 64 = .ok (.iload_n 1, 1) := by decide +kernel
theorem dX11_firstAsFew_65 : decode cX11_firstAsFew 65 = .ok (.if_icmp .ne 5, 3) := by decide +kernel
theorem dX11_firstAsFew_68 : decode cX11_firstAsFew 68 = .ok (.iload_n 3, 1) := by decide +kernel
theorem dX11_firstAsFew_69 : decode cX11_firstAsFew 69 = .ok (.ireturn, 1) := by decide +kernel
theorem dX11_firstAsFew_70 : decode cX11_firstAsFew 70 = .ok (.iinc 3 1, 3) := by decide +kernel
theorem dX11_firstAsFew_73 : decode cX11_firstAsFew 73 = .ok (.goto (-71), 3) := by decide +kernel
theorem dX11_firstAsFew_76 : decode cX11_firstAsFew 76 = .ok (.iload_n 2, 1) := by decide +kernel
theorem dX11_firstAsFew_77 : decode cX11_firstAsFew 77 = .ok (.ireturn, 1) := by decide +kernel
theorem dX11_isPlace_0 : decode cX11_isPlace 0 = .ok (.iload_n 1, 1) := by decide +kernel
theorem dX11_isPlace_1 : decode cX11_isPlace 1 = .ok (.i2l, 1) := by decide +kernel
theorem dX11_isPlace_2 : decode cX11_isPlace 2 = .ok (.lconst 0, 1) := by decide +kernel
theorem dX11_isPlace_3 : decode cX11_isPlace 3 = .ok (.aload_n 0, 1) := by decide +kernel
theorem dX11_isPlace_4 : decode cX11_isPlace 4 = .ok (.getfield 302, 3) := by decide +kernel
theorem dX11_isPlace_7 : decode cX11_isPlace 7 = .ok (.iconst 1, 1) := by decide +kernel
theorem dX11_isPlace_8 : decode cX11_isPlace 8 = .ok (.isub, 1) := by decide +kernel
theorem dX11_isPlace_9 : decode cX11_isPlace 9 = .ok (.i2l, 1) := by decide +kernel
theorem dX11_isPlace_10 : decode cX11_isPlace 10 = .ok (.invokestatic 156, 3) := by decide +kernel
theorem dX11_isPlace_13 : decode cX11_isPlace 13 = .ok (.ireturn, 1) := by decide +kernel
theorem dX11_isBook_0 : decode cX11_isBook 0 = .ok (.iload_n 1, 1) := by decide +kernel
theorem dX11_isBook_1 : decode cX11_isBook 1 = .ok (.i2l, 1) := by decide +kernel
theorem dX11_isBook_2 : decode cX11_isBook 2 = .ok (.lconst 0, 1) := by decide +kernel
theorem dX11_isBook_3 : decode cX11_isBook 3 = .ok (.aload_n 0, 1) := by decide +kernel
theorem dX11_isBook_4 : decode cX11_isBook 4 = .ok (.getfield 305, 3) := by decide +kernel
theorem dX11_isBook_7 : decode cX11_isBook 7 = .ok (.iconst 1, 1) := by decide +kernel
theorem dX11_isBook_8 : decode cX11_isBook 8 = .ok (.isub, 1) := by decide +kernel
theorem dX11_isBook_9 : decode cX11_isBook 9 = .ok (.i2l, 1) := by decide +kernel
theorem dX11_isBook_10 : decode cX11_isBook 10 = .ok (.invokestatic 156, 3) := by decide +kernel
theorem dX11_isBook_13 : decode cX11_isBook 13 = .ok (.ireturn, 1) := by decide +kernel
theorem dX11_isLine_0 : decode cX11_isLine 0 = .ok (.iload_n 1, 1) := by decide +kernel
theorem dX11_isLine_1 : decode cX11_isLine 1 = .ok (.i2l, 1) := by decide +kernel
theorem dX11_isLine_2 : decode cX11_isLine 2 = .ok (.lconst 0, 1) := by decide +kernel
theorem dX11_isLine_3 : decode cX11_isLine 3 = .ok (.aload_n 0, 1) := by decide +kernel
theorem dX11_isLine_4 : decode cX11_isLine 4 = .ok (.getfield 308, 3) := by decide +kernel
theorem dX11_isLine_7 : decode cX11_isLine 7 = .ok (.iconst 1, 1) := by decide +kernel
theorem dX11_isLine_8 : decode cX11_isLine 8 = .ok (.isub, 1) := by decide +kernel
theorem dX11_isLine_9 : decode cX11_isLine 9 = .ok (.i2l, 1) := by decide +kernel
theorem dX11_isLine_10 : decode cX11_isLine 10 = .ok (.invokestatic 156, 3) := by decide +kernel
theorem dX11_isLine_13 : decode cX11_isLine 13 = .ok (.ireturn, 1) := by decide +kernel
theorem dX11_place_0 : decode cX11_place 0 = .ok (.iload_n 1, 1) := by decide +kernel
theorem dX11_place_1 : decode cX11_place 1 = .ok (.i2l, 1) := by decide +kernel
theorem dX11_place_2 : decode cX11_place 2 = .ok (.lconst 0, 1) := by decide +kernel
theorem dX11_place_3 : decode cX11_place 3 = .ok (.ldc2_w 311, 3) := by decide +kernel
theorem dX11_place_6 : decode cX11_place 6 = .ok (.invokestatic 156, 3) := by decide +kernel
theorem dX11_place_9 : decode cX11_place 9 = .ok (.ifCond .eq 15, 3) := by decide +kernel
theorem dX11_place_12 : decode cX11_place 12 = .ok (.iload_n 2, 1) := by decide +kernel
theorem dX11_place_13 : decode cX11_place 13 = .ok (.i2l, 1) := by decide +kernel
theorem dX11_place_14 : decode cX11_place 14 = .ok (.lconst 0, 1) := by decide +kernel
theorem dX11_place_15 : decode cX11_place 15 = .ok (.ldc2_w 311, 3) := by decide +kernel
theorem dX11_place_18 : decode cX11_place 18 = .ok (.invokestatic 156, 3) := by decide +kernel
theorem dX11_place_21 : decode cX11_place 21 = .ok (.ifCond .ne 5, 3) := by decide +kernel
theorem dX11_place_24 : decode cX11_place 24 = .ok (.iconst (-1), 1) := by decide +kernel
theorem dX11_place_25 : decode cX11_place 25 = .ok (.ireturn, 1) := by decide +kernel
theorem dX11_place_26 : decode cX11_place 26 = .ok (.aload_n 0, 1) := by decide +kernel
theorem dX11_place_27 : decode cX11_place 27 = .ok (.getfield 302, 3) := by decide +kernel
theorem dX11_place_30 : decode cX11_place 30 = .ok (.bipush 8, 2) := by decide +kernel
theorem dX11_place_32 : decode cX11_place 32 = .ok (.if_icmp .ne 6, 3) := by decide +kernel
theorem dX11_place_35 : decode cX11_place 35 = .ok (.bipush (-3), 2) := by decide +kernel
theorem dX11_place_37 : decode cX11_place 37 = .ok (.ireturn, 1) := by decide +kernel
theorem dX11_place_38 : decode cX11_place 38 = .ok (.aload_n 0, 1) := by decide +kernel
theorem dX11_place_39 : decode cX11_place 39 = .ok (.getfield 88, 3) := by decide +kernel
theorem dX11_place_42 : decode cX11_place 42 = .ok (.aload_n 0, 1) := by decide +kernel
theorem dX11_place_43 : decode cX11_place 43 = .ok (.getfield 302, 3) := by decide +kernel
theorem dX11_place_46 : decode cX11_place 46 = .ok (.iload_n 1, 1) := by decide +kernel
theorem dX11_place_47 : decode cX11_place 47 = .ok (.iastore, 1) := by decide +kernel
theorem dX11_place_48 : decode cX11_place 48 = .ok (.aload_n 0, 1) := by decide +kernel
theorem dX11_place_49 : decode cX11_place 49 = .ok (.getfield 91, 3) := by decide +kernel
theorem dX11_place_52 : decode cX11_place 52 = .ok (.aload_n 0, 1) := by decide +kernel
theorem dX11_place_53 : decode cX11_place 53 = .ok (.getfield 302, 3) := by decide +kernel
theorem dX11_place_56 : decode cX11_place 56 = .ok (.iload_n 2, 1) := by decide +kernel
theorem dX11_place_57 : decode cX11_place 57 = .ok (.iastore, 1) := by decide +kernel
theorem dX11_place_58 : decode cX11_place 58 = .ok (.aload_n 0, 1) := by decide +kernel
theorem dX11_place_59 : decode cX11_place 59 = .ok (.dup, 1) := by decide +kernel
theorem dX11_place_60 : decode cX11_place 60 = .ok (.getfield 302, 3) := by decide +kernel
theorem dX11_place_63 : decode cX11_place 63 = .ok (.iconst 1, 1) := by decide +kernel
theorem dX11_place_64 : decode cX11_place 64 = .ok (.iadd, 1) := by decide +kernel
theorem dX11_place_65 : decode cX11_place 65 = .ok (.putfield 302, 3) := by decide +kernel
theorem dX11_place_68 : decode cX11_place 68 = .ok (.aload_n 0, 1) := by decide +kernel
theorem dX11_place_69 : decode cX11_place 69 = .ok (.getfield 302, 3) := by decide +kernel
theorem dX11_place_72 : decode cX11_place 72 = .ok (.iconst 1, 1) := by decide +kernel
theorem dX11_place_73 : decode cX11_place 73 = .ok (.isub, 1) := by decide +kernel
theorem dX11_place_74 : decode cX11_place 74 = .ok (.ireturn, 1) := by decide +kernel
theorem dX11_book_0 : decode cX11_book 0 = .ok (.aload_n 0, 1) := by decide +kernel
theorem dX11_book_1 : decode cX11_book 1 = .ok (.iload_n 1, 1) := by decide +kernel
theorem dX11_book_2 : decode cX11_book 2 = .ok (.invokevirtual 313, 3) := by decide +kernel
theorem dX11_book_5 : decode cX11_book 5 = .ok (.ifCond .eq 38, 3) := by decide +kernel
theorem dX11_book_8 : decode cX11_book 8 = .ok (.iload_n 2, 1) := by decide +kernel
theorem dX11_book_9 : decode cX11_book 9 = .ok (.i2l, 1) := by decide +kernel
theorem dX11_book_10 : decode cX11_book 10 = .ok (.ldc2_w 316, 3) := by decide +kernel
theorem dX11_book_13 : decode cX11_book 13 = .ok (.ldc2_w 318, 3) := by decide +kernel
theorem dX11_book_16 : decode cX11_book 16 = .ok (.invokestatic 156, 3) := by decide +kernel
theorem dX11_book_19 : decode cX11_book 19 = .ok (.ifCond .eq 24, 3) := by decide +kernel
theorem dX11_book_22 : decode cX11_book 22 = .ok (.iload_n 3, 1) := by decide +kernel
theorem dX11_book_23 : decode cX11_book 23 = .ok (.i2l, 1) := by decide +kernel
theorem dX11_book_24 : decode cX11_book 24 = .ok (.iload_n 2, 1) := by decide +kernel
theorem dX11_book_25 : decode cX11_book 25 = .ok (.i2l, 1) := by decide +kernel
theorem dX11_book_26 : decode cX11_book 26 = .ok (.ldc2_w 318, 3) := by decide +kernel
theorem dX11_book_29 : decode cX11_book 29 = .ok (.invokestatic 156, 3) := by decide +kernel
theorem dX11_book_32 : decode cX11_book 32 = .ok (.ifCond .eq 11, 3) := by decide +kernel
theorem dX11_book_35 : decode cX11_book 35 = .ok (.iload_n 3, 1) := by decide +kernel
theorem dX11_book_36 : decode cX11_book 36 = .ok (.iload_n 2, 1) := by decide +kernel
theorem dX11_book_37 : decode cX11_book 37 = .ok (.isub, 1) := by decide +kernel
theorem dX11_book_38 : decode cX11_book 38 = .ok (.bipush 64, 2) := by decide +kernel
theorem dX11_book_40 : decode cX11_book 40 = .ok (.if_icmp .lt 5, 3) := by decide +kernel
theorem dX11_book_43 : decode cX11_book 43 = .ok (.iconst (-1), 1) := by decide +kernel
theorem dX11_book_44 : decode cX11_book 44 = .ok (.ireturn, 1) := by decide +kernel
theorem dX11_book_45 : decode cX11_book 45 = .ok (.aload_n 0, 1) := by decide +kernel
theorem dX11_book_46 : decode cX11_book 46 = .ok (.getfield 305, 3) := by decide +kernel
theorem dX11_book_49 : decode cX11_book 49 = .ok (.bipush 8, 2) := by decide +kernel
theorem dX11_book_51 : decode cX11_book 51 = .ok (.if_icmp .ne 6, 3) := by decide +kernel
theorem dX11_book_54 : decode cX11_book 54 = .ok (.bipush (-3), 2) := by decide +kernel
theorem dX11_book_56 : decode cX11_book 56 = .ok (.ireturn, 1) := by decide +kernel
theorem dX11_book_57 : decode cX11_book 57 = .ok (.aload_n 0, 1) := by decide +kernel
theorem dX11_book_58 : decode cX11_book 58 = .ok (.getfield 94, 3) := by decide +kernel
theorem dX11_book_61 : decode cX11_book 61 = .ok (.aload_n 0, 1) := by decide +kernel
theorem dX11_book_62 : decode cX11_book 62 = .ok (.getfield 305, 3) := by decide +kernel
theorem dX11_book_65 : decode cX11_book 65 = .ok (.iload_n 1, 1) := by decide +kernel
theorem dX11_book_66 : decode cX11_book 66 = .ok (.iastore, 1) := by decide +kernel
theorem dX11_book_67 : decode cX11_book 67 = .ok (.aload_n 0, 1) := by decide +kernel
theorem dX11_book_68 : decode cX11_book 68 = .ok (.getfield 97, 3) := by decide +kernel
theorem dX11_book_71 : decode cX11_book 71 = .ok (.aload_n 0, 1) := by decide +kernel
theorem dX11_book_72 : decode cX11_book 72 = .ok (.getfield 305, 3) := by decide +kernel
theorem dX11_book_75 : decode cX11_book 75 = .ok (.iload_n 2, 1) := by decide +kernel
theorem dX11_book_76 : decode cX11_book 76 = .ok (.iastore, 1) := by decide +kernel
theorem dX11_book_77 : decode cX11_book 77 = .ok (.aload_n 0, 1) := by decide +kernel
theorem dX11_book_78 : decode cX11_book 78 = .ok (.getfield 100, 3) := by decide +kernel
theorem dX11_book_81 : decode cX11_book 81 = .ok (.aload_n 0, 1) := by decide +kernel
theorem dX11_book_82 : decode cX11_book 82 = .ok (.getfield 305, 3) := by decide +kernel
theorem dX11_book_85 : decode cX11_book 85 = .ok (.iload_n 3, 1) := by decide +kernel
theorem dX11_book_86 : decode cX11_book 86 = .ok (.iastore, 1) := by decide +kernel
theorem dX11_book_87 : decode cX11_book 87 = .ok (.aload_n 0, 1) := by decide +kernel
theorem dX11_book_88 : decode cX11_book 88 = .ok (.getfield 103, 3) := by decide +kernel
theorem dX11_book_91 : decode cX11_book 91 = .ok (.aload_n 0, 1) := by decide +kernel
theorem dX11_book_92 : decode cX11_book 92 = .ok (.getfield 305, 3) := by decide +kernel
theorem dX11_book_95 : decode cX11_book 95 = .ok (.lconst 0, 1) := by decide +kernel
theorem dX11_book_96 : decode cX11_book 96 = .ok (.lastore, 1) := by decide +kernel
theorem dX11_book_97 : decode cX11_book 97 = .ok (.aload_n 0, 1) := by decide +kernel
theorem dX11_book_98 : decode cX11_book 98 = .ok (.dup, 1) := by decide +kernel
theorem dX11_book_99 : decode cX11_book 99 = .ok (.getfield 305, 3) := by decide +kernel
theorem dX11_book_102 : decode cX11_book 102 = .ok (.iconst 1, 1) := by decide +kernel
theorem dX11_book_103 : decode cX11_book 103 = .ok (.iadd, 1) := by decide +kernel
theorem dX11_book_104 : decode cX11_book 104 = .ok (.putfield 305, 3) := by decide +kernel
theorem dX11_book_107 : decode cX11_book 107 = .ok (.aload_n 0, 1) := by decide +kernel
theorem dX11_book_108 : decode cX11_book 108 = .ok (.getfield 305, 3) := by decide +kernel
theorem dX11_book_111 : decode cX11_book 111 = .ok (.iconst 1, 1) := by decide +kernel
theorem dX11_book_112 : decode cX11_book 112 = .ok (.isub, 1) := by decide +kernel
theorem dX11_book_113 : decode cX11_book 113 = .ok (.ireturn, 1) := by decide +kernel
theorem dX11_linesOf_0 : decode cX11_linesOf 0 = .ok (.iconst 0, 1) := by decide +kernel
theorem dX11_linesOf_1 : decode cX11_linesOf 1 = .ok (.istore_n 2, 1) := by decide +kernel
theorem dX11_linesOf_2 : decode cX11_linesOf 2 = .ok (.iconst 0, 1) := by decide +kernel
theorem dX11_linesOf_3 : decode cX11_linesOf 3 = .ok (.istore_n 3, 1) := by decide +kernel
theorem dX11_linesOf_4 : decode cX11_linesOf 4 = .ok (.iload_n 3, 1) := by decide +kernel
theorem dX11_linesOf_5 : decode cX11_linesOf 5 = .ok (.aload_n 0, 1) := by decide +kernel
theorem dX11_linesOf_6 : decode cX11_linesOf 6 = .ok (.getfield 308, 3) := by decide +kernel
theorem dX11_linesOf_9 : decode cX11_linesOf 9 = .ok (.if_icmp .ge 27, 3) := by decide +kernel
theorem dX11_linesOf_12 : decode cX11_linesOf 12 = .ok (.iload_n 2, 1) := by decide +kernel
theorem dX11_linesOf_13 : decode cX11_linesOf 13 = .ok (.aload_n 0, 1) := by decide +kernel
theorem dX11_linesOf_14 : decode cX11_linesOf 14 = .ok (.getfield 107, 3) := by decide +kernel
theorem dX11_linesOf_17 : decode cX11_linesOf 17 = .ok (.iload_n 3, 1) := by decide +kernel
theorem dX11_linesOf_18 : decode cX11_linesOf 18 = .ok (.iaload, 1) := by decide +kernel
theorem dX11_linesOf_19 : decode cX11_linesOf 19 = .ok (.iload_n 1, 1) := by decide +kernel
theorem dX11_linesOf_20 : decode cX11_linesOf 20 = .ok (.if_icmp .ne 7, 3) := by decide +kernel
theorem dX11_linesOf_23 : decode cX11_linesOf 23 = .ok (.iconst 1, 1) := by decide +kernel
theorem dX11_linesOf_24 : decode cX11_linesOf 24 = .ok (.goto 4, 3) := by decide +kernel
theorem dX11_linesOf_27 : decode cX11_linesOf 27 = .ok (.iconst 0, 1) := by decide +kernel
theorem dX11_linesOf_28 : decode cX11_linesOf 28 = .ok (.iadd, 1) := by decide +kernel
theorem dX11_linesOf_29 : decode cX11_linesOf 29 = .ok (.istore_n 2, 1) := by decide +kernel
theorem dX11_linesOf_30 : decode cX11_linesOf 30 = .ok (.iinc 3 1, 3) := by decide +kernel
theorem dX11_linesOf_33 : decode cX11_linesOf 33 = .ok (.goto (-29), 3) := by decide +kernel
theorem dX11_linesOf_36 : decode cX11_linesOf 36 = .ok (.iload_n 2, 1) := by decide +kernel
theorem dX11_linesOf_37 : decode cX11_linesOf 37 = .ok (.ireturn, 1) := by decide +kernel
theorem dX11_isHole_0 : decode cX11_isHole 0 = .ok (.aload_n 0, 1) := by decide +kernel
theorem dX11_isHole_1 : decode cX11_isHole 1 = .ok (.getfield 103, 3) := by decide +kernel
theorem dX11_isHole_4 : decode cX11_isHole 4 = .ok (.iload_n 1, 1) := by decide +kernel
theorem dX11_isHole_5 : decode cX11_isHole 5 = .ok (.laload, 1) := by decide +kernel
theorem dX11_isHole_6 : decode cX11_isHole 6 = .ok (.iload_n 2, 1) := by decide +kernel
theorem dX11_isHole_7 : decode cX11_isHole 7 = .ok (.aload_n 0, 1) := by decide +kernel
theorem dX11_isHole_8 : decode cX11_isHole 8 = .ok (.getfield 97, 3) := by decide +kernel
theorem dX11_isHole_11 : decode cX11_isHole 11 = .ok (.iload_n 1, 1) := by decide +kernel
theorem dX11_isHole_12 : decode cX11_isHole 12 = .ok (.iaload, 1) := by decide +kernel
theorem dX11_isHole_13 : decode cX11_isHole 13 = .ok (.isub, 1) := by decide +kernel
theorem dX11_isHole_14 : decode cX11_isHole 14 = .ok (.lshr, 1) := by decide +kernel
theorem dX11_isHole_15 : decode cX11_isHole 15 = .ok (.lconst 1, 1) := by decide +kernel
theorem dX11_isHole_16 : decode cX11_isHole 16 = .ok (.land, 1) := by decide +kernel
theorem dX11_isHole_17 : decode cX11_isHole 17 = .ok (.lconst 1, 1) := by decide +kernel
theorem dX11_isHole_18 : decode cX11_isHole 18 = .ok (.lcmp, 1) := by decide +kernel
theorem dX11_isHole_19 : decode cX11_isHole 19 = .ok (.ifCond .ne 7, 3) := by decide +kernel
theorem dX11_isHole_22 : decode cX11_isHole 22 = .ok (.iconst 1, 1) := by decide +kernel
theorem dX11_isHole_23 : decode cX11_isHole 23 = .ok (.goto 4, 3) := by decide +kernel
theorem dX11_isHole_26 : decode cX11_isHole 26 = .ok (.iconst 0, 1) := by decide +kernel
theorem dX11_isHole_27 : decode cX11_isHole 27 = .ok (.ireturn, 1) := by decide +kernel
theorem dX11_hole_0 : decode cX11_hole 0 = .ok (.aload_n 0, 1) := by decide +kernel
theorem dX11_hole_1 : decode cX11_hole 1 = .ok (.iload_n 1, 1) := by decide +kernel
theorem dX11_hole_2 : decode cX11_hole 2 = .ok (.invokevirtual 320, 3) := by decide +kernel
theorem dX11_hole_5 : decode cX11_hole 5 = .ok (.ifCond .eq 25, 3) := by decide +kernel
theorem dX11_hole_8 : decode cX11_hole 8 = .ok (.iload_n 2, 1) := by decide +kernel
theorem dX11_hole_9 : decode cX11_hole 9 = .ok (.i2l, 1) := by decide +kernel
theorem dX11_hole_10 : decode cX11_hole 10 = .ok (.aload_n 0, 1) := by decide +kernel
theorem dX11_hole_11 : decode cX11_hole 11 = .ok (.getfield 97, 3) := by decide +kernel
theorem dX11_hole_14 : decode cX11_hole 14 = .ok (.iload_n 1, 1) := by decide +kernel
theorem dX11_hole_15 : decode cX11_hole 15 = .ok (.iaload, 1) := by decide +kernel
theorem dX11_hole_16 : decode cX11_hole 16 = .ok (.i2l, 1) := by decide +kernel
theorem dX11_hole_17 : decode cX11_hole 17 = .ok (.aload_n 0, 1) := by decide +kernel
theorem dX11_hole_18 : decode cX11_hole 18 = .ok (.getfield 100, 3) := by decide +kernel
theorem dX11_hole_21 : decode cX11_hole 21 = .ok (.iload_n 1, 1) := by decide +kernel
theorem dX11_hole_22 : decode cX11_hole 22 = .ok (.iaload, 1) := by decide +kernel
theorem dX11_hole_23 : decode cX11_hole 23 = .ok (.i2l, 1) := by decide +kernel
theorem dX11_hole_24 : decode cX11_hole 24 = .ok (.invokestatic 156, 3) := by decide +kernel
theorem dX11_hole_27 : decode cX11_hole 27 = .ok (.ifCond .ne 5, 3) := by decide +kernel
theorem dX11_hole_30 : decode cX11_hole 30 = .ok (.iconst (-1), 1) := by decide +kernel
theorem dX11_hole_31 : decode cX11_hole 31 = .ok (.ireturn, 1) := by decide +kernel
theorem dX11_hole_32 : decode cX11_hole 32 = .ok (.aload_n 0, 1) := by decide +kernel
theorem dX11_hole_33 : decode cX11_hole 33 = .ok (.iload_n 1, 1) := by decide +kernel
theorem dX11_hole_34 : decode cX11_hole 34 = .ok (.iload_n 2, 1) := by decide +kernel
theorem dX11_hole_35 : decode cX11_hole 35 = .ok (.invokevirtual 323, 3) := by decide +kernel
theorem dX11_hole_38 : decode cX11_hole 38 = .ok (.ifCond .eq 6, 3) := by decide +kernel
theorem dX11_hole_41 : decode cX11_hole 41 = .ok (.bipush (-2), 2) := by decide +kernel
theorem dX11_hole_43 : decode cX11_hole 43 = .ok (.ireturn, 1) := by decide +kernel
theorem dX11_hole_44 : decode cX11_hole 44 = .ok (.aload_n 0, 1) := by decide +kernel
theorem dX11_hole_45 : decode cX11_hole 45 = .ok (.iload_n 1, 1) := by decide +kernel
theorem dX11_hole_46 : decode cX11_hole 46 = .ok (.iload_n 2, 1) := by decide +kernel
theorem dX11_hole_47 : decode cX11_hole 47 = .ok (.invokevirtual 326, 3) := by decide +kernel
theorem dX11_hole_50 : decode cX11_hole 50 = .ok (.ifCond .eq 7, 3) := by decide +kernel
theorem dX11_hole_53 : decode cX11_hole 53 = .ok (.iconst 1, 1) := by decide +kernel
theorem dX11_hole_54 : decode cX11_hole 54 = .ok (.goto 4, 3) := by decide +kernel
theorem dX11_hole_57 : decode cX11_hole 57 = .ok (.iconst 0, 1) := by decide +kernel
theorem dX11_hole_58 : decode cX11_hole 58 = .ok (.istore 4, 2) := by decide +kernel
theorem dX11_hole_60 : decode cX11_hole 60 = .ok (.iload_n 3, 1) := by decide +kernel
theorem dX11_hole_61 : decode cX11_hole 61 = .ok (.iload 4, 2) := by decide +kernel
theorem dX11_hole_63 : decode cX11_hole 63 = .ok (.iconst 1, 1) := by decide +kernel
theorem dX11_hole_64 : decode cX11_hole 64 = .ok (.if_icmp .ne 7, 3) := by decide +kernel
theorem dX11_hole_67 : decode cX11_hole 67 = .ok (.iconst 1, 1) := by decide +kernel
theorem dX11_hole_68 : decode cX11_hole 68 = .ok (.goto 4, 3) := by decide +kernel
theorem dX11_hole_71 : decode cX11_hole 71 = .ok (.iconst 0, 1) := by decide +kernel
theorem dX11_hole_72 : decode cX11_hole 72 = .ok (.if_icmp .eq 22, 3) := by decide +kernel
theorem dX11_hole_75 : decode cX11_hole 75 = .ok (.aload_n 0, 1) := by decide +kernel
theorem dX11_hole_76 : decode cX11_hole 76 = .ok (.getfield 103, 3) := by decide +kernel
theorem dX11_hole_79 : decode cX11_hole 79 = .ok (.iload_n 1, 1) := by decide +kernel
theorem dX11_hole_80 : decode cX11_hole 80 = .ok (.dup2, 1) := by decide +kernel
theorem dX11_hole_81 : decode cX11_hole 81 = .ok (.laload, 1) := by decide +kernel
theorem dX11_hole_82 : decode cX11_hole 82 = .ok (.lconst 1, 1) := by decide +kernel
theorem dX11_hole_83 : decode cX11_hole 83 = .ok (.iload_n 2, 1) := by decide +kernel
theorem dX11_hole_84 : decode cX11_hole 84 = .ok (.aload_n 0, 1) := by decide +kernel
theorem dX11_hole_85 : decode cX11_hole 85 = .ok (.getfield 97, 3) := by decide +kernel
theorem dX11_hole_88 : decode cX11_hole 88 = .ok (.iload_n 1, 1) := by decide +kernel
theorem dX11_hole_89 : decode cX11_hole 89 = .ok (.iaload, 1) := by decide +kernel
theorem dX11_hole_90 : decode cX11_hole 90 = .ok (.isub, 1) := by decide +kernel
theorem dX11_hole_91 : decode cX11_hole 91 = .ok (.lshl, 1) := by decide +kernel
theorem dX11_hole_92 : decode cX11_hole 92 = .ok (.lxor, 1) := by decide +kernel
theorem dX11_hole_93 : decode cX11_hole 93 = .ok (.lastore, 1) := by decide +kernel
theorem dX11_hole_94 : decode cX11_hole 94 = .ok (.iload 4, 2) := by decide +kernel
theorem dX11_hole_96 : decode cX11_hole 96 = .ok (.ireturn, 1) := by decide +kernel
theorem dX11_bookOf_0 : decode cX11_bookOf 0 = .ok (.aload_n 0, 1) := by decide +kernel
theorem dX11_bookOf_1 : decode cX11_bookOf 1 = .ok (.iload_n 1, 1) := by decide +kernel
theorem dX11_bookOf_2 : decode cX11_bookOf 2 = .ok (.invokevirtual 320, 3) := by decide +kernel
theorem dX11_bookOf_5 : decode cX11_bookOf 5 = .ok (.ifCond .ne 5, 3) := by decide +kernel
theorem dX11_bookOf_8 : decode cX11_bookOf 8 = .ok (.iconst (-1), 1) := by decide +kernel
theorem dX11_bookOf_9 : decode cX11_bookOf 9 = .ok (.ireturn, 1) := by decide +kernel
theorem dX11_bookOf_10 : decode cX11_bookOf 10 = .ok (.iconst 0, 1) := by decide +kernel
theorem dX11_bookOf_11 : decode cX11_bookOf 11 = .ok (.istore_n 3, 1) := by decide +kernel
theorem dX11_bookOf_12 : decode cX11_bookOf 12 = .ok (.bipush (-4), 2) := by decide +kernel
theorem dX11_bookOf_14 : decode cX11_bookOf 14 = .ok (.istore 4, 2) := by decide +kernel
theorem dX11_bookOf_16 : decode cX11_bookOf 16 = .ok (.aload_n 0, 1) := by decide +kernel
theorem dX11_bookOf_17 : decode cX11_bookOf 17 = .ok (.getfield 97, 3) := by decide +kernel
theorem dX11_bookOf_20 : decode cX11_bookOf 20 = .ok (.iload_n 1, 1) := by decide +kernel
theorem dX11_bookOf_21 : decode cX11_bookOf 21 = .ok (.iaload, 1) := by decide +kernel
theorem dX11_bookOf_22 : decode cX11_bookOf 22 = .ok (.istore 5, 2) := by decide +kernel
theorem dX11_bookOf_24 : decode cX11_bookOf 24 = .ok (.iload 5, 2) := by decide +kernel
theorem dX11_bookOf_26 : decode cX11_bookOf 26 = .ok (.aload_n 0, 1) := by decide +kernel
theorem dX11_bookOf_27 : decode cX11_bookOf 27 = .ok (.getfield 100, 3) := by decide +kernel
theorem dX11_bookOf_30 : decode cX11_bookOf 30 = .ok (.iload_n 1, 1) := by decide +kernel
theorem dX11_bookOf_31 : decode cX11_bookOf 31 = .ok (.iaload, 1) := by decide +kernel
theorem dX11_bookOf_32 : decode cX11_bookOf 32 = .ok (.if_icmp .gt 46, 3) := by decide +kernel
theorem dX11_bookOf_35 : decode cX11_bookOf 35 = .ok (.iload_n 3, 1) := by decide +kernel
theorem dX11_bookOf_36 : decode cX11_bookOf 36 = .ok (.aload_n 0, 1) := by decide +kernel
theorem dX11_bookOf_37 : decode cX11_bookOf 37 = .ok (.iload_n 1, 1) := by decide +kernel
theorem dX11_bookOf_38 : decode cX11_bookOf 38 = .ok (.iload 5, 2) := by decide +kernel
theorem dX11_bookOf_40 : decode cX11_bookOf 40 = .ok (.invokevirtual 326, 3) := by decide +kernel
theorem dX11_bookOf_43 : decode cX11_bookOf 43 = .ok (.ifCond .eq 7, 3) := by decide +kernel
theorem dX11_bookOf_46 : decode cX11_bookOf 46 = .ok (.iconst 1, 1) := by decide +kernel
theorem dX11_bookOf_47 : decode cX11_bookOf 47 = .ok (.goto 4, 3) := by decide +kernel
theorem dX11_bookOf_50 : decode cX11_bookOf 50 = .ok (.iconst 0, 1) := by decide +kernel
theorem dX11_bookOf_51 : decode cX11_bookOf 51 = .ok (.iadd, 1) := by decide +kernel
theorem dX11_bookOf_52 : decode cX11_bookOf 52 = .ok (.istore_n 3, 1) := by decide +kernel
theorem dX11_bookOf_53 : decode cX11_bookOf 53 = .ok (.aload_n 0, 1) := by decide +kernel
theorem dX11_bookOf_54 : decode cX11_bookOf 54 = .ok (.iload_n 1, 1) := by decide +kernel
theorem dX11_bookOf_55 : decode cX11_bookOf 55 = .ok (.iload 5, 2) := by decide +kernel
theorem dX11_bookOf_57 : decode cX11_bookOf 57 = .ok (.invokevirtual 326, 3) := by decide +kernel
theorem dX11_bookOf_60 : decode cX11_bookOf 60 = .ok (.ifCond .eq 8, 3) := by decide +kernel
theorem dX11_bookOf_63 : decode cX11_bookOf 63 = .ok (.iload 4, 2) := by decide +kernel
theorem dX11_bookOf_65 : decode cX11_bookOf 65 = .ok (.goto 5, 3) := by decide +kernel
theorem dX11_bookOf_68 : decode cX11_bookOf 68 = .ok (.iload 5, 2) := by decide +kernel
theorem dX11_bookOf_70 : decode cX11_bookOf 70 = .ok (.istore 4, 2) := by decide +kernel
theorem dX11_bookOf_72 : decode cX11_bookOf 72 = .ok (.iinc 5 1, 3) := by decide +kernel
theorem dX11_bookOf_75 : decode cX11_bookOf 75 = .ok (.goto (-51), 3) := by decide +kernel
theorem dX11_bookOf_78 : decode cX11_bookOf 78 = .ok (.iload_n 2, 1) := by decide +kernel
theorem dX11_bookOf_79 : decode cX11_bookOf 79 = .ok (.tableswitch 69 0 5 #[37, 44, 51, 58, 60, 66], 37) := by decide +kernel
theorem dX11_bookOf_116 : decode cX11_bookOf 116 = .ok (.aload_n 0, 1) := by decide +kernel
theorem dX11_bookOf_117 : decode cX11_bookOf 117 = .ok (.getfield 94, 3) := by decide +kernel
theorem dX11_bookOf_120 : decode cX11_bookOf 120 = .ok (.iload_n 1, 1) := by decide +kernel
theorem dX11_bookOf_121 : decode cX11_bookOf 121 = .ok (.iaload, 1) := by decide +kernel
theorem dX11_bookOf_122 : decode cX11_bookOf 122 = .ok (.ireturn, 1) := by decide +kernel
theorem dX11_bookOf_123 : decode cX11_bookOf 123 = .ok (.aload_n 0, 1) := by decide +kernel
theorem dX11_bookOf_124 : decode cX11_bookOf 124 = .ok (.getfield 97, 3) := by decide +kernel
theorem dX11_bookOf_127 : decode cX11_bookOf 127 = .ok (.iload_n 1, 1) := by decide +kernel
theorem dX11_bookOf_128 : decode cX11_bookOf 128 = .ok (.iaload, 1) := by decide +kernel
theorem dX11_bookOf_129 : decode cX11_bookOf 129 = .ok (.ireturn, 1) := by decide +kernel
theorem dX11_bookOf_130 : decode cX11_bookOf 130 = .ok (.aload_n 0, 1) := by decide +kernel
theorem dX11_bookOf_131 : decode cX11_bookOf 131 = .ok (.getfield 100, 3) := by decide +kernel
theorem dX11_bookOf_134 : decode cX11_bookOf 134 = .ok (.iload_n 1, 1) := by decide +kernel
theorem dX11_bookOf_135 : decode cX11_bookOf 135 = .ok (.iaload, 1) := by decide +kernel
theorem dX11_bookOf_136 : decode cX11_bookOf 136 = .ok (.ireturn, 1) := by decide +kernel
theorem dX11_bookOf_137 : decode cX11_bookOf 137 = .ok (.iload_n 3, 1) := by decide +kernel
theorem dX11_bookOf_138 : decode cX11_bookOf 138 = .ok (.ireturn, 1) := by decide +kernel
theorem dX11_bookOf_139 : decode cX11_bookOf 139 = .ok (.aload_n 0, 1) := by decide +kernel
theorem dX11_bookOf_140 : decode cX11_bookOf 140 = .ok (.iload_n 1, 1) := by decide +kernel
theorem dX11_bookOf_141 : decode cX11_bookOf 141 = .ok (.invokevirtual 329, 3) := by decide +kernel
theorem dX11_bookOf_144 : decode cX11_bookOf 144 = .ok (.ireturn, 1) := by decide +kernel
theorem dX11_bookOf_145 : decode cX11_bookOf 145 = .ok (.iload 4, 2) := by decide +kernel
theorem dX11_bookOf_147 : decode cX11_bookOf 147 = .ok (.ireturn, 1) := by decide +kernel
theorem dX11_bookOf_148 : decode cX11_bookOf 148 = .ok (.iconst (-1), 1) := by decide +kernel
theorem dX11_bookOf_149 : decode cX11_bookOf 149 = .ok (.ireturn, 1) := by decide +kernel
theorem dX11_addLine_0 : decode cX11_addLine 0 = .ok (.aload_n 0, 1) := by decide +kernel
theorem dX11_addLine_1 : decode cX11_addLine 1 = .ok (.getfield 107, 3) := by decide +kernel
theorem dX11_addLine_4 : decode cX11_addLine 4 = .ok (.aload_n 0, 1) := by decide +kernel
theorem dX11_addLine_5 : decode cX11_addLine 5 = .ok (.getfield 308, 3) := by decide +kernel
theorem dX11_addLine_8 : decode cX11_addLine 8 = .ok (.iload_n 1, 1) := by decide +kernel
theorem dX11_addLine_9 : decode cX11_addLine 9 = .ok (.iastore, 1) := by decide +kernel
theorem dX11_addLine_10 : decode cX11_addLine 10 = .ok (.aload_n 0, 1) := by decide +kernel
theorem dX11_addLine_11 : decode cX11_addLine 11 = .ok (.getfield 110, 3) := by decide +kernel
theorem dX11_addLine_14 : decode cX11_addLine 14 = .ok (.aload_n 0, 1) := by decide +kernel
theorem dX11_addLine_15 : decode cX11_addLine 15 = .ok (.getfield 308, 3) := by decide +kernel
theorem dX11_addLine_18 : decode cX11_addLine 18 = .ok (.iload_n 2, 1) := by decide +kernel
theorem dX11_addLine_19 : decode cX11_addLine 19 = .ok (.iastore, 1) := by decide +kernel
theorem dX11_addLine_20 : decode cX11_addLine 20 = .ok (.aload_n 0, 1) := by decide +kernel
theorem dX11_addLine_21 : decode cX11_addLine 21 = .ok (.getfield 113, 3) := by decide +kernel
theorem dX11_addLine_24 : decode cX11_addLine 24 = .ok (.aload_n 0, 1) := by decide +kernel
theorem dX11_addLine_25 : decode cX11_addLine 25 = .ok (.getfield 308, 3) := by decide +kernel
theorem dX11_addLine_28 : decode cX11_addLine 28 = .ok (.iload 4, 2) := by decide +kernel
theorem dX11_addLine_30 : decode cX11_addLine 30 = .ok (.iastore, 1) := by decide +kernel
theorem dX11_addLine_31 : decode cX11_addLine 31 = .ok (.aload_n 0, 1) := by decide +kernel
theorem dX11_addLine_32 : decode cX11_addLine 32 = .ok (.getfield 116, 3) := by decide +kernel
theorem dX11_addLine_35 : decode cX11_addLine 35 = .ok (.aload_n 0, 1) := by decide +kernel
theorem dX11_addLine_36 : decode cX11_addLine 36 = .ok (.getfield 308, 3) := by decide +kernel
theorem dX11_addLine_39 : decode cX11_addLine 39 = .ok (.iload_n 3, 1) := by decide +kernel
theorem dX11_addLine_40 : decode cX11_addLine 40 = .ok (.iastore, 1) := by decide +kernel
theorem dX11_addLine_41 : decode cX11_addLine 41 = .ok (.aload_n 0, 1) := by decide +kernel
theorem dX11_addLine_42 : decode cX11_addLine 42 = .ok (.getfield 119, 3) := by decide +kernel
theorem dX11_addLine_45 : decode cX11_addLine 45 = .ok (.aload_n 0, 1) := by decide +kernel
theorem dX11_addLine_46 : decode cX11_addLine 46 = .ok (.getfield 308, 3) := by decide +kernel
theorem dX11_addLine_49 : decode cX11_addLine 49 = .ok (.iload_n 3, 1) := by decide +kernel
theorem dX11_addLine_50 : decode cX11_addLine 50 = .ok (.iastore, 1) := by decide +kernel
theorem dX11_addLine_51 : decode cX11_addLine 51 = .ok (.aload_n 0, 1) := by decide +kernel
theorem dX11_addLine_52 : decode cX11_addLine 52 = .ok (.getfield 122, 3) := by decide +kernel
theorem dX11_addLine_55 : decode cX11_addLine 55 = .ok (.aload_n 0, 1) := by decide +kernel
theorem dX11_addLine_56 : decode cX11_addLine 56 = .ok (.getfield 308, 3) := by decide +kernel
theorem dX11_addLine_59 : decode cX11_addLine 59 = .ok (.aload_n 0, 1) := by decide +kernel
theorem dX11_addLine_60 : decode cX11_addLine 60 = .ok (.getfield 332, 3) := by decide +kernel
theorem dX11_addLine_63 : decode cX11_addLine 63 = .ok (.iastore, 1) := by decide +kernel
theorem dX11_addLine_64 : decode cX11_addLine 64 = .ok (.aload_n 0, 1) := by decide +kernel
theorem dX11_addLine_65 : decode cX11_addLine 65 = .ok (.getfield 125, 3) := by decide +kernel
theorem dX11_addLine_68 : decode cX11_addLine 68 = .ok (.aload_n 0, 1) := by decide +kernel
theorem dX11_addLine_69 : decode cX11_addLine 69 = .ok (.getfield 308, 3) := by decide +kernel
theorem dX11_addLine_72 : decode cX11_addLine 72 = .ok (.iconst 1, 1) := by decide +kernel
theorem dX11_addLine_73 : decode cX11_addLine 73 = .ok (.iastore, 1) := by decide +kernel
theorem dX11_addLine_74 : decode cX11_addLine 74 = .ok (.aload_n 0, 1) := by decide +kernel
theorem dX11_addLine_75 : decode cX11_addLine 75 = .ok (.getfield 128, 3) := by decide +kernel
theorem dX11_addLine_78 : decode cX11_addLine 78 = .ok (.aload_n 0, 1) := by decide +kernel
theorem dX11_addLine_79 : decode cX11_addLine 79 = .ok (.getfield 308, 3) := by decide +kernel
theorem dX11_addLine_82 : decode cX11_addLine 82 = .ok (.bipush (-4), 2) := by decide +kernel
theorem dX11_addLine_84 : decode cX11_addLine 84 = .ok (.iastore, 1) := by decide +kernel
theorem dX11_addLine_85 : decode cX11_addLine 85 = .ok (.aload_n 0, 1) := by decide +kernel
theorem dX11_addLine_86 : decode cX11_addLine 86 = .ok (.dup, 1) := by decide +kernel
theorem dX11_addLine_87 : decode cX11_addLine 87 = .ok (.getfield 308, 3) := by decide +kernel
theorem dX11_addLine_90 : decode cX11_addLine 90 = .ok (.iconst 1, 1) := by decide +kernel
theorem dX11_addLine_91 : decode cX11_addLine 91 = .ok (.iadd, 1) := by decide +kernel
theorem dX11_addLine_92 : decode cX11_addLine 92 = .ok (.putfield 308, 3) := by decide +kernel
theorem dX11_addLine_95 : decode cX11_addLine 95 = .ok (.return_, 1) := by decide +kernel
theorem dX11_line_0 : decode cX11_line 0 = .ok (.aload_n 0, 1) := by decide +kernel
theorem dX11_line_1 : decode cX11_line 1 = .ok (.iload_n 1, 1) := by decide +kernel
theorem dX11_line_2 : decode cX11_line 2 = .ok (.invokevirtual 320, 3) := by decide +kernel
theorem dX11_line_5 : decode cX11_line 5 = .ok (.ifCond .eq 46, 3) := by decide +kernel
theorem dX11_line_8 : decode cX11_line 8 = .ok (.iload_n 2, 1) := by decide +kernel
theorem dX11_line_9 : decode cX11_line 9 = .ok (.i2l, 1) := by decide +kernel
theorem dX11_line_10 : decode cX11_line 10 = .ok (.aload_n 0, 1) := by decide +kernel
theorem dX11_line_11 : decode cX11_line 11 = .ok (.getfield 97, 3) := by decide +kernel
theorem dX11_line_14 : decode cX11_line 14 = .ok (.iload_n 1, 1) := by decide +kernel
theorem dX11_line_15 : decode cX11_line 15 = .ok (.iaload, 1) := by decide +kernel
theorem dX11_line_16 : decode cX11_line 16 = .ok (.i2l, 1) := by decide +kernel
theorem dX11_line_17 : decode cX11_line 17 = .ok (.aload_n 0, 1) := by decide +kernel
theorem dX11_line_18 : decode cX11_line 18 = .ok (.getfield 100, 3) := by decide +kernel
theorem dX11_line_21 : decode cX11_line 21 = .ok (.iload_n 1, 1) := by decide +kernel
theorem dX11_line_22 : decode cX11_line 22 = .ok (.iaload, 1) := by decide +kernel
theorem dX11_line_23 : decode cX11_line 23 = .ok (.i2l, 1) := by decide +kernel
theorem dX11_line_24 : decode cX11_line 24 = .ok (.invokestatic 156, 3) := by decide +kernel
theorem dX11_line_27 : decode cX11_line 27 = .ok (.ifCond .eq 24, 3) := by decide +kernel
theorem dX11_line_30 : decode cX11_line 30 = .ok (.aload_n 0, 1) := by decide +kernel
theorem dX11_line_31 : decode cX11_line 31 = .ok (.iload_n 3, 1) := by decide +kernel
theorem dX11_line_32 : decode cX11_line 32 = .ok (.invokevirtual 166, 3) := by decide +kernel
theorem dX11_line_35 : decode cX11_line 35 = .ok (.ifCond .eq 16, 3) := by decide +kernel
theorem dX11_line_38 : decode cX11_line 38 = .ok (.iload 4, 2) := by decide +kernel
theorem dX11_line_40 : decode cX11_line 40 = .ok (.i2l, 1) := by decide +kernel
theorem dX11_line_41 : decode cX11_line 41 = .ok (.lconst 0, 1) := by decide +kernel
theorem dX11_line_42 : decode cX11_line 42 = .ok (.ldc2_w 335, 3) := by decide +kernel
theorem dX11_line_45 : decode cX11_line 45 = .ok (.invokestatic 156, 3) := by decide +kernel
theorem dX11_line_48 : decode cX11_line 48 = .ok (.ifCond .ne 5, 3) := by decide +kernel
theorem dX11_line_51 : decode cX11_line 51 = .ok (.iconst (-1), 1) := by decide +kernel
theorem dX11_line_52 : decode cX11_line 52 = .ok (.ireturn, 1) := by decide +kernel
theorem dX11_line_53 : decode cX11_line 53 = .ok (.aload_n 0, 1) := by decide +kernel
theorem dX11_line_54 : decode cX11_line 54 = .ok (.iload_n 1, 1) := by decide +kernel
theorem dX11_line_55 : decode cX11_line 55 = .ok (.iload_n 2, 1) := by decide +kernel
theorem dX11_line_56 : decode cX11_line 56 = .ok (.invokevirtual 326, 3) := by decide +kernel
theorem dX11_line_59 : decode cX11_line 59 = .ok (.ifCond .eq 6, 3) := by decide +kernel
theorem dX11_line_62 : decode cX11_line 62 = .ok (.bipush (-2), 2) := by decide +kernel
theorem dX11_line_64 : decode cX11_line 64 = .ok (.ireturn, 1) := by decide +kernel
theorem dX11_line_65 : decode cX11_line 65 = .ok (.aload_n 0, 1) := by decide +kernel
theorem dX11_line_66 : decode cX11_line 66 = .ok (.getfield 308, 3) := by decide +kernel
theorem dX11_line_69 : decode cX11_line 69 = .ok (.bipush 40, 2) := by decide +kernel
theorem dX11_line_71 : decode cX11_line 71 = .ok (.if_icmp .ne 6, 3) := by decide +kernel
theorem dX11_line_74 : decode cX11_line 74 = .ok (.bipush (-3), 2) := by decide +kernel
theorem dX11_line_76 : decode cX11_line 76 = .ok (.ireturn, 1) := by decide +kernel
theorem dX11_line_77 : decode cX11_line 77 = .ok (.aload_n 0, 1) := by decide +kernel
theorem dX11_line_78 : decode cX11_line 78 = .ok (.iload_n 1, 1) := by decide +kernel
theorem dX11_line_79 : decode cX11_line 79 = .ok (.iload_n 2, 1) := by decide +kernel
theorem dX11_line_80 : decode cX11_line 80 = .ok (.iload_n 3, 1) := by decide +kernel
theorem dX11_line_81 : decode cX11_line 81 = .ok (.iload 4, 2) := by decide +kernel
theorem dX11_line_83 : decode cX11_line 83 = .ok (.invokevirtual 337, 3) := by decide +kernel
theorem dX11_line_86 : decode cX11_line 86 = .ok (.aload_n 0, 1) := by decide +kernel
theorem dX11_line_87 : decode cX11_line 87 = .ok (.getfield 308, 3) := by decide +kernel
theorem dX11_line_90 : decode cX11_line 90 = .ok (.iconst 1, 1) := by decide +kernel
theorem dX11_line_91 : decode cX11_line 91 = .ok (.isub, 1) := by decide +kernel
theorem dX11_line_92 : decode cX11_line 92 = .ok (.ireturn, 1) := by decide +kernel
theorem dX11_day_0 : decode cX11_day 0 = .ok (.iload_n 1, 1) := by decide +kernel
theorem dX11_day_1 : decode cX11_day 1 = .ok (.i2l, 1) := by decide +kernel
theorem dX11_day_2 : decode cX11_day 2 = .ok (.aload_n 0, 1) := by decide +kernel
theorem dX11_day_3 : decode cX11_day 3 = .ok (.getfield 332, 3) := by decide +kernel
theorem dX11_day_6 : decode cX11_day 6 = .ok (.i2l, 1) := by decide +kernel
theorem dX11_day_7 : decode cX11_day 7 = .ok (.ldc2_w 341, 3) := by decide +kernel
theorem dX11_day_10 : decode cX11_day 10 = .ok (.invokestatic 156, 3) := by decide +kernel
theorem dX11_day_13 : decode cX11_day 13 = .ok (.ifCond .ne 5, 3) := by decide +kernel
theorem dX11_day_16 : decode cX11_day 16 = .ok (.iconst (-1), 1) := by decide +kernel
theorem dX11_day_17 : decode cX11_day 17 = .ok (.ireturn, 1) := by decide +kernel
theorem dX11_day_18 : decode cX11_day 18 = .ok (.aload_n 0, 1) := by decide +kernel
theorem dX11_day_19 : decode cX11_day 19 = .ok (.getfield 332, 3) := by decide +kernel
theorem dX11_day_22 : decode cX11_day 22 = .ok (.istore_n 2, 1) := by decide +kernel
theorem dX11_day_23 : decode cX11_day 23 = .ok (.aload_n 0, 1) := by decide +kernel
theorem dX11_day_24 : decode cX11_day 24 = .ok (.iload_n 1, 1) := by decide +kernel
theorem dX11_day_25 : decode cX11_day 25 = .ok (.putfield 332, 3) := by decide +kernel
theorem dX11_day_28 : decode cX11_day 28 = .ok (.iload_n 2, 1) := by decide +kernel
theorem dX11_day_29 : decode cX11_day 29 = .ok (.ireturn, 1) := by decide +kernel
theorem dX11_again_0 : decode cX11_again 0 = .ok (.aload_n 0, 1) := by decide +kernel
theorem dX11_again_1 : decode cX11_again 1 = .ok (.iload_n 1, 1) := by decide +kernel
theorem dX11_again_2 : decode cX11_again 2 = .ok (.invokevirtual 343, 3) := by decide +kernel
theorem dX11_again_5 : decode cX11_again 5 = .ok (.ifCond .eq 11, 3) := by decide +kernel
theorem dX11_again_8 : decode cX11_again 8 = .ok (.aload_n 0, 1) := by decide +kernel
theorem dX11_again_9 : decode cX11_again 9 = .ok (.iload_n 2, 1) := by decide +kernel
theorem dX11_again_10 : decode cX11_again 10 = .ok (.invokevirtual 166, 3) := by decide +kernel
theorem dX11_again_13 : decode cX11_again 13 = .ok (.ifCond .ne 5, 3) := by decide +kernel
theorem dX11_again_16 : decode cX11_again 16 = .ok (.iconst (-1), 1) := by decide +kernel
theorem dX11_again_17 : decode cX11_again 17 = .ok (.ireturn, 1) := by decide +kernel
theorem dX11_again_18 : decode cX11_again 18 = .ok (.aload_n 0, 1) := by decide +kernel
theorem dX11_again_19 : decode cX11_again 19 = .ok (.getfield 119, 3) := by decide +kernel
theorem dX11_again_22 : decode cX11_again 22 = .ok (.iload_n 1, 1) := by decide +kernel
theorem dX11_again_23 : decode cX11_again 23 = .ok (.iaload, 1) := by decide +kernel
theorem dX11_again_24 : decode cX11_again 24 = .ok (.iload_n 2, 1) := by decide +kernel
theorem dX11_again_25 : decode cX11_again 25 = .ok (.if_icmp .ne 6, 3) := by decide +kernel
theorem dX11_again_28 : decode cX11_again 28 = .ok (.bipush (-2), 2) := by decide +kernel
theorem dX11_again_30 : decode cX11_again 30 = .ok (.ireturn, 1) := by decide +kernel
theorem dX11_again_31 : decode cX11_again 31 = .ok (.aload_n 0, 1) := by decide +kernel
theorem dX11_again_32 : decode cX11_again 32 = .ok (.getfield 346, 3) := by decide +kernel
theorem dX11_again_35 : decode cX11_again 35 = .ok (.bipush 60, 2) := by decide +kernel
theorem dX11_again_37 : decode cX11_again 37 = .ok (.if_icmp .ne 6, 3) := by decide +kernel
theorem dX11_again_40 : decode cX11_again 40 = .ok (.bipush (-3), 2) := by decide +kernel
theorem dX11_again_42 : decode cX11_again 42 = .ok (.ireturn, 1) := by decide +kernel
theorem dX11_again_43 : decode cX11_again 43 = .ok (.aload_n 0, 1) := by decide +kernel
theorem dX11_again_44 : decode cX11_again 44 = .ok (.getfield 131, 3) := by decide +kernel
theorem dX11_again_47 : decode cX11_again 47 = .ok (.aload_n 0, 1) := by decide +kernel
theorem dX11_again_48 : decode cX11_again 48 = .ok (.getfield 346, 3) := by decide +kernel
theorem dX11_again_51 : decode cX11_again 51 = .ok (.iload_n 1, 1) := by decide +kernel
theorem dX11_again_52 : decode cX11_again 52 = .ok (.iastore, 1) := by decide +kernel
theorem dX11_again_53 : decode cX11_again 53 = .ok (.aload_n 0, 1) := by decide +kernel
theorem dX11_again_54 : decode cX11_again 54 = .ok (.getfield 134, 3) := by decide +kernel
theorem dX11_again_57 : decode cX11_again 57 = .ok (.aload_n 0, 1) := by decide +kernel
theorem dX11_again_58 : decode cX11_again 58 = .ok (.getfield 346, 3) := by decide +kernel
theorem dX11_again_61 : decode cX11_again 61 = .ok (.iload_n 2, 1) := by decide +kernel
theorem dX11_again_62 : decode cX11_again 62 = .ok (.iastore, 1) := by decide +kernel
theorem dX11_again_63 : decode cX11_again 63 = .ok (.aload_n 0, 1) := by decide +kernel
theorem dX11_again_64 : decode cX11_again 64 = .ok (.getfield 137, 3) := by decide +kernel
theorem dX11_again_67 : decode cX11_again 67 = .ok (.aload_n 0, 1) := by decide +kernel
theorem dX11_again_68 : decode cX11_again 68 = .ok (.getfield 346, 3) := by decide +kernel
theorem dX11_again_71 : decode cX11_again 71 = .ok (.aload_n 0, 1) := by decide +kernel
theorem dX11_again_72 : decode cX11_again 72 = .ok (.getfield 332, 3) := by decide +kernel
theorem dX11_again_75 : decode cX11_again 75 = .ok (.iastore, 1) := by decide +kernel
theorem dX11_again_76 : decode cX11_again 76 = .ok (.aload_n 0, 1) := by decide +kernel
theorem dX11_again_77 : decode cX11_again 77 = .ok (.dup, 1) := by decide +kernel
theorem dX11_again_78 : decode cX11_again 78 = .ok (.getfield 346, 3) := by decide +kernel
theorem dX11_again_81 : decode cX11_again 81 = .ok (.iconst 1, 1) := by decide +kernel
theorem dX11_again_82 : decode cX11_again 82 = .ok (.iadd, 1) := by decide +kernel
theorem dX11_again_83 : decode cX11_again 83 = .ok (.putfield 346, 3) := by decide +kernel
theorem dX11_again_86 : decode cX11_again 86 = .ok (.aload_n 0, 1) := by decide +kernel
theorem dX11_again_87 : decode cX11_again 87 = .ok (.getfield 119, 3) := by decide +kernel
theorem dX11_again_90 : decode cX11_again 90 = .ok (.iload_n 1, 1) := by decide +kernel
theorem dX11_again_91 : decode cX11_again 91 = .ok (.iload_n 2, 1) := by decide +kernel
theorem dX11_again_92 : decode cX11_again 92 = .ok (.iastore, 1) := by decide +kernel
theorem dX11_again_93 : decode cX11_again 93 = .ok (.aload_n 0, 1) := by decide +kernel
theorem dX11_again_94 : decode cX11_again 94 = .ok (.getfield 125, 3) := by decide +kernel
theorem dX11_again_97 : decode cX11_again 97 = .ok (.iload_n 1, 1) := by decide +kernel
theorem dX11_again_98 : decode cX11_again 98 = .ok (.dup2, 1) := by decide +kernel
theorem dX11_again_99 : decode cX11_again 99 = .ok (.iaload, 1) := by decide +kernel
theorem dX11_again_100 : decode cX11_again 100 = .ok (.iconst 1, 1) := by decide +kernel
theorem dX11_again_101 : decode cX11_again 101 = .ok (.iadd, 1) := by decide +kernel
theorem dX11_again_102 : decode cX11_again 102 = .ok (.iastore, 1) := by decide +kernel
theorem dX11_again_103 : decode cX11_again 103 = .ok (.aload_n 0, 1) := by decide +kernel
theorem dX11_again_104 : decode cX11_again 104 = .ok (.getfield 125, 3) := by decide +kernel
theorem dX11_again_107 : decode cX11_again 107 = .ok (.iload_n 1, 1) := by decide +kernel
theorem dX11_again_108 : decode cX11_again 108 = .ok (.iaload, 1) := by decide +kernel
theorem dX11_again_109 : decode cX11_again 109 = .ok (.ireturn, 1) := by decide +kernel
theorem dX11_lineOf_0 : decode cX11_lineOf 0 = .ok (.aload_n 0, 1) := by decide +kernel
theorem dX11_lineOf_1 : decode cX11_lineOf 1 = .ok (.iload_n 1, 1) := by decide +kernel
theorem dX11_lineOf_2 : decode cX11_lineOf 2 = .ok (.invokevirtual 343, 3) := by decide +kernel
theorem dX11_lineOf_5 : decode cX11_lineOf 5 = .ok (.ifCond .ne 5, 3) := by decide +kernel
theorem dX11_lineOf_8 : decode cX11_lineOf 8 = .ok (.iconst (-1), 1) := by decide +kernel
theorem dX11_lineOf_9 : decode cX11_lineOf 9 = .ok (.ireturn, 1) := by decide +kernel
theorem dX11_lineOf_10 : decode cX11_lineOf 10 = .ok (.iload_n 2, 1) := by decide +kernel
theorem dX11_lineOf_11 : decode cX11_lineOf 11 = .ok (.tableswitch 105 0 7 #[45, 52, 59, 66, 73, 84, 91, 98], 45) := by decide +kernel
theorem dX11_lineOf_56 : decode cX11_lineOf 56 = .ok (.aload_n 0, 1) := by decide +kernel
theorem dX11_lineOf_57 : decode cX11_lineOf 57 = .ok (.getfield 107, 3) := by decide +kernel
theorem dX11_lineOf_60 : decode cX11_lineOf 60 = .ok (.iload_n 1, 1) := by decide +kernel
theorem dX11_lineOf_61 : decode cX11_lineOf 61 = .ok (.iaload, 1) := by decide +kernel
theorem dX11_lineOf_62 : decode cX11_lineOf 62 = .ok (.ireturn, 1) := by decide +kernel
theorem dX11_lineOf_63 : decode cX11_lineOf 63 = .ok (.aload_n 0, 1) := by decide +kernel
theorem dX11_lineOf_64 : decode cX11_lineOf 64 = .ok (.getfield 110, 3) := by decide +kernel
theorem dX11_lineOf_67 : decode cX11_lineOf 67 = .ok (.iload_n 1, 1) := by decide +kernel
theorem dX11_lineOf_68 : decode cX11_lineOf 68 = .ok (.iaload, 1) := by decide +kernel
theorem dX11_lineOf_69 : decode cX11_lineOf 69 = .ok (.ireturn, 1) := by decide +kernel
theorem dX11_lineOf_70 : decode cX11_lineOf 70 = .ok (.aload_n 0, 1) := by decide +kernel
theorem dX11_lineOf_71 : decode cX11_lineOf 71 = .ok (.getfield 119, 3) := by decide +kernel
theorem dX11_lineOf_74 : decode cX11_lineOf 74 = .ok (.iload_n 1, 1) := by decide +kernel
theorem dX11_lineOf_75 : decode cX11_lineOf 75 = .ok (.iaload, 1) := by decide +kernel
theorem dX11_lineOf_76 : decode cX11_lineOf 76 = .ok (.ireturn, 1) := by decide +kernel
theorem dX11_lineOf_77 : decode cX11_lineOf 77 = .ok (.aload_n 0, 1) := by decide +kernel
theorem dX11_lineOf_78 : decode cX11_lineOf 78 = .ok (.getfield 113, 3) := by decide +kernel
theorem dX11_lineOf_81 : decode cX11_lineOf 81 = .ok (.iload_n 1, 1) := by decide +kernel
theorem dX11_lineOf_82 : decode cX11_lineOf 82 = .ok (.iaload, 1) := by decide +kernel
theorem dX11_lineOf_83 : decode cX11_lineOf 83 = .ok (.ireturn, 1) := by decide +kernel
theorem dX11_lineOf_84 : decode cX11_lineOf 84 = .ok (.aload_n 0, 1) := by decide +kernel
theorem dX11_lineOf_85 : decode cX11_lineOf 85 = .ok (.aload_n 0, 1) := by decide +kernel
theorem dX11_lineOf_86 : decode cX11_lineOf 86 = .ok (.getfield 119, 3) := by decide +kernel
theorem dX11_lineOf_89 : decode cX11_lineOf 89 = .ok (.iload_n 1, 1) := by decide +kernel
theorem dX11_lineOf_90 : decode cX11_lineOf 90 = .ok (.iaload, 1) := by decide +kernel
theorem dX11_lineOf_91 : decode cX11_lineOf 91 = .ok (.invokevirtual 349, 3) := by decide +kernel
theorem dX11_lineOf_94 : decode cX11_lineOf 94 = .ok (.ireturn, 1) := by decide +kernel
theorem dX11_lineOf_95 : decode cX11_lineOf 95 = .ok (.aload_n 0, 1) := by decide +kernel
theorem dX11_lineOf_96 : decode cX11_lineOf 96 = .ok (.getfield 128, 3) := by decide +kernel
theorem dX11_lineOf_99 : decode cX11_lineOf 99 = .ok (.iload_n 1, 1) := by decide +kernel
theorem dX11_lineOf_100 : decode cX11_lineOf 100 = .ok (.iaload, 1) := by decide +kernel
theorem dX11_lineOf_101 : decode cX11_lineOf 101 = .ok (.ireturn, 1) := by decide +kernel
theorem dX11_lineOf_102 : decode cX11_lineOf 102 = .ok (.aload_n 0, 1) := by decide +kernel
theorem dX11_lineOf_103 : decode cX11_lineOf 103 = .ok (.getfield 125, 3) := by decide +kernel
theorem dX11_lineOf_106 : decode cX11_lineOf 106 = .ok (.iload_n 1, 1) := by decide +kernel
theorem dX11_lineOf_107 : decode cX11_lineOf 107 = .ok (.iaload, 1) := by decide +kernel
theorem dX11_lineOf_108 : decode cX11_lineOf 108 = .ok (.ireturn, 1) := by decide +kernel
theorem dX11_lineOf_109 : decode cX11_lineOf 109 = .ok (.aload_n 0, 1) := by decide +kernel
theorem dX11_lineOf_110 : decode cX11_lineOf 110 = .ok (.getfield 122, 3) := by decide +kernel
theorem dX11_lineOf_113 : decode cX11_lineOf 113 = .ok (.iload_n 1, 1) := by decide +kernel
theorem dX11_lineOf_114 : decode cX11_lineOf 114 = .ok (.iaload, 1) := by decide +kernel
theorem dX11_lineOf_115 : decode cX11_lineOf 115 = .ok (.ireturn, 1) := by decide +kernel
theorem dX11_lineOf_116 : decode cX11_lineOf 116 = .ok (.iconst (-1), 1) := by decide +kernel
theorem dX11_lineOf_117 : decode cX11_lineOf 117 = .ok (.ireturn, 1) := by decide +kernel
theorem dX11_known_0 : decode cX11_known 0 = .ok (.aload_n 0, 1) := by decide +kernel
theorem dX11_known_1 : decode cX11_known 1 = .ok (.iload_n 1, 1) := by decide +kernel
theorem dX11_known_2 : decode cX11_known 2 = .ok (.invokevirtual 343, 3) := by decide +kernel
theorem dX11_known_5 : decode cX11_known 5 = .ok (.ifCond .eq 15, 3) := by decide +kernel
theorem dX11_known_8 : decode cX11_known 8 = .ok (.iload_n 2, 1) := by decide +kernel
theorem dX11_known_9 : decode cX11_known 9 = .ok (.i2l, 1) := by decide +kernel
theorem dX11_known_10 : decode cX11_known 10 = .ok (.lconst 0, 1) := by decide +kernel
theorem dX11_known_11 : decode cX11_known 11 = .ok (.ldc2_w 341, 3) := by decide +kernel
theorem dX11_known_14 : decode cX11_known 14 = .ok (.invokestatic 156, 3) := by decide +kernel
theorem dX11_known_17 : decode cX11_known 17 = .ok (.ifCond .ne 5, 3) := by decide +kernel
theorem dX11_known_20 : decode cX11_known 20 = .ok (.iconst (-1), 1) := by decide +kernel
theorem dX11_known_21 : decode cX11_known 21 = .ok (.ireturn, 1) := by decide +kernel
theorem dX11_known_22 : decode cX11_known 22 = .ok (.aload_n 0, 1) := by decide +kernel
theorem dX11_known_23 : decode cX11_known 23 = .ok (.getfield 122, 3) := by decide +kernel
theorem dX11_known_26 : decode cX11_known 26 = .ok (.iload_n 1, 1) := by decide +kernel
theorem dX11_known_27 : decode cX11_known 27 = .ok (.iaload, 1) := by decide +kernel
theorem dX11_known_28 : decode cX11_known 28 = .ok (.iload_n 2, 1) := by decide +kernel
theorem dX11_known_29 : decode cX11_known 29 = .ok (.if_icmp .le 6, 3) := by decide +kernel
theorem dX11_known_32 : decode cX11_known 32 = .ok (.bipush (-4), 2) := by decide +kernel
theorem dX11_known_34 : decode cX11_known 34 = .ok (.ireturn, 1) := by decide +kernel
theorem dX11_known_35 : decode cX11_known 35 = .ok (.aload_n 0, 1) := by decide +kernel
theorem dX11_known_36 : decode cX11_known 36 = .ok (.getfield 116, 3) := by decide +kernel
theorem dX11_known_39 : decode cX11_known 39 = .ok (.iload_n 1, 1) := by decide +kernel
theorem dX11_known_40 : decode cX11_known 40 = .ok (.iaload, 1) := by decide +kernel
theorem dX11_known_41 : decode cX11_known 41 = .ok (.istore_n 3, 1) := by decide +kernel
theorem dX11_known_42 : decode cX11_known 42 = .ok (.iconst 0, 1) := by decide +kernel
theorem dX11_known_43 : decode cX11_known 43 = .ok (.istore 4, 2) := by decide +kernel
theorem dX11_known_45 : decode cX11_known 45 = .ok (.iload 4, 2) := by decide +kernel
theorem dX11_known_47 : decode cX11_known 47 = .ok (.aload_n 0, 1) := by decide +kernel
theorem dX11_known_48 : decode cX11_known 48 = .ok (.getfield 346, 3) := by decide +kernel
theorem dX11_known_51 : decode cX11_known 51 = .ok (.if_icmp .ge 43, 3) := by decide +kernel
theorem dX11_known_54 : decode cX11_known 54 = .ok (.aload_n 0, 1) := by decide +kernel
theorem dX11_known_55 : decode cX11_known 55 = .ok (.getfield 131, 3) := by decide +kernel
theorem dX11_known_58 : decode cX11_known 58 = .ok (.iload 4, 2) := by decide +kernel
theorem dX11_known_60 : decode cX11_known 60 = .ok (.iaload, 1) := by decide +kernel
theorem dX11_known_61 : decode cX11_known 61 = .ok (.iload_n 1, 1) := by decide +kernel
theorem dX11_known_62 : decode cX11_known 62 = .ok (.if_icmp .ne 24, 3) := by decide +kernel
theorem dX11_known_65 : decode cX11_known 65 = .ok (.aload_n 0, 1) := by decide +kernel
theorem dX11_known_66 : decode cX11_known 66 = .ok (.getfield 137, 3) := by decide +kernel
theorem dX11_known_69 : decode cX11_known 69 = .ok (.iload 4, 2) := by decide +kernel
theorem dX11_known_71 : decode cX11_known 71 = .ok (.iaload, 1) := by decide +kernel
theorem dX11_known_72 : decode cX11_known 72 = .ok (.iload_n 2, 1) := by decide +kernel
theorem dX11_known_73 : decode cX11_known 73 = .ok (.if_icmp .gt 13, 3) := by decide +kernel
theorem dX11_known_76 : decode cX11_known 76 = .ok (.aload_n 0, 1) := by decide +kernel
theorem dX11_known_77 : decode cX11_known 77 = .ok (.getfield 134, 3) := by decide +kernel
theorem dX11_known_80 : decode cX11_known 80 = .ok (.iload 4, 2) := by decide +kernel
theorem dX11_known_82 : decode cX11_known 82 = .ok (.iaload, 1) := by decide +kernel
theorem dX11_known_83 : decode cX11_known 83 = .ok (.goto 4, 3) := by decide +kernel
theorem dX11_known_86 : decode cX11_known 86 = .ok (.iload_n 3, 1) := by decide +kernel
theorem dX11_known_87 : decode cX11_known 87 = .ok (.istore_n 3, 1) := by decide +kernel
theorem dX11_known_88 : decode cX11_known 88 = .ok (.iinc 4 1, 3) := by decide +kernel
theorem dX11_known_91 : decode cX11_known 91 = .ok (.goto (-46), 3) := by decide +kernel
theorem dX11_known_94 : decode cX11_known 94 = .ok (.iload_n 3, 1) := by decide +kernel
theorem dX11_known_95 : decode cX11_known 95 = .ok (.ireturn, 1) := by decide +kernel
theorem dX11_worthOf_0 : decode cX11_worthOf 0 = .ok (.iload_n 0, 1) := by decide +kernel
theorem dX11_worthOf_1 : decode cX11_worthOf 1 = .ok (.ifCond .eq 8, 3) := by decide +kernel
theorem dX11_worthOf_4 : decode cX11_worthOf 4 = .ok (.iload_n 0, 1) := by decide +kernel
theorem dX11_worthOf_5 : decode cX11_worthOf 5 = .ok (.iconst 2, 1) := by decide +kernel
theorem dX11_worthOf_6 : decode cX11_worthOf 6 = .ok (.if_icmp .ne 7, 3) := by decide +kernel
theorem dX11_worthOf_9 : decode cX11_worthOf 9 = .ok (.iconst 2, 1) := by decide +kernel
theorem dX11_worthOf_10 : decode cX11_worthOf 10 = .ok (.goto 13, 3) := by decide +kernel
theorem dX11_worthOf_13 : decode cX11_worthOf 13 = .ok (.iload_n 0, 1) := by decide +kernel
theorem dX11_worthOf_14 : decode cX11_worthOf 14 = .ok (.iconst 3, 1) := by decide +kernel
theorem dX11_worthOf_15 : decode cX11_worthOf 15 = .ok (.if_icmp .ne 7, 3) := by decide +kernel
theorem dX11_worthOf_18 : decode cX11_worthOf 18 = .ok (.iconst 0, 1) := by decide +kernel
theorem dX11_worthOf_19 : decode cX11_worthOf 19 = .ok (.goto 4, 3) := by decide +kernel
theorem dX11_worthOf_22 : decode cX11_worthOf 22 = .ok (.iconst 1, 1) := by decide +kernel
theorem dX11_worthOf_23 : decode cX11_worthOf 23 = .ok (.ireturn, 1) := by decide +kernel
theorem dX11_bearers_0 : decode cX11_bearers 0 = .ok (.aload_n 0, 1) := by decide +kernel
theorem dX11_bearers_1 : decode cX11_bearers 1 = .ok (.iload_n 1, 1) := by decide +kernel
theorem dX11_bearers_2 : decode cX11_bearers 2 = .ok (.invokevirtual 166, 3) := by decide +kernel
theorem dX11_bearers_5 : decode cX11_bearers 5 = .ok (.ifCond .eq 52, 3) := by decide +kernel
theorem dX11_bearers_8 : decode cX11_bearers 8 = .ok (.aload_n 0, 1) := by decide +kernel
theorem dX11_bearers_9 : decode cX11_bearers 9 = .ok (.iload_n 2, 1) := by decide +kernel
theorem dX11_bearers_10 : decode cX11_bearers 10 = .ok (.invokevirtual 313, 3) := by decide +kernel
theorem dX11_bearers_13 : decode cX11_bearers 13 = .ok (.ifCond .eq 44, 3) := by decide +kernel
theorem dX11_bearers_16 : decode cX11_bearers 16 = .ok (.iload_n 3, 1) := by decide +kernel
theorem dX11_bearers_17 : decode cX11_bearers 17 = .ok (.i2l, 1) := by decide +kernel
theorem dX11_bearers_18 : decode cX11_bearers 18 = .ok (.ldc2_w 316, 3) := by decide +kernel
theorem dX11_bearers_21 : decode cX11_bearers 21 = .ok (.ldc2_w 318, 3) := by decide +kernel
theorem dX11_bearers_24 : decode cX11_bearers 24 = .ok (.invokestatic 156, 3) := by decide +kernel
theorem dX11_bearers_27 : decode cX11_bearers 27 = .ok (.ifCond .eq 30, 3) := by decide +kernel
theorem dX11_bearers_30 : decode cX11_bearers 30 = .ok (.iload 4, 2) := by decide +kernel
theorem dX11_bearers_32 : decode cX11_bearers 32 = .ok (.i2l, 1) := by decide +kernel
theorem dX11_bearers_33 : decode cX11_bearers 33 = .ok (.iload_n 3, 1) := by decide +kernel
theorem dX11_bearers_34 : decode cX11_bearers 34 = .ok (.i2l, 1) := by decide +kernel
theorem dX11_bearers_35 : decode cX11_bearers 35 = .ok (.ldc2_w 318, 3) := by decide +kernel
theorem dX11_bearers_38 : decode cX11_bearers 38 = .ok (.invokestatic 156, 3) := by decide +kernel
theorem dX11_bearers_41 : decode cX11_bearers 41 = .ok (.ifCond .eq 16, 3) := by decide +kernel
theorem dX11_bearers_44 : decode cX11_bearers 44 = .ok (.iload 5, 2) := by decide +kernel
theorem dX11_bearers_46 : decode cX11_bearers 46 = .ok (.i2l, 1) := by decide +kernel
theorem dX11_bearers_47 : decode cX11_bearers 47 = .ok (.lconst 0, 1) := by decide +kernel
theorem dX11_bearers_48 : decode cX11_bearers 48 = .ok (.ldc2_w 294, 3) := by decide +kernel
theorem dX11_bearers_51 : decode cX11_bearers 51 = .ok (.invokestatic 156, 3) := by decide +kernel
theorem dX11_bearers_54 : decode cX11_bearers 54 = .ok (.ifCond .ne 5, 3) := by decide +kernel
theorem dX11_bearers_57 : decode cX11_bearers 57 = .ok (.iconst (-1), 1) := by decide +kernel
theorem dX11_bearers_58 : decode cX11_bearers 58 = .ok (.ireturn, 1) := by decide +kernel
theorem dX11_bearers_59 : decode cX11_bearers 59 = .ok (.aload_n 0, 1) := by decide +kernel
theorem dX11_bearers_60 : decode cX11_bearers 60 = .ok (.invokevirtual 279, 3) := by decide +kernel
theorem dX11_bearers_63 : decode cX11_bearers 63 = .ok (.iconst 0, 1) := by decide +kernel
theorem dX11_bearers_64 : decode cX11_bearers 64 = .ok (.istore 6, 2) := by decide +kernel
theorem dX11_bearers_66 : decode cX11_bearers 66 = .ok (.iconst 0, 1) := by decide +kernel
theorem dX11_bearers_67 : decode cX11_bearers 67 = .ok (.istore 7, 2) := by decide +kernel
theorem dX11_bearers_69 : decode cX11_bearers 69 = .ok (.iconst 0, 1) := by decide +kernel
theorem dX11_bearers_70 : decode cX11_bearers 70 = .ok (.istore 8, 2) := by decide +kernel
theorem dX11_bearers_72 : decode cX11_bearers 72 = .ok (.iload 8, 2) := by decide +kernel
theorem dX11_bearers_74 : decode cX11_bearers 74 = .ok (.aload_n 0, 1) := by decide +kernel
theorem dX11_bearers_75 : decode cX11_bearers 75 = .ok (.getfield 308, 3) := by decide +kernel
theorem dX11_bearers_78 : decode cX11_bearers 78 = .ok (.if_icmp .ge 96, 3) := by decide +kernel
theorem dX11_bearers_81 : decode cX11_bearers 81 = .ok (.aload_n 0, 1) := by decide +kernel
theorem dX11_bearers_82 : decode cX11_bearers 82 = .ok (.getfield 94, 3) := by decide +kernel
theorem dX11_bearers_85 : decode cX11_bearers 85 = .ok (.aload_n 0, 1) := by decide +kernel
theorem dX11_bearers_86 : decode cX11_bearers 86 = .ok (.getfield 107, 3) := by decide +kernel
theorem dX11_bearers_89 : decode cX11_bearers 89 = .ok (.iload 8, 2) := by decide +kernel
theorem dX11_bearers_91 : decode cX11_bearers 91 = .ok (.iaload, 1) := by decide +kernel
theorem dX11_bearers_92 : decode cX11_bearers 92 = .ok (.iaload, 1) := by decide +kernel
theorem dX11_bearers_93 : decode cX11_bearers 93 = .ok (.iload_n 2, 1) := by decide +kernel
theorem dX11_bearers_94 : decode cX11_bearers 94 = .ok (.if_icmp .ne 47, 3) := by decide +kernel
theorem dX11_bearers_97 : decode cX11_bearers 97 = .ok (.aload_n 0, 1) := by decide +kernel
theorem dX11_bearers_98 : decode cX11_bearers 98 = .ok (.getfield 110, 3) := by decide +kernel
theorem dX11_bearers_101 : decode cX11_bearers 101 = .ok (.iload 8, 2) := by decide +kernel
theorem dX11_bearers_103 : decode cX11_bearers 103 = .ok (.iaload, 1) := by decide +kernel
theorem dX11_bearers_104 : decode cX11_bearers 104 = .ok (.i2l, 1) := by decide +kernel
theorem dX11_bearers_105 : decode cX11_bearers 105 = .ok (.iload_n 3, 1) := by decide +kernel
theorem dX11_bearers_106 : decode cX11_bearers 106 = .ok (.i2l, 1) := by decide +kernel
theorem dX11_bearers_107 : decode cX11_bearers 107 = .ok (.iload 4, 2) := by decide +kernel
theorem dX11_bearers_109 : decode cX11_bearers 109 = .ok (.i2l, 1) := by decide +kernel
theorem dX11_bearers_110 : decode cX11_bearers 110 = .ok (.invokestatic 156, 3) := by decide +kernel
theorem dX11_bearers_113 : decode cX11_bearers 113 = .ok (.ifCond .eq 28, 3) := by decide +kernel
theorem dX11_bearers_116 : decode cX11_bearers 116 = .ok (.aload_n 0, 1) := by decide +kernel
theorem dX11_bearers_117 : decode cX11_bearers 117 = .ok (.getfield 73, 3) := by decide +kernel
theorem dX11_bearers_120 : decode cX11_bearers 120 = .ok (.aload_n 0, 1) := by decide +kernel
theorem dX11_bearers_121 : decode cX11_bearers 121 = .ok (.getfield 119, 3) := by decide +kernel
theorem dX11_bearers_124 : decode cX11_bearers 124 = .ok (.iload 8, 2) := by decide +kernel
theorem dX11_bearers_126 : decode cX11_bearers 126 = .ok (.iaload, 1) := by decide +kernel
theorem dX11_bearers_127 : decode cX11_bearers 127 = .ok (.iaload, 1) := by decide +kernel
theorem dX11_bearers_128 : decode cX11_bearers 128 = .ok (.aload_n 0, 1) := by decide +kernel
