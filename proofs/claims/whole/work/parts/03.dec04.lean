theorem dX11_feed_60 : decode cX11_feed 60 = .ok (.ireturn, 1) := by decide +kernel
theorem dX11_end_0 : decode cX11_end 0 = .ok (.iload_n 1, 1) := by decide +kernel
theorem dX11_end_1 : decode cX11_end 1 = .ok (.i2l, 1) := by decide +kernel
theorem dX11_end_2 : decode cX11_end 2 = .ok (.lconst 0, 1) := by decide +kernel
theorem dX11_end_3 : decode cX11_end 3 = .ok (.aload_n 0, 1) := by decide +kernel
theorem dX11_end_4 : decode cX11_end 4 = .ok (.getfield 172, 3) := by decide +kernel
theorem dX11_end_7 : decode cX11_end 7 = .ok (.i2l, 1) := by decide +kernel
theorem dX11_end_8 : decode cX11_end 8 = .ok (.invokestatic 156, 3) := by decide +kernel
theorem dX11_end_11 : decode cX11_end 11 = .ok (.ifCond .ne 5, 3) := by decide +kernel
theorem dX11_end_14 : decode cX11_end 14 = .ok (.iconst (-1), 1) := by decide +kernel
theorem dX11_end_15 : decode cX11_end 15 = .ok (.ireturn, 1) := by decide +kernel
theorem dX11_end_16 : decode cX11_end 16 = .ok (.aload_n 0, 1) := by decide +kernel
theorem dX11_end_17 : decode cX11_end 17 = .ok (.getfield 172, 3) := by decide +kernel
theorem dX11_end_20 : decode cX11_end 20 = .ok (.istore_n 2, 1) := by decide +kernel
theorem dX11_end_21 : decode cX11_end 21 = .ok (.aload_n 0, 1) := by decide +kernel
theorem dX11_end_22 : decode cX11_end 22 = .ok (.iload_n 1, 1) := by decide +kernel
theorem dX11_end_23 : decode cX11_end 23 = .ok (.putfield 172, 3) := by decide +kernel
theorem dX11_end_26 : decode cX11_end 26 = .ok (.iload_n 2, 1) := by decide +kernel
theorem dX11_end_27 : decode cX11_end 27 = .ok (.ireturn, 1) := by decide +kernel
theorem dX11_byteAt_0 : decode cX11_byteAt 0 = .ok (.iload_n 1, 1) := by decide +kernel
theorem dX11_byteAt_1 : decode cX11_byteAt 1 = .ok (.aload_n 0, 1) := by decide +kernel
theorem dX11_byteAt_2 : decode cX11_byteAt 2 = .ok (.getfield 172, 3) := by decide +kernel
theorem dX11_byteAt_5 : decode cX11_byteAt 5 = .ok (.if_icmp .ge 12, 3) := by decide +kernel
theorem dX11_byteAt_8 : decode cX11_byteAt 8 = .ok (.aload_n 0, 1) := by decide +kernel
theorem dX11_byteAt_9 : decode cX11_byteAt 9 = .ok (.getfield 19, 3) := by decide +kernel
theorem dX11_byteAt_12 : decode cX11_byteAt 12 = .ok (.iload_n 1, 1) := by decide +kernel
theorem dX11_byteAt_13 : decode cX11_byteAt 13 = .ok (.iaload, 1) := by decide +kernel
theorem dX11_byteAt_14 : decode cX11_byteAt 14 = .ok (.goto 5, 3) := by decide +kernel
theorem dX11_byteAt_17 : decode cX11_byteAt 17 = .ok (.bipush (-4), 2) := by decide +kernel
theorem dX11_byteAt_19 : decode cX11_byteAt 19 = .ok (.ireturn, 1) := by decide +kernel
theorem dX11_fails_0 : decode cX11_fails 0 = .ok (.aload_n 0, 1) := by decide +kernel
theorem dX11_fails_1 : decode cX11_fails 1 = .ok (.getfield 175, 3) := by decide +kernel
theorem dX11_fails_4 : decode cX11_fails 4 = .ok (.ifCond .ne 16, 3) := by decide +kernel
theorem dX11_fails_7 : decode cX11_fails 7 = .ok (.aload_n 0, 1) := by decide +kernel
theorem dX11_fails_8 : decode cX11_fails 8 = .ok (.iload_n 1, 1) := by decide +kernel
theorem dX11_fails_9 : decode cX11_fails 9 = .ok (.putfield 175, 3) := by decide +kernel
theorem dX11_fails_12 : decode cX11_fails 12 = .ok (.aload_n 0, 1) := by decide +kernel
theorem dX11_fails_13 : decode cX11_fails 13 = .ok (.aload_n 0, 1) := by decide +kernel
theorem dX11_fails_14 : decode cX11_fails 14 = .ok (.getfield 178, 3) := by decide +kernel
theorem dX11_fails_17 : decode cX11_fails 17 = .ok (.putfield 181, 3) := by decide +kernel
theorem dX11_fails_20 : decode cX11_fails 20 = .ok (.return_, 1) := by decide +kernel
theorem dX11_next_0 : decode cX11_next 0 = .ok (.aload_n 0, 1) := by decide +kernel
theorem dX11_next_1 : decode cX11_next 1 = .ok (.getfield 175, 3) := by decide +kernel
theorem dX11_next_4 : decode cX11_next 4 = .ok (.ifCond .le 4, 3) := by decide +kernel
theorem dX11_next_7 : decode cX11_next 7 = .ok (.return_, 1) := by decide +kernel
theorem dX11_next_8 : decode cX11_next 8 = .ok (.aload_n 0, 1) := by decide +kernel
theorem dX11_next_9 : decode cX11_next 9 = .ok (.aload_n 0, 1) := by decide +kernel
theorem dX11_next_10 : decode cX11_next 10 = .ok (.getfield 184, 3) := by decide +kernel
theorem dX11_next_13 : decode cX11_next 13 = .ok (.invokevirtual 187, 3) := by decide +kernel
theorem dX11_next_16 : decode cX11_next 16 = .ok (.bipush 32, 2) := by decide +kernel
theorem dX11_next_18 : decode cX11_next 18 = .ok (.if_icmp .ne 16, 3) := by decide +kernel
theorem dX11_next_21 : decode cX11_next 21 = .ok (.aload_n 0, 1) := by decide +kernel
theorem dX11_next_22 : decode cX11_next 22 = .ok (.dup, 1) := by decide +kernel
theorem dX11_next_23 : decode cX11_next 23 = .ok (.getfield 184, 3) := by decide +kernel
theorem dX11_next_26 : decode cX11_next 26 = .ok (.iconst 1, 1) := by decide +kernel
theorem dX11_next_27 : decode cX11_next 27 = .ok (.iadd, 1) := by decide +kernel
theorem dX11_next_28 : decode cX11_next 28 = .ok (.putfield 184, 3) := by decide +kernel
theorem dX11_next_31 : decode cX11_next 31 = .ok (.goto (-23), 3) := by decide +kernel
theorem dX11_next_34 : decode cX11_next 34 = .ok (.aload_n 0, 1) := by decide +kernel
theorem dX11_next_35 : decode cX11_next 35 = .ok (.aload_n 0, 1) := by decide +kernel
theorem dX11_next_36 : decode cX11_next 36 = .ok (.getfield 184, 3) := by decide +kernel
theorem dX11_next_39 : decode cX11_next 39 = .ok (.putfield 178, 3) := by decide +kernel
theorem dX11_next_42 : decode cX11_next 42 = .ok (.aload_n 0, 1) := by decide +kernel
theorem dX11_next_43 : decode cX11_next 43 = .ok (.aload_n 0, 1) := by decide +kernel
theorem dX11_next_44 : decode cX11_next 44 = .ok (.getfield 184, 3) := by decide +kernel
theorem dX11_next_47 : decode cX11_next 47 = .ok (.invokevirtual 187, 3) := by decide +kernel
theorem dX11_next_50 : decode cX11_next 50 = .ok (.istore_n 1, 1) := by decide +kernel
theorem dX11_next_51 : decode cX11_next 51 = .ok (.aload_n 0, 1) := by decide +kernel
theorem dX11_next_52 : decode cX11_next 52 = .ok (.iconst 0, 1) := by decide +kernel
theorem dX11_next_53 : decode cX11_next 53 = .ok (.putfield 191, 3) := by decide +kernel
theorem dX11_next_56 : decode cX11_next 56 = .ok (.iload_n 1, 1) := by decide +kernel
theorem dX11_next_57 : decode cX11_next 57 = .ok (.bipush (-4), 2) := by decide +kernel
theorem dX11_next_59 : decode cX11_next 59 = .ok (.if_icmp .ne 11, 3) := by decide +kernel
theorem dX11_next_62 : decode cX11_next 62 = .ok (.aload_n 0, 1) := by decide +kernel
theorem dX11_next_63 : decode cX11_next 63 = .ok (.iconst 0, 1) := by decide +kernel
theorem dX11_next_64 : decode cX11_next 64 = .ok (.putfield 194, 3) := by decide +kernel
theorem dX11_next_67 : decode cX11_next 67 = .ok (.goto 202, 3) := by decide +kernel
theorem dX11_next_70 : decode cX11_next 70 = .ok (.iload_n 1, 1) := by decide +kernel
theorem dX11_next_71 : decode cX11_next 71 = .ok (.i2l, 1) := by decide +kernel
theorem dX11_next_72 : decode cX11_next 72 = .ok (.ldc2_w 197, 3) := by decide +kernel
theorem dX11_next_75 : decode cX11_next 75 = .ok (.ldc2_w 199, 3) := by decide +kernel
theorem dX11_next_78 : decode cX11_next 78 = .ok (.invokestatic 156, 3) := by decide +kernel
theorem dX11_next_81 : decode cX11_next 81 = .ok (.ifCond .eq 45, 3) := by decide +kernel
theorem dX11_next_84 : decode cX11_next 84 = .ok (.aload_n 0, 1) := by decide +kernel
theorem dX11_next_85 : decode cX11_next 85 = .ok (.aload_n 0, 1) := by decide +kernel
theorem dX11_next_86 : decode cX11_next 86 = .ok (.getfield 184, 3) := by decide +kernel
theorem dX11_next_89 : decode cX11_next 89 = .ok (.invokevirtual 187, 3) := by decide +kernel
theorem dX11_next_92 : decode cX11_next 92 = .ok (.i2l, 1) := by decide +kernel
theorem dX11_next_93 : decode cX11_next 93 = .ok (.ldc2_w 197, 3) := by decide +kernel
theorem dX11_next_96 : decode cX11_next 96 = .ok (.ldc2_w 199, 3) := by decide +kernel
theorem dX11_next_99 : decode cX11_next 99 = .ok (.invokestatic 156, 3) := by decide +kernel
theorem dX11_next_102 : decode cX11_next 102 = .ok (.ifCond .eq 16, 3) := by decide +kernel
theorem dX11_next_105 : decode cX11_next 105 = .ok (.aload_n 0, 1) := by decide +kernel
theorem dX11_next_106 : decode cX11_next 106 = .ok (.dup, 1) := by decide +kernel
theorem dX11_next_107 : decode cX11_next 107 = .ok (.getfield 184, 3) := by decide +kernel
theorem dX11_next_110 : decode cX11_next 110 = .ok (.iconst 1, 1) := by decide +kernel
theorem dX11_next_111 : decode cX11_next 111 = .ok (.iadd, 1) := by decide +kernel
theorem dX11_next_112 : decode cX11_next 112 = .ok (.putfield 184, 3) := by decide +kernel
theorem dX11_next_115 : decode cX11_next 115 = .ok (.goto (-31), 3) := by decide +kernel
theorem dX11_next_118 : decode cX11_next 118 = .ok (.aload_n 0, 1) := by decide +kernel
theorem dX11_next_119 : decode cX11_next 119 = .ok (.iconst 1, 1) := by decide +kernel
theorem dX11_next_120 : decode cX11_next 120 = .ok (.putfield 194, 3) := by decide +kernel
theorem dX11_next_123 : decode cX11_next 123 = .ok (.goto 146, 3) := by decide +kernel
theorem dX11_next_126 : decode cX11_next 126 = .ok (.iload_n 1, 1) := by decide +kernel
theorem dX11_next_127 : decode cX11_next 127 = .ok (.i2l, 1) := by decide +kernel
theorem dX11_next_128 : decode cX11_next 128 = .ok (.ldc2_w 201, 3) := by decide +kernel
theorem dX11_next_131 : decode cX11_next 131 = .ok (.ldc2_w 203, 3) := by decide +kernel
theorem dX11_next_134 : decode cX11_next 134 = .ok (.invokestatic 156, 3) := by decide +kernel
theorem dX11_next_137 : decode cX11_next 137 = .ok (.ifCond .eq 106, 3) := by decide +kernel
theorem dX11_next_140 : decode cX11_next 140 = .ok (.aload_n 0, 1) := by decide +kernel
theorem dX11_next_141 : decode cX11_next 141 = .ok (.aload_n 0, 1) := by decide +kernel
theorem dX11_next_142 : decode cX11_next 142 = .ok (.getfield 184, 3) := by decide +kernel
theorem dX11_next_145 : decode cX11_next 145 = .ok (.invokevirtual 187, 3) := by decide +kernel
theorem dX11_next_148 : decode cX11_next 148 = .ok (.i2l, 1) := by decide +kernel
theorem dX11_next_149 : decode cX11_next 149 = .ok (.ldc2_w 201, 3) := by decide +kernel
theorem dX11_next_152 : decode cX11_next 152 = .ok (.ldc2_w 203, 3) := by decide +kernel
theorem dX11_next_155 : decode cX11_next 155 = .ok (.invokestatic 156, 3) := by decide +kernel
theorem dX11_next_158 : decode cX11_next 158 = .ok (.ifCond .eq 59, 3) := by decide +kernel
theorem dX11_next_161 : decode cX11_next 161 = .ok (.aload_n 0, 1) := by decide +kernel
theorem dX11_next_162 : decode cX11_next 162 = .ok (.aload_n 0, 1) := by decide +kernel
theorem dX11_next_163 : decode cX11_next 163 = .ok (.getfield 184, 3) := by decide +kernel
theorem dX11_next_166 : decode cX11_next 166 = .ok (.aload_n 0, 1) := by decide +kernel
theorem dX11_next_167 : decode cX11_next 167 = .ok (.getfield 178, 3) := by decide +kernel
theorem dX11_next_170 : decode cX11_next 170 = .ok (.isub, 1) := by decide +kernel
theorem dX11_next_171 : decode cX11_next 171 = .ok (.iconst 2, 1) := by decide +kernel
theorem dX11_next_172 : decode cX11_next 172 = .ok (.if_icmp .ge 25, 3) := by decide +kernel
theorem dX11_next_175 : decode cX11_next 175 = .ok (.bipush 10, 2) := by decide +kernel
theorem dX11_next_177 : decode cX11_next 177 = .ok (.aload_n 0, 1) := by decide +kernel
theorem dX11_next_178 : decode cX11_next 178 = .ok (.getfield 191, 3) := by decide +kernel
theorem dX11_next_181 : decode cX11_next 181 = .ok (.imul, 1) := by decide +kernel
theorem dX11_next_182 : decode cX11_next 182 = .ok (.aload_n 0, 1) := by decide +kernel
theorem dX11_next_183 : decode cX11_next 183 = .ok (.aload_n 0, 1) := by decide +kernel
theorem dX11_next_184 : decode cX11_next 184 = .ok (.getfield 184, 3) := by decide +kernel
theorem dX11_next_187 : decode cX11_next 187 = .ok (.invokevirtual 187, 3) := by decide +kernel
theorem dX11_next_190 : decode cX11_next 190 = .ok (.iadd, 1) := by decide +kernel
theorem dX11_next_191 : decode cX11_next 191 = .ok (.bipush 48, 2) := by decide +kernel
theorem dX11_next_193 : decode cX11_next 193 = .ok (.isub, 1) := by decide +kernel
theorem dX11_next_194 : decode cX11_next 194 = .ok (.goto 7, 3) := by decide +kernel
theorem dX11_next_197 : decode cX11_next 197 = .ok (.aload_n 0, 1) := by decide +kernel
theorem dX11_next_198 : decode cX11_next 198 = .ok (.getfield 191, 3) := by decide +kernel
theorem dX11_next_201 : decode cX11_next 201 = .ok (.putfield 191, 3) := by decide +kernel
theorem dX11_next_204 : decode cX11_next 204 = .ok (.aload_n 0, 1) := by decide +kernel
theorem dX11_next_205 : decode cX11_next 205 = .ok (.dup, 1) := by decide +kernel
theorem dX11_next_206 : decode cX11_next 206 = .ok (.getfield 184, 3) := by decide +kernel
theorem dX11_next_209 : decode cX11_next 209 = .ok (.iconst 1, 1) := by decide +kernel
theorem dX11_next_210 : decode cX11_next 210 = .ok (.iadd, 1) := by decide +kernel
theorem dX11_next_211 : decode cX11_next 211 = .ok (.putfield 184, 3) := by decide +kernel
theorem dX11_next_214 : decode cX11_next 214 = .ok (.goto (-74), 3) := by decide +kernel
theorem dX11_next_217 : decode cX11_next 217 = .ok (.aload_n 0, 1) := by decide +kernel
theorem dX11_next_218 : decode cX11_next 218 = .ok (.iconst 2, 1) := by decide +kernel
theorem dX11_next_219 : decode cX11_next 219 = .ok (.putfield 194, 3) := by decide +kernel
theorem dX11_next_222 : decode cX11_next 222 = .ok (.aload_n 0, 1) := by decide +kernel
theorem dX11_next_223 : decode cX11_next 223 = .ok (.getfield 184, 3) := by decide +kernel
theorem dX11_next_226 : decode cX11_next 226 = .ok (.aload_n 0, 1) := by decide +kernel
theorem dX11_next_227 : decode cX11_next 227 = .ok (.getfield 178, 3) := by decide +kernel
theorem dX11_next_230 : decode cX11_next 230 = .ok (.isub, 1) := by decide +kernel
theorem dX11_next_231 : decode cX11_next 231 = .ok (.iconst 2, 1) := by decide +kernel
theorem dX11_next_232 : decode cX11_next 232 = .ok (.if_icmp .le 37, 3) := by decide +kernel
theorem dX11_next_235 : decode cX11_next 235 = .ok (.aload_n 0, 1) := by decide +kernel
theorem dX11_next_236 : decode cX11_next 236 = .ok (.iconst 1, 1) := by decide +kernel
theorem dX11_next_237 : decode cX11_next 237 = .ok (.invokevirtual 205, 3) := by decide +kernel
theorem dX11_next_240 : decode cX11_next 240 = .ok (.goto 29, 3) := by decide +kernel
theorem dX11_next_243 : decode cX11_next 243 = .ok (.aload_n 0, 1) := by decide +kernel
theorem dX11_next_244 : decode cX11_next 244 = .ok (.iconst 3, 1) := by decide +kernel
theorem dX11_next_245 : decode cX11_next 245 = .ok (.putfield 194, 3) := by decide +kernel
theorem dX11_next_248 : decode cX11_next 248 = .ok (.aload_n 0, 1) := by decide +kernel
theorem dX11_next_249 : decode cX11_next 249 = .ok (.dup, 1) := by decide +kernel
theorem dX11_next_250 : decode cX11_next 250 = .ok (.getfield 184, 3) := by decide +kernel
theorem dX11_next_253 : decode cX11_next 253 = .ok (.iconst 1, 1) := by decide +kernel
theorem dX11_next_254 : decode cX11_next 254 = .ok (.iadd, 1) := by decide +kernel
theorem dX11_next_255 : decode cX11_next 255 = .ok (.putfield 184, 3) := by decide +kernel
theorem dX11_next_258 : decode cX11_next 258 = .ok (.iload_n 1, 1) := by decide +kernel
theorem dX11_next_259 : decode cX11_next 259 = .ok (.bipush 59, 2) := by decide +kernel
theorem dX11_next_261 : decode cX11_next 261 = .ok (.if_icmp .eq 8, 3) := by decide +kernel
theorem dX11_next_264 : decode cX11_next 264 = .ok (.aload_n 0, 1) := by decide +kernel
theorem dX11_next_265 : decode cX11_next 265 = .ok (.iconst 1, 1) := by decide +kernel
theorem dX11_next_266 : decode cX11_next 266 = .ok (.invokevirtual 205, 3) := by decide +kernel
theorem dX11_next_269 : decode cX11_next 269 = .ok (.return_, 1) := by decide +kernel
theorem dX11_lineAt_0 : decode cX11_lineAt 0 = .ok (.iconst 0, 1) := by decide +kernel
theorem dX11_lineAt_1 : decode cX11_lineAt 1 = .ok (.istore_n 1, 1) := by decide +kernel
theorem dX11_lineAt_2 : decode cX11_lineAt 2 = .ok (.iload_n 1, 1) := by decide +kernel
theorem dX11_lineAt_3 : decode cX11_lineAt 3 = .ok (.bipush 8, 2) := by decide +kernel
theorem dX11_lineAt_5 : decode cX11_lineAt 5 = .ok (.if_icmp .ge 113, 3) := by decide +kernel
theorem dX11_lineAt_8 : decode cX11_lineAt 8 = .ok (.aload_n 0, 1) := by decide +kernel
theorem dX11_lineAt_9 : decode cX11_lineAt 9 = .ok (.getfield 194, 3) := by decide +kernel
theorem dX11_lineAt_12 : decode cX11_lineAt 12 = .ok (.iconst 1, 1) := by decide +kernel
theorem dX11_lineAt_13 : decode cX11_lineAt 13 = .ok (.if_icmp .ne 34, 3) := by decide +kernel
theorem dX11_lineAt_16 : decode cX11_lineAt 16 = .ok (.aload_n 0, 1) := by decide +kernel
theorem dX11_lineAt_17 : decode cX11_lineAt 17 = .ok (.getfield 184, 3) := by decide +kernel
theorem dX11_lineAt_20 : decode cX11_lineAt 20 = .ok (.aload_n 0, 1) := by decide +kernel
theorem dX11_lineAt_21 : decode cX11_lineAt 21 = .ok (.getfield 178, 3) := by decide +kernel
theorem dX11_lineAt_24 : decode cX11_lineAt 24 = .ok (.isub, 1) := by decide +kernel
theorem dX11_lineAt_25 : decode cX11_lineAt 25 = .ok (.aload_n 0, 1) := by decide +kernel
theorem dX11_lineAt_26 : decode cX11_lineAt 26 = .ok (.getfield 22, 3) := by decide +kernel
theorem dX11_lineAt_29 : decode cX11_lineAt 29 = .ok (.iload_n 1, 1) := by decide +kernel
theorem dX11_lineAt_30 : decode cX11_lineAt 30 = .ok (.iconst 1, 1) := by decide +kernel
theorem dX11_lineAt_31 : decode cX11_lineAt 31 = .ok (.iadd, 1) := by decide +kernel
theorem dX11_lineAt_32 : decode cX11_lineAt 32 = .ok (.iaload, 1) := by decide +kernel
theorem dX11_lineAt_33 : decode cX11_lineAt 33 = .ok (.aload_n 0, 1) := by decide +kernel
theorem dX11_lineAt_34 : decode cX11_lineAt 34 = .ok (.getfield 22, 3) := by decide +kernel
theorem dX11_lineAt_37 : decode cX11_lineAt 37 = .ok (.iload_n 1, 1) := by decide +kernel
theorem dX11_lineAt_38 : decode cX11_lineAt 38 = .ok (.iaload, 1) := by decide +kernel
theorem dX11_lineAt_39 : decode cX11_lineAt 39 = .ok (.isub, 1) := by decide +kernel
theorem dX11_lineAt_40 : decode cX11_lineAt 40 = .ok (.if_icmp .ne 7, 3) := by decide +kernel
theorem dX11_lineAt_43 : decode cX11_lineAt 43 = .ok (.iconst 1, 1) := by decide +kernel
theorem dX11_lineAt_44 : decode cX11_lineAt 44 = .ok (.goto 4, 3) := by decide +kernel
theorem dX11_lineAt_47 : decode cX11_lineAt 47 = .ok (.iconst 0, 1) := by decide +kernel
theorem dX11_lineAt_48 : decode cX11_lineAt 48 = .ok (.istore_n 2, 1) := by decide +kernel
theorem dX11_lineAt_49 : decode cX11_lineAt 49 = .ok (.iconst 0, 1) := by decide +kernel
theorem dX11_lineAt_50 : decode cX11_lineAt 50 = .ok (.istore_n 3, 1) := by decide +kernel
theorem dX11_lineAt_51 : decode cX11_lineAt 51 = .ok (.iload_n 2, 1) := by decide +kernel
theorem dX11_lineAt_52 : decode cX11_lineAt 52 = .ok (.ifCond .eq 54, 3) := by decide +kernel
theorem dX11_lineAt_55 : decode cX11_lineAt 55 = .ok (.iload_n 3, 1) := by decide +kernel
theorem dX11_lineAt_56 : decode cX11_lineAt 56 = .ok (.aload_n 0, 1) := by decide +kernel
theorem dX11_lineAt_57 : decode cX11_lineAt 57 = .ok (.getfield 184, 3) := by decide +kernel
theorem dX11_lineAt_60 : decode cX11_lineAt 60 = .ok (.aload_n 0, 1) := by decide +kernel
theorem dX11_lineAt_61 : decode cX11_lineAt 61 = .ok (.getfield 178, 3) := by decide +kernel
theorem dX11_lineAt_64 : decode cX11_lineAt 64 = .ok (.isub, 1) := by decide +kernel
theorem dX11_lineAt_65 : decode cX11_lineAt 65 = .ok (.if_icmp .ge 41, 3) := by decide +kernel
theorem dX11_lineAt_68 : decode cX11_lineAt 68 = .ok (.aload_n 0, 1) := by decide +kernel
theorem dX11_lineAt_69 : decode cX11_lineAt 69 = .ok (.aload_n 0, 1) := by decide +kernel
theorem dX11_lineAt_70 : decode cX11_lineAt 70 = .ok (.getfield 178, 3) := by decide +kernel
theorem dX11_lineAt_73 : decode cX11_lineAt 73 = .ok (.iload_n 3, 1) := by decide +kernel
theorem dX11_lineAt_74 : decode cX11_lineAt 74 = .ok (.iadd, 1) := by decide +kernel
theorem dX11_lineAt_75 : decode cX11_lineAt 75 = .ok (.invokevirtual 187, 3) := by decide +kernel
theorem dX11_lineAt_78 : decode cX11_lineAt 78 = .ok (.aload_n 0, 1) := by decide +kernel
theorem dX11_lineAt_79 : decode cX11_lineAt 79 = .ok (.getfield 25, 3) := by decide +kernel
theorem dX11_lineAt_82 : decode cX11_lineAt 82 = .ok (.aload_n 0, 1) := by decide +kernel
theorem dX11_lineAt_83 : decode cX11_lineAt 83 = .ok (.getfield 22, 3) := by decide +kernel
theorem dX11_lineAt_86 : decode cX11_lineAt 86 = .ok (.iload_n 1, 1) := by decide +kernel
theorem dX11_lineAt_87 : decode cX11_lineAt 87 = .ok (.iaload, 1) := by decide +kernel
theorem dX11_lineAt_88 : decode cX11_lineAt 88 = .ok (.iload_n 3, 1) := by decide +kernel
theorem dX11_lineAt_89 : decode cX11_lineAt 89 = .ok (.iadd, 1) := by decide +kernel
theorem dX11_lineAt_90 : decode cX11_lineAt 90 = .ok (.iaload, 1) := by decide +kernel
theorem dX11_lineAt_91 : decode cX11_lineAt 91 = .ok (.if_icmp .ne 7, 3) := by decide +kernel
theorem dX11_lineAt_94 : decode cX11_lineAt 94 = .ok (.iconst 1, 1) := by decide +kernel
theorem dX11_lineAt_95 : decode cX11_lineAt 95 = .ok (.goto 4, 3) := by decide +kernel
theorem dX11_lineAt_98 : decode cX11_lineAt 98 = .ok (.iconst 0, 1) := by decide +kernel
theorem dX11_lineAt_99 : decode cX11_lineAt 99 = .ok (.istore_n 2, 1) := by decide +kernel
theorem dX11_lineAt_100 : decode cX11_lineAt 100 = .ok (.iinc 3 1, 3) := by decide +kernel
theorem dX11_lineAt_103 : decode cX11_lineAt 103 = .ok (.goto (-52), 3) := by decide +kernel
theorem dX11_lineAt_106 : decode cX11_lineAt 106 = .ok (.iload_n 2, 1) := by decide +kernel
theorem dX11_lineAt_107 : decode cX11_lineAt 107 = .ok (.ifCond .eq 5, 3) := by decide +kernel
theorem dX11_lineAt_110 : decode cX11_lineAt 110 = .ok (.iload_n 1, 1) := by decide +kernel
theorem dX11_lineAt_111 : decode cX11_lineAt 111 = .ok (.ireturn, 1) := by decide +kernel
theorem dX11_lineAt_112 : decode cX11_lineAt 112 = .ok (.iinc 1 1, 3) := by decide +kernel
theorem dX11_lineAt_115 : decode cX11_lineAt 115 = .ok (.goto (-113), 3) := by decide +kernel
theorem dX11_lineAt_118 : decode cX11_lineAt 118 = .ok (.bipush (-4), 2) := by decide +kernel
theorem dX11_lineAt_120 : decode cX11_lineAt 120 = .ok (.ireturn, 1) := by decide +kernel
theorem dX11_wantName_0 : decode cX11_wantName 0 = .ok (.aload_n 0, 1) := by decide +kernel
theorem dX11_wantName_1 : decode cX11_wantName 1 = .ok (.getfield 175, 3) := by decide +kernel
theorem dX11_wantName_4 : decode cX11_wantName 4 = .ok (.ifCond .ne 29, 3) := by decide +kernel
theorem dX11_wantName_7 : decode cX11_wantName 7 = .ok (.aload_n 0, 1) := by decide +kernel
theorem dX11_wantName_8 : decode cX11_wantName 8 = .ok (.getfield 194, 3) := by decide +kernel
theorem dX11_wantName_11 : decode cX11_wantName 11 = .ok (.iconst 1, 1) := by decide +kernel
theorem dX11_wantName_12 : decode cX11_wantName 12 = .ok (.if_icmp .ne 16, 3) := by decide +kernel
theorem dX11_wantName_15 : decode cX11_wantName 15 = .ok (.aload_n 0, 1) := by decide +kernel
theorem dX11_wantName_16 : decode cX11_wantName 16 = .ok (.getfield 184, 3) := by decide +kernel
theorem dX11_wantName_19 : decode cX11_wantName 19 = .ok (.aload_n 0, 1) := by decide +kernel
theorem dX11_wantName_20 : decode cX11_wantName 20 = .ok (.getfield 178, 3) := by decide +kernel
theorem dX11_wantName_23 : decode cX11_wantName 23 = .ok (.isub, 1) := by decide +kernel
theorem dX11_wantName_24 : decode cX11_wantName 24 = .ok (.iload_n 1, 1) := by decide +kernel
theorem dX11_wantName_25 : decode cX11_wantName 25 = .ok (.if_icmp .le 8, 3) := by decide +kernel
theorem dX11_wantName_28 : decode cX11_wantName 28 = .ok (.aload_n 0, 1) := by decide +kernel
theorem dX11_wantName_29 : decode cX11_wantName 29 = .ok (.iconst 2, 1) := by decide +kernel
theorem dX11_wantName_30 : decode cX11_wantName 30 = .ok (.invokevirtual 205, 3) := by decide +kernel
theorem dX11_wantName_33 : decode cX11_wantName 33 = .ok (.return_, 1) := by decide +kernel
theorem dX11_letter_0 : decode cX11_letter 0 = .ok (.aload_n 0, 1) := by decide +kernel
theorem dX11_letter_1 : decode cX11_letter 1 = .ok (.getfield 178, 3) := by decide +kernel
theorem dX11_letter_4 : decode cX11_letter 4 = .ok (.iload_n 1, 1) := by decide +kernel
theorem dX11_letter_5 : decode cX11_letter 5 = .ok (.iadd, 1) := by decide +kernel
theorem dX11_letter_6 : decode cX11_letter 6 = .ok (.aload_n 0, 1) := by decide +kernel
theorem dX11_letter_7 : decode cX11_letter 7 = .ok (.getfield 184, 3) := by decide +kernel
theorem dX11_letter_10 : decode cX11_letter 10 = .ok (.if_icmp .ge 21, 3) := by decide +kernel
theorem dX11_letter_13 : decode cX11_letter 13 = .ok (.aload_n 0, 1) := by decide +kernel
theorem dX11_letter_14 : decode cX11_letter 14 = .ok (.aload_n 0, 1) := by decide +kernel
theorem dX11_letter_15 : decode cX11_letter 15 = .ok (.getfield 178, 3) := by decide +kernel
theorem dX11_letter_18 : decode cX11_letter 18 = .ok (.iload_n 1, 1) := by decide +kernel
theorem dX11_letter_19 : decode cX11_letter 19 = .ok (.iadd, 1) := by decide +kernel
theorem dX11_letter_20 : decode cX11_letter 20 = .ok (.invokevirtual 187, 3) := by decide +kernel
theorem dX11_letter_23 : decode cX11_letter 23 = .ok (.bipush 97, 2) := by decide +kernel
theorem dX11_letter_25 : decode cX11_letter 25 = .ok (.isub, 1) := by decide +kernel
theorem dX11_letter_26 : decode cX11_letter 26 = .ok (.iconst 1, 1) := by decide +kernel
theorem dX11_letter_27 : decode cX11_letter 27 = .ok (.iadd, 1) := by decide +kernel
theorem dX11_letter_28 : decode cX11_letter 28 = .ok (.goto 4, 3) := by decide +kernel
theorem dX11_letter_31 : decode cX11_letter 31 = .ok (.iconst 0, 1) := by decide +kernel
theorem dX11_letter_32 : decode cX11_letter 32 = .ok (.ireturn, 1) := by decide +kernel
theorem dX11_number_0 : decode cX11_number 0 = .ok (.aload_n 0, 1) := by decide +kernel
theorem dX11_number_1 : decode cX11_number 1 = .ok (.getfield 175, 3) := by decide +kernel
theorem dX11_number_4 : decode cX11_number 4 = .ok (.ifCond .ne 16, 3) := by decide +kernel
theorem dX11_number_7 : decode cX11_number 7 = .ok (.aload_n 0, 1) := by decide +kernel
theorem dX11_number_8 : decode cX11_number 8 = .ok (.getfield 194, 3) := by decide +kernel
theorem dX11_number_11 : decode cX11_number 11 = .ok (.iconst 2, 1) := by decide +kernel
theorem dX11_number_12 : decode cX11_number 12 = .ok (.if_icmp .eq 8, 3) := by decide +kernel
theorem dX11_number_15 : decode cX11_number 15 = .ok (.aload_n 0, 1) := by decide +kernel
theorem dX11_number_16 : decode cX11_number 16 = .ok (.iconst 2, 1) := by decide +kernel
theorem dX11_number_17 : decode cX11_number 17 = .ok (.invokevirtual 205, 3) := by decide +kernel
theorem dX11_number_20 : decode cX11_number 20 = .ok (.aload_n 0, 1) := by decide +kernel
theorem dX11_number_21 : decode cX11_number 21 = .ok (.getfield 175, 3) := by decide +kernel
theorem dX11_number_24 : decode cX11_number 24 = .ok (.ifCond .ne 23, 3) := by decide +kernel
theorem dX11_number_27 : decode cX11_number 27 = .ok (.aload_n 0, 1) := by decide +kernel
theorem dX11_number_28 : decode cX11_number 28 = .ok (.getfield 191, 3) := by decide +kernel
theorem dX11_number_31 : decode cX11_number 31 = .ok (.i2l, 1) := by decide +kernel
theorem dX11_number_32 : decode cX11_number 32 = .ok (.iload_n 1, 1) := by decide +kernel
theorem dX11_number_33 : decode cX11_number 33 = .ok (.i2l, 1) := by decide +kernel
theorem dX11_number_34 : decode cX11_number 34 = .ok (.iload_n 2, 1) := by decide +kernel
theorem dX11_number_35 : decode cX11_number 35 = .ok (.i2l, 1) := by decide +kernel
theorem dX11_number_36 : decode cX11_number 36 = .ok (.invokestatic 156, 3) := by decide +kernel
theorem dX11_number_39 : decode cX11_number 39 = .ok (.ifCond .ne 8, 3) := by decide +kernel
theorem dX11_number_42 : decode cX11_number 42 = .ok (.aload_n 0, 1) := by decide +kernel
theorem dX11_number_43 : decode cX11_number 43 = .ok (.iconst 3, 1) := by decide +kernel
theorem dX11_number_44 : decode cX11_number 44 = .ok (.invokevirtual 205, 3) := by decide +kernel
theorem dX11_number_47 : decode cX11_number 47 = .ok (.aload_n 0, 1) := by decide +kernel
theorem dX11_number_48 : decode cX11_number 48 = .ok (.getfield 191, 3) := by decide +kernel
theorem dX11_number_51 : decode cX11_number 51 = .ok (.ireturn, 1) := by decide +kernel
theorem dX11_readSay_0 : decode cX11_readSay 0 = .ok (.aload_n 0, 1) := by decide +kernel
theorem dX11_readSay_1 : decode cX11_readSay 1 = .ok (.getfield 209, 3) := by decide +kernel
theorem dX11_readSay_4 : decode cX11_readSay 4 = .ok (.bipush 12, 2) := by decide +kernel
theorem dX11_readSay_6 : decode cX11_readSay 6 = .ok (.if_icmp .ne 8, 3) := by decide +kernel
theorem dX11_readSay_9 : decode cX11_readSay 9 = .ok (.aload_n 0, 1) := by decide +kernel
theorem dX11_readSay_10 : decode cX11_readSay 10 = .ok (.iconst 5, 1) := by decide +kernel
theorem dX11_readSay_11 : decode cX11_readSay 11 = .ok (.invokevirtual 205, 3) := by decide +kernel
theorem dX11_readSay_14 : decode cX11_readSay 14 = .ok (.aload_n 0, 1) := by decide +kernel
theorem dX11_readSay_15 : decode cX11_readSay 15 = .ok (.invokevirtual 212, 3) := by decide +kernel
theorem dX11_readSay_18 : decode cX11_readSay 18 = .ok (.aload_n 0, 1) := by decide +kernel
theorem dX11_readSay_19 : decode cX11_readSay 19 = .ok (.iconst 3, 1) := by decide +kernel
theorem dX11_readSay_20 : decode cX11_readSay 20 = .ok (.invokevirtual 215, 3) := by decide +kernel
theorem dX11_readSay_23 : decode cX11_readSay 23 = .ok (.iconst 0, 1) := by decide +kernel
theorem dX11_readSay_24 : decode cX11_readSay 24 = .ok (.istore_n 2, 1) := by decide +kernel
theorem dX11_readSay_25 : decode cX11_readSay 25 = .ok (.iload_n 2, 1) := by decide +kernel
theorem dX11_readSay_26 : decode cX11_readSay 26 = .ok (.aload_n 0, 1) := by decide +kernel
theorem dX11_readSay_27 : decode cX11_readSay 27 = .ok (.getfield 209, 3) := by decide +kernel
theorem dX11_readSay_30 : decode cX11_readSay 30 = .ok (.if_icmp .ge 73, 3) := by decide +kernel
theorem dX11_readSay_33 : decode cX11_readSay 33 = .ok (.aload_n 0, 1) := by decide +kernel
theorem dX11_readSay_34 : decode cX11_readSay 34 = .ok (.getfield 175, 3) := by decide +kernel
theorem dX11_readSay_37 : decode cX11_readSay 37 = .ok (.ifCond .ne 66, 3) := by decide +kernel
theorem dX11_readSay_40 : decode cX11_readSay 40 = .ok (.aload_n 0, 1) := by decide +kernel
theorem dX11_readSay_41 : decode cX11_readSay 41 = .ok (.getfield 49, 3) := by decide +kernel
theorem dX11_readSay_44 : decode cX11_readSay 44 = .ok (.iconst 3, 1) := by decide +kernel
theorem dX11_readSay_45 : decode cX11_readSay 45 = .ok (.iload_n 2, 1) := by decide +kernel
theorem dX11_readSay_46 : decode cX11_readSay 46 = .ok (.imul, 1) := by decide +kernel
theorem dX11_readSay_47 : decode cX11_readSay 47 = .ok (.iaload, 1) := by decide +kernel
theorem dX11_readSay_48 : decode cX11_readSay 48 = .ok (.aload_n 0, 1) := by decide +kernel
theorem dX11_readSay_49 : decode cX11_readSay 49 = .ok (.iconst 0, 1) := by decide +kernel
theorem dX11_readSay_50 : decode cX11_readSay 50 = .ok (.invokevirtual 218, 3) := by decide +kernel
theorem dX11_readSay_53 : decode cX11_readSay 53 = .ok (.if_icmp .ne 44, 3) := by decide +kernel
theorem dX11_readSay_56 : decode cX11_readSay 56 = .ok (.aload_n 0, 1) := by decide +kernel
theorem dX11_readSay_57 : decode cX11_readSay 57 = .ok (.getfield 49, 3) := by decide +kernel
theorem dX11_readSay_60 : decode cX11_readSay 60 = .ok (.iconst 3, 1) := by decide +kernel
theorem dX11_readSay_61 : decode cX11_readSay 61 = .ok (.iload_n 2, 1) := by decide +kernel
theorem dX11_readSay_62 : decode cX11_readSay 62 = .ok (.imul, 1) := by decide +kernel
theorem dX11_readSay_63 : decode cX11_readSay 63 = .ok (.iconst 1, 1) := by decide +kernel
theorem dX11_readSay_64 : decode cX11_readSay 64 = .ok (.iadd, 1) := by decide +kernel
theorem dX11_readSay_65 : decode cX11_readSay 65 = .ok (.iaload, 1) := by decide +kernel
theorem dX11_readSay_66 : decode cX11_readSay 66 = .ok (.aload_n 0, 1) := by decide +kernel
theorem dX11_readSay_67 : decode cX11_readSay 67 = .ok (.iconst 1, 1) := by decide +kernel
theorem dX11_readSay_68 : decode cX11_readSay 68 = .ok (.invokevirtual 218, 3) := by decide +kernel
theorem dX11_readSay_71 : decode cX11_readSay 71 = .ok (.if_icmp .ne 26, 3) := by decide +kernel
theorem dX11_readSay_74 : decode cX11_readSay 74 = .ok (.aload_n 0, 1) := by decide +kernel
theorem dX11_readSay_75 : decode cX11_readSay 75 = .ok (.getfield 49, 3) := by decide +kernel
theorem dX11_readSay_78 : decode cX11_readSay 78 = .ok (.iconst 3, 1) := by decide +kernel
theorem dX11_readSay_79 : decode cX11_readSay 79 = .ok (.iload_n 2, 1) := by decide +kernel
theorem dX11_readSay_80 : decode cX11_readSay 80 = .ok (.imul, 1) := by decide +kernel
theorem dX11_readSay_81 : decode cX11_readSay 81 = .ok (.iconst 2, 1) := by decide +kernel
theorem dX11_readSay_82 : decode cX11_readSay 82 = .ok (.iadd, 1) := by decide +kernel
theorem dX11_readSay_83 : decode cX11_readSay 83 = .ok (.iaload, 1) := by decide +kernel
theorem dX11_readSay_84 : decode cX11_readSay 84 = .ok (.aload_n 0, 1) := by decide +kernel
theorem dX11_readSay_85 : decode cX11_readSay 85 = .ok (.iconst 2, 1) := by decide +kernel
theorem dX11_readSay_86 : decode cX11_readSay 86 = .ok (.invokevirtual 218, 3) := by decide +kernel
theorem dX11_readSay_89 : decode cX11_readSay 89 = .ok (.if_icmp .ne 8, 3) := by decide +kernel
theorem dX11_readSay_92 : decode cX11_readSay 92 = .ok (.aload_n 0, 1) := by decide +kernel
theorem dX11_readSay_93 : decode cX11_readSay 93 = .ok (.iconst 4, 1) := by decide +kernel
theorem dX11_readSay_94 : decode cX11_readSay 94 = .ok (.invokevirtual 205, 3) := by decide +kernel
theorem dX11_readSay_97 : decode cX11_readSay 97 = .ok (.iinc 2 1, 3) := by decide +kernel
theorem dX11_readSay_100 : decode cX11_readSay 100 = .ok (.goto (-75), 3) := by decide +kernel
theorem dX11_readSay_103 : decode cX11_readSay 103 = .ok (.aload_n 0, 1) := by decide +kernel
theorem dX11_readSay_104 : decode cX11_readSay 104 = .ok (.getfield 175, 3) := by decide +kernel
theorem dX11_readSay_107 : decode cX11_readSay 107 = .ok (.ifCond .le 4, 3) := by decide +kernel
theorem dX11_readSay_110 : decode cX11_readSay 110 = .ok (.return_, 1) := by decide +kernel
theorem dX11_readSay_111 : decode cX11_readSay 111 = .ok (.iconst 0, 1) := by decide +kernel
theorem dX11_readSay_112 : decode cX11_readSay 112 = .ok (.istore_n 2, 1) := by decide +kernel
theorem dX11_readSay_113 : decode cX11_readSay 113 = .ok (.iload_n 2, 1) := by decide +kernel
theorem dX11_readSay_114 : decode cX11_readSay 114 = .ok (.iconst 3, 1) := by decide +kernel
theorem dX11_readSay_115 : decode cX11_readSay 115 = .ok (.if_icmp .ge 27, 3) := by decide +kernel
theorem dX11_readSay_118 : decode cX11_readSay 118 = .ok (.aload_n 0, 1) := by decide +kernel
theorem dX11_readSay_119 : decode cX11_readSay 119 = .ok (.getfield 49, 3) := by decide +kernel
theorem dX11_readSay_122 : decode cX11_readSay 122 = .ok (.iconst 3, 1) := by decide +kernel
theorem dX11_readSay_123 : decode cX11_readSay 123 = .ok (.aload_n 0, 1) := by decide +kernel
theorem dX11_readSay_124 : decode cX11_readSay 124 = .ok (.getfield 209, 3) := by decide +kernel
theorem dX11_readSay_127 : decode cX11_readSay 127 = .ok (.imul, 1) := by decide +kernel
theorem dX11_readSay_128 : decode cX11_readSay 128 = .ok (.iload_n 2, 1) := by decide +kernel
theorem dX11_readSay_129 : decode cX11_readSay 129 = .ok (.iadd, 1) := by decide +kernel
theorem dX11_readSay_130 : decode cX11_readSay 130 = .ok (.aload_n 0, 1) := by decide +kernel
theorem dX11_readSay_131 : decode cX11_readSay 131 = .ok (.iload_n 2, 1) := by decide +kernel
theorem dX11_readSay_132 : decode cX11_readSay 132 = .ok (.invokevirtual 218, 3) := by decide +kernel
theorem dX11_readSay_135 : decode cX11_readSay 135 = .ok (.iastore, 1) := by decide +kernel
theorem dX11_readSay_136 : decode cX11_readSay 136 = .ok (.iinc 2 1, 3) := by decide +kernel
theorem dX11_readSay_139 : decode cX11_readSay 139 = .ok (.goto (-26), 3) := by decide +kernel
theorem dX11_readSay_142 : decode cX11_readSay 142 = .ok (.aload_n 0, 1) := by decide +kernel
theorem dX11_readSay_143 : decode cX11_readSay 143 = .ok (.getfield 52, 3) := by decide +kernel
theorem dX11_readSay_146 : decode cX11_readSay 146 = .ok (.iconst 2, 1) := by decide +kernel
theorem dX11_readSay_147 : decode cX11_readSay 147 = .ok (.aload_n 0, 1) := by decide +kernel
theorem dX11_readSay_148 : decode cX11_readSay 148 = .ok (.getfield 209, 3) := by decide +kernel
theorem dX11_readSay_151 : decode cX11_readSay 151 = .ok (.imul, 1) := by decide +kernel
theorem dX11_readSay_152 : decode cX11_readSay 152 = .ok (.iconst 0, 1) := by decide +kernel
theorem dX11_readSay_153 : decode cX11_readSay 153 = .ok (.iastore, 1) := by decide +kernel
theorem dX11_readSay_154 : decode cX11_readSay 154 = .ok (.aload_n 0, 1) := by decide +kernel
theorem dX11_readSay_155 : decode cX11_readSay 155 = .ok (.getfield 52, 3) := by decide +kernel
theorem dX11_readSay_158 : decode cX11_readSay 158 = .ok (.iconst 2, 1) := by decide +kernel
theorem dX11_readSay_159 : decode cX11_readSay 159 = .ok (.aload_n 0, 1) := by decide +kernel
theorem dX11_readSay_160 : decode cX11_readSay 160 = .ok (.getfield 209, 3) := by decide +kernel
theorem dX11_readSay_163 : decode cX11_readSay 163 = .ok (.imul, 1) := by decide +kernel
theorem dX11_readSay_164 : decode cX11_readSay 164 = .ok (.iconst 1, 1) := by decide +kernel
theorem dX11_readSay_165 : decode cX11_readSay 165 = .ok (.iadd, 1) := by decide +kernel
theorem dX11_readSay_166 : decode cX11_readSay 166 = .ok (.iconst 0, 1) := by decide +kernel
theorem dX11_readSay_167 : decode cX11_readSay 167 = .ok (.iastore, 1) := by decide +kernel
theorem dX11_readSay_168 : decode cX11_readSay 168 = .ok (.aload_n 0, 1) := by decide +kernel
theorem dX11_readSay_169 : decode cX11_readSay 169 = .ok (.invokevirtual 212, 3) := by decide +kernel
theorem dX11_readSay_172 : decode cX11_readSay 172 = .ok (.iload_n 1, 1) := by decide +kernel
theorem dX11_readSay_173 : decode cX11_readSay 173 = .ok (.ifCond .ne 53, 3) := by decide +kernel
theorem dX11_readSay_176 : decode cX11_readSay 176 = .ok (.aload_n 0, 1) := by decide +kernel
theorem dX11_readSay_177 : decode cX11_readSay 177 = .ok (.iconst 2, 1) := by decide +kernel
theorem dX11_readSay_178 : decode cX11_readSay 178 = .ok (.invokevirtual 215, 3) := by decide +kernel
theorem dX11_readSay_181 : decode cX11_readSay 181 = .ok (.aload_n 0, 1) := by decide +kernel
theorem dX11_readSay_182 : decode cX11_readSay 182 = .ok (.getfield 175, 3) := by decide +kernel
theorem dX11_readSay_185 : decode cX11_readSay 185 = .ok (.ifCond .ne 37, 3) := by decide +kernel
theorem dX11_readSay_188 : decode cX11_readSay 188 = .ok (.aload_n 0, 1) := by decide +kernel
theorem dX11_readSay_189 : decode cX11_readSay 189 = .ok (.getfield 52, 3) := by decide +kernel
theorem dX11_readSay_192 : decode cX11_readSay 192 = .ok (.iconst 2, 1) := by decide +kernel
theorem dX11_readSay_193 : decode cX11_readSay 193 = .ok (.aload_n 0, 1) := by decide +kernel
theorem dX11_readSay_194 : decode cX11_readSay 194 = .ok (.getfield 209, 3) := by decide +kernel
theorem dX11_readSay_197 : decode cX11_readSay 197 = .ok (.imul, 1) := by decide +kernel
theorem dX11_readSay_198 : decode cX11_readSay 198 = .ok (.aload_n 0, 1) := by decide +kernel
theorem dX11_readSay_199 : decode cX11_readSay 199 = .ok (.iconst 0, 1) := by decide +kernel
theorem dX11_readSay_200 : decode cX11_readSay 200 = .ok (.invokevirtual 218, 3) := by decide +kernel
theorem dX11_readSay_203 : decode cX11_readSay 203 = .ok (.iastore, 1) := by decide +kernel
theorem dX11_readSay_204 : decode cX11_readSay 204 = .ok (.aload_n 0, 1) := by decide +kernel
theorem dX11_readSay_205 : decode cX11_readSay 205 = .ok (.getfield 52, 3) := by decide +kernel
theorem dX11_readSay_208 : decode cX11_readSay 208 = .ok (.iconst 2, 1) := by decide +kernel
theorem dX11_readSay_209 : decode cX11_readSay 209 = .ok (.aload_n 0, 1) := by decide +kernel
theorem dX11_readSay_210 : decode cX11_readSay 210 = .ok (.getfield 209, 3) := by decide +kernel
theorem dX11_readSay_213 : decode cX11_readSay 213 = .ok (.imul, 1) := by decide +kernel
theorem dX11_readSay_214 : decode cX11_readSay 214 = .ok (.iconst 1, 1) := by decide +kernel
theorem dX11_readSay_215 : decode cX11_readSay 215 = .ok (.iadd, 1) := by decide +kernel
theorem dX11_readSay_216 : decode cX11_readSay 216 = .ok (.aload_n 0, 1) := by decide +kernel
theorem dX11_readSay_217 : decode cX11_readSay 217 = .ok (.iconst 1, 1) := by decide +kernel
theorem dX11_readSay_218 : decode cX11_readSay 218 = .ok (.invokevirtual 218, 3) := by decide +kernel
theorem dX11_readSay_221 : decode cX11_readSay 221 = .ok (.iastore, 1) := by decide +kernel
theorem dX11_readSay_222 : decode cX11_readSay 222 = .ok (.aload_n 0, 1) := by decide +kernel
theorem dX11_readSay_223 : decode cX11_readSay 223 = .ok (.invokevirtual 212, 3) := by decide +kernel
theorem dX11_readSay_226 : decode cX11_readSay 226 = .ok (.aload_n 0, 1) := by decide +kernel
theorem dX11_readSay_227 : decode cX11_readSay 227 = .ok (.dup, 1) := by decide +kernel
theorem dX11_readSay_228 : decode cX11_readSay 228 = .ok (.getfield 209, 3) := by decide +kernel
theorem dX11_readSay_231 : decode cX11_readSay 231 = .ok (.iconst 1, 1) := by decide +kernel
theorem dX11_readSay_232 : decode cX11_readSay 232 = .ok (.iadd, 1) := by decide +kernel
theorem dX11_readSay_233 : decode cX11_readSay 233 = .ok (.putfield 209, 3) := by decide +kernel
theorem dX11_readSay_236 : decode cX11_readSay 236 = .ok (.return_, 1) := by decide +kernel
theorem dX11_readLike_0 : decode cX11_readLike 0 = .ok (.aload_n 0, 1) := by decide +kernel
theorem dX11_readLike_1 : decode cX11_readLike 1 = .ok (.invokevirtual 212, 3) := by decide +kernel
theorem dX11_readLike_4 : decode cX11_readLike 4 = .ok (.aload_n 0, 1) := by decide +kernel
theorem dX11_readLike_5 : decode cX11_readLike 5 = .ok (.iconst 1, 1) := by decide +kernel
theorem dX11_readLike_6 : decode cX11_readLike 6 = .ok (.invokevirtual 215, 3) := by decide +kernel
theorem dX11_readLike_9 : decode cX11_readLike 9 = .ok (.aload_n 0, 1) := by decide +kernel
theorem dX11_readLike_10 : decode cX11_readLike 10 = .ok (.getfield 175, 3) := by decide +kernel
theorem dX11_readLike_13 : decode cX11_readLike 13 = .ok (.ifCond .ne 11, 3) := by decide +kernel
theorem dX11_readLike_16 : decode cX11_readLike 16 = .ok (.aload_n 0, 1) := by decide +kernel
theorem dX11_readLike_17 : decode cX11_readLike 17 = .ok (.iconst 0, 1) := by decide +kernel
theorem dX11_readLike_18 : decode cX11_readLike 18 = .ok (.invokevirtual 218, 3) := by decide +kernel
theorem dX11_readLike_21 : decode cX11_readLike 21 = .ok (.goto 4, 3) := by decide +kernel
theorem dX11_readLike_24 : decode cX11_readLike 24 = .ok (.iconst 0, 1) := by decide +kernel
theorem dX11_readLike_25 : decode cX11_readLike 25 = .ok (.istore_n 1, 1) := by decide +kernel
theorem dX11_readLike_26 : decode cX11_readLike 26 = .ok (.aload_n 0, 1) := by decide +kernel
theorem dX11_readLike_27 : decode cX11_readLike 27 = .ok (.invokevirtual 212, 3) := by decide +kernel
theorem dX11_readLike_30 : decode cX11_readLike 30 = .ok (.aload_n 0, 1) := by decide +kernel
theorem dX11_readLike_31 : decode cX11_readLike 31 = .ok (.iconst 1, 1) := by decide +kernel
theorem dX11_readLike_32 : decode cX11_readLike 32 = .ok (.invokevirtual 215, 3) := by decide +kernel
theorem dX11_readLike_35 : decode cX11_readLike 35 = .ok (.aload_n 0, 1) := by decide +kernel
theorem dX11_readLike_36 : decode cX11_readLike 36 = .ok (.getfield 175, 3) := by decide +kernel
theorem dX11_readLike_39 : decode cX11_readLike 39 = .ok (.ifCond .ne 11, 3) := by decide +kernel
theorem dX11_readLike_42 : decode cX11_readLike 42 = .ok (.aload_n 0, 1) := by decide +kernel
theorem dX11_readLike_43 : decode cX11_readLike 43 = .ok (.iconst 0, 1) := by decide +kernel
theorem dX11_readLike_44 : decode cX11_readLike 44 = .ok (.invokevirtual 218, 3) := by decide +kernel
theorem dX11_readLike_47 : decode cX11_readLike 47 = .ok (.goto 4, 3) := by decide +kernel
theorem dX11_readLike_50 : decode cX11_readLike 50 = .ok (.iconst 0, 1) := by decide +kernel
theorem dX11_readLike_51 : decode cX11_readLike 51 = .ok (.istore_n 2, 1) := by decide +kernel
theorem dX11_readLike_52 : decode cX11_readLike 52 = .ok (.aload_n 0, 1) := by decide +kernel
theorem dX11_readLike_53 : decode cX11_readLike 53 = .ok (.getfield 175, 3) := by decide +kernel
theorem dX11_readLike_56 : decode cX11_readLike 56 = .ok (.ifCond .ne 13, 3) := by decide +kernel
theorem dX11_readLike_59 : decode cX11_readLike 59 = .ok (.iload_n 1, 1) := by decide +kernel
theorem dX11_readLike_60 : decode cX11_readLike 60 = .ok (.iload_n 2, 1) := by decide +kernel
theorem dX11_readLike_61 : decode cX11_readLike 61 = .ok (.if_icmp .ne 8, 3) := by decide +kernel
theorem dX11_readLike_64 : decode cX11_readLike 64 = .ok (.aload_n 0, 1) := by decide +kernel
theorem dX11_readLike_65 : decode cX11_readLike 65 = .ok (.iconst 3, 1) := by decide +kernel
theorem dX11_readLike_66 : decode cX11_readLike 66 = .ok (.invokevirtual 205, 3) := by decide +kernel
theorem dX11_readLike_69 : decode cX11_readLike 69 = .ok (.iconst 0, 1) := by decide +kernel
theorem dX11_readLike_70 : decode cX11_readLike 70 = .ok (.istore_n 3, 1) := by decide +kernel
theorem dX11_readLike_71 : decode cX11_readLike 71 = .ok (.iload_n 3, 1) := by decide +kernel
theorem dX11_readLike_72 : decode cX11_readLike 72 = .ok (.aload_n 0, 1) := by decide +kernel
theorem dX11_readLike_73 : decode cX11_readLike 73 = .ok (.getfield 221, 3) := by decide +kernel
theorem dX11_readLike_76 : decode cX11_readLike 76 = .ok (.if_icmp .ge 61, 3) := by decide +kernel
theorem dX11_readLike_79 : decode cX11_readLike 79 = .ok (.aload_n 0, 1) := by decide +kernel
theorem dX11_readLike_80 : decode cX11_readLike 80 = .ok (.getfield 175, 3) := by decide +kernel
theorem dX11_readLike_83 : decode cX11_readLike 83 = .ok (.ifCond .ne 54, 3) := by decide +kernel
theorem dX11_readLike_86 : decode cX11_readLike 86 = .ok (.aload_n 0, 1) := by decide +kernel
theorem dX11_readLike_87 : decode cX11_readLike 87 = .ok (.getfield 55, 3) := by decide +kernel
theorem dX11_readLike_90 : decode cX11_readLike 90 = .ok (.iload_n 3, 1) := by decide +kernel
theorem dX11_readLike_91 : decode cX11_readLike 91 = .ok (.iaload, 1) := by decide +kernel
theorem dX11_readLike_92 : decode cX11_readLike 92 = .ok (.iload_n 1, 1) := by decide +kernel
theorem dX11_readLike_93 : decode cX11_readLike 93 = .ok (.if_icmp .ne 13, 3) := by decide +kernel
theorem dX11_readLike_96 : decode cX11_readLike 96 = .ok (.aload_n 0, 1) := by decide +kernel
theorem dX11_readLike_97 : decode cX11_readLike 97 = .ok (.getfield 58, 3) := by decide +kernel
theorem dX11_readLike_100 : decode cX11_readLike 100 = .ok (.iload_n 3, 1) := by decide +kernel
theorem dX11_readLike_101 : decode cX11_readLike 101 = .ok (.iaload, 1) := by decide +kernel
theorem dX11_readLike_102 : decode cX11_readLike 102 = .ok (.iload_n 2, 1) := by decide +kernel
theorem dX11_readLike_103 : decode cX11_readLike 103 = .ok (.if_icmp .eq 23, 3) := by decide +kernel
theorem dX11_readLike_106 : decode cX11_readLike 106 = .ok (.aload_n 0, 1) := by decide +kernel
theorem dX11_readLike_107 : decode cX11_readLike 107 = .ok (.getfield 55, 3) := by decide +kernel
theorem dX11_readLike_110 : decode cX11_readLike 110 = .ok (.iload_n 3, 1) := by decide +kernel
theorem dX11_readLike_111 : decode cX11_readLike 111 = .ok (.iaload, 1) := by decide +kernel
theorem dX11_readLike_112 : decode cX11_readLike 112 = .ok (.iload_n 2, 1) := by decide +kernel
theorem dX11_readLike_113 : decode cX11_readLike 113 = .ok (.if_icmp .ne 18, 3) := by decide +kernel
theorem dX11_readLike_116 : decode cX11_readLike 116 = .ok (.aload_n 0, 1) := by decide +kernel
theorem dX11_readLike_117 : decode cX11_readLike 117 = .ok (.getfield 58, 3) := by decide +kernel
theorem dX11_readLike_120 : decode cX11_readLike 120 = .ok (.iload_n 3, 1) := by decide +kernel
theorem dX11_readLike_121 : decode cX11_readLike 121 = .ok (.iaload, 1) := by decide +kernel
theorem dX11_readLike_122 : decode cX11_readLike 122 = .ok (.iload_n 1, 1) := by decide +kernel
theorem dX11_readLike_123 : decode cX11_readLike 123 = .ok (.if_icmp .ne 8, 3) := by decide +kernel
theorem dX11_readLike_126 : decode cX11_readLike 126 = .ok (.aload_n 0, 1) := by decide +kernel
theorem dX11_readLike_127 : decode cX11_readLike 127 = .ok (.iconst 4, 1) := by decide +kernel
theorem dX11_readLike_128 : decode cX11_readLike 128 = .ok (.invokevirtual 205, 3) := by decide +kernel
theorem dX11_readLike_131 : decode cX11_readLike 131 = .ok (.iinc 3 1, 3) := by decide +kernel
theorem dX11_readLike_134 : decode cX11_readLike 134 = .ok (.goto (-63), 3) := by decide +kernel
theorem dX11_readLike_137 : decode cX11_readLike 137 = .ok (.aload_n 0, 1) := by decide +kernel
theorem dX11_readLike_138 : decode cX11_readLike 138 = .ok (.invokevirtual 212, 3) := by decide +kernel
theorem dX11_readLike_141 : decode cX11_readLike 141 = .ok (.aload_n 0, 1) := by decide +kernel
theorem dX11_readLike_142 : decode cX11_readLike 142 = .ok (.iconst 0, 1) := by decide +kernel
theorem dX11_readLike_143 : decode cX11_readLike 143 = .ok (.bipush 20, 2) := by decide +kernel
theorem dX11_readLike_145 : decode cX11_readLike 145 = .ok (.invokevirtual 224, 3) := by decide +kernel
theorem dX11_readLike_148 : decode cX11_readLike 148 = .ok (.istore_n 3, 1) := by decide +kernel
theorem dX11_readLike_149 : decode cX11_readLike 149 = .ok (.aload_n 0, 1) := by decide +kernel
theorem dX11_readLike_150 : decode cX11_readLike 150 = .ok (.invokevirtual 212, 3) := by decide +kernel
theorem dX11_readLike_153 : decode cX11_readLike 153 = .ok (.aload_n 0, 1) := by decide +kernel
theorem dX11_readLike_154 : decode cX11_readLike 154 = .ok (.getfield 175, 3) := by decide +kernel
theorem dX11_readLike_157 : decode cX11_readLike 157 = .ok (.ifCond .ne 43, 3) := by decide +kernel
theorem dX11_readLike_160 : decode cX11_readLike 160 = .ok (.aload_n 0, 1) := by decide +kernel
theorem dX11_readLike_161 : decode cX11_readLike 161 = .ok (.getfield 55, 3) := by decide +kernel
theorem dX11_readLike_164 : decode cX11_readLike 164 = .ok (.aload_n 0, 1) := by decide +kernel
theorem dX11_readLike_165 : decode cX11_readLike 165 = .ok (.getfield 221, 3) := by decide +kernel
theorem dX11_readLike_168 : decode cX11_readLike 168 = .ok (.iload_n 1, 1) := by decide +kernel
theorem dX11_readLike_169 : decode cX11_readLike 169 = .ok (.iastore, 1) := by decide +kernel
theorem dX11_readLike_170 : decode cX11_readLike 170 = .ok (.aload_n 0, 1) := by decide +kernel
theorem dX11_readLike_171 : decode cX11_readLike 171 = .ok (.getfield 58, 3) := by decide +kernel
theorem dX11_readLike_174 : decode cX11_readLike 174 = .ok (.aload_n 0, 1) := by decide +kernel
theorem dX11_readLike_175 : decode cX11_readLike 175 = .ok (.getfield 221, 3) := by decide +kernel
theorem dX11_readLike_178 : decode cX11_readLike 178 = .ok (.iload_n 2, 1) := by decide +kernel
theorem dX11_readLike_179 : decode cX11_readLike 179 = .ok (.iastore, 1) := by decide +kernel
theorem dX11_readLike_180 : decode cX11_readLike 180 = .ok (.aload_n 0, 1) := by decide +kernel
theorem dX11_readLike_181 : decode cX11_readLike 181 = .ok (.getfield 61, 3) := by decide +kernel
theorem dX11_readLike_184 : decode cX11_readLike 184 = .ok (.aload_n 0, 1) := by decide +kernel
theorem dX11_readLike_185 : decode cX11_readLike 185 = .ok (.getfield 221, 3) := by decide +kernel
theorem dX11_readLike_188 : decode cX11_readLike 188 = .ok (.iload_n 3, 1) := by decide +kernel
theorem dX11_readLike_189 : decode cX11_readLike 189 = .ok (.iastore, 1) := by decide +kernel
theorem dX11_readLike_190 : decode cX11_readLike 190 = .ok (.aload_n 0, 1) := by decide +kernel
theorem dX11_readLike_191 : decode cX11_readLike 191 = .ok (.dup, 1) := by decide +kernel
theorem dX11_readLike_192 : decode cX11_readLike 192 = .ok (.getfield 221, 3) := by decide +kernel
theorem dX11_readLike_195 : decode cX11_readLike 195 = .ok (.iconst 1, 1) := by decide +kernel
theorem dX11_readLike_196 : decode cX11_readLike 196 = .ok (.iadd, 1) := by decide +kernel
theorem dX11_readLike_197 : decode cX11_readLike 197 = .ok (.putfield 221, 3) := by decide +kernel
theorem dX11_readLike_200 : decode cX11_readLike 200 = .ok (.return_, 1) := by decide +kernel
theorem dX11_readSons_0 : decode cX11_readSons 0 = .ok (.iconst 0, 1) := by decide +kernel
theorem dX11_readSons_1 : decode cX11_readSons 1 = .ok (.istore_n 1, 1) := by decide +kernel
theorem dX11_readSons_2 : decode cX11_readSons 2 = .ok (.aload_n 0, 1) := by decide +kernel
theorem dX11_readSons_3 : decode cX11_readSons 3 = .ok (.invokevirtual 212, 3) := by decide +kernel
theorem dX11_readSons_6 : decode cX11_readSons 6 = .ok (.iconst 0, 1) := by decide +kernel
theorem dX11_readSons_7 : decode cX11_readSons 7 = .ok (.istore_n 2, 1) := by decide +kernel
theorem dX11_readSons_8 : decode cX11_readSons 8 = .ok (.iload_n 2, 1) := by decide +kernel
theorem dX11_readSons_9 : decode cX11_readSons 9 = .ok (.iconst 4, 1) := by decide +kernel
theorem dX11_readSons_10 : decode cX11_readSons 10 = .ok (.if_icmp .ge 72, 3) := by decide +kernel
theorem dX11_readSons_13 : decode cX11_readSons 13 = .ok (.aload_n 0, 1) := by decide +kernel
theorem dX11_readSons_14 : decode cX11_readSons 14 = .ok (.iconst 0, 1) := by decide +kernel
theorem dX11_readSons_15 : decode cX11_readSons 15 = .ok (.bipush 9, 2) := by decide +kernel
theorem dX11_readSons_17 : decode cX11_readSons 17 = .ok (.invokevirtual 224, 3) := by decide +kernel
theorem dX11_readSons_20 : decode cX11_readSons 20 = .ok (.istore_n 3, 1) := by decide +kernel
theorem dX11_readSons_21 : decode cX11_readSons 21 = .ok (.iload_n 1, 1) := by decide +kernel
theorem dX11_readSons_22 : decode cX11_readSons 22 = .ok (.aload_n 0, 1) := by decide +kernel
theorem dX11_readSons_23 : decode cX11_readSons 23 = .ok (.getfield 175, 3) := by decide +kernel
theorem dX11_readSons_26 : decode cX11_readSons 26 = .ok (.ifCond .ne 7, 3) := by decide +kernel
theorem dX11_readSons_29 : decode cX11_readSons 29 = .ok (.iload_n 3, 1) := by decide +kernel
theorem dX11_readSons_30 : decode cX11_readSons 30 = .ok (.goto 4, 3) := by decide +kernel
theorem dX11_readSons_33 : decode cX11_readSons 33 = .ok (.iconst 0, 1) := by decide +kernel
theorem dX11_readSons_34 : decode cX11_readSons 34 = .ok (.iadd, 1) := by decide +kernel
theorem dX11_readSons_35 : decode cX11_readSons 35 = .ok (.istore_n 1, 1) := by decide +kernel
theorem dX11_readSons_36 : decode cX11_readSons 36 = .ok (.aload_n 0, 1) := by decide +kernel
theorem dX11_readSons_37 : decode cX11_readSons 37 = .ok (.getfield 175, 3) := by decide +kernel
theorem dX11_readSons_40 : decode cX11_readSons 40 = .ok (.ifCond .ne 23, 3) := by decide +kernel
theorem dX11_readSons_43 : decode cX11_readSons 43 = .ok (.iload_n 1, 1) := by decide +kernel
theorem dX11_readSons_44 : decode cX11_readSons 44 = .ok (.bipush 9, 2) := by decide +kernel
theorem dX11_readSons_46 : decode cX11_readSons 46 = .ok (.if_icmp .gt 12, 3) := by decide +kernel
theorem dX11_readSons_49 : decode cX11_readSons 49 = .ok (.iload_n 2, 1) := by decide +kernel
theorem dX11_readSons_50 : decode cX11_readSons 50 = .ok (.iconst 3, 1) := by decide +kernel
theorem dX11_readSons_51 : decode cX11_readSons 51 = .ok (.if_icmp .ne 12, 3) := by decide +kernel
theorem dX11_readSons_54 : decode cX11_readSons 54 = .ok (.iload_n 1, 1) := by decide +kernel
theorem dX11_readSons_55 : decode cX11_readSons 55 = .ok (.ifCond .ne 8, 3) := by decide +kernel
theorem dX11_readSons_58 : decode cX11_readSons 58 = .ok (.aload_n 0, 1) := by decide +kernel
theorem dX11_readSons_59 : decode cX11_readSons 59 = .ok (.iconst 3, 1) := by decide +kernel
theorem dX11_readSons_60 : decode cX11_readSons 60 = .ok (.invokevirtual 205, 3) := by decide +kernel
theorem dX11_readSons_63 : decode cX11_readSons 63 = .ok (.aload_n 0, 1) := by decide +kernel
theorem dX11_readSons_64 : decode cX11_readSons 64 = .ok (.getfield 46, 3) := by decide +kernel
theorem dX11_readSons_67 : decode cX11_readSons 67 = .ok (.iconst 4, 1) := by decide +kernel
theorem dX11_readSons_68 : decode cX11_readSons 68 = .ok (.iload_n 2, 1) := by decide +kernel
theorem dX11_readSons_69 : decode cX11_readSons 69 = .ok (.iadd, 1) := by decide +kernel
theorem dX11_readSons_70 : decode cX11_readSons 70 = .ok (.iload_n 3, 1) := by decide +kernel
theorem dX11_readSons_71 : decode cX11_readSons 71 = .ok (.iastore, 1) := by decide +kernel
theorem dX11_readSons_72 : decode cX11_readSons 72 = .ok (.aload_n 0, 1) := by decide +kernel
theorem dX11_readSons_73 : decode cX11_readSons 73 = .ok (.invokevirtual 212, 3) := by decide +kernel
theorem dX11_readSons_76 : decode cX11_readSons 76 = .ok (.iinc 2 1, 3) := by decide +kernel
theorem dX11_readSons_79 : decode cX11_readSons 79 = .ok (.goto (-71), 3) := by decide +kernel
theorem dX11_readSons_82 : decode cX11_readSons 82 = .ok (.return_, 1) := by decide +kernel
theorem dX11_readLine_0 : decode cX11_readLine 0 = .ok (.aload_n 0, 1) := by decide +kernel
theorem dX11_readLine_1 : decode cX11_readLine 1 = .ok (.invokevirtual 228, 3) := by decide +kernel
theorem dX11_readLine_4 : decode cX11_readLine 4 = .ok (.istore_n 1, 1) := by decide +kernel
theorem dX11_readLine_5 : decode cX11_readLine 5 = .ok (.iload_n 1, 1) := by decide +kernel
theorem dX11_readLine_6 : decode cX11_readLine 6 = .ok (.bipush (-4), 2) := by decide +kernel
theorem dX11_readLine_8 : decode cX11_readLine 8 = .ok (.if_icmp .ne 11, 3) := by decide +kernel
theorem dX11_readLine_11 : decode cX11_readLine 11 = .ok (.aload_n 0, 1) := by decide +kernel
theorem dX11_readLine_12 : decode cX11_readLine 12 = .ok (.iconst 2, 1) := by decide +kernel
theorem dX11_readLine_13 : decode cX11_readLine 13 = .ok (.invokevirtual 205, 3) := by decide +kernel
theorem dX11_readLine_16 : decode cX11_readLine 16 = .ok (.goto 25, 3) := by decide +kernel
theorem dX11_readLine_19 : decode cX11_readLine 19 = .ok (.iload_n 1, 1) := by decide +kernel
theorem dX11_readLine_20 : decode cX11_readLine 20 = .ok (.iconst 3, 1) := by decide +kernel
theorem dX11_readLine_21 : decode cX11_readLine 21 = .ok (.if_icmp .lt 20, 3) := by decide +kernel
theorem dX11_readLine_24 : decode cX11_readLine 24 = .ok (.aload_n 0, 1) := by decide +kernel
theorem dX11_readLine_25 : decode cX11_readLine 25 = .ok (.getfield 232, 3) := by decide +kernel
theorem dX11_readLine_28 : decode cX11_readLine 28 = .ok (.iload_n 1, 1) := by decide +kernel
theorem dX11_readLine_29 : decode cX11_readLine 29 = .ok (.ishr, 1) := by decide +kernel
theorem dX11_readLine_30 : decode cX11_readLine 30 = .ok (.iconst 1, 1) := by decide +kernel
theorem dX11_readLine_31 : decode cX11_readLine 31 = .ok (.iand, 1) := by decide +kernel
theorem dX11_readLine_32 : decode cX11_readLine 32 = .ok (.iconst 1, 1) := by decide +kernel
theorem dX11_readLine_33 : decode cX11_readLine 33 = .ok (.if_icmp .ne 8, 3) := by decide +kernel
theorem dX11_readLine_36 : decode cX11_readLine 36 = .ok (.aload_n 0, 1) := by decide +kernel
theorem dX11_readLine_37 : decode cX11_readLine 37 = .ok (.iconst 4, 1) := by decide +kernel
theorem dX11_readLine_38 : decode cX11_readLine 38 = .ok (.invokevirtual 205, 3) := by decide +kernel
theorem dX11_readLine_41 : decode cX11_readLine 41 = .ok (.aload_n 0, 1) := by decide +kernel
theorem dX11_readLine_42 : decode cX11_readLine 42 = .ok (.getfield 175, 3) := by decide +kernel
theorem dX11_readLine_45 : decode cX11_readLine 45 = .ok (.ifCond .le 4, 3) := by decide +kernel
theorem dX11_readLine_48 : decode cX11_readLine 48 = .ok (.return_, 1) := by decide +kernel
theorem dX11_readLine_49 : decode cX11_readLine 49 = .ok (.aload_n 0, 1) := by decide +kernel
theorem dX11_readLine_50 : decode cX11_readLine 50 = .ok (.dup, 1) := by decide +kernel
theorem dX11_readLine_51 : decode cX11_readLine 51 = .ok (.getfield 232, 3) := by decide +kernel
theorem dX11_readLine_54 : decode cX11_readLine 54 = .ok (.iconst 1, 1) := by decide +kernel
theorem dX11_readLine_55 : decode cX11_readLine 55 = .ok (.iload_n 1, 1) := by decide +kernel
theorem dX11_readLine_56 : decode cX11_readLine 56 = .ok (.ishl, 1) := by decide +kernel
theorem dX11_readLine_57 : decode cX11_readLine 57 = .ok (.ior, 1) := by decide +kernel
theorem dX11_readLine_58 : decode cX11_readLine 58 = .ok (.putfield 232, 3) := by decide +kernel
theorem dX11_readLine_61 : decode cX11_readLine 61 = .ok (.iload_n 1, 1) := by decide +kernel
theorem dX11_readLine_62 : decode cX11_readLine 62 = .ok (.iconst 2, 1) := by decide +kernel
theorem dX11_readLine_63 : decode cX11_readLine 63 = .ok (.if_icmp .ge 20, 3) := by decide +kernel
theorem dX11_readLine_66 : decode cX11_readLine 66 = .ok (.aload_n 0, 1) := by decide +kernel
theorem dX11_readLine_67 : decode cX11_readLine 67 = .ok (.iload_n 1, 1) := by decide +kernel
theorem dX11_readLine_68 : decode cX11_readLine 68 = .ok (.iconst 1, 1) := by decide +kernel
theorem dX11_readLine_69 : decode cX11_readLine 69 = .ok (.if_icmp .ne 7, 3) := by decide +kernel
theorem dX11_readLine_72 : decode cX11_readLine 72 = .ok (.iconst 1, 1) := by decide +kernel
theorem dX11_readLine_73 : decode cX11_readLine 73 = .ok (.goto 4, 3) := by decide +kernel
theorem dX11_readLine_76 : decode cX11_readLine 76 = .ok (.iconst 0, 1) := by decide +kernel
theorem dX11_readLine_77 : decode cX11_readLine 77 = .ok (.invokevirtual 235, 3) := by decide +kernel
theorem dX11_readLine_80 : decode cX11_readLine 80 = .ok (.goto 61, 3) := by decide +kernel
theorem dX11_readLine_83 : decode cX11_readLine 83 = .ok (.iload_n 1, 1) := by decide +kernel
theorem dX11_readLine_84 : decode cX11_readLine 84 = .ok (.iconst 2, 1) := by decide +kernel
theorem dX11_readLine_85 : decode cX11_readLine 85 = .ok (.if_icmp .ne 10, 3) := by decide +kernel
theorem dX11_readLine_88 : decode cX11_readLine 88 = .ok (.aload_n 0, 1) := by decide +kernel
theorem dX11_readLine_89 : decode cX11_readLine 89 = .ok (.invokevirtual 239, 3) := by decide +kernel
theorem dX11_readLine_92 : decode cX11_readLine 92 = .ok (.goto 49, 3) := by decide +kernel
theorem dX11_readLine_95 : decode cX11_readLine 95 = .ok (.iload_n 1, 1) := by decide +kernel
theorem dX11_readLine_96 : decode cX11_readLine 96 = .ok (.bipush 7, 2) := by decide +kernel
theorem dX11_readLine_98 : decode cX11_readLine 98 = .ok (.if_icmp .ne 10, 3) := by decide +kernel
theorem dX11_readLine_101 : decode cX11_readLine 101 = .ok (.aload_n 0, 1) := by decide +kernel
theorem dX11_readLine_102 : decode cX11_readLine 102 = .ok (.invokevirtual 242, 3) := by decide +kernel
theorem dX11_readLine_105 : decode cX11_readLine 105 = .ok (.goto 36, 3) := by decide +kernel
theorem dX11_readLine_108 : decode cX11_readLine 108 = .ok (.aload_n 0, 1) := by decide +kernel
theorem dX11_readLine_109 : decode cX11_readLine 109 = .ok (.invokevirtual 212, 3) := by decide +kernel
theorem dX11_readLine_112 : decode cX11_readLine 112 = .ok (.aload_n 0, 1) := by decide +kernel
theorem dX11_readLine_113 : decode cX11_readLine 113 = .ok (.getfield 46, 3) := by decide +kernel
theorem dX11_readLine_116 : decode cX11_readLine 116 = .ok (.iload_n 1, 1) := by decide +kernel
theorem dX11_readLine_117 : decode cX11_readLine 117 = .ok (.iconst 3, 1) := by decide +kernel
theorem dX11_readLine_118 : decode cX11_readLine 118 = .ok (.isub, 1) := by decide +kernel
theorem dX11_readLine_119 : decode cX11_readLine 119 = .ok (.aload_n 0, 1) := by decide +kernel
theorem dX11_readLine_120 : decode cX11_readLine 120 = .ok (.iload_n 1, 1) := by decide +kernel
theorem dX11_readLine_121 : decode cX11_readLine 121 = .ok (.bipush 6, 2) := by decide +kernel
theorem dX11_readLine_123 : decode cX11_readLine 123 = .ok (.if_icmp .ne 7, 3) := by decide +kernel
theorem dX11_readLine_126 : decode cX11_readLine 126 = .ok (.iconst 1, 1) := by decide +kernel
theorem dX11_readLine_127 : decode cX11_readLine 127 = .ok (.goto 4, 3) := by decide +kernel
theorem dX11_readLine_130 : decode cX11_readLine 130 = .ok (.iconst 0, 1) := by decide +kernel
theorem dX11_readLine_131 : decode cX11_readLine 131 = .ok (.bipush 20, 2) := by decide +kernel
theorem dX11_readLine_133 : decode cX11_readLine 133 = .ok (.invokevirtual 224, 3) := by decide +kernel
theorem dX11_readLine_136 : decode cX11_readLine 136 = .ok (.iastore, 1) := by decide +kernel
theorem dX11_readLine_137 : decode cX11_readLine 137 = .ok (.aload_n 0, 1) := by decide +kernel
theorem dX11_readLine_138 : decode cX11_readLine 138 = .ok (.invokevirtual 212, 3) := by decide +kernel
theorem dX11_readLine_141 : decode cX11_readLine 141 = .ok (.aload_n 0, 1) := by decide +kernel
theorem dX11_readLine_142 : decode cX11_readLine 142 = .ok (.getfield 175, 3) := by decide +kernel
theorem dX11_readLine_145 : decode cX11_readLine 145 = .ok (.ifCond .ne 16, 3) := by decide +kernel
theorem dX11_readLine_148 : decode cX11_readLine 148 = .ok (.aload_n 0, 1) := by decide +kernel
theorem dX11_readLine_149 : decode cX11_readLine 149 = .ok (.getfield 194, 3) := by decide +kernel
theorem dX11_readLine_152 : decode cX11_readLine 152 = .ok (.iconst 3, 1) := by decide +kernel
theorem dX11_readLine_153 : decode cX11_readLine 153 = .ok (.if_icmp .eq 8, 3) := by decide +kernel
theorem dX11_readLine_156 : decode cX11_readLine 156 = .ok (.aload_n 0, 1) := by decide +kernel
theorem dX11_readLine_157 : decode cX11_readLine 157 = .ok (.iconst 2, 1) := by decide +kernel
theorem dX11_readLine_158 : decode cX11_readLine 158 = .ok (.invokevirtual 205, 3) := by decide +kernel
theorem dX11_readLine_161 : decode cX11_readLine 161 = .ok (.aload_n 0, 1) := by decide +kernel
theorem dX11_readLine_162 : decode cX11_readLine 162 = .ok (.invokevirtual 212, 3) := by decide +kernel
theorem dX11_readLine_165 : decode cX11_readLine 165 = .ok (.return_, 1) := by decide +kernel
theorem dX11_rules_0 : decode cX11_rules 0 = .ok (.aload_n 0, 1) := by decide +kernel
theorem dX11_rules_1 : decode cX11_rules 1 = .ok (.iconst 0, 1) := by decide +kernel
theorem dX11_rules_2 : decode cX11_rules 2 = .ok (.putfield 175, 3) := by decide +kernel
theorem dX11_rules_5 : decode cX11_rules 5 = .ok (.aload_n 0, 1) := by decide +kernel
theorem dX11_rules_6 : decode cX11_rules 6 = .ok (.iconst 0, 1) := by decide +kernel
theorem dX11_rules_7 : decode cX11_rules 7 = .ok (.putfield 184, 3) := by decide +kernel
theorem dX11_rules_10 : decode cX11_rules 10 = .ok (.aload_n 0, 1) := by decide +kernel
theorem dX11_rules_11 : decode cX11_rules 11 = .ok (.iconst 0, 1) := by decide +kernel
theorem dX11_rules_12 : decode cX11_rules 12 = .ok (.putfield 209, 3) := by decide +kernel
theorem dX11_rules_15 : decode cX11_rules 15 = .ok (.aload_n 0, 1) := by decide +kernel
theorem dX11_rules_16 : decode cX11_rules 16 = .ok (.iconst 0, 1) := by decide +kernel
theorem dX11_rules_17 : decode cX11_rules 17 = .ok (.putfield 221, 3) := by decide +kernel
theorem dX11_rules_20 : decode cX11_rules 20 = .ok (.aload_n 0, 1) := by decide +kernel
theorem dX11_rules_21 : decode cX11_rules 21 = .ok (.iconst 0, 1) := by decide +kernel
theorem dX11_rules_22 : decode cX11_rules 22 = .ok (.putfield 232, 3) := by decide +kernel
theorem dX11_rules_25 : decode cX11_rules 25 = .ok (.aload_n 0, 1) := by decide +kernel
theorem dX11_rules_26 : decode cX11_rules 26 = .ok (.iconst 0, 1) := by decide +kernel
theorem dX11_rules_27 : decode cX11_rules 27 = .ok (.putfield 245, 3) := by decide +kernel
theorem dX11_rules_30 : decode cX11_rules 30 = .ok (.iconst 0, 1) := by decide +kernel
theorem dX11_rules_31 : decode cX11_rules 31 = .ok (.istore_n 1, 1) := by decide +kernel
theorem dX11_rules_32 : decode cX11_rules 32 = .ok (.iload_n 1, 1) := by decide +kernel
theorem dX11_rules_33 : decode cX11_rules 33 = .ok (.bipush 8, 2) := by decide +kernel
theorem dX11_rules_35 : decode cX11_rules 35 = .ok (.if_icmp .ge 42, 3) := by decide +kernel
theorem dX11_rules_38 : decode cX11_rules 38 = .ok (.aload_n 0, 1) := by decide +kernel
theorem dX11_rules_39 : decode cX11_rules 39 = .ok (.getfield 46, 3) := by decide +kernel
theorem dX11_rules_42 : decode cX11_rules 42 = .ok (.iload_n 1, 1) := by decide +kernel
theorem dX11_rules_43 : decode cX11_rules 43 = .ok (.iload_n 1, 1) := by decide +kernel
theorem dX11_rules_44 : decode cX11_rules 44 = .ok (.ifCond .ne 7, 3) := by decide +kernel
theorem dX11_rules_47 : decode cX11_rules 47 = .ok (.iconst 3, 1) := by decide +kernel
theorem dX11_rules_48 : decode cX11_rules 48 = .ok (.goto 22, 3) := by decide +kernel
theorem dX11_rules_51 : decode cX11_rules 51 = .ok (.iload_n 1, 1) := by decide +kernel
theorem dX11_rules_52 : decode cX11_rules 52 = .ok (.iconst 3, 1) := by decide +kernel
theorem dX11_rules_53 : decode cX11_rules 53 = .ok (.if_icmp .ge 7, 3) := by decide +kernel
theorem dX11_rules_56 : decode cX11_rules 56 = .ok (.iconst 4, 1) := by decide +kernel
theorem dX11_rules_57 : decode cX11_rules 57 = .ok (.goto 13, 3) := by decide +kernel
theorem dX11_rules_60 : decode cX11_rules 60 = .ok (.iload_n 1, 1) := by decide +kernel
theorem dX11_rules_61 : decode cX11_rules 61 = .ok (.iconst 3, 1) := by decide +kernel
theorem dX11_rules_62 : decode cX11_rules 62 = .ok (.if_icmp .ne 7, 3) := by decide +kernel
theorem dX11_rules_65 : decode cX11_rules 65 = .ok (.iconst 5, 1) := by decide +kernel
theorem dX11_rules_66 : decode cX11_rules 66 = .ok (.goto 4, 3) := by decide +kernel
theorem dX11_rules_69 : decode cX11_rules 69 = .ok (.iconst 1, 1) := by decide +kernel
theorem dX11_rules_70 : decode cX11_rules 70 = .ok (.iastore, 1) := by decide +kernel
theorem dX11_rules_71 : decode cX11_rules 71 = .ok (.iinc 1 1, 3) := by decide +kernel
theorem dX11_rules_74 : decode cX11_rules 74 = .ok (.goto (-42), 3) := by decide +kernel
theorem dX11_rules_77 : decode cX11_rules 77 = .ok (.aload_n 0, 1) := by decide +kernel
theorem dX11_rules_78 : decode cX11_rules 78 = .ok (.invokevirtual 212, 3) := by decide +kernel
theorem dX11_rules_81 : decode cX11_rules 81 = .ok (.aload_n 0, 1) := by decide +kernel
theorem dX11_rules_82 : decode cX11_rules 82 = .ok (.getfield 175, 3) := by decide +kernel
theorem dX11_rules_85 : decode cX11_rules 85 = .ok (.ifCond .ne 27, 3) := by decide +kernel
theorem dX11_rules_88 : decode cX11_rules 88 = .ok (.aload_n 0, 1) := by decide +kernel
theorem dX11_rules_89 : decode cX11_rules 89 = .ok (.getfield 194, 3) := by decide +kernel
theorem dX11_rules_92 : decode cX11_rules 92 = .ok (.ifCond .eq 20, 3) := by decide +kernel
theorem dX11_rules_95 : decode cX11_rules 95 = .ok (.aload_n 0, 1) := by decide +kernel
theorem dX11_rules_96 : decode cX11_rules 96 = .ok (.invokevirtual 248, 3) := by decide +kernel
theorem dX11_rules_99 : decode cX11_rules 99 = .ok (.aload_n 0, 1) := by decide +kernel
theorem dX11_rules_100 : decode cX11_rules 100 = .ok (.dup, 1) := by decide +kernel
theorem dX11_rules_101 : decode cX11_rules 101 = .ok (.getfield 245, 3) := by decide +kernel
theorem dX11_rules_104 : decode cX11_rules 104 = .ok (.iconst 1, 1) := by decide +kernel
theorem dX11_rules_105 : decode cX11_rules 105 = .ok (.iadd, 1) := by decide +kernel
theorem dX11_rules_106 : decode cX11_rules 106 = .ok (.putfield 245, 3) := by decide +kernel
theorem dX11_rules_109 : decode cX11_rules 109 = .ok (.goto (-28), 3) := by decide +kernel
theorem dX11_rules_112 : decode cX11_rules 112 = .ok (.aload_n 0, 1) := by decide +kernel
theorem dX11_rules_113 : decode cX11_rules 113 = .ok (.iconst 0, 1) := by decide +kernel
theorem dX11_rules_114 : decode cX11_rules 114 = .ok (.putfield 172, 3) := by decide +kernel
theorem dX11_rules_117 : decode cX11_rules 117 = .ok (.aload_n 0, 1) := by decide +kernel
theorem dX11_rules_118 : decode cX11_rules 118 = .ok (.aload_n 0, 1) := by decide +kernel
theorem dX11_rules_119 : decode cX11_rules 119 = .ok (.getfield 175, 3) := by decide +kernel
theorem dX11_rules_122 : decode cX11_rules 122 = .ok (.putfield 250, 3) := by decide +kernel
theorem dX11_rules_125 : decode cX11_rules 125 = .ok (.aload_n 0, 1) := by decide +kernel
theorem dX11_rules_126 : decode cX11_rules 126 = .ok (.getfield 175, 3) := by decide +kernel
theorem dX11_rules_129 : decode cX11_rules 129 = .ok (.ifCond .le 11, 3) := by decide +kernel
theorem dX11_rules_132 : decode cX11_rules 132 = .ok (.bipush (-10), 2) := by decide +kernel
theorem dX11_rules_134 : decode cX11_rules 134 = .ok (.aload_n 0, 1) := by decide +kernel
theorem dX11_rules_135 : decode cX11_rules 135 = .ok (.getfield 181, 3) := by decide +kernel
theorem dX11_rules_138 : decode cX11_rules 138 = .ok (.isub, 1) := by decide +kernel
theorem dX11_rules_139 : decode cX11_rules 139 = .ok (.ireturn, 1) := by decide +kernel
theorem dX11_rules_140 : decode cX11_rules 140 = .ok (.aload_n 0, 1) := by decide +kernel
theorem dX11_rules_141 : decode cX11_rules 141 = .ok (.aload_n 0, 1) := by decide +kernel
theorem dX11_rules_142 : decode cX11_rules 142 = .ok (.getfield 209, 3) := by decide +kernel
theorem dX11_rules_145 : decode cX11_rules 145 = .ok (.putfield 253, 3) := by decide +kernel
theorem dX11_rules_148 : decode cX11_rules 148 = .ok (.aload_n 0, 1) := by decide +kernel
theorem dX11_rules_149 : decode cX11_rules 149 = .ok (.aload_n 0, 1) := by decide +kernel
theorem dX11_rules_150 : decode cX11_rules 150 = .ok (.getfield 221, 3) := by decide +kernel
theorem dX11_rules_153 : decode cX11_rules 153 = .ok (.putfield 256, 3) := by decide +kernel
theorem dX11_rules_156 : decode cX11_rules 156 = .ok (.iconst 0, 1) := by decide +kernel
theorem dX11_rules_157 : decode cX11_rules 157 = .ok (.istore_n 1, 1) := by decide +kernel
theorem dX11_rules_158 : decode cX11_rules 158 = .ok (.iload_n 1, 1) := by decide +kernel
theorem dX11_rules_159 : decode cX11_rules 159 = .ok (.bipush 8, 2) := by decide +kernel
theorem dX11_rules_161 : decode cX11_rules 161 = .ok (.if_icmp .ge 21, 3) := by decide +kernel
theorem dX11_rules_164 : decode cX11_rules 164 = .ok (.aload_n 0, 1) := by decide +kernel
theorem dX11_rules_165 : decode cX11_rules 165 = .ok (.getfield 28, 3) := by decide +kernel
theorem dX11_rules_168 : decode cX11_rules 168 = .ok (.iload_n 1, 1) := by decide +kernel
theorem dX11_rules_169 : decode cX11_rules 169 = .ok (.aload_n 0, 1) := by decide +kernel
theorem dX11_rules_170 : decode cX11_rules 170 = .ok (.getfield 46, 3) := by decide +kernel
theorem dX11_rules_173 : decode cX11_rules 173 = .ok (.iload_n 1, 1) := by decide +kernel
theorem dX11_rules_174 : decode cX11_rules 174 = .ok (.iaload, 1) := by decide +kernel
theorem dX11_rules_175 : decode cX11_rules 175 = .ok (.iastore, 1) := by decide +kernel
theorem dX11_rules_176 : decode cX11_rules 176 = .ok (.iinc 1 1, 3) := by decide +kernel
theorem dX11_rules_179 : decode cX11_rules 179 = .ok (.goto (-21), 3) := by decide +kernel
theorem dX11_rules_182 : decode cX11_rules 182 = .ok (.iconst 0, 1) := by decide +kernel
theorem dX11_rules_183 : decode cX11_rules 183 = .ok (.istore_n 1, 1) := by decide +kernel
theorem dX11_rules_184 : decode cX11_rules 184 = .ok (.iload_n 1, 1) := by decide +kernel
theorem dX11_rules_185 : decode cX11_rules 185 = .ok (.bipush 36, 2) := by decide +kernel
theorem dX11_rules_187 : decode cX11_rules 187 = .ok (.if_icmp .ge 21, 3) := by decide +kernel
theorem dX11_rules_190 : decode cX11_rules 190 = .ok (.aload_n 0, 1) := by decide +kernel
theorem dX11_rules_191 : decode cX11_rules 191 = .ok (.getfield 31, 3) := by decide +kernel
theorem dX11_rules_194 : decode cX11_rules 194 = .ok (.iload_n 1, 1) := by decide +kernel
theorem dX11_rules_195 : decode cX11_rules 195 = .ok (.aload_n 0, 1) := by decide +kernel
theorem dX11_rules_196 : decode cX11_rules 196 = .ok (.getfield 49, 3) := by decide +kernel
theorem dX11_rules_199 : decode cX11_rules 199 = .ok (.iload_n 1, 1) := by decide +kernel
theorem dX11_rules_200 : decode cX11_rules 200 = .ok (.iaload, 1) := by decide +kernel
theorem dX11_rules_201 : decode cX11_rules 201 = .ok (.iastore, 1) := by decide +kernel
theorem dX11_rules_202 : decode cX11_rules 202 = .ok (.iinc 1 1, 3) := by decide +kernel
theorem dX11_rules_205 : decode cX11_rules 205 = .ok (.goto (-21), 3) := by decide +kernel
theorem dX11_rules_208 : decode cX11_rules 208 = .ok (.iconst 0, 1) := by decide +kernel
theorem dX11_rules_209 : decode cX11_rules 209 = .ok (.istore_n 1, 1) := by decide +kernel
theorem dX11_rules_210 : decode cX11_rules 210 = .ok (.iload_n 1, 1) := by decide +kernel
theorem dX11_rules_211 : decode cX11_rules 211 = .ok (.bipush 24, 2) := by decide +kernel
theorem dX11_rules_213 : decode cX11_rules 213 = .ok (.if_icmp .ge 21, 3) := by decide +kernel
theorem dX11_rules_216 : decode cX11_rules 216 = .ok (.aload_n 0, 1) := by decide +kernel
theorem dX11_rules_217 : decode cX11_rules 217 = .ok (.getfield 34, 3) := by decide +kernel
theorem dX11_rules_220 : decode cX11_rules 220 = .ok (.iload_n 1, 1) := by decide +kernel
theorem dX11_rules_221 : decode cX11_rules 221 = .ok (.aload_n 0, 1) := by decide +kernel
theorem dX11_rules_222 : decode cX11_rules 222 = .ok (.getfield 52, 3) := by decide +kernel
theorem dX11_rules_225 : decode cX11_rules 225 = .ok (.iload_n 1, 1) := by decide +kernel
theorem dX11_rules_226 : decode cX11_rules 226 = .ok (.iaload, 1) := by decide +kernel
theorem dX11_rules_227 : decode cX11_rules 227 = .ok (.iastore, 1) := by decide +kernel
theorem dX11_rules_228 : decode cX11_rules 228 = .ok (.iinc 1 1, 3) := by decide +kernel
theorem dX11_rules_231 : decode cX11_rules 231 = .ok (.goto (-21), 3) := by decide +kernel
theorem dX11_rules_234 : decode cX11_rules 234 = .ok (.iconst 0, 1) := by decide +kernel
theorem dX11_rules_235 : decode cX11_rules 235 = .ok (.istore_n 1, 1) := by decide +kernel
theorem dX11_rules_236 : decode cX11_rules 236 = .ok (.iload_n 1, 1) := by decide +kernel
theorem dX11_rules_237 : decode cX11_rules 237 = .ok (.bipush 40, 2) := by decide +kernel
theorem dX11_rules_239 : decode cX11_rules 239 = .ok (.if_icmp .ge 45, 3) := by decide +kernel
theorem dX11_rules_242 : decode cX11_rules 242 = .ok (.aload_n 0, 1) := by decide +kernel
theorem dX11_rules_243 : decode cX11_rules 243 = .ok (.getfield 37, 3) := by decide +kernel
theorem dX11_rules_246 : decode cX11_rules 246 = .ok (.iload_n 1, 1) := by decide +kernel
theorem dX11_rules_247 : decode cX11_rules 247 = .ok (.aload_n 0, 1) := by decide +kernel
theorem dX11_rules_248 : decode cX11_rules 248 = .ok (.getfield 55, 3) := by decide +kernel
theorem dX11_rules_251 : decode cX11_rules 251 = .ok (.iload_n 1, 1) := by decide +kernel
theorem dX11_rules_252 : decode cX11_rules 252 = .ok (.iaload, 1) := by decide +kernel
theorem dX11_rules_253 : decode cX11_rules 253 = .ok (.iastore, 1) := by decide +kernel
theorem dX11_rules_254 : decode cX11_rules 254 = .ok (.aload_n 0, 1) := by decide +kernel
theorem dX11_rules_255 : decode cX11_rules 255 = .ok (.getfield 40, 3) := by decide +kernel
theorem dX11_rules_258 : decode cX11_rules 258 = .ok (.iload_n 1, 1) := by decide +kernel
theorem dX11_rules_259 : decode cX11_rules 259 = .ok (.aload_n 0, 1) := by decide +kernel
theorem dX11_rules_260 : decode cX11_rules 260 = .ok (.getfield 58, 3) := by decide +kernel
theorem dX11_rules_263 : decode cX11_rules 263 = .ok (.iload_n 1, 1) := by decide +kernel
theorem dX11_rules_264 : decode cX11_rules 264 = .ok (.iaload, 1) := by decide +kernel
theorem dX11_rules_265 : decode cX11_rules 265 = .ok (.iastore, 1) := by decide +kernel
theorem dX11_rules_266 : decode cX11_rules 266 = .ok (.aload_n 0, 1) := by decide +kernel
theorem dX11_rules_267 : decode cX11_rules 267 = .ok (.getfield 43, 3) := by decide +kernel
theorem dX11_rules_270 : decode cX11_rules 270 = .ok (.iload_n 1, 1) := by decide +kernel
theorem dX11_rules_271 : decode cX11_rules 271 = .ok (.aload_n 0, 1) := by decide +kernel
theorem dX11_rules_272 : decode cX11_rules 272 = .ok (.getfield 61, 3) := by decide +kernel
theorem dX11_rules_275 : decode cX11_rules 275 = .ok (.iload_n 1, 1) := by decide +kernel
theorem dX11_rules_276 : decode cX11_rules 276 = .ok (.iaload, 1) := by decide +kernel
theorem dX11_rules_277 : decode cX11_rules 277 = .ok (.iastore, 1) := by decide +kernel
theorem dX11_rules_278 : decode cX11_rules 278 = .ok (.iinc 1 1, 3) := by decide +kernel
theorem dX11_rules_281 : decode cX11_rules 281 = .ok (.goto (-45), 3) := by decide +kernel
theorem dX11_rules_284 : decode cX11_rules 284 = .ok (.aload_n 0, 1) := by decide +kernel
theorem dX11_rules_285 : decode cX11_rules 285 = .ok (.getfield 245, 3) := by decide +kernel
theorem dX11_rules_288 : decode cX11_rules 288 = .ok (.ireturn, 1) := by decide +kernel
theorem dX11_fault_0 : decode cX11_fault 0 = .ok (.aload_n 0, 1) := by decide +kernel
theorem dX11_fault_1 : decode cX11_fault 1 = .ok (.getfield 250, 3) := by decide +kernel
theorem dX11_fault_4 : decode cX11_fault 4 = .ok (.ireturn, 1) := by decide +kernel
theorem dX11_rule_0 : decode cX11_rule 0 = .ok (.iload_n 1, 1) := by decide +kernel
theorem dX11_rule_1 : decode cX11_rule 1 = .ok (.i2l, 1) := by decide +kernel
theorem dX11_rule_2 : decode cX11_rule 2 = .ok (.lconst 0, 1) := by decide +kernel
theorem dX11_rule_3 : decode cX11_rule 3 = .ok (.ldc2_w 259, 3) := by decide +kernel
theorem dX11_rule_6 : decode cX11_rule 6 = .ok (.invokestatic 156, 3) := by decide +kernel
theorem dX11_rule_9 : decode cX11_rule 9 = .ok (.ifCond .eq 12, 3) := by decide +kernel
theorem dX11_rule_12 : decode cX11_rule 12 = .ok (.aload_n 0, 1) := by decide +kernel
theorem dX11_rule_13 : decode cX11_rule 13 = .ok (.getfield 28, 3) := by decide +kernel
theorem dX11_rule_16 : decode cX11_rule 16 = .ok (.iload_n 1, 1) := by decide +kernel
theorem dX11_rule_17 : decode cX11_rule 17 = .ok (.iaload, 1) := by decide +kernel
theorem dX11_rule_18 : decode cX11_rule 18 = .ok (.goto 30, 3) := by decide +kernel
theorem dX11_rule_21 : decode cX11_rule 21 = .ok (.iload_n 1, 1) := by decide +kernel
theorem dX11_rule_22 : decode cX11_rule 22 = .ok (.bipush 8, 2) := by decide +kernel
theorem dX11_rule_24 : decode cX11_rule 24 = .ok (.if_icmp .ne 10, 3) := by decide +kernel
theorem dX11_rule_27 : decode cX11_rule 27 = .ok (.aload_n 0, 1) := by decide +kernel
theorem dX11_rule_28 : decode cX11_rule 28 = .ok (.getfield 253, 3) := by decide +kernel
theorem dX11_rule_31 : decode cX11_rule 31 = .ok (.goto 17, 3) := by decide +kernel
theorem dX11_rule_34 : decode cX11_rule 34 = .ok (.iload_n 1, 1) := by decide +kernel
theorem dX11_rule_35 : decode cX11_rule 35 = .ok (.bipush 9, 2) := by decide +kernel
theorem dX11_rule_37 : decode cX11_rule 37 = .ok (.if_icmp .ne 10, 3) := by decide +kernel
theorem dX11_rule_40 : decode cX11_rule 40 = .ok (.aload_n 0, 1) := by decide +kernel
theorem dX11_rule_41 : decode cX11_rule 41 = .ok (.getfield 256, 3) := by decide +kernel
theorem dX11_rule_44 : decode cX11_rule 44 = .ok (.goto 4, 3) := by decide +kernel
theorem dX11_rule_47 : decode cX11_rule 47 = .ok (.iconst (-1), 1) := by decide +kernel
theorem dX11_rule_48 : decode cX11_rule 48 = .ok (.ireturn, 1) := by decide +kernel
theorem dX11_saidAt_0 : decode cX11_saidAt 0 = .ok (.bipush (-4), 2) := by decide +kernel
theorem dX11_saidAt_2 : decode cX11_saidAt 2 = .ok (.istore_n 3, 1) := by decide +kernel
theorem dX11_saidAt_3 : decode cX11_saidAt 3 = .ok (.iconst 0, 1) := by decide +kernel
theorem dX11_saidAt_4 : decode cX11_saidAt 4 = .ok (.istore 4, 2) := by decide +kernel
theorem dX11_saidAt_6 : decode cX11_saidAt 6 = .ok (.iconst 0, 1) := by decide +kernel
theorem dX11_saidAt_7 : decode cX11_saidAt 7 = .ok (.istore 5, 2) := by decide +kernel
theorem dX11_saidAt_9 : decode cX11_saidAt 9 = .ok (.iload 5, 2) := by decide +kernel
theorem dX11_saidAt_11 : decode cX11_saidAt 11 = .ok (.aload_n 0, 1) := by decide +kernel
theorem dX11_saidAt_12 : decode cX11_saidAt 12 = .ok (.getfield 253, 3) := by decide +kernel
theorem dX11_saidAt_15 : decode cX11_saidAt 15 = .ok (.if_icmp .ge 115, 3) := by decide +kernel
theorem dX11_saidAt_18 : decode cX11_saidAt 18 = .ok (.iconst 0, 1) := by decide +kernel
theorem dX11_saidAt_19 : decode cX11_saidAt 19 = .ok (.istore 6, 2) := by decide +kernel
theorem dX11_saidAt_21 : decode cX11_saidAt 21 = .ok (.iconst 1, 1) := by decide +kernel
theorem dX11_saidAt_22 : decode cX11_saidAt 22 = .ok (.istore 7, 2) := by decide +kernel
theorem dX11_saidAt_24 : decode cX11_saidAt 24 = .ok (.iconst 0, 1) := by decide +kernel
theorem dX11_saidAt_25 : decode cX11_saidAt 25 = .ok (.istore 8, 2) := by decide +kernel
theorem dX11_saidAt_27 : decode cX11_saidAt 27 = .ok (.iload 8, 2) := by decide +kernel
theorem dX11_saidAt_29 : decode cX11_saidAt 29 = .ok (.iconst 3, 1) := by decide +kernel
theorem dX11_saidAt_30 : decode cX11_saidAt 30 = .ok (.if_icmp .ge 75, 3) := by decide +kernel
theorem dX11_saidAt_33 : decode cX11_saidAt 33 = .ok (.aload_n 0, 1) := by decide +kernel
theorem dX11_saidAt_34 : decode cX11_saidAt 34 = .ok (.getfield 31, 3) := by decide +kernel
theorem dX11_saidAt_37 : decode cX11_saidAt 37 = .ok (.iconst 3, 1) := by decide +kernel
theorem dX11_saidAt_38 : decode cX11_saidAt 38 = .ok (.iload 5, 2) := by decide +kernel
theorem dX11_saidAt_40 : decode cX11_saidAt 40 = .ok (.imul, 1) := by decide +kernel
theorem dX11_saidAt_41 : decode cX11_saidAt 41 = .ok (.iload 8, 2) := by decide +kernel
theorem dX11_saidAt_43 : decode cX11_saidAt 43 = .ok (.iadd, 1) := by decide +kernel
theorem dX11_saidAt_44 : decode cX11_saidAt 44 = .ok (.iaload, 1) := by decide +kernel
theorem dX11_saidAt_45 : decode cX11_saidAt 45 = .ok (.istore 9, 2) := by decide +kernel
theorem dX11_saidAt_47 : decode cX11_saidAt 47 = .ok (.iload 9, 2) := by decide +kernel
theorem dX11_saidAt_49 : decode cX11_saidAt 49 = .ok (.ifCond .le 50, 3) := by decide +kernel
theorem dX11_saidAt_52 : decode cX11_saidAt 52 = .ok (.iinc 6 1, 3) := by decide +kernel
theorem dX11_saidAt_55 : decode cX11_saidAt 55 = .ok (.iload 7, 2) := by decide +kernel
theorem dX11_saidAt_57 : decode cX11_saidAt 57 = .ok (.ifCond .eq 39, 3) := by decide +kernel
theorem dX11_saidAt_60 : decode cX11_saidAt 60 = .ok (.iload_n 2, 1) := by decide +kernel
theorem dX11_saidAt_61 : decode cX11_saidAt 61 = .ok (.iload 8, 2) := by decide +kernel
theorem dX11_saidAt_63 : decode cX11_saidAt 63 = .ok (.iadd, 1) := by decide +kernel
theorem dX11_saidAt_64 : decode cX11_saidAt 64 = .ok (.aload_n 0, 1) := by decide +kernel
theorem dX11_saidAt_65 : decode cX11_saidAt 65 = .ok (.getfield 7, 3) := by decide +kernel
theorem dX11_saidAt_68 : decode cX11_saidAt 68 = .ok (.iload_n 1, 1) := by decide +kernel
theorem dX11_saidAt_69 : decode cX11_saidAt 69 = .ok (.iaload, 1) := by decide +kernel
theorem dX11_saidAt_70 : decode cX11_saidAt 70 = .ok (.if_icmp .ge 26, 3) := by decide +kernel
theorem dX11_saidAt_73 : decode cX11_saidAt 73 = .ok (.aload_n 0, 1) := by decide +kernel
theorem dX11_saidAt_74 : decode cX11_saidAt 74 = .ok (.getfield 13, 3) := by decide +kernel
theorem dX11_saidAt_77 : decode cX11_saidAt 77 = .ok (.bipush 10, 2) := by decide +kernel
theorem dX11_saidAt_79 : decode cX11_saidAt 79 = .ok (.iload_n 1, 1) := by decide +kernel
theorem dX11_saidAt_80 : decode cX11_saidAt 80 = .ok (.imul, 1) := by decide +kernel
theorem dX11_saidAt_81 : decode cX11_saidAt 81 = .ok (.iload_n 2, 1) := by decide +kernel
theorem dX11_saidAt_82 : decode cX11_saidAt 82 = .ok (.iadd, 1) := by decide +kernel
theorem dX11_saidAt_83 : decode cX11_saidAt 83 = .ok (.iload 8, 2) := by decide +kernel
theorem dX11_saidAt_85 : decode cX11_saidAt 85 = .ok (.iadd, 1) := by decide +kernel
theorem dX11_saidAt_86 : decode cX11_saidAt 86 = .ok (.iaload, 1) := by decide +kernel
theorem dX11_saidAt_87 : decode cX11_saidAt 87 = .ok (.iload 9, 2) := by decide +kernel
theorem dX11_saidAt_89 : decode cX11_saidAt 89 = .ok (.if_icmp .ne 7, 3) := by decide +kernel
theorem dX11_saidAt_92 : decode cX11_saidAt 92 = .ok (.iconst 1, 1) := by decide +kernel
theorem dX11_saidAt_93 : decode cX11_saidAt 93 = .ok (.goto 4, 3) := by decide +kernel
theorem dX11_saidAt_96 : decode cX11_saidAt 96 = .ok (.iconst 0, 1) := by decide +kernel
theorem dX11_saidAt_97 : decode cX11_saidAt 97 = .ok (.istore 7, 2) := by decide +kernel
theorem dX11_saidAt_99 : decode cX11_saidAt 99 = .ok (.iinc 8 1, 3) := by decide +kernel
theorem dX11_saidAt_102 : decode cX11_saidAt 102 = .ok (.goto (-75), 3) := by decide +kernel
theorem dX11_saidAt_105 : decode cX11_saidAt 105 = .ok (.iload 7, 2) := by decide +kernel
theorem dX11_saidAt_107 : decode cX11_saidAt 107 = .ok (.ifCond .eq 17, 3) := by decide +kernel
theorem dX11_saidAt_110 : decode cX11_saidAt 110 = .ok (.iload 6, 2) := by decide +kernel
theorem dX11_saidAt_112 : decode cX11_saidAt 112 = .ok (.iload 4, 2) := by decide +kernel
theorem dX11_saidAt_114 : decode cX11_saidAt 114 = .ok (.if_icmp .le 10, 3) := by decide +kernel
theorem dX11_saidAt_117 : decode cX11_saidAt 117 = .ok (.iload 5, 2) := by decide +kernel
theorem dX11_saidAt_119 : decode cX11_saidAt 119 = .ok (.istore_n 3, 1) := by decide +kernel
theorem dX11_saidAt_120 : decode cX11_saidAt 120 = .ok (.iload 6, 2) := by decide +kernel
theorem dX11_saidAt_122 : decode cX11_saidAt 122 = .ok (.istore 4, 2) := by decide +kernel
theorem dX11_saidAt_124 : decode cX11_saidAt 124 = .ok (.iinc 5 1, 3) := by decide +kernel
theorem dX11_saidAt_127 : decode cX11_saidAt 127 = .ok (.goto (-118), 3) := by decide +kernel
theorem dX11_saidAt_130 : decode cX11_saidAt 130 = .ok (.iload_n 3, 1) := by decide +kernel
theorem dX11_saidAt_131 : decode cX11_saidAt 131 = .ok (.ireturn, 1) := by decide +kernel
theorem dX11_saidSize_0 : decode cX11_saidSize 0 = .ok (.iconst 1, 1) := by decide +kernel
theorem dX11_saidSize_1 : decode cX11_saidSize 1 = .ok (.aload_n 0, 1) := by decide +kernel
theorem dX11_saidSize_2 : decode cX11_saidSize 2 = .ok (.getfield 31, 3) := by decide +kernel
theorem dX11_saidSize_5 : decode cX11_saidSize 5 = .ok (.iconst 3, 1) := by decide +kernel
theorem dX11_saidSize_6 : decode cX11_saidSize 6 = .ok (.iload_n 1, 1) := by decide +kernel
theorem dX11_saidSize_7 : decode cX11_saidSize 7 = .ok (.imul, 1) := by decide +kernel
theorem dX11_saidSize_8 : decode cX11_saidSize 8 = .ok (.iconst 1, 1) := by decide +kernel
theorem dX11_saidSize_9 : decode cX11_saidSize 9 = .ok (.iadd, 1) := by decide +kernel
theorem dX11_saidSize_10 : decode cX11_saidSize 10 = .ok (.iaload, 1) := by decide +kernel
theorem dX11_saidSize_11 : decode cX11_saidSize 11 = .ok (.ifCond .le 7, 3) := by decide +kernel
theorem dX11_saidSize_14 : decode cX11_saidSize 14 = .ok (.iconst 1, 1) := by decide +kernel
theorem dX11_saidSize_15 : decode cX11_saidSize 15 = .ok (.goto 4, 3) := by decide +kernel
theorem dX11_saidSize_18 : decode cX11_saidSize 18 = .ok (.iconst 0, 1) := by decide +kernel
theorem dX11_saidSize_19 : decode cX11_saidSize 19 = .ok (.iadd, 1) := by decide +kernel
theorem dX11_saidSize_20 : decode cX11_saidSize 20 = .ok (.aload_n 0, 1) := by decide +kernel
theorem dX11_saidSize_21 : decode cX11_saidSize 21 = .ok (.getfield 31, 3) := by decide +kernel
theorem dX11_saidSize_24 : decode cX11_saidSize 24 = .ok (.iconst 3, 1) := by decide +kernel
theorem dX11_saidSize_25 : decode cX11_saidSize 25 = .ok (.iload_n 1, 1) := by decide +kernel
theorem dX11_saidSize_26 : decode cX11_saidSize 26 = .ok (.imul, 1) := by decide +kernel
theorem dX11_saidSize_27 : decode cX11_saidSize 27 = .ok (.iconst 2, 1) := by decide +kernel
theorem dX11_saidSize_28 : decode cX11_saidSize 28 = .ok (.iadd, 1) := by decide +kernel
theorem dX11_saidSize_29 : decode cX11_saidSize 29 = .ok (.iaload, 1) := by decide +kernel
theorem dX11_saidSize_30 : decode cX11_saidSize 30 = .ok (.ifCond .le 7, 3) := by decide +kernel
theorem dX11_saidSize_33 : decode cX11_saidSize 33 = .ok (.iconst 1, 1) := by decide +kernel
theorem dX11_saidSize_34 : decode cX11_saidSize 34 = .ok (.goto 4, 3) := by decide +kernel
theorem dX11_saidSize_37 : decode cX11_saidSize 37 = .ok (.iconst 0, 1) := by decide +kernel
theorem dX11_saidSize_38 : decode cX11_saidSize 38 = .ok (.iadd, 1) := by decide +kernel
theorem dX11_saidSize_39 : decode cX11_saidSize 39 = .ok (.ireturn, 1) := by decide +kernel
theorem dX11_laySound_0 : decode cX11_laySound 0 = .ok (.iconst 0, 1) := by decide +kernel
theorem dX11_laySound_1 : decode cX11_laySound 1 = .ok (.istore_n 2, 1) := by decide +kernel
theorem dX11_laySound_2 : decode cX11_laySound 2 = .ok (.iconst 0, 1) := by decide +kernel
theorem dX11_laySound_3 : decode cX11_laySound 3 = .ok (.istore_n 3, 1) := by decide +kernel
theorem dX11_laySound_4 : decode cX11_laySound 4 = .ok (.iload_n 3, 1) := by decide +kernel
theorem dX11_laySound_5 : decode cX11_laySound 5 = .ok (.aload_n 0, 1) := by decide +kernel
theorem dX11_laySound_6 : decode cX11_laySound 6 = .ok (.getfield 7, 3) := by decide +kernel
theorem dX11_laySound_9 : decode cX11_laySound 9 = .ok (.iload_n 1, 1) := by decide +kernel
theorem dX11_laySound_10 : decode cX11_laySound 10 = .ok (.iaload, 1) := by decide +kernel
theorem dX11_laySound_11 : decode cX11_laySound 11 = .ok (.if_icmp .ge 117, 3) := by decide +kernel
theorem dX11_laySound_14 : decode cX11_laySound 14 = .ok (.aload_n 0, 1) := by decide +kernel
theorem dX11_laySound_15 : decode cX11_laySound 15 = .ok (.iload_n 1, 1) := by decide +kernel
theorem dX11_laySound_16 : decode cX11_laySound 16 = .ok (.iload_n 3, 1) := by decide +kernel
theorem dX11_laySound_17 : decode cX11_laySound 17 = .ok (.invokevirtual 261, 3) := by decide +kernel
theorem dX11_laySound_20 : decode cX11_laySound 20 = .ok (.istore 4, 2) := by decide +kernel
theorem dX11_laySound_22 : decode cX11_laySound 22 = .ok (.iload 4, 2) := by decide +kernel
theorem dX11_laySound_24 : decode cX11_laySound 24 = .ok (.bipush (-4), 2) := by decide +kernel
theorem dX11_laySound_26 : decode cX11_laySound 26 = .ok (.if_icmp .ne 34, 3) := by decide +kernel
theorem dX11_laySound_29 : decode cX11_laySound 29 = .ok (.aload_n 0, 1) := by decide +kernel
theorem dX11_laySound_30 : decode cX11_laySound 30 = .ok (.getfield 67, 3) := by decide +kernel
theorem dX11_laySound_33 : decode cX11_laySound 33 = .ok (.bipush 20, 2) := by decide +kernel
theorem dX11_laySound_35 : decode cX11_laySound 35 = .ok (.iload_n 1, 1) := by decide +kernel
theorem dX11_laySound_36 : decode cX11_laySound 36 = .ok (.imul, 1) := by decide +kernel
theorem dX11_laySound_37 : decode cX11_laySound 37 = .ok (.iload_n 2, 1) := by decide +kernel
theorem dX11_laySound_38 : decode cX11_laySound 38 = .ok (.iadd, 1) := by decide +kernel
theorem dX11_laySound_39 : decode cX11_laySound 39 = .ok (.aload_n 0, 1) := by decide +kernel
theorem dX11_laySound_40 : decode cX11_laySound 40 = .ok (.getfield 13, 3) := by decide +kernel
theorem dX11_laySound_43 : decode cX11_laySound 43 = .ok (.bipush 10, 2) := by decide +kernel
theorem dX11_laySound_45 : decode cX11_laySound 45 = .ok (.iload_n 1, 1) := by decide +kernel
theorem dX11_laySound_46 : decode cX11_laySound 46 = .ok (.imul, 1) := by decide +kernel
theorem dX11_laySound_47 : decode cX11_laySound 47 = .ok (.iload_n 3, 1) := by decide +kernel
theorem dX11_laySound_48 : decode cX11_laySound 48 = .ok (.iadd, 1) := by decide +kernel
theorem dX11_laySound_49 : decode cX11_laySound 49 = .ok (.iaload, 1) := by decide +kernel
theorem dX11_laySound_50 : decode cX11_laySound 50 = .ok (.iastore, 1) := by decide +kernel
theorem dX11_laySound_51 : decode cX11_laySound 51 = .ok (.iinc 2 1, 3) := by decide +kernel
theorem dX11_laySound_54 : decode cX11_laySound 54 = .ok (.iinc 3 1, 3) := by decide +kernel
theorem dX11_laySound_57 : decode cX11_laySound 57 = .ok (.goto 68, 3) := by decide +kernel
theorem dX11_laySound_60 : decode cX11_laySound 60 = .ok (.iconst 0, 1) := by decide +kernel
theorem dX11_laySound_61 : decode cX11_laySound 61 = .ok (.istore 5, 2) := by decide +kernel
theorem dX11_laySound_63 : decode cX11_laySound 63 = .ok (.iload 5, 2) := by decide +kernel
theorem dX11_laySound_65 : decode cX11_laySound 65 = .ok (.iconst 2, 1) := by decide +kernel
theorem dX11_laySound_66 : decode cX11_laySound 66 = .ok (.if_icmp .ge 50, 3) := by decide +kernel
theorem dX11_laySound_69 : decode cX11_laySound 69 = .ok (.aload_n 0, 1) := by decide +kernel
theorem dX11_laySound_70 : decode cX11_laySound 70 = .ok (.getfield 34, 3) := by decide +kernel
theorem dX11_laySound_73 : decode cX11_laySound 73 = .ok (.iconst 2, 1) := by decide +kernel
theorem dX11_laySound_74 : decode cX11_laySound 74 = .ok (.iload 4, 2) := by decide +kernel
theorem dX11_laySound_76 : decode cX11_laySound 76 = .ok (.imul, 1) := by decide +kernel
theorem dX11_laySound_77 : decode cX11_laySound 77 = .ok (.iload 5, 2) := by decide +kernel
theorem dX11_laySound_79 : decode cX11_laySound 79 = .ok (.iadd, 1) := by decide +kernel
theorem dX11_laySound_80 : decode cX11_laySound 80 = .ok (.iaload, 1) := by decide +kernel
theorem dX11_laySound_81 : decode cX11_laySound 81 = .ok (.ifCond .le 29, 3) := by decide +kernel
theorem dX11_laySound_84 : decode cX11_laySound 84 = .ok (.aload_n 0, 1) := by decide +kernel
theorem dX11_laySound_85 : decode cX11_laySound 85 = .ok (.getfield 67, 3) := by decide +kernel
theorem dX11_laySound_88 : decode cX11_laySound 88 = .ok (.bipush 20, 2) := by decide +kernel
theorem dX11_laySound_90 : decode cX11_laySound 90 = .ok (.iload_n 1, 1) := by decide +kernel
theorem dX11_laySound_91 : decode cX11_laySound 91 = .ok (.imul, 1) := by decide +kernel
theorem dX11_laySound_92 : decode cX11_laySound 92 = .ok (.iload_n 2, 1) := by decide +kernel
theorem dX11_laySound_93 : decode cX11_laySound 93 = .ok (.iadd, 1) := by decide +kernel
theorem dX11_laySound_94 : decode cX11_laySound 94 = .ok (.aload_n 0, 1) := by decide +kernel
theorem dX11_laySound_95 : decode cX11_laySound 95 = .ok (.getfield 34, 3) := by decide +kernel
theorem dX11_laySound_98 : decode cX11_laySound 98 = .ok (.iconst 2, 1) := by decide +kernel
theorem dX11_laySound_99 : decode cX11_laySound 99 = .ok (.iload 4, 2) := by decide +kernel
theorem dX11_laySound_101 : decode cX11_laySound 101 = .ok (.imul, 1) := by decide +kernel
theorem dX11_laySound_102 : decode cX11_laySound 102 = .ok (.iload 5, 2) := by decide +kernel
theorem dX11_laySound_104 : decode cX11_laySound 104 = .ok (.iadd, 1) := by decide +kernel
theorem dX11_laySound_105 : decode cX11_laySound 105 = .ok (.iaload, 1) := by decide +kernel
theorem dX11_laySound_106 : decode cX11_laySound 106 = .ok (.iastore, 1) := by decide +kernel
theorem dX11_laySound_107 : decode cX11_laySound 107 = .ok (.iinc 2 1, 3) := by decide +kernel
theorem dX11_laySound_110 : decode cX11_laySound 110 = .ok (.iinc 5 1, 3) := by decide +kernel
theorem dX11_laySound_113 : decode cX11_laySound 113 = .ok (.goto (-50), 3) := by decide +kernel
theorem dX11_laySound_116 : decode cX11_laySound 116 = .ok (.iload_n 3, 1) := by decide +kernel
theorem dX11_laySound_117 : decode cX11_laySound 117 = .ok (.aload_n 0, 1) := by decide +kernel
theorem dX11_laySound_118 : decode cX11_laySound 118 = .ok (.iload 4, 2) := by decide +kernel
theorem dX11_laySound_120 : decode cX11_laySound 120 = .ok (.invokevirtual 264, 3) := by decide +kernel
theorem dX11_laySound_123 : decode cX11_laySound 123 = .ok (.iadd, 1) := by decide +kernel
theorem dX11_laySound_124 : decode cX11_laySound 124 = .ok (.istore_n 3, 1) := by decide +kernel
theorem dX11_laySound_125 : decode cX11_laySound 125 = .ok (.goto (-121), 3) := by decide +kernel
theorem dX11_laySound_128 : decode cX11_laySound 128 = .ok (.aload_n 0, 1) := by decide +kernel
theorem dX11_laySound_129 : decode cX11_laySound 129 = .ok (.getfield 64, 3) := by decide +kernel
theorem dX11_laySound_132 : decode cX11_laySound 132 = .ok (.iload_n 1, 1) := by decide +kernel
theorem dX11_laySound_133 : decode cX11_laySound 133 = .ok (.iload_n 2, 1) := by decide +kernel
theorem dX11_laySound_134 : decode cX11_laySound 134 = .ok (.iastore, 1) := by decide +kernel
theorem dX11_laySound_135 : decode cX11_laySound 135 = .ok (.return_, 1) := by decide +kernel
theorem dX11_changed_0 : decode cX11_changed 0 = .ok (.iload_n 1, 1) := by decide +kernel
theorem dX11_changed_1 : decode cX11_changed 1 = .ok (.iload_n 2, 1) := by decide +kernel
theorem dX11_changed_2 : decode cX11_changed 2 = .ok (.if_icmp .ne 5, 3) := by decide +kernel
theorem dX11_changed_5 : decode cX11_changed 5 = .ok (.iconst 0, 1) := by decide +kernel
theorem dX11_changed_6 : decode cX11_changed 6 = .ok (.ireturn, 1) := by decide +kernel
theorem dX11_changed_7 : decode cX11_changed 7 = .ok (.iconst 0, 1) := by decide +kernel
theorem dX11_changed_8 : decode cX11_changed 8 = .ok (.istore_n 3, 1) := by decide +kernel
theorem dX11_changed_9 : decode cX11_changed 9 = .ok (.iload_n 3, 1) := by decide +kernel
theorem dX11_changed_10 : decode cX11_changed 10 = .ok (.aload_n 0, 1) := by decide +kernel
theorem dX11_changed_11 : decode cX11_changed 11 = .ok (.getfield 256, 3) := by decide +kernel
theorem dX11_changed_14 : decode cX11_changed 14 = .ok (.if_icmp .ge 56, 3) := by decide +kernel
theorem dX11_changed_17 : decode cX11_changed 17 = .ok (.aload_n 0, 1) := by decide +kernel
theorem dX11_changed_18 : decode cX11_changed 18 = .ok (.getfield 37, 3) := by decide +kernel
theorem dX11_changed_21 : decode cX11_changed 21 = .ok (.iload_n 3, 1) := by decide +kernel
theorem dX11_changed_22 : decode cX11_changed 22 = .ok (.iaload, 1) := by decide +kernel
theorem dX11_changed_23 : decode cX11_changed 23 = .ok (.iload_n 1, 1) := by decide +kernel
theorem dX11_changed_24 : decode cX11_changed 24 = .ok (.if_icmp .ne 13, 3) := by decide +kernel
theorem dX11_changed_27 : decode cX11_changed 27 = .ok (.aload_n 0, 1) := by decide +kernel
theorem dX11_changed_28 : decode cX11_changed 28 = .ok (.getfield 40, 3) := by decide +kernel
theorem dX11_changed_31 : decode cX11_changed 31 = .ok (.iload_n 3, 1) := by decide +kernel
theorem dX11_changed_32 : decode cX11_changed 32 = .ok (.iaload, 1) := by decide +kernel
theorem dX11_changed_33 : decode cX11_changed 33 = .ok (.iload_n 2, 1) := by decide +kernel
theorem dX11_changed_34 : decode cX11_changed 34 = .ok (.if_icmp .eq 23, 3) := by decide +kernel
theorem dX11_changed_37 : decode cX11_changed 37 = .ok (.aload_n 0, 1) := by decide +kernel
theorem dX11_changed_38 : decode cX11_changed 38 = .ok (.getfield 37, 3) := by decide +kernel
theorem dX11_changed_41 : decode cX11_changed 41 = .ok (.iload_n 3, 1) := by decide +kernel
theorem dX11_changed_42 : decode cX11_changed 42 = .ok (.iaload, 1) := by decide +kernel
theorem dX11_changed_43 : decode cX11_changed 43 = .ok (.iload_n 2, 1) := by decide +kernel
theorem dX11_changed_44 : decode cX11_changed 44 = .ok (.if_icmp .ne 20, 3) := by decide +kernel
theorem dX11_changed_47 : decode cX11_changed 47 = .ok (.aload_n 0, 1) := by decide +kernel
theorem dX11_changed_48 : decode cX11_changed 48 = .ok (.getfield 40, 3) := by decide +kernel
theorem dX11_changed_51 : decode cX11_changed 51 = .ok (.iload_n 3, 1) := by decide +kernel
theorem dX11_changed_52 : decode cX11_changed 52 = .ok (.iaload, 1) := by decide +kernel
theorem dX11_changed_53 : decode cX11_changed 53 = .ok (.iload_n 1, 1) := by decide +kernel
theorem dX11_changed_54 : decode cX11_changed 54 = .ok (.if_icmp .ne 10, 3) := by decide +kernel
theorem dX11_changed_57 : decode cX11_changed 57 = .ok (.aload_n 0, 1) := by decide +kernel
theorem dX11_changed_58 : decode cX11_changed 58 = .ok (.getfield 43, 3) := by decide +kernel
theorem dX11_changed_61 : decode cX11_changed 61 = .ok (.iload_n 3, 1) := by decide +kernel
theorem dX11_changed_62 : decode cX11_changed 62 = .ok (.iaload, 1) := by decide +kernel
theorem dX11_changed_63 : decode cX11_changed 63 = .ok (.ireturn, 1) := by decide +kernel
theorem dX11_changed_64 : decode cX11_changed 64 = .ok (.iinc 3 1, 3) := by decide +kernel
theorem dX11_changed_67 : decode cX11_changed 67 = .ok (.goto (-58), 3) := by decide +kernel
theorem dX11_changed_70 : decode cX11_changed 70 = .ok (.aload_n 0, 1) := by decide +kernel
theorem dX11_changed_71 : decode cX11_changed 71 = .ok (.getfield 28, 3) := by decide +kernel
theorem dX11_changed_74 : decode cX11_changed 74 = .ok (.iconst 1, 1) := by decide +kernel
theorem dX11_changed_75 : decode cX11_changed 75 = .ok (.iaload, 1) := by decide +kernel
theorem dX11_changed_76 : decode cX11_changed 76 = .ok (.ireturn, 1) := by decide +kernel
theorem dX11_less_0 : decode cX11_less 0 = .ok (.iload_n 0, 1) := by decide +kernel
theorem dX11_less_1 : decode cX11_less 1 = .ok (.iload_n 1, 1) := by decide +kernel
theorem dX11_less_2 : decode cX11_less 2 = .ok (.if_icmp .ge 7, 3) := by decide +kernel
theorem dX11_less_5 : decode cX11_less 5 = .ok (.iload_n 0, 1) := by decide +kernel
theorem dX11_less_6 : decode cX11_less 6 = .ok (.goto 4, 3) := by decide +kernel
theorem dX11_less_9 : decode cX11_less 9 = .ok (.iload_n 1, 1) := by decide +kernel
theorem dX11_less_10 : decode cX11_less 10 = .ok (.ireturn, 1) := by decide +kernel
theorem dX11_farOf_0 : decode cX11_farOf 0 = .ok (.aload_n 0, 1) := by decide +kernel
theorem dX11_farOf_1 : decode cX11_farOf 1 = .ok (.getfield 64, 3) := by decide +kernel
theorem dX11_farOf_4 : decode cX11_farOf 4 = .ok (.iload_n 1, 1) := by decide +kernel
theorem dX11_farOf_5 : decode cX11_farOf 5 = .ok (.iaload, 1) := by decide +kernel
theorem dX11_farOf_6 : decode cX11_farOf 6 = .ok (.istore_n 3, 1) := by decide +kernel
theorem dX11_farOf_7 : decode cX11_farOf 7 = .ok (.aload_n 0, 1) := by decide +kernel
theorem dX11_farOf_8 : decode cX11_farOf 8 = .ok (.getfield 64, 3) := by decide +kernel
theorem dX11_farOf_11 : decode cX11_farOf 11 = .ok (.iload_n 2, 1) := by decide +kernel
theorem dX11_farOf_12 : decode cX11_farOf 12 = .ok (.iaload, 1) := by decide +kernel
theorem dX11_farOf_13 : decode cX11_farOf 13 = .ok (.istore 4, 2) := by decide +kernel
theorem dX11_farOf_15 : decode cX11_farOf 15 = .ok (.iconst 0, 1) := by decide +kernel
theorem dX11_farOf_16 : decode cX11_farOf 16 = .ok (.istore 5, 2) := by decide +kernel
theorem dX11_farOf_18 : decode cX11_farOf 18 = .ok (.iload 5, 2) := by decide +kernel
theorem dX11_farOf_20 : decode cX11_farOf 20 = .ok (.iload_n 3, 1) := by decide +kernel
theorem dX11_farOf_21 : decode cX11_farOf 21 = .ok (.if_icmp .gt 153, 3) := by decide +kernel
theorem dX11_farOf_24 : decode cX11_farOf 24 = .ok (.iconst 0, 1) := by decide +kernel
theorem dX11_farOf_25 : decode cX11_farOf 25 = .ok (.istore 6, 2) := by decide +kernel
theorem dX11_farOf_27 : decode cX11_farOf 27 = .ok (.iload 6, 2) := by decide +kernel
theorem dX11_farOf_29 : decode cX11_farOf 29 = .ok (.iload 4, 2) := by decide +kernel
theorem dX11_farOf_31 : decode cX11_farOf 31 = .ok (.if_icmp .gt 137, 3) := by decide +kernel
theorem dX11_farOf_34 : decode cX11_farOf 34 = .ok (.bipush 21, 2) := by decide +kernel
theorem dX11_farOf_36 : decode cX11_farOf 36 = .ok (.iload 5, 2) := by decide +kernel
theorem dX11_farOf_38 : decode cX11_farOf 38 = .ok (.imul, 1) := by decide +kernel
theorem dX11_farOf_39 : decode cX11_farOf 39 = .ok (.iload 6, 2) := by decide +kernel
theorem dX11_farOf_41 : decode cX11_farOf 41 = .ok (.iadd, 1) := by decide +kernel
theorem dX11_farOf_42 : decode cX11_farOf 42 = .ok (.istore 7, 2) := by decide +kernel
theorem dX11_farOf_44 : decode cX11_farOf 44 = .ok (.iload 5, 2) := by decide +kernel
theorem dX11_farOf_46 : decode cX11_farOf 46 = .ok (.ifCond .eq 8, 3) := by decide +kernel
theorem dX11_farOf_49 : decode cX11_farOf 49 = .ok (.iload 6, 2) := by decide +kernel
theorem dX11_farOf_51 : decode cX11_farOf 51 = .ok (.ifCond .ne 25, 3) := by decide +kernel
theorem dX11_farOf_54 : decode cX11_farOf 54 = .ok (.aload_n 0, 1) := by decide +kernel
theorem dX11_farOf_55 : decode cX11_farOf 55 = .ok (.getfield 76, 3) := by decide +kernel
theorem dX11_farOf_58 : decode cX11_farOf 58 = .ok (.iload 7, 2) := by decide +kernel
theorem dX11_farOf_60 : decode cX11_farOf 60 = .ok (.aload_n 0, 1) := by decide +kernel
theorem dX11_farOf_61 : decode cX11_farOf 61 = .ok (.getfield 28, 3) := by decide +kernel
theorem dX11_farOf_64 : decode cX11_farOf 64 = .ok (.iconst 0, 1) := by decide +kernel
theorem dX11_farOf_65 : decode cX11_farOf 65 = .ok (.iaload, 1) := by decide +kernel
theorem dX11_farOf_66 : decode cX11_farOf 66 = .ok (.iload 5, 2) := by decide +kernel
theorem dX11_farOf_68 : decode cX11_farOf 68 = .ok (.iload 6, 2) := by decide +kernel
theorem dX11_farOf_70 : decode cX11_farOf 70 = .ok (.iadd, 1) := by decide +kernel
theorem dX11_farOf_71 : decode cX11_farOf 71 = .ok (.imul, 1) := by decide +kernel
theorem dX11_farOf_72 : decode cX11_farOf 72 = .ok (.iastore, 1) := by decide +kernel
theorem dX11_farOf_73 : decode cX11_farOf 73 = .ok (.goto 89, 3) := by decide +kernel
theorem dX11_farOf_76 : decode cX11_farOf 76 = .ok (.aload_n 0, 1) := by decide +kernel
theorem dX11_farOf_77 : decode cX11_farOf 77 = .ok (.getfield 76, 3) := by decide +kernel
theorem dX11_farOf_80 : decode cX11_farOf 80 = .ok (.iload 7, 2) := by decide +kernel
theorem dX11_farOf_82 : decode cX11_farOf 82 = .ok (.bipush 22, 2) := by decide +kernel
theorem dX11_farOf_84 : decode cX11_farOf 84 = .ok (.isub, 1) := by decide +kernel
theorem dX11_farOf_85 : decode cX11_farOf 85 = .ok (.iaload, 1) := by decide +kernel
theorem dX11_farOf_86 : decode cX11_farOf 86 = .ok (.aload_n 0, 1) := by decide +kernel
theorem dX11_farOf_87 : decode cX11_farOf 87 = .ok (.aload_n 0, 1) := by decide +kernel
theorem dX11_farOf_88 : decode cX11_farOf 88 = .ok (.getfield 67, 3) := by decide +kernel
theorem dX11_farOf_91 : decode cX11_farOf 91 = .ok (.bipush 20, 2) := by decide +kernel
theorem dX11_farOf_93 : decode cX11_farOf 93 = .ok (.iload_n 1, 1) := by decide +kernel
theorem dX11_farOf_94 : decode cX11_farOf 94 = .ok (.imul, 1) := by decide +kernel
theorem dX11_farOf_95 : decode cX11_farOf 95 = .ok (.iload 5, 2) := by decide +kernel
theorem dX11_farOf_97 : decode cX11_farOf 97 = .ok (.iadd, 1) := by decide +kernel
theorem dX11_farOf_98 : decode cX11_farOf 98 = .ok (.iconst 1, 1) := by decide +kernel
theorem dX11_farOf_99 : decode cX11_farOf 99 = .ok (.isub, 1) := by decide +kernel
theorem dX11_farOf_100 : decode cX11_farOf 100 = .ok (.iaload, 1) := by decide +kernel
theorem dX11_farOf_101 : decode cX11_farOf 101 = .ok (.aload_n 0, 1) := by decide +kernel
theorem dX11_farOf_102 : decode cX11_farOf 102 = .ok (.getfield 67, 3) := by decide +kernel
theorem dX11_farOf_105 : decode cX11_farOf 105 = .ok (.bipush 20, 2) := by decide +kernel
theorem dX11_farOf_107 : decode cX11_farOf 107 = .ok (.iload_n 2, 1) := by decide +kernel
theorem dX11_farOf_108 : decode cX11_farOf 108 = .ok (.imul, 1) := by decide +kernel
theorem dX11_farOf_109 : decode cX11_farOf 109 = .ok (.iload 6, 2) := by decide +kernel
theorem dX11_farOf_111 : decode cX11_farOf 111 = .ok (.iadd, 1) := by decide +kernel
theorem dX11_farOf_112 : decode cX11_farOf 112 = .ok (.iconst 1, 1) := by decide +kernel
theorem dX11_farOf_113 : decode cX11_farOf 113 = .ok (.isub, 1) := by decide +kernel
theorem dX11_farOf_114 : decode cX11_farOf 114 = .ok (.iaload, 1) := by decide +kernel
theorem dX11_farOf_115 : decode cX11_farOf 115 = .ok (.invokevirtual 267, 3) := by decide +kernel
theorem dX11_farOf_118 : decode cX11_farOf 118 = .ok (.iadd, 1) := by decide +kernel
theorem dX11_farOf_119 : decode cX11_farOf 119 = .ok (.istore 8, 2) := by decide +kernel
theorem dX11_farOf_121 : decode cX11_farOf 121 = .ok (.aload_n 0, 1) := by decide +kernel
theorem dX11_farOf_122 : decode cX11_farOf 122 = .ok (.getfield 76, 3) := by decide +kernel
theorem dX11_farOf_125 : decode cX11_farOf 125 = .ok (.iload 7, 2) := by decide +kernel
theorem dX11_farOf_127 : decode cX11_farOf 127 = .ok (.iload 8, 2) := by decide +kernel
theorem dX11_farOf_129 : decode cX11_farOf 129 = .ok (.aload_n 0, 1) := by decide +kernel
theorem dX11_farOf_130 : decode cX11_farOf 130 = .ok (.getfield 28, 3) := by decide +kernel
theorem dX11_farOf_133 : decode cX11_farOf 133 = .ok (.iconst 0, 1) := by decide +kernel
theorem dX11_farOf_134 : decode cX11_farOf 134 = .ok (.iaload, 1) := by decide +kernel
theorem dX11_farOf_135 : decode cX11_farOf 135 = .ok (.aload_n 0, 1) := by decide +kernel
theorem dX11_farOf_136 : decode cX11_farOf 136 = .ok (.getfield 76, 3) := by decide +kernel
theorem dX11_farOf_139 : decode cX11_farOf 139 = .ok (.iload 7, 2) := by decide +kernel
theorem dX11_farOf_141 : decode cX11_farOf 141 = .ok (.bipush 21, 2) := by decide +kernel
theorem dX11_farOf_143 : decode cX11_farOf 143 = .ok (.isub, 1) := by decide +kernel
theorem dX11_farOf_144 : decode cX11_farOf 144 = .ok (.iaload, 1) := by decide +kernel
theorem dX11_farOf_145 : decode cX11_farOf 145 = .ok (.aload_n 0, 1) := by decide +kernel
theorem dX11_farOf_146 : decode cX11_farOf 146 = .ok (.getfield 76, 3) := by decide +kernel
theorem dX11_farOf_149 : decode cX11_farOf 149 = .ok (.iload 7, 2) := by decide +kernel
theorem dX11_farOf_151 : decode cX11_farOf 151 = .ok (.iconst 1, 1) := by decide +kernel
theorem dX11_farOf_152 : decode cX11_farOf 152 = .ok (.isub, 1) := by decide +kernel
theorem dX11_farOf_153 : decode cX11_farOf 153 = .ok (.iaload, 1) := by decide +kernel
theorem dX11_farOf_154 : decode cX11_farOf 154 = .ok (.invokestatic 270, 3) := by decide +kernel
theorem dX11_farOf_157 : decode cX11_farOf 157 = .ok (.iadd, 1) := by decide +kernel
theorem dX11_farOf_158 : decode cX11_farOf 158 = .ok (.invokestatic 270, 3) := by decide +kernel
theorem dX11_farOf_161 : decode cX11_farOf 161 = .ok (.iastore, 1) := by decide +kernel
theorem dX11_farOf_162 : decode cX11_farOf 162 = .ok (.iinc 6 1, 3) := by decide +kernel
theorem dX11_farOf_165 : decode cX11_farOf 165 = .ok (.goto (-138), 3) := by decide +kernel
theorem dX11_farOf_168 : decode cX11_farOf 168 = .ok (.iinc 5 1, 3) := by decide +kernel
theorem dX11_farOf_171 : decode cX11_farOf 171 = .ok (.goto (-153), 3) := by decide +kernel
theorem dX11_farOf_174 : decode cX11_farOf 174 = .ok (.aload_n 0, 1) := by decide +kernel
theorem dX11_farOf_175 : decode cX11_farOf 175 = .ok (.getfield 76, 3) := by decide +kernel
theorem dX11_farOf_178 : decode cX11_farOf 178 = .ok (.bipush 21, 2) := by decide +kernel
theorem dX11_farOf_180 : decode cX11_farOf 180 = .ok (.iload_n 3, 1) := by decide +kernel
theorem dX11_farOf_181 : decode cX11_farOf 181 = .ok (.imul, 1) := by decide +kernel
theorem dX11_farOf_182 : decode cX11_farOf 182 = .ok (.iload 4, 2) := by decide +kernel
theorem dX11_farOf_184 : decode cX11_farOf 184 = .ok (.iadd, 1) := by decide +kernel
theorem dX11_farOf_185 : decode cX11_farOf 185 = .ok (.iaload, 1) := by decide +kernel
theorem dX11_farOf_186 : decode cX11_farOf 186 = .ok (.ireturn, 1) := by decide +kernel
theorem dX11_layNames_0 : decode cX11_layNames 0 = .ok (.iconst 0, 1) := by decide +kernel
theorem dX11_layNames_1 : decode cX11_layNames 1 = .ok (.istore_n 1, 1) := by decide +kernel
theorem dX11_layNames_2 : decode cX11_layNames 2 = .ok (.iload_n 1, 1) := by decide +kernel
theorem dX11_layNames_3 : decode cX11_layNames 3 = .ok (.aload_n 0, 1) := by decide +kernel
theorem dX11_layNames_4 : decode cX11_layNames 4 = .ok (.getfield 152, 3) := by decide +kernel
theorem dX11_layNames_7 : decode cX11_layNames 7 = .ok (.if_icmp .ge 21, 3) := by decide +kernel
theorem dX11_layNames_10 : decode cX11_layNames 10 = .ok (.aload_n 0, 1) := by decide +kernel
theorem dX11_layNames_11 : decode cX11_layNames 11 = .ok (.iload_n 1, 1) := by decide +kernel
theorem dX11_layNames_12 : decode cX11_layNames 12 = .ok (.invokevirtual 273, 3) := by decide +kernel
theorem dX11_layNames_15 : decode cX11_layNames 15 = .ok (.aload_n 0, 1) := by decide +kernel
theorem dX11_layNames_16 : decode cX11_layNames 16 = .ok (.getfield 73, 3) := by decide +kernel
theorem dX11_layNames_19 : decode cX11_layNames 19 = .ok (.iload_n 1, 1) := by decide +kernel
theorem dX11_layNames_20 : decode cX11_layNames 20 = .ok (.iload_n 1, 1) := by decide +kernel
theorem dX11_layNames_21 : decode cX11_layNames 21 = .ok (.iastore, 1) := by decide +kernel
theorem dX11_layNames_22 : decode cX11_layNames 22 = .ok (.iinc 1 1, 3) := by decide +kernel
theorem dX11_layNames_25 : decode cX11_layNames 25 = .ok (.goto (-23), 3) := by decide +kernel
theorem dX11_layNames_28 : decode cX11_layNames 28 = .ok (.iconst 0, 1) := by decide +kernel
theorem dX11_layNames_29 : decode cX11_layNames 29 = .ok (.istore_n 1, 1) := by decide +kernel
theorem dX11_layNames_30 : decode cX11_layNames 30 = .ok (.iload_n 1, 1) := by decide +kernel
theorem dX11_layNames_31 : decode cX11_layNames 31 = .ok (.aload_n 0, 1) := by decide +kernel
theorem dX11_layNames_32 : decode cX11_layNames 32 = .ok (.getfield 152, 3) := by decide +kernel
theorem dX11_layNames_35 : decode cX11_layNames 35 = .ok (.if_icmp .ge 51, 3) := by decide +kernel
theorem dX11_layNames_38 : decode cX11_layNames 38 = .ok (.iconst 0, 1) := by decide +kernel
theorem dX11_layNames_39 : decode cX11_layNames 39 = .ok (.istore_n 2, 1) := by decide +kernel
theorem dX11_layNames_40 : decode cX11_layNames 40 = .ok (.iload_n 2, 1) := by decide +kernel
theorem dX11_layNames_41 : decode cX11_layNames 41 = .ok (.aload_n 0, 1) := by decide +kernel
theorem dX11_layNames_42 : decode cX11_layNames 42 = .ok (.getfield 152, 3) := by decide +kernel
theorem dX11_layNames_45 : decode cX11_layNames 45 = .ok (.if_icmp .ge 35, 3) := by decide +kernel
theorem dX11_layNames_48 : decode cX11_layNames 48 = .ok (.aload_n 0, 1) := by decide +kernel
theorem dX11_layNames_49 : decode cX11_layNames 49 = .ok (.getfield 70, 3) := by decide +kernel
theorem dX11_layNames_52 : decode cX11_layNames 52 = .ok (.bipush 16, 2) := by decide +kernel
theorem dX11_layNames_54 : decode cX11_layNames 54 = .ok (.iload_n 1, 1) := by decide +kernel
theorem dX11_layNames_55 : decode cX11_layNames 55 = .ok (.imul, 1) := by decide +kernel
theorem dX11_layNames_56 : decode cX11_layNames 56 = .ok (.iload_n 2, 1) := by decide +kernel
theorem dX11_layNames_57 : decode cX11_layNames 57 = .ok (.iadd, 1) := by decide +kernel
theorem dX11_layNames_58 : decode cX11_layNames 58 = .ok (.iload_n 1, 1) := by decide +kernel
theorem dX11_layNames_59 : decode cX11_layNames 59 = .ok (.iload_n 2, 1) := by decide +kernel
theorem dX11_layNames_60 : decode cX11_layNames 60 = .ok (.if_icmp .ne 7, 3) := by decide +kernel
theorem dX11_layNames_63 : decode cX11_layNames 63 = .ok (.iconst 0, 1) := by decide +kernel
theorem dX11_layNames_64 : decode cX11_layNames 64 = .ok (.goto 9, 3) := by decide +kernel
theorem dX11_layNames_67 : decode cX11_layNames 67 = .ok (.aload_n 0, 1) := by decide +kernel
theorem dX11_layNames_68 : decode cX11_layNames 68 = .ok (.iload_n 1, 1) := by decide +kernel
theorem dX11_layNames_69 : decode cX11_layNames 69 = .ok (.iload_n 2, 1) := by decide +kernel
theorem dX11_layNames_70 : decode cX11_layNames 70 = .ok (.invokevirtual 276, 3) := by decide +kernel
theorem dX11_layNames_73 : decode cX11_layNames 73 = .ok (.iastore, 1) := by decide +kernel
theorem dX11_layNames_74 : decode cX11_layNames 74 = .ok (.iinc 2 1, 3) := by decide +kernel
theorem dX11_layNames_77 : decode cX11_layNames 77 = .ok (.goto (-37), 3) := by decide +kernel
theorem dX11_layNames_80 : decode cX11_layNames 80 = .ok (.iinc 1 1, 3) := by decide +kernel
theorem dX11_layNames_83 : decode cX11_layNames 83 = .ok (.goto (-53), 3) := by decide +kernel
theorem dX11_layNames_86 : decode cX11_layNames 86 = .ok (.iconst 1, 1) := by decide +kernel
theorem dX11_layNames_87 : decode cX11_layNames 87 = .ok (.istore_n 1, 1) := by decide +kernel
theorem dX11_layNames_88 : decode cX11_layNames 88 = .ok (.iload_n 1, 1) := by decide +kernel
