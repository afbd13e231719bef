theorem dX11_bearers_129 : decode cX11_bearers 129 = .ok (.getfield 73, 3) := by decide +kernel
theorem dX11_bearers_132 : decode cX11_bearers 132 = .ok (.iload_n 1, 1) := by decide +kernel
theorem dX11_bearers_133 : decode cX11_bearers 133 = .ok (.iaload, 1) := by decide +kernel
theorem dX11_bearers_134 : decode cX11_bearers 134 = .ok (.if_icmp .ne 7, 3) := by decide +kernel
theorem dX11_bearers_137 : decode cX11_bearers 137 = .ok (.iconst 1, 1) := by decide +kernel
theorem dX11_bearers_138 : decode cX11_bearers 138 = .ok (.goto 4, 3) := by decide +kernel
theorem dX11_bearers_141 : decode cX11_bearers 141 = .ok (.iconst 0, 1) := by decide +kernel
theorem dX11_bearers_142 : decode cX11_bearers 142 = .ok (.istore 9, 2) := by decide +kernel
theorem dX11_bearers_144 : decode cX11_bearers 144 = .ok (.iload 6, 2) := by decide +kernel
theorem dX11_bearers_146 : decode cX11_bearers 146 = .ok (.iload 9, 2) := by decide +kernel
theorem dX11_bearers_148 : decode cX11_bearers 148 = .ok (.ifCond .eq 16, 3) := by decide +kernel
theorem dX11_bearers_151 : decode cX11_bearers 151 = .ok (.aload_n 0, 1) := by decide +kernel
theorem dX11_bearers_152 : decode cX11_bearers 152 = .ok (.getfield 113, 3) := by decide +kernel
theorem dX11_bearers_155 : decode cX11_bearers 155 = .ok (.iload 8, 2) := by decide +kernel
theorem dX11_bearers_157 : decode cX11_bearers 157 = .ok (.iaload, 1) := by decide +kernel
theorem dX11_bearers_158 : decode cX11_bearers 158 = .ok (.invokestatic 352, 3) := by decide +kernel
theorem dX11_bearers_161 : decode cX11_bearers 161 = .ok (.goto 4, 3) := by decide +kernel
theorem dX11_bearers_164 : decode cX11_bearers 164 = .ok (.iconst 0, 1) := by decide +kernel
theorem dX11_bearers_165 : decode cX11_bearers 165 = .ok (.iadd, 1) := by decide +kernel
theorem dX11_bearers_166 : decode cX11_bearers 166 = .ok (.istore 6, 2) := by decide +kernel
theorem dX11_bearers_168 : decode cX11_bearers 168 = .ok (.iinc 8 1, 3) := by decide +kernel
theorem dX11_bearers_171 : decode cX11_bearers 171 = .ok (.goto (-99), 3) := by decide +kernel
theorem dX11_bearers_174 : decode cX11_bearers 174 = .ok (.iconst 0, 1) := by decide +kernel
theorem dX11_bearers_175 : decode cX11_bearers 175 = .ok (.istore 8, 2) := by decide +kernel
theorem dX11_bearers_177 : decode cX11_bearers 177 = .ok (.iload 8, 2) := by decide +kernel
theorem dX11_bearers_179 : decode cX11_bearers 179 = .ok (.aload_n 0, 1) := by decide +kernel
theorem dX11_bearers_180 : decode cX11_bearers 180 = .ok (.getfield 305, 3) := by decide +kernel
theorem dX11_bearers_183 : decode cX11_bearers 183 = .ok (.if_icmp .ge 82, 3) := by decide +kernel
theorem dX11_bearers_186 : decode cX11_bearers 186 = .ok (.aload_n 0, 1) := by decide +kernel
theorem dX11_bearers_187 : decode cX11_bearers 187 = .ok (.getfield 97, 3) := by decide +kernel
theorem dX11_bearers_190 : decode cX11_bearers 190 = .ok (.iload 8, 2) := by decide +kernel
theorem dX11_bearers_192 : decode cX11_bearers 192 = .ok (.iaload, 1) := by decide +kernel
theorem dX11_bearers_193 : decode cX11_bearers 193 = .ok (.istore 9, 2) := by decide +kernel
theorem dX11_bearers_195 : decode cX11_bearers 195 = .ok (.iload 9, 2) := by decide +kernel
theorem dX11_bearers_197 : decode cX11_bearers 197 = .ok (.aload_n 0, 1) := by decide +kernel
theorem dX11_bearers_198 : decode cX11_bearers 198 = .ok (.getfield 100, 3) := by decide +kernel
theorem dX11_bearers_201 : decode cX11_bearers 201 = .ok (.iload 8, 2) := by decide +kernel
theorem dX11_bearers_203 : decode cX11_bearers 203 = .ok (.iaload, 1) := by decide +kernel
theorem dX11_bearers_204 : decode cX11_bearers 204 = .ok (.if_icmp .gt 55, 3) := by decide +kernel
theorem dX11_bearers_207 : decode cX11_bearers 207 = .ok (.iload 7, 2) := by decide +kernel
theorem dX11_bearers_209 : decode cX11_bearers 209 = .ok (.aload_n 0, 1) := by decide +kernel
theorem dX11_bearers_210 : decode cX11_bearers 210 = .ok (.getfield 94, 3) := by decide +kernel
theorem dX11_bearers_213 : decode cX11_bearers 213 = .ok (.iload 8, 2) := by decide +kernel
theorem dX11_bearers_215 : decode cX11_bearers 215 = .ok (.iaload, 1) := by decide +kernel
theorem dX11_bearers_216 : decode cX11_bearers 216 = .ok (.iload_n 2, 1) := by decide +kernel
theorem dX11_bearers_217 : decode cX11_bearers 217 = .ok (.if_icmp .ne 32, 3) := by decide +kernel
theorem dX11_bearers_220 : decode cX11_bearers 220 = .ok (.iload 9, 2) := by decide +kernel
theorem dX11_bearers_222 : decode cX11_bearers 222 = .ok (.i2l, 1) := by decide +kernel
theorem dX11_bearers_223 : decode cX11_bearers 223 = .ok (.iload_n 3, 1) := by decide +kernel
theorem dX11_bearers_224 : decode cX11_bearers 224 = .ok (.i2l, 1) := by decide +kernel
theorem dX11_bearers_225 : decode cX11_bearers 225 = .ok (.iload 4, 2) := by decide +kernel
theorem dX11_bearers_227 : decode cX11_bearers 227 = .ok (.i2l, 1) := by decide +kernel
theorem dX11_bearers_228 : decode cX11_bearers 228 = .ok (.invokestatic 156, 3) := by decide +kernel
theorem dX11_bearers_231 : decode cX11_bearers 231 = .ok (.ifCond .eq 18, 3) := by decide +kernel
theorem dX11_bearers_234 : decode cX11_bearers 234 = .ok (.aload_n 0, 1) := by decide +kernel
theorem dX11_bearers_235 : decode cX11_bearers 235 = .ok (.iload 8, 2) := by decide +kernel
theorem dX11_bearers_237 : decode cX11_bearers 237 = .ok (.iload 9, 2) := by decide +kernel
theorem dX11_bearers_239 : decode cX11_bearers 239 = .ok (.invokevirtual 326, 3) := by decide +kernel
theorem dX11_bearers_242 : decode cX11_bearers 242 = .ok (.ifCond .ne 7, 3) := by decide +kernel
theorem dX11_bearers_245 : decode cX11_bearers 245 = .ok (.iconst 1, 1) := by decide +kernel
theorem dX11_bearers_246 : decode cX11_bearers 246 = .ok (.goto 4, 3) := by decide +kernel
theorem dX11_bearers_249 : decode cX11_bearers 249 = .ok (.iconst 0, 1) := by decide +kernel
theorem dX11_bearers_250 : decode cX11_bearers 250 = .ok (.iadd, 1) := by decide +kernel
theorem dX11_bearers_251 : decode cX11_bearers 251 = .ok (.istore 7, 2) := by decide +kernel
theorem dX11_bearers_253 : decode cX11_bearers 253 = .ok (.iinc 9 1, 3) := by decide +kernel
theorem dX11_bearers_256 : decode cX11_bearers 256 = .ok (.goto (-61), 3) := by decide +kernel
theorem dX11_bearers_259 : decode cX11_bearers 259 = .ok (.iinc 8 1, 3) := by decide +kernel
theorem dX11_bearers_262 : decode cX11_bearers 262 = .ok (.goto (-85), 3) := by decide +kernel
theorem dX11_bearers_265 : decode cX11_bearers 265 = .ok (.iload 4, 2) := by decide +kernel
theorem dX11_bearers_267 : decode cX11_bearers 267 = .ok (.iload_n 3, 1) := by decide +kernel
theorem dX11_bearers_268 : decode cX11_bearers 268 = .ok (.isub, 1) := by decide +kernel
theorem dX11_bearers_269 : decode cX11_bearers 269 = .ok (.iconst 1, 1) := by decide +kernel
theorem dX11_bearers_270 : decode cX11_bearers 270 = .ok (.iadd, 1) := by decide +kernel
theorem dX11_bearers_271 : decode cX11_bearers 271 = .ok (.iload 7, 2) := by decide +kernel
theorem dX11_bearers_273 : decode cX11_bearers 273 = .ok (.if_icmp .le 12, 3) := by decide +kernel
theorem dX11_bearers_276 : decode cX11_bearers 276 = .ok (.iload 4, 2) := by decide +kernel
theorem dX11_bearers_278 : decode cX11_bearers 278 = .ok (.iload_n 3, 1) := by decide +kernel
theorem dX11_bearers_279 : decode cX11_bearers 279 = .ok (.isub, 1) := by decide +kernel
theorem dX11_bearers_280 : decode cX11_bearers 280 = .ok (.iconst 1, 1) := by decide +kernel
theorem dX11_bearers_281 : decode cX11_bearers 281 = .ok (.iadd, 1) := by decide +kernel
theorem dX11_bearers_282 : decode cX11_bearers 282 = .ok (.goto 5, 3) := by decide +kernel
theorem dX11_bearers_285 : decode cX11_bearers 285 = .ok (.iload 7, 2) := by decide +kernel
theorem dX11_bearers_287 : decode cX11_bearers 287 = .ok (.istore 8, 2) := by decide +kernel
theorem dX11_bearers_289 : decode cX11_bearers 289 = .ok (.iload 5, 2) := by decide +kernel
theorem dX11_bearers_291 : decode cX11_bearers 291 = .ok (.ifCond .ne 8, 3) := by decide +kernel
theorem dX11_bearers_294 : decode cX11_bearers 294 = .ok (.iload 6, 2) := by decide +kernel
theorem dX11_bearers_296 : decode cX11_bearers 296 = .ok (.iconst 2, 1) := by decide +kernel
theorem dX11_bearers_297 : decode cX11_bearers 297 = .ok (.idiv, 1) := by decide +kernel
theorem dX11_bearers_298 : decode cX11_bearers 298 = .ok (.ireturn, 1) := by decide +kernel
theorem dX11_bearers_299 : decode cX11_bearers 299 = .ok (.iload 5, 2) := by decide +kernel
theorem dX11_bearers_301 : decode cX11_bearers 301 = .ok (.iconst 2, 1) := by decide +kernel
theorem dX11_bearers_302 : decode cX11_bearers 302 = .ok (.if_icmp .ne 6, 3) := by decide +kernel
theorem dX11_bearers_305 : decode cX11_bearers 305 = .ok (.iload 7, 2) := by decide +kernel
theorem dX11_bearers_307 : decode cX11_bearers 307 = .ok (.ireturn, 1) := by decide +kernel
theorem dX11_bearers_308 : decode cX11_bearers 308 = .ok (.iload 7, 2) := by decide +kernel
theorem dX11_bearers_310 : decode cX11_bearers 310 = .ok (.ifCond .ne 8, 3) := by decide +kernel
theorem dX11_bearers_313 : decode cX11_bearers 313 = .ok (.bipush (-4), 2) := by decide +kernel
theorem dX11_bearers_315 : decode cX11_bearers 315 = .ok (.goto 20, 3) := by decide +kernel
theorem dX11_bearers_318 : decode cX11_bearers 318 = .ok (.iload 6, 2) := by decide +kernel
theorem dX11_bearers_320 : decode cX11_bearers 320 = .ok (.iload 8, 2) := by decide +kernel
theorem dX11_bearers_322 : decode cX11_bearers 322 = .ok (.imul, 1) := by decide +kernel
theorem dX11_bearers_323 : decode cX11_bearers 323 = .ok (.iconst 2, 1) := by decide +kernel
theorem dX11_bearers_324 : decode cX11_bearers 324 = .ok (.iload 7, 2) := by decide +kernel
theorem dX11_bearers_326 : decode cX11_bearers 326 = .ok (.imul, 1) := by decide +kernel
theorem dX11_bearers_327 : decode cX11_bearers 327 = .ok (.iadd, 1) := by decide +kernel
theorem dX11_bearers_328 : decode cX11_bearers 328 = .ok (.iconst 1, 1) := by decide +kernel
theorem dX11_bearers_329 : decode cX11_bearers 329 = .ok (.isub, 1) := by decide +kernel
theorem dX11_bearers_330 : decode cX11_bearers 330 = .ok (.iconst 2, 1) := by decide +kernel
theorem dX11_bearers_331 : decode cX11_bearers 331 = .ok (.iload 7, 2) := by decide +kernel
theorem dX11_bearers_333 : decode cX11_bearers 333 = .ok (.imul, 1) := by decide +kernel
theorem dX11_bearers_334 : decode cX11_bearers 334 = .ok (.idiv, 1) := by decide +kernel
theorem dX11_bearers_335 : decode cX11_bearers 335 = .ok (.ireturn, 1) := by decide +kernel
theorem dX11_layFirsts_0 : decode cX11_layFirsts 0 = .ok (.iconst 0, 1) := by decide +kernel
theorem dX11_layFirsts_1 : decode cX11_layFirsts 1 = .ok (.istore_n 2, 1) := by decide +kernel
theorem dX11_layFirsts_2 : decode cX11_layFirsts 2 = .ok (.iload_n 2, 1) := by decide +kernel
theorem dX11_layFirsts_3 : decode cX11_layFirsts 3 = .ok (.bipush 8, 2) := by decide +kernel
theorem dX11_layFirsts_5 : decode cX11_layFirsts 5 = .ok (.if_icmp .ge 17, 3) := by decide +kernel
theorem dX11_layFirsts_8 : decode cX11_layFirsts 8 = .ok (.aload_n 0, 1) := by decide +kernel
theorem dX11_layFirsts_9 : decode cX11_layFirsts 9 = .ok (.getfield 140, 3) := by decide +kernel
theorem dX11_layFirsts_12 : decode cX11_layFirsts 12 = .ok (.iload_n 2, 1) := by decide +kernel
theorem dX11_layFirsts_13 : decode cX11_layFirsts 13 = .ok (.bipush (-4), 2) := by decide +kernel
theorem dX11_layFirsts_15 : decode cX11_layFirsts 15 = .ok (.iastore, 1) := by decide +kernel
theorem dX11_layFirsts_16 : decode cX11_layFirsts 16 = .ok (.iinc 2 1, 3) := by decide +kernel
theorem dX11_layFirsts_19 : decode cX11_layFirsts 19 = .ok (.goto (-17), 3) := by decide +kernel
theorem dX11_layFirsts_22 : decode cX11_layFirsts 22 = .ok (.iconst 0, 1) := by decide +kernel
theorem dX11_layFirsts_23 : decode cX11_layFirsts 23 = .ok (.istore_n 2, 1) := by decide +kernel
theorem dX11_layFirsts_24 : decode cX11_layFirsts 24 = .ok (.iload_n 2, 1) := by decide +kernel
theorem dX11_layFirsts_25 : decode cX11_layFirsts 25 = .ok (.aload_n 0, 1) := by decide +kernel
theorem dX11_layFirsts_26 : decode cX11_layFirsts 26 = .ok (.getfield 308, 3) := by decide +kernel
theorem dX11_layFirsts_29 : decode cX11_layFirsts 29 = .ok (.if_icmp .ge 98, 3) := by decide +kernel
theorem dX11_layFirsts_32 : decode cX11_layFirsts 32 = .ok (.aload_n 0, 1) := by decide +kernel
theorem dX11_layFirsts_33 : decode cX11_layFirsts 33 = .ok (.getfield 94, 3) := by decide +kernel
theorem dX11_layFirsts_36 : decode cX11_layFirsts 36 = .ok (.aload_n 0, 1) := by decide +kernel
theorem dX11_layFirsts_37 : decode cX11_layFirsts 37 = .ok (.getfield 107, 3) := by decide +kernel
theorem dX11_layFirsts_40 : decode cX11_layFirsts 40 = .ok (.iload_n 2, 1) := by decide +kernel
theorem dX11_layFirsts_41 : decode cX11_layFirsts 41 = .ok (.iaload, 1) := by decide +kernel
theorem dX11_layFirsts_42 : decode cX11_layFirsts 42 = .ok (.iaload, 1) := by decide +kernel
theorem dX11_layFirsts_43 : decode cX11_layFirsts 43 = .ok (.istore_n 3, 1) := by decide +kernel
theorem dX11_layFirsts_44 : decode cX11_layFirsts 44 = .ok (.aload_n 0, 1) := by decide +kernel
theorem dX11_layFirsts_45 : decode cX11_layFirsts 45 = .ok (.getfield 113, 3) := by decide +kernel
theorem dX11_layFirsts_48 : decode cX11_layFirsts 48 = .ok (.iload_n 2, 1) := by decide +kernel
theorem dX11_layFirsts_49 : decode cX11_layFirsts 49 = .ok (.iaload, 1) := by decide +kernel
theorem dX11_layFirsts_50 : decode cX11_layFirsts 50 = .ok (.iconst 3, 1) := by decide +kernel
theorem dX11_layFirsts_51 : decode cX11_layFirsts 51 = .ok (.if_icmp .eq 70, 3) := by decide +kernel
theorem dX11_layFirsts_54 : decode cX11_layFirsts 54 = .ok (.aload_n 0, 1) := by decide +kernel
theorem dX11_layFirsts_55 : decode cX11_layFirsts 55 = .ok (.getfield 73, 3) := by decide +kernel
theorem dX11_layFirsts_58 : decode cX11_layFirsts 58 = .ok (.aload_n 0, 1) := by decide +kernel
theorem dX11_layFirsts_59 : decode cX11_layFirsts 59 = .ok (.getfield 119, 3) := by decide +kernel
theorem dX11_layFirsts_62 : decode cX11_layFirsts 62 = .ok (.iload_n 2, 1) := by decide +kernel
theorem dX11_layFirsts_63 : decode cX11_layFirsts 63 = .ok (.iaload, 1) := by decide +kernel
theorem dX11_layFirsts_64 : decode cX11_layFirsts 64 = .ok (.iaload, 1) := by decide +kernel
theorem dX11_layFirsts_65 : decode cX11_layFirsts 65 = .ok (.aload_n 0, 1) := by decide +kernel
theorem dX11_layFirsts_66 : decode cX11_layFirsts 66 = .ok (.getfield 73, 3) := by decide +kernel
theorem dX11_layFirsts_69 : decode cX11_layFirsts 69 = .ok (.iload_n 1, 1) := by decide +kernel
theorem dX11_layFirsts_70 : decode cX11_layFirsts 70 = .ok (.iaload, 1) := by decide +kernel
theorem dX11_layFirsts_71 : decode cX11_layFirsts 71 = .ok (.if_icmp .ne 50, 3) := by decide +kernel
theorem dX11_layFirsts_74 : decode cX11_layFirsts 74 = .ok (.aload_n 0, 1) := by decide +kernel
theorem dX11_layFirsts_75 : decode cX11_layFirsts 75 = .ok (.getfield 140, 3) := by decide +kernel
theorem dX11_layFirsts_78 : decode cX11_layFirsts 78 = .ok (.iload_n 3, 1) := by decide +kernel
theorem dX11_layFirsts_79 : decode cX11_layFirsts 79 = .ok (.aload_n 0, 1) := by decide +kernel
theorem dX11_layFirsts_80 : decode cX11_layFirsts 80 = .ok (.getfield 140, 3) := by decide +kernel
theorem dX11_layFirsts_83 : decode cX11_layFirsts 83 = .ok (.iload_n 3, 1) := by decide +kernel
theorem dX11_layFirsts_84 : decode cX11_layFirsts 84 = .ok (.iaload, 1) := by decide +kernel
theorem dX11_layFirsts_85 : decode cX11_layFirsts 85 = .ok (.bipush (-4), 2) := by decide +kernel
theorem dX11_layFirsts_87 : decode cX11_layFirsts 87 = .ok (.if_icmp .eq 18, 3) := by decide +kernel
theorem dX11_layFirsts_90 : decode cX11_layFirsts 90 = .ok (.aload_n 0, 1) := by decide +kernel
theorem dX11_layFirsts_91 : decode cX11_layFirsts 91 = .ok (.getfield 110, 3) := by decide +kernel
theorem dX11_layFirsts_94 : decode cX11_layFirsts 94 = .ok (.iload_n 2, 1) := by decide +kernel
theorem dX11_layFirsts_95 : decode cX11_layFirsts 95 = .ok (.iaload, 1) := by decide +kernel
theorem dX11_layFirsts_96 : decode cX11_layFirsts 96 = .ok (.aload_n 0, 1) := by decide +kernel
theorem dX11_layFirsts_97 : decode cX11_layFirsts 97 = .ok (.getfield 140, 3) := by decide +kernel
theorem dX11_layFirsts_100 : decode cX11_layFirsts 100 = .ok (.iload_n 3, 1) := by decide +kernel
theorem dX11_layFirsts_101 : decode cX11_layFirsts 101 = .ok (.iaload, 1) := by decide +kernel
theorem dX11_layFirsts_102 : decode cX11_layFirsts 102 = .ok (.if_icmp .ge 12, 3) := by decide +kernel
theorem dX11_layFirsts_105 : decode cX11_layFirsts 105 = .ok (.aload_n 0, 1) := by decide +kernel
theorem dX11_layFirsts_106 : decode cX11_layFirsts 106 = .ok (.getfield 110, 3) := by decide +kernel
theorem dX11_layFirsts_109 : decode cX11_layFirsts 109 = .ok (.iload_n 2, 1) := by decide +kernel
theorem dX11_layFirsts_110 : decode cX11_layFirsts 110 = .ok (.iaload, 1) := by decide +kernel
theorem dX11_layFirsts_111 : decode cX11_layFirsts 111 = .ok (.goto 9, 3) := by decide +kernel
theorem dX11_layFirsts_114 : decode cX11_layFirsts 114 = .ok (.aload_n 0, 1) := by decide +kernel
theorem dX11_layFirsts_115 : decode cX11_layFirsts 115 = .ok (.getfield 140, 3) := by decide +kernel
theorem dX11_layFirsts_118 : decode cX11_layFirsts 118 = .ok (.iload_n 3, 1) := by decide +kernel
theorem dX11_layFirsts_119 : decode cX11_layFirsts 119 = .ok (.iaload, 1) := by decide +kernel
theorem dX11_layFirsts_120 : decode cX11_layFirsts 120 = .ok (.iastore, 1) := by decide +kernel
theorem dX11_layFirsts_121 : decode cX11_layFirsts 121 = .ok (.iinc 2 1, 3) := by decide +kernel
theorem dX11_layFirsts_124 : decode cX11_layFirsts 124 = .ok (.goto (-100), 3) := by decide +kernel
theorem dX11_layFirsts_127 : decode cX11_layFirsts 127 = .ok (.return_, 1) := by decide +kernel
theorem dX11_first_0 : decode cX11_first 0 = .ok (.aload_n 0, 1) := by decide +kernel
theorem dX11_first_1 : decode cX11_first 1 = .ok (.iload_n 1, 1) := by decide +kernel
theorem dX11_first_2 : decode cX11_first 2 = .ok (.invokevirtual 166, 3) := by decide +kernel
theorem dX11_first_5 : decode cX11_first 5 = .ok (.ifCond .eq 11, 3) := by decide +kernel
theorem dX11_first_8 : decode cX11_first 8 = .ok (.aload_n 0, 1) := by decide +kernel
theorem dX11_first_9 : decode cX11_first 9 = .ok (.iload_n 2, 1) := by decide +kernel
theorem dX11_first_10 : decode cX11_first 10 = .ok (.invokevirtual 313, 3) := by decide +kernel
theorem dX11_first_13 : decode cX11_first 13 = .ok (.ifCond .ne 5, 3) := by decide +kernel
theorem dX11_first_16 : decode cX11_first 16 = .ok (.iconst (-1), 1) := by decide +kernel
theorem dX11_first_17 : decode cX11_first 17 = .ok (.ireturn, 1) := by decide +kernel
theorem dX11_first_18 : decode cX11_first 18 = .ok (.aload_n 0, 1) := by decide +kernel
theorem dX11_first_19 : decode cX11_first 19 = .ok (.invokevirtual 279, 3) := by decide +kernel
theorem dX11_first_22 : decode cX11_first 22 = .ok (.aload_n 0, 1) := by decide +kernel
theorem dX11_first_23 : decode cX11_first 23 = .ok (.iload_n 1, 1) := by decide +kernel
theorem dX11_first_24 : decode cX11_first 24 = .ok (.invokevirtual 355, 3) := by decide +kernel
theorem dX11_first_27 : decode cX11_first 27 = .ok (.aload_n 0, 1) := by decide +kernel
theorem dX11_first_28 : decode cX11_first 28 = .ok (.getfield 140, 3) := by decide +kernel
theorem dX11_first_31 : decode cX11_first 31 = .ok (.iload_n 2, 1) := by decide +kernel
theorem dX11_first_32 : decode cX11_first 32 = .ok (.iaload, 1) := by decide +kernel
theorem dX11_first_33 : decode cX11_first 33 = .ok (.ireturn, 1) := by decide +kernel
theorem dX11_lets_0 : decode cX11_lets 0 = .ok (.aload_n 0, 1) := by decide +kernel
theorem dX11_lets_1 : decode cX11_lets 1 = .ok (.getfield 88, 3) := by decide +kernel
theorem dX11_lets_4 : decode cX11_lets 4 = .ok (.iload_n 1, 1) := by decide +kernel
theorem dX11_lets_5 : decode cX11_lets 5 = .ok (.iaload, 1) := by decide +kernel
theorem dX11_lets_6 : decode cX11_lets 6 = .ok (.aload_n 0, 1) := by decide +kernel
theorem dX11_lets_7 : decode cX11_lets 7 = .ok (.getfield 88, 3) := by decide +kernel
theorem dX11_lets_10 : decode cX11_lets 10 = .ok (.iload_n 2, 1) := by decide +kernel
theorem dX11_lets_11 : decode cX11_lets 11 = .ok (.iaload, 1) := by decide +kernel
theorem dX11_lets_12 : decode cX11_lets 12 = .ok (.isub, 1) := by decide +kernel
theorem dX11_lets_13 : decode cX11_lets 13 = .ok (.istore 4, 2) := by decide +kernel
theorem dX11_lets_15 : decode cX11_lets 15 = .ok (.aload_n 0, 1) := by decide +kernel
theorem dX11_lets_16 : decode cX11_lets 16 = .ok (.getfield 91, 3) := by decide +kernel
theorem dX11_lets_19 : decode cX11_lets 19 = .ok (.iload_n 1, 1) := by decide +kernel
theorem dX11_lets_20 : decode cX11_lets 20 = .ok (.iaload, 1) := by decide +kernel
theorem dX11_lets_21 : decode cX11_lets 21 = .ok (.aload_n 0, 1) := by decide +kernel
theorem dX11_lets_22 : decode cX11_lets 22 = .ok (.getfield 91, 3) := by decide +kernel
theorem dX11_lets_25 : decode cX11_lets 25 = .ok (.iload_n 2, 1) := by decide +kernel
theorem dX11_lets_26 : decode cX11_lets 26 = .ok (.iaload, 1) := by decide +kernel
theorem dX11_lets_27 : decode cX11_lets 27 = .ok (.isub, 1) := by decide +kernel
theorem dX11_lets_28 : decode cX11_lets 28 = .ok (.istore 5, 2) := by decide +kernel
theorem dX11_lets_30 : decode cX11_lets 30 = .ok (.iload 4, 2) := by decide +kernel
theorem dX11_lets_32 : decode cX11_lets 32 = .ok (.ifCond .ge 9, 3) := by decide +kernel
theorem dX11_lets_35 : decode cX11_lets 35 = .ok (.iload 4, 2) := by decide +kernel
theorem dX11_lets_37 : decode cX11_lets 37 = .ok (.ineg, 1) := by decide +kernel
theorem dX11_lets_38 : decode cX11_lets 38 = .ok (.goto 5, 3) := by decide +kernel
theorem dX11_lets_41 : decode cX11_lets 41 = .ok (.iload 4, 2) := by decide +kernel
theorem dX11_lets_43 : decode cX11_lets 43 = .ok (.iload 5, 2) := by decide +kernel
theorem dX11_lets_45 : decode cX11_lets 45 = .ok (.ifCond .ge 9, 3) := by decide +kernel
theorem dX11_lets_48 : decode cX11_lets 48 = .ok (.iload 5, 2) := by decide +kernel
theorem dX11_lets_50 : decode cX11_lets 50 = .ok (.ineg, 1) := by decide +kernel
theorem dX11_lets_51 : decode cX11_lets 51 = .ok (.goto 5, 3) := by decide +kernel
theorem dX11_lets_54 : decode cX11_lets 54 = .ok (.iload 5, 2) := by decide +kernel
theorem dX11_lets_56 : decode cX11_lets 56 = .ok (.iadd, 1) := by decide +kernel
theorem dX11_lets_57 : decode cX11_lets 57 = .ok (.istore 6, 2) := by decide +kernel
theorem dX11_lets_59 : decode cX11_lets 59 = .ok (.aload_n 0, 1) := by decide +kernel
theorem dX11_lets_60 : decode cX11_lets 60 = .ok (.getfield 140, 3) := by decide +kernel
theorem dX11_lets_63 : decode cX11_lets 63 = .ok (.iload_n 1, 1) := by decide +kernel
theorem dX11_lets_64 : decode cX11_lets 64 = .ok (.iaload, 1) := by decide +kernel
theorem dX11_lets_65 : decode cX11_lets 65 = .ok (.bipush 10, 2) := by decide +kernel
theorem dX11_lets_67 : decode cX11_lets 67 = .ok (.iload 6, 2) := by decide +kernel
theorem dX11_lets_69 : decode cX11_lets 69 = .ok (.imul, 1) := by decide +kernel
theorem dX11_lets_70 : decode cX11_lets 70 = .ok (.iload_n 3, 1) := by decide +kernel
theorem dX11_lets_71 : decode cX11_lets 71 = .ok (.iadd, 1) := by decide +kernel
theorem dX11_lets_72 : decode cX11_lets 72 = .ok (.iconst 1, 1) := by decide +kernel
theorem dX11_lets_73 : decode cX11_lets 73 = .ok (.isub, 1) := by decide +kernel
theorem dX11_lets_74 : decode cX11_lets 74 = .ok (.iload_n 3, 1) := by decide +kernel
theorem dX11_lets_75 : decode cX11_lets 75 = .ok (.idiv, 1) := by decide +kernel
theorem dX11_lets_76 : decode cX11_lets 76 = .ok (.iadd, 1) := by decide +kernel
theorem dX11_lets_77 : decode cX11_lets 77 = .ok (.aload_n 0, 1) := by decide +kernel
theorem dX11_lets_78 : decode cX11_lets 78 = .ok (.getfield 140, 3) := by decide +kernel
theorem dX11_lets_81 : decode cX11_lets 81 = .ok (.iload_n 2, 1) := by decide +kernel
theorem dX11_lets_82 : decode cX11_lets 82 = .ok (.iaload, 1) := by decide +kernel
theorem dX11_lets_83 : decode cX11_lets 83 = .ok (.if_icmp .gt 7, 3) := by decide +kernel
theorem dX11_lets_86 : decode cX11_lets 86 = .ok (.iconst 1, 1) := by decide +kernel
theorem dX11_lets_87 : decode cX11_lets 87 = .ok (.goto 4, 3) := by decide +kernel
theorem dX11_lets_90 : decode cX11_lets 90 = .ok (.iconst 0, 1) := by decide +kernel
theorem dX11_lets_91 : decode cX11_lets 91 = .ok (.ireturn, 1) := by decide +kernel
theorem dX11_withFirst_0 : decode cX11_withFirst 0 = .ok (.iconst 0, 1) := by decide +kernel
theorem dX11_withFirst_1 : decode cX11_withFirst 1 = .ok (.istore_n 1, 1) := by decide +kernel
theorem dX11_withFirst_2 : decode cX11_withFirst 2 = .ok (.iconst 0, 1) := by decide +kernel
theorem dX11_withFirst_3 : decode cX11_withFirst 3 = .ok (.istore_n 2, 1) := by decide +kernel
theorem dX11_withFirst_4 : decode cX11_withFirst 4 = .ok (.iload_n 2, 1) := by decide +kernel
theorem dX11_withFirst_5 : decode cX11_withFirst 5 = .ok (.aload_n 0, 1) := by decide +kernel
theorem dX11_withFirst_6 : decode cX11_withFirst 6 = .ok (.getfield 302, 3) := by decide +kernel
theorem dX11_withFirst_9 : decode cX11_withFirst 9 = .ok (.if_icmp .ge 30, 3) := by decide +kernel
theorem dX11_withFirst_12 : decode cX11_withFirst 12 = .ok (.iload_n 1, 1) := by decide +kernel
theorem dX11_withFirst_13 : decode cX11_withFirst 13 = .ok (.aload_n 0, 1) := by decide +kernel
theorem dX11_withFirst_14 : decode cX11_withFirst 14 = .ok (.getfield 140, 3) := by decide +kernel
theorem dX11_withFirst_17 : decode cX11_withFirst 17 = .ok (.iload_n 2, 1) := by decide +kernel
theorem dX11_withFirst_18 : decode cX11_withFirst 18 = .ok (.iaload, 1) := by decide +kernel
theorem dX11_withFirst_19 : decode cX11_withFirst 19 = .ok (.bipush (-4), 2) := by decide +kernel
theorem dX11_withFirst_21 : decode cX11_withFirst 21 = .ok (.if_icmp .ne 7, 3) := by decide +kernel
theorem dX11_withFirst_24 : decode cX11_withFirst 24 = .ok (.iconst 0, 1) := by decide +kernel
theorem dX11_withFirst_25 : decode cX11_withFirst 25 = .ok (.goto 6, 3) := by decide +kernel
theorem dX11_withFirst_28 : decode cX11_withFirst 28 = .ok (.iconst 1, 1) := by decide +kernel
theorem dX11_withFirst_29 : decode cX11_withFirst 29 = .ok (.iload_n 2, 1) := by decide +kernel
theorem dX11_withFirst_30 : decode cX11_withFirst 30 = .ok (.ishl, 1) := by decide +kernel
theorem dX11_withFirst_31 : decode cX11_withFirst 31 = .ok (.ior, 1) := by decide +kernel
theorem dX11_withFirst_32 : decode cX11_withFirst 32 = .ok (.istore_n 1, 1) := by decide +kernel
theorem dX11_withFirst_33 : decode cX11_withFirst 33 = .ok (.iinc 2 1, 3) := by decide +kernel
theorem dX11_withFirst_36 : decode cX11_withFirst 36 = .ok (.goto (-32), 3) := by decide +kernel
theorem dX11_withFirst_39 : decode cX11_withFirst 39 = .ok (.iload_n 1, 1) := by decide +kernel
theorem dX11_withFirst_40 : decode cX11_withFirst 40 = .ok (.ireturn, 1) := by decide +kernel
theorem dX11_doLet_0 : decode cX11_doLet 0 = .ok (.iconst 1, 1) := by decide +kernel
theorem dX11_doLet_1 : decode cX11_doLet 1 = .ok (.istore_n 3, 1) := by decide +kernel
theorem dX11_doLet_2 : decode cX11_doLet 2 = .ok (.iconst 0, 1) := by decide +kernel
theorem dX11_doLet_3 : decode cX11_doLet 3 = .ok (.istore 4, 2) := by decide +kernel
theorem dX11_doLet_5 : decode cX11_doLet 5 = .ok (.iload 4, 2) := by decide +kernel
theorem dX11_doLet_7 : decode cX11_doLet 7 = .ok (.aload_n 0, 1) := by decide +kernel
theorem dX11_doLet_8 : decode cX11_doLet 8 = .ok (.getfield 302, 3) := by decide +kernel
theorem dX11_doLet_11 : decode cX11_doLet 11 = .ok (.if_icmp .ge 105, 3) := by decide +kernel
theorem dX11_doLet_14 : decode cX11_doLet 14 = .ok (.aload_n 0, 1) := by decide +kernel
theorem dX11_doLet_15 : decode cX11_doLet 15 = .ok (.getfield 140, 3) := by decide +kernel
theorem dX11_doLet_18 : decode cX11_doLet 18 = .ok (.iload 4, 2) := by decide +kernel
theorem dX11_doLet_20 : decode cX11_doLet 20 = .ok (.iaload, 1) := by decide +kernel
theorem dX11_doLet_21 : decode cX11_doLet 21 = .ok (.bipush (-4), 2) := by decide +kernel
theorem dX11_doLet_23 : decode cX11_doLet 23 = .ok (.if_icmp .eq 13, 3) := by decide +kernel
theorem dX11_doLet_26 : decode cX11_doLet 26 = .ok (.iload_n 1, 1) := by decide +kernel
theorem dX11_doLet_27 : decode cX11_doLet 27 = .ok (.iload 4, 2) := by decide +kernel
theorem dX11_doLet_29 : decode cX11_doLet 29 = .ok (.ishr, 1) := by decide +kernel
theorem dX11_doLet_30 : decode cX11_doLet 30 = .ok (.iconst 1, 1) := by decide +kernel
theorem dX11_doLet_31 : decode cX11_doLet 31 = .ok (.iand, 1) := by decide +kernel
theorem dX11_doLet_32 : decode cX11_doLet 32 = .ok (.iconst 1, 1) := by decide +kernel
theorem dX11_doLet_33 : decode cX11_doLet 33 = .ok (.if_icmp .ne 7, 3) := by decide +kernel
theorem dX11_doLet_36 : decode cX11_doLet 36 = .ok (.iconst 1, 1) := by decide +kernel
theorem dX11_doLet_37 : decode cX11_doLet 37 = .ok (.goto 4, 3) := by decide +kernel
theorem dX11_doLet_40 : decode cX11_doLet 40 = .ok (.iconst 0, 1) := by decide +kernel
theorem dX11_doLet_41 : decode cX11_doLet 41 = .ok (.istore 5, 2) := by decide +kernel
theorem dX11_doLet_43 : decode cX11_doLet 43 = .ok (.iconst 0, 1) := by decide +kernel
theorem dX11_doLet_44 : decode cX11_doLet 44 = .ok (.istore 6, 2) := by decide +kernel
theorem dX11_doLet_46 : decode cX11_doLet 46 = .ok (.iload 6, 2) := by decide +kernel
theorem dX11_doLet_48 : decode cX11_doLet 48 = .ok (.aload_n 0, 1) := by decide +kernel
theorem dX11_doLet_49 : decode cX11_doLet 49 = .ok (.getfield 302, 3) := by decide +kernel
theorem dX11_doLet_52 : decode cX11_doLet 52 = .ok (.if_icmp .ge 43, 3) := by decide +kernel
theorem dX11_doLet_55 : decode cX11_doLet 55 = .ok (.iload 5, 2) := by decide +kernel
theorem dX11_doLet_57 : decode cX11_doLet 57 = .ok (.ifCond .ne 38, 3) := by decide +kernel
theorem dX11_doLet_60 : decode cX11_doLet 60 = .ok (.iload_n 1, 1) := by decide +kernel
theorem dX11_doLet_61 : decode cX11_doLet 61 = .ok (.iload 6, 2) := by decide +kernel
theorem dX11_doLet_63 : decode cX11_doLet 63 = .ok (.ishr, 1) := by decide +kernel
theorem dX11_doLet_64 : decode cX11_doLet 64 = .ok (.iconst 1, 1) := by decide +kernel
theorem dX11_doLet_65 : decode cX11_doLet 65 = .ok (.iand, 1) := by decide +kernel
theorem dX11_doLet_66 : decode cX11_doLet 66 = .ok (.iconst 1, 1) := by decide +kernel
theorem dX11_doLet_67 : decode cX11_doLet 67 = .ok (.if_icmp .ne 19, 3) := by decide +kernel
theorem dX11_doLet_70 : decode cX11_doLet 70 = .ok (.aload_n 0, 1) := by decide +kernel
theorem dX11_doLet_71 : decode cX11_doLet 71 = .ok (.iload 6, 2) := by decide +kernel
theorem dX11_doLet_73 : decode cX11_doLet 73 = .ok (.iload 4, 2) := by decide +kernel
theorem dX11_doLet_75 : decode cX11_doLet 75 = .ok (.iload_n 2, 1) := by decide +kernel
theorem dX11_doLet_76 : decode cX11_doLet 76 = .ok (.invokevirtual 358, 3) := by decide +kernel
theorem dX11_doLet_79 : decode cX11_doLet 79 = .ok (.ifCond .eq 7, 3) := by decide +kernel
theorem dX11_doLet_82 : decode cX11_doLet 82 = .ok (.iconst 1, 1) := by decide +kernel
theorem dX11_doLet_83 : decode cX11_doLet 83 = .ok (.goto 4, 3) := by decide +kernel
theorem dX11_doLet_86 : decode cX11_doLet 86 = .ok (.iconst 0, 1) := by decide +kernel
theorem dX11_doLet_87 : decode cX11_doLet 87 = .ok (.istore 5, 2) := by decide +kernel
theorem dX11_doLet_89 : decode cX11_doLet 89 = .ok (.iinc 6 1, 3) := by decide +kernel
theorem dX11_doLet_92 : decode cX11_doLet 92 = .ok (.goto (-46), 3) := by decide +kernel
theorem dX11_doLet_95 : decode cX11_doLet 95 = .ok (.iload_n 3, 1) := by decide +kernel
theorem dX11_doLet_96 : decode cX11_doLet 96 = .ok (.ifCond .eq 12, 3) := by decide +kernel
theorem dX11_doLet_99 : decode cX11_doLet 99 = .ok (.iload 5, 2) := by decide +kernel
theorem dX11_doLet_101 : decode cX11_doLet 101 = .ok (.ifCond .eq 7, 3) := by decide +kernel
theorem dX11_doLet_104 : decode cX11_doLet 104 = .ok (.iconst 1, 1) := by decide +kernel
theorem dX11_doLet_105 : decode cX11_doLet 105 = .ok (.goto 4, 3) := by decide +kernel
theorem dX11_doLet_108 : decode cX11_doLet 108 = .ok (.iconst 0, 1) := by decide +kernel
theorem dX11_doLet_109 : decode cX11_doLet 109 = .ok (.istore_n 3, 1) := by decide +kernel
theorem dX11_doLet_110 : decode cX11_doLet 110 = .ok (.iinc 4 1, 3) := by decide +kernel
theorem dX11_doLet_113 : decode cX11_doLet 113 = .ok (.goto (-108), 3) := by decide +kernel
theorem dX11_doLet_116 : decode cX11_doLet 116 = .ok (.iload_n 3, 1) := by decide +kernel
theorem dX11_doLet_117 : decode cX11_doLet 117 = .ok (.ireturn, 1) := by decide +kernel
theorem dX11_starts_0 : decode cX11_starts 0 = .ok (.aload_n 0, 1) := by decide +kernel
theorem dX11_starts_1 : decode cX11_starts 1 = .ok (.iload_n 1, 1) := by decide +kernel
theorem dX11_starts_2 : decode cX11_starts 2 = .ok (.invokevirtual 166, 3) := by decide +kernel
theorem dX11_starts_5 : decode cX11_starts 5 = .ok (.ifCond .eq 15, 3) := by decide +kernel
theorem dX11_starts_8 : decode cX11_starts 8 = .ok (.iload_n 2, 1) := by decide +kernel
theorem dX11_starts_9 : decode cX11_starts 9 = .ok (.i2l, 1) := by decide +kernel
theorem dX11_starts_10 : decode cX11_starts 10 = .ok (.lconst 0, 1) := by decide +kernel
theorem dX11_starts_11 : decode cX11_starts 11 = .ok (.ldc2_w 362, 3) := by decide +kernel
theorem dX11_starts_14 : decode cX11_starts 14 = .ok (.invokestatic 156, 3) := by decide +kernel
theorem dX11_starts_17 : decode cX11_starts 17 = .ok (.ifCond .ne 5, 3) := by decide +kernel
theorem dX11_starts_20 : decode cX11_starts 20 = .ok (.iconst (-1), 1) := by decide +kernel
theorem dX11_starts_21 : decode cX11_starts 21 = .ok (.ireturn, 1) := by decide +kernel
theorem dX11_starts_22 : decode cX11_starts 22 = .ok (.aload_n 0, 1) := by decide +kernel
theorem dX11_starts_23 : decode cX11_starts 23 = .ok (.invokevirtual 279, 3) := by decide +kernel
theorem dX11_starts_26 : decode cX11_starts 26 = .ok (.aload_n 0, 1) := by decide +kernel
theorem dX11_starts_27 : decode cX11_starts 27 = .ok (.iload_n 1, 1) := by decide +kernel
theorem dX11_starts_28 : decode cX11_starts 28 = .ok (.invokevirtual 355, 3) := by decide +kernel
theorem dX11_starts_31 : decode cX11_starts 31 = .ok (.aload_n 0, 1) := by decide +kernel
theorem dX11_starts_32 : decode cX11_starts 32 = .ok (.invokevirtual 364, 3) := by decide +kernel
theorem dX11_starts_35 : decode cX11_starts 35 = .ok (.istore_n 3, 1) := by decide +kernel
theorem dX11_starts_36 : decode cX11_starts 36 = .ok (.iload_n 3, 1) := by decide +kernel
theorem dX11_starts_37 : decode cX11_starts 37 = .ok (.istore 4, 2) := by decide +kernel
theorem dX11_starts_39 : decode cX11_starts 39 = .ok (.iload_n 3, 1) := by decide +kernel
theorem dX11_starts_40 : decode cX11_starts 40 = .ok (.istore 5, 2) := by decide +kernel
theorem dX11_starts_42 : decode cX11_starts 42 = .ok (.iconst 0, 1) := by decide +kernel
theorem dX11_starts_43 : decode cX11_starts 43 = .ok (.istore 6, 2) := by decide +kernel
theorem dX11_starts_45 : decode cX11_starts 45 = .ok (.iload 6, 2) := by decide +kernel
theorem dX11_starts_47 : decode cX11_starts 47 = .ok (.iload_n 3, 1) := by decide +kernel
theorem dX11_starts_48 : decode cX11_starts 48 = .ok (.invokestatic 296, 3) := by decide +kernel
theorem dX11_starts_51 : decode cX11_starts 51 = .ok (.if_icmp .gt 110, 3) := by decide +kernel
theorem dX11_starts_54 : decode cX11_starts 54 = .ok (.iconst 0, 1) := by decide +kernel
theorem dX11_starts_55 : decode cX11_starts 55 = .ok (.istore 7, 2) := by decide +kernel
theorem dX11_starts_57 : decode cX11_starts 57 = .ok (.iload_n 3, 1) := by decide +kernel
theorem dX11_starts_58 : decode cX11_starts 58 = .ok (.istore 8, 2) := by decide +kernel
theorem dX11_starts_60 : decode cX11_starts 60 = .ok (.iload 8, 2) := by decide +kernel
theorem dX11_starts_62 : decode cX11_starts 62 = .ok (.ifCond .lt 57, 3) := by decide +kernel
theorem dX11_starts_65 : decode cX11_starts 65 = .ok (.iload 8, 2) := by decide +kernel
theorem dX11_starts_67 : decode cX11_starts 67 = .ok (.iload_n 3, 1) := by decide +kernel
theorem dX11_starts_68 : decode cX11_starts 68 = .ok (.iconst (-1), 1) := by decide +kernel
theorem dX11_starts_69 : decode cX11_starts 69 = .ok (.ixor, 1) := by decide +kernel
theorem dX11_starts_70 : decode cX11_starts 70 = .ok (.iand, 1) := by decide +kernel
theorem dX11_starts_71 : decode cX11_starts 71 = .ok (.ifCond .ne 42, 3) := by decide +kernel
theorem dX11_starts_74 : decode cX11_starts 74 = .ok (.iload 8, 2) := by decide +kernel
theorem dX11_starts_76 : decode cX11_starts 76 = .ok (.invokestatic 296, 3) := by decide +kernel
theorem dX11_starts_79 : decode cX11_starts 79 = .ok (.iload 6, 2) := by decide +kernel
theorem dX11_starts_81 : decode cX11_starts 81 = .ok (.if_icmp .ne 32, 3) := by decide +kernel
theorem dX11_starts_84 : decode cX11_starts 84 = .ok (.aload_n 0, 1) := by decide +kernel
theorem dX11_starts_85 : decode cX11_starts 85 = .ok (.iload 8, 2) := by decide +kernel
theorem dX11_starts_87 : decode cX11_starts 87 = .ok (.aload_n 0, 1) := by decide +kernel
theorem dX11_starts_88 : decode cX11_starts 88 = .ok (.getfield 28, 3) := by decide +kernel
theorem dX11_starts_91 : decode cX11_starts 91 = .ok (.iconst 3, 1) := by decide +kernel
theorem dX11_starts_92 : decode cX11_starts 92 = .ok (.iaload, 1) := by decide +kernel
theorem dX11_starts_93 : decode cX11_starts 93 = .ok (.invokevirtual 367, 3) := by decide +kernel
theorem dX11_starts_96 : decode cX11_starts 96 = .ok (.ifCond .eq 17, 3) := by decide +kernel
theorem dX11_starts_99 : decode cX11_starts 99 = .ok (.iload 8, 2) := by decide +kernel
theorem dX11_starts_101 : decode cX11_starts 101 = .ok (.istore 4, 2) := by decide +kernel
theorem dX11_starts_103 : decode cX11_starts 103 = .ok (.iload 5, 2) := by decide +kernel
theorem dX11_starts_105 : decode cX11_starts 105 = .ok (.iload 8, 2) := by decide +kernel
theorem dX11_starts_107 : decode cX11_starts 107 = .ok (.iand, 1) := by decide +kernel
theorem dX11_starts_108 : decode cX11_starts 108 = .ok (.istore 5, 2) := by decide +kernel
theorem dX11_starts_110 : decode cX11_starts 110 = .ok (.iinc 7 1, 3) := by decide +kernel
theorem dX11_starts_113 : decode cX11_starts 113 = .ok (.iinc 8 (-1), 3) := by decide +kernel
theorem dX11_starts_116 : decode cX11_starts 116 = .ok (.goto (-56), 3) := by decide +kernel
theorem dX11_starts_119 : decode cX11_starts 119 = .ok (.iload 7, 2) := by decide +kernel
theorem dX11_starts_121 : decode cX11_starts 121 = .ok (.ifCond .le 34, 3) := by decide +kernel
theorem dX11_starts_124 : decode cX11_starts 124 = .ok (.iload_n 2, 1) := by decide +kernel
theorem dX11_starts_125 : decode cX11_starts 125 = .ok (.ifCond .ne 8, 3) := by decide +kernel
theorem dX11_starts_128 : decode cX11_starts 128 = .ok (.iload 6, 2) := by decide +kernel
theorem dX11_starts_130 : decode cX11_starts 130 = .ok (.goto 24, 3) := by decide +kernel
theorem dX11_starts_133 : decode cX11_starts 133 = .ok (.iload_n 2, 1) := by decide +kernel
theorem dX11_starts_134 : decode cX11_starts 134 = .ok (.iconst 1, 1) := by decide +kernel
theorem dX11_starts_135 : decode cX11_starts 135 = .ok (.if_icmp .ne 8, 3) := by decide +kernel
theorem dX11_starts_138 : decode cX11_starts 138 = .ok (.iload 4, 2) := by decide +kernel
theorem dX11_starts_140 : decode cX11_starts 140 = .ok (.goto 14, 3) := by decide +kernel
theorem dX11_starts_143 : decode cX11_starts 143 = .ok (.iload_n 2, 1) := by decide +kernel
theorem dX11_starts_144 : decode cX11_starts 144 = .ok (.iconst 2, 1) := by decide +kernel
theorem dX11_starts_145 : decode cX11_starts 145 = .ok (.if_icmp .ne 7, 3) := by decide +kernel
theorem dX11_starts_148 : decode cX11_starts 148 = .ok (.iload_n 3, 1) := by decide +kernel
theorem dX11_starts_149 : decode cX11_starts 149 = .ok (.goto 5, 3) := by decide +kernel
theorem dX11_starts_152 : decode cX11_starts 152 = .ok (.iload 5, 2) := by decide +kernel
theorem dX11_starts_154 : decode cX11_starts 154 = .ok (.ireturn, 1) := by decide +kernel
theorem dX11_starts_155 : decode cX11_starts 155 = .ok (.iinc 6 1, 3) := by decide +kernel
theorem dX11_starts_158 : decode cX11_starts 158 = .ok (.goto (-113), 3) := by decide +kernel
theorem dX11_starts_161 : decode cX11_starts 161 = .ok (.iconst (-1), 1) := by decide +kernel
theorem dX11_starts_162 : decode cX11_starts 162 = .ok (.ireturn, 1) := by decide +kernel
theorem dX11_judge_0 : decode cX11_judge 0 = .ok (.aload_n 0, 1) := by decide +kernel
theorem dX11_judge_1 : decode cX11_judge 1 = .ok (.iload_n 1, 1) := by decide +kernel
theorem dX11_judge_2 : decode cX11_judge 2 = .ok (.invokevirtual 166, 3) := by decide +kernel
theorem dX11_judge_5 : decode cX11_judge 5 = .ok (.ifCond .eq 21, 3) := by decide +kernel
theorem dX11_judge_8 : decode cX11_judge 8 = .ok (.iload_n 2, 1) := by decide +kernel
theorem dX11_judge_9 : decode cX11_judge 9 = .ok (.i2l, 1) := by decide +kernel
theorem dX11_judge_10 : decode cX11_judge 10 = .ok (.lconst 0, 1) := by decide +kernel
theorem dX11_judge_11 : decode cX11_judge 11 = .ok (.iconst 1, 1) := by decide +kernel
theorem dX11_judge_12 : decode cX11_judge 12 = .ok (.aload_n 0, 1) := by decide +kernel
theorem dX11_judge_13 : decode cX11_judge 13 = .ok (.getfield 302, 3) := by decide +kernel
theorem dX11_judge_16 : decode cX11_judge 16 = .ok (.ishl, 1) := by decide +kernel
theorem dX11_judge_17 : decode cX11_judge 17 = .ok (.iconst 1, 1) := by decide +kernel
theorem dX11_judge_18 : decode cX11_judge 18 = .ok (.isub, 1) := by decide +kernel
theorem dX11_judge_19 : decode cX11_judge 19 = .ok (.i2l, 1) := by decide +kernel
theorem dX11_judge_20 : decode cX11_judge 20 = .ok (.invokestatic 156, 3) := by decide +kernel
theorem dX11_judge_23 : decode cX11_judge 23 = .ok (.ifCond .ne 5, 3) := by decide +kernel
theorem dX11_judge_26 : decode cX11_judge 26 = .ok (.iconst (-1), 1) := by decide +kernel
theorem dX11_judge_27 : decode cX11_judge 27 = .ok (.ireturn, 1) := by decide +kernel
theorem dX11_judge_28 : decode cX11_judge 28 = .ok (.aload_n 0, 1) := by decide +kernel
theorem dX11_judge_29 : decode cX11_judge 29 = .ok (.invokevirtual 279, 3) := by decide +kernel
theorem dX11_judge_32 : decode cX11_judge 32 = .ok (.aload_n 0, 1) := by decide +kernel
theorem dX11_judge_33 : decode cX11_judge 33 = .ok (.iload_n 1, 1) := by decide +kernel
theorem dX11_judge_34 : decode cX11_judge 34 = .ok (.invokevirtual 355, 3) := by decide +kernel
theorem dX11_judge_37 : decode cX11_judge 37 = .ok (.iload_n 2, 1) := by decide +kernel
theorem dX11_judge_38 : decode cX11_judge 38 = .ok (.aload_n 0, 1) := by decide +kernel
theorem dX11_judge_39 : decode cX11_judge 39 = .ok (.invokevirtual 364, 3) := by decide +kernel
theorem dX11_judge_42 : decode cX11_judge 42 = .ok (.iconst (-1), 1) := by decide +kernel
theorem dX11_judge_43 : decode cX11_judge 43 = .ok (.ixor, 1) := by decide +kernel
theorem dX11_judge_44 : decode cX11_judge 44 = .ok (.iand, 1) := by decide +kernel
theorem dX11_judge_45 : decode cX11_judge 45 = .ok (.ifCond .eq 6, 3) := by decide +kernel
theorem dX11_judge_48 : decode cX11_judge 48 = .ok (.bipush (-2), 2) := by decide +kernel
theorem dX11_judge_50 : decode cX11_judge 50 = .ok (.ireturn, 1) := by decide +kernel
theorem dX11_judge_51 : decode cX11_judge 51 = .ok (.aload_n 0, 1) := by decide +kernel
theorem dX11_judge_52 : decode cX11_judge 52 = .ok (.iload_n 2, 1) := by decide +kernel
theorem dX11_judge_53 : decode cX11_judge 53 = .ok (.aload_n 0, 1) := by decide +kernel
theorem dX11_judge_54 : decode cX11_judge 54 = .ok (.getfield 28, 3) := by decide +kernel
theorem dX11_judge_57 : decode cX11_judge 57 = .ok (.iconst 3, 1) := by decide +kernel
theorem dX11_judge_58 : decode cX11_judge 58 = .ok (.iaload, 1) := by decide +kernel
theorem dX11_judge_59 : decode cX11_judge 59 = .ok (.invokevirtual 367, 3) := by decide +kernel
theorem dX11_judge_62 : decode cX11_judge 62 = .ok (.ifCond .eq 7, 3) := by decide +kernel
theorem dX11_judge_65 : decode cX11_judge 65 = .ok (.iconst 1, 1) := by decide +kernel
theorem dX11_judge_66 : decode cX11_judge 66 = .ok (.goto 4, 3) := by decide +kernel
theorem dX11_judge_69 : decode cX11_judge 69 = .ok (.iconst 0, 1) := by decide +kernel
theorem dX11_judge_70 : decode cX11_judge 70 = .ok (.ireturn, 1) := by decide +kernel
theorem dX11_pace_0 : decode cX11_pace 0 = .ok (.aload_n 0, 1) := by decide +kernel
theorem dX11_pace_1 : decode cX11_pace 1 = .ok (.iload_n 1, 1) := by decide +kernel
theorem dX11_pace_2 : decode cX11_pace 2 = .ok (.invokevirtual 166, 3) := by decide +kernel
theorem dX11_pace_5 : decode cX11_pace 5 = .ok (.ifCond .ne 5, 3) := by decide +kernel
theorem dX11_pace_8 : decode cX11_pace 8 = .ok (.iconst (-1), 1) := by decide +kernel
theorem dX11_pace_9 : decode cX11_pace 9 = .ok (.ireturn, 1) := by decide +kernel
theorem dX11_pace_10 : decode cX11_pace 10 = .ok (.aload_n 0, 1) := by decide +kernel
theorem dX11_pace_11 : decode cX11_pace 11 = .ok (.invokevirtual 279, 3) := by decide +kernel
theorem dX11_pace_14 : decode cX11_pace 14 = .ok (.aload_n 0, 1) := by decide +kernel
theorem dX11_pace_15 : decode cX11_pace 15 = .ok (.iload_n 1, 1) := by decide +kernel
theorem dX11_pace_16 : decode cX11_pace 16 = .ok (.invokevirtual 355, 3) := by decide +kernel
theorem dX11_pace_19 : decode cX11_pace 19 = .ok (.iconst 1, 1) := by decide +kernel
theorem dX11_pace_20 : decode cX11_pace 20 = .ok (.istore_n 2, 1) := by decide +kernel
theorem dX11_pace_21 : decode cX11_pace 21 = .ok (.iload_n 2, 1) := by decide +kernel
theorem dX11_pace_22 : decode cX11_pace 22 = .ok (.bipush 20, 2) := by decide +kernel
theorem dX11_pace_24 : decode cX11_pace 24 = .ok (.if_icmp .gt 49, 3) := by decide +kernel
theorem dX11_pace_27 : decode cX11_pace 27 = .ok (.iconst 0, 1) := by decide +kernel
theorem dX11_pace_28 : decode cX11_pace 28 = .ok (.istore_n 3, 1) := by decide +kernel
theorem dX11_pace_29 : decode cX11_pace 29 = .ok (.iload_n 3, 1) := by decide +kernel
theorem dX11_pace_30 : decode cX11_pace 30 = .ok (.aload_n 0, 1) := by decide +kernel
theorem dX11_pace_31 : decode cX11_pace 31 = .ok (.getfield 302, 3) := by decide +kernel
theorem dX11_pace_34 : decode cX11_pace 34 = .ok (.if_icmp .ge 33, 3) := by decide +kernel
theorem dX11_pace_37 : decode cX11_pace 37 = .ok (.aload_n 0, 1) := by decide +kernel
theorem dX11_pace_38 : decode cX11_pace 38 = .ok (.getfield 140, 3) := by decide +kernel
theorem dX11_pace_41 : decode cX11_pace 41 = .ok (.iload_n 3, 1) := by decide +kernel
theorem dX11_pace_42 : decode cX11_pace 42 = .ok (.iaload, 1) := by decide +kernel
theorem dX11_pace_43 : decode cX11_pace 43 = .ok (.bipush (-4), 2) := by decide +kernel
theorem dX11_pace_45 : decode cX11_pace 45 = .ok (.if_icmp .eq 16, 3) := by decide +kernel
theorem dX11_pace_48 : decode cX11_pace 48 = .ok (.aload_n 0, 1) := by decide +kernel
theorem dX11_pace_49 : decode cX11_pace 49 = .ok (.iconst 1, 1) := by decide +kernel
theorem dX11_pace_50 : decode cX11_pace 50 = .ok (.iload_n 3, 1) := by decide +kernel
theorem dX11_pace_51 : decode cX11_pace 51 = .ok (.ishl, 1) := by decide +kernel
theorem dX11_pace_52 : decode cX11_pace 52 = .ok (.iload_n 2, 1) := by decide +kernel
theorem dX11_pace_53 : decode cX11_pace 53 = .ok (.invokevirtual 367, 3) := by decide +kernel
theorem dX11_pace_56 : decode cX11_pace 56 = .ok (.ifCond .eq 5, 3) := by decide +kernel
theorem dX11_pace_59 : decode cX11_pace 59 = .ok (.iload_n 2, 1) := by decide +kernel
theorem dX11_pace_60 : decode cX11_pace 60 = .ok (.ireturn, 1) := by decide +kernel
theorem dX11_pace_61 : decode cX11_pace 61 = .ok (.iinc 3 1, 3) := by decide +kernel
theorem dX11_pace_64 : decode cX11_pace 64 = .ok (.goto (-35), 3) := by decide +kernel
theorem dX11_pace_67 : decode cX11_pace 67 = .ok (.iinc 2 1, 3) := by decide +kernel
theorem dX11_pace_70 : decode cX11_pace 70 = .ok (.goto (-49), 3) := by decide +kernel
theorem dX11_pace_73 : decode cX11_pace 73 = .ok (.bipush (-4), 2) := by decide +kernel
theorem dX11_pace_75 : decode cX11_pace 75 = .ok (.ireturn, 1) := by decide +kernel
theorem dX11_dies_0 : decode cX11_dies 0 = .ok (.iload_n 1, 1) := by decide +kernel
theorem dX11_dies_1 : decode cX11_dies 1 = .ok (.i2l, 1) := by decide +kernel
theorem dX11_dies_2 : decode cX11_dies 2 = .ok (.lconst 1, 1) := by decide +kernel
theorem dX11_dies_3 : decode cX11_dies 3 = .ok (.ldc2_w 362, 3) := by decide +kernel
theorem dX11_dies_6 : decode cX11_dies 6 = .ok (.invokestatic 156, 3) := by decide +kernel
theorem dX11_dies_9 : decode cX11_dies 9 = .ok (.ifCond .eq 13, 3) := by decide +kernel
theorem dX11_dies_12 : decode cX11_dies 12 = .ok (.iload_n 2, 1) := by decide +kernel
theorem dX11_dies_13 : decode cX11_dies 13 = .ok (.i2l, 1) := by decide +kernel
theorem dX11_dies_14 : decode cX11_dies 14 = .ok (.lconst 0, 1) := by decide +kernel
theorem dX11_dies_15 : decode cX11_dies 15 = .ok (.lconst 1, 1) := by decide +kernel
theorem dX11_dies_16 : decode cX11_dies 16 = .ok (.invokestatic 156, 3) := by decide +kernel
theorem dX11_dies_19 : decode cX11_dies 19 = .ok (.ifCond .ne 7, 3) := by decide +kernel
theorem dX11_dies_22 : decode cX11_dies 22 = .ok (.ldc2_w 170, 3) := by decide +kernel
theorem dX11_dies_25 : decode cX11_dies 25 = .ok (.lreturn, 1) := by decide +kernel
theorem dX11_dies_26 : decode cX11_dies 26 = .ok (.aload_n 0, 1) := by decide +kernel
theorem dX11_dies_27 : decode cX11_dies 27 = .ok (.getfield 28, 3) := by decide +kernel
theorem dX11_dies_30 : decode cX11_dies 30 = .ok (.iconst 4, 1) := by decide +kernel
theorem dX11_dies_31 : decode cX11_dies 31 = .ok (.iaload, 1) := by decide +kernel
theorem dX11_dies_32 : decode cX11_dies 32 = .ok (.aload_n 0, 1) := by decide +kernel
theorem dX11_dies_33 : decode cX11_dies 33 = .ok (.getfield 28, 3) := by decide +kernel
theorem dX11_dies_36 : decode cX11_dies 36 = .ok (.iconst 5, 1) := by decide +kernel
theorem dX11_dies_37 : decode cX11_dies 37 = .ok (.iaload, 1) := by decide +kernel
theorem dX11_dies_38 : decode cX11_dies 38 = .ok (.iadd, 1) := by decide +kernel
theorem dX11_dies_39 : decode cX11_dies 39 = .ok (.aload_n 0, 1) := by decide +kernel
theorem dX11_dies_40 : decode cX11_dies 40 = .ok (.getfield 28, 3) := by decide +kernel
theorem dX11_dies_43 : decode cX11_dies 43 = .ok (.bipush 6, 2) := by decide +kernel
theorem dX11_dies_45 : decode cX11_dies 45 = .ok (.iaload, 1) := by decide +kernel
theorem dX11_dies_46 : decode cX11_dies 46 = .ok (.iadd, 1) := by decide +kernel
theorem dX11_dies_47 : decode cX11_dies 47 = .ok (.aload_n 0, 1) := by decide +kernel
theorem dX11_dies_48 : decode cX11_dies 48 = .ok (.getfield 28, 3) := by decide +kernel
theorem dX11_dies_51 : decode cX11_dies 51 = .ok (.bipush 7, 2) := by decide +kernel
theorem dX11_dies_53 : decode cX11_dies 53 = .ok (.iaload, 1) := by decide +kernel
theorem dX11_dies_54 : decode cX11_dies 54 = .ok (.iadd, 1) := by decide +kernel
theorem dX11_dies_55 : decode cX11_dies 55 = .ok (.i2l, 1) := by decide +kernel
theorem dX11_dies_56 : decode cX11_dies 56 = .ok (.lstore_n 3, 1) := by decide +kernel
theorem dX11_dies_57 : decode cX11_dies 57 = .ok (.aload_n 0, 1) := by decide +kernel
theorem dX11_dies_58 : decode cX11_dies 58 = .ok (.getfield 28, 3) := by decide +kernel
theorem dX11_dies_61 : decode cX11_dies 61 = .ok (.iconst 4, 1) := by decide +kernel
theorem dX11_dies_62 : decode cX11_dies 62 = .ok (.iaload, 1) := by decide +kernel
theorem dX11_dies_63 : decode cX11_dies 63 = .ok (.i2l, 1) := by decide +kernel
theorem dX11_dies_64 : decode cX11_dies 64 = .ok (.lstore 5, 2) := by decide +kernel
theorem dX11_dies_66 : decode cX11_dies 66 = .ok (.lload_n 3, 1) := by decide +kernel
theorem dX11_dies_67 : decode cX11_dies 67 = .ok (.lstore 7, 2) := by decide +kernel
theorem dX11_dies_69 : decode cX11_dies 69 = .ok (.iconst 1, 1) := by decide +kernel
theorem dX11_dies_70 : decode cX11_dies 70 = .ok (.istore 9, 2) := by decide +kernel
theorem dX11_dies_72 : decode cX11_dies 72 = .ok (.iload 9, 2) := by decide +kernel
theorem dX11_dies_74 : decode cX11_dies 74 = .ok (.iload_n 1, 1) := by decide +kernel
theorem dX11_dies_75 : decode cX11_dies 75 = .ok (.if_icmp .ge 96, 3) := by decide +kernel
theorem dX11_dies_78 : decode cX11_dies 78 = .ok (.aload_n 0, 1) := by decide +kernel
theorem dX11_dies_79 : decode cX11_dies 79 = .ok (.getfield 28, 3) := by decide +kernel
theorem dX11_dies_82 : decode cX11_dies 82 = .ok (.iconst 4, 1) := by decide +kernel
theorem dX11_dies_83 : decode cX11_dies 83 = .ok (.iaload, 1) := by decide +kernel
theorem dX11_dies_84 : decode cX11_dies 84 = .ok (.i2l, 1) := by decide +kernel
theorem dX11_dies_85 : decode cX11_dies 85 = .ok (.lload 7, 2) := by decide +kernel
theorem dX11_dies_87 : decode cX11_dies 87 = .ok (.lmul, 1) := by decide +kernel
theorem dX11_dies_88 : decode cX11_dies 88 = .ok (.lload 7, 2) := by decide +kernel
theorem dX11_dies_90 : decode cX11_dies 90 = .ok (.lmul, 1) := by decide +kernel
theorem dX11_dies_91 : decode cX11_dies 91 = .ok (.lload 7, 2) := by decide +kernel
theorem dX11_dies_93 : decode cX11_dies 93 = .ok (.lmul, 1) := by decide +kernel
theorem dX11_dies_94 : decode cX11_dies 94 = .ok (.aload_n 0, 1) := by decide +kernel
theorem dX11_dies_95 : decode cX11_dies 95 = .ok (.getfield 28, 3) := by decide +kernel
theorem dX11_dies_98 : decode cX11_dies 98 = .ok (.iconst 5, 1) := by decide +kernel
theorem dX11_dies_99 : decode cX11_dies 99 = .ok (.iaload, 1) := by decide +kernel
theorem dX11_dies_100 : decode cX11_dies 100 = .ok (.i2l, 1) := by decide +kernel
theorem dX11_dies_101 : decode cX11_dies 101 = .ok (.lload 5, 2) := by decide +kernel
theorem dX11_dies_103 : decode cX11_dies 103 = .ok (.lmul, 1) := by decide +kernel
theorem dX11_dies_104 : decode cX11_dies 104 = .ok (.lload 7, 2) := by decide +kernel
theorem dX11_dies_106 : decode cX11_dies 106 = .ok (.lmul, 1) := by decide +kernel
theorem dX11_dies_107 : decode cX11_dies 107 = .ok (.lload 7, 2) := by decide +kernel
theorem dX11_dies_109 : decode cX11_dies 109 = .ok (.lmul, 1) := by decide +kernel
theorem dX11_dies_110 : decode cX11_dies 110 = .ok (.ladd, 1) := by decide +kernel
theorem dX11_dies_111 : decode cX11_dies 111 = .ok (.aload_n 0, 1) := by decide +kernel
theorem dX11_dies_112 : decode cX11_dies 112 = .ok (.getfield 28, 3) := by decide +kernel
theorem dX11_dies_115 : decode cX11_dies 115 = .ok (.bipush 6, 2) := by decide +kernel
theorem dX11_dies_117 : decode cX11_dies 117 = .ok (.iaload, 1) := by decide +kernel
theorem dX11_dies_118 : decode cX11_dies 118 = .ok (.i2l, 1) := by decide +kernel
theorem dX11_dies_119 : decode cX11_dies 119 = .ok (.lload 5, 2) := by decide +kernel
theorem dX11_dies_121 : decode cX11_dies 121 = .ok (.lmul, 1) := by decide +kernel
theorem dX11_dies_122 : decode cX11_dies 122 = .ok (.lload 5, 2) := by decide +kernel
theorem dX11_dies_124 : decode cX11_dies 124 = .ok (.lmul, 1) := by decide +kernel
theorem dX11_dies_125 : decode cX11_dies 125 = .ok (.lload 7, 2) := by decide +kernel
theorem dX11_dies_127 : decode cX11_dies 127 = .ok (.lmul, 1) := by decide +kernel
theorem dX11_dies_128 : decode cX11_dies 128 = .ok (.ladd, 1) := by decide +kernel
theorem dX11_dies_129 : decode cX11_dies 129 = .ok (.aload_n 0, 1) := by decide +kernel
theorem dX11_dies_130 : decode cX11_dies 130 = .ok (.getfield 28, 3) := by decide +kernel
theorem dX11_dies_133 : decode cX11_dies 133 = .ok (.bipush 7, 2) := by decide +kernel
theorem dX11_dies_135 : decode cX11_dies 135 = .ok (.iaload, 1) := by decide +kernel
theorem dX11_dies_136 : decode cX11_dies 136 = .ok (.i2l, 1) := by decide +kernel
theorem dX11_dies_137 : decode cX11_dies 137 = .ok (.lload 5, 2) := by decide +kernel
theorem dX11_dies_139 : decode cX11_dies 139 = .ok (.lmul, 1) := by decide +kernel
theorem dX11_dies_140 : decode cX11_dies 140 = .ok (.lload 5, 2) := by decide +kernel
theorem dX11_dies_142 : decode cX11_dies 142 = .ok (.lmul, 1) := by decide +kernel
theorem dX11_dies_143 : decode cX11_dies 143 = .ok (.lload 5, 2) := by decide +kernel
theorem dX11_dies_145 : decode cX11_dies 145 = .ok (.lmul, 1) := by decide +kernel
theorem dX11_dies_146 : decode cX11_dies 146 = .ok (.ladd, 1) := by decide +kernel
theorem dX11_dies_147 : decode cX11_dies 147 = .ok (.lstore 10, 2) := by decide +kernel
theorem dX11_dies_149 : decode cX11_dies 149 = .ok (.lload_n 3, 1) := by decide +kernel
theorem dX11_dies_150 : decode cX11_dies 150 = .ok (.lload 7, 2) := by decide +kernel
theorem dX11_dies_152 : decode cX11_dies 152 = .ok (.lmul, 1) := by decide +kernel
theorem dX11_dies_153 : decode cX11_dies 153 = .ok (.lload 7, 2) := by decide +kernel
theorem dX11_dies_155 : decode cX11_dies 155 = .ok (.lmul, 1) := by decide +kernel
theorem dX11_dies_156 : decode cX11_dies 156 = .ok (.lload 7, 2) := by decide +kernel
theorem dX11_dies_158 : decode cX11_dies 158 = .ok (.lmul, 1) := by decide +kernel
theorem dX11_dies_159 : decode cX11_dies 159 = .ok (.lstore 7, 2) := by decide +kernel
theorem dX11_dies_161 : decode cX11_dies 161 = .ok (.lload 10, 2) := by decide +kernel
theorem dX11_dies_163 : decode cX11_dies 163 = .ok (.lstore 5, 2) := by decide +kernel
theorem dX11_dies_165 : decode cX11_dies 165 = .ok (.iinc 9 1, 3) := by decide +kernel
theorem dX11_dies_168 : decode cX11_dies 168 = .ok (.goto (-96), 3) := by decide +kernel
theorem dX11_dies_171 : decode cX11_dies 171 = .ok (.lload 5, 2) := by decide +kernel
theorem dX11_dies_173 : decode cX11_dies 173 = .ok (.lstore 9, 2) := by decide +kernel
theorem dX11_dies_175 : decode cX11_dies 175 = .ok (.lload 7, 2) := by decide +kernel
theorem dX11_dies_177 : decode cX11_dies 177 = .ok (.lstore 11, 2) := by decide +kernel
theorem dX11_dies_179 : decode cX11_dies 179 = .ok (.lload 11, 2) := by decide +kernel
theorem dX11_dies_181 : decode cX11_dies 181 = .ok (.lconst 0, 1) := by decide +kernel
theorem dX11_dies_182 : decode cX11_dies 182 = .ok (.lcmp, 1) := by decide +kernel
theorem dX11_dies_183 : decode cX11_dies 183 = .ok (.ifCond .eq 21, 3) := by decide +kernel
theorem dX11_dies_186 : decode cX11_dies 186 = .ok (.lload 9, 2) := by decide +kernel
theorem dX11_dies_188 : decode cX11_dies 188 = .ok (.lload 11, 2) := by decide +kernel
theorem dX11_dies_190 : decode cX11_dies 190 = .ok (.lrem, 1) := by decide +kernel
theorem dX11_dies_191 : decode cX11_dies 191 = .ok (.lstore 13, 2) := by decide +kernel
theorem dX11_dies_193 : decode cX11_dies 193 = .ok (.lload 11, 2) := by decide +kernel
theorem dX11_dies_195 : decode cX11_dies 195 = .ok (.lstore 9, 2) := by decide +kernel
theorem dX11_dies_197 : decode cX11_dies 197 = .ok (.lload 13, 2) := by decide +kernel
theorem dX11_dies_199 : decode cX11_dies 199 = .ok (.lstore 11, 2) := by decide +kernel
theorem dX11_dies_201 : decode cX11_dies 201 = .ok (.goto (-22), 3) := by decide +kernel
theorem dX11_dies_204 : decode cX11_dies 204 = .ok (.iload_n 2, 1) := by decide +kernel
theorem dX11_dies_205 : decode cX11_dies 205 = .ok (.ifCond .ne 8, 3) := by decide +kernel
theorem dX11_dies_208 : decode cX11_dies 208 = .ok (.lload 5, 2) := by decide +kernel
theorem dX11_dies_210 : decode cX11_dies 210 = .ok (.goto 5, 3) := by decide +kernel
theorem dX11_dies_213 : decode cX11_dies 213 = .ok (.lload 7, 2) := by decide +kernel
theorem dX11_dies_215 : decode cX11_dies 215 = .ok (.lload 9, 2) := by decide +kernel
theorem dX11_dies_217 : decode cX11_dies 217 = .ok (.ldiv, 1) := by decide +kernel
theorem dX11_dies_218 : decode cX11_dies 218 = .ok (.lreturn, 1) := by decide +kernel
theorem dX11_father_0 : decode cX11_father 0 = .ok (.aload_n 0, 1) := by decide +kernel
theorem dX11_father_1 : decode cX11_father 1 = .ok (.iload_n 1, 1) := by decide +kernel
theorem dX11_father_2 : decode cX11_father 2 = .ok (.invokevirtual 343, 3) := by decide +kernel
theorem dX11_father_5 : decode cX11_father 5 = .ok (.ifCond .eq 17, 3) := by decide +kernel
theorem dX11_father_8 : decode cX11_father 8 = .ok (.aload_n 0, 1) := by decide +kernel
theorem dX11_father_9 : decode cX11_father 9 = .ok (.iload_n 2, 1) := by decide +kernel
theorem dX11_father_10 : decode cX11_father 10 = .ok (.invokevirtual 343, 3) := by decide +kernel
theorem dX11_father_13 : decode cX11_father 13 = .ok (.ifCond .ne 12, 3) := by decide +kernel
theorem dX11_father_16 : decode cX11_father 16 = .ok (.iload_n 2, 1) := by decide +kernel
theorem dX11_father_17 : decode cX11_father 17 = .ok (.bipush (-4), 2) := by decide +kernel
theorem dX11_father_19 : decode cX11_father 19 = .ok (.if_icmp .eq 6, 3) := by decide +kernel
theorem dX11_father_22 : decode cX11_father 22 = .ok (.bipush (-5), 2) := by decide +kernel
theorem dX11_father_24 : decode cX11_father 24 = .ok (.ireturn, 1) := by decide +kernel
theorem dX11_father_25 : decode cX11_father 25 = .ok (.iload_n 2, 1) := by decide +kernel
theorem dX11_father_26 : decode cX11_father 26 = .ok (.bipush (-4), 2) := by decide +kernel
theorem dX11_father_28 : decode cX11_father 28 = .ok (.if_icmp .eq 24, 3) := by decide +kernel
theorem dX11_father_31 : decode cX11_father 31 = .ok (.aload_n 0, 1) := by decide +kernel
theorem dX11_father_32 : decode cX11_father 32 = .ok (.getfield 110, 3) := by decide +kernel
theorem dX11_father_35 : decode cX11_father 35 = .ok (.iload_n 2, 1) := by decide +kernel
theorem dX11_father_36 : decode cX11_father 36 = .ok (.iaload, 1) := by decide +kernel
theorem dX11_father_37 : decode cX11_father 37 = .ok (.bipush 15, 2) := by decide +kernel
theorem dX11_father_39 : decode cX11_father 39 = .ok (.iadd, 1) := by decide +kernel
theorem dX11_father_40 : decode cX11_father 40 = .ok (.aload_n 0, 1) := by decide +kernel
theorem dX11_father_41 : decode cX11_father 41 = .ok (.getfield 110, 3) := by decide +kernel
theorem dX11_father_44 : decode cX11_father 44 = .ok (.iload_n 1, 1) := by decide +kernel
theorem dX11_father_45 : decode cX11_father 45 = .ok (.iaload, 1) := by decide +kernel
theorem dX11_father_46 : decode cX11_father 46 = .ok (.if_icmp .le 6, 3) := by decide +kernel
theorem dX11_father_49 : decode cX11_father 49 = .ok (.bipush (-6), 2) := by decide +kernel
theorem dX11_father_51 : decode cX11_father 51 = .ok (.ireturn, 1) := by decide +kernel
theorem dX11_father_52 : decode cX11_father 52 = .ok (.aload_n 0, 1) := by decide +kernel
theorem dX11_father_53 : decode cX11_father 53 = .ok (.getfield 128, 3) := by decide +kernel
theorem dX11_father_56 : decode cX11_father 56 = .ok (.iload_n 1, 1) := by decide +kernel
theorem dX11_father_57 : decode cX11_father 57 = .ok (.iaload, 1) := by decide +kernel
theorem dX11_father_58 : decode cX11_father 58 = .ok (.istore_n 3, 1) := by decide +kernel
theorem dX11_father_59 : decode cX11_father 59 = .ok (.aload_n 0, 1) := by decide +kernel
theorem dX11_father_60 : decode cX11_father 60 = .ok (.getfield 128, 3) := by decide +kernel
theorem dX11_father_63 : decode cX11_father 63 = .ok (.iload_n 1, 1) := by decide +kernel
theorem dX11_father_64 : decode cX11_father 64 = .ok (.iload_n 2, 1) := by decide +kernel
theorem dX11_father_65 : decode cX11_father 65 = .ok (.iastore, 1) := by decide +kernel
theorem dX11_father_66 : decode cX11_father 66 = .ok (.iload_n 3, 1) := by decide +kernel
theorem dX11_father_67 : decode cX11_father 67 = .ok (.ireturn, 1) := by decide +kernel
theorem dX11_stepsTo_0 : decode cX11_stepsTo 0 = .ok (.iconst 0, 1) := by decide +kernel
theorem dX11_stepsTo_1 : decode cX11_stepsTo 1 = .ok (.istore_n 3, 1) := by decide +kernel
theorem dX11_stepsTo_2 : decode cX11_stepsTo 2 = .ok (.iload_n 1, 1) := by decide +kernel
theorem dX11_stepsTo_3 : decode cX11_stepsTo 3 = .ok (.istore 4, 2) := by decide +kernel
theorem dX11_stepsTo_5 : decode cX11_stepsTo 5 = .ok (.iload 4, 2) := by decide +kernel
theorem dX11_stepsTo_7 : decode cX11_stepsTo 7 = .ok (.bipush (-4), 2) := by decide +kernel
theorem dX11_stepsTo_9 : decode cX11_stepsTo 9 = .ok (.if_icmp .eq 24, 3) := by decide +kernel
theorem dX11_stepsTo_12 : decode cX11_stepsTo 12 = .ok (.iload 4, 2) := by decide +kernel
theorem dX11_stepsTo_14 : decode cX11_stepsTo 14 = .ok (.iload_n 2, 1) := by decide +kernel
theorem dX11_stepsTo_15 : decode cX11_stepsTo 15 = .ok (.if_icmp .eq 18, 3) := by decide +kernel
theorem dX11_stepsTo_18 : decode cX11_stepsTo 18 = .ok (.aload_n 0, 1) := by decide +kernel
theorem dX11_stepsTo_19 : decode cX11_stepsTo 19 = .ok (.getfield 128, 3) := by decide +kernel
theorem dX11_stepsTo_22 : decode cX11_stepsTo 22 = .ok (.iload 4, 2) := by decide +kernel
theorem dX11_stepsTo_24 : decode cX11_stepsTo 24 = .ok (.iaload, 1) := by decide +kernel
theorem dX11_stepsTo_25 : decode cX11_stepsTo 25 = .ok (.istore 4, 2) := by decide +kernel
theorem dX11_stepsTo_27 : decode cX11_stepsTo 27 = .ok (.iinc 3 1, 3) := by decide +kernel
theorem dX11_stepsTo_30 : decode cX11_stepsTo 30 = .ok (.goto (-25), 3) := by decide +kernel
theorem dX11_stepsTo_33 : decode cX11_stepsTo 33 = .ok (.iload 4, 2) := by decide +kernel
theorem dX11_stepsTo_35 : decode cX11_stepsTo 35 = .ok (.bipush (-4), 2) := by decide +kernel
theorem dX11_stepsTo_37 : decode cX11_stepsTo 37 = .ok (.if_icmp .ne 8, 3) := by decide +kernel
theorem dX11_stepsTo_40 : decode cX11_stepsTo 40 = .ok (.bipush (-4), 2) := by decide +kernel
theorem dX11_stepsTo_42 : decode cX11_stepsTo 42 = .ok (.goto 4, 3) := by decide +kernel
theorem dX11_stepsTo_45 : decode cX11_stepsTo 45 = .ok (.iload_n 3, 1) := by decide +kernel
theorem dX11_stepsTo_46 : decode cX11_stepsTo 46 = .ok (.ireturn, 1) := by decide +kernel
theorem dX11_kinOf_0 : decode cX11_kinOf 0 = .ok (.bipush (-4), 2) := by decide +kernel
theorem dX11_kinOf_2 : decode cX11_kinOf 2 = .ok (.istore_n 3, 1) := by decide +kernel
theorem dX11_kinOf_3 : decode cX11_kinOf 3 = .ok (.iconst 0, 1) := by decide +kernel
theorem dX11_kinOf_4 : decode cX11_kinOf 4 = .ok (.istore 4, 2) := by decide +kernel
theorem dX11_kinOf_6 : decode cX11_kinOf 6 = .ok (.iload 4, 2) := by decide +kernel
theorem dX11_kinOf_8 : decode cX11_kinOf 8 = .ok (.aload_n 0, 1) := by decide +kernel
theorem dX11_kinOf_9 : decode cX11_kinOf 9 = .ok (.getfield 308, 3) := by decide +kernel
theorem dX11_kinOf_12 : decode cX11_kinOf 12 = .ok (.if_icmp .ge 62, 3) := by decide +kernel
theorem dX11_kinOf_15 : decode cX11_kinOf 15 = .ok (.aload_n 0, 1) := by decide +kernel
theorem dX11_kinOf_16 : decode cX11_kinOf 16 = .ok (.iload_n 1, 1) := by decide +kernel
theorem dX11_kinOf_17 : decode cX11_kinOf 17 = .ok (.iload 4, 2) := by decide +kernel
theorem dX11_kinOf_19 : decode cX11_kinOf 19 = .ok (.invokevirtual 370, 3) := by decide +kernel
theorem dX11_kinOf_22 : decode cX11_kinOf 22 = .ok (.istore 5, 2) := by decide +kernel
theorem dX11_kinOf_24 : decode cX11_kinOf 24 = .ok (.aload_n 0, 1) := by decide +kernel
theorem dX11_kinOf_25 : decode cX11_kinOf 25 = .ok (.iload_n 2, 1) := by decide +kernel
theorem dX11_kinOf_26 : decode cX11_kinOf 26 = .ok (.iload 4, 2) := by decide +kernel
theorem dX11_kinOf_28 : decode cX11_kinOf 28 = .ok (.invokevirtual 370, 3) := by decide +kernel
theorem dX11_kinOf_31 : decode cX11_kinOf 31 = .ok (.istore 6, 2) := by decide +kernel
theorem dX11_kinOf_33 : decode cX11_kinOf 33 = .ok (.iload 5, 2) := by decide +kernel
theorem dX11_kinOf_35 : decode cX11_kinOf 35 = .ok (.bipush (-4), 2) := by decide +kernel
theorem dX11_kinOf_37 : decode cX11_kinOf 37 = .ok (.if_icmp .eq 31, 3) := by decide +kernel
theorem dX11_kinOf_40 : decode cX11_kinOf 40 = .ok (.iload 6, 2) := by decide +kernel
theorem dX11_kinOf_42 : decode cX11_kinOf 42 = .ok (.bipush (-4), 2) := by decide +kernel
theorem dX11_kinOf_44 : decode cX11_kinOf 44 = .ok (.if_icmp .eq 24, 3) := by decide +kernel
theorem dX11_kinOf_47 : decode cX11_kinOf 47 = .ok (.iload_n 3, 1) := by decide +kernel
theorem dX11_kinOf_48 : decode cX11_kinOf 48 = .ok (.bipush (-4), 2) := by decide +kernel
theorem dX11_kinOf_50 : decode cX11_kinOf 50 = .ok (.if_icmp .eq 12, 3) := by decide +kernel
theorem dX11_kinOf_53 : decode cX11_kinOf 53 = .ok (.iload 5, 2) := by decide +kernel
theorem dX11_kinOf_55 : decode cX11_kinOf 55 = .ok (.iload 6, 2) := by decide +kernel
theorem dX11_kinOf_57 : decode cX11_kinOf 57 = .ok (.iadd, 1) := by decide +kernel
theorem dX11_kinOf_58 : decode cX11_kinOf 58 = .ok (.iload_n 3, 1) := by decide +kernel
theorem dX11_kinOf_59 : decode cX11_kinOf 59 = .ok (.if_icmp .ge 9, 3) := by decide +kernel
theorem dX11_kinOf_62 : decode cX11_kinOf 62 = .ok (.iload 5, 2) := by decide +kernel
theorem dX11_kinOf_64 : decode cX11_kinOf 64 = .ok (.iload 6, 2) := by decide +kernel
theorem dX11_kinOf_66 : decode cX11_kinOf 66 = .ok (.iadd, 1) := by decide +kernel
theorem dX11_kinOf_67 : decode cX11_kinOf 67 = .ok (.istore_n 3, 1) := by decide +kernel
theorem dX11_kinOf_68 : decode cX11_kinOf 68 = .ok (.iinc 4 1, 3) := by decide +kernel
theorem dX11_kinOf_71 : decode cX11_kinOf 71 = .ok (.goto (-65), 3) := by decide +kernel
theorem dX11_kinOf_74 : decode cX11_kinOf 74 = .ok (.iload_n 3, 1) := by decide +kernel
theorem dX11_kinOf_75 : decode cX11_kinOf 75 = .ok (.ireturn, 1) := by decide +kernel
theorem dX11_kin_0 : decode cX11_kin 0 = .ok (.aload_n 0, 1) := by decide +kernel
theorem dX11_kin_1 : decode cX11_kin 1 = .ok (.iload_n 1, 1) := by decide +kernel
theorem dX11_kin_2 : decode cX11_kin 2 = .ok (.invokevirtual 343, 3) := by decide +kernel
theorem dX11_kin_5 : decode cX11_kin 5 = .ok (.ifCond .eq 20, 3) := by decide +kernel
theorem dX11_kin_8 : decode cX11_kin 8 = .ok (.aload_n 0, 1) := by decide +kernel
theorem dX11_kin_9 : decode cX11_kin 9 = .ok (.iload_n 2, 1) := by decide +kernel
theorem dX11_kin_10 : decode cX11_kin 10 = .ok (.invokevirtual 343, 3) := by decide +kernel
theorem dX11_kin_13 : decode cX11_kin 13 = .ok (.ifCond .eq 12, 3) := by decide +kernel
theorem dX11_kin_16 : decode cX11_kin 16 = .ok (.aload_n 0, 1) := by decide +kernel
theorem dX11_kin_17 : decode cX11_kin 17 = .ok (.iload_n 1, 1) := by decide +kernel
theorem dX11_kin_18 : decode cX11_kin 18 = .ok (.iload_n 2, 1) := by decide +kernel
theorem dX11_kin_19 : decode cX11_kin 19 = .ok (.invokevirtual 373, 3) := by decide +kernel
theorem dX11_kin_22 : decode cX11_kin 22 = .ok (.goto 4, 3) := by decide +kernel
theorem dX11_kin_25 : decode cX11_kin 25 = .ok (.iconst (-1), 1) := by decide +kernel
theorem dX11_kin_26 : decode cX11_kin 26 = .ok (.ireturn, 1) := by decide +kernel
theorem dX11_related_0 : decode cX11_related 0 = .ok (.aload_n 0, 1) := by decide +kernel
theorem dX11_related_1 : decode cX11_related 1 = .ok (.iload_n 1, 1) := by decide +kernel
theorem dX11_related_2 : decode cX11_related 2 = .ok (.invokevirtual 343, 3) := by decide +kernel
theorem dX11_related_5 : decode cX11_related 5 = .ok (.ifCond .eq 11, 3) := by decide +kernel
theorem dX11_related_8 : decode cX11_related 8 = .ok (.aload_n 0, 1) := by decide +kernel
theorem dX11_related_9 : decode cX11_related 9 = .ok (.iload_n 2, 1) := by decide +kernel
theorem dX11_related_10 : decode cX11_related 10 = .ok (.invokevirtual 343, 3) := by decide +kernel
theorem dX11_related_13 : decode cX11_related 13 = .ok (.ifCond .ne 5, 3) := by decide +kernel
theorem dX11_related_16 : decode cX11_related 16 = .ok (.iconst (-1), 1) := by decide +kernel
theorem dX11_related_17 : decode cX11_related 17 = .ok (.ireturn, 1) := by decide +kernel
theorem dX11_related_18 : decode cX11_related 18 = .ok (.aload_n 0, 1) := by decide +kernel
theorem dX11_related_19 : decode cX11_related 19 = .ok (.invokevirtual 279, 3) := by decide +kernel
theorem dX11_related_22 : decode cX11_related 22 = .ok (.aload_n 0, 1) := by decide +kernel
theorem dX11_related_23 : decode cX11_related 23 = .ok (.getfield 73, 3) := by decide +kernel
theorem dX11_related_26 : decode cX11_related 26 = .ok (.aload_n 0, 1) := by decide +kernel
theorem dX11_related_27 : decode cX11_related 27 = .ok (.getfield 119, 3) := by decide +kernel
theorem dX11_related_30 : decode cX11_related 30 = .ok (.iload_n 1, 1) := by decide +kernel
theorem dX11_related_31 : decode cX11_related 31 = .ok (.iaload, 1) := by decide +kernel
theorem dX11_related_32 : decode cX11_related 32 = .ok (.iaload, 1) := by decide +kernel
theorem dX11_related_33 : decode cX11_related 33 = .ok (.aload_n 0, 1) := by decide +kernel
theorem dX11_related_34 : decode cX11_related 34 = .ok (.getfield 73, 3) := by decide +kernel
theorem dX11_related_37 : decode cX11_related 37 = .ok (.aload_n 0, 1) := by decide +kernel
theorem dX11_related_38 : decode cX11_related 38 = .ok (.getfield 119, 3) := by decide +kernel
theorem dX11_related_41 : decode cX11_related 41 = .ok (.iload_n 2, 1) := by decide +kernel
theorem dX11_related_42 : decode cX11_related 42 = .ok (.iaload, 1) := by decide +kernel
theorem dX11_related_43 : decode cX11_related 43 = .ok (.iaload, 1) := by decide +kernel
theorem dX11_related_44 : decode cX11_related 44 = .ok (.if_icmp .ne 7, 3) := by decide +kernel
theorem dX11_related_47 : decode cX11_related 47 = .ok (.iconst 1, 1) := by decide +kernel
theorem dX11_related_48 : decode cX11_related 48 = .ok (.goto 4, 3) := by decide +kernel
theorem dX11_related_51 : decode cX11_related 51 = .ok (.iconst 0, 1) := by decide +kernel
theorem dX11_related_52 : decode cX11_related 52 = .ok (.aload_n 0, 1) := by decide +kernel
theorem dX11_related_53 : decode cX11_related 53 = .ok (.iload_n 1, 1) := by decide +kernel
theorem dX11_related_54 : decode cX11_related 54 = .ok (.iload_n 2, 1) := by decide +kernel
theorem dX11_related_55 : decode cX11_related 55 = .ok (.invokevirtual 373, 3) := by decide +kernel
theorem dX11_related_58 : decode cX11_related 58 = .ok (.bipush (-4), 2) := by decide +kernel
theorem dX11_related_60 : decode cX11_related 60 = .ok (.if_icmp .eq 7, 3) := by decide +kernel
theorem dX11_related_63 : decode cX11_related 63 = .ok (.iconst 2, 1) := by decide +kernel
theorem dX11_related_64 : decode cX11_related 64 = .ok (.goto 4, 3) := by decide +kernel
theorem dX11_related_67 : decode cX11_related 67 = .ok (.iconst 0, 1) := by decide +kernel
theorem dX11_related_68 : decode cX11_related 68 = .ok (.iadd, 1) := by decide +kernel
theorem dX11_related_69 : decode cX11_related 69 = .ok (.ireturn, 1) := by decide +kernel
theorem dX11_issue_0 : decode cX11_issue 0 = .ok (.aload_n 0, 1) := by decide +kernel
theorem dX11_issue_1 : decode cX11_issue 1 = .ok (.iload_n 1, 1) := by decide +kernel
theorem dX11_issue_2 : decode cX11_issue 2 = .ok (.invokevirtual 343, 3) := by decide +kernel
theorem dX11_issue_5 : decode cX11_issue 5 = .ok (.ifCond .eq 15, 3) := by decide +kernel
theorem dX11_issue_8 : decode cX11_issue 8 = .ok (.iload_n 2, 1) := by decide +kernel
theorem dX11_issue_9 : decode cX11_issue 9 = .ok (.i2l, 1) := by decide +kernel
theorem dX11_issue_10 : decode cX11_issue 10 = .ok (.lconst 0, 1) := by decide +kernel
theorem dX11_issue_11 : decode cX11_issue 11 = .ok (.ldc2_w 294, 3) := by decide +kernel
theorem dX11_issue_14 : decode cX11_issue 14 = .ok (.invokestatic 156, 3) := by decide +kernel
theorem dX11_issue_17 : decode cX11_issue 17 = .ok (.ifCond .ne 5, 3) := by decide +kernel
theorem dX11_issue_20 : decode cX11_issue 20 = .ok (.iconst (-1), 1) := by decide +kernel
theorem dX11_issue_21 : decode cX11_issue 21 = .ok (.ireturn, 1) := by decide +kernel
theorem dX11_issue_22 : decode cX11_issue 22 = .ok (.aload_n 0, 1) := by decide +kernel
theorem dX11_issue_23 : decode cX11_issue 23 = .ok (.invokevirtual 279, 3) := by decide +kernel
theorem dX11_issue_26 : decode cX11_issue 26 = .ok (.iconst 0, 1) := by decide +kernel
theorem dX11_issue_27 : decode cX11_issue 27 = .ok (.istore_n 3, 1) := by decide +kernel
theorem dX11_issue_28 : decode cX11_issue 28 = .ok (.iconst 0, 1) := by decide +kernel
theorem dX11_issue_29 : decode cX11_issue 29 = .ok (.istore 4, 2) := by decide +kernel
theorem dX11_issue_31 : decode cX11_issue 31 = .ok (.iconst 0, 1) := by decide +kernel
theorem dX11_issue_32 : decode cX11_issue 32 = .ok (.istore 5, 2) := by decide +kernel
theorem dX11_issue_34 : decode cX11_issue 34 = .ok (.iconst 0, 1) := by decide +kernel
theorem dX11_issue_35 : decode cX11_issue 35 = .ok (.istore 6, 2) := by decide +kernel
theorem dX11_issue_37 : decode cX11_issue 37 = .ok (.iload 6, 2) := by decide +kernel
theorem dX11_issue_39 : decode cX11_issue 39 = .ok (.aload_n 0, 1) := by decide +kernel
theorem dX11_issue_40 : decode cX11_issue 40 = .ok (.getfield 308, 3) := by decide +kernel
theorem dX11_issue_43 : decode cX11_issue 43 = .ok (.if_icmp .ge 91, 3) := by decide +kernel
theorem dX11_issue_46 : decode cX11_issue 46 = .ok (.iload 6, 2) := by decide +kernel
theorem dX11_issue_48 : decode cX11_issue 48 = .ok (.iload_n 1, 1) := by decide +kernel
theorem dX11_issue_49 : decode cX11_issue 49 = .ok (.if_icmp .ne 8, 3) := by decide +kernel
theorem dX11_issue_52 : decode cX11_issue 52 = .ok (.bipush (-4), 2) := by decide +kernel
theorem dX11_issue_54 : decode cX11_issue 54 = .ok (.goto 10, 3) := by decide +kernel
theorem dX11_issue_57 : decode cX11_issue 57 = .ok (.aload_n 0, 1) := by decide +kernel
theorem dX11_issue_58 : decode cX11_issue 58 = .ok (.iload 6, 2) := by decide +kernel
theorem dX11_issue_60 : decode cX11_issue 60 = .ok (.iload_n 1, 1) := by decide +kernel
theorem dX11_issue_61 : decode cX11_issue 61 = .ok (.invokevirtual 370, 3) := by decide +kernel
theorem dX11_issue_64 : decode cX11_issue 64 = .ok (.istore 7, 2) := by decide +kernel
theorem dX11_issue_66 : decode cX11_issue 66 = .ok (.iload 7, 2) := by decide +kernel
theorem dX11_issue_68 : decode cX11_issue 68 = .ok (.bipush (-4), 2) := by decide +kernel
theorem dX11_issue_70 : decode cX11_issue 70 = .ok (.if_icmp .eq 58, 3) := by decide +kernel
theorem dX11_issue_73 : decode cX11_issue 73 = .ok (.iinc 3 1, 3) := by decide +kernel
theorem dX11_issue_76 : decode cX11_issue 76 = .ok (.iload 4, 2) := by decide +kernel
theorem dX11_issue_78 : decode cX11_issue 78 = .ok (.aload_n 0, 1) := by decide +kernel
theorem dX11_issue_79 : decode cX11_issue 79 = .ok (.getfield 73, 3) := by decide +kernel
theorem dX11_issue_82 : decode cX11_issue 82 = .ok (.aload_n 0, 1) := by decide +kernel
theorem dX11_issue_83 : decode cX11_issue 83 = .ok (.getfield 119, 3) := by decide +kernel
theorem dX11_issue_86 : decode cX11_issue 86 = .ok (.iload 6, 2) := by decide +kernel
theorem dX11_issue_88 : decode cX11_issue 88 = .ok (.iaload, 1) := by decide +kernel
theorem dX11_issue_89 : decode cX11_issue 89 = .ok (.iaload, 1) := by decide +kernel
theorem dX11_issue_90 : decode cX11_issue 90 = .ok (.aload_n 0, 1) := by decide +kernel
theorem dX11_issue_91 : decode cX11_issue 91 = .ok (.getfield 73, 3) := by decide +kernel
theorem dX11_issue_94 : decode cX11_issue 94 = .ok (.aload_n 0, 1) := by decide +kernel
theorem dX11_issue_95 : decode cX11_issue 95 = .ok (.getfield 119, 3) := by decide +kernel
theorem dX11_issue_98 : decode cX11_issue 98 = .ok (.iload_n 1, 1) := by decide +kernel
theorem dX11_issue_99 : decode cX11_issue 99 = .ok (.iaload, 1) := by decide +kernel
theorem dX11_issue_100 : decode cX11_issue 100 = .ok (.iaload, 1) := by decide +kernel
theorem dX11_issue_101 : decode cX11_issue 101 = .ok (.if_icmp .eq 7, 3) := by decide +kernel
theorem dX11_issue_104 : decode cX11_issue 104 = .ok (.iconst 1, 1) := by decide +kernel
theorem dX11_issue_105 : decode cX11_issue 105 = .ok (.goto 4, 3) := by decide +kernel
theorem dX11_issue_108 : decode cX11_issue 108 = .ok (.iconst 0, 1) := by decide +kernel
theorem dX11_issue_109 : decode cX11_issue 109 = .ok (.iadd, 1) := by decide +kernel
theorem dX11_issue_110 : decode cX11_issue 110 = .ok (.istore 4, 2) := by decide +kernel
theorem dX11_issue_112 : decode cX11_issue 112 = .ok (.iload 7, 2) := by decide +kernel
theorem dX11_issue_114 : decode cX11_issue 114 = .ok (.iload 5, 2) := by decide +kernel
theorem dX11_issue_116 : decode cX11_issue 116 = .ok (.if_icmp .le 8, 3) := by decide +kernel
theorem dX11_issue_119 : decode cX11_issue 119 = .ok (.iload 7, 2) := by decide +kernel
theorem dX11_issue_121 : decode cX11_issue 121 = .ok (.goto 5, 3) := by decide +kernel
theorem dX11_issue_124 : decode cX11_issue 124 = .ok (.iload 5, 2) := by decide +kernel
theorem dX11_issue_126 : decode cX11_issue 126 = .ok (.istore 5, 2) := by decide +kernel
theorem dX11_issue_128 : decode cX11_issue 128 = .ok (.iinc 6 1, 3) := by decide +kernel
theorem dX11_issue_131 : decode cX11_issue 131 = .ok (.goto (-94), 3) := by decide +kernel
theorem dX11_issue_134 : decode cX11_issue 134 = .ok (.iload_n 2, 1) := by decide +kernel
theorem dX11_issue_135 : decode cX11_issue 135 = .ok (.ifCond .ne 7, 3) := by decide +kernel
theorem dX11_issue_138 : decode cX11_issue 138 = .ok (.iload_n 3, 1) := by decide +kernel
theorem dX11_issue_139 : decode cX11_issue 139 = .ok (.goto 15, 3) := by decide +kernel
theorem dX11_issue_142 : decode cX11_issue 142 = .ok (.iload_n 2, 1) := by decide +kernel
theorem dX11_issue_143 : decode cX11_issue 143 = .ok (.iconst 1, 1) := by decide +kernel
theorem dX11_issue_144 : decode cX11_issue 144 = .ok (.if_icmp .ne 8, 3) := by decide +kernel
theorem dX11_issue_147 : decode cX11_issue 147 = .ok (.iload 4, 2) := by decide +kernel
theorem dX11_issue_149 : decode cX11_issue 149 = .ok (.goto 5, 3) := by decide +kernel
theorem dX11_issue_152 : decode cX11_issue 152 = .ok (.iload 5, 2) := by decide +kernel
theorem dX11_issue_154 : decode cX11_issue 154 = .ok (.ireturn, 1) := by decide +kernel
theorem dX11_sheet_0 : decode cX11_sheet 0 = .ok (.iload_n 1, 1) := by decide +kernel
theorem dX11_sheet_1 : decode cX11_sheet 1 = .ok (.i2l, 1) := by decide +kernel
theorem dX11_sheet_2 : decode cX11_sheet 2 = .ok (.lconst 0, 1) := by decide +kernel
theorem dX11_sheet_3 : decode cX11_sheet 3 = .ok (.ldc2_w 362, 3) := by decide +kernel
theorem dX11_sheet_6 : decode cX11_sheet 6 = .ok (.invokestatic 156, 3) := by decide +kernel
theorem dX11_sheet_9 : decode cX11_sheet 9 = .ok (.ifCond .eq 21, 3) := by decide +kernel
theorem dX11_sheet_12 : decode cX11_sheet 12 = .ok (.iload_n 2, 1) := by decide +kernel
theorem dX11_sheet_13 : decode cX11_sheet 13 = .ok (.i2l, 1) := by decide +kernel
theorem dX11_sheet_14 : decode cX11_sheet 14 = .ok (.lconst 0, 1) := by decide +kernel
theorem dX11_sheet_15 : decode cX11_sheet 15 = .ok (.ldc2_w 294, 3) := by decide +kernel
theorem dX11_sheet_18 : decode cX11_sheet 18 = .ok (.invokestatic 156, 3) := by decide +kernel
theorem dX11_sheet_21 : decode cX11_sheet 21 = .ok (.ifCond .eq 9, 3) := by decide +kernel
theorem dX11_sheet_24 : decode cX11_sheet 24 = .ok (.iload_n 3, 1) := by decide +kernel
theorem dX11_sheet_25 : decode cX11_sheet 25 = .ok (.bipush 64, 2) := by decide +kernel
theorem dX11_sheet_27 : decode cX11_sheet 27 = .ok (.if_icmp .le 5, 3) := by decide +kernel
theorem dX11_sheet_30 : decode cX11_sheet 30 = .ok (.iconst (-1), 1) := by decide +kernel
theorem dX11_sheet_31 : decode cX11_sheet 31 = .ok (.ireturn, 1) := by decide +kernel
theorem dX11_sheet_32 : decode cX11_sheet 32 = .ok (.iload_n 3, 1) := by decide +kernel
theorem dX11_sheet_33 : decode cX11_sheet 33 = .ok (.ifCond .ge 6, 3) := by decide +kernel
theorem dX11_sheet_36 : decode cX11_sheet 36 = .ok (.bipush (-14), 2) := by decide +kernel
theorem dX11_sheet_38 : decode cX11_sheet 38 = .ok (.ireturn, 1) := by decide +kernel
theorem dX11_sheet_39 : decode cX11_sheet 39 = .ok (.aload_n 0, 1) := by decide +kernel
theorem dX11_sheet_40 : decode cX11_sheet 40 = .ok (.getfield 143, 3) := by decide +kernel
theorem dX11_sheet_43 : decode cX11_sheet 43 = .ok (.iload_n 1, 1) := by decide +kernel
theorem dX11_sheet_44 : decode cX11_sheet 44 = .ok (.iload_n 2, 1) := by decide +kernel
theorem dX11_sheet_45 : decode cX11_sheet 45 = .ok (.iastore, 1) := by decide +kernel
theorem dX11_sheet_46 : decode cX11_sheet 46 = .ok (.aload_n 0, 1) := by decide +kernel
theorem dX11_sheet_47 : decode cX11_sheet 47 = .ok (.getfield 146, 3) := by decide +kernel
theorem dX11_sheet_50 : decode cX11_sheet 50 = .ok (.iload_n 1, 1) := by decide +kernel
theorem dX11_sheet_51 : decode cX11_sheet 51 = .ok (.iload_n 3, 1) := by decide +kernel
theorem dX11_sheet_52 : decode cX11_sheet 52 = .ok (.iastore, 1) := by decide +kernel
theorem dX11_sheet_53 : decode cX11_sheet 53 = .ok (.iconst 0, 1) := by decide +kernel
theorem dX11_sheet_54 : decode cX11_sheet 54 = .ok (.istore 4, 2) := by decide +kernel
theorem dX11_sheet_56 : decode cX11_sheet 56 = .ok (.iload 4, 2) := by decide +kernel
theorem dX11_sheet_58 : decode cX11_sheet 58 = .ok (.bipush 64, 2) := by decide +kernel
theorem dX11_sheet_60 : decode cX11_sheet 60 = .ok (.if_icmp .ge 22, 3) := by decide +kernel
theorem dX11_sheet_63 : decode cX11_sheet 63 = .ok (.aload_n 0, 1) := by decide +kernel
theorem dX11_sheet_64 : decode cX11_sheet 64 = .ok (.getfield 149, 3) := by decide +kernel
theorem dX11_sheet_67 : decode cX11_sheet 67 = .ok (.bipush 64, 2) := by decide +kernel
theorem dX11_sheet_69 : decode cX11_sheet 69 = .ok (.iload_n 1, 1) := by decide +kernel
theorem dX11_sheet_70 : decode cX11_sheet 70 = .ok (.imul, 1) := by decide +kernel
theorem dX11_sheet_71 : decode cX11_sheet 71 = .ok (.iload 4, 2) := by decide +kernel
theorem dX11_sheet_73 : decode cX11_sheet 73 = .ok (.iadd, 1) := by decide +kernel
theorem dX11_sheet_74 : decode cX11_sheet 74 = .ok (.iconst 0, 1) := by decide +kernel
theorem dX11_sheet_75 : decode cX11_sheet 75 = .ok (.iastore, 1) := by decide +kernel
theorem dX11_sheet_76 : decode cX11_sheet 76 = .ok (.iinc 4 1, 3) := by decide +kernel
theorem dX11_sheet_79 : decode cX11_sheet 79 = .ok (.goto (-23), 3) := by decide +kernel
theorem dX11_sheet_82 : decode cX11_sheet 82 = .ok (.iconst 1, 1) := by decide +kernel
theorem dX11_sheet_83 : decode cX11_sheet 83 = .ok (.ireturn, 1) := by decide +kernel
theorem dX11_lay_0 : decode cX11_lay 0 = .ok (.iload_n 1, 1) := by decide +kernel
theorem dX11_lay_1 : decode cX11_lay 1 = .ok (.i2l, 1) := by decide +kernel
theorem dX11_lay_2 : decode cX11_lay 2 = .ok (.lconst 0, 1) := by decide +kernel
theorem dX11_lay_3 : decode cX11_lay 3 = .ok (.ldc2_w 362, 3) := by decide +kernel
theorem dX11_lay_6 : decode cX11_lay 6 = .ok (.invokestatic 156, 3) := by decide +kernel
theorem dX11_lay_9 : decode cX11_lay 9 = .ok (.ifCond .ne 5, 3) := by decide +kernel
theorem dX11_lay_12 : decode cX11_lay 12 = .ok (.iconst (-1), 1) := by decide +kernel
theorem dX11_lay_13 : decode cX11_lay 13 = .ok (.ireturn, 1) := by decide +kernel
theorem dX11_lay_14 : decode cX11_lay 14 = .ok (.aload_n 0, 1) := by decide +kernel
theorem dX11_lay_15 : decode cX11_lay 15 = .ok (.getfield 143, 3) := by decide +kernel
theorem dX11_lay_18 : decode cX11_lay 18 = .ok (.iload_n 1, 1) := by decide +kernel
theorem dX11_lay_19 : decode cX11_lay 19 = .ok (.iaload, 1) := by decide +kernel
theorem dX11_lay_20 : decode cX11_lay 20 = .ok (.bipush (-4), 2) := by decide +kernel
theorem dX11_lay_22 : decode cX11_lay 22 = .ok (.if_icmp .ne 6, 3) := by decide +kernel
theorem dX11_lay_25 : decode cX11_lay 25 = .ok (.bipush (-11), 2) := by decide +kernel
theorem dX11_lay_27 : decode cX11_lay 27 = .ok (.ireturn, 1) := by decide +kernel
theorem dX11_lay_28 : decode cX11_lay 28 = .ok (.iload_n 2, 1) := by decide +kernel
theorem dX11_lay_29 : decode cX11_lay 29 = .ok (.i2l, 1) := by decide +kernel
theorem dX11_lay_30 : decode cX11_lay 30 = .ok (.lconst 0, 1) := by decide +kernel
theorem dX11_lay_31 : decode cX11_lay 31 = .ok (.aload_n 0, 1) := by decide +kernel
theorem dX11_lay_32 : decode cX11_lay 32 = .ok (.getfield 146, 3) := by decide +kernel
theorem dX11_lay_35 : decode cX11_lay 35 = .ok (.iload_n 1, 1) := by decide +kernel
theorem dX11_lay_36 : decode cX11_lay 36 = .ok (.iaload, 1) := by decide +kernel
theorem dX11_lay_37 : decode cX11_lay 37 = .ok (.iconst 1, 1) := by decide +kernel
theorem dX11_lay_38 : decode cX11_lay 38 = .ok (.isub, 1) := by decide +kernel
theorem dX11_lay_39 : decode cX11_lay 39 = .ok (.i2l, 1) := by decide +kernel
theorem dX11_lay_40 : decode cX11_lay 40 = .ok (.invokestatic 156, 3) := by decide +kernel
theorem dX11_lay_43 : decode cX11_lay 43 = .ok (.ifCond .ne 6, 3) := by decide +kernel
theorem dX11_lay_46 : decode cX11_lay 46 = .ok (.bipush (-12), 2) := by decide +kernel
theorem dX11_lay_48 : decode cX11_lay 48 = .ok (.ireturn, 1) := by decide +kernel
theorem dX11_lay_49 : decode cX11_lay 49 = .ok (.aload_n 0, 1) := by decide +kernel
theorem dX11_lay_50 : decode cX11_lay 50 = .ok (.getfield 149, 3) := by decide +kernel
theorem dX11_lay_53 : decode cX11_lay 53 = .ok (.bipush 64, 2) := by decide +kernel
theorem dX11_lay_55 : decode cX11_lay 55 = .ok (.iload_n 1, 1) := by decide +kernel
theorem dX11_lay_56 : decode cX11_lay 56 = .ok (.imul, 1) := by decide +kernel
theorem dX11_lay_57 : decode cX11_lay 57 = .ok (.iload_n 2, 1) := by decide +kernel
theorem dX11_lay_58 : decode cX11_lay 58 = .ok (.iadd, 1) := by decide +kernel
theorem dX11_lay_59 : decode cX11_lay 59 = .ok (.aload_n 0, 1) := by decide +kernel
theorem dX11_lay_60 : decode cX11_lay 60 = .ok (.getfield 143, 3) := by decide +kernel
theorem dX11_lay_63 : decode cX11_lay 63 = .ok (.iload_n 1, 1) := by decide +kernel
theorem dX11_lay_64 : decode cX11_lay 64 = .ok (.iaload, 1) := by decide +kernel
theorem dX11_lay_65 : decode cX11_lay 65 = .ok (.ifCond .ne 13, 3) := by decide +kernel
theorem dX11_lay_68 : decode cX11_lay 68 = .ok (.iload_n 3, 1) := by decide +kernel
theorem dX11_lay_69 : decode cX11_lay 69 = .ok (.bipush 24, 2) := by decide +kernel
theorem dX11_lay_71 : decode cX11_lay 71 = .ok (.ishl, 1) := by decide +kernel
theorem dX11_lay_72 : decode cX11_lay 72 = .ok (.bipush 24, 2) := by decide +kernel
theorem dX11_lay_74 : decode cX11_lay 74 = .ok (.ishr, 1) := by decide +kernel
theorem dX11_lay_75 : decode cX11_lay 75 = .ok (.goto 24, 3) := by decide +kernel
theorem dX11_lay_78 : decode cX11_lay 78 = .ok (.aload_n 0, 1) := by decide +kernel
theorem dX11_lay_79 : decode cX11_lay 79 = .ok (.getfield 143, 3) := by decide +kernel
theorem dX11_lay_82 : decode cX11_lay 82 = .ok (.iload_n 1, 1) := by decide +kernel
theorem dX11_lay_83 : decode cX11_lay 83 = .ok (.iaload, 1) := by decide +kernel
theorem dX11_lay_84 : decode cX11_lay 84 = .ok (.iconst 1, 1) := by decide +kernel
theorem dX11_lay_85 : decode cX11_lay 85 = .ok (.if_icmp .ne 13, 3) := by decide +kernel
theorem dX11_lay_88 : decode cX11_lay 88 = .ok (.iload_n 3, 1) := by decide +kernel
theorem dX11_lay_89 : decode cX11_lay 89 = .ok (.bipush 16, 2) := by decide +kernel
theorem dX11_lay_91 : decode cX11_lay 91 = .ok (.ishl, 1) := by decide +kernel
theorem dX11_lay_92 : decode cX11_lay 92 = .ok (.bipush 16, 2) := by decide +kernel
theorem dX11_lay_94 : decode cX11_lay 94 = .ok (.ishr, 1) := by decide +kernel
theorem dX11_lay_95 : decode cX11_lay 95 = .ok (.goto 4, 3) := by decide +kernel
theorem dX11_lay_98 : decode cX11_lay 98 = .ok (.iload_n 3, 1) := by decide +kernel
theorem dX11_lay_99 : decode cX11_lay 99 = .ok (.iastore, 1) := by decide +kernel
theorem dX11_lay_100 : decode cX11_lay 100 = .ok (.iconst 1, 1) := by decide +kernel
theorem dX11_lay_101 : decode cX11_lay 101 = .ok (.ireturn, 1) := by decide +kernel
theorem dX11_faultAt_0 : decode cX11_faultAt 0 = .ok (.aload_n 0, 1) := by decide +kernel
theorem dX11_faultAt_1 : decode cX11_faultAt 1 = .ok (.getfield 143, 3) := by decide +kernel
theorem dX11_faultAt_4 : decode cX11_faultAt 4 = .ok (.iload_n 1, 1) := by decide +kernel
theorem dX11_faultAt_5 : decode cX11_faultAt 5 = .ok (.iaload, 1) := by decide +kernel
theorem dX11_faultAt_6 : decode cX11_faultAt 6 = .ok (.bipush (-4), 2) := by decide +kernel
theorem dX11_faultAt_8 : decode cX11_faultAt 8 = .ok (.if_icmp .ne 7, 3) := by decide +kernel
theorem dX11_faultAt_11 : decode cX11_faultAt 11 = .ok (.iconst 1, 1) := by decide +kernel
theorem dX11_faultAt_12 : decode cX11_faultAt 12 = .ok (.goto 32, 3) := by decide +kernel
theorem dX11_faultAt_15 : decode cX11_faultAt 15 = .ok (.aload_n 0, 1) := by decide +kernel
theorem dX11_faultAt_16 : decode cX11_faultAt 16 = .ok (.getfield 143, 3) := by decide +kernel
theorem dX11_faultAt_19 : decode cX11_faultAt 19 = .ok (.iload_n 1, 1) := by decide +kernel
theorem dX11_faultAt_20 : decode cX11_faultAt 20 = .ok (.iaload, 1) := by decide +kernel
theorem dX11_faultAt_21 : decode cX11_faultAt 21 = .ok (.iload_n 2, 1) := by decide +kernel
theorem dX11_faultAt_22 : decode cX11_faultAt 22 = .ok (.if_icmp .eq 7, 3) := by decide +kernel
theorem dX11_faultAt_25 : decode cX11_faultAt 25 = .ok (.iconst 3, 1) := by decide +kernel
theorem dX11_faultAt_26 : decode cX11_faultAt 26 = .ok (.goto 18, 3) := by decide +kernel
theorem dX11_faultAt_29 : decode cX11_faultAt 29 = .ok (.iload_n 3, 1) := by decide +kernel
theorem dX11_faultAt_30 : decode cX11_faultAt 30 = .ok (.aload_n 0, 1) := by decide +kernel
theorem dX11_faultAt_31 : decode cX11_faultAt 31 = .ok (.getfield 146, 3) := by decide +kernel
theorem dX11_faultAt_34 : decode cX11_faultAt 34 = .ok (.iload_n 1, 1) := by decide +kernel
theorem dX11_faultAt_35 : decode cX11_faultAt 35 = .ok (.iaload, 1) := by decide +kernel
theorem dX11_faultAt_36 : decode cX11_faultAt 36 = .ok (.if_icmp .lt 7, 3) := by decide +kernel
theorem dX11_faultAt_39 : decode cX11_faultAt 39 = .ok (.iconst 2, 1) := by decide +kernel
theorem dX11_faultAt_40 : decode cX11_faultAt 40 = .ok (.goto 4, 3) := by decide +kernel
theorem dX11_faultAt_43 : decode cX11_faultAt 43 = .ok (.iconst 0, 1) := by decide +kernel
theorem dX11_faultAt_44 : decode cX11_faultAt 44 = .ok (.ireturn, 1) := by decide +kernel
theorem dX11_hasLine_0 : decode cX11_hasLine 0 = .ok (.iconst 0, 1) := by decide +kernel
theorem dX11_hasLine_1 : decode cX11_hasLine 1 = .ok (.istore_n 3, 1) := by decide +kernel
theorem dX11_hasLine_2 : decode cX11_hasLine 2 = .ok (.iconst 0, 1) := by decide +kernel
theorem dX11_hasLine_3 : decode cX11_hasLine 3 = .ok (.istore 4, 2) := by decide +kernel
theorem dX11_hasLine_5 : decode cX11_hasLine 5 = .ok (.iload 4, 2) := by decide +kernel
theorem dX11_hasLine_7 : decode cX11_hasLine 7 = .ok (.aload_n 0, 1) := by decide +kernel
theorem dX11_hasLine_8 : decode cX11_hasLine 8 = .ok (.getfield 308, 3) := by decide +kernel
theorem dX11_hasLine_11 : decode cX11_hasLine 11 = .ok (.if_icmp .ge 41, 3) := by decide +kernel
theorem dX11_hasLine_14 : decode cX11_hasLine 14 = .ok (.iload_n 3, 1) := by decide +kernel
theorem dX11_hasLine_15 : decode cX11_hasLine 15 = .ok (.ifCond .ne 25, 3) := by decide +kernel
theorem dX11_hasLine_18 : decode cX11_hasLine 18 = .ok (.aload_n 0, 1) := by decide +kernel
theorem dX11_hasLine_19 : decode cX11_hasLine 19 = .ok (.getfield 107, 3) := by decide +kernel
theorem dX11_hasLine_22 : decode cX11_hasLine 22 = .ok (.iload 4, 2) := by decide +kernel
theorem dX11_hasLine_24 : decode cX11_hasLine 24 = .ok (.iaload, 1) := by decide +kernel
theorem dX11_hasLine_25 : decode cX11_hasLine 25 = .ok (.iload_n 1, 1) := by decide +kernel
theorem dX11_hasLine_26 : decode cX11_hasLine 26 = .ok (.if_icmp .ne 18, 3) := by decide +kernel
theorem dX11_hasLine_29 : decode cX11_hasLine 29 = .ok (.aload_n 0, 1) := by decide +kernel
theorem dX11_hasLine_30 : decode cX11_hasLine 30 = .ok (.getfield 110, 3) := by decide +kernel
theorem dX11_hasLine_33 : decode cX11_hasLine 33 = .ok (.iload 4, 2) := by decide +kernel
theorem dX11_hasLine_35 : decode cX11_hasLine 35 = .ok (.iaload, 1) := by decide +kernel
theorem dX11_hasLine_36 : decode cX11_hasLine 36 = .ok (.iload_n 2, 1) := by decide +kernel
theorem dX11_hasLine_37 : decode cX11_hasLine 37 = .ok (.if_icmp .ne 7, 3) := by decide +kernel
theorem dX11_hasLine_40 : decode cX11_hasLine 40 = .ok (.iconst 1, 1) := by decide +kernel
theorem dX11_hasLine_41 : decode cX11_hasLine 41 = .ok (.goto 4, 3) := by decide +kernel
theorem dX11_hasLine_44 : decode cX11_hasLine 44 = .ok (.iconst 0, 1) := by decide +kernel
theorem dX11_hasLine_45 : decode cX11_hasLine 45 = .ok (.istore_n 3, 1) := by decide +kernel
theorem dX11_hasLine_46 : decode cX11_hasLine 46 = .ok (.iinc 4 1, 3) := by decide +kernel
theorem dX11_hasLine_49 : decode cX11_hasLine 49 = .ok (.goto (-44), 3) := by decide +kernel
theorem dX11_hasLine_52 : decode cX11_hasLine 52 = .ok (.iload_n 3, 1) := by decide +kernel
theorem dX11_hasLine_53 : decode cX11_hasLine 53 = .ok (.ireturn, 1) := by decide +kernel
theorem dX11_read_0 : decode cX11_read 0 = .ok (.aload_n 0, 1) := by decide +kernel
theorem dX11_read_1 : decode cX11_read 1 = .ok (.iload_n 1, 1) := by decide +kernel
theorem dX11_read_2 : decode cX11_read 2 = .ok (.invokevirtual 320, 3) := by decide +kernel
theorem dX11_read_5 : decode cX11_read 5 = .ok (.ifCond .eq 27, 3) := by decide +kernel
theorem dX11_read_8 : decode cX11_read 8 = .ok (.iload_n 2, 1) := by decide +kernel
theorem dX11_read_9 : decode cX11_read 9 = .ok (.i2l, 1) := by decide +kernel
theorem dX11_read_10 : decode cX11_read 10 = .ok (.lconst 0, 1) := by decide +kernel
theorem dX11_read_11 : decode cX11_read 11 = .ok (.ldc2_w 362, 3) := by decide +kernel
theorem dX11_read_14 : decode cX11_read 14 = .ok (.invokestatic 156, 3) := by decide +kernel
theorem dX11_read_17 : decode cX11_read 17 = .ok (.ifCond .eq 15, 3) := by decide +kernel
theorem dX11_read_20 : decode cX11_read 20 = .ok (.iload_n 3, 1) := by decide +kernel
theorem dX11_read_21 : decode cX11_read 21 = .ok (.i2l, 1) := by decide +kernel
theorem dX11_read_22 : decode cX11_read 22 = .ok (.lconst 0, 1) := by decide +kernel
theorem dX11_read_23 : decode cX11_read 23 = .ok (.ldc2_w 294, 3) := by decide +kernel
theorem dX11_read_26 : decode cX11_read 26 = .ok (.invokestatic 156, 3) := by decide +kernel
theorem dX11_read_29 : decode cX11_read 29 = .ok (.ifCond .ne 5, 3) := by decide +kernel
theorem dX11_read_32 : decode cX11_read 32 = .ok (.iconst (-1), 1) := by decide +kernel
theorem dX11_read_33 : decode cX11_read 33 = .ok (.ireturn, 1) := by decide +kernel
theorem dX11_read_34 : decode cX11_read 34 = .ok (.aload_n 0, 1) := by decide +kernel
theorem dX11_read_35 : decode cX11_read 35 = .ok (.getfield 100, 3) := by decide +kernel
theorem dX11_read_38 : decode cX11_read 38 = .ok (.iload_n 1, 1) := by decide +kernel
theorem dX11_read_39 : decode cX11_read 39 = .ok (.iaload, 1) := by decide +kernel
theorem dX11_read_40 : decode cX11_read 40 = .ok (.aload_n 0, 1) := by decide +kernel
theorem dX11_read_41 : decode cX11_read 41 = .ok (.getfield 97, 3) := by decide +kernel
theorem dX11_read_44 : decode cX11_read 44 = .ok (.iload_n 1, 1) := by decide +kernel
theorem dX11_read_45 : decode cX11_read 45 = .ok (.iaload, 1) := by decide +kernel
theorem dX11_read_46 : decode cX11_read 46 = .ok (.isub, 1) := by decide +kernel
theorem dX11_read_47 : decode cX11_read 47 = .ok (.iconst 1, 1) := by decide +kernel
theorem dX11_read_48 : decode cX11_read 48 = .ok (.iadd, 1) := by decide +kernel
theorem dX11_read_49 : decode cX11_read 49 = .ok (.istore 4, 2) := by decide +kernel
theorem dX11_read_51 : decode cX11_read 51 = .ok (.iload 4, 2) := by decide +kernel
theorem dX11_read_53 : decode cX11_read 53 = .ok (.istore 5, 2) := by decide +kernel
theorem dX11_read_55 : decode cX11_read 55 = .ok (.iconst 0, 1) := by decide +kernel
theorem dX11_read_56 : decode cX11_read 56 = .ok (.istore 6, 2) := by decide +kernel
theorem dX11_read_58 : decode cX11_read 58 = .ok (.iconst 0, 1) := by decide +kernel
theorem dX11_read_59 : decode cX11_read 59 = .ok (.istore 7, 2) := by decide +kernel
theorem dX11_read_61 : decode cX11_read 61 = .ok (.iconst 0, 1) := by decide +kernel
theorem dX11_read_62 : decode cX11_read 62 = .ok (.istore 8, 2) := by decide +kernel
theorem dX11_read_64 : decode cX11_read 64 = .ok (.iload 8, 2) := by decide +kernel
theorem dX11_read_66 : decode cX11_read 66 = .ok (.iload 4, 2) := by decide +kernel
theorem dX11_read_68 : decode cX11_read 68 = .ok (.if_icmp .ge 97, 3) := by decide +kernel
theorem dX11_read_71 : decode cX11_read 71 = .ok (.iload 6, 2) := by decide +kernel
theorem dX11_read_73 : decode cX11_read 73 = .ok (.ifCond .ne 92, 3) := by decide +kernel
theorem dX11_read_76 : decode cX11_read 76 = .ok (.aload_n 0, 1) := by decide +kernel
theorem dX11_read_77 : decode cX11_read 77 = .ok (.iload_n 1, 1) := by decide +kernel
theorem dX11_read_78 : decode cX11_read 78 = .ok (.aload_n 0, 1) := by decide +kernel
theorem dX11_read_79 : decode cX11_read 79 = .ok (.getfield 97, 3) := by decide +kernel
theorem dX11_read_82 : decode cX11_read 82 = .ok (.iload_n 1, 1) := by decide +kernel
theorem dX11_read_83 : decode cX11_read 83 = .ok (.iaload, 1) := by decide +kernel
theorem dX11_read_84 : decode cX11_read 84 = .ok (.iload 8, 2) := by decide +kernel
theorem dX11_read_86 : decode cX11_read 86 = .ok (.iadd, 1) := by decide +kernel
theorem dX11_read_87 : decode cX11_read 87 = .ok (.invokevirtual 326, 3) := by decide +kernel
theorem dX11_read_90 : decode cX11_read 90 = .ok (.ifCond .ne 69, 3) := by decide +kernel
theorem dX11_read_93 : decode cX11_read 93 = .ok (.aload_n 0, 1) := by decide +kernel
theorem dX11_read_94 : decode cX11_read 94 = .ok (.iload_n 2, 1) := by decide +kernel
theorem dX11_read_95 : decode cX11_read 95 = .ok (.iload_n 3, 1) := by decide +kernel
theorem dX11_read_96 : decode cX11_read 96 = .ok (.iload 8, 2) := by decide +kernel
theorem dX11_read_98 : decode cX11_read 98 = .ok (.invokevirtual 376, 3) := by decide +kernel
theorem dX11_read_101 : decode cX11_read 101 = .ok (.istore 6, 2) := by decide +kernel
theorem dX11_read_103 : decode cX11_read 103 = .ok (.iload 6, 2) := by decide +kernel
theorem dX11_read_105 : decode cX11_read 105 = .ok (.ifCond .le 10, 3) := by decide +kernel
theorem dX11_read_108 : decode cX11_read 108 = .ok (.iload 8, 2) := by decide +kernel
theorem dX11_read_110 : decode cX11_read 110 = .ok (.istore 5, 2) := by decide +kernel
theorem dX11_read_112 : decode cX11_read 112 = .ok (.goto 47, 3) := by decide +kernel
theorem dX11_read_115 : decode cX11_read 115 = .ok (.aload_n 0, 1) := by decide +kernel
theorem dX11_read_116 : decode cX11_read 116 = .ok (.getfield 149, 3) := by decide +kernel
theorem dX11_read_119 : decode cX11_read 119 = .ok (.bipush 64, 2) := by decide +kernel
theorem dX11_read_121 : decode cX11_read 121 = .ok (.iload_n 2, 1) := by decide +kernel
theorem dX11_read_122 : decode cX11_read 122 = .ok (.imul, 1) := by decide +kernel
theorem dX11_read_123 : decode cX11_read 123 = .ok (.iload 8, 2) := by decide +kernel
theorem dX11_read_125 : decode cX11_read 125 = .ok (.iadd, 1) := by decide +kernel
theorem dX11_read_126 : decode cX11_read 126 = .ok (.iaload, 1) := by decide +kernel
theorem dX11_read_127 : decode cX11_read 127 = .ok (.iconst (-1), 1) := by decide +kernel
theorem dX11_read_128 : decode cX11_read 128 = .ok (.if_icmp .eq 31, 3) := by decide +kernel
theorem dX11_read_131 : decode cX11_read 131 = .ok (.aload_n 0, 1) := by decide +kernel
theorem dX11_read_132 : decode cX11_read 132 = .ok (.aload_n 0, 1) := by decide +kernel
theorem dX11_read_133 : decode cX11_read 133 = .ok (.getfield 149, 3) := by decide +kernel
theorem dX11_read_136 : decode cX11_read 136 = .ok (.bipush 64, 2) := by decide +kernel
theorem dX11_read_138 : decode cX11_read 138 = .ok (.iload_n 2, 1) := by decide +kernel
theorem dX11_read_139 : decode cX11_read 139 = .ok (.imul, 1) := by decide +kernel
theorem dX11_read_140 : decode cX11_read 140 = .ok (.iload 8, 2) := by decide +kernel
theorem dX11_read_142 : decode cX11_read 142 = .ok (.iadd, 1) := by decide +kernel
theorem dX11_read_143 : decode cX11_read 143 = .ok (.iaload, 1) := by decide +kernel
theorem dX11_read_144 : decode cX11_read 144 = .ok (.invokevirtual 166, 3) := by decide +kernel
theorem dX11_read_147 : decode cX11_read 147 = .ok (.ifCond .ne 9, 3) := by decide +kernel
theorem dX11_read_150 : decode cX11_read 150 = .ok (.bipush (-20), 2) := by decide +kernel
theorem dX11_read_152 : decode cX11_read 152 = .ok (.iload 8, 2) := by decide +kernel
theorem dX11_read_154 : decode cX11_read 154 = .ok (.isub, 1) := by decide +kernel
theorem dX11_read_155 : decode cX11_read 155 = .ok (.ireturn, 1) := by decide +kernel
theorem dX11_read_156 : decode cX11_read 156 = .ok (.iinc 7 1, 3) := by decide +kernel
theorem dX11_read_159 : decode cX11_read 159 = .ok (.iinc 8 1, 3) := by decide +kernel
theorem dX11_read_162 : decode cX11_read 162 = .ok (.goto (-98), 3) := by decide +kernel
theorem dX11_read_165 : decode cX11_read 165 = .ok (.aload_n 0, 1) := by decide +kernel
theorem dX11_read_166 : decode cX11_read 166 = .ok (.getfield 308, 3) := by decide +kernel
theorem dX11_read_169 : decode cX11_read 169 = .ok (.iload 7, 2) := by decide +kernel
theorem dX11_read_171 : decode cX11_read 171 = .ok (.iadd, 1) := by decide +kernel
theorem dX11_read_172 : decode cX11_read 172 = .ok (.bipush 40, 2) := by decide +kernel
theorem dX11_read_174 : decode cX11_read 174 = .ok (.if_icmp .le 6, 3) := by decide +kernel
theorem dX11_read_177 : decode cX11_read 177 = .ok (.bipush (-3), 2) := by decide +kernel
theorem dX11_read_179 : decode cX11_read 179 = .ok (.ireturn, 1) := by decide +kernel
theorem dX11_read_180 : decode cX11_read 180 = .ok (.iconst 0, 1) := by decide +kernel
theorem dX11_read_181 : decode cX11_read 181 = .ok (.istore 8, 2) := by decide +kernel
theorem dX11_read_183 : decode cX11_read 183 = .ok (.iload 8, 2) := by decide +kernel
theorem dX11_read_185 : decode cX11_read 185 = .ok (.iload 5, 2) := by decide +kernel
theorem dX11_read_187 : decode cX11_read 187 = .ok (.if_icmp .ge 69, 3) := by decide +kernel
theorem dX11_read_190 : decode cX11_read 190 = .ok (.aload_n 0, 1) := by decide +kernel
theorem dX11_read_191 : decode cX11_read 191 = .ok (.iload_n 1, 1) := by decide +kernel
theorem dX11_read_192 : decode cX11_read 192 = .ok (.aload_n 0, 1) := by decide +kernel
theorem dX11_read_193 : decode cX11_read 193 = .ok (.getfield 97, 3) := by decide +kernel
theorem dX11_read_196 : decode cX11_read 196 = .ok (.iload_n 1, 1) := by decide +kernel
theorem dX11_read_197 : decode cX11_read 197 = .ok (.iaload, 1) := by decide +kernel
theorem dX11_read_198 : decode cX11_read 198 = .ok (.iload 8, 2) := by decide +kernel
theorem dX11_read_200 : decode cX11_read 200 = .ok (.iadd, 1) := by decide +kernel
theorem dX11_read_201 : decode cX11_read 201 = .ok (.invokevirtual 326, 3) := by decide +kernel
theorem dX11_read_204 : decode cX11_read 204 = .ok (.ifCond .ne 46, 3) := by decide +kernel
theorem dX11_read_207 : decode cX11_read 207 = .ok (.aload_n 0, 1) := by decide +kernel
theorem dX11_read_208 : decode cX11_read 208 = .ok (.getfield 149, 3) := by decide +kernel
theorem dX11_read_211 : decode cX11_read 211 = .ok (.bipush 64, 2) := by decide +kernel
theorem dX11_read_213 : decode cX11_read 213 = .ok (.iload_n 2, 1) := by decide +kernel
theorem dX11_read_214 : decode cX11_read 214 = .ok (.imul, 1) := by decide +kernel
theorem dX11_read_215 : decode cX11_read 215 = .ok (.iload 8, 2) := by decide +kernel
theorem dX11_read_217 : decode cX11_read 217 = .ok (.iadd, 1) := by decide +kernel
theorem dX11_read_218 : decode cX11_read 218 = .ok (.iaload, 1) := by decide +kernel
theorem dX11_read_219 : decode cX11_read 219 = .ok (.iconst (-1), 1) := by decide +kernel
theorem dX11_read_220 : decode cX11_read 220 = .ok (.if_icmp .eq 30, 3) := by decide +kernel
theorem dX11_read_223 : decode cX11_read 223 = .ok (.aload_n 0, 1) := by decide +kernel
theorem dX11_read_224 : decode cX11_read 224 = .ok (.iload_n 1, 1) := by decide +kernel
theorem dX11_read_225 : decode cX11_read 225 = .ok (.aload_n 0, 1) := by decide +kernel
theorem dX11_read_226 : decode cX11_read 226 = .ok (.getfield 97, 3) := by decide +kernel
theorem dX11_read_229 : decode cX11_read 229 = .ok (.iload_n 1, 1) := by decide +kernel
theorem dX11_read_230 : decode cX11_read 230 = .ok (.iaload, 1) := by decide +kernel
theorem dX11_read_231 : decode cX11_read 231 = .ok (.iload 8, 2) := by decide +kernel
theorem dX11_read_233 : decode cX11_read 233 = .ok (.iadd, 1) := by decide +kernel
theorem dX11_read_234 : decode cX11_read 234 = .ok (.aload_n 0, 1) := by decide +kernel
theorem dX11_read_235 : decode cX11_read 235 = .ok (.getfield 149, 3) := by decide +kernel
theorem dX11_read_238 : decode cX11_read 238 = .ok (.bipush 64, 2) := by decide +kernel
theorem dX11_read_240 : decode cX11_read 240 = .ok (.iload_n 2, 1) := by decide +kernel
theorem dX11_read_241 : decode cX11_read 241 = .ok (.imul, 1) := by decide +kernel
theorem dX11_read_242 : decode cX11_read 242 = .ok (.iload 8, 2) := by decide +kernel
theorem dX11_read_244 : decode cX11_read 244 = .ok (.iadd, 1) := by decide +kernel
theorem dX11_read_245 : decode cX11_read 245 = .ok (.iaload, 1) := by decide +kernel
theorem dX11_read_246 : decode cX11_read 246 = .ok (.iconst 0, 1) := by decide +kernel
theorem dX11_read_247 : decode cX11_read 247 = .ok (.invokevirtual 337, 3) := by decide +kernel
theorem dX11_read_250 : decode cX11_read 250 = .ok (.iinc 8 1, 3) := by decide +kernel
theorem dX11_read_253 : decode cX11_read 253 = .ok (.goto (-70), 3) := by decide +kernel
theorem dX11_read_256 : decode cX11_read 256 = .ok (.iload 5, 2) := by decide +kernel
theorem dX11_read_258 : decode cX11_read 258 = .ok (.istore 8, 2) := by decide +kernel
theorem dX11_read_260 : decode cX11_read 260 = .ok (.iload 8, 2) := by decide +kernel
theorem dX11_read_262 : decode cX11_read 262 = .ok (.iload 4, 2) := by decide +kernel
theorem dX11_read_264 : decode cX11_read 264 = .ok (.if_icmp .ge 39, 3) := by decide +kernel
theorem dX11_read_267 : decode cX11_read 267 = .ok (.aload_n 0, 1) := by decide +kernel
theorem dX11_read_268 : decode cX11_read 268 = .ok (.iload_n 1, 1) := by decide +kernel
theorem dX11_read_269 : decode cX11_read 269 = .ok (.aload_n 0, 1) := by decide +kernel
theorem dX11_read_270 : decode cX11_read 270 = .ok (.getfield 97, 3) := by decide +kernel
theorem dX11_read_273 : decode cX11_read 273 = .ok (.iload_n 1, 1) := by decide +kernel
theorem dX11_read_274 : decode cX11_read 274 = .ok (.iaload, 1) := by decide +kernel
theorem dX11_read_275 : decode cX11_read 275 = .ok (.iload 8, 2) := by decide +kernel
theorem dX11_read_277 : decode cX11_read 277 = .ok (.iadd, 1) := by decide +kernel
theorem dX11_read_278 : decode cX11_read 278 = .ok (.invokevirtual 323, 3) := by decide +kernel
theorem dX11_read_281 : decode cX11_read 281 = .ok (.ifCond .ne 16, 3) := by decide +kernel
theorem dX11_read_284 : decode cX11_read 284 = .ok (.aload_n 0, 1) := by decide +kernel
theorem dX11_read_285 : decode cX11_read 285 = .ok (.getfield 103, 3) := by decide +kernel
theorem dX11_read_288 : decode cX11_read 288 = .ok (.iload_n 1, 1) := by decide +kernel
theorem dX11_read_289 : decode cX11_read 289 = .ok (.dup2, 1) := by decide +kernel
theorem dX11_read_290 : decode cX11_read 290 = .ok (.laload, 1) := by decide +kernel
theorem dX11_read_291 : decode cX11_read 291 = .ok (.lconst 1, 1) := by decide +kernel
theorem dX11_read_292 : decode cX11_read 292 = .ok (.iload 8, 2) := by decide +kernel
theorem dX11_read_294 : decode cX11_read 294 = .ok (.lshl, 1) := by decide +kernel
theorem dX11_read_295 : decode cX11_read 295 = .ok (.lor, 1) := by decide +kernel
theorem dX11_read_296 : decode cX11_read 296 = .ok (.lastore, 1) := by decide +kernel
theorem dX11_read_297 : decode cX11_read 297 = .ok (.iinc 8 1, 3) := by decide +kernel
theorem dX11_read_300 : decode cX11_read 300 = .ok (.goto (-40), 3) := by decide +kernel
theorem dX11_read_303 : decode cX11_read 303 = .ok (.aload_n 0, 1) := by decide +kernel
theorem dX11_read_304 : decode cX11_read 304 = .ok (.iload 6, 2) := by decide +kernel
theorem dX11_read_306 : decode cX11_read 306 = .ok (.putfield 380, 3) := by decide +kernel
theorem dX11_read_309 : decode cX11_read 309 = .ok (.iload 7, 2) := by decide +kernel
theorem dX11_read_311 : decode cX11_read 311 = .ok (.ireturn, 1) := by decide +kernel
theorem dX11_torn_0 : decode cX11_torn 0 = .ok (.aload_n 0, 1) := by decide +kernel
theorem dX11_torn_1 : decode cX11_torn 1 = .ok (.getfield 380, 3) := by decide +kernel
theorem dX11_torn_4 : decode cX11_torn 4 = .ok (.ireturn, 1) := by decide +kernel
theorem dX11_count_0 : decode cX11_count 0 = .ok (.iconst 0, 1) := by decide +kernel
theorem dX11_count_1 : decode cX11_count 1 = .ok (.istore_n 2, 1) := by decide +kernel
theorem dX11_count_2 : decode cX11_count 2 = .ok (.iload_n 1, 1) := by decide +kernel
theorem dX11_count_3 : decode cX11_count 3 = .ok (.bipush 6, 2) := by decide +kernel
theorem dX11_count_5 : decode cX11_count 5 = .ok (.if_icmp .ne 39, 3) := by decide +kernel
theorem dX11_count_8 : decode cX11_count 8 = .ok (.aload_n 0, 1) := by decide +kernel
theorem dX11_count_9 : decode cX11_count 9 = .ok (.invokevirtual 279, 3) := by decide +kernel
theorem dX11_count_12 : decode cX11_count 12 = .ok (.iconst 0, 1) := by decide +kernel
theorem dX11_count_13 : decode cX11_count 13 = .ok (.istore_n 3, 1) := by decide +kernel
theorem dX11_count_14 : decode cX11_count 14 = .ok (.iload_n 3, 1) := by decide +kernel
theorem dX11_count_15 : decode cX11_count 15 = .ok (.aload_n 0, 1) := by decide +kernel
theorem dX11_count_16 : decode cX11_count 16 = .ok (.getfield 308, 3) := by decide +kernel
theorem dX11_count_19 : decode cX11_count 19 = .ok (.if_icmp .ge 25, 3) := by decide +kernel
theorem dX11_count_22 : decode cX11_count 22 = .ok (.iload_n 2, 1) := by decide +kernel
theorem dX11_count_23 : decode cX11_count 23 = .ok (.iconst 1, 1) := by decide +kernel
theorem dX11_count_24 : decode cX11_count 24 = .ok (.aload_n 0, 1) := by decide +kernel
theorem dX11_count_25 : decode cX11_count 25 = .ok (.getfield 73, 3) := by decide +kernel
theorem dX11_count_28 : decode cX11_count 28 = .ok (.aload_n 0, 1) := by decide +kernel
theorem dX11_count_29 : decode cX11_count 29 = .ok (.getfield 119, 3) := by decide +kernel
theorem dX11_count_32 : decode cX11_count 32 = .ok (.iload_n 3, 1) := by decide +kernel
theorem dX11_count_33 : decode cX11_count 33 = .ok (.iaload, 1) := by decide +kernel
theorem dX11_count_34 : decode cX11_count 34 = .ok (.iaload, 1) := by decide +kernel
theorem dX11_count_35 : decode cX11_count 35 = .ok (.ishl, 1) := by decide +kernel
theorem dX11_count_36 : decode cX11_count 36 = .ok (.ior, 1) := by decide +kernel
theorem dX11_count_37 : decode cX11_count 37 = .ok (.istore_n 2, 1) := by decide +kernel
theorem dX11_count_38 : decode cX11_count 38 = .ok (.iinc 3 1, 3) := by decide +kernel
theorem dX11_count_41 : decode cX11_count 41 = .ok (.goto (-27), 3) := by decide +kernel
theorem dX11_count_44 : decode cX11_count 44 = .ok (.iload_n 1, 1) := by decide +kernel
theorem dX11_count_45 : decode cX11_count 45 = .ok (.tableswitch 114 0 8 #[51, 56, 61, 66, 71, 76, 81, 86, 91], 51) := by decide +kernel
theorem dX11_count_96 : decode cX11_count 96 = .ok (.aload_n 0, 1) := by decide +kernel
theorem dX11_count_97 : decode cX11_count 97 = .ok (.getfield 152, 3) := by decide +kernel
theorem dX11_count_100 : decode cX11_count 100 = .ok (.ireturn, 1) := by decide +kernel
theorem dX11_count_101 : decode cX11_count 101 = .ok (.aload_n 0, 1) := by decide +kernel
theorem dX11_count_102 : decode cX11_count 102 = .ok (.getfield 302, 3) := by decide +kernel
theorem dX11_count_105 : decode cX11_count 105 = .ok (.ireturn, 1) := by decide +kernel
theorem dX11_count_106 : decode cX11_count 106 = .ok (.aload_n 0, 1) := by decide +kernel
theorem dX11_count_107 : decode cX11_count 107 = .ok (.getfield 305, 3) := by decide +kernel
theorem dX11_count_110 : decode cX11_count 110 = .ok (.ireturn, 1) := by decide +kernel
theorem dX11_count_111 : decode cX11_count 111 = .ok (.aload_n 0, 1) := by decide +kernel
theorem dX11_count_112 : decode cX11_count 112 = .ok (.getfield 308, 3) := by decide +kernel
theorem dX11_count_115 : decode cX11_count 115 = .ok (.ireturn, 1) := by decide +kernel
theorem dX11_count_116 : decode cX11_count 116 = .ok (.aload_n 0, 1) := by decide +kernel
theorem dX11_count_117 : decode cX11_count 117 = .ok (.getfield 346, 3) := by decide +kernel
theorem dX11_count_120 : decode cX11_count 120 = .ok (.ireturn, 1) := by decide +kernel
theorem dX11_count_121 : decode cX11_count 121 = .ok (.aload_n 0, 1) := by decide +kernel
theorem dX11_count_122 : decode cX11_count 122 = .ok (.getfield 332, 3) := by decide +kernel
theorem dX11_count_125 : decode cX11_count 125 = .ok (.ireturn, 1) := by decide +kernel
theorem dX11_count_126 : decode cX11_count 126 = .ok (.iload_n 2, 1) := by decide +kernel
theorem dX11_count_127 : decode cX11_count 127 = .ok (.invokestatic 296, 3) := by decide +kernel
theorem dX11_count_130 : decode cX11_count 130 = .ok (.ireturn, 1) := by decide +kernel
