theorem d_X11_glad_0 : decode prog_13_method_92_code 0 = .ok (.aload_n 0, 1) := by decide +kernel
theorem d_X11_glad_1 : decode prog_13_method_92_code 1 = .ok (.iconst 0, 1) := by decide +kernel
theorem d_X11_glad_2 : decode prog_13_method_92_code 2 = .ok (.putfield 145, 3) := by decide +kernel
theorem d_X11_glad_5 : decode prog_13_method_92_code 5 = .ok (.aload_n 0, 1) := by decide +kernel
theorem d_X11_glad_6 : decode prog_13_method_92_code 6 = .ok (.getfield 13, 3) := by decide +kernel
theorem d_X11_glad_9 : decode prog_13_method_92_code 9 = .ok (.iconst 0, 1) := by decide +kernel
theorem d_X11_glad_10 : decode prog_13_method_92_code 10 = .ok (.iaload, 1) := by decide +kernel
theorem d_X11_glad_11 : decode prog_13_method_92_code 11 = .ok (.istore_n 3, 1) := by decide +kernel
theorem d_X11_glad_12 : decode prog_13_method_92_code 12 = .ok (.iload_n 1, 1) := by decide +kernel
theorem d_X11_glad_13 : decode prog_13_method_92_code 13 = .ok (.i2l, 1) := by decide +kernel
theorem d_X11_glad_14 : decode prog_13_method_92_code 14 = .ok (.lconst 0, 1) := by decide +kernel
theorem d_X11_glad_15 : decode prog_13_method_92_code 15 = .ok (.ldc2_w 174, 3) := by decide +kernel
theorem d_X11_glad_18 : decode prog_13_method_92_code 18 = .ok (.invokestatic 165, 3) := by decide +kernel
theorem d_X11_glad_21 : decode prog_13_method_92_code 21 = .ok (.ifCond .eq 14, 3) := by decide +kernel
theorem d_X11_glad_24 : decode prog_13_method_92_code 24 = .ok (.iload_n 2, 1) := by decide +kernel
theorem d_X11_glad_25 : decode prog_13_method_92_code 25 = .ok (.i2l, 1) := by decide +kernel
theorem d_X11_glad_26 : decode prog_13_method_92_code 26 = .ok (.lconst 0, 1) := by decide +kernel
theorem d_X11_glad_27 : decode prog_13_method_92_code 27 = .ok (.iload_n 3, 1) := by decide +kernel
theorem d_X11_glad_28 : decode prog_13_method_92_code 28 = .ok (.i2l, 1) := by decide +kernel
theorem d_X11_glad_29 : decode prog_13_method_92_code 29 = .ok (.invokestatic 165, 3) := by decide +kernel
theorem d_X11_glad_32 : decode prog_13_method_92_code 32 = .ok (.ifCond .ne 5, 3) := by decide +kernel
theorem d_X11_glad_35 : decode prog_13_method_92_code 35 = .ok (.iconst (-1), 1) := by decide +kernel
theorem d_X11_glad_36 : decode prog_13_method_92_code 36 = .ok (.ireturn, 1) := by decide +kernel
theorem d_X11_glad_37 : decode prog_13_method_92_code 37 = .ok (.iconst 0, 1) := by decide +kernel
theorem d_X11_glad_38 : decode prog_13_method_92_code 38 = .ok (.istore 4, 2) := by decide +kernel
theorem d_X11_glad_40 : decode prog_13_method_92_code 40 = .ok (.iload 4, 2) := by decide +kernel
theorem d_X11_glad_42 : decode prog_13_method_92_code 42 = .ok (.bipush 100, 2) := by decide +kernel
theorem d_X11_glad_44 : decode prog_13_method_92_code 44 = .ok (.if_icmp .ge 33, 3) := by decide +kernel
theorem d_X11_glad_47 : decode prog_13_method_92_code 47 = .ok (.aload_n 0, 1) := by decide +kernel
theorem d_X11_glad_48 : decode prog_13_method_92_code 48 = .ok (.getfield 110, 3) := by decide +kernel
theorem d_X11_glad_51 : decode prog_13_method_92_code 51 = .ok (.bipush 100, 2) := by decide +kernel
theorem d_X11_glad_53 : decode prog_13_method_92_code 53 = .ok (.iload_n 3, 1) := by decide +kernel
theorem d_X11_glad_54 : decode prog_13_method_92_code 54 = .ok (.imul, 1) := by decide +kernel
theorem d_X11_glad_55 : decode prog_13_method_92_code 55 = .ok (.iload 4, 2) := by decide +kernel
theorem d_X11_glad_57 : decode prog_13_method_92_code 57 = .ok (.iadd, 1) := by decide +kernel
theorem d_X11_glad_58 : decode prog_13_method_92_code 58 = .ok (.iload 4, 2) := by decide +kernel
theorem d_X11_glad_60 : decode prog_13_method_92_code 60 = .ok (.ifCond .ne 7, 3) := by decide +kernel
theorem d_X11_glad_63 : decode prog_13_method_92_code 63 = .ok (.iconst 0, 1) := by decide +kernel
theorem d_X11_glad_64 : decode prog_13_method_92_code 64 = .ok (.goto 6, 3) := by decide +kernel
theorem d_X11_glad_67 : decode prog_13_method_92_code 67 = .ok (.ldc_w 461, 3) := by decide +kernel
theorem d_X11_glad_70 : decode prog_13_method_92_code 70 = .ok (.iastore, 1) := by decide +kernel
theorem d_X11_glad_71 : decode prog_13_method_92_code 71 = .ok (.iinc 4 1, 3) := by decide +kernel
theorem d_X11_glad_74 : decode prog_13_method_92_code 74 = .ok (.goto (-34), 3) := by decide +kernel
theorem d_X11_glad_77 : decode prog_13_method_92_code 77 = .ok (.iload_n 3, 1) := by decide +kernel
theorem d_X11_glad_78 : decode prog_13_method_92_code 78 = .ok (.iconst 1, 1) := by decide +kernel
theorem d_X11_glad_79 : decode prog_13_method_92_code 79 = .ok (.isub, 1) := by decide +kernel
theorem d_X11_glad_80 : decode prog_13_method_92_code 80 = .ok (.istore 4, 2) := by decide +kernel
theorem d_X11_glad_82 : decode prog_13_method_92_code 82 = .ok (.iload 4, 2) := by decide +kernel
theorem d_X11_glad_84 : decode prog_13_method_92_code 84 = .ok (.ifCond .lt 96, 3) := by decide +kernel
theorem d_X11_glad_87 : decode prog_13_method_92_code 87 = .ok (.aload_n 0, 1) := by decide +kernel
theorem d_X11_glad_88 : decode prog_13_method_92_code 88 = .ok (.iload 4, 2) := by decide +kernel
theorem d_X11_glad_90 : decode prog_13_method_92_code 90 = .ok (.invokevirtual 462, 3) := by decide +kernel
theorem d_X11_glad_93 : decode prog_13_method_92_code 93 = .ok (.istore 5, 2) := by decide +kernel
theorem d_X11_glad_95 : decode prog_13_method_92_code 95 = .ok (.iconst 0, 1) := by decide +kernel
theorem d_X11_glad_96 : decode prog_13_method_92_code 96 = .ok (.istore 6, 2) := by decide +kernel
theorem d_X11_glad_98 : decode prog_13_method_92_code 98 = .ok (.iload 6, 2) := by decide +kernel
theorem d_X11_glad_100 : decode prog_13_method_92_code 100 = .ok (.iload_n 1, 1) := by decide +kernel
theorem d_X11_glad_101 : decode prog_13_method_92_code 101 = .ok (.if_icmp .gt 73, 3) := by decide +kernel
theorem d_X11_glad_104 : decode prog_13_method_92_code 104 = .ok (.ldc_w 461, 3) := by decide +kernel
theorem d_X11_glad_107 : decode prog_13_method_92_code 107 = .ok (.istore 7, 2) := by decide +kernel
theorem d_X11_glad_109 : decode prog_13_method_92_code 109 = .ok (.iconst 0, 1) := by decide +kernel
theorem d_X11_glad_110 : decode prog_13_method_92_code 110 = .ok (.istore 8, 2) := by decide +kernel
theorem d_X11_glad_112 : decode prog_13_method_92_code 112 = .ok (.iload 8, 2) := by decide +kernel
theorem d_X11_glad_114 : decode prog_13_method_92_code 114 = .ok (.iload 5, 2) := by decide +kernel
theorem d_X11_glad_116 : decode prog_13_method_92_code 116 = .ok (.if_icmp .gt 37, 3) := by decide +kernel
theorem d_X11_glad_119 : decode prog_13_method_92_code 119 = .ok (.aload_n 0, 1) := by decide +kernel
theorem d_X11_glad_120 : decode prog_13_method_92_code 120 = .ok (.iload 4, 2) := by decide +kernel
theorem d_X11_glad_122 : decode prog_13_method_92_code 122 = .ok (.iload 6, 2) := by decide +kernel
theorem d_X11_glad_124 : decode prog_13_method_92_code 124 = .ok (.iload 8, 2) := by decide +kernel
theorem d_X11_glad_126 : decode prog_13_method_92_code 126 = .ok (.invokevirtual 465, 3) := by decide +kernel
theorem d_X11_glad_129 : decode prog_13_method_92_code 129 = .ok (.istore 9, 2) := by decide +kernel
theorem d_X11_glad_131 : decode prog_13_method_92_code 131 = .ok (.iload 9, 2) := by decide +kernel
theorem d_X11_glad_133 : decode prog_13_method_92_code 133 = .ok (.iload 7, 2) := by decide +kernel
theorem d_X11_glad_135 : decode prog_13_method_92_code 135 = .ok (.if_icmp .ge 8, 3) := by decide +kernel
theorem d_X11_glad_138 : decode prog_13_method_92_code 138 = .ok (.iload 9, 2) := by decide +kernel
theorem d_X11_glad_140 : decode prog_13_method_92_code 140 = .ok (.goto 5, 3) := by decide +kernel
theorem d_X11_glad_143 : decode prog_13_method_92_code 143 = .ok (.iload 7, 2) := by decide +kernel
theorem d_X11_glad_145 : decode prog_13_method_92_code 145 = .ok (.istore 7, 2) := by decide +kernel
theorem d_X11_glad_147 : decode prog_13_method_92_code 147 = .ok (.iinc 8 1, 3) := by decide +kernel
theorem d_X11_glad_150 : decode prog_13_method_92_code 150 = .ok (.goto (-38), 3) := by decide +kernel
theorem d_X11_glad_153 : decode prog_13_method_92_code 153 = .ok (.aload_n 0, 1) := by decide +kernel
theorem d_X11_glad_154 : decode prog_13_method_92_code 154 = .ok (.getfield 110, 3) := by decide +kernel
theorem d_X11_glad_157 : decode prog_13_method_92_code 157 = .ok (.bipush 100, 2) := by decide +kernel
theorem d_X11_glad_159 : decode prog_13_method_92_code 159 = .ok (.iload 4, 2) := by decide +kernel
theorem d_X11_glad_161 : decode prog_13_method_92_code 161 = .ok (.imul, 1) := by decide +kernel
theorem d_X11_glad_162 : decode prog_13_method_92_code 162 = .ok (.iload 6, 2) := by decide +kernel
theorem d_X11_glad_164 : decode prog_13_method_92_code 164 = .ok (.iadd, 1) := by decide +kernel
theorem d_X11_glad_165 : decode prog_13_method_92_code 165 = .ok (.iload 7, 2) := by decide +kernel
theorem d_X11_glad_167 : decode prog_13_method_92_code 167 = .ok (.iastore, 1) := by decide +kernel
theorem d_X11_glad_168 : decode prog_13_method_92_code 168 = .ok (.iinc 6 1, 3) := by decide +kernel
theorem d_X11_glad_171 : decode prog_13_method_92_code 171 = .ok (.goto (-73), 3) := by decide +kernel
theorem d_X11_glad_174 : decode prog_13_method_92_code 174 = .ok (.iinc 4 (-1), 3) := by decide +kernel
theorem d_X11_glad_177 : decode prog_13_method_92_code 177 = .ok (.goto (-95), 3) := by decide +kernel
theorem d_X11_glad_180 : decode prog_13_method_92_code 180 = .ok (.aload_n 0, 1) := by decide +kernel
theorem d_X11_glad_181 : decode prog_13_method_92_code 181 = .ok (.getfield 110, 3) := by decide +kernel
theorem d_X11_glad_184 : decode prog_13_method_92_code 184 = .ok (.iload_n 1, 1) := by decide +kernel
theorem d_X11_glad_185 : decode prog_13_method_92_code 185 = .ok (.iaload, 1) := by decide +kernel
theorem d_X11_glad_186 : decode prog_13_method_92_code 186 = .ok (.ldc_w 461, 3) := by decide +kernel
theorem d_X11_glad_189 : decode prog_13_method_92_code 189 = .ok (.if_icmp .eq 7, 3) := by decide +kernel
theorem d_X11_glad_192 : decode prog_13_method_92_code 192 = .ok (.iload_n 2, 1) := by decide +kernel
theorem d_X11_glad_193 : decode prog_13_method_92_code 193 = .ok (.ifCond .ne 26, 3) := by decide +kernel
theorem d_X11_glad_196 : decode prog_13_method_92_code 196 = .ok (.aload_n 0, 1) := by decide +kernel
theorem d_X11_glad_197 : decode prog_13_method_92_code 197 = .ok (.getfield 110, 3) := by decide +kernel
theorem d_X11_glad_200 : decode prog_13_method_92_code 200 = .ok (.iload_n 1, 1) := by decide +kernel
theorem d_X11_glad_201 : decode prog_13_method_92_code 201 = .ok (.iaload, 1) := by decide +kernel
theorem d_X11_glad_202 : decode prog_13_method_92_code 202 = .ok (.ldc_w 461, 3) := by decide +kernel
theorem d_X11_glad_205 : decode prog_13_method_92_code 205 = .ok (.if_icmp .ne 7, 3) := by decide +kernel
theorem d_X11_glad_208 : decode prog_13_method_92_code 208 = .ok (.iconst (-1), 1) := by decide +kernel
theorem d_X11_glad_209 : decode prog_13_method_92_code 209 = .ok (.goto 9, 3) := by decide +kernel
theorem d_X11_glad_212 : decode prog_13_method_92_code 212 = .ok (.aload_n 0, 1) := by decide +kernel
theorem d_X11_glad_213 : decode prog_13_method_92_code 213 = .ok (.getfield 110, 3) := by decide +kernel
theorem d_X11_glad_216 : decode prog_13_method_92_code 216 = .ok (.iload_n 1, 1) := by decide +kernel
theorem d_X11_glad_217 : decode prog_13_method_92_code 217 = .ok (.iaload, 1) := by decide +kernel
theorem d_X11_glad_218 : decode prog_13_method_92_code 218 = .ok (.ireturn, 1) := by decide +kernel
theorem d_X11_glad_219 : decode prog_13_method_92_code 219 = .ok (.iload_n 1, 1) := by decide +kernel
theorem d_X11_glad_220 : decode prog_13_method_92_code 220 = .ok (.istore 4, 2) := by decide +kernel
theorem d_X11_glad_222 : decode prog_13_method_92_code 222 = .ok (.iconst 0, 1) := by decide +kernel
theorem d_X11_glad_223 : decode prog_13_method_92_code 223 = .ok (.istore 5, 2) := by decide +kernel
theorem d_X11_glad_225 : decode prog_13_method_92_code 225 = .ok (.iconst 0, 1) := by decide +kernel
theorem d_X11_glad_226 : decode prog_13_method_92_code 226 = .ok (.istore 6, 2) := by decide +kernel
theorem d_X11_glad_228 : decode prog_13_method_92_code 228 = .ok (.iload 6, 2) := by decide +kernel
theorem d_X11_glad_230 : decode prog_13_method_92_code 230 = .ok (.iload_n 2, 1) := by decide +kernel
theorem d_X11_glad_231 : decode prog_13_method_92_code 231 = .ok (.if_icmp .ge 71, 3) := by decide +kernel
theorem d_X11_glad_234 : decode prog_13_method_92_code 234 = .ok (.iconst 0, 1) := by decide +kernel
theorem d_X11_glad_235 : decode prog_13_method_92_code 235 = .ok (.istore 5, 2) := by decide +kernel
theorem d_X11_glad_237 : decode prog_13_method_92_code 237 = .ok (.aload_n 0, 1) := by decide +kernel
theorem d_X11_glad_238 : decode prog_13_method_92_code 238 = .ok (.iload 6, 2) := by decide +kernel
theorem d_X11_glad_240 : decode prog_13_method_92_code 240 = .ok (.iload 4, 2) := by decide +kernel
theorem d_X11_glad_242 : decode prog_13_method_92_code 242 = .ok (.iload 5, 2) := by decide +kernel
theorem d_X11_glad_244 : decode prog_13_method_92_code 244 = .ok (.invokevirtual 465, 3) := by decide +kernel
theorem d_X11_glad_247 : decode prog_13_method_92_code 247 = .ok (.aload_n 0, 1) := by decide +kernel
theorem d_X11_glad_248 : decode prog_13_method_92_code 248 = .ok (.getfield 110, 3) := by decide +kernel
theorem d_X11_glad_251 : decode prog_13_method_92_code 251 = .ok (.bipush 100, 2) := by decide +kernel
theorem d_X11_glad_253 : decode prog_13_method_92_code 253 = .ok (.iload 6, 2) := by decide +kernel
theorem d_X11_glad_255 : decode prog_13_method_92_code 255 = .ok (.imul, 1) := by decide +kernel
theorem d_X11_glad_256 : decode prog_13_method_92_code 256 = .ok (.iload 4, 2) := by decide +kernel
theorem d_X11_glad_258 : decode prog_13_method_92_code 258 = .ok (.iadd, 1) := by decide +kernel
theorem d_X11_glad_259 : decode prog_13_method_92_code 259 = .ok (.iaload, 1) := by decide +kernel
theorem d_X11_glad_260 : decode prog_13_method_92_code 260 = .ok (.if_icmp .eq 9, 3) := by decide +kernel
theorem d_X11_glad_263 : decode prog_13_method_92_code 263 = .ok (.iinc 5 1, 3) := by decide +kernel
theorem d_X11_glad_266 : decode prog_13_method_92_code 266 = .ok (.goto (-29), 3) := by decide +kernel
theorem d_X11_glad_269 : decode prog_13_method_92_code 269 = .ok (.iload 4, 2) := by decide +kernel
theorem d_X11_glad_271 : decode prog_13_method_92_code 271 = .ok (.iload 5, 2) := by decide +kernel
theorem d_X11_glad_273 : decode prog_13_method_92_code 273 = .ok (.aload_n 0, 1) := by decide +kernel
theorem d_X11_glad_274 : decode prog_13_method_92_code 274 = .ok (.iload 6, 2) := by decide +kernel
theorem d_X11_glad_276 : decode prog_13_method_92_code 276 = .ok (.invokevirtual 195, 3) := by decide +kernel
theorem d_X11_glad_279 : decode prog_13_method_92_code 279 = .ok (.imul, 1) := by decide +kernel
theorem d_X11_glad_280 : decode prog_13_method_92_code 280 = .ok (.isub, 1) := by decide +kernel
theorem d_X11_glad_281 : decode prog_13_method_92_code 281 = .ok (.istore 4, 2) := by decide +kernel
theorem d_X11_glad_283 : decode prog_13_method_92_code 283 = .ok (.iload 4, 2) := by decide +kernel
theorem d_X11_glad_285 : decode prog_13_method_92_code 285 = .ok (.ifCond .ge 7, 3) := by decide +kernel
theorem d_X11_glad_288 : decode prog_13_method_92_code 288 = .ok (.iconst 0, 1) := by decide +kernel
theorem d_X11_glad_289 : decode prog_13_method_92_code 289 = .ok (.goto 5, 3) := by decide +kernel
theorem d_X11_glad_292 : decode prog_13_method_92_code 292 = .ok (.iload 4, 2) := by decide +kernel
theorem d_X11_glad_294 : decode prog_13_method_92_code 294 = .ok (.istore 4, 2) := by decide +kernel
theorem d_X11_glad_296 : decode prog_13_method_92_code 296 = .ok (.iinc 6 1, 3) := by decide +kernel
theorem d_X11_glad_299 : decode prog_13_method_92_code 299 = .ok (.goto (-71), 3) := by decide +kernel
theorem d_X11_glad_302 : decode prog_13_method_92_code 302 = .ok (.iload 5, 2) := by decide +kernel
theorem d_X11_glad_304 : decode prog_13_method_92_code 304 = .ok (.ireturn, 1) := by decide +kernel
theorem d_X11_placeOf_0 : decode prog_13_method_93_code 0 = .ok (.aload_n 0, 1) := by decide +kernel
theorem d_X11_placeOf_1 : decode prog_13_method_93_code 1 = .ok (.getfield 13, 3) := by decide +kernel
theorem d_X11_placeOf_4 : decode prog_13_method_93_code 4 = .ok (.bipush 48, 2) := by decide +kernel
theorem d_X11_placeOf_6 : decode prog_13_method_93_code 6 = .ok (.aload_n 0, 1) := by decide +kernel
theorem d_X11_placeOf_7 : decode prog_13_method_93_code 7 = .ok (.iload_n 1, 1) := by decide +kernel
theorem d_X11_placeOf_8 : decode prog_13_method_93_code 8 = .ok (.invokevirtual 438, 3) := by decide +kernel
theorem d_X11_placeOf_11 : decode prog_13_method_93_code 11 = .ok (.iadd, 1) := by decide +kernel
theorem d_X11_placeOf_12 : decode prog_13_method_93_code 12 = .ok (.iaload, 1) := by decide +kernel
theorem d_X11_placeOf_13 : decode prog_13_method_93_code 13 = .ok (.ireturn, 1) := by decide +kernel
theorem d_X11_layRounds_0 : decode prog_13_method_94_code 0 = .ok (.iconst 0, 1) := by decide +kernel
theorem d_X11_layRounds_1 : decode prog_13_method_94_code 1 = .ok (.istore_n 2, 1) := by decide +kernel
theorem d_X11_layRounds_2 : decode prog_13_method_94_code 2 = .ok (.iload_n 2, 1) := by decide +kernel
theorem d_X11_layRounds_3 : decode prog_13_method_94_code 3 = .ok (.sipush 256, 3) := by decide +kernel
theorem d_X11_layRounds_6 : decode prog_13_method_94_code 6 = .ok (.if_icmp .ge 150, 3) := by decide +kernel
theorem d_X11_layRounds_9 : decode prog_13_method_94_code 9 = .ok (.iconst 0, 1) := by decide +kernel
theorem d_X11_layRounds_10 : decode prog_13_method_94_code 10 = .ok (.istore_n 3, 1) := by decide +kernel
theorem d_X11_layRounds_11 : decode prog_13_method_94_code 11 = .ok (.iload_n 3, 1) := by decide +kernel
theorem d_X11_layRounds_12 : decode prog_13_method_94_code 12 = .ok (.bipush 8, 2) := by decide +kernel
theorem d_X11_layRounds_14 : decode prog_13_method_94_code 14 = .ok (.if_icmp .ge 136, 3) := by decide +kernel
theorem d_X11_layRounds_17 : decode prog_13_method_94_code 17 = .ok (.iload_n 2, 1) := by decide +kernel
theorem d_X11_layRounds_18 : decode prog_13_method_94_code 18 = .ok (.ifCond .ne 7, 3) := by decide +kernel
theorem d_X11_layRounds_21 : decode prog_13_method_94_code 21 = .ok (.iconst 0, 1) := by decide +kernel
theorem d_X11_layRounds_22 : decode prog_13_method_94_code 22 = .ok (.goto 6, 3) := by decide +kernel
theorem d_X11_layRounds_25 : decode prog_13_method_94_code 25 = .ok (.ldc_w 461, 3) := by decide +kernel
theorem d_X11_layRounds_28 : decode prog_13_method_94_code 28 = .ok (.istore 4, 2) := by decide +kernel
theorem d_X11_layRounds_30 : decode prog_13_method_94_code 30 = .ok (.iconst 0, 1) := by decide +kernel
theorem d_X11_layRounds_31 : decode prog_13_method_94_code 31 = .ok (.istore 5, 2) := by decide +kernel
theorem d_X11_layRounds_33 : decode prog_13_method_94_code 33 = .ok (.iload 5, 2) := by decide +kernel
theorem d_X11_layRounds_35 : decode prog_13_method_94_code 35 = .ok (.aload_n 0, 1) := by decide +kernel
theorem d_X11_layRounds_36 : decode prog_13_method_94_code 36 = .ok (.getfield 13, 3) := by decide +kernel
theorem d_X11_layRounds_39 : decode prog_13_method_94_code 39 = .ok (.iconst 0, 1) := by decide +kernel
theorem d_X11_layRounds_40 : decode prog_13_method_94_code 40 = .ok (.iaload, 1) := by decide +kernel
theorem d_X11_layRounds_41 : decode prog_13_method_94_code 41 = .ok (.if_icmp .ge 90, 3) := by decide +kernel
theorem d_X11_layRounds_44 : decode prog_13_method_94_code 44 = .ok (.iload_n 2, 1) := by decide +kernel
theorem d_X11_layRounds_45 : decode prog_13_method_94_code 45 = .ok (.iload_n 1, 1) := by decide +kernel
theorem d_X11_layRounds_46 : decode prog_13_method_94_code 46 = .ok (.iconst (-1), 1) := by decide +kernel
theorem d_X11_layRounds_47 : decode prog_13_method_94_code 47 = .ok (.ixor, 1) := by decide +kernel
theorem d_X11_layRounds_48 : decode prog_13_method_94_code 48 = .ok (.iand, 1) := by decide +kernel
theorem d_X11_layRounds_49 : decode prog_13_method_94_code 49 = .ok (.ifCond .ne 82, 3) := by decide +kernel
theorem d_X11_layRounds_52 : decode prog_13_method_94_code 52 = .ok (.iload_n 1, 1) := by decide +kernel
theorem d_X11_layRounds_53 : decode prog_13_method_94_code 53 = .ok (.iload_n 3, 1) := by decide +kernel
theorem d_X11_layRounds_54 : decode prog_13_method_94_code 54 = .ok (.invokestatic 469, 3) := by decide +kernel
theorem d_X11_layRounds_57 : decode prog_13_method_94_code 57 = .ok (.ifCond .eq 74, 3) := by decide +kernel
theorem d_X11_layRounds_60 : decode prog_13_method_94_code 60 = .ok (.iload_n 2, 1) := by decide +kernel
theorem d_X11_layRounds_61 : decode prog_13_method_94_code 61 = .ok (.iload 5, 2) := by decide +kernel
theorem d_X11_layRounds_63 : decode prog_13_method_94_code 63 = .ok (.invokestatic 469, 3) := by decide +kernel
theorem d_X11_layRounds_66 : decode prog_13_method_94_code 66 = .ok (.ifCond .eq 38, 3) := by decide +kernel
theorem d_X11_layRounds_69 : decode prog_13_method_94_code 69 = .ok (.aload_n 0, 1) := by decide +kernel
theorem d_X11_layRounds_70 : decode prog_13_method_94_code 70 = .ok (.iload_n 3, 1) := by decide +kernel
theorem d_X11_layRounds_71 : decode prog_13_method_94_code 71 = .ok (.invokevirtual 473, 3) := by decide +kernel
theorem d_X11_layRounds_74 : decode prog_13_method_94_code 74 = .ok (.aload_n 0, 1) := by decide +kernel
theorem d_X11_layRounds_75 : decode prog_13_method_94_code 75 = .ok (.iload 5, 2) := by decide +kernel
theorem d_X11_layRounds_77 : decode prog_13_method_94_code 77 = .ok (.invokevirtual 473, 3) := by decide +kernel
theorem d_X11_layRounds_80 : decode prog_13_method_94_code 80 = .ok (.invokestatic 476, 3) := by decide +kernel
theorem d_X11_layRounds_83 : decode prog_13_method_94_code 83 = .ok (.aload_n 0, 1) := by decide +kernel
theorem d_X11_layRounds_84 : decode prog_13_method_94_code 84 = .ok (.getfield 113, 3) := by decide +kernel
theorem d_X11_layRounds_87 : decode prog_13_method_94_code 87 = .ok (.bipush 8, 2) := by decide +kernel
theorem d_X11_layRounds_89 : decode prog_13_method_94_code 89 = .ok (.iload_n 2, 1) := by decide +kernel
theorem d_X11_layRounds_90 : decode prog_13_method_94_code 90 = .ok (.iconst 1, 1) := by decide +kernel
theorem d_X11_layRounds_91 : decode prog_13_method_94_code 91 = .ok (.iload 5, 2) := by decide +kernel
theorem d_X11_layRounds_93 : decode prog_13_method_94_code 93 = .ok (.ishl, 1) := by decide +kernel
theorem d_X11_layRounds_94 : decode prog_13_method_94_code 94 = .ok (.isub, 1) := by decide +kernel
theorem d_X11_layRounds_95 : decode prog_13_method_94_code 95 = .ok (.imul, 1) := by decide +kernel
theorem d_X11_layRounds_96 : decode prog_13_method_94_code 96 = .ok (.iload 5, 2) := by decide +kernel
theorem d_X11_layRounds_98 : decode prog_13_method_94_code 98 = .ok (.iadd, 1) := by decide +kernel
theorem d_X11_layRounds_99 : decode prog_13_method_94_code 99 = .ok (.iaload, 1) := by decide +kernel
theorem d_X11_layRounds_100 : decode prog_13_method_94_code 100 = .ok (.iadd, 1) := by decide +kernel
theorem d_X11_layRounds_101 : decode prog_13_method_94_code 101 = .ok (.goto 6, 3) := by decide +kernel
theorem d_X11_layRounds_104 : decode prog_13_method_94_code 104 = .ok (.ldc_w 461, 3) := by decide +kernel
theorem d_X11_layRounds_107 : decode prog_13_method_94_code 107 = .ok (.istore 6, 2) := by decide +kernel
theorem d_X11_layRounds_109 : decode prog_13_method_94_code 109 = .ok (.iload 6, 2) := by decide +kernel
theorem d_X11_layRounds_111 : decode prog_13_method_94_code 111 = .ok (.iload 4, 2) := by decide +kernel
theorem d_X11_layRounds_113 : decode prog_13_method_94_code 113 = .ok (.if_icmp .ge 8, 3) := by decide +kernel
theorem d_X11_layRounds_116 : decode prog_13_method_94_code 116 = .ok (.iload 6, 2) := by decide +kernel
theorem d_X11_layRounds_118 : decode prog_13_method_94_code 118 = .ok (.goto 5, 3) := by decide +kernel
theorem d_X11_layRounds_121 : decode prog_13_method_94_code 121 = .ok (.iload 4, 2) := by decide +kernel
theorem d_X11_layRounds_123 : decode prog_13_method_94_code 123 = .ok (.istore 4, 2) := by decide +kernel
theorem d_X11_layRounds_125 : decode prog_13_method_94_code 125 = .ok (.iinc 5 1, 3) := by decide +kernel
theorem d_X11_layRounds_128 : decode prog_13_method_94_code 128 = .ok (.goto (-95), 3) := by decide +kernel
theorem d_X11_layRounds_131 : decode prog_13_method_94_code 131 = .ok (.aload_n 0, 1) := by decide +kernel
theorem d_X11_layRounds_132 : decode prog_13_method_94_code 132 = .ok (.getfield 113, 3) := by decide +kernel
theorem d_X11_layRounds_135 : decode prog_13_method_94_code 135 = .ok (.bipush 8, 2) := by decide +kernel
theorem d_X11_layRounds_137 : decode prog_13_method_94_code 137 = .ok (.iload_n 2, 1) := by decide +kernel
theorem d_X11_layRounds_138 : decode prog_13_method_94_code 138 = .ok (.imul, 1) := by decide +kernel
theorem d_X11_layRounds_139 : decode prog_13_method_94_code 139 = .ok (.iload_n 3, 1) := by decide +kernel
theorem d_X11_layRounds_140 : decode prog_13_method_94_code 140 = .ok (.iadd, 1) := by decide +kernel
theorem d_X11_layRounds_141 : decode prog_13_method_94_code 141 = .ok (.iload 4, 2) := by decide +kernel
theorem d_X11_layRounds_143 : decode prog_13_method_94_code 143 = .ok (.iastore, 1) := by decide +kernel
theorem d_X11_layRounds_144 : decode prog_13_method_94_code 144 = .ok (.iinc 3 1, 3) := by decide +kernel
theorem d_X11_layRounds_147 : decode prog_13_method_94_code 147 = .ok (.goto (-136), 3) := by decide +kernel
theorem d_X11_layRounds_150 : decode prog_13_method_94_code 150 = .ok (.iinc 2 1, 3) := by decide +kernel
theorem d_X11_layRounds_153 : decode prog_13_method_94_code 153 = .ok (.goto (-151), 3) := by decide +kernel
theorem d_X11_layRounds_156 : decode prog_13_method_94_code 156 = .ok (.return_, 1) := by decide +kernel
theorem d_X11_fromPlace_0 : decode prog_13_method_95_code 0 = .ok (.iload_n 2, 1) := by decide +kernel
theorem d_X11_fromPlace_1 : decode prog_13_method_95_code 1 = .ok (.iload_n 3, 1) := by decide +kernel
theorem d_X11_fromPlace_2 : decode prog_13_method_95_code 2 = .ok (.invokestatic 469, 3) := by decide +kernel
theorem d_X11_fromPlace_5 : decode prog_13_method_95_code 5 = .ok (.ifCond .eq 31, 3) := by decide +kernel
theorem d_X11_fromPlace_8 : decode prog_13_method_95_code 8 = .ok (.iload_n 1, 1) := by decide +kernel
theorem d_X11_fromPlace_9 : decode prog_13_method_95_code 9 = .ok (.aload_n 0, 1) := by decide +kernel
theorem d_X11_fromPlace_10 : decode prog_13_method_95_code 10 = .ok (.iload_n 3, 1) := by decide +kernel
theorem d_X11_fromPlace_11 : decode prog_13_method_95_code 11 = .ok (.invokevirtual 473, 3) := by decide +kernel
theorem d_X11_fromPlace_14 : decode prog_13_method_95_code 14 = .ok (.invokestatic 476, 3) := by decide +kernel
theorem d_X11_fromPlace_17 : decode prog_13_method_95_code 17 = .ok (.aload_n 0, 1) := by decide +kernel
theorem d_X11_fromPlace_18 : decode prog_13_method_95_code 18 = .ok (.getfield 113, 3) := by decide +kernel
theorem d_X11_fromPlace_21 : decode prog_13_method_95_code 21 = .ok (.bipush 8, 2) := by decide +kernel
theorem d_X11_fromPlace_23 : decode prog_13_method_95_code 23 = .ok (.iload_n 2, 1) := by decide +kernel
theorem d_X11_fromPlace_24 : decode prog_13_method_95_code 24 = .ok (.iconst 1, 1) := by decide +kernel
theorem d_X11_fromPlace_25 : decode prog_13_method_95_code 25 = .ok (.iload_n 3, 1) := by decide +kernel
theorem d_X11_fromPlace_26 : decode prog_13_method_95_code 26 = .ok (.ishl, 1) := by decide +kernel
theorem d_X11_fromPlace_27 : decode prog_13_method_95_code 27 = .ok (.isub, 1) := by decide +kernel
theorem d_X11_fromPlace_28 : decode prog_13_method_95_code 28 = .ok (.imul, 1) := by decide +kernel
theorem d_X11_fromPlace_29 : decode prog_13_method_95_code 29 = .ok (.iload_n 3, 1) := by decide +kernel
theorem d_X11_fromPlace_30 : decode prog_13_method_95_code 30 = .ok (.iadd, 1) := by decide +kernel
theorem d_X11_fromPlace_31 : decode prog_13_method_95_code 31 = .ok (.iaload, 1) := by decide +kernel
theorem d_X11_fromPlace_32 : decode prog_13_method_95_code 32 = .ok (.iadd, 1) := by decide +kernel
theorem d_X11_fromPlace_33 : decode prog_13_method_95_code 33 = .ok (.goto 6, 3) := by decide +kernel
theorem d_X11_fromPlace_36 : decode prog_13_method_95_code 36 = .ok (.ldc_w 461, 3) := by decide +kernel
theorem d_X11_fromPlace_39 : decode prog_13_method_95_code 39 = .ok (.ireturn, 1) := by decide +kernel
theorem d_X11_round_0 : decode prog_13_method_96_code 0 = .ok (.aload_n 0, 1) := by decide +kernel
theorem d_X11_round_1 : decode prog_13_method_96_code 1 = .ok (.iconst 0, 1) := by decide +kernel
theorem d_X11_round_2 : decode prog_13_method_96_code 2 = .ok (.putfield 145, 3) := by decide +kernel
theorem d_X11_round_5 : decode prog_13_method_96_code 5 = .ok (.iload_n 1, 1) := by decide +kernel
theorem d_X11_round_6 : decode prog_13_method_96_code 6 = .ok (.i2l, 1) := by decide +kernel
theorem d_X11_round_7 : decode prog_13_method_96_code 7 = .ok (.lconst 0, 1) := by decide +kernel
theorem d_X11_round_8 : decode prog_13_method_96_code 8 = .ok (.ldc2_w 178, 3) := by decide +kernel
theorem d_X11_round_11 : decode prog_13_method_96_code 11 = .ok (.invokestatic 165, 3) := by decide +kernel
theorem d_X11_round_14 : decode prog_13_method_96_code 14 = .ok (.ifCond .eq 8, 3) := by decide +kernel
theorem d_X11_round_17 : decode prog_13_method_96_code 17 = .ok (.iload_n 2, 1) := by decide +kernel
theorem d_X11_round_18 : decode prog_13_method_96_code 18 = .ok (.iconst (-1), 1) := by decide +kernel
theorem d_X11_round_19 : decode prog_13_method_96_code 19 = .ok (.if_icmp .ge 5, 3) := by decide +kernel
theorem d_X11_round_22 : decode prog_13_method_96_code 22 = .ok (.iconst (-1), 1) := by decide +kernel
theorem d_X11_round_23 : decode prog_13_method_96_code 23 = .ok (.ireturn, 1) := by decide +kernel
theorem d_X11_round_24 : decode prog_13_method_96_code 24 = .ok (.iconst 0, 1) := by decide +kernel
theorem d_X11_round_25 : decode prog_13_method_96_code 25 = .ok (.istore_n 3, 1) := by decide +kernel
theorem d_X11_round_26 : decode prog_13_method_96_code 26 = .ok (.iconst 0, 1) := by decide +kernel
theorem d_X11_round_27 : decode prog_13_method_96_code 27 = .ok (.istore 4, 2) := by decide +kernel
theorem d_X11_round_29 : decode prog_13_method_96_code 29 = .ok (.iload 4, 2) := by decide +kernel
theorem d_X11_round_31 : decode prog_13_method_96_code 31 = .ok (.aload_n 0, 1) := by decide +kernel
theorem d_X11_round_32 : decode prog_13_method_96_code 32 = .ok (.getfield 13, 3) := by decide +kernel
theorem d_X11_round_35 : decode prog_13_method_96_code 35 = .ok (.iconst 0, 1) := by decide +kernel
theorem d_X11_round_36 : decode prog_13_method_96_code 36 = .ok (.iaload, 1) := by decide +kernel
theorem d_X11_round_37 : decode prog_13_method_96_code 37 = .ok (.if_icmp .ge 29, 3) := by decide +kernel
theorem d_X11_round_40 : decode prog_13_method_96_code 40 = .ok (.iload_n 3, 1) := by decide +kernel
theorem d_X11_round_41 : decode prog_13_method_96_code 41 = .ok (.aload_n 0, 1) := by decide +kernel
theorem d_X11_round_42 : decode prog_13_method_96_code 42 = .ok (.iload 4, 2) := by decide +kernel
theorem d_X11_round_44 : decode prog_13_method_96_code 44 = .ok (.invokevirtual 192, 3) := by decide +kernel
theorem d_X11_round_47 : decode prog_13_method_96_code 47 = .ok (.ifCond .le 10, 3) := by decide +kernel
theorem d_X11_round_50 : decode prog_13_method_96_code 50 = .ok (.iconst 1, 1) := by decide +kernel
theorem d_X11_round_51 : decode prog_13_method_96_code 51 = .ok (.iload 4, 2) := by decide +kernel
theorem d_X11_round_53 : decode prog_13_method_96_code 53 = .ok (.ishl, 1) := by decide +kernel
theorem d_X11_round_54 : decode prog_13_method_96_code 54 = .ok (.goto 4, 3) := by decide +kernel
theorem d_X11_round_57 : decode prog_13_method_96_code 57 = .ok (.iconst 0, 1) := by decide +kernel
theorem d_X11_round_58 : decode prog_13_method_96_code 58 = .ok (.ior, 1) := by decide +kernel
theorem d_X11_round_59 : decode prog_13_method_96_code 59 = .ok (.istore_n 3, 1) := by decide +kernel
theorem d_X11_round_60 : decode prog_13_method_96_code 60 = .ok (.iinc 4 1, 3) := by decide +kernel
theorem d_X11_round_63 : decode prog_13_method_96_code 63 = .ok (.goto (-34), 3) := by decide +kernel
theorem d_X11_round_66 : decode prog_13_method_96_code 66 = .ok (.aload_n 0, 1) := by decide +kernel
theorem d_X11_round_67 : decode prog_13_method_96_code 67 = .ok (.iload_n 3, 1) := by decide +kernel
theorem d_X11_round_68 : decode prog_13_method_96_code 68 = .ok (.invokevirtual 479, 3) := by decide +kernel
theorem d_X11_round_71 : decode prog_13_method_96_code 71 = .ok (.iload_n 1, 1) := by decide +kernel
theorem d_X11_round_72 : decode prog_13_method_96_code 72 = .ok (.istore 4, 2) := by decide +kernel
theorem d_X11_round_74 : decode prog_13_method_96_code 74 = .ok (.iconst (-1), 1) := by decide +kernel
theorem d_X11_round_75 : decode prog_13_method_96_code 75 = .ok (.istore 5, 2) := by decide +kernel
theorem d_X11_round_77 : decode prog_13_method_96_code 77 = .ok (.iconst 0, 1) := by decide +kernel
theorem d_X11_round_78 : decode prog_13_method_96_code 78 = .ok (.istore 6, 2) := by decide +kernel
theorem d_X11_round_80 : decode prog_13_method_96_code 80 = .ok (.iconst 0, 1) := by decide +kernel
theorem d_X11_round_81 : decode prog_13_method_96_code 81 = .ok (.istore 7, 2) := by decide +kernel
theorem d_X11_round_83 : decode prog_13_method_96_code 83 = .ok (.iload_n 3, 1) := by decide +kernel
theorem d_X11_round_84 : decode prog_13_method_96_code 84 = .ok (.ifCond .eq 100, 3) := by decide +kernel
theorem d_X11_round_87 : decode prog_13_method_96_code 87 = .ok (.iload_n 2, 1) := by decide +kernel
theorem d_X11_round_88 : decode prog_13_method_96_code 88 = .ok (.iconst (-1), 1) := by decide +kernel
theorem d_X11_round_89 : decode prog_13_method_96_code 89 = .ok (.if_icmp .eq 9, 3) := by decide +kernel
theorem d_X11_round_92 : decode prog_13_method_96_code 92 = .ok (.iload 7, 2) := by decide +kernel
theorem d_X11_round_94 : decode prog_13_method_96_code 94 = .ok (.iload_n 2, 1) := by decide +kernel
theorem d_X11_round_95 : decode prog_13_method_96_code 95 = .ok (.if_icmp .gt 89, 3) := by decide +kernel
theorem d_X11_round_98 : decode prog_13_method_96_code 98 = .ok (.iconst 0, 1) := by decide +kernel
theorem d_X11_round_99 : decode prog_13_method_96_code 99 = .ok (.istore 5, 2) := by decide +kernel
theorem d_X11_round_101 : decode prog_13_method_96_code 101 = .ok (.iconst 1, 1) := by decide +kernel
theorem d_X11_round_102 : decode prog_13_method_96_code 102 = .ok (.istore 8, 2) := by decide +kernel
theorem d_X11_round_104 : decode prog_13_method_96_code 104 = .ok (.iload 8, 2) := by decide +kernel
theorem d_X11_round_106 : decode prog_13_method_96_code 106 = .ok (.bipush 8, 2) := by decide +kernel
theorem d_X11_round_108 : decode prog_13_method_96_code 108 = .ok (.if_icmp .ge 39, 3) := by decide +kernel
theorem d_X11_round_111 : decode prog_13_method_96_code 111 = .ok (.aload_n 0, 1) := by decide +kernel
theorem d_X11_round_112 : decode prog_13_method_96_code 112 = .ok (.iload 4, 2) := by decide +kernel
theorem d_X11_round_114 : decode prog_13_method_96_code 114 = .ok (.iload_n 3, 1) := by decide +kernel
theorem d_X11_round_115 : decode prog_13_method_96_code 115 = .ok (.iload 8, 2) := by decide +kernel
theorem d_X11_round_117 : decode prog_13_method_96_code 117 = .ok (.invokevirtual 482, 3) := by decide +kernel
theorem d_X11_round_120 : decode prog_13_method_96_code 120 = .ok (.aload_n 0, 1) := by decide +kernel
theorem d_X11_round_121 : decode prog_13_method_96_code 121 = .ok (.iload 4, 2) := by decide +kernel
theorem d_X11_round_123 : decode prog_13_method_96_code 123 = .ok (.iload_n 3, 1) := by decide +kernel
theorem d_X11_round_124 : decode prog_13_method_96_code 124 = .ok (.iload 5, 2) := by decide +kernel
theorem d_X11_round_126 : decode prog_13_method_96_code 126 = .ok (.invokevirtual 482, 3) := by decide +kernel
theorem d_X11_round_129 : decode prog_13_method_96_code 129 = .ok (.if_icmp .ge 8, 3) := by decide +kernel
theorem d_X11_round_132 : decode prog_13_method_96_code 132 = .ok (.iload 8, 2) := by decide +kernel
theorem d_X11_round_134 : decode prog_13_method_96_code 134 = .ok (.goto 5, 3) := by decide +kernel
theorem d_X11_round_137 : decode prog_13_method_96_code 137 = .ok (.iload 5, 2) := by decide +kernel
theorem d_X11_round_139 : decode prog_13_method_96_code 139 = .ok (.istore 5, 2) := by decide +kernel
theorem d_X11_round_141 : decode prog_13_method_96_code 141 = .ok (.iinc 8 1, 3) := by decide +kernel
theorem d_X11_round_144 : decode prog_13_method_96_code 144 = .ok (.goto (-40), 3) := by decide +kernel
theorem d_X11_round_147 : decode prog_13_method_96_code 147 = .ok (.iload 6, 2) := by decide +kernel
theorem d_X11_round_149 : decode prog_13_method_96_code 149 = .ok (.iload 4, 2) := by decide +kernel
theorem d_X11_round_151 : decode prog_13_method_96_code 151 = .ok (.aload_n 0, 1) := by decide +kernel
theorem d_X11_round_152 : decode prog_13_method_96_code 152 = .ok (.iload 5, 2) := by decide +kernel
theorem d_X11_round_154 : decode prog_13_method_96_code 154 = .ok (.invokevirtual 473, 3) := by decide +kernel
theorem d_X11_round_157 : decode prog_13_method_96_code 157 = .ok (.invokestatic 476, 3) := by decide +kernel
theorem d_X11_round_160 : decode prog_13_method_96_code 160 = .ok (.iadd, 1) := by decide +kernel
theorem d_X11_round_161 : decode prog_13_method_96_code 161 = .ok (.istore 6, 2) := by decide +kernel
theorem d_X11_round_163 : decode prog_13_method_96_code 163 = .ok (.aload_n 0, 1) := by decide +kernel
theorem d_X11_round_164 : decode prog_13_method_96_code 164 = .ok (.iload 5, 2) := by decide +kernel
theorem d_X11_round_166 : decode prog_13_method_96_code 166 = .ok (.invokevirtual 473, 3) := by decide +kernel
theorem d_X11_round_169 : decode prog_13_method_96_code 169 = .ok (.istore 4, 2) := by decide +kernel
theorem d_X11_round_171 : decode prog_13_method_96_code 171 = .ok (.iload_n 3, 1) := by decide +kernel
theorem d_X11_round_172 : decode prog_13_method_96_code 172 = .ok (.iconst 1, 1) := by decide +kernel
theorem d_X11_round_173 : decode prog_13_method_96_code 173 = .ok (.iload 5, 2) := by decide +kernel
theorem d_X11_round_175 : decode prog_13_method_96_code 175 = .ok (.ishl, 1) := by decide +kernel
theorem d_X11_round_176 : decode prog_13_method_96_code 176 = .ok (.isub, 1) := by decide +kernel
theorem d_X11_round_177 : decode prog_13_method_96_code 177 = .ok (.istore_n 3, 1) := by decide +kernel
theorem d_X11_round_178 : decode prog_13_method_96_code 178 = .ok (.iinc 7 1, 3) := by decide +kernel
theorem d_X11_round_181 : decode prog_13_method_96_code 181 = .ok (.goto (-98), 3) := by decide +kernel
theorem d_X11_round_184 : decode prog_13_method_96_code 184 = .ok (.iload_n 2, 1) := by decide +kernel
theorem d_X11_round_185 : decode prog_13_method_96_code 185 = .ok (.iconst (-1), 1) := by decide +kernel
theorem d_X11_round_186 : decode prog_13_method_96_code 186 = .ok (.if_icmp .ne 8, 3) := by decide +kernel
theorem d_X11_round_189 : decode prog_13_method_96_code 189 = .ok (.iload 6, 2) := by decide +kernel
theorem d_X11_round_191 : decode prog_13_method_96_code 191 = .ok (.goto 17, 3) := by decide +kernel
theorem d_X11_round_194 : decode prog_13_method_96_code 194 = .ok (.iload 7, 2) := by decide +kernel
theorem d_X11_round_196 : decode prog_13_method_96_code 196 = .ok (.iload_n 2, 1) := by decide +kernel
theorem d_X11_round_197 : decode prog_13_method_96_code 197 = .ok (.iconst 1, 1) := by decide +kernel
theorem d_X11_round_198 : decode prog_13_method_96_code 198 = .ok (.iadd, 1) := by decide +kernel
theorem d_X11_round_199 : decode prog_13_method_96_code 199 = .ok (.if_icmp .ne 8, 3) := by decide +kernel
theorem d_X11_round_202 : decode prog_13_method_96_code 202 = .ok (.iload 5, 2) := by decide +kernel
theorem d_X11_round_204 : decode prog_13_method_96_code 204 = .ok (.goto 4, 3) := by decide +kernel
theorem d_X11_round_207 : decode prog_13_method_96_code 207 = .ok (.iconst (-1), 1) := by decide +kernel
theorem d_X11_round_208 : decode prog_13_method_96_code 208 = .ok (.ireturn, 1) := by decide +kernel
theorem d_X11_isBought_0 : decode prog_13_method_97_code 0 = .ok (.iconst 0, 1) := by decide +kernel
theorem d_X11_isBought_1 : decode prog_13_method_97_code 1 = .ok (.istore 4, 2) := by decide +kernel
theorem d_X11_isBought_3 : decode prog_13_method_97_code 3 = .ok (.iconst 0, 1) := by decide +kernel
theorem d_X11_isBought_4 : decode prog_13_method_97_code 4 = .ok (.istore 5, 2) := by decide +kernel
theorem d_X11_isBought_6 : decode prog_13_method_97_code 6 = .ok (.iconst 1, 1) := by decide +kernel
theorem d_X11_isBought_7 : decode prog_13_method_97_code 7 = .ok (.istore 6, 2) := by decide +kernel
theorem d_X11_isBought_9 : decode prog_13_method_97_code 9 = .ok (.iconst 0, 1) := by decide +kernel
theorem d_X11_isBought_10 : decode prog_13_method_97_code 10 = .ok (.istore 7, 2) := by decide +kernel
theorem d_X11_isBought_12 : decode prog_13_method_97_code 12 = .ok (.iload 7, 2) := by decide +kernel
theorem d_X11_isBought_14 : decode prog_13_method_97_code 14 = .ok (.aload_n 0, 1) := by decide +kernel
theorem d_X11_isBought_15 : decode prog_13_method_97_code 15 = .ok (.getfield 13, 3) := by decide +kernel
theorem d_X11_isBought_18 : decode prog_13_method_97_code 18 = .ok (.iconst 0, 1) := by decide +kernel
theorem d_X11_isBought_19 : decode prog_13_method_97_code 19 = .ok (.iaload, 1) := by decide +kernel
theorem d_X11_isBought_20 : decode prog_13_method_97_code 20 = .ok (.if_icmp .ge 69, 3) := by decide +kernel
theorem d_X11_isBought_23 : decode prog_13_method_97_code 23 = .ok (.iload_n 1, 1) := by decide +kernel
theorem d_X11_isBought_24 : decode prog_13_method_97_code 24 = .ok (.iload 7, 2) := by decide +kernel
theorem d_X11_isBought_26 : decode prog_13_method_97_code 26 = .ok (.invokestatic 469, 3) := by decide +kernel
theorem d_X11_isBought_29 : decode prog_13_method_97_code 29 = .ok (.ifCond .eq 54, 3) := by decide +kernel
theorem d_X11_isBought_32 : decode prog_13_method_97_code 32 = .ok (.iload 4, 2) := by decide +kernel
theorem d_X11_isBought_34 : decode prog_13_method_97_code 34 = .ok (.aload_n 0, 1) := by decide +kernel
theorem d_X11_isBought_35 : decode prog_13_method_97_code 35 = .ok (.getfield 13, 3) := by decide +kernel
theorem d_X11_isBought_38 : decode prog_13_method_97_code 38 = .ok (.bipush 8, 2) := by decide +kernel
theorem d_X11_isBought_40 : decode prog_13_method_97_code 40 = .ok (.iload 7, 2) := by decide +kernel
theorem d_X11_isBought_42 : decode prog_13_method_97_code 42 = .ok (.iadd, 1) := by decide +kernel
theorem d_X11_isBought_43 : decode prog_13_method_97_code 43 = .ok (.iaload, 1) := by decide +kernel
theorem d_X11_isBought_44 : decode prog_13_method_97_code 44 = .ok (.iadd, 1) := by decide +kernel
theorem d_X11_isBought_45 : decode prog_13_method_97_code 45 = .ok (.istore 4, 2) := by decide +kernel
theorem d_X11_isBought_47 : decode prog_13_method_97_code 47 = .ok (.iload 5, 2) := by decide +kernel
theorem d_X11_isBought_49 : decode prog_13_method_97_code 49 = .ok (.aload_n 0, 1) := by decide +kernel
theorem d_X11_isBought_50 : decode prog_13_method_97_code 50 = .ok (.iload 7, 2) := by decide +kernel
theorem d_X11_isBought_52 : decode prog_13_method_97_code 52 = .ok (.invokevirtual 195, 3) := by decide +kernel
theorem d_X11_isBought_55 : decode prog_13_method_97_code 55 = .ok (.iadd, 1) := by decide +kernel
theorem d_X11_isBought_56 : decode prog_13_method_97_code 56 = .ok (.istore 5, 2) := by decide +kernel
theorem d_X11_isBought_58 : decode prog_13_method_97_code 58 = .ok (.iload 6, 2) := by decide +kernel
theorem d_X11_isBought_60 : decode prog_13_method_97_code 60 = .ok (.ifCond .eq 20, 3) := by decide +kernel
theorem d_X11_isBought_63 : decode prog_13_method_97_code 63 = .ok (.aload_n 0, 1) := by decide +kernel
theorem d_X11_isBought_64 : decode prog_13_method_97_code 64 = .ok (.getfield 13, 3) := by decide +kernel
theorem d_X11_isBought_67 : decode prog_13_method_97_code 67 = .ok (.bipush 16, 2) := by decide +kernel
theorem d_X11_isBought_69 : decode prog_13_method_97_code 69 = .ok (.iload 7, 2) := by decide +kernel
theorem d_X11_isBought_71 : decode prog_13_method_97_code 71 = .ok (.iadd, 1) := by decide +kernel
theorem d_X11_isBought_72 : decode prog_13_method_97_code 72 = .ok (.iaload, 1) := by decide +kernel
theorem d_X11_isBought_73 : decode prog_13_method_97_code 73 = .ok (.ifCond .ne 7, 3) := by decide +kernel
theorem d_X11_isBought_76 : decode prog_13_method_97_code 76 = .ok (.iconst 1, 1) := by decide +kernel
theorem d_X11_isBought_77 : decode prog_13_method_97_code 77 = .ok (.goto 4, 3) := by decide +kernel
theorem d_X11_isBought_80 : decode prog_13_method_97_code 80 = .ok (.iconst 0, 1) := by decide +kernel
theorem d_X11_isBought_81 : decode prog_13_method_97_code 81 = .ok (.istore 6, 2) := by decide +kernel
theorem d_X11_isBought_83 : decode prog_13_method_97_code 83 = .ok (.iinc 7 1, 3) := by decide +kernel
theorem d_X11_isBought_86 : decode prog_13_method_97_code 86 = .ok (.goto (-74), 3) := by decide +kernel
theorem d_X11_isBought_89 : decode prog_13_method_97_code 89 = .ok (.iload 6, 2) := by decide +kernel
theorem d_X11_isBought_91 : decode prog_13_method_97_code 91 = .ok (.ifCond .eq 19, 3) := by decide +kernel
theorem d_X11_isBought_94 : decode prog_13_method_97_code 94 = .ok (.iload 4, 2) := by decide +kernel
theorem d_X11_isBought_96 : decode prog_13_method_97_code 96 = .ok (.iload_n 2, 1) := by decide +kernel
theorem d_X11_isBought_97 : decode prog_13_method_97_code 97 = .ok (.if_icmp .ne 13, 3) := by decide +kernel
theorem d_X11_isBought_100 : decode prog_13_method_97_code 100 = .ok (.iload 5, 2) := by decide +kernel
theorem d_X11_isBought_102 : decode prog_13_method_97_code 102 = .ok (.iload_n 3, 1) := by decide +kernel
theorem d_X11_isBought_103 : decode prog_13_method_97_code 103 = .ok (.if_icmp .ne 7, 3) := by decide +kernel
theorem d_X11_isBought_106 : decode prog_13_method_97_code 106 = .ok (.iconst 1, 1) := by decide +kernel
theorem d_X11_isBought_107 : decode prog_13_method_97_code 107 = .ok (.goto 4, 3) := by decide +kernel
theorem d_X11_isBought_110 : decode prog_13_method_97_code 110 = .ok (.iconst 0, 1) := by decide +kernel
theorem d_X11_isBought_111 : decode prog_13_method_97_code 111 = .ok (.ireturn, 1) := by decide +kernel
theorem d_X11_areSpent_0 : decode prog_13_method_98_code 0 = .ok (.iload_n 0, 1) := by decide +kernel
theorem d_X11_areSpent_1 : decode prog_13_method_98_code 1 = .ok (.i2l, 1) := by decide +kernel
theorem d_X11_areSpent_2 : decode prog_13_method_98_code 2 = .ok (.lconst 0, 1) := by decide +kernel
theorem d_X11_areSpent_3 : decode prog_13_method_98_code 3 = .ok (.ldc2_w 174, 3) := by decide +kernel
theorem d_X11_areSpent_6 : decode prog_13_method_98_code 6 = .ok (.invokestatic 165, 3) := by decide +kernel
theorem d_X11_areSpent_9 : decode prog_13_method_98_code 9 = .ok (.ifCond .eq 19, 3) := by decide +kernel
theorem d_X11_areSpent_12 : decode prog_13_method_98_code 12 = .ok (.iload_n 1, 1) := by decide +kernel
theorem d_X11_areSpent_13 : decode prog_13_method_98_code 13 = .ok (.i2l, 1) := by decide +kernel
theorem d_X11_areSpent_14 : decode prog_13_method_98_code 14 = .ok (.lconst 0, 1) := by decide +kernel
theorem d_X11_areSpent_15 : decode prog_13_method_98_code 15 = .ok (.ldc2_w 174, 3) := by decide +kernel
theorem d_X11_areSpent_18 : decode prog_13_method_98_code 18 = .ok (.invokestatic 165, 3) := by decide +kernel
theorem d_X11_areSpent_21 : decode prog_13_method_98_code 21 = .ok (.ifCond .eq 7, 3) := by decide +kernel
theorem d_X11_areSpent_24 : decode prog_13_method_98_code 24 = .ok (.iconst 1, 1) := by decide +kernel
theorem d_X11_areSpent_25 : decode prog_13_method_98_code 25 = .ok (.goto 4, 3) := by decide +kernel
theorem d_X11_areSpent_28 : decode prog_13_method_98_code 28 = .ok (.iconst 0, 1) := by decide +kernel
theorem d_X11_areSpent_29 : decode prog_13_method_98_code 29 = .ok (.ireturn, 1) := by decide +kernel
theorem d_X11_spent_0 : decode prog_13_method_99_code 0 = .ok (.aload_n 0, 1) := by decide +kernel
theorem d_X11_spent_1 : decode prog_13_method_99_code 1 = .ok (.iconst 0, 1) := by decide +kernel
theorem d_X11_spent_2 : decode prog_13_method_99_code 2 = .ok (.putfield 145, 3) := by decide +kernel
theorem d_X11_spent_5 : decode prog_13_method_99_code 5 = .ok (.iload_n 1, 1) := by decide +kernel
theorem d_X11_spent_6 : decode prog_13_method_99_code 6 = .ok (.iload_n 2, 1) := by decide +kernel
theorem d_X11_spent_7 : decode prog_13_method_99_code 7 = .ok (.invokestatic 485, 3) := by decide +kernel
theorem d_X11_spent_10 : decode prog_13_method_99_code 10 = .ok (.ifCond .ne 5, 3) := by decide +kernel
theorem d_X11_spent_13 : decode prog_13_method_99_code 13 = .ok (.iconst (-1), 1) := by decide +kernel
theorem d_X11_spent_14 : decode prog_13_method_99_code 14 = .ok (.ireturn, 1) := by decide +kernel
theorem d_X11_spent_15 : decode prog_13_method_99_code 15 = .ok (.iconst 0, 1) := by decide +kernel
theorem d_X11_spent_16 : decode prog_13_method_99_code 16 = .ok (.istore 4, 2) := by decide +kernel
theorem d_X11_spent_18 : decode prog_13_method_99_code 18 = .ok (.iconst (-1), 1) := by decide +kernel
theorem d_X11_spent_19 : decode prog_13_method_99_code 19 = .ok (.istore 5, 2) := by decide +kernel
theorem d_X11_spent_21 : decode prog_13_method_99_code 21 = .ok (.iconst 0, 1) := by decide +kernel
theorem d_X11_spent_22 : decode prog_13_method_99_code 22 = .ok (.istore 6, 2) := by decide +kernel
theorem d_X11_spent_24 : decode prog_13_method_99_code 24 = .ok (.iload 6, 2) := by decide +kernel
theorem d_X11_spent_26 : decode prog_13_method_99_code 26 = .ok (.iconst 1, 1) := by decide +kernel
theorem d_X11_spent_27 : decode prog_13_method_99_code 27 = .ok (.aload_n 0, 1) := by decide +kernel
theorem d_X11_spent_28 : decode prog_13_method_99_code 28 = .ok (.getfield 13, 3) := by decide +kernel
theorem d_X11_spent_31 : decode prog_13_method_99_code 31 = .ok (.iconst 0, 1) := by decide +kernel
theorem d_X11_spent_32 : decode prog_13_method_99_code 32 = .ok (.iaload, 1) := by decide +kernel
theorem d_X11_spent_33 : decode prog_13_method_99_code 33 = .ok (.ishl, 1) := by decide +kernel
theorem d_X11_spent_34 : decode prog_13_method_99_code 34 = .ok (.if_icmp .ge 38, 3) := by decide +kernel
theorem d_X11_spent_37 : decode prog_13_method_99_code 37 = .ok (.aload_n 0, 1) := by decide +kernel
theorem d_X11_spent_38 : decode prog_13_method_99_code 38 = .ok (.iload 6, 2) := by decide +kernel
theorem d_X11_spent_40 : decode prog_13_method_99_code 40 = .ok (.iload_n 1, 1) := by decide +kernel
theorem d_X11_spent_41 : decode prog_13_method_99_code 41 = .ok (.iload_n 2, 1) := by decide +kernel
theorem d_X11_spent_42 : decode prog_13_method_99_code 42 = .ok (.invokevirtual 488, 3) := by decide +kernel
theorem d_X11_spent_45 : decode prog_13_method_99_code 45 = .ok (.ifCond .eq 21, 3) := by decide +kernel
theorem d_X11_spent_48 : decode prog_13_method_99_code 48 = .ok (.iload 4, 2) := by decide +kernel
theorem d_X11_spent_50 : decode prog_13_method_99_code 50 = .ok (.iload_n 3, 1) := by decide +kernel
theorem d_X11_spent_51 : decode prog_13_method_99_code 51 = .ok (.if_icmp .ne 8, 3) := by decide +kernel
theorem d_X11_spent_54 : decode prog_13_method_99_code 54 = .ok (.iload 6, 2) := by decide +kernel
theorem d_X11_spent_56 : decode prog_13_method_99_code 56 = .ok (.goto 5, 3) := by decide +kernel
theorem d_X11_spent_59 : decode prog_13_method_99_code 59 = .ok (.iload 5, 2) := by decide +kernel
theorem d_X11_spent_61 : decode prog_13_method_99_code 61 = .ok (.istore 5, 2) := by decide +kernel
theorem d_X11_spent_63 : decode prog_13_method_99_code 63 = .ok (.iinc 4 1, 3) := by decide +kernel
theorem d_X11_spent_66 : decode prog_13_method_99_code 66 = .ok (.iinc 6 1, 3) := by decide +kernel
theorem d_X11_spent_69 : decode prog_13_method_99_code 69 = .ok (.goto (-45), 3) := by decide +kernel
theorem d_X11_spent_72 : decode prog_13_method_99_code 72 = .ok (.iload_n 3, 1) := by decide +kernel
theorem d_X11_spent_73 : decode prog_13_method_99_code 73 = .ok (.iconst (-1), 1) := by decide +kernel
theorem d_X11_spent_74 : decode prog_13_method_99_code 74 = .ok (.if_icmp .ne 8, 3) := by decide +kernel
theorem d_X11_spent_77 : decode prog_13_method_99_code 77 = .ok (.iload 4, 2) := by decide +kernel
theorem d_X11_spent_79 : decode prog_13_method_99_code 79 = .ok (.goto 5, 3) := by decide +kernel
theorem d_X11_spent_82 : decode prog_13_method_99_code 82 = .ok (.iload 5, 2) := by decide +kernel
theorem d_X11_spent_84 : decode prog_13_method_99_code 84 = .ok (.ireturn, 1) := by decide +kernel
theorem d_X11_ask_0 : decode prog_13_method_100_code 0 = .ok (.aload_n 0, 1) := by decide +kernel
theorem d_X11_ask_1 : decode prog_13_method_100_code 1 = .ok (.iconst 0, 1) := by decide +kernel
theorem d_X11_ask_2 : decode prog_13_method_100_code 2 = .ok (.putfield 145, 3) := by decide +kernel
theorem d_X11_ask_5 : decode prog_13_method_100_code 5 = .ok (.iload_n 1, 1) := by decide +kernel
theorem d_X11_ask_6 : decode prog_13_method_100_code 6 = .ok (.iload_n 2, 1) := by decide +kernel
theorem d_X11_ask_7 : decode prog_13_method_100_code 7 = .ok (.invokestatic 485, 3) := by decide +kernel
theorem d_X11_ask_10 : decode prog_13_method_100_code 10 = .ok (.ifCond .eq 13, 3) := by decide +kernel
theorem d_X11_ask_13 : decode prog_13_method_100_code 13 = .ok (.iload_n 3, 1) := by decide +kernel
theorem d_X11_ask_14 : decode prog_13_method_100_code 14 = .ok (.i2l, 1) := by decide +kernel
theorem d_X11_ask_15 : decode prog_13_method_100_code 15 = .ok (.lconst 0, 1) := by decide +kernel
theorem d_X11_ask_16 : decode prog_13_method_100_code 16 = .ok (.lconst 1, 1) := by decide +kernel
theorem d_X11_ask_17 : decode prog_13_method_100_code 17 = .ok (.invokestatic 165, 3) := by decide +kernel
theorem d_X11_ask_20 : decode prog_13_method_100_code 20 = .ok (.ifCond .ne 5, 3) := by decide +kernel
theorem d_X11_ask_23 : decode prog_13_method_100_code 23 = .ok (.iconst (-1), 1) := by decide +kernel
theorem d_X11_ask_24 : decode prog_13_method_100_code 24 = .ok (.ireturn, 1) := by decide +kernel
theorem d_X11_ask_25 : decode prog_13_method_100_code 25 = .ok (.iconst 0, 1) := by decide +kernel
theorem d_X11_ask_26 : decode prog_13_method_100_code 26 = .ok (.istore 4, 2) := by decide +kernel
theorem d_X11_ask_28 : decode prog_13_method_100_code 28 = .ok (.iload 4, 2) := by decide +kernel
theorem d_X11_ask_30 : decode prog_13_method_100_code 30 = .ok (.bipush 8, 2) := by decide +kernel
theorem d_X11_ask_32 : decode prog_13_method_100_code 32 = .ok (.if_icmp .ge 17, 3) := by decide +kernel
theorem d_X11_ask_35 : decode prog_13_method_100_code 35 = .ok (.aload_n 0, 1) := by decide +kernel
theorem d_X11_ask_36 : decode prog_13_method_100_code 36 = .ok (.getfield 116, 3) := by decide +kernel
theorem d_X11_ask_39 : decode prog_13_method_100_code 39 = .ok (.iload 4, 2) := by decide +kernel
theorem d_X11_ask_41 : decode prog_13_method_100_code 41 = .ok (.iconst 0, 1) := by decide +kernel
theorem d_X11_ask_42 : decode prog_13_method_100_code 42 = .ok (.iastore, 1) := by decide +kernel
theorem d_X11_ask_43 : decode prog_13_method_100_code 43 = .ok (.iinc 4 1, 3) := by decide +kernel
theorem d_X11_ask_46 : decode prog_13_method_100_code 46 = .ok (.goto (-18), 3) := by decide +kernel
theorem d_X11_ask_49 : decode prog_13_method_100_code 49 = .ok (.iconst 0, 1) := by decide +kernel
theorem d_X11_ask_50 : decode prog_13_method_100_code 50 = .ok (.istore 4, 2) := by decide +kernel
theorem d_X11_ask_52 : decode prog_13_method_100_code 52 = .ok (.iconst 0, 1) := by decide +kernel
theorem d_X11_ask_53 : decode prog_13_method_100_code 53 = .ok (.istore 5, 2) := by decide +kernel
theorem d_X11_ask_55 : decode prog_13_method_100_code 55 = .ok (.iload 5, 2) := by decide +kernel
theorem d_X11_ask_57 : decode prog_13_method_100_code 57 = .ok (.iconst 1, 1) := by decide +kernel
theorem d_X11_ask_58 : decode prog_13_method_100_code 58 = .ok (.aload_n 0, 1) := by decide +kernel
theorem d_X11_ask_59 : decode prog_13_method_100_code 59 = .ok (.getfield 13, 3) := by decide +kernel
theorem d_X11_ask_62 : decode prog_13_method_100_code 62 = .ok (.iconst 0, 1) := by decide +kernel
theorem d_X11_ask_63 : decode prog_13_method_100_code 63 = .ok (.iaload, 1) := by decide +kernel
theorem d_X11_ask_64 : decode prog_13_method_100_code 64 = .ok (.ishl, 1) := by decide +kernel
theorem d_X11_ask_65 : decode prog_13_method_100_code 65 = .ok (.if_icmp .ge 64, 3) := by decide +kernel
theorem d_X11_ask_68 : decode prog_13_method_100_code 68 = .ok (.aload_n 0, 1) := by decide +kernel
theorem d_X11_ask_69 : decode prog_13_method_100_code 69 = .ok (.iload 5, 2) := by decide +kernel
theorem d_X11_ask_71 : decode prog_13_method_100_code 71 = .ok (.iload_n 1, 1) := by decide +kernel
theorem d_X11_ask_72 : decode prog_13_method_100_code 72 = .ok (.iload_n 2, 1) := by decide +kernel
theorem d_X11_ask_73 : decode prog_13_method_100_code 73 = .ok (.invokevirtual 488, 3) := by decide +kernel
theorem d_X11_ask_76 : decode prog_13_method_100_code 76 = .ok (.ifCond .eq 47, 3) := by decide +kernel
theorem d_X11_ask_79 : decode prog_13_method_100_code 79 = .ok (.iinc 4 1, 3) := by decide +kernel
theorem d_X11_ask_82 : decode prog_13_method_100_code 82 = .ok (.iconst 0, 1) := by decide +kernel
theorem d_X11_ask_83 : decode prog_13_method_100_code 83 = .ok (.istore 6, 2) := by decide +kernel
theorem d_X11_ask_85 : decode prog_13_method_100_code 85 = .ok (.iload 6, 2) := by decide +kernel
theorem d_X11_ask_87 : decode prog_13_method_100_code 87 = .ok (.bipush 8, 2) := by decide +kernel
theorem d_X11_ask_89 : decode prog_13_method_100_code 89 = .ok (.if_icmp .ge 34, 3) := by decide +kernel
theorem d_X11_ask_92 : decode prog_13_method_100_code 92 = .ok (.aload_n 0, 1) := by decide +kernel
theorem d_X11_ask_93 : decode prog_13_method_100_code 93 = .ok (.getfield 116, 3) := by decide +kernel
theorem d_X11_ask_96 : decode prog_13_method_100_code 96 = .ok (.iload 6, 2) := by decide +kernel
theorem d_X11_ask_98 : decode prog_13_method_100_code 98 = .ok (.dup2, 1) := by decide +kernel
theorem d_X11_ask_99 : decode prog_13_method_100_code 99 = .ok (.iaload, 1) := by decide +kernel
theorem d_X11_ask_100 : decode prog_13_method_100_code 100 = .ok (.iload 5, 2) := by decide +kernel
theorem d_X11_ask_102 : decode prog_13_method_100_code 102 = .ok (.iload 6, 2) := by decide +kernel
theorem d_X11_ask_104 : decode prog_13_method_100_code 104 = .ok (.invokestatic 469, 3) := by decide +kernel
theorem d_X11_ask_107 : decode prog_13_method_100_code 107 = .ok (.ifCond .eq 7, 3) := by decide +kernel
theorem d_X11_ask_110 : decode prog_13_method_100_code 110 = .ok (.iconst 1, 1) := by decide +kernel
theorem d_X11_ask_111 : decode prog_13_method_100_code 111 = .ok (.goto 4, 3) := by decide +kernel
theorem d_X11_ask_114 : decode prog_13_method_100_code 114 = .ok (.iconst 0, 1) := by decide +kernel
theorem d_X11_ask_115 : decode prog_13_method_100_code 115 = .ok (.iadd, 1) := by decide +kernel
theorem d_X11_ask_116 : decode prog_13_method_100_code 116 = .ok (.iastore, 1) := by decide +kernel
theorem d_X11_ask_117 : decode prog_13_method_100_code 117 = .ok (.iinc 6 1, 3) := by decide +kernel
theorem d_X11_ask_120 : decode prog_13_method_100_code 120 = .ok (.goto (-35), 3) := by decide +kernel
theorem d_X11_ask_123 : decode prog_13_method_100_code 123 = .ok (.iinc 5 1, 3) := by decide +kernel
theorem d_X11_ask_126 : decode prog_13_method_100_code 126 = .ok (.goto (-71), 3) := by decide +kernel
theorem d_X11_ask_129 : decode prog_13_method_100_code 129 = .ok (.ldc_w 461, 3) := by decide +kernel
theorem d_X11_ask_132 : decode prog_13_method_100_code 132 = .ok (.istore 5, 2) := by decide +kernel
theorem d_X11_ask_134 : decode prog_13_method_100_code 134 = .ok (.iconst (-1), 1) := by decide +kernel
theorem d_X11_ask_135 : decode prog_13_method_100_code 135 = .ok (.istore 6, 2) := by decide +kernel
theorem d_X11_ask_137 : decode prog_13_method_100_code 137 = .ok (.iconst 0, 1) := by decide +kernel
theorem d_X11_ask_138 : decode prog_13_method_100_code 138 = .ok (.istore 7, 2) := by decide +kernel
theorem d_X11_ask_140 : decode prog_13_method_100_code 140 = .ok (.iload 7, 2) := by decide +kernel
theorem d_X11_ask_142 : decode prog_13_method_100_code 142 = .ok (.aload_n 0, 1) := by decide +kernel
theorem d_X11_ask_143 : decode prog_13_method_100_code 143 = .ok (.getfield 13, 3) := by decide +kernel
theorem d_X11_ask_146 : decode prog_13_method_100_code 146 = .ok (.iconst 0, 1) := by decide +kernel
theorem d_X11_ask_147 : decode prog_13_method_100_code 147 = .ok (.iaload, 1) := by decide +kernel
theorem d_X11_ask_148 : decode prog_13_method_100_code 148 = .ok (.if_icmp .ge 88, 3) := by decide +kernel
theorem d_X11_ask_151 : decode prog_13_method_100_code 151 = .ok (.iload 4, 2) := by decide +kernel
theorem d_X11_ask_153 : decode prog_13_method_100_code 153 = .ok (.ifCond .le 83, 3) := by decide +kernel
theorem d_X11_ask_156 : decode prog_13_method_100_code 156 = .ok (.aload_n 0, 1) := by decide +kernel
theorem d_X11_ask_157 : decode prog_13_method_100_code 157 = .ok (.getfield 116, 3) := by decide +kernel
theorem d_X11_ask_160 : decode prog_13_method_100_code 160 = .ok (.iload 7, 2) := by decide +kernel
theorem d_X11_ask_162 : decode prog_13_method_100_code 162 = .ok (.iaload, 1) := by decide +kernel
theorem d_X11_ask_163 : decode prog_13_method_100_code 163 = .ok (.iload 4, 2) := by decide +kernel
theorem d_X11_ask_165 : decode prog_13_method_100_code 165 = .ok (.aload_n 0, 1) := by decide +kernel
theorem d_X11_ask_166 : decode prog_13_method_100_code 166 = .ok (.getfield 116, 3) := by decide +kernel
theorem d_X11_ask_169 : decode prog_13_method_100_code 169 = .ok (.iload 7, 2) := by decide +kernel
theorem d_X11_ask_171 : decode prog_13_method_100_code 171 = .ok (.iaload, 1) := by decide +kernel
theorem d_X11_ask_172 : decode prog_13_method_100_code 172 = .ok (.isub, 1) := by decide +kernel
theorem d_X11_ask_173 : decode prog_13_method_100_code 173 = .ok (.if_icmp .le 13, 3) := by decide +kernel
theorem d_X11_ask_176 : decode prog_13_method_100_code 176 = .ok (.aload_n 0, 1) := by decide +kernel
theorem d_X11_ask_177 : decode prog_13_method_100_code 177 = .ok (.getfield 116, 3) := by decide +kernel
theorem d_X11_ask_180 : decode prog_13_method_100_code 180 = .ok (.iload 7, 2) := by decide +kernel
theorem d_X11_ask_182 : decode prog_13_method_100_code 182 = .ok (.iaload, 1) := by decide +kernel
theorem d_X11_ask_183 : decode prog_13_method_100_code 183 = .ok (.goto 13, 3) := by decide +kernel
theorem d_X11_ask_186 : decode prog_13_method_100_code 186 = .ok (.iload 4, 2) := by decide +kernel
theorem d_X11_ask_188 : decode prog_13_method_100_code 188 = .ok (.aload_n 0, 1) := by decide +kernel
theorem d_X11_ask_189 : decode prog_13_method_100_code 189 = .ok (.getfield 116, 3) := by decide +kernel
theorem d_X11_ask_192 : decode prog_13_method_100_code 192 = .ok (.iload 7, 2) := by decide +kernel
theorem d_X11_ask_194 : decode prog_13_method_100_code 194 = .ok (.iaload, 1) := by decide +kernel
theorem d_X11_ask_195 : decode prog_13_method_100_code 195 = .ok (.isub, 1) := by decide +kernel
theorem d_X11_ask_196 : decode prog_13_method_100_code 196 = .ok (.istore 8, 2) := by decide +kernel
theorem d_X11_ask_198 : decode prog_13_method_100_code 198 = .ok (.iload 8, 2) := by decide +kernel
theorem d_X11_ask_200 : decode prog_13_method_100_code 200 = .ok (.iload 5, 2) := by decide +kernel
theorem d_X11_ask_202 : decode prog_13_method_100_code 202 = .ok (.if_icmp .ge 8, 3) := by decide +kernel
theorem d_X11_ask_205 : decode prog_13_method_100_code 205 = .ok (.iload 7, 2) := by decide +kernel
theorem d_X11_ask_207 : decode prog_13_method_100_code 207 = .ok (.goto 5, 3) := by decide +kernel
theorem d_X11_ask_210 : decode prog_13_method_100_code 210 = .ok (.iload 6, 2) := by decide +kernel
theorem d_X11_ask_212 : decode prog_13_method_100_code 212 = .ok (.istore 6, 2) := by decide +kernel
theorem d_X11_ask_214 : decode prog_13_method_100_code 214 = .ok (.iload 8, 2) := by decide +kernel
theorem d_X11_ask_216 : decode prog_13_method_100_code 216 = .ok (.iload 5, 2) := by decide +kernel
theorem d_X11_ask_218 : decode prog_13_method_100_code 218 = .ok (.if_icmp .ge 8, 3) := by decide +kernel
theorem d_X11_ask_221 : decode prog_13_method_100_code 221 = .ok (.iload 8, 2) := by decide +kernel
theorem d_X11_ask_223 : decode prog_13_method_100_code 223 = .ok (.goto 5, 3) := by decide +kernel
theorem d_X11_ask_226 : decode prog_13_method_100_code 226 = .ok (.iload 5, 2) := by decide +kernel
theorem d_X11_ask_228 : decode prog_13_method_100_code 228 = .ok (.istore 5, 2) := by decide +kernel
theorem d_X11_ask_230 : decode prog_13_method_100_code 230 = .ok (.iinc 7 1, 3) := by decide +kernel
theorem d_X11_ask_233 : decode prog_13_method_100_code 233 = .ok (.goto (-93), 3) := by decide +kernel
theorem d_X11_ask_236 : decode prog_13_method_100_code 236 = .ok (.iload 6, 2) := by decide +kernel
theorem d_X11_ask_238 : decode prog_13_method_100_code 238 = .ok (.iconst (-1), 1) := by decide +kernel
theorem d_X11_ask_239 : decode prog_13_method_100_code 239 = .ok (.if_icmp .eq 7, 3) := by decide +kernel
theorem d_X11_ask_242 : decode prog_13_method_100_code 242 = .ok (.iload_n 3, 1) := by decide +kernel
theorem d_X11_ask_243 : decode prog_13_method_100_code 243 = .ok (.ifCond .ne 8, 3) := by decide +kernel
theorem d_X11_ask_246 : decode prog_13_method_100_code 246 = .ok (.iload 6, 2) := by decide +kernel
theorem d_X11_ask_248 : decode prog_13_method_100_code 248 = .ok (.goto 5, 3) := by decide +kernel
theorem d_X11_ask_251 : decode prog_13_method_100_code 251 = .ok (.iload 5, 2) := by decide +kernel
theorem d_X11_ask_253 : decode prog_13_method_100_code 253 = .ok (.ireturn, 1) := by decide +kernel
theorem d_X11_fair_0 : decode prog_13_method_101_code 0 = .ok (.aload_n 0, 1) := by decide +kernel
theorem d_X11_fair_1 : decode prog_13_method_101_code 1 = .ok (.iconst 0, 1) := by decide +kernel
theorem d_X11_fair_2 : decode prog_13_method_101_code 2 = .ok (.putfield 145, 3) := by decide +kernel
theorem d_X11_fair_5 : decode prog_13_method_101_code 5 = .ok (.aload_n 0, 1) := by decide +kernel
theorem d_X11_fair_6 : decode prog_13_method_101_code 6 = .ok (.iload_n 1, 1) := by decide +kernel
theorem d_X11_fair_7 : decode prog_13_method_101_code 7 = .ok (.invokevirtual 184, 3) := by decide +kernel
theorem d_X11_fair_10 : decode prog_13_method_101_code 10 = .ok (.ifCond .eq 13, 3) := by decide +kernel
theorem d_X11_fair_13 : decode prog_13_method_101_code 13 = .ok (.iload_n 2, 1) := by decide +kernel
theorem d_X11_fair_14 : decode prog_13_method_101_code 14 = .ok (.i2l, 1) := by decide +kernel
theorem d_X11_fair_15 : decode prog_13_method_101_code 15 = .ok (.lconst 0, 1) := by decide +kernel
theorem d_X11_fair_16 : decode prog_13_method_101_code 16 = .ok (.lconst 1, 1) := by decide +kernel
theorem d_X11_fair_17 : decode prog_13_method_101_code 17 = .ok (.invokestatic 165, 3) := by decide +kernel
theorem d_X11_fair_20 : decode prog_13_method_101_code 20 = .ok (.ifCond .ne 5, 3) := by decide +kernel
theorem d_X11_fair_23 : decode prog_13_method_101_code 23 = .ok (.iconst (-1), 1) := by decide +kernel
theorem d_X11_fair_24 : decode prog_13_method_101_code 24 = .ok (.ireturn, 1) := by decide +kernel
theorem d_X11_fair_25 : decode prog_13_method_101_code 25 = .ok (.ldc_w 461, 3) := by decide +kernel
theorem d_X11_fair_28 : decode prog_13_method_101_code 28 = .ok (.istore_n 3, 1) := by decide +kernel
theorem d_X11_fair_29 : decode prog_13_method_101_code 29 = .ok (.iconst (-1), 1) := by decide +kernel
theorem d_X11_fair_30 : decode prog_13_method_101_code 30 = .ok (.istore 4, 2) := by decide +kernel
theorem d_X11_fair_32 : decode prog_13_method_101_code 32 = .ok (.iconst 0, 1) := by decide +kernel
theorem d_X11_fair_33 : decode prog_13_method_101_code 33 = .ok (.istore 5, 2) := by decide +kernel
theorem d_X11_fair_35 : decode prog_13_method_101_code 35 = .ok (.iload 5, 2) := by decide +kernel
theorem d_X11_fair_37 : decode prog_13_method_101_code 37 = .ok (.bipush 10, 2) := by decide +kernel
theorem d_X11_fair_39 : decode prog_13_method_101_code 39 = .ok (.if_icmp .ge 98, 3) := by decide +kernel
theorem d_X11_fair_42 : decode prog_13_method_101_code 42 = .ok (.iconst 0, 1) := by decide +kernel
theorem d_X11_fair_43 : decode prog_13_method_101_code 43 = .ok (.istore 6, 2) := by decide +kernel
theorem d_X11_fair_45 : decode prog_13_method_101_code 45 = .ok (.iconst 0, 1) := by decide +kernel
theorem d_X11_fair_46 : decode prog_13_method_101_code 46 = .ok (.istore 7, 2) := by decide +kernel
theorem d_X11_fair_48 : decode prog_13_method_101_code 48 = .ok (.iload 7, 2) := by decide +kernel
theorem d_X11_fair_50 : decode prog_13_method_101_code 50 = .ok (.aload_n 0, 1) := by decide +kernel
theorem d_X11_fair_51 : decode prog_13_method_101_code 51 = .ok (.getfield 13, 3) := by decide +kernel
theorem d_X11_fair_54 : decode prog_13_method_101_code 54 = .ok (.iconst 1, 1) := by decide +kernel
theorem d_X11_fair_55 : decode prog_13_method_101_code 55 = .ok (.iaload, 1) := by decide +kernel
theorem d_X11_fair_56 : decode prog_13_method_101_code 56 = .ok (.if_icmp .ge 47, 3) := by decide +kernel
theorem d_X11_fair_59 : decode prog_13_method_101_code 59 = .ok (.aload_n 0, 1) := by decide +kernel
theorem d_X11_fair_60 : decode prog_13_method_101_code 60 = .ok (.getfield 13, 3) := by decide +kernel
theorem d_X11_fair_63 : decode prog_13_method_101_code 63 = .ok (.bipush 64, 2) := by decide +kernel
theorem d_X11_fair_65 : decode prog_13_method_101_code 65 = .ok (.bipush 8, 2) := by decide +kernel
theorem d_X11_fair_67 : decode prog_13_method_101_code 67 = .ok (.iload 7, 2) := by decide +kernel
theorem d_X11_fair_69 : decode prog_13_method_101_code 69 = .ok (.imul, 1) := by decide +kernel
theorem d_X11_fair_70 : decode prog_13_method_101_code 70 = .ok (.iadd, 1) := by decide +kernel
theorem d_X11_fair_71 : decode prog_13_method_101_code 71 = .ok (.iload_n 1, 1) := by decide +kernel
theorem d_X11_fair_72 : decode prog_13_method_101_code 72 = .ok (.iadd, 1) := by decide +kernel
theorem d_X11_fair_73 : decode prog_13_method_101_code 73 = .ok (.iaload, 1) := by decide +kernel
theorem d_X11_fair_74 : decode prog_13_method_101_code 74 = .ok (.iload 5, 2) := by decide +kernel
theorem d_X11_fair_76 : decode prog_13_method_101_code 76 = .ok (.isub, 1) := by decide +kernel
theorem d_X11_fair_77 : decode prog_13_method_101_code 77 = .ok (.istore 8, 2) := by decide +kernel
theorem d_X11_fair_79 : decode prog_13_method_101_code 79 = .ok (.iload 6, 2) := by decide +kernel
theorem d_X11_fair_81 : decode prog_13_method_101_code 81 = .ok (.iload 8, 2) := by decide +kernel
theorem d_X11_fair_83 : decode prog_13_method_101_code 83 = .ok (.ifCond .ge 9, 3) := by decide +kernel
theorem d_X11_fair_86 : decode prog_13_method_101_code 86 = .ok (.iload 8, 2) := by decide +kernel
theorem d_X11_fair_88 : decode prog_13_method_101_code 88 = .ok (.ineg, 1) := by decide +kernel
theorem d_X11_fair_89 : decode prog_13_method_101_code 89 = .ok (.goto 5, 3) := by decide +kernel
theorem d_X11_fair_92 : decode prog_13_method_101_code 92 = .ok (.iload 8, 2) := by decide +kernel
theorem d_X11_fair_94 : decode prog_13_method_101_code 94 = .ok (.iadd, 1) := by decide +kernel
theorem d_X11_fair_95 : decode prog_13_method_101_code 95 = .ok (.istore 6, 2) := by decide +kernel
theorem d_X11_fair_97 : decode prog_13_method_101_code 97 = .ok (.iinc 7 1, 3) := by decide +kernel
theorem d_X11_fair_100 : decode prog_13_method_101_code 100 = .ok (.goto (-52), 3) := by decide +kernel
theorem d_X11_fair_103 : decode prog_13_method_101_code 103 = .ok (.iload 6, 2) := by decide +kernel
theorem d_X11_fair_105 : decode prog_13_method_101_code 105 = .ok (.iload_n 3, 1) := by decide +kernel
theorem d_X11_fair_106 : decode prog_13_method_101_code 106 = .ok (.if_icmp .ge 8, 3) := by decide +kernel
theorem d_X11_fair_109 : decode prog_13_method_101_code 109 = .ok (.iload 5, 2) := by decide +kernel
theorem d_X11_fair_111 : decode prog_13_method_101_code 111 = .ok (.goto 5, 3) := by decide +kernel
theorem d_X11_fair_114 : decode prog_13_method_101_code 114 = .ok (.iload 4, 2) := by decide +kernel
theorem d_X11_fair_116 : decode prog_13_method_101_code 116 = .ok (.istore 4, 2) := by decide +kernel
theorem d_X11_fair_118 : decode prog_13_method_101_code 118 = .ok (.iload 6, 2) := by decide +kernel
theorem d_X11_fair_120 : decode prog_13_method_101_code 120 = .ok (.iload_n 3, 1) := by decide +kernel
theorem d_X11_fair_121 : decode prog_13_method_101_code 121 = .ok (.if_icmp .ge 8, 3) := by decide +kernel
theorem d_X11_fair_124 : decode prog_13_method_101_code 124 = .ok (.iload 6, 2) := by decide +kernel
theorem d_X11_fair_126 : decode prog_13_method_101_code 126 = .ok (.goto 4, 3) := by decide +kernel
theorem d_X11_fair_129 : decode prog_13_method_101_code 129 = .ok (.iload_n 3, 1) := by decide +kernel
theorem d_X11_fair_130 : decode prog_13_method_101_code 130 = .ok (.istore_n 3, 1) := by decide +kernel
theorem d_X11_fair_131 : decode prog_13_method_101_code 131 = .ok (.iinc 5 1, 3) := by decide +kernel
theorem d_X11_fair_134 : decode prog_13_method_101_code 134 = .ok (.goto (-99), 3) := by decide +kernel
theorem d_X11_fair_137 : decode prog_13_method_101_code 137 = .ok (.iload_n 2, 1) := by decide +kernel
theorem d_X11_fair_138 : decode prog_13_method_101_code 138 = .ok (.ifCond .ne 8, 3) := by decide +kernel
theorem d_X11_fair_141 : decode prog_13_method_101_code 141 = .ok (.iload 4, 2) := by decide +kernel
theorem d_X11_fair_143 : decode prog_13_method_101_code 143 = .ok (.goto 4, 3) := by decide +kernel
theorem d_X11_fair_146 : decode prog_13_method_101_code 146 = .ok (.iload_n 3, 1) := by decide +kernel
theorem d_X11_fair_147 : decode prog_13_method_101_code 147 = .ok (.ireturn, 1) := by decide +kernel
theorem d_X11_hear_0 : decode prog_13_method_102_code 0 = .ok (.aload_n 0, 1) := by decide +kernel
theorem d_X11_hear_1 : decode prog_13_method_102_code 1 = .ok (.iconst 0, 1) := by decide +kernel
theorem d_X11_hear_2 : decode prog_13_method_102_code 2 = .ok (.putfield 145, 3) := by decide +kernel
theorem d_X11_hear_5 : decode prog_13_method_102_code 5 = .ok (.iload_n 1, 1) := by decide +kernel
theorem d_X11_hear_6 : decode prog_13_method_102_code 6 = .ok (.i2l, 1) := by decide +kernel
theorem d_X11_hear_7 : decode prog_13_method_102_code 7 = .ok (.lconst 0, 1) := by decide +kernel
theorem d_X11_hear_8 : decode prog_13_method_102_code 8 = .ok (.ldc2_w 208, 3) := by decide +kernel
theorem d_X11_hear_11 : decode prog_13_method_102_code 11 = .ok (.invokestatic 165, 3) := by decide +kernel
theorem d_X11_hear_14 : decode prog_13_method_102_code 14 = .ok (.ifCond .ne 9, 3) := by decide +kernel
theorem d_X11_hear_17 : decode prog_13_method_102_code 17 = .ok (.aload_n 0, 1) := by decide +kernel
theorem d_X11_hear_18 : decode prog_13_method_102_code 18 = .ok (.iconst (-1), 1) := by decide +kernel
theorem d_X11_hear_19 : decode prog_13_method_102_code 19 = .ok (.invokevirtual 154, 3) := by decide +kernel
theorem d_X11_hear_22 : decode prog_13_method_102_code 22 = .ok (.ireturn, 1) := by decide +kernel
theorem d_X11_hear_23 : decode prog_13_method_102_code 23 = .ok (.aload_n 0, 1) := by decide +kernel
theorem d_X11_hear_24 : decode prog_13_method_102_code 24 = .ok (.getfield 13, 3) := by decide +kernel
theorem d_X11_hear_27 : decode prog_13_method_102_code 27 = .ok (.iconst 2, 1) := by decide +kernel
theorem d_X11_hear_28 : decode prog_13_method_102_code 28 = .ok (.iaload, 1) := by decide +kernel
theorem d_X11_hear_29 : decode prog_13_method_102_code 29 = .ok (.istore_n 2, 1) := by decide +kernel
theorem d_X11_hear_30 : decode prog_13_method_102_code 30 = .ok (.iload_n 2, 1) := by decide +kernel
theorem d_X11_hear_31 : decode prog_13_method_102_code 31 = .ok (.bipush 12, 2) := by decide +kernel
theorem d_X11_hear_33 : decode prog_13_method_102_code 33 = .ok (.if_icmp .ne 10, 3) := by decide +kernel
theorem d_X11_hear_36 : decode prog_13_method_102_code 36 = .ok (.aload_n 0, 1) := by decide +kernel
theorem d_X11_hear_37 : decode prog_13_method_102_code 37 = .ok (.bipush (-5), 2) := by decide +kernel
theorem d_X11_hear_39 : decode prog_13_method_102_code 39 = .ok (.invokevirtual 154, 3) := by decide +kernel
theorem d_X11_hear_42 : decode prog_13_method_102_code 42 = .ok (.ireturn, 1) := by decide +kernel
theorem d_X11_hear_43 : decode prog_13_method_102_code 43 = .ok (.aload_n 0, 1) := by decide +kernel
theorem d_X11_hear_44 : decode prog_13_method_102_code 44 = .ok (.getfield 13, 3) := by decide +kernel
theorem d_X11_hear_47 : decode prog_13_method_102_code 47 = .ok (.bipush 104, 2) := by decide +kernel
theorem d_X11_hear_49 : decode prog_13_method_102_code 49 = .ok (.iload_n 2, 1) := by decide +kernel
theorem d_X11_hear_50 : decode prog_13_method_102_code 50 = .ok (.iadd, 1) := by decide +kernel
theorem d_X11_hear_51 : decode prog_13_method_102_code 51 = .ok (.iload_n 1, 1) := by decide +kernel
theorem d_X11_hear_52 : decode prog_13_method_102_code 52 = .ok (.iastore, 1) := by decide +kernel
theorem d_X11_hear_53 : decode prog_13_method_102_code 53 = .ok (.aload_n 0, 1) := by decide +kernel
theorem d_X11_hear_54 : decode prog_13_method_102_code 54 = .ok (.getfield 13, 3) := by decide +kernel
theorem d_X11_hear_57 : decode prog_13_method_102_code 57 = .ok (.iconst 2, 1) := by decide +kernel
theorem d_X11_hear_58 : decode prog_13_method_102_code 58 = .ok (.dup2, 1) := by decide +kernel
theorem d_X11_hear_59 : decode prog_13_method_102_code 59 = .ok (.iaload, 1) := by decide +kernel
theorem d_X11_hear_60 : decode prog_13_method_102_code 60 = .ok (.iconst 1, 1) := by decide +kernel
theorem d_X11_hear_61 : decode prog_13_method_102_code 61 = .ok (.iadd, 1) := by decide +kernel
theorem d_X11_hear_62 : decode prog_13_method_102_code 62 = .ok (.iastore, 1) := by decide +kernel
theorem d_X11_hear_63 : decode prog_13_method_102_code 63 = .ok (.aload_n 0, 1) := by decide +kernel
theorem d_X11_hear_64 : decode prog_13_method_102_code 64 = .ok (.iload_n 2, 1) := by decide +kernel
theorem d_X11_hear_65 : decode prog_13_method_102_code 65 = .ok (.iconst 1, 1) := by decide +kernel
theorem d_X11_hear_66 : decode prog_13_method_102_code 66 = .ok (.iadd, 1) := by decide +kernel
theorem d_X11_hear_67 : decode prog_13_method_102_code 67 = .ok (.invokevirtual 154, 3) := by decide +kernel
theorem d_X11_hear_70 : decode prog_13_method_102_code 70 = .ok (.ireturn, 1) := by decide +kernel
theorem d_X11_forget_0 : decode prog_13_method_103_code 0 = .ok (.aload_n 0, 1) := by decide +kernel
theorem d_X11_forget_1 : decode prog_13_method_103_code 1 = .ok (.iconst 0, 1) := by decide +kernel
theorem d_X11_forget_2 : decode prog_13_method_103_code 2 = .ok (.putfield 145, 3) := by decide +kernel
theorem d_X11_forget_5 : decode prog_13_method_103_code 5 = .ok (.aload_n 0, 1) := by decide +kernel
theorem d_X11_forget_6 : decode prog_13_method_103_code 6 = .ok (.getfield 13, 3) := by decide +kernel
theorem d_X11_forget_9 : decode prog_13_method_103_code 9 = .ok (.iconst 2, 1) := by decide +kernel
theorem d_X11_forget_10 : decode prog_13_method_103_code 10 = .ok (.iaload, 1) := by decide +kernel
theorem d_X11_forget_11 : decode prog_13_method_103_code 11 = .ok (.istore_n 1, 1) := by decide +kernel
theorem d_X11_forget_12 : decode prog_13_method_103_code 12 = .ok (.aload_n 0, 1) := by decide +kernel
theorem d_X11_forget_13 : decode prog_13_method_103_code 13 = .ok (.getfield 13, 3) := by decide +kernel
theorem d_X11_forget_16 : decode prog_13_method_103_code 16 = .ok (.iconst 2, 1) := by decide +kernel
theorem d_X11_forget_17 : decode prog_13_method_103_code 17 = .ok (.iconst 0, 1) := by decide +kernel
theorem d_X11_forget_18 : decode prog_13_method_103_code 18 = .ok (.iastore, 1) := by decide +kernel
theorem d_X11_forget_19 : decode prog_13_method_103_code 19 = .ok (.iload_n 1, 1) := by decide +kernel
theorem d_X11_forget_20 : decode prog_13_method_103_code 20 = .ok (.ireturn, 1) := by decide +kernel
theorem d_X11_trend_0 : decode prog_13_method_104_code 0 = .ok (.aload_n 0, 1) := by decide +kernel
theorem d_X11_trend_1 : decode prog_13_method_104_code 1 = .ok (.iconst 0, 1) := by decide +kernel
theorem d_X11_trend_2 : decode prog_13_method_104_code 2 = .ok (.putfield 145, 3) := by decide +kernel
theorem d_X11_trend_5 : decode prog_13_method_104_code 5 = .ok (.aload_n 0, 1) := by decide +kernel
theorem d_X11_trend_6 : decode prog_13_method_104_code 6 = .ok (.getfield 13, 3) := by decide +kernel
theorem d_X11_trend_9 : decode prog_13_method_104_code 9 = .ok (.iconst 2, 1) := by decide +kernel
theorem d_X11_trend_10 : decode prog_13_method_104_code 10 = .ok (.iaload, 1) := by decide +kernel
theorem d_X11_trend_11 : decode prog_13_method_104_code 11 = .ok (.istore_n 2, 1) := by decide +kernel
theorem d_X11_trend_12 : decode prog_13_method_104_code 12 = .ok (.iload_n 2, 1) := by decide +kernel
theorem d_X11_trend_13 : decode prog_13_method_104_code 13 = .ok (.iconst 2, 1) := by decide +kernel
theorem d_X11_trend_14 : decode prog_13_method_104_code 14 = .ok (.if_icmp .lt 15, 3) := by decide +kernel
theorem d_X11_trend_17 : decode prog_13_method_104_code 17 = .ok (.iload_n 1, 1) := by decide +kernel
theorem d_X11_trend_18 : decode prog_13_method_104_code 18 = .ok (.i2l, 1) := by decide +kernel
theorem d_X11_trend_19 : decode prog_13_method_104_code 19 = .ok (.lconst 0, 1) := by decide +kernel
theorem d_X11_trend_20 : decode prog_13_method_104_code 20 = .ok (.ldc2_w 447, 3) := by decide +kernel
theorem d_X11_trend_23 : decode prog_13_method_104_code 23 = .ok (.invokestatic 165, 3) := by decide +kernel
theorem d_X11_trend_26 : decode prog_13_method_104_code 26 = .ok (.ifCond .ne 6, 3) := by decide +kernel
theorem d_X11_trend_29 : decode prog_13_method_104_code 29 = .ok (.ldc 188, 2) := by decide +kernel
theorem d_X11_trend_31 : decode prog_13_method_104_code 31 = .ok (.ireturn, 1) := by decide +kernel
theorem d_X11_trend_32 : decode prog_13_method_104_code 32 = .ok (.lconst 0, 1) := by decide +kernel
theorem d_X11_trend_33 : decode prog_13_method_104_code 33 = .ok (.lstore_n 3, 1) := by decide +kernel
theorem d_X11_trend_34 : decode prog_13_method_104_code 34 = .ok (.lconst 0, 1) := by decide +kernel
theorem d_X11_trend_35 : decode prog_13_method_104_code 35 = .ok (.lstore 5, 2) := by decide +kernel
theorem d_X11_trend_37 : decode prog_13_method_104_code 37 = .ok (.lconst 0, 1) := by decide +kernel
theorem d_X11_trend_38 : decode prog_13_method_104_code 38 = .ok (.lstore 7, 2) := by decide +kernel
theorem d_X11_trend_40 : decode prog_13_method_104_code 40 = .ok (.lconst 0, 1) := by decide +kernel
theorem d_X11_trend_41 : decode prog_13_method_104_code 41 = .ok (.lstore 9, 2) := by decide +kernel
theorem d_X11_trend_43 : decode prog_13_method_104_code 43 = .ok (.iconst 0, 1) := by decide +kernel
theorem d_X11_trend_44 : decode prog_13_method_104_code 44 = .ok (.istore 11, 2) := by decide +kernel
theorem d_X11_trend_46 : decode prog_13_method_104_code 46 = .ok (.iload 11, 2) := by decide +kernel
theorem d_X11_trend_48 : decode prog_13_method_104_code 48 = .ok (.iload_n 2, 1) := by decide +kernel
theorem d_X11_trend_49 : decode prog_13_method_104_code 49 = .ok (.if_icmp .ge 62, 3) := by decide +kernel
theorem d_X11_trend_52 : decode prog_13_method_104_code 52 = .ok (.lload_n 3, 1) := by decide +kernel
theorem d_X11_trend_53 : decode prog_13_method_104_code 53 = .ok (.iload 11, 2) := by decide +kernel
theorem d_X11_trend_55 : decode prog_13_method_104_code 55 = .ok (.i2l, 1) := by decide +kernel
theorem d_X11_trend_56 : decode prog_13_method_104_code 56 = .ok (.ladd, 1) := by decide +kernel
theorem d_X11_trend_57 : decode prog_13_method_104_code 57 = .ok (.lstore_n 3, 1) := by decide +kernel
theorem d_X11_trend_58 : decode prog_13_method_104_code 58 = .ok (.lload 5, 2) := by decide +kernel
theorem d_X11_trend_60 : decode prog_13_method_104_code 60 = .ok (.aload_n 0, 1) := by decide +kernel
theorem d_X11_trend_61 : decode prog_13_method_104_code 61 = .ok (.getfield 13, 3) := by decide +kernel
theorem d_X11_trend_64 : decode prog_13_method_104_code 64 = .ok (.bipush 104, 2) := by decide +kernel
theorem d_X11_trend_66 : decode prog_13_method_104_code 66 = .ok (.iload 11, 2) := by decide +kernel
theorem d_X11_trend_68 : decode prog_13_method_104_code 68 = .ok (.iadd, 1) := by decide +kernel
theorem d_X11_trend_69 : decode prog_13_method_104_code 69 = .ok (.iaload, 1) := by decide +kernel
theorem d_X11_trend_70 : decode prog_13_method_104_code 70 = .ok (.i2l, 1) := by decide +kernel
theorem d_X11_trend_71 : decode prog_13_method_104_code 71 = .ok (.ladd, 1) := by decide +kernel
theorem d_X11_trend_72 : decode prog_13_method_104_code 72 = .ok (.lstore 5, 2) := by decide +kernel
theorem d_X11_trend_74 : decode prog_13_method_104_code 74 = .ok (.lload 7, 2) := by decide +kernel
theorem d_X11_trend_76 : decode prog_13_method_104_code 76 = .ok (.iload 11, 2) := by decide +kernel
theorem d_X11_trend_78 : decode prog_13_method_104_code 78 = .ok (.iload 11, 2) := by decide +kernel
theorem d_X11_trend_80 : decode prog_13_method_104_code 80 = .ok (.imul, 1) := by decide +kernel
theorem d_X11_trend_81 : decode prog_13_method_104_code 81 = .ok (.i2l, 1) := by decide +kernel
theorem d_X11_trend_82 : decode prog_13_method_104_code 82 = .ok (.ladd, 1) := by decide +kernel
theorem d_X11_trend_83 : decode prog_13_method_104_code 83 = .ok (.lstore 7, 2) := by decide +kernel
theorem d_X11_trend_85 : decode prog_13_method_104_code 85 = .ok (.lload 9, 2) := by decide +kernel
theorem d_X11_trend_87 : decode prog_13_method_104_code 87 = .ok (.iload 11, 2) := by decide +kernel
theorem d_X11_trend_89 : decode prog_13_method_104_code 89 = .ok (.i2l, 1) := by decide +kernel
theorem d_X11_trend_90 : decode prog_13_method_104_code 90 = .ok (.aload_n 0, 1) := by decide +kernel
theorem d_X11_trend_91 : decode prog_13_method_104_code 91 = .ok (.getfield 13, 3) := by decide +kernel
theorem d_X11_trend_94 : decode prog_13_method_104_code 94 = .ok (.bipush 104, 2) := by decide +kernel
theorem d_X11_trend_96 : decode prog_13_method_104_code 96 = .ok (.iload 11, 2) := by decide +kernel
theorem d_X11_trend_98 : decode prog_13_method_104_code 98 = .ok (.iadd, 1) := by decide +kernel
theorem d_X11_trend_99 : decode prog_13_method_104_code 99 = .ok (.iaload, 1) := by decide +kernel
theorem d_X11_trend_100 : decode prog_13_method_104_code 100 = .ok (.i2l, 1) := by decide +kernel
theorem d_X11_trend_101 : decode prog_13_method_104_code 101 = .ok (.lmul, 1) := by decide +kernel
theorem d_X11_trend_102 : decode prog_13_method_104_code 102 = .ok (.ladd, 1) := by decide +kernel
theorem d_X11_trend_103 : decode prog_13_method_104_code 103 = .ok (.lstore 9, 2) := by decide +kernel
theorem d_X11_trend_105 : decode prog_13_method_104_code 105 = .ok (.iinc 11 1, 3) := by decide +kernel
theorem d_X11_trend_108 : decode prog_13_method_104_code 108 = .ok (.goto (-62), 3) := by decide +kernel
theorem d_X11_trend_111 : decode prog_13_method_104_code 111 = .ok (.iload_n 2, 1) := by decide +kernel
theorem d_X11_trend_112 : decode prog_13_method_104_code 112 = .ok (.i2l, 1) := by decide +kernel
theorem d_X11_trend_113 : decode prog_13_method_104_code 113 = .ok (.lload 7, 2) := by decide +kernel
theorem d_X11_trend_115 : decode prog_13_method_104_code 115 = .ok (.lmul, 1) := by decide +kernel
theorem d_X11_trend_116 : decode prog_13_method_104_code 116 = .ok (.lload_n 3, 1) := by decide +kernel
theorem d_X11_trend_117 : decode prog_13_method_104_code 117 = .ok (.lload_n 3, 1) := by decide +kernel
theorem d_X11_trend_118 : decode prog_13_method_104_code 118 = .ok (.lmul, 1) := by decide +kernel
theorem d_X11_trend_119 : decode prog_13_method_104_code 119 = .ok (.lsub, 1) := by decide +kernel
theorem d_X11_trend_120 : decode prog_13_method_104_code 120 = .ok (.lstore 11, 2) := by decide +kernel
theorem d_X11_trend_122 : decode prog_13_method_104_code 122 = .ok (.iload_n 1, 1) := by decide +kernel
theorem d_X11_trend_123 : decode prog_13_method_104_code 123 = .ok (.iconst 2, 1) := by decide +kernel
theorem d_X11_trend_124 : decode prog_13_method_104_code 124 = .ok (.if_icmp .ge 22, 3) := by decide +kernel
theorem d_X11_trend_127 : decode prog_13_method_104_code 127 = .ok (.aload_n 0, 1) := by decide +kernel
theorem d_X11_trend_128 : decode prog_13_method_104_code 128 = .ok (.iload_n 2, 1) := by decide +kernel
theorem d_X11_trend_129 : decode prog_13_method_104_code 129 = .ok (.i2l, 1) := by decide +kernel
theorem d_X11_trend_130 : decode prog_13_method_104_code 130 = .ok (.lload 9, 2) := by decide +kernel
theorem d_X11_trend_132 : decode prog_13_method_104_code 132 = .ok (.lmul, 1) := by decide +kernel
theorem d_X11_trend_133 : decode prog_13_method_104_code 133 = .ok (.lload_n 3, 1) := by decide +kernel
theorem d_X11_trend_134 : decode prog_13_method_104_code 134 = .ok (.lload 5, 2) := by decide +kernel
theorem d_X11_trend_136 : decode prog_13_method_104_code 136 = .ok (.lmul, 1) := by decide +kernel
theorem d_X11_trend_137 : decode prog_13_method_104_code 137 = .ok (.lsub, 1) := by decide +kernel
theorem d_X11_trend_138 : decode prog_13_method_104_code 138 = .ok (.lload 11, 2) := by decide +kernel
theorem d_X11_trend_140 : decode prog_13_method_104_code 140 = .ok (.invokevirtual 443, 3) := by decide +kernel
theorem d_X11_trend_143 : decode prog_13_method_104_code 143 = .ok (.goto 19, 3) := by decide +kernel
theorem d_X11_trend_146 : decode prog_13_method_104_code 146 = .ok (.aload_n 0, 1) := by decide +kernel
theorem d_X11_trend_147 : decode prog_13_method_104_code 147 = .ok (.lload 5, 2) := by decide +kernel
theorem d_X11_trend_149 : decode prog_13_method_104_code 149 = .ok (.lload 7, 2) := by decide +kernel
theorem d_X11_trend_151 : decode prog_13_method_104_code 151 = .ok (.lmul, 1) := by decide +kernel
theorem d_X11_trend_152 : decode prog_13_method_104_code 152 = .ok (.lload_n 3, 1) := by decide +kernel
theorem d_X11_trend_153 : decode prog_13_method_104_code 153 = .ok (.lload 9, 2) := by decide +kernel
theorem d_X11_trend_155 : decode prog_13_method_104_code 155 = .ok (.lmul, 1) := by decide +kernel
theorem d_X11_trend_156 : decode prog_13_method_104_code 156 = .ok (.lsub, 1) := by decide +kernel
theorem d_X11_trend_157 : decode prog_13_method_104_code 157 = .ok (.lload 11, 2) := by decide +kernel
theorem d_X11_trend_159 : decode prog_13_method_104_code 159 = .ok (.invokevirtual 443, 3) := by decide +kernel
theorem d_X11_trend_162 : decode prog_13_method_104_code 162 = .ok (.iload_n 1, 1) := by decide +kernel
theorem d_X11_trend_163 : decode prog_13_method_104_code 163 = .ok (.iconst 2, 1) := by decide +kernel
theorem d_X11_trend_164 : decode prog_13_method_104_code 164 = .ok (.irem, 1) := by decide +kernel
theorem d_X11_trend_165 : decode prog_13_method_104_code 165 = .ok (.ifCond .ne 10, 3) := by decide +kernel
theorem d_X11_trend_168 : decode prog_13_method_104_code 168 = .ok (.aload_n 0, 1) := by decide +kernel
theorem d_X11_trend_169 : decode prog_13_method_104_code 169 = .ok (.getfield 432, 3) := by decide +kernel
theorem d_X11_trend_172 : decode prog_13_method_104_code 172 = .ok (.goto 7, 3) := by decide +kernel
theorem d_X11_trend_175 : decode prog_13_method_104_code 175 = .ok (.aload_n 0, 1) := by decide +kernel
theorem d_X11_trend_176 : decode prog_13_method_104_code 176 = .ok (.getfield 435, 3) := by decide +kernel
theorem d_X11_trend_179 : decode prog_13_method_104_code 179 = .ok (.l2i, 1) := by decide +kernel
theorem d_X11_trend_180 : decode prog_13_method_104_code 180 = .ok (.ireturn, 1) := by decide +kernel
theorem d_X11_gets_0 : decode prog_13_method_105_code 0 = .ok (.aload_n 0, 1) := by decide +kernel
theorem d_X11_gets_1 : decode prog_13_method_105_code 1 = .ok (.iconst 0, 1) := by decide +kernel
theorem d_X11_gets_2 : decode prog_13_method_105_code 2 = .ok (.putfield 145, 3) := by decide +kernel
theorem d_X11_gets_5 : decode prog_13_method_105_code 5 = .ok (.aload_n 0, 1) := by decide +kernel
theorem d_X11_gets_6 : decode prog_13_method_105_code 6 = .ok (.iload_n 1, 1) := by decide +kernel
theorem d_X11_gets_7 : decode prog_13_method_105_code 7 = .ok (.invokevirtual 184, 3) := by decide +kernel
theorem d_X11_gets_10 : decode prog_13_method_105_code 10 = .ok (.ifCond .eq 15, 3) := by decide +kernel
theorem d_X11_gets_13 : decode prog_13_method_105_code 13 = .ok (.iload_n 2, 1) := by decide +kernel
theorem d_X11_gets_14 : decode prog_13_method_105_code 14 = .ok (.i2l, 1) := by decide +kernel
theorem d_X11_gets_15 : decode prog_13_method_105_code 15 = .ok (.lconst 0, 1) := by decide +kernel
theorem d_X11_gets_16 : decode prog_13_method_105_code 16 = .ok (.ldc2_w 492, 3) := by decide +kernel
theorem d_X11_gets_19 : decode prog_13_method_105_code 19 = .ok (.invokestatic 165, 3) := by decide +kernel
theorem d_X11_gets_22 : decode prog_13_method_105_code 22 = .ok (.ifCond .ne 7, 3) := by decide +kernel
theorem d_X11_gets_25 : decode prog_13_method_105_code 25 = .ok (.ldc2_w 251, 3) := by decide +kernel
theorem d_X11_gets_28 : decode prog_13_method_105_code 28 = .ok (.lreturn, 1) := by decide +kernel
theorem d_X11_gets_29 : decode prog_13_method_105_code 29 = .ok (.iconst 0, 1) := by decide +kernel
theorem d_X11_gets_30 : decode prog_13_method_105_code 30 = .ok (.istore_n 3, 1) := by decide +kernel
theorem d_X11_gets_31 : decode prog_13_method_105_code 31 = .ok (.iload_n 3, 1) := by decide +kernel
theorem d_X11_gets_32 : decode prog_13_method_105_code 32 = .ok (.bipush 14, 2) := by decide +kernel
theorem d_X11_gets_34 : decode prog_13_method_105_code 34 = .ok (.if_icmp .ge 35, 3) := by decide +kernel
theorem d_X11_gets_37 : decode prog_13_method_105_code 37 = .ok (.aload_n 0, 1) := by decide +kernel
theorem d_X11_gets_38 : decode prog_13_method_105_code 38 = .ok (.getfield 119, 3) := by decide +kernel
theorem d_X11_gets_41 : decode prog_13_method_105_code 41 = .ok (.iload_n 3, 1) := by decide +kernel
theorem d_X11_gets_42 : decode prog_13_method_105_code 42 = .ok (.iload_n 3, 1) := by decide +kernel
theorem d_X11_gets_43 : decode prog_13_method_105_code 43 = .ok (.aload_n 0, 1) := by decide +kernel
theorem d_X11_gets_44 : decode prog_13_method_105_code 44 = .ok (.getfield 13, 3) := by decide +kernel
theorem d_X11_gets_47 : decode prog_13_method_105_code 47 = .ok (.bipush 8, 2) := by decide +kernel
theorem d_X11_gets_49 : decode prog_13_method_105_code 49 = .ok (.iload_n 1, 1) := by decide +kernel
theorem d_X11_gets_50 : decode prog_13_method_105_code 50 = .ok (.iadd, 1) := by decide +kernel
theorem d_X11_gets_51 : decode prog_13_method_105_code 51 = .ok (.iaload, 1) := by decide +kernel
theorem d_X11_gets_52 : decode prog_13_method_105_code 52 = .ok (.if_icmp .ne 9, 3) := by decide +kernel
theorem d_X11_gets_55 : decode prog_13_method_105_code 55 = .ok (.ldc2_w 494, 3) := by decide +kernel
theorem d_X11_gets_58 : decode prog_13_method_105_code 58 = .ok (.goto 4, 3) := by decide +kernel
theorem d_X11_gets_61 : decode prog_13_method_105_code 61 = .ok (.lconst 0, 1) := by decide +kernel
theorem d_X11_gets_62 : decode prog_13_method_105_code 62 = .ok (.lastore, 1) := by decide +kernel
theorem d_X11_gets_63 : decode prog_13_method_105_code 63 = .ok (.iinc 3 1, 3) := by decide +kernel
theorem d_X11_gets_66 : decode prog_13_method_105_code 66 = .ok (.goto (-35), 3) := by decide +kernel
theorem d_X11_gets_69 : decode prog_13_method_105_code 69 = .ok (.aload_n 0, 1) := by decide +kernel
theorem d_X11_gets_70 : decode prog_13_method_105_code 70 = .ok (.getfield 13, 3) := by decide +kernel
theorem d_X11_gets_73 : decode prog_13_method_105_code 73 = .ok (.bipush 6, 2) := by decide +kernel
theorem d_X11_gets_75 : decode prog_13_method_105_code 75 = .ok (.iaload, 1) := by decide +kernel
theorem d_X11_gets_76 : decode prog_13_method_105_code 76 = .ok (.istore_n 3, 1) := by decide +kernel
theorem d_X11_gets_77 : decode prog_13_method_105_code 77 = .ok (.iconst 0, 1) := by decide +kernel
theorem d_X11_gets_78 : decode prog_13_method_105_code 78 = .ok (.istore 4, 2) := by decide +kernel
theorem d_X11_gets_80 : decode prog_13_method_105_code 80 = .ok (.iload 4, 2) := by decide +kernel
theorem d_X11_gets_82 : decode prog_13_method_105_code 82 = .ok (.iload_n 2, 1) := by decide +kernel
theorem d_X11_gets_83 : decode prog_13_method_105_code 83 = .ok (.if_icmp .ge 73, 3) := by decide +kernel
theorem d_X11_gets_86 : decode prog_13_method_105_code 86 = .ok (.bipush 11, 2) := by decide +kernel
theorem d_X11_gets_88 : decode prog_13_method_105_code 88 = .ok (.istore 5, 2) := by decide +kernel
theorem d_X11_gets_90 : decode prog_13_method_105_code 90 = .ok (.iload 5, 2) := by decide +kernel
theorem d_X11_gets_92 : decode prog_13_method_105_code 92 = .ok (.ifCond .le 58, 3) := by decide +kernel
theorem d_X11_gets_95 : decode prog_13_method_105_code 95 = .ok (.aload_n 0, 1) := by decide +kernel
theorem d_X11_gets_96 : decode prog_13_method_105_code 96 = .ok (.getfield 119, 3) := by decide +kernel
theorem d_X11_gets_99 : decode prog_13_method_105_code 99 = .ok (.iload 5, 2) := by decide +kernel
theorem d_X11_gets_101 : decode prog_13_method_105_code 101 = .ok (.laload, 1) := by decide +kernel
theorem d_X11_gets_102 : decode prog_13_method_105_code 102 = .ok (.lstore 6, 2) := by decide +kernel
theorem d_X11_gets_104 : decode prog_13_method_105_code 104 = .ok (.aload_n 0, 1) := by decide +kernel
theorem d_X11_gets_105 : decode prog_13_method_105_code 105 = .ok (.getfield 119, 3) := by decide +kernel
theorem d_X11_gets_108 : decode prog_13_method_105_code 108 = .ok (.iload 5, 2) := by decide +kernel
theorem d_X11_gets_110 : decode prog_13_method_105_code 110 = .ok (.lload 6, 2) := by decide +kernel
theorem d_X11_gets_112 : decode prog_13_method_105_code 112 = .ok (.bipush 10, 2) := by decide +kernel
theorem d_X11_gets_114 : decode prog_13_method_105_code 114 = .ok (.iload_n 3, 1) := by decide +kernel
theorem d_X11_gets_115 : decode prog_13_method_105_code 115 = .ok (.isub, 1) := by decide +kernel
theorem d_X11_gets_116 : decode prog_13_method_105_code 116 = .ok (.i2l, 1) := by decide +kernel
theorem d_X11_gets_117 : decode prog_13_method_105_code 117 = .ok (.lmul, 1) := by decide +kernel
theorem d_X11_gets_118 : decode prog_13_method_105_code 118 = .ok (.ldc2_w 210, 3) := by decide +kernel
theorem d_X11_gets_121 : decode prog_13_method_105_code 121 = .ok (.ldiv, 1) := by decide +kernel
theorem d_X11_gets_122 : decode prog_13_method_105_code 122 = .ok (.lastore, 1) := by decide +kernel
theorem d_X11_gets_123 : decode prog_13_method_105_code 123 = .ok (.aload_n 0, 1) := by decide +kernel
theorem d_X11_gets_124 : decode prog_13_method_105_code 124 = .ok (.getfield 119, 3) := by decide +kernel
theorem d_X11_gets_127 : decode prog_13_method_105_code 127 = .ok (.iload 5, 2) := by decide +kernel
theorem d_X11_gets_129 : decode prog_13_method_105_code 129 = .ok (.iconst 1, 1) := by decide +kernel
theorem d_X11_gets_130 : decode prog_13_method_105_code 130 = .ok (.iadd, 1) := by decide +kernel
theorem d_X11_gets_131 : decode prog_13_method_105_code 131 = .ok (.dup2, 1) := by decide +kernel
theorem d_X11_gets_132 : decode prog_13_method_105_code 132 = .ok (.laload, 1) := by decide +kernel
theorem d_X11_gets_133 : decode prog_13_method_105_code 133 = .ok (.lload 6, 2) := by decide +kernel
theorem d_X11_gets_135 : decode prog_13_method_105_code 135 = .ok (.iload_n 3, 1) := by decide +kernel
theorem d_X11_gets_136 : decode prog_13_method_105_code 136 = .ok (.i2l, 1) := by decide +kernel
theorem d_X11_gets_137 : decode prog_13_method_105_code 137 = .ok (.lmul, 1) := by decide +kernel
theorem d_X11_gets_138 : decode prog_13_method_105_code 138 = .ok (.ldc2_w 210, 3) := by decide +kernel
theorem d_X11_gets_141 : decode prog_13_method_105_code 141 = .ok (.ldiv, 1) := by decide +kernel
theorem d_X11_gets_142 : decode prog_13_method_105_code 142 = .ok (.ladd, 1) := by decide +kernel
theorem d_X11_gets_143 : decode prog_13_method_105_code 143 = .ok (.lastore, 1) := by decide +kernel
theorem d_X11_gets_144 : decode prog_13_method_105_code 144 = .ok (.iinc 5 (-1), 3) := by decide +kernel
theorem d_X11_gets_147 : decode prog_13_method_105_code 147 = .ok (.goto (-57), 3) := by decide +kernel
theorem d_X11_gets_150 : decode prog_13_method_105_code 150 = .ok (.iinc 4 1, 3) := by decide +kernel
theorem d_X11_gets_153 : decode prog_13_method_105_code 153 = .ok (.goto (-73), 3) := by decide +kernel
theorem d_X11_gets_156 : decode prog_13_method_105_code 156 = .ok (.aload_n 0, 1) := by decide +kernel
theorem d_X11_gets_157 : decode prog_13_method_105_code 157 = .ok (.getfield 119, 3) := by decide +kernel
theorem d_X11_gets_160 : decode prog_13_method_105_code 160 = .ok (.bipush 12, 2) := by decide +kernel
theorem d_X11_gets_162 : decode prog_13_method_105_code 162 = .ok (.laload, 1) := by decide +kernel
theorem d_X11_gets_163 : decode prog_13_method_105_code 163 = .ok (.lreturn, 1) := by decide +kernel
theorem d_X11_readSum_0 : decode prog_13_method_106_code 0 = .ok (.aload_n 0, 1) := by decide +kernel
theorem d_X11_readSum_1 : decode prog_13_method_106_code 1 = .ok (.getfield 133, 3) := by decide +kernel
theorem d_X11_readSum_4 : decode prog_13_method_106_code 4 = .ok (.iload_n 1, 1) := by decide +kernel
theorem d_X11_readSum_5 : decode prog_13_method_106_code 5 = .ok (.aload_n 0, 1) := by decide +kernel
theorem d_X11_readSum_6 : decode prog_13_method_106_code 6 = .ok (.getfield 261, 3) := by decide +kernel
theorem d_X11_readSum_9 : decode prog_13_method_106_code 9 = .ok (.iastore, 1) := by decide +kernel
theorem d_X11_readSum_10 : decode prog_13_method_106_code 10 = .ok (.aload_n 0, 1) := by decide +kernel
theorem d_X11_readSum_11 : decode prog_13_method_106_code 11 = .ok (.getfield 224, 3) := by decide +kernel
theorem d_X11_readSum_14 : decode prog_13_method_106_code 14 = .ok (.ifCond .ne 8, 3) := by decide +kernel
theorem d_X11_readSum_17 : decode prog_13_method_106_code 17 = .ok (.aload_n 0, 1) := by decide +kernel
theorem d_X11_readSum_18 : decode prog_13_method_106_code 18 = .ok (.iconst 0, 1) := by decide +kernel
theorem d_X11_readSum_19 : decode prog_13_method_106_code 19 = .ok (.invokevirtual 356, 3) := by decide +kernel
theorem d_X11_readSum_22 : decode prog_13_method_106_code 22 = .ok (.aload_n 0, 1) := by decide +kernel
theorem d_X11_readSum_23 : decode prog_13_method_106_code 23 = .ok (.getfield 133, 3) := by decide +kernel
theorem d_X11_readSum_26 : decode prog_13_method_106_code 26 = .ok (.iload_n 1, 1) := by decide +kernel
theorem d_X11_readSum_27 : decode prog_13_method_106_code 27 = .ok (.iconst 1, 1) := by decide +kernel
theorem d_X11_readSum_28 : decode prog_13_method_106_code 28 = .ok (.iadd, 1) := by decide +kernel
theorem d_X11_readSum_29 : decode prog_13_method_106_code 29 = .ok (.aload_n 0, 1) := by decide +kernel
theorem d_X11_readSum_30 : decode prog_13_method_106_code 30 = .ok (.getfield 261, 3) := by decide +kernel
theorem d_X11_readSum_33 : decode prog_13_method_106_code 33 = .ok (.iastore, 1) := by decide +kernel
theorem d_X11_readSum_34 : decode prog_13_method_106_code 34 = .ok (.return_, 1) := by decide +kernel
theorem d_X11_readOrder_0 : decode prog_13_method_107_code 0 = .ok (.iconst (-1), 1) := by decide +kernel
theorem d_X11_readOrder_1 : decode prog_13_method_107_code 1 = .ok (.istore_n 1, 1) := by decide +kernel
theorem d_X11_readOrder_2 : decode prog_13_method_107_code 2 = .ok (.iconst 0, 1) := by decide +kernel
theorem d_X11_readOrder_3 : decode prog_13_method_107_code 3 = .ok (.istore_n 2, 1) := by decide +kernel
theorem d_X11_readOrder_4 : decode prog_13_method_107_code 4 = .ok (.iload_n 2, 1) := by decide +kernel
theorem d_X11_readOrder_5 : decode prog_13_method_107_code 5 = .ok (.iconst 4, 1) := by decide +kernel
theorem d_X11_readOrder_6 : decode prog_13_method_107_code 6 = .ok (.if_icmp .ge 28, 3) := by decide +kernel
theorem d_X11_readOrder_9 : decode prog_13_method_107_code 9 = .ok (.aload_n 0, 1) := by decide +kernel
theorem d_X11_readOrder_10 : decode prog_13_method_107_code 10 = .ok (.aload_n 0, 1) := by decide +kernel
theorem d_X11_readOrder_11 : decode prog_13_method_107_code 11 = .ok (.getfield 130, 3) := by decide +kernel
theorem d_X11_readOrder_14 : decode prog_13_method_107_code 14 = .ok (.iload_n 2, 1) := by decide +kernel
theorem d_X11_readOrder_15 : decode prog_13_method_107_code 15 = .ok (.laload, 1) := by decide +kernel
theorem d_X11_readOrder_16 : decode prog_13_method_107_code 16 = .ok (.invokevirtual 280, 3) := by decide +kernel
theorem d_X11_readOrder_19 : decode prog_13_method_107_code 19 = .ok (.ifCond .eq 7, 3) := by decide +kernel
theorem d_X11_readOrder_22 : decode prog_13_method_107_code 22 = .ok (.iload_n 2, 1) := by decide +kernel
theorem d_X11_readOrder_23 : decode prog_13_method_107_code 23 = .ok (.goto 4, 3) := by decide +kernel
theorem d_X11_readOrder_26 : decode prog_13_method_107_code 26 = .ok (.iload_n 1, 1) := by decide +kernel
theorem d_X11_readOrder_27 : decode prog_13_method_107_code 27 = .ok (.istore_n 1, 1) := by decide +kernel
theorem d_X11_readOrder_28 : decode prog_13_method_107_code 28 = .ok (.iinc 2 1, 3) := by decide +kernel
theorem d_X11_readOrder_31 : decode prog_13_method_107_code 31 = .ok (.goto (-27), 3) := by decide +kernel
theorem d_X11_readOrder_34 : decode prog_13_method_107_code 34 = .ok (.aload_n 0, 1) := by decide +kernel
theorem d_X11_readOrder_35 : decode prog_13_method_107_code 35 = .ok (.iload_n 1, 1) := by decide +kernel
theorem d_X11_readOrder_36 : decode prog_13_method_107_code 36 = .ok (.iconst (-1), 1) := by decide +kernel
theorem d_X11_readOrder_37 : decode prog_13_method_107_code 37 = .ok (.if_icmp .eq 16, 3) := by decide +kernel
theorem d_X11_readOrder_40 : decode prog_13_method_107_code 40 = .ok (.aload_n 0, 1) := by decide +kernel
theorem d_X11_readOrder_41 : decode prog_13_method_107_code 41 = .ok (.getfield 353, 3) := by decide +kernel
theorem d_X11_readOrder_44 : decode prog_13_method_107_code 44 = .ok (.bipush 12, 2) := by decide +kernel
theorem d_X11_readOrder_46 : decode prog_13_method_107_code 46 = .ok (.if_icmp .ge 7, 3) := by decide +kernel
theorem d_X11_readOrder_49 : decode prog_13_method_107_code 49 = .ok (.iconst 1, 1) := by decide +kernel
theorem d_X11_readOrder_50 : decode prog_13_method_107_code 50 = .ok (.goto 4, 3) := by decide +kernel
theorem d_X11_readOrder_53 : decode prog_13_method_107_code 53 = .ok (.iconst 0, 1) := by decide +kernel
theorem d_X11_readOrder_54 : decode prog_13_method_107_code 54 = .ok (.invokevirtual 257, 3) := by decide +kernel
theorem d_X11_readOrder_57 : decode prog_13_method_107_code 57 = .ok (.aload_n 0, 1) := by decide +kernel
theorem d_X11_readOrder_58 : decode prog_13_method_107_code 58 = .ok (.getfield 224, 3) := by decide +kernel
theorem d_X11_readOrder_61 : decode prog_13_method_107_code 61 = .ok (.ifCond .eq 4, 3) := by decide +kernel
theorem d_X11_readOrder_64 : decode prog_13_method_107_code 64 = .ok (.return_, 1) := by decide +kernel
theorem d_X11_readOrder_65 : decode prog_13_method_107_code 65 = .ok (.bipush 8, 2) := by decide +kernel
theorem d_X11_readOrder_67 : decode prog_13_method_107_code 67 = .ok (.aload_n 0, 1) := by decide +kernel
theorem d_X11_readOrder_68 : decode prog_13_method_107_code 68 = .ok (.getfield 353, 3) := by decide +kernel
theorem d_X11_readOrder_71 : decode prog_13_method_107_code 71 = .ok (.imul, 1) := by decide +kernel
theorem d_X11_readOrder_72 : decode prog_13_method_107_code 72 = .ok (.istore_n 2, 1) := by decide +kernel
theorem d_X11_readOrder_73 : decode prog_13_method_107_code 73 = .ok (.aload_n 0, 1) := by decide +kernel
theorem d_X11_readOrder_74 : decode prog_13_method_107_code 74 = .ok (.dup, 1) := by decide +kernel
theorem d_X11_readOrder_75 : decode prog_13_method_107_code 75 = .ok (.getfield 353, 3) := by decide +kernel
theorem d_X11_readOrder_78 : decode prog_13_method_107_code 78 = .ok (.iconst 1, 1) := by decide +kernel
theorem d_X11_readOrder_79 : decode prog_13_method_107_code 79 = .ok (.iadd, 1) := by decide +kernel
theorem d_X11_readOrder_80 : decode prog_13_method_107_code 80 = .ok (.putfield 353, 3) := by decide +kernel
theorem d_X11_readOrder_83 : decode prog_13_method_107_code 83 = .ok (.iconst 0, 1) := by decide +kernel
theorem d_X11_readOrder_84 : decode prog_13_method_107_code 84 = .ok (.istore_n 3, 1) := by decide +kernel
theorem d_X11_readOrder_85 : decode prog_13_method_107_code 85 = .ok (.iload_n 3, 1) := by decide +kernel
theorem d_X11_readOrder_86 : decode prog_13_method_107_code 86 = .ok (.bipush 8, 2) := by decide +kernel
theorem d_X11_readOrder_88 : decode prog_13_method_107_code 88 = .ok (.if_icmp .ge 18, 3) := by decide +kernel
theorem d_X11_readOrder_91 : decode prog_13_method_107_code 91 = .ok (.aload_n 0, 1) := by decide +kernel
theorem d_X11_readOrder_92 : decode prog_13_method_107_code 92 = .ok (.getfield 133, 3) := by decide +kernel
theorem d_X11_readOrder_95 : decode prog_13_method_107_code 95 = .ok (.iload_n 2, 1) := by decide +kernel
theorem d_X11_readOrder_96 : decode prog_13_method_107_code 96 = .ok (.iload_n 3, 1) := by decide +kernel
theorem d_X11_readOrder_97 : decode prog_13_method_107_code 97 = .ok (.iadd, 1) := by decide +kernel
theorem d_X11_readOrder_98 : decode prog_13_method_107_code 98 = .ok (.iconst 0, 1) := by decide +kernel
theorem d_X11_readOrder_99 : decode prog_13_method_107_code 99 = .ok (.iastore, 1) := by decide +kernel
theorem d_X11_readOrder_100 : decode prog_13_method_107_code 100 = .ok (.iinc 3 1, 3) := by decide +kernel
theorem d_X11_readOrder_103 : decode prog_13_method_107_code 103 = .ok (.goto (-18), 3) := by decide +kernel
theorem d_X11_readOrder_106 : decode prog_13_method_107_code 106 = .ok (.aload_n 0, 1) := by decide +kernel
theorem d_X11_readOrder_107 : decode prog_13_method_107_code 107 = .ok (.getfield 133, 3) := by decide +kernel
theorem d_X11_readOrder_110 : decode prog_13_method_107_code 110 = .ok (.iload_n 2, 1) := by decide +kernel
theorem d_X11_readOrder_111 : decode prog_13_method_107_code 111 = .ok (.iload_n 1, 1) := by decide +kernel
theorem d_X11_readOrder_112 : decode prog_13_method_107_code 112 = .ok (.iastore, 1) := by decide +kernel
theorem d_X11_readOrder_113 : decode prog_13_method_107_code 113 = .ok (.iload_n 1, 1) := by decide +kernel
theorem d_X11_readOrder_114 : decode prog_13_method_107_code 114 = .ok (.iconst 3, 1) := by decide +kernel
theorem d_X11_readOrder_115 : decode prog_13_method_107_code 115 = .ok (.if_icmp .eq 10, 3) := by decide +kernel
theorem d_X11_readOrder_118 : decode prog_13_method_107_code 118 = .ok (.aload_n 0, 1) := by decide +kernel
theorem d_X11_readOrder_119 : decode prog_13_method_107_code 119 = .ok (.iload_n 2, 1) := by decide +kernel
theorem d_X11_readOrder_120 : decode prog_13_method_107_code 120 = .ok (.iconst 1, 1) := by decide +kernel
theorem d_X11_readOrder_121 : decode prog_13_method_107_code 121 = .ok (.iadd, 1) := by decide +kernel
theorem d_X11_readOrder_122 : decode prog_13_method_107_code 122 = .ok (.invokevirtual 496, 3) := by decide +kernel
theorem d_X11_readOrder_125 : decode prog_13_method_107_code 125 = .ok (.iload_n 1, 1) := by decide +kernel
theorem d_X11_readOrder_126 : decode prog_13_method_107_code 126 = .ok (.iconst 2, 1) := by decide +kernel
theorem d_X11_readOrder_127 : decode prog_13_method_107_code 127 = .ok (.if_icmp .ne 28, 3) := by decide +kernel
theorem d_X11_readOrder_130 : decode prog_13_method_107_code 130 = .ok (.aload_n 0, 1) := by decide +kernel
theorem d_X11_readOrder_131 : decode prog_13_method_107_code 131 = .ok (.getfield 224, 3) := by decide +kernel
theorem d_X11_readOrder_134 : decode prog_13_method_107_code 134 = .ok (.ifCond .ne 14, 3) := by decide +kernel
theorem d_X11_readOrder_137 : decode prog_13_method_107_code 137 = .ok (.aload_n 0, 1) := by decide +kernel
theorem d_X11_readOrder_138 : decode prog_13_method_107_code 138 = .ok (.aload_n 0, 1) := by decide +kernel
theorem d_X11_readOrder_139 : decode prog_13_method_107_code 139 = .ok (.ldc2_w 499, 3) := by decide +kernel
theorem d_X11_readOrder_142 : decode prog_13_method_107_code 142 = .ok (.invokevirtual 280, 3) := by decide +kernel
theorem d_X11_readOrder_145 : decode prog_13_method_107_code 145 = .ok (.invokevirtual 257, 3) := by decide +kernel
theorem d_X11_readOrder_148 : decode prog_13_method_107_code 148 = .ok (.aload_n 0, 1) := by decide +kernel
theorem d_X11_readOrder_149 : decode prog_13_method_107_code 149 = .ok (.iload_n 2, 1) := by decide +kernel
theorem d_X11_readOrder_150 : decode prog_13_method_107_code 150 = .ok (.iconst 3, 1) := by decide +kernel
theorem d_X11_readOrder_151 : decode prog_13_method_107_code 151 = .ok (.iadd, 1) := by decide +kernel
theorem d_X11_readOrder_152 : decode prog_13_method_107_code 152 = .ok (.invokevirtual 496, 3) := by decide +kernel
theorem d_X11_readOrder_155 : decode prog_13_method_107_code 155 = .ok (.aload_n 0, 1) := by decide +kernel
theorem d_X11_readOrder_156 : decode prog_13_method_107_code 156 = .ok (.getfield 133, 3) := by decide +kernel
theorem d_X11_readOrder_159 : decode prog_13_method_107_code 159 = .ok (.iload_n 2, 1) := by decide +kernel
theorem d_X11_readOrder_160 : decode prog_13_method_107_code 160 = .ok (.bipush 7, 2) := by decide +kernel
theorem d_X11_readOrder_162 : decode prog_13_method_107_code 162 = .ok (.iadd, 1) := by decide +kernel
theorem d_X11_readOrder_163 : decode prog_13_method_107_code 163 = .ok (.iconst 1, 1) := by decide +kernel
theorem d_X11_readOrder_164 : decode prog_13_method_107_code 164 = .ok (.iastore, 1) := by decide +kernel
theorem d_X11_readOrder_165 : decode prog_13_method_107_code 165 = .ok (.aload_n 0, 1) := by decide +kernel
theorem d_X11_readOrder_166 : decode prog_13_method_107_code 166 = .ok (.getfield 224, 3) := by decide +kernel
theorem d_X11_readOrder_169 : decode prog_13_method_107_code 169 = .ok (.ifCond .ne 34, 3) := by decide +kernel
theorem d_X11_readOrder_172 : decode prog_13_method_107_code 172 = .ok (.aload_n 0, 1) := by decide +kernel
theorem d_X11_readOrder_173 : decode prog_13_method_107_code 173 = .ok (.ldc2_w 501, 3) := by decide +kernel
theorem d_X11_readOrder_176 : decode prog_13_method_107_code 176 = .ok (.invokevirtual 280, 3) := by decide +kernel
theorem d_X11_readOrder_179 : decode prog_13_method_107_code 179 = .ok (.ifCond .eq 24, 3) := by decide +kernel
theorem d_X11_readOrder_182 : decode prog_13_method_107_code 182 = .ok (.aload_n 0, 1) := by decide +kernel
theorem d_X11_readOrder_183 : decode prog_13_method_107_code 183 = .ok (.invokevirtual 228, 3) := by decide +kernel
theorem d_X11_readOrder_186 : decode prog_13_method_107_code 186 = .ok (.aload_n 0, 1) := by decide +kernel
theorem d_X11_readOrder_187 : decode prog_13_method_107_code 187 = .ok (.getfield 133, 3) := by decide +kernel
theorem d_X11_readOrder_190 : decode prog_13_method_107_code 190 = .ok (.iload_n 2, 1) := by decide +kernel
theorem d_X11_readOrder_191 : decode prog_13_method_107_code 191 = .ok (.bipush 7, 2) := by decide +kernel
theorem d_X11_readOrder_193 : decode prog_13_method_107_code 193 = .ok (.iadd, 1) := by decide +kernel
theorem d_X11_readOrder_194 : decode prog_13_method_107_code 194 = .ok (.aload_n 0, 1) := by decide +kernel
theorem d_X11_readOrder_195 : decode prog_13_method_107_code 195 = .ok (.lconst 1, 1) := by decide +kernel
theorem d_X11_readOrder_196 : decode prog_13_method_107_code 196 = .ok (.ldc2_w 274, 3) := by decide +kernel
theorem d_X11_readOrder_199 : decode prog_13_method_107_code 199 = .ok (.invokevirtual 317, 3) := by decide +kernel
theorem d_X11_readOrder_202 : decode prog_13_method_107_code 202 = .ok (.iastore, 1) := by decide +kernel
theorem d_X11_readOrder_203 : decode prog_13_method_107_code 203 = .ok (.aload_n 0, 1) := by decide +kernel
theorem d_X11_readOrder_204 : decode prog_13_method_107_code 204 = .ok (.getfield 133, 3) := by decide +kernel
theorem d_X11_readOrder_207 : decode prog_13_method_107_code 207 = .ok (.iload_n 2, 1) := by decide +kernel
theorem d_X11_readOrder_208 : decode prog_13_method_107_code 208 = .ok (.iconst 5, 1) := by decide +kernel
theorem d_X11_readOrder_209 : decode prog_13_method_107_code 209 = .ok (.iadd, 1) := by decide +kernel
theorem d_X11_readOrder_210 : decode prog_13_method_107_code 210 = .ok (.aload_n 0, 1) := by decide +kernel
theorem d_X11_readOrder_211 : decode prog_13_method_107_code 211 = .ok (.getfield 261, 3) := by decide +kernel
theorem d_X11_readOrder_214 : decode prog_13_method_107_code 214 = .ok (.iastore, 1) := by decide +kernel
theorem d_X11_readOrder_215 : decode prog_13_method_107_code 215 = .ok (.aload_n 0, 1) := by decide +kernel
theorem d_X11_readOrder_216 : decode prog_13_method_107_code 216 = .ok (.getfield 224, 3) := by decide +kernel
theorem d_X11_readOrder_219 : decode prog_13_method_107_code 219 = .ok (.ifCond .ne 22, 3) := by decide +kernel
theorem d_X11_readOrder_222 : decode prog_13_method_107_code 222 = .ok (.aload_n 0, 1) := by decide +kernel
theorem d_X11_readOrder_223 : decode prog_13_method_107_code 223 = .ok (.ldc2_w 359, 3) := by decide +kernel
theorem d_X11_readOrder_226 : decode prog_13_method_107_code 226 = .ok (.invokevirtual 280, 3) := by decide +kernel
theorem d_X11_readOrder_229 : decode prog_13_method_107_code 229 = .ok (.ifCond .eq 12, 3) := by decide +kernel
theorem d_X11_readOrder_232 : decode prog_13_method_107_code 232 = .ok (.aload_n 0, 1) := by decide +kernel
theorem d_X11_readOrder_233 : decode prog_13_method_107_code 233 = .ok (.invokevirtual 228, 3) := by decide +kernel
theorem d_X11_readOrder_236 : decode prog_13_method_107_code 236 = .ok (.aload_n 0, 1) := by decide +kernel
theorem d_X11_readOrder_237 : decode prog_13_method_107_code 237 = .ok (.iconst 1, 1) := by decide +kernel
theorem d_X11_readOrder_238 : decode prog_13_method_107_code 238 = .ok (.invokevirtual 356, 3) := by decide +kernel
theorem d_X11_readOrder_241 : decode prog_13_method_107_code 241 = .ok (.aload_n 0, 1) := by decide +kernel
theorem d_X11_readOrder_242 : decode prog_13_method_107_code 242 = .ok (.getfield 133, 3) := by decide +kernel
theorem d_X11_readOrder_245 : decode prog_13_method_107_code 245 = .ok (.iload_n 2, 1) := by decide +kernel
theorem d_X11_readOrder_246 : decode prog_13_method_107_code 246 = .ok (.bipush 6, 2) := by decide +kernel
theorem d_X11_readOrder_248 : decode prog_13_method_107_code 248 = .ok (.iadd, 1) := by decide +kernel
theorem d_X11_readOrder_249 : decode prog_13_method_107_code 249 = .ok (.aload_n 0, 1) := by decide +kernel
theorem d_X11_readOrder_250 : decode prog_13_method_107_code 250 = .ok (.getfield 261, 3) := by decide +kernel
theorem d_X11_readOrder_253 : decode prog_13_method_107_code 253 = .ok (.iastore, 1) := by decide +kernel
theorem d_X11_readOrder_254 : decode prog_13_method_107_code 254 = .ok (.return_, 1) := by decide +kernel
theorem d_X11_sumOf_0 : decode prog_13_method_108_code 0 = .ok (.aload_n 0, 1) := by decide +kernel
theorem d_X11_sumOf_1 : decode prog_13_method_108_code 1 = .ok (.getfield 503, 3) := by decide +kernel
theorem d_X11_sumOf_4 : decode prog_13_method_108_code 4 = .ok (.ifCond .ne 20, 3) := by decide +kernel
theorem d_X11_sumOf_7 : decode prog_13_method_108_code 7 = .ok (.aload_n 0, 1) := by decide +kernel
theorem d_X11_sumOf_8 : decode prog_13_method_108_code 8 = .ok (.getfield 133, 3) := by decide +kernel
theorem d_X11_sumOf_11 : decode prog_13_method_108_code 11 = .ok (.iload_n 1, 1) := by decide +kernel
theorem d_X11_sumOf_12 : decode prog_13_method_108_code 12 = .ok (.iaload, 1) := by decide +kernel
theorem d_X11_sumOf_13 : decode prog_13_method_108_code 13 = .ok (.aload_n 0, 1) := by decide +kernel
theorem d_X11_sumOf_14 : decode prog_13_method_108_code 14 = .ok (.getfield 133, 3) := by decide +kernel
theorem d_X11_sumOf_17 : decode prog_13_method_108_code 17 = .ok (.iload_n 1, 1) := by decide +kernel
theorem d_X11_sumOf_18 : decode prog_13_method_108_code 18 = .ok (.iconst 1, 1) := by decide +kernel
theorem d_X11_sumOf_19 : decode prog_13_method_108_code 19 = .ok (.iadd, 1) := by decide +kernel
theorem d_X11_sumOf_20 : decode prog_13_method_108_code 20 = .ok (.iaload, 1) := by decide +kernel
theorem d_X11_sumOf_21 : decode prog_13_method_108_code 21 = .ok (.if_icmp .ne 5, 3) := by decide +kernel
theorem d_X11_sumOf_24 : decode prog_13_method_108_code 24 = .ok (.iconst (-1), 1) := by decide +kernel
theorem d_X11_sumOf_25 : decode prog_13_method_108_code 25 = .ok (.ireturn, 1) := by decide +kernel
theorem d_X11_sumOf_26 : decode prog_13_method_108_code 26 = .ok (.aload_n 0, 1) := by decide +kernel
theorem d_X11_sumOf_27 : decode prog_13_method_108_code 27 = .ok (.iconst 1, 1) := by decide +kernel
theorem d_X11_sumOf_28 : decode prog_13_method_108_code 28 = .ok (.putfield 299, 3) := by decide +kernel
theorem d_X11_sumOf_31 : decode prog_13_method_108_code 31 = .ok (.aload_n 0, 1) := by decide +kernel
theorem d_X11_sumOf_32 : decode prog_13_method_108_code 32 = .ok (.aload_n 0, 1) := by decide +kernel
theorem d_X11_sumOf_33 : decode prog_13_method_108_code 33 = .ok (.getfield 133, 3) := by decide +kernel
theorem d_X11_sumOf_36 : decode prog_13_method_108_code 36 = .ok (.iload_n 1, 1) := by decide +kernel
theorem d_X11_sumOf_37 : decode prog_13_method_108_code 37 = .ok (.iaload, 1) := by decide +kernel
theorem d_X11_sumOf_38 : decode prog_13_method_108_code 38 = .ok (.aload_n 0, 1) := by decide +kernel
theorem d_X11_sumOf_39 : decode prog_13_method_108_code 39 = .ok (.getfield 133, 3) := by decide +kernel
theorem d_X11_sumOf_42 : decode prog_13_method_108_code 42 = .ok (.iload_n 1, 1) := by decide +kernel
theorem d_X11_sumOf_43 : decode prog_13_method_108_code 43 = .ok (.iconst 1, 1) := by decide +kernel
theorem d_X11_sumOf_44 : decode prog_13_method_108_code 44 = .ok (.iadd, 1) := by decide +kernel
theorem d_X11_sumOf_45 : decode prog_13_method_108_code 45 = .ok (.iaload, 1) := by decide +kernel
theorem d_X11_sumOf_46 : decode prog_13_method_108_code 46 = .ok (.invokevirtual 390, 3) := by decide +kernel
theorem d_X11_sumOf_49 : decode prog_13_method_108_code 49 = .ok (.aload_n 0, 1) := by decide +kernel
theorem d_X11_sumOf_50 : decode prog_13_method_108_code 50 = .ok (.iconst 0, 1) := by decide +kernel
theorem d_X11_sumOf_51 : decode prog_13_method_108_code 51 = .ok (.putfield 299, 3) := by decide +kernel
theorem d_X11_sumOf_54 : decode prog_13_method_108_code 54 = .ok (.aload_n 0, 1) := by decide +kernel
theorem d_X11_sumOf_55 : decode prog_13_method_108_code 55 = .ok (.aload_n 0, 1) := by decide +kernel
theorem d_X11_sumOf_56 : decode prog_13_method_108_code 56 = .ok (.getfield 373, 3) := by decide +kernel
theorem d_X11_sumOf_59 : decode prog_13_method_108_code 59 = .ok (.putfield 503, 3) := by decide +kernel
theorem d_X11_sumOf_62 : decode prog_13_method_108_code 62 = .ok (.aload_n 0, 1) := by decide +kernel
theorem d_X11_sumOf_63 : decode prog_13_method_108_code 63 = .ok (.getfield 387, 3) := by decide +kernel
theorem d_X11_sumOf_66 : decode prog_13_method_108_code 66 = .ok (.l2i, 1) := by decide +kernel
theorem d_X11_sumOf_67 : decode prog_13_method_108_code 67 = .ok (.ireturn, 1) := by decide +kernel
theorem d_X11_act_0 : decode prog_13_method_109_code 0 = .ok (.iload_n 1, 1) := by decide +kernel
theorem d_X11_act_1 : decode prog_13_method_109_code 1 = .ok (.tableswitch 46 0 2 #[27, 33, 39], 27) := by decide +kernel
theorem d_X11_act_28 : decode prog_13_method_109_code 28 = .ok (.aload_n 0, 1) := by decide +kernel
theorem d_X11_act_29 : decode prog_13_method_109_code 29 = .ok (.iload_n 2, 1) := by decide +kernel
theorem d_X11_act_30 : decode prog_13_method_109_code 30 = .ok (.invokevirtual 413, 3) := by decide +kernel
theorem d_X11_act_33 : decode prog_13_method_109_code 33 = .ok (.ireturn, 1) := by decide +kernel
theorem d_X11_act_34 : decode prog_13_method_109_code 34 = .ok (.aload_n 0, 1) := by decide +kernel
theorem d_X11_act_35 : decode prog_13_method_109_code 35 = .ok (.iload_n 2, 1) := by decide +kernel
theorem d_X11_act_36 : decode prog_13_method_109_code 36 = .ok (.invokevirtual 416, 3) := by decide +kernel
theorem d_X11_act_39 : decode prog_13_method_109_code 39 = .ok (.ireturn, 1) := by decide +kernel
theorem d_X11_act_40 : decode prog_13_method_109_code 40 = .ok (.aload_n 0, 1) := by decide +kernel
theorem d_X11_act_41 : decode prog_13_method_109_code 41 = .ok (.iload_n 2, 1) := by decide +kernel
theorem d_X11_act_42 : decode prog_13_method_109_code 42 = .ok (.iload_n 3, 1) := by decide +kernel
theorem d_X11_act_43 : decode prog_13_method_109_code 43 = .ok (.invokevirtual 419, 3) := by decide +kernel
theorem d_X11_act_46 : decode prog_13_method_109_code 46 = .ok (.ireturn, 1) := by decide +kernel
theorem d_X11_act_47 : decode prog_13_method_109_code 47 = .ok (.aload_n 0, 1) := by decide +kernel
theorem d_X11_act_48 : decode prog_13_method_109_code 48 = .ok (.invokevirtual 425, 3) := by decide +kernel
theorem d_X11_act_51 : decode prog_13_method_109_code 51 = .ok (.ireturn, 1) := by decide +kernel
theorem d_X11_run_0 : decode prog_13_method_110_code 0 = .ok (.aload_n 0, 1) := by decide +kernel
theorem d_X11_run_1 : decode prog_13_method_110_code 1 = .ok (.getfield 104, 3) := by decide +kernel
theorem d_X11_run_4 : decode prog_13_method_110_code 4 = .ok (.iconst 1, 1) := by decide +kernel
theorem d_X11_run_5 : decode prog_13_method_110_code 5 = .ok (.aload_n 0, 1) := by decide +kernel
theorem d_X11_run_6 : decode prog_13_method_110_code 6 = .ok (.getfield 13, 3) := by decide +kernel
theorem d_X11_run_9 : decode prog_13_method_110_code 9 = .ok (.iconst 5, 1) := by decide +kernel
theorem d_X11_run_10 : decode prog_13_method_110_code 10 = .ok (.iaload, 1) := by decide +kernel
theorem d_X11_run_11 : decode prog_13_method_110_code 11 = .ok (.i2l, 1) := by decide +kernel
theorem d_X11_run_12 : decode prog_13_method_110_code 12 = .ok (.lastore, 1) := by decide +kernel
theorem d_X11_run_13 : decode prog_13_method_110_code 13 = .ok (.aload_n 0, 1) := by decide +kernel
theorem d_X11_run_14 : decode prog_13_method_110_code 14 = .ok (.getfield 104, 3) := by decide +kernel
theorem d_X11_run_17 : decode prog_13_method_110_code 17 = .ok (.iconst 2, 1) := by decide +kernel
theorem d_X11_run_18 : decode prog_13_method_110_code 18 = .ok (.aload_n 0, 1) := by decide +kernel
theorem d_X11_run_19 : decode prog_13_method_110_code 19 = .ok (.getfield 506, 3) := by decide +kernel
theorem d_X11_run_22 : decode prog_13_method_110_code 22 = .ok (.i2l, 1) := by decide +kernel
theorem d_X11_run_23 : decode prog_13_method_110_code 23 = .ok (.lastore, 1) := by decide +kernel
theorem d_X11_run_24 : decode prog_13_method_110_code 24 = .ok (.aload_n 0, 1) := by decide +kernel
theorem d_X11_run_25 : decode prog_13_method_110_code 25 = .ok (.getfield 104, 3) := by decide +kernel
theorem d_X11_run_28 : decode prog_13_method_110_code 28 = .ok (.iconst 3, 1) := by decide +kernel
theorem d_X11_run_29 : decode prog_13_method_110_code 29 = .ok (.aload_n 0, 1) := by decide +kernel
theorem d_X11_run_30 : decode prog_13_method_110_code 30 = .ok (.getfield 509, 3) := by decide +kernel
theorem d_X11_run_33 : decode prog_13_method_110_code 33 = .ok (.i2l, 1) := by decide +kernel
theorem d_X11_run_34 : decode prog_13_method_110_code 34 = .ok (.lastore, 1) := by decide +kernel
theorem d_X11_run_35 : decode prog_13_method_110_code 35 = .ok (.aload_n 0, 1) := by decide +kernel
theorem d_X11_run_36 : decode prog_13_method_110_code 36 = .ok (.getfield 104, 3) := by decide +kernel
theorem d_X11_run_39 : decode prog_13_method_110_code 39 = .ok (.iconst 4, 1) := by decide +kernel
theorem d_X11_run_40 : decode prog_13_method_110_code 40 = .ok (.aload_n 0, 1) := by decide +kernel
theorem d_X11_run_41 : decode prog_13_method_110_code 41 = .ok (.invokevirtual 455, 3) := by decide +kernel
theorem d_X11_run_44 : decode prog_13_method_110_code 44 = .ok (.i2l, 1) := by decide +kernel
theorem d_X11_run_45 : decode prog_13_method_110_code 45 = .ok (.lastore, 1) := by decide +kernel
theorem d_X11_run_46 : decode prog_13_method_110_code 46 = .ok (.aload_n 0, 1) := by decide +kernel
theorem d_X11_run_47 : decode prog_13_method_110_code 47 = .ok (.getfield 104, 3) := by decide +kernel
theorem d_X11_run_50 : decode prog_13_method_110_code 50 = .ok (.iconst 5, 1) := by decide +kernel
theorem d_X11_run_51 : decode prog_13_method_110_code 51 = .ok (.aload_n 0, 1) := by decide +kernel
theorem d_X11_run_52 : decode prog_13_method_110_code 52 = .ok (.invokevirtual 410, 3) := by decide +kernel
theorem d_X11_run_55 : decode prog_13_method_110_code 55 = .ok (.i2l, 1) := by decide +kernel
theorem d_X11_run_56 : decode prog_13_method_110_code 56 = .ok (.lastore, 1) := by decide +kernel
theorem d_X11_run_57 : decode prog_13_method_110_code 57 = .ok (.aload_n 0, 1) := by decide +kernel
theorem d_X11_run_58 : decode prog_13_method_110_code 58 = .ok (.iconst 0, 1) := by decide +kernel
theorem d_X11_run_59 : decode prog_13_method_110_code 59 = .ok (.putfield 503, 3) := by decide +kernel
theorem d_X11_run_62 : decode prog_13_method_110_code 62 = .ok (.aload_n 0, 1) := by decide +kernel
theorem d_X11_run_63 : decode prog_13_method_110_code 63 = .ok (.getfield 133, 3) := by decide +kernel
theorem d_X11_run_66 : decode prog_13_method_110_code 66 = .ok (.iload_n 1, 1) := by decide +kernel
theorem d_X11_run_67 : decode prog_13_method_110_code 67 = .ok (.iconst 5, 1) := by decide +kernel
theorem d_X11_run_68 : decode prog_13_method_110_code 68 = .ok (.iadd, 1) := by decide +kernel
theorem d_X11_run_69 : decode prog_13_method_110_code 69 = .ok (.iaload, 1) := by decide +kernel
theorem d_X11_run_70 : decode prog_13_method_110_code 70 = .ok (.aload_n 0, 1) := by decide +kernel
theorem d_X11_run_71 : decode prog_13_method_110_code 71 = .ok (.getfield 133, 3) := by decide +kernel
theorem d_X11_run_74 : decode prog_13_method_110_code 74 = .ok (.iload_n 1, 1) := by decide +kernel
theorem d_X11_run_75 : decode prog_13_method_110_code 75 = .ok (.bipush 6, 2) := by decide +kernel
theorem d_X11_run_77 : decode prog_13_method_110_code 77 = .ok (.iadd, 1) := by decide +kernel
theorem d_X11_run_78 : decode prog_13_method_110_code 78 = .ok (.iaload, 1) := by decide +kernel
theorem d_X11_run_79 : decode prog_13_method_110_code 79 = .ok (.if_icmp .ge 24, 3) := by decide +kernel
theorem d_X11_run_82 : decode prog_13_method_110_code 82 = .ok (.aload_n 0, 1) := by decide +kernel
theorem d_X11_run_83 : decode prog_13_method_110_code 83 = .ok (.iload_n 1, 1) := by decide +kernel
theorem d_X11_run_84 : decode prog_13_method_110_code 84 = .ok (.iconst 5, 1) := by decide +kernel
theorem d_X11_run_85 : decode prog_13_method_110_code 85 = .ok (.iadd, 1) := by decide +kernel
theorem d_X11_run_86 : decode prog_13_method_110_code 86 = .ok (.invokevirtual 512, 3) := by decide +kernel
theorem d_X11_run_89 : decode prog_13_method_110_code 89 = .ok (.istore_n 2, 1) := by decide +kernel
theorem d_X11_run_90 : decode prog_13_method_110_code 90 = .ok (.aload_n 0, 1) := by decide +kernel
theorem d_X11_run_91 : decode prog_13_method_110_code 91 = .ok (.getfield 503, 3) := by decide +kernel
theorem d_X11_run_94 : decode prog_13_method_110_code 94 = .ok (.ifCond .ne 7, 3) := by decide +kernel
theorem d_X11_run_97 : decode prog_13_method_110_code 97 = .ok (.iload_n 2, 1) := by decide +kernel
theorem d_X11_run_98 : decode prog_13_method_110_code 98 = .ok (.ifCond .ne 5, 3) := by decide +kernel
theorem d_X11_run_101 : decode prog_13_method_110_code 101 = .ok (.iconst 0, 1) := by decide +kernel
theorem d_X11_run_102 : decode prog_13_method_110_code 102 = .ok (.ireturn, 1) := by decide +kernel
theorem d_X11_run_103 : decode prog_13_method_110_code 103 = .ok (.aload_n 0, 1) := by decide +kernel
theorem d_X11_run_104 : decode prog_13_method_110_code 104 = .ok (.iload_n 1, 1) := by decide +kernel
theorem d_X11_run_105 : decode prog_13_method_110_code 105 = .ok (.iconst 1, 1) := by decide +kernel
theorem d_X11_run_106 : decode prog_13_method_110_code 106 = .ok (.iadd, 1) := by decide +kernel
theorem d_X11_run_107 : decode prog_13_method_110_code 107 = .ok (.invokevirtual 512, 3) := by decide +kernel
theorem d_X11_run_110 : decode prog_13_method_110_code 110 = .ok (.istore_n 2, 1) := by decide +kernel
theorem d_X11_run_111 : decode prog_13_method_110_code 111 = .ok (.aload_n 0, 1) := by decide +kernel
theorem d_X11_run_112 : decode prog_13_method_110_code 112 = .ok (.iload_n 1, 1) := by decide +kernel
theorem d_X11_run_113 : decode prog_13_method_110_code 113 = .ok (.iconst 3, 1) := by decide +kernel
theorem d_X11_run_114 : decode prog_13_method_110_code 114 = .ok (.iadd, 1) := by decide +kernel
theorem d_X11_run_115 : decode prog_13_method_110_code 115 = .ok (.invokevirtual 512, 3) := by decide +kernel
theorem d_X11_run_118 : decode prog_13_method_110_code 118 = .ok (.istore_n 3, 1) := by decide +kernel
theorem d_X11_run_119 : decode prog_13_method_110_code 119 = .ok (.aload_n 0, 1) := by decide +kernel
theorem d_X11_run_120 : decode prog_13_method_110_code 120 = .ok (.getfield 503, 3) := by decide +kernel
theorem d_X11_run_123 : decode prog_13_method_110_code 123 = .ok (.ifCond .eq 6, 3) := by decide +kernel
theorem d_X11_run_126 : decode prog_13_method_110_code 126 = .ok (.bipush (-3), 2) := by decide +kernel
theorem d_X11_run_128 : decode prog_13_method_110_code 128 = .ok (.ireturn, 1) := by decide +kernel
theorem d_X11_run_129 : decode prog_13_method_110_code 129 = .ok (.aload_n 0, 1) := by decide +kernel
theorem d_X11_run_130 : decode prog_13_method_110_code 130 = .ok (.aload_n 0, 1) := by decide +kernel
theorem d_X11_run_131 : decode prog_13_method_110_code 131 = .ok (.getfield 133, 3) := by decide +kernel
theorem d_X11_run_134 : decode prog_13_method_110_code 134 = .ok (.iload_n 1, 1) := by decide +kernel
theorem d_X11_run_135 : decode prog_13_method_110_code 135 = .ok (.iaload, 1) := by decide +kernel
theorem d_X11_run_136 : decode prog_13_method_110_code 136 = .ok (.iload_n 2, 1) := by decide +kernel
theorem d_X11_run_137 : decode prog_13_method_110_code 137 = .ok (.iload_n 3, 1) := by decide +kernel
theorem d_X11_run_138 : decode prog_13_method_110_code 138 = .ok (.invokevirtual 515, 3) := by decide +kernel
theorem d_X11_run_141 : decode prog_13_method_110_code 141 = .ok (.istore 4, 2) := by decide +kernel
theorem d_X11_run_143 : decode prog_13_method_110_code 143 = .ok (.iload 4, 2) := by decide +kernel
theorem d_X11_run_145 : decode prog_13_method_110_code 145 = .ok (.ifCond .ge 6, 3) := by decide +kernel
theorem d_X11_run_148 : decode prog_13_method_110_code 148 = .ok (.bipush (-3), 2) := by decide +kernel
theorem d_X11_run_150 : decode prog_13_method_110_code 150 = .ok (.ireturn, 1) := by decide +kernel
theorem d_X11_run_151 : decode prog_13_method_110_code 151 = .ok (.aload_n 0, 1) := by decide +kernel
theorem d_X11_run_152 : decode prog_13_method_110_code 152 = .ok (.aload_n 0, 1) := by decide +kernel
theorem d_X11_run_153 : decode prog_13_method_110_code 153 = .ok (.getfield 133, 3) := by decide +kernel
theorem d_X11_run_156 : decode prog_13_method_110_code 156 = .ok (.iload_n 1, 1) := by decide +kernel
theorem d_X11_run_157 : decode prog_13_method_110_code 157 = .ok (.iaload, 1) := by decide +kernel
theorem d_X11_run_158 : decode prog_13_method_110_code 158 = .ok (.iconst 2, 1) := by decide +kernel
theorem d_X11_run_159 : decode prog_13_method_110_code 159 = .ok (.if_icmp .ne 8, 3) := by decide +kernel
theorem d_X11_run_162 : decode prog_13_method_110_code 162 = .ok (.iload 4, 2) := by decide +kernel
theorem d_X11_run_164 : decode prog_13_method_110_code 164 = .ok (.goto 7, 3) := by decide +kernel
theorem d_X11_run_167 : decode prog_13_method_110_code 167 = .ok (.aload_n 0, 1) := by decide +kernel
theorem d_X11_run_168 : decode prog_13_method_110_code 168 = .ok (.getfield 509, 3) := by decide +kernel
theorem d_X11_run_171 : decode prog_13_method_110_code 171 = .ok (.putfield 509, 3) := by decide +kernel
theorem d_X11_run_174 : decode prog_13_method_110_code 174 = .ok (.aload_n 0, 1) := by decide +kernel
theorem d_X11_run_175 : decode prog_13_method_110_code 175 = .ok (.dup, 1) := by decide +kernel
theorem d_X11_run_176 : decode prog_13_method_110_code 176 = .ok (.getfield 506, 3) := by decide +kernel
theorem d_X11_run_179 : decode prog_13_method_110_code 179 = .ok (.iconst 1, 1) := by decide +kernel
theorem d_X11_run_180 : decode prog_13_method_110_code 180 = .ok (.iadd, 1) := by decide +kernel
theorem d_X11_run_181 : decode prog_13_method_110_code 181 = .ok (.putfield 506, 3) := by decide +kernel
theorem d_X11_run_184 : decode prog_13_method_110_code 184 = .ok (.iconst 0, 1) := by decide +kernel
theorem d_X11_run_185 : decode prog_13_method_110_code 185 = .ok (.ireturn, 1) := by decide +kernel
theorem d_X11_orders_0 : decode prog_13_method_111_code 0 = .ok (.aload_n 0, 1) := by decide +kernel
theorem d_X11_orders_1 : decode prog_13_method_111_code 1 = .ok (.iconst 0, 1) := by decide +kernel
theorem d_X11_orders_2 : decode prog_13_method_111_code 2 = .ok (.putfield 145, 3) := by decide +kernel
theorem d_X11_orders_5 : decode prog_13_method_111_code 5 = .ok (.aload_n 0, 1) := by decide +kernel
theorem d_X11_orders_6 : decode prog_13_method_111_code 6 = .ok (.iconst (-1), 1) := by decide +kernel
theorem d_X11_orders_7 : decode prog_13_method_111_code 7 = .ok (.putfield 136, 3) := by decide +kernel
theorem d_X11_orders_10 : decode prog_13_method_111_code 10 = .ok (.aload_n 0, 1) := by decide +kernel
theorem d_X11_orders_11 : decode prog_13_method_111_code 11 = .ok (.iconst 1, 1) := by decide +kernel
theorem d_X11_orders_12 : decode prog_13_method_111_code 12 = .ok (.invokevirtual 361, 3) := by decide +kernel
theorem d_X11_orders_15 : decode prog_13_method_111_code 15 = .ok (.aload_n 0, 1) := by decide +kernel
theorem d_X11_orders_16 : decode prog_13_method_111_code 16 = .ok (.invokevirtual 518, 3) := by decide +kernel
theorem d_X11_orders_19 : decode prog_13_method_111_code 19 = .ok (.aload_n 0, 1) := by decide +kernel
theorem d_X11_orders_20 : decode prog_13_method_111_code 20 = .ok (.getfield 224, 3) := by decide +kernel
theorem d_X11_orders_23 : decode prog_13_method_111_code 23 = .ok (.ifCond .ne 23, 3) := by decide +kernel
theorem d_X11_orders_26 : decode prog_13_method_111_code 26 = .ok (.aload_n 0, 1) := by decide +kernel
theorem d_X11_orders_27 : decode prog_13_method_111_code 27 = .ok (.bipush 59, 2) := by decide +kernel
theorem d_X11_orders_29 : decode prog_13_method_111_code 29 = .ok (.invokevirtual 293, 3) := by decide +kernel
theorem d_X11_orders_32 : decode prog_13_method_111_code 32 = .ok (.ifCond .eq 14, 3) := by decide +kernel
theorem d_X11_orders_35 : decode prog_13_method_111_code 35 = .ok (.aload_n 0, 1) := by decide +kernel
theorem d_X11_orders_36 : decode prog_13_method_111_code 36 = .ok (.invokevirtual 228, 3) := by decide +kernel
theorem d_X11_orders_39 : decode prog_13_method_111_code 39 = .ok (.aload_n 0, 1) := by decide +kernel
theorem d_X11_orders_40 : decode prog_13_method_111_code 40 = .ok (.invokevirtual 518, 3) := by decide +kernel
theorem d_X11_orders_43 : decode prog_13_method_111_code 43 = .ok (.goto (-24), 3) := by decide +kernel
theorem d_X11_orders_46 : decode prog_13_method_111_code 46 = .ok (.aload_n 0, 1) := by decide +kernel
theorem d_X11_orders_47 : decode prog_13_method_111_code 47 = .ok (.invokevirtual 367, 3) := by decide +kernel
theorem d_X11_orders_50 : decode prog_13_method_111_code 50 = .ok (.aload_n 0, 1) := by decide +kernel
theorem d_X11_orders_51 : decode prog_13_method_111_code 51 = .ok (.getfield 224, 3) := by decide +kernel
theorem d_X11_orders_54 : decode prog_13_method_111_code 54 = .ok (.ifCond .eq 10, 3) := by decide +kernel
theorem d_X11_orders_57 : decode prog_13_method_111_code 57 = .ok (.aload_n 0, 1) := by decide +kernel
theorem d_X11_orders_58 : decode prog_13_method_111_code 58 = .ok (.bipush (-6), 2) := by decide +kernel
theorem d_X11_orders_60 : decode prog_13_method_111_code 60 = .ok (.invokevirtual 154, 3) := by decide +kernel
theorem d_X11_orders_63 : decode prog_13_method_111_code 63 = .ok (.ireturn, 1) := by decide +kernel
theorem d_X11_orders_64 : decode prog_13_method_111_code 64 = .ok (.aload_n 0, 1) := by decide +kernel
theorem d_X11_orders_65 : decode prog_13_method_111_code 65 = .ok (.bipush 17, 2) := by decide +kernel
theorem d_X11_orders_67 : decode prog_13_method_111_code 67 = .ok (.invokevirtual 158, 3) := by decide +kernel
theorem d_X11_orders_70 : decode prog_13_method_111_code 70 = .ok (.aload_n 0, 1) := by decide +kernel
theorem d_X11_orders_71 : decode prog_13_method_111_code 71 = .ok (.getfield 151, 3) := by decide +kernel
theorem d_X11_orders_74 : decode prog_13_method_111_code 74 = .ok (.istore_n 1, 1) := by decide +kernel
theorem d_X11_orders_75 : decode prog_13_method_111_code 75 = .ok (.iconst 0, 1) := by decide +kernel
theorem d_X11_orders_76 : decode prog_13_method_111_code 76 = .ok (.istore_n 2, 1) := by decide +kernel
theorem d_X11_orders_77 : decode prog_13_method_111_code 77 = .ok (.iload_n 2, 1) := by decide +kernel
theorem d_X11_orders_78 : decode prog_13_method_111_code 78 = .ok (.sipush 432, 3) := by decide +kernel
theorem d_X11_orders_81 : decode prog_13_method_111_code 81 = .ok (.if_icmp .ge 21, 3) := by decide +kernel
theorem d_X11_orders_84 : decode prog_13_method_111_code 84 = .ok (.aload_n 0, 1) := by decide +kernel
theorem d_X11_orders_85 : decode prog_13_method_111_code 85 = .ok (.getfield 29, 3) := by decide +kernel
theorem d_X11_orders_88 : decode prog_13_method_111_code 88 = .ok (.iload_n 2, 1) := by decide +kernel
theorem d_X11_orders_89 : decode prog_13_method_111_code 89 = .ok (.aload_n 0, 1) := by decide +kernel
theorem d_X11_orders_90 : decode prog_13_method_111_code 90 = .ok (.getfield 23, 3) := by decide +kernel
theorem d_X11_orders_93 : decode prog_13_method_111_code 93 = .ok (.iload_n 2, 1) := by decide +kernel
theorem d_X11_orders_94 : decode prog_13_method_111_code 94 = .ok (.iaload, 1) := by decide +kernel
theorem d_X11_orders_95 : decode prog_13_method_111_code 95 = .ok (.iastore, 1) := by decide +kernel
theorem d_X11_orders_96 : decode prog_13_method_111_code 96 = .ok (.iinc 2 1, 3) := by decide +kernel
theorem d_X11_orders_99 : decode prog_13_method_111_code 99 = .ok (.goto (-22), 3) := by decide +kernel
theorem d_X11_orders_102 : decode prog_13_method_111_code 102 = .ok (.iconst 0, 1) := by decide +kernel
theorem d_X11_orders_103 : decode prog_13_method_111_code 103 = .ok (.istore_n 2, 1) := by decide +kernel
theorem d_X11_orders_104 : decode prog_13_method_111_code 104 = .ok (.iload_n 2, 1) := by decide +kernel
theorem d_X11_orders_105 : decode prog_13_method_111_code 105 = .ok (.bipush 16, 2) := by decide +kernel
theorem d_X11_orders_107 : decode prog_13_method_111_code 107 = .ok (.if_icmp .ge 21, 3) := by decide +kernel
theorem d_X11_orders_110 : decode prog_13_method_111_code 110 = .ok (.aload_n 0, 1) := by decide +kernel
theorem d_X11_orders_111 : decode prog_13_method_111_code 111 = .ok (.getfield 32, 3) := by decide +kernel
theorem d_X11_orders_114 : decode prog_13_method_111_code 114 = .ok (.iload_n 2, 1) := by decide +kernel
theorem d_X11_orders_115 : decode prog_13_method_111_code 115 = .ok (.aload_n 0, 1) := by decide +kernel
theorem d_X11_orders_116 : decode prog_13_method_111_code 116 = .ok (.getfield 26, 3) := by decide +kernel
theorem d_X11_orders_119 : decode prog_13_method_111_code 119 = .ok (.iload_n 2, 1) := by decide +kernel
theorem d_X11_orders_120 : decode prog_13_method_111_code 120 = .ok (.iaload, 1) := by decide +kernel
theorem d_X11_orders_121 : decode prog_13_method_111_code 121 = .ok (.iastore, 1) := by decide +kernel
theorem d_X11_orders_122 : decode prog_13_method_111_code 122 = .ok (.iinc 2 1, 3) := by decide +kernel
theorem d_X11_orders_125 : decode prog_13_method_111_code 125 = .ok (.goto (-21), 3) := by decide +kernel
theorem d_X11_orders_128 : decode prog_13_method_111_code 128 = .ok (.aload_n 0, 1) := by decide +kernel
theorem d_X11_orders_129 : decode prog_13_method_111_code 129 = .ok (.iconst 0, 1) := by decide +kernel
theorem d_X11_orders_130 : decode prog_13_method_111_code 130 = .ok (.putfield 506, 3) := by decide +kernel
theorem d_X11_orders_133 : decode prog_13_method_111_code 133 = .ok (.aload_n 0, 1) := by decide +kernel
theorem d_X11_orders_134 : decode prog_13_method_111_code 134 = .ok (.iconst (-1), 1) := by decide +kernel
theorem d_X11_orders_135 : decode prog_13_method_111_code 135 = .ok (.putfield 509, 3) := by decide +kernel
theorem d_X11_orders_138 : decode prog_13_method_111_code 138 = .ok (.iconst 0, 1) := by decide +kernel
theorem d_X11_orders_139 : decode prog_13_method_111_code 139 = .ok (.istore_n 2, 1) := by decide +kernel
theorem d_X11_orders_140 : decode prog_13_method_111_code 140 = .ok (.iload_n 2, 1) := by decide +kernel
theorem d_X11_orders_141 : decode prog_13_method_111_code 141 = .ok (.aload_n 0, 1) := by decide +kernel
theorem d_X11_orders_142 : decode prog_13_method_111_code 142 = .ok (.getfield 353, 3) := by decide +kernel
theorem d_X11_orders_145 : decode prog_13_method_111_code 145 = .ok (.if_icmp .ge 61, 3) := by decide +kernel
theorem d_X11_orders_148 : decode prog_13_method_111_code 148 = .ok (.iconst 0, 1) := by decide +kernel
theorem d_X11_orders_149 : decode prog_13_method_111_code 149 = .ok (.istore_n 3, 1) := by decide +kernel
theorem d_X11_orders_150 : decode prog_13_method_111_code 150 = .ok (.iload_n 3, 1) := by decide +kernel
theorem d_X11_orders_151 : decode prog_13_method_111_code 151 = .ok (.aload_n 0, 1) := by decide +kernel
theorem d_X11_orders_152 : decode prog_13_method_111_code 152 = .ok (.getfield 133, 3) := by decide +kernel
theorem d_X11_orders_155 : decode prog_13_method_111_code 155 = .ok (.bipush 8, 2) := by decide +kernel
theorem d_X11_orders_157 : decode prog_13_method_111_code 157 = .ok (.iload_n 2, 1) := by decide +kernel
theorem d_X11_orders_158 : decode prog_13_method_111_code 158 = .ok (.imul, 1) := by decide +kernel
theorem d_X11_orders_159 : decode prog_13_method_111_code 159 = .ok (.bipush 7, 2) := by decide +kernel
theorem d_X11_orders_161 : decode prog_13_method_111_code 161 = .ok (.iadd, 1) := by decide +kernel
theorem d_X11_orders_162 : decode prog_13_method_111_code 162 = .ok (.iaload, 1) := by decide +kernel
theorem d_X11_orders_163 : decode prog_13_method_111_code 163 = .ok (.if_icmp .ge 37, 3) := by decide +kernel
theorem d_X11_orders_166 : decode prog_13_method_111_code 166 = .ok (.aload_n 0, 1) := by decide +kernel
theorem d_X11_orders_167 : decode prog_13_method_111_code 167 = .ok (.bipush 8, 2) := by decide +kernel
theorem d_X11_orders_169 : decode prog_13_method_111_code 169 = .ok (.iload_n 2, 1) := by decide +kernel
theorem d_X11_orders_170 : decode prog_13_method_111_code 170 = .ok (.imul, 1) := by decide +kernel
theorem d_X11_orders_171 : decode prog_13_method_111_code 171 = .ok (.invokevirtual 521, 3) := by decide +kernel
theorem d_X11_orders_174 : decode prog_13_method_111_code 174 = .ok (.ifCond .ge 20, 3) := by decide +kernel
theorem d_X11_orders_177 : decode prog_13_method_111_code 177 = .ok (.aload_n 0, 1) := by decide +kernel
theorem d_X11_orders_178 : decode prog_13_method_111_code 178 = .ok (.iload_n 1, 1) := by decide +kernel
theorem d_X11_orders_179 : decode prog_13_method_111_code 179 = .ok (.invokevirtual 524, 3) := by decide +kernel
theorem d_X11_orders_182 : decode prog_13_method_111_code 182 = .ok (.aload_n 0, 1) := by decide +kernel
theorem d_X11_orders_183 : decode prog_13_method_111_code 183 = .ok (.iload_n 2, 1) := by decide +kernel
theorem d_X11_orders_184 : decode prog_13_method_111_code 184 = .ok (.putfield 136, 3) := by decide +kernel
theorem d_X11_orders_187 : decode prog_13_method_111_code 187 = .ok (.aload_n 0, 1) := by decide +kernel
theorem d_X11_orders_188 : decode prog_13_method_111_code 188 = .ok (.bipush (-3), 2) := by decide +kernel
theorem d_X11_orders_190 : decode prog_13_method_111_code 190 = .ok (.invokevirtual 154, 3) := by decide +kernel
theorem d_X11_orders_193 : decode prog_13_method_111_code 193 = .ok (.ireturn, 1) := by decide +kernel
theorem d_X11_orders_194 : decode prog_13_method_111_code 194 = .ok (.iinc 3 1, 3) := by decide +kernel
theorem d_X11_orders_197 : decode prog_13_method_111_code 197 = .ok (.goto (-47), 3) := by decide +kernel
theorem d_X11_orders_200 : decode prog_13_method_111_code 200 = .ok (.iinc 2 1, 3) := by decide +kernel
theorem d_X11_orders_203 : decode prog_13_method_111_code 203 = .ok (.goto (-63), 3) := by decide +kernel
theorem d_X11_orders_206 : decode prog_13_method_111_code 206 = .ok (.aload_n 0, 1) := by decide +kernel
theorem d_X11_orders_207 : decode prog_13_method_111_code 207 = .ok (.aload_n 0, 1) := by decide +kernel
theorem d_X11_orders_208 : decode prog_13_method_111_code 208 = .ok (.getfield 506, 3) := by decide +kernel
theorem d_X11_orders_211 : decode prog_13_method_111_code 211 = .ok (.invokevirtual 154, 3) := by decide +kernel
theorem d_X11_orders_214 : decode prog_13_method_111_code 214 = .ok (.ireturn, 1) := by decide +kernel
theorem d_X11_giveBack_0 : decode prog_13_method_112_code 0 = .ok (.aload_n 0, 1) := by decide +kernel
theorem d_X11_giveBack_1 : decode prog_13_method_112_code 1 = .ok (.bipush 17, 2) := by decide +kernel
theorem d_X11_giveBack_3 : decode prog_13_method_112_code 3 = .ok (.invokevirtual 162, 3) := by decide +kernel
theorem d_X11_giveBack_6 : decode prog_13_method_112_code 6 = .ok (.iconst 0, 1) := by decide +kernel
theorem d_X11_giveBack_7 : decode prog_13_method_112_code 7 = .ok (.istore_n 2, 1) := by decide +kernel
theorem d_X11_giveBack_8 : decode prog_13_method_112_code 8 = .ok (.iload_n 2, 1) := by decide +kernel
theorem d_X11_giveBack_9 : decode prog_13_method_112_code 9 = .ok (.sipush 432, 3) := by decide +kernel
theorem d_X11_giveBack_12 : decode prog_13_method_112_code 12 = .ok (.if_icmp .ge 21, 3) := by decide +kernel
theorem d_X11_giveBack_15 : decode prog_13_method_112_code 15 = .ok (.aload_n 0, 1) := by decide +kernel
theorem d_X11_giveBack_16 : decode prog_13_method_112_code 16 = .ok (.getfield 23, 3) := by decide +kernel
theorem d_X11_giveBack_19 : decode prog_13_method_112_code 19 = .ok (.iload_n 2, 1) := by decide +kernel
theorem d_X11_giveBack_20 : decode prog_13_method_112_code 20 = .ok (.aload_n 0, 1) := by decide +kernel
theorem d_X11_giveBack_21 : decode prog_13_method_112_code 21 = .ok (.getfield 29, 3) := by decide +kernel
theorem d_X11_giveBack_24 : decode prog_13_method_112_code 24 = .ok (.iload_n 2, 1) := by decide +kernel
theorem d_X11_giveBack_25 : decode prog_13_method_112_code 25 = .ok (.iaload, 1) := by decide +kernel
theorem d_X11_giveBack_26 : decode prog_13_method_112_code 26 = .ok (.iastore, 1) := by decide +kernel
theorem d_X11_giveBack_27 : decode prog_13_method_112_code 27 = .ok (.iinc 2 1, 3) := by decide +kernel
theorem d_X11_giveBack_30 : decode prog_13_method_112_code 30 = .ok (.goto (-22), 3) := by decide +kernel
theorem d_X11_giveBack_33 : decode prog_13_method_112_code 33 = .ok (.iconst 0, 1) := by decide +kernel
theorem d_X11_giveBack_34 : decode prog_13_method_112_code 34 = .ok (.istore_n 2, 1) := by decide +kernel
theorem d_X11_giveBack_35 : decode prog_13_method_112_code 35 = .ok (.iload_n 2, 1) := by decide +kernel
theorem d_X11_giveBack_36 : decode prog_13_method_112_code 36 = .ok (.bipush 16, 2) := by decide +kernel
theorem d_X11_giveBack_38 : decode prog_13_method_112_code 38 = .ok (.if_icmp .ge 21, 3) := by decide +kernel
theorem d_X11_giveBack_41 : decode prog_13_method_112_code 41 = .ok (.aload_n 0, 1) := by decide +kernel
theorem d_X11_giveBack_42 : decode prog_13_method_112_code 42 = .ok (.getfield 26, 3) := by decide +kernel
theorem d_X11_giveBack_45 : decode prog_13_method_112_code 45 = .ok (.iload_n 2, 1) := by decide +kernel
theorem d_X11_giveBack_46 : decode prog_13_method_112_code 46 = .ok (.aload_n 0, 1) := by decide +kernel
theorem d_X11_giveBack_47 : decode prog_13_method_112_code 47 = .ok (.getfield 32, 3) := by decide +kernel
theorem d_X11_giveBack_50 : decode prog_13_method_112_code 50 = .ok (.iload_n 2, 1) := by decide +kernel
theorem d_X11_giveBack_51 : decode prog_13_method_112_code 51 = .ok (.iaload, 1) := by decide +kernel
theorem d_X11_giveBack_52 : decode prog_13_method_112_code 52 = .ok (.iastore, 1) := by decide +kernel
theorem d_X11_giveBack_53 : decode prog_13_method_112_code 53 = .ok (.iinc 2 1, 3) := by decide +kernel
theorem d_X11_giveBack_56 : decode prog_13_method_112_code 56 = .ok (.goto (-21), 3) := by decide +kernel
theorem d_X11_giveBack_59 : decode prog_13_method_112_code 59 = .ok (.aload_n 0, 1) := by decide +kernel
theorem d_X11_giveBack_60 : decode prog_13_method_112_code 60 = .ok (.iload_n 1, 1) := by decide +kernel
theorem d_X11_giveBack_61 : decode prog_13_method_112_code 61 = .ok (.putfield 151, 3) := by decide +kernel
theorem d_X11_giveBack_64 : decode prog_13_method_112_code 64 = .ok (.return_, 1) := by decide +kernel
theorem d_X11_stopped_0 : decode prog_13_method_113_code 0 = .ok (.aload_n 0, 1) := by decide +kernel
theorem d_X11_stopped_1 : decode prog_13_method_113_code 1 = .ok (.iconst 0, 1) := by decide +kernel
theorem d_X11_stopped_2 : decode prog_13_method_113_code 2 = .ok (.putfield 145, 3) := by decide +kernel
theorem d_X11_stopped_5 : decode prog_13_method_113_code 5 = .ok (.aload_n 0, 1) := by decide +kernel
theorem d_X11_stopped_6 : decode prog_13_method_113_code 6 = .ok (.getfield 136, 3) := by decide +kernel
theorem d_X11_stopped_9 : decode prog_13_method_113_code 9 = .ok (.ireturn, 1) := by decide +kernel
