theorem d_X11_draw_0 : decode prog_13_method_114_code 0 = .ok (.aload_n 0, 1) := by decide +kernel
theorem d_X11_draw_1 : decode prog_13_method_114_code 1 = .ok (.aload_n 0, 1) := by decide +kernel
theorem d_X11_draw_2 : decode prog_13_method_114_code 2 = .ok (.getfield 527, 3) := by decide +kernel
theorem d_X11_draw_5 : decode prog_13_method_114_code 5 = .ok (.ldc2_w 530, 3) := by decide +kernel
theorem d_X11_draw_8 : decode prog_13_method_114_code 8 = .ok (.lmul, 1) := by decide +kernel
theorem d_X11_draw_9 : decode prog_13_method_114_code 9 = .ok (.ldc2_w 532, 3) := by decide +kernel
theorem d_X11_draw_12 : decode prog_13_method_114_code 12 = .ok (.ladd, 1) := by decide +kernel
theorem d_X11_draw_13 : decode prog_13_method_114_code 13 = .ok (.ldc2_w 534, 3) := by decide +kernel
theorem d_X11_draw_16 : decode prog_13_method_114_code 16 = .ok (.lrem, 1) := by decide +kernel
theorem d_X11_draw_17 : decode prog_13_method_114_code 17 = .ok (.putfield 527, 3) := by decide +kernel
theorem d_X11_draw_20 : decode prog_13_method_114_code 20 = .ok (.aload_n 0, 1) := by decide +kernel
theorem d_X11_draw_21 : decode prog_13_method_114_code 21 = .ok (.getfield 527, 3) := by decide +kernel
theorem d_X11_draw_24 : decode prog_13_method_114_code 24 = .ok (.iload_n 1, 1) := by decide +kernel
theorem d_X11_draw_25 : decode prog_13_method_114_code 25 = .ok (.i2l, 1) := by decide +kernel
theorem d_X11_draw_26 : decode prog_13_method_114_code 26 = .ok (.lrem, 1) := by decide +kernel
theorem d_X11_draw_27 : decode prog_13_method_114_code 27 = .ok (.l2i, 1) := by decide +kernel
theorem d_X11_draw_28 : decode prog_13_method_114_code 28 = .ok (.ireturn, 1) := by decide +kernel
theorem d_X11_years_0 : decode prog_13_method_115_code 0 = .ok (.aload_n 0, 1) := by decide +kernel
theorem d_X11_years_1 : decode prog_13_method_115_code 1 = .ok (.iconst 0, 1) := by decide +kernel
theorem d_X11_years_2 : decode prog_13_method_115_code 2 = .ok (.putfield 145, 3) := by decide +kernel
theorem d_X11_years_5 : decode prog_13_method_115_code 5 = .ok (.iload_n 1, 1) := by decide +kernel
theorem d_X11_years_6 : decode prog_13_method_115_code 6 = .ok (.i2l, 1) := by decide +kernel
theorem d_X11_years_7 : decode prog_13_method_115_code 7 = .ok (.lconst 0, 1) := by decide +kernel
theorem d_X11_years_8 : decode prog_13_method_115_code 8 = .ok (.ldc2_w 253, 3) := by decide +kernel
theorem d_X11_years_11 : decode prog_13_method_115_code 11 = .ok (.invokestatic 165, 3) := by decide +kernel
theorem d_X11_years_14 : decode prog_13_method_115_code 14 = .ok (.ifCond .eq 15, 3) := by decide +kernel
theorem d_X11_years_17 : decode prog_13_method_115_code 17 = .ok (.iload_n 2, 1) := by decide +kernel
theorem d_X11_years_18 : decode prog_13_method_115_code 18 = .ok (.i2l, 1) := by decide +kernel
theorem d_X11_years_19 : decode prog_13_method_115_code 19 = .ok (.lconst 1, 1) := by decide +kernel
theorem d_X11_years_20 : decode prog_13_method_115_code 20 = .ok (.ldc2_w 492, 3) := by decide +kernel
theorem d_X11_years_23 : decode prog_13_method_115_code 23 = .ok (.invokestatic 165, 3) := by decide +kernel
theorem d_X11_years_26 : decode prog_13_method_115_code 26 = .ok (.ifCond .ne 9, 3) := by decide +kernel
theorem d_X11_years_29 : decode prog_13_method_115_code 29 = .ok (.aload_n 0, 1) := by decide +kernel
theorem d_X11_years_30 : decode prog_13_method_115_code 30 = .ok (.iconst (-1), 1) := by decide +kernel
theorem d_X11_years_31 : decode prog_13_method_115_code 31 = .ok (.invokevirtual 154, 3) := by decide +kernel
theorem d_X11_years_34 : decode prog_13_method_115_code 34 = .ok (.ireturn, 1) := by decide +kernel
theorem d_X11_years_35 : decode prog_13_method_115_code 35 = .ok (.aload_n 0, 1) := by decide +kernel
theorem d_X11_years_36 : decode prog_13_method_115_code 36 = .ok (.getfield 13, 3) := by decide +kernel
theorem d_X11_years_39 : decode prog_13_method_115_code 39 = .ok (.iconst 0, 1) := by decide +kernel
theorem d_X11_years_40 : decode prog_13_method_115_code 40 = .ok (.iaload, 1) := by decide +kernel
theorem d_X11_years_41 : decode prog_13_method_115_code 41 = .ok (.ifCond .ne 10, 3) := by decide +kernel
theorem d_X11_years_44 : decode prog_13_method_115_code 44 = .ok (.aload_n 0, 1) := by decide +kernel
theorem d_X11_years_45 : decode prog_13_method_115_code 45 = .ok (.bipush (-3), 2) := by decide +kernel
theorem d_X11_years_47 : decode prog_13_method_115_code 47 = .ok (.invokevirtual 154, 3) := by decide +kernel
theorem d_X11_years_50 : decode prog_13_method_115_code 50 = .ok (.ireturn, 1) := by decide +kernel
theorem d_X11_years_51 : decode prog_13_method_115_code 51 = .ok (.aload_n 0, 1) := by decide +kernel
theorem d_X11_years_52 : decode prog_13_method_115_code 52 = .ok (.bipush 16, 2) := by decide +kernel
theorem d_X11_years_54 : decode prog_13_method_115_code 54 = .ok (.invokevirtual 158, 3) := by decide +kernel
theorem d_X11_years_57 : decode prog_13_method_115_code 57 = .ok (.aload_n 0, 1) := by decide +kernel
theorem d_X11_years_58 : decode prog_13_method_115_code 58 = .ok (.iload_n 1, 1) := by decide +kernel
theorem d_X11_years_59 : decode prog_13_method_115_code 59 = .ok (.i2l, 1) := by decide +kernel
theorem d_X11_years_60 : decode prog_13_method_115_code 60 = .ok (.putfield 527, 3) := by decide +kernel
theorem d_X11_years_63 : decode prog_13_method_115_code 63 = .ok (.iconst 0, 1) := by decide +kernel
theorem d_X11_years_64 : decode prog_13_method_115_code 64 = .ok (.istore_n 3, 1) := by decide +kernel
theorem d_X11_years_65 : decode prog_13_method_115_code 65 = .ok (.iconst 0, 1) := by decide +kernel
theorem d_X11_years_66 : decode prog_13_method_115_code 66 = .ok (.istore 4, 2) := by decide +kernel
theorem d_X11_years_68 : decode prog_13_method_115_code 68 = .ok (.iload 4, 2) := by decide +kernel
theorem d_X11_years_70 : decode prog_13_method_115_code 70 = .ok (.iload_n 2, 1) := by decide +kernel
theorem d_X11_years_71 : decode prog_13_method_115_code 71 = .ok (.if_icmp .ge 151, 3) := by decide +kernel
theorem d_X11_years_74 : decode prog_13_method_115_code 74 = .ok (.aload_n 0, 1) := by decide +kernel
theorem d_X11_years_75 : decode prog_13_method_115_code 75 = .ok (.getfield 13, 3) := by decide +kernel
theorem d_X11_years_78 : decode prog_13_method_115_code 78 = .ok (.iconst 5, 1) := by decide +kernel
theorem d_X11_years_79 : decode prog_13_method_115_code 79 = .ok (.iaload, 1) := by decide +kernel
theorem d_X11_years_80 : decode prog_13_method_115_code 80 = .ok (.sipush 999, 3) := by decide +kernel
theorem d_X11_years_83 : decode prog_13_method_115_code 83 = .ok (.if_icmp .ge 139, 3) := by decide +kernel
theorem d_X11_years_86 : decode prog_13_method_115_code 86 = .ok (.aload_n 0, 1) := by decide +kernel
theorem d_X11_years_87 : decode prog_13_method_115_code 87 = .ok (.aload_n 0, 1) := by decide +kernel
theorem d_X11_years_88 : decode prog_13_method_115_code 88 = .ok (.getfield 13, 3) := by decide +kernel
theorem d_X11_years_91 : decode prog_13_method_115_code 91 = .ok (.iconst 0, 1) := by decide +kernel
theorem d_X11_years_92 : decode prog_13_method_115_code 92 = .ok (.iaload, 1) := by decide +kernel
theorem d_X11_years_93 : decode prog_13_method_115_code 93 = .ok (.invokevirtual 536, 3) := by decide +kernel
theorem d_X11_years_96 : decode prog_13_method_115_code 96 = .ok (.istore 5, 2) := by decide +kernel
theorem d_X11_years_98 : decode prog_13_method_115_code 98 = .ok (.aload_n 0, 1) := by decide +kernel
theorem d_X11_years_99 : decode prog_13_method_115_code 99 = .ok (.iconst 4, 1) := by decide +kernel
theorem d_X11_years_100 : decode prog_13_method_115_code 100 = .ok (.invokevirtual 536, 3) := by decide +kernel
theorem d_X11_years_103 : decode prog_13_method_115_code 103 = .ok (.istore 6, 2) := by decide +kernel
theorem d_X11_years_105 : decode prog_13_method_115_code 105 = .ok (.aload_n 0, 1) := by decide +kernel
theorem d_X11_years_106 : decode prog_13_method_115_code 106 = .ok (.getfield 13, 3) := by decide +kernel
theorem d_X11_years_109 : decode prog_13_method_115_code 109 = .ok (.bipush 16, 2) := by decide +kernel
theorem d_X11_years_111 : decode prog_13_method_115_code 111 = .ok (.iload 5, 2) := by decide +kernel
theorem d_X11_years_113 : decode prog_13_method_115_code 113 = .ok (.iadd, 1) := by decide +kernel
theorem d_X11_years_114 : decode prog_13_method_115_code 114 = .ok (.iload 6, 2) := by decide +kernel
theorem d_X11_years_116 : decode prog_13_method_115_code 116 = .ok (.ifCond .ne 7, 3) := by decide +kernel
theorem d_X11_years_119 : decode prog_13_method_115_code 119 = .ok (.iconst 1, 1) := by decide +kernel
theorem d_X11_years_120 : decode prog_13_method_115_code 120 = .ok (.goto 23, 3) := by decide +kernel
theorem d_X11_years_123 : decode prog_13_method_115_code 123 = .ok (.iload 6, 2) := by decide +kernel
theorem d_X11_years_125 : decode prog_13_method_115_code 125 = .ok (.iconst 1, 1) := by decide +kernel
theorem d_X11_years_126 : decode prog_13_method_115_code 126 = .ok (.if_icmp .ne 7, 3) := by decide +kernel
theorem d_X11_years_129 : decode prog_13_method_115_code 129 = .ok (.iconst 0, 1) := by decide +kernel
theorem d_X11_years_130 : decode prog_13_method_115_code 130 = .ok (.goto 13, 3) := by decide +kernel
theorem d_X11_years_133 : decode prog_13_method_115_code 133 = .ok (.aload_n 0, 1) := by decide +kernel
theorem d_X11_years_134 : decode prog_13_method_115_code 134 = .ok (.getfield 13, 3) := by decide +kernel
theorem d_X11_years_137 : decode prog_13_method_115_code 137 = .ok (.bipush 16, 2) := by decide +kernel
theorem d_X11_years_139 : decode prog_13_method_115_code 139 = .ok (.iload 5, 2) := by decide +kernel
theorem d_X11_years_141 : decode prog_13_method_115_code 141 = .ok (.iadd, 1) := by decide +kernel
theorem d_X11_years_142 : decode prog_13_method_115_code 142 = .ok (.iaload, 1) := by decide +kernel
theorem d_X11_years_143 : decode prog_13_method_115_code 143 = .ok (.iastore, 1) := by decide +kernel
theorem d_X11_years_144 : decode prog_13_method_115_code 144 = .ok (.aload_n 0, 1) := by decide +kernel
theorem d_X11_years_145 : decode prog_13_method_115_code 145 = .ok (.getfield 13, 3) := by decide +kernel
theorem d_X11_years_148 : decode prog_13_method_115_code 148 = .ok (.bipush 8, 2) := by decide +kernel
theorem d_X11_years_150 : decode prog_13_method_115_code 150 = .ok (.iload 5, 2) := by decide +kernel
theorem d_X11_years_152 : decode prog_13_method_115_code 152 = .ok (.iadd, 1) := by decide +kernel
theorem d_X11_years_153 : decode prog_13_method_115_code 153 = .ok (.aload_n 0, 1) := by decide +kernel
theorem d_X11_years_154 : decode prog_13_method_115_code 154 = .ok (.getfield 13, 3) := by decide +kernel
theorem d_X11_years_157 : decode prog_13_method_115_code 157 = .ok (.bipush 8, 2) := by decide +kernel
theorem d_X11_years_159 : decode prog_13_method_115_code 159 = .ok (.iload 5, 2) := by decide +kernel
theorem d_X11_years_161 : decode prog_13_method_115_code 161 = .ok (.iadd, 1) := by decide +kernel
theorem d_X11_years_162 : decode prog_13_method_115_code 162 = .ok (.iaload, 1) := by decide +kernel
theorem d_X11_years_163 : decode prog_13_method_115_code 163 = .ok (.iload 6, 2) := by decide +kernel
theorem d_X11_years_165 : decode prog_13_method_115_code 165 = .ok (.iconst 2, 1) := by decide +kernel
theorem d_X11_years_166 : decode prog_13_method_115_code 166 = .ok (.if_icmp .ne 7, 3) := by decide +kernel
theorem d_X11_years_169 : decode prog_13_method_115_code 169 = .ok (.iconst 1, 1) := by decide +kernel
theorem d_X11_years_170 : decode prog_13_method_115_code 170 = .ok (.goto 14, 3) := by decide +kernel
theorem d_X11_years_173 : decode prog_13_method_115_code 173 = .ok (.iload 6, 2) := by decide +kernel
theorem d_X11_years_175 : decode prog_13_method_115_code 175 = .ok (.iconst 3, 1) := by decide +kernel
theorem d_X11_years_176 : decode prog_13_method_115_code 176 = .ok (.if_icmp .ne 7, 3) := by decide +kernel
theorem d_X11_years_179 : decode prog_13_method_115_code 179 = .ok (.iconst (-1), 1) := by decide +kernel
theorem d_X11_years_180 : decode prog_13_method_115_code 180 = .ok (.goto 4, 3) := by decide +kernel
theorem d_X11_years_183 : decode prog_13_method_115_code 183 = .ok (.iconst 0, 1) := by decide +kernel
theorem d_X11_years_184 : decode prog_13_method_115_code 184 = .ok (.iadd, 1) := by decide +kernel
theorem d_X11_years_185 : decode prog_13_method_115_code 185 = .ok (.i2l, 1) := by decide +kernel
theorem d_X11_years_186 : decode prog_13_method_115_code 186 = .ok (.iconst 1, 1) := by decide +kernel
theorem d_X11_years_187 : decode prog_13_method_115_code 187 = .ok (.bipush 12, 2) := by decide +kernel
theorem d_X11_years_189 : decode prog_13_method_115_code 189 = .ok (.invokestatic 403, 3) := by decide +kernel
theorem d_X11_years_192 : decode prog_13_method_115_code 192 = .ok (.iastore, 1) := by decide +kernel
theorem d_X11_years_193 : decode prog_13_method_115_code 193 = .ok (.aload_n 0, 1) := by decide +kernel
theorem d_X11_years_194 : decode prog_13_method_115_code 194 = .ok (.invokevirtual 422, 3) := by decide +kernel
theorem d_X11_years_197 : decode prog_13_method_115_code 197 = .ok (.aload_n 0, 1) := by decide +kernel
theorem d_X11_years_198 : decode prog_13_method_115_code 198 = .ok (.invokevirtual 455, 3) := by decide +kernel
theorem d_X11_years_201 : decode prog_13_method_115_code 201 = .ok (.istore 7, 2) := by decide +kernel
theorem d_X11_years_203 : decode prog_13_method_115_code 203 = .ok (.iload 7, 2) := by decide +kernel
theorem d_X11_years_205 : decode prog_13_method_115_code 205 = .ok (.iload_n 3, 1) := by decide +kernel
theorem d_X11_years_206 : decode prog_13_method_115_code 206 = .ok (.if_icmp .le 8, 3) := by decide +kernel
theorem d_X11_years_209 : decode prog_13_method_115_code 209 = .ok (.iload 7, 2) := by decide +kernel
theorem d_X11_years_211 : decode prog_13_method_115_code 211 = .ok (.goto 4, 3) := by decide +kernel
theorem d_X11_years_214 : decode prog_13_method_115_code 214 = .ok (.iload_n 3, 1) := by decide +kernel
theorem d_X11_years_215 : decode prog_13_method_115_code 215 = .ok (.istore_n 3, 1) := by decide +kernel
theorem d_X11_years_216 : decode prog_13_method_115_code 216 = .ok (.iinc 4 1, 3) := by decide +kernel
theorem d_X11_years_219 : decode prog_13_method_115_code 219 = .ok (.goto (-151), 3) := by decide +kernel
theorem d_X11_years_222 : decode prog_13_method_115_code 222 = .ok (.aload_n 0, 1) := by decide +kernel
theorem d_X11_years_223 : decode prog_13_method_115_code 223 = .ok (.aload_n 0, 1) := by decide +kernel
theorem d_X11_years_224 : decode prog_13_method_115_code 224 = .ok (.getfield 13, 3) := by decide +kernel
theorem d_X11_years_227 : decode prog_13_method_115_code 227 = .ok (.iconst 0, 1) := by decide +kernel
theorem d_X11_years_228 : decode prog_13_method_115_code 228 = .ok (.iaload, 1) := by decide +kernel
theorem d_X11_years_229 : decode prog_13_method_115_code 229 = .ok (.putfield 142, 3) := by decide +kernel
theorem d_X11_years_232 : decode prog_13_method_115_code 232 = .ok (.iconst 0, 1) := by decide +kernel
theorem d_X11_years_233 : decode prog_13_method_115_code 233 = .ok (.istore 4, 2) := by decide +kernel
theorem d_X11_years_235 : decode prog_13_method_115_code 235 = .ok (.iload 4, 2) := by decide +kernel
theorem d_X11_years_237 : decode prog_13_method_115_code 237 = .ok (.aload_n 0, 1) := by decide +kernel
theorem d_X11_years_238 : decode prog_13_method_115_code 238 = .ok (.getfield 142, 3) := by decide +kernel
theorem d_X11_years_241 : decode prog_13_method_115_code 241 = .ok (.if_icmp .ge 46, 3) := by decide +kernel
theorem d_X11_years_244 : decode prog_13_method_115_code 244 = .ok (.aload_n 0, 1) := by decide +kernel
theorem d_X11_years_245 : decode prog_13_method_115_code 245 = .ok (.getfield 139, 3) := by decide +kernel
theorem d_X11_years_248 : decode prog_13_method_115_code 248 = .ok (.iload 4, 2) := by decide +kernel
theorem d_X11_years_250 : decode prog_13_method_115_code 250 = .ok (.aload_n 0, 1) := by decide +kernel
theorem d_X11_years_251 : decode prog_13_method_115_code 251 = .ok (.getfield 13, 3) := by decide +kernel
theorem d_X11_years_254 : decode prog_13_method_115_code 254 = .ok (.bipush 8, 2) := by decide +kernel
theorem d_X11_years_256 : decode prog_13_method_115_code 256 = .ok (.iload 4, 2) := by decide +kernel
theorem d_X11_years_258 : decode prog_13_method_115_code 258 = .ok (.iadd, 1) := by decide +kernel
theorem d_X11_years_259 : decode prog_13_method_115_code 259 = .ok (.iaload, 1) := by decide +kernel
theorem d_X11_years_260 : decode prog_13_method_115_code 260 = .ok (.iastore, 1) := by decide +kernel
theorem d_X11_years_261 : decode prog_13_method_115_code 261 = .ok (.aload_n 0, 1) := by decide +kernel
theorem d_X11_years_262 : decode prog_13_method_115_code 262 = .ok (.getfield 139, 3) := by decide +kernel
theorem d_X11_years_265 : decode prog_13_method_115_code 265 = .ok (.bipush 8, 2) := by decide +kernel
theorem d_X11_years_267 : decode prog_13_method_115_code 267 = .ok (.iload 4, 2) := by decide +kernel
theorem d_X11_years_269 : decode prog_13_method_115_code 269 = .ok (.iadd, 1) := by decide +kernel
theorem d_X11_years_270 : decode prog_13_method_115_code 270 = .ok (.aload_n 0, 1) := by decide +kernel
theorem d_X11_years_271 : decode prog_13_method_115_code 271 = .ok (.getfield 13, 3) := by decide +kernel
theorem d_X11_years_274 : decode prog_13_method_115_code 274 = .ok (.bipush 16, 2) := by decide +kernel
theorem d_X11_years_276 : decode prog_13_method_115_code 276 = .ok (.iload 4, 2) := by decide +kernel
theorem d_X11_years_278 : decode prog_13_method_115_code 278 = .ok (.iadd, 1) := by decide +kernel
theorem d_X11_years_279 : decode prog_13_method_115_code 279 = .ok (.iaload, 1) := by decide +kernel
theorem d_X11_years_280 : decode prog_13_method_115_code 280 = .ok (.iastore, 1) := by decide +kernel
theorem d_X11_years_281 : decode prog_13_method_115_code 281 = .ok (.iinc 4 1, 3) := by decide +kernel
theorem d_X11_years_284 : decode prog_13_method_115_code 284 = .ok (.goto (-49), 3) := by decide +kernel
theorem d_X11_years_287 : decode prog_13_method_115_code 287 = .ok (.aload_n 0, 1) := by decide +kernel
theorem d_X11_years_288 : decode prog_13_method_115_code 288 = .ok (.bipush 16, 2) := by decide +kernel
theorem d_X11_years_290 : decode prog_13_method_115_code 290 = .ok (.invokevirtual 162, 3) := by decide +kernel
theorem d_X11_years_293 : decode prog_13_method_115_code 293 = .ok (.aload_n 0, 1) := by decide +kernel
theorem d_X11_years_294 : decode prog_13_method_115_code 294 = .ok (.iload_n 3, 1) := by decide +kernel
theorem d_X11_years_295 : decode prog_13_method_115_code 295 = .ok (.invokevirtual 154, 3) := by decide +kernel
theorem d_X11_years_298 : decode prog_13_method_115_code 298 = .ok (.ireturn, 1) := by decide +kernel
theorem d_X11_drawn_0 : decode prog_13_method_116_code 0 = .ok (.aload_n 0, 1) := by decide +kernel
theorem d_X11_drawn_1 : decode prog_13_method_116_code 1 = .ok (.iconst 0, 1) := by decide +kernel
theorem d_X11_drawn_2 : decode prog_13_method_116_code 2 = .ok (.putfield 145, 3) := by decide +kernel
theorem d_X11_drawn_5 : decode prog_13_method_116_code 5 = .ok (.iload_n 1, 1) := by decide +kernel
theorem d_X11_drawn_6 : decode prog_13_method_116_code 6 = .ok (.i2l, 1) := by decide +kernel
theorem d_X11_drawn_7 : decode prog_13_method_116_code 7 = .ok (.lconst 0, 1) := by decide +kernel
theorem d_X11_drawn_8 : decode prog_13_method_116_code 8 = .ok (.aload_n 0, 1) := by decide +kernel
theorem d_X11_drawn_9 : decode prog_13_method_116_code 9 = .ok (.getfield 142, 3) := by decide +kernel
theorem d_X11_drawn_12 : decode prog_13_method_116_code 12 = .ok (.i2l, 1) := by decide +kernel
theorem d_X11_drawn_13 : decode prog_13_method_116_code 13 = .ok (.lconst 1, 1) := by decide +kernel
theorem d_X11_drawn_14 : decode prog_13_method_116_code 14 = .ok (.lsub, 1) := by decide +kernel
theorem d_X11_drawn_15 : decode prog_13_method_116_code 15 = .ok (.invokestatic 165, 3) := by decide +kernel
theorem d_X11_drawn_18 : decode prog_13_method_116_code 18 = .ok (.ifCond .eq 27, 3) := by decide +kernel
theorem d_X11_drawn_21 : decode prog_13_method_116_code 21 = .ok (.iload_n 2, 1) := by decide +kernel
theorem d_X11_drawn_22 : decode prog_13_method_116_code 22 = .ok (.i2l, 1) := by decide +kernel
theorem d_X11_drawn_23 : decode prog_13_method_116_code 23 = .ok (.lconst 0, 1) := by decide +kernel
theorem d_X11_drawn_24 : decode prog_13_method_116_code 24 = .ok (.lconst 1, 1) := by decide +kernel
theorem d_X11_drawn_25 : decode prog_13_method_116_code 25 = .ok (.invokestatic 165, 3) := by decide +kernel
theorem d_X11_drawn_28 : decode prog_13_method_116_code 28 = .ok (.ifCond .eq 17, 3) := by decide +kernel
theorem d_X11_drawn_31 : decode prog_13_method_116_code 31 = .ok (.aload_n 0, 1) := by decide +kernel
theorem d_X11_drawn_32 : decode prog_13_method_116_code 32 = .ok (.getfield 139, 3) := by decide +kernel
theorem d_X11_drawn_35 : decode prog_13_method_116_code 35 = .ok (.bipush 8, 2) := by decide +kernel
theorem d_X11_drawn_37 : decode prog_13_method_116_code 37 = .ok (.iload_n 2, 1) := by decide +kernel
theorem d_X11_drawn_38 : decode prog_13_method_116_code 38 = .ok (.imul, 1) := by decide +kernel
theorem d_X11_drawn_39 : decode prog_13_method_116_code 39 = .ok (.iload_n 1, 1) := by decide +kernel
theorem d_X11_drawn_40 : decode prog_13_method_116_code 40 = .ok (.iadd, 1) := by decide +kernel
theorem d_X11_drawn_41 : decode prog_13_method_116_code 41 = .ok (.iaload, 1) := by decide +kernel
theorem d_X11_drawn_42 : decode prog_13_method_116_code 42 = .ok (.goto 4, 3) := by decide +kernel
theorem d_X11_drawn_45 : decode prog_13_method_116_code 45 = .ok (.iconst (-1), 1) := by decide +kernel
theorem d_X11_drawn_46 : decode prog_13_method_116_code 46 = .ok (.ireturn, 1) := by decide +kernel
theorem d_X11_count_0 : decode prog_13_method_117_code 0 = .ok (.aload_n 0, 1) := by decide +kernel
theorem d_X11_count_1 : decode prog_13_method_117_code 1 = .ok (.iconst 0, 1) := by decide +kernel
theorem d_X11_count_2 : decode prog_13_method_117_code 2 = .ok (.putfield 145, 3) := by decide +kernel
theorem d_X11_count_5 : decode prog_13_method_117_code 5 = .ok (.iload_n 1, 1) := by decide +kernel
theorem d_X11_count_6 : decode prog_13_method_117_code 6 = .ok (.tableswitch 152 0 12 #[66, 73, 78, 85, 92, 99, 104, 109, 116, 123, 130, 137, 145], 66) := by decide +kernel
theorem d_X11_count_72 : decode prog_13_method_117_code 72 = .ok (.aload_n 0, 1) := by decide +kernel
theorem d_X11_count_73 : decode prog_13_method_117_code 73 = .ok (.getfield 13, 3) := by decide +kernel
theorem d_X11_count_76 : decode prog_13_method_117_code 76 = .ok (.iconst 0, 1) := by decide +kernel
theorem d_X11_count_77 : decode prog_13_method_117_code 77 = .ok (.iaload, 1) := by decide +kernel
theorem d_X11_count_78 : decode prog_13_method_117_code 78 = .ok (.ireturn, 1) := by decide +kernel
theorem d_X11_count_79 : decode prog_13_method_117_code 79 = .ok (.aload_n 0, 1) := by decide +kernel
theorem d_X11_count_80 : decode prog_13_method_117_code 80 = .ok (.invokevirtual 410, 3) := by decide +kernel
theorem d_X11_count_83 : decode prog_13_method_117_code 83 = .ok (.ireturn, 1) := by decide +kernel
theorem d_X11_count_84 : decode prog_13_method_117_code 84 = .ok (.aload_n 0, 1) := by decide +kernel
theorem d_X11_count_85 : decode prog_13_method_117_code 85 = .ok (.getfield 13, 3) := by decide +kernel
theorem d_X11_count_88 : decode prog_13_method_117_code 88 = .ok (.iconst 1, 1) := by decide +kernel
theorem d_X11_count_89 : decode prog_13_method_117_code 89 = .ok (.iaload, 1) := by decide +kernel
theorem d_X11_count_90 : decode prog_13_method_117_code 90 = .ok (.ireturn, 1) := by decide +kernel
theorem d_X11_count_91 : decode prog_13_method_117_code 91 = .ok (.aload_n 0, 1) := by decide +kernel
theorem d_X11_count_92 : decode prog_13_method_117_code 92 = .ok (.getfield 13, 3) := by decide +kernel
theorem d_X11_count_95 : decode prog_13_method_117_code 95 = .ok (.iconst 2, 1) := by decide +kernel
theorem d_X11_count_96 : decode prog_13_method_117_code 96 = .ok (.iaload, 1) := by decide +kernel
theorem d_X11_count_97 : decode prog_13_method_117_code 97 = .ok (.ireturn, 1) := by decide +kernel
theorem d_X11_count_98 : decode prog_13_method_117_code 98 = .ok (.aload_n 0, 1) := by decide +kernel
theorem d_X11_count_99 : decode prog_13_method_117_code 99 = .ok (.getfield 13, 3) := by decide +kernel
theorem d_X11_count_102 : decode prog_13_method_117_code 102 = .ok (.iconst 3, 1) := by decide +kernel
theorem d_X11_count_103 : decode prog_13_method_117_code 103 = .ok (.iaload, 1) := by decide +kernel
theorem d_X11_count_104 : decode prog_13_method_117_code 104 = .ok (.ireturn, 1) := by decide +kernel
theorem d_X11_count_105 : decode prog_13_method_117_code 105 = .ok (.aload_n 0, 1) := by decide +kernel
theorem d_X11_count_106 : decode prog_13_method_117_code 106 = .ok (.getfield 151, 3) := by decide +kernel
theorem d_X11_count_109 : decode prog_13_method_117_code 109 = .ok (.ireturn, 1) := by decide +kernel
theorem d_X11_count_110 : decode prog_13_method_117_code 110 = .ok (.aload_n 0, 1) := by decide +kernel
theorem d_X11_count_111 : decode prog_13_method_117_code 111 = .ok (.getfield 212, 3) := by decide +kernel
theorem d_X11_count_114 : decode prog_13_method_117_code 114 = .ok (.ireturn, 1) := by decide +kernel
theorem d_X11_count_115 : decode prog_13_method_117_code 115 = .ok (.aload_n 0, 1) := by decide +kernel
theorem d_X11_count_116 : decode prog_13_method_117_code 116 = .ok (.getfield 7, 3) := by decide +kernel
theorem d_X11_count_119 : decode prog_13_method_117_code 119 = .ok (.iconst 1, 1) := by decide +kernel
theorem d_X11_count_120 : decode prog_13_method_117_code 120 = .ok (.iaload, 1) := by decide +kernel
theorem d_X11_count_121 : decode prog_13_method_117_code 121 = .ok (.ireturn, 1) := by decide +kernel
theorem d_X11_count_122 : decode prog_13_method_117_code 122 = .ok (.aload_n 0, 1) := by decide +kernel
theorem d_X11_count_123 : decode prog_13_method_117_code 123 = .ok (.getfield 7, 3) := by decide +kernel
theorem d_X11_count_126 : decode prog_13_method_117_code 126 = .ok (.iconst 2, 1) := by decide +kernel
theorem d_X11_count_127 : decode prog_13_method_117_code 127 = .ok (.iaload, 1) := by decide +kernel
theorem d_X11_count_128 : decode prog_13_method_117_code 128 = .ok (.ireturn, 1) := by decide +kernel
theorem d_X11_count_129 : decode prog_13_method_117_code 129 = .ok (.aload_n 0, 1) := by decide +kernel
theorem d_X11_count_130 : decode prog_13_method_117_code 130 = .ok (.getfield 7, 3) := by decide +kernel
theorem d_X11_count_133 : decode prog_13_method_117_code 133 = .ok (.iconst 3, 1) := by decide +kernel
theorem d_X11_count_134 : decode prog_13_method_117_code 134 = .ok (.iaload, 1) := by decide +kernel
theorem d_X11_count_135 : decode prog_13_method_117_code 135 = .ok (.ireturn, 1) := by decide +kernel
theorem d_X11_count_136 : decode prog_13_method_117_code 136 = .ok (.aload_n 0, 1) := by decide +kernel
theorem d_X11_count_137 : decode prog_13_method_117_code 137 = .ok (.getfield 7, 3) := by decide +kernel
theorem d_X11_count_140 : decode prog_13_method_117_code 140 = .ok (.iconst 5, 1) := by decide +kernel
theorem d_X11_count_141 : decode prog_13_method_117_code 141 = .ok (.iaload, 1) := by decide +kernel
theorem d_X11_count_142 : decode prog_13_method_117_code 142 = .ok (.ireturn, 1) := by decide +kernel
theorem d_X11_count_143 : decode prog_13_method_117_code 143 = .ok (.aload_n 0, 1) := by decide +kernel
theorem d_X11_count_144 : decode prog_13_method_117_code 144 = .ok (.getfield 7, 3) := by decide +kernel
theorem d_X11_count_147 : decode prog_13_method_117_code 147 = .ok (.bipush 6, 2) := by decide +kernel
theorem d_X11_count_149 : decode prog_13_method_117_code 149 = .ok (.iaload, 1) := by decide +kernel
theorem d_X11_count_150 : decode prog_13_method_117_code 150 = .ok (.ireturn, 1) := by decide +kernel
theorem d_X11_count_151 : decode prog_13_method_117_code 151 = .ok (.aload_n 0, 1) := by decide +kernel
theorem d_X11_count_152 : decode prog_13_method_117_code 152 = .ok (.getfield 13, 3) := by decide +kernel
theorem d_X11_count_155 : decode prog_13_method_117_code 155 = .ok (.iconst 4, 1) := by decide +kernel
theorem d_X11_count_156 : decode prog_13_method_117_code 156 = .ok (.iaload, 1) := by decide +kernel
theorem d_X11_count_157 : decode prog_13_method_117_code 157 = .ok (.ireturn, 1) := by decide +kernel
theorem d_X11_count_158 : decode prog_13_method_117_code 158 = .ok (.iload_n 1, 1) := by decide +kernel
theorem d_X11_count_159 : decode prog_13_method_117_code 159 = .ok (.i2l, 1) := by decide +kernel
theorem d_X11_count_160 : decode prog_13_method_117_code 160 = .ok (.ldc2_w 539, 3) := by decide +kernel
theorem d_X11_count_163 : decode prog_13_method_117_code 163 = .ok (.ldc2_w 541, 3) := by decide +kernel
theorem d_X11_count_166 : decode prog_13_method_117_code 166 = .ok (.invokestatic 165, 3) := by decide +kernel
theorem d_X11_count_169 : decode prog_13_method_117_code 169 = .ok (.ifCond .eq 17, 3) := by decide +kernel
theorem d_X11_count_172 : decode prog_13_method_117_code 172 = .ok (.aload_n 0, 1) := by decide +kernel
theorem d_X11_count_173 : decode prog_13_method_117_code 173 = .ok (.getfield 13, 3) := by decide +kernel
theorem d_X11_count_176 : decode prog_13_method_117_code 176 = .ok (.iconst 5, 1) := by decide +kernel
theorem d_X11_count_177 : decode prog_13_method_117_code 177 = .ok (.iload_n 1, 1) := by decide +kernel
theorem d_X11_count_178 : decode prog_13_method_117_code 178 = .ok (.iadd, 1) := by decide +kernel
theorem d_X11_count_179 : decode prog_13_method_117_code 179 = .ok (.bipush 13, 2) := by decide +kernel
theorem d_X11_count_181 : decode prog_13_method_117_code 181 = .ok (.isub, 1) := by decide +kernel
theorem d_X11_count_182 : decode prog_13_method_117_code 182 = .ok (.iaload, 1) := by decide +kernel
theorem d_X11_count_183 : decode prog_13_method_117_code 183 = .ok (.goto 4, 3) := by decide +kernel
theorem d_X11_count_186 : decode prog_13_method_117_code 186 = .ok (.iconst (-1), 1) := by decide +kernel
theorem d_X11_count_187 : decode prog_13_method_117_code 187 = .ok (.ireturn, 1) := by decide +kernel
theorem d_X11_status_0 : decode prog_13_method_118_code 0 = .ok (.aload_n 0, 1) := by decide +kernel
theorem d_X11_status_1 : decode prog_13_method_118_code 1 = .ok (.iconst 0, 1) := by decide +kernel
theorem d_X11_status_2 : decode prog_13_method_118_code 2 = .ok (.putfield 145, 3) := by decide +kernel
theorem d_X11_status_5 : decode prog_13_method_118_code 5 = .ok (.aload_n 0, 1) := by decide +kernel
theorem d_X11_status_6 : decode prog_13_method_118_code 6 = .ok (.getfield 148, 3) := by decide +kernel
theorem d_X11_status_9 : decode prog_13_method_118_code 9 = .ok (.ireturn, 1) := by decide +kernel
theorem d_J11_isValidCodePoint_9a6ad_0 : decode prog_14_method_11_code 0 = .ok (.iload_n 0, 1) := by decide +kernel
theorem d_J11_isValidCodePoint_9a6ad_1 : decode prog_14_method_11_code 1 = .ok (.bipush 16, 2) := by decide +kernel
theorem d_J11_isValidCodePoint_9a6ad_3 : decode prog_14_method_11_code 3 = .ok (.iushr, 1) := by decide +kernel
theorem d_J11_isValidCodePoint_9a6ad_4 : decode prog_14_method_11_code 4 = .ok (.istore_n 1, 1) := by decide +kernel
theorem d_J11_isValidCodePoint_9a6ad_5 : decode prog_14_method_11_code 5 = .ok (.iload_n 1, 1) := by decide +kernel
theorem d_J11_isValidCodePoint_9a6ad_6 : decode prog_14_method_11_code 6 = .ok (.bipush 17, 2) := by decide +kernel
theorem d_J11_isValidCodePoint_9a6ad_8 : decode prog_14_method_11_code 8 = .ok (.if_icmp .ge 7, 3) := by decide +kernel
theorem d_J11_isValidCodePoint_9a6ad_11 : decode prog_14_method_11_code 11 = .ok (.iconst 1, 1) := by decide +kernel
theorem d_J11_isValidCodePoint_9a6ad_12 : decode prog_14_method_11_code 12 = .ok (.goto 4, 3) := by decide +kernel
theorem d_J11_isValidCodePoint_9a6ad_15 : decode prog_14_method_11_code 15 = .ok (.iconst 0, 1) := by decide +kernel
theorem d_J11_isValidCodePoint_9a6ad_16 : decode prog_14_method_11_code 16 = .ok (.ireturn, 1) := by decide +kernel
theorem d_J11_highSurrogate_5068e_0 : decode prog_14_method_28_code 0 = .ok (.iload_n 0, 1) := by decide +kernel
theorem d_J11_highSurrogate_5068e_1 : decode prog_14_method_28_code 1 = .ok (.bipush 10, 2) := by decide +kernel
theorem d_J11_highSurrogate_5068e_3 : decode prog_14_method_28_code 3 = .ok (.iushr, 1) := by decide +kernel
theorem d_J11_highSurrogate_5068e_4 : decode prog_14_method_28_code 4 = .ok (.ldc 110, 2) := by decide +kernel
theorem d_J11_highSurrogate_5068e_6 : decode prog_14_method_28_code 6 = .ok (.iadd, 1) := by decide +kernel
theorem d_J11_highSurrogate_5068e_7 : decode prog_14_method_28_code 7 = .ok (.i2c, 1) := by decide +kernel
theorem d_J11_highSurrogate_5068e_8 : decode prog_14_method_28_code 8 = .ok (.ireturn, 1) := by decide +kernel
theorem d_J11_lowSurrogate_5068e_0 : decode prog_14_method_29_code 0 = .ok (.iload_n 0, 1) := by decide +kernel
theorem d_J11_lowSurrogate_5068e_1 : decode prog_14_method_29_code 1 = .ok (.sipush 1023, 3) := by decide +kernel
theorem d_J11_lowSurrogate_5068e_4 : decode prog_14_method_29_code 4 = .ok (.iand, 1) := by decide +kernel
theorem d_J11_lowSurrogate_5068e_5 : decode prog_14_method_29_code 5 = .ok (.ldc 76, 2) := by decide +kernel
theorem d_J11_lowSurrogate_5068e_7 : decode prog_14_method_29_code 7 = .ok (.iadd, 1) := by decide +kernel
theorem d_J11_lowSurrogate_5068e_8 : decode prog_14_method_29_code 8 = .ok (.i2c, 1) := by decide +kernel
theorem d_J11_lowSurrogate_5068e_9 : decode prog_14_method_29_code 9 = .ok (.ireturn, 1) := by decide +kernel
theorem d_J9_floorMod_7cf53_0 : decode prog_16_method_50_code 0 = .ok (.iload_n 0, 1) := by decide +kernel
theorem d_J9_floorMod_7cf53_1 : decode prog_16_method_50_code 1 = .ok (.iload_n 1, 1) := by decide +kernel
theorem d_J9_floorMod_7cf53_2 : decode prog_16_method_50_code 2 = .ok (.irem, 1) := by decide +kernel
theorem d_J9_floorMod_7cf53_3 : decode prog_16_method_50_code 3 = .ok (.istore_n 2, 1) := by decide +kernel
theorem d_J9_floorMod_7cf53_4 : decode prog_16_method_50_code 4 = .ok (.iload_n 0, 1) := by decide +kernel
theorem d_J9_floorMod_7cf53_5 : decode prog_16_method_50_code 5 = .ok (.iload_n 1, 1) := by decide +kernel
theorem d_J9_floorMod_7cf53_6 : decode prog_16_method_50_code 6 = .ok (.ixor, 1) := by decide +kernel
theorem d_J9_floorMod_7cf53_7 : decode prog_16_method_50_code 7 = .ok (.ifCond .ge 11, 3) := by decide +kernel
theorem d_J9_floorMod_7cf53_10 : decode prog_16_method_50_code 10 = .ok (.iload_n 2, 1) := by decide +kernel
theorem d_J9_floorMod_7cf53_11 : decode prog_16_method_50_code 11 = .ok (.ifCond .eq 7, 3) := by decide +kernel
theorem d_J9_floorMod_7cf53_14 : decode prog_16_method_50_code 14 = .ok (.iload_n 2, 1) := by decide +kernel
theorem d_J9_floorMod_7cf53_15 : decode prog_16_method_50_code 15 = .ok (.iload_n 1, 1) := by decide +kernel
theorem d_J9_floorMod_7cf53_16 : decode prog_16_method_50_code 16 = .ok (.iadd, 1) := by decide +kernel
theorem d_J9_floorMod_7cf53_17 : decode prog_16_method_50_code 17 = .ok (.ireturn, 1) := by decide +kernel
theorem d_J9_floorMod_7cf53_18 : decode prog_16_method_50_code 18 = .ok (.iload_n 2, 1) := by decide +kernel
theorem d_J9_floorMod_7cf53_19 : decode prog_16_method_50_code 19 = .ok (.ireturn, 1) := by decide +kernel
theorem d_J9_abs_0f7a4_0 : decode prog_16_method_59_code 0 = .ok (.iload_n 0, 1) := by decide +kernel
theorem d_J9_abs_0f7a4_1 : decode prog_16_method_59_code 1 = .ok (.ifCond .ge 8, 3) := by decide +kernel
theorem d_J9_abs_0f7a4_4 : decode prog_16_method_59_code 4 = .ok (.iload_n 0, 1) := by decide +kernel
theorem d_J9_abs_0f7a4_5 : decode prog_16_method_59_code 5 = .ok (.ineg, 1) := by decide +kernel
theorem d_J9_abs_0f7a4_6 : decode prog_16_method_59_code 6 = .ok (.goto 4, 3) := by decide +kernel
theorem d_J9_abs_0f7a4_9 : decode prog_16_method_59_code 9 = .ok (.iload_n 0, 1) := by decide +kernel
theorem d_J9_abs_0f7a4_10 : decode prog_16_method_59_code 10 = .ok (.ireturn, 1) := by decide +kernel
theorem d_J9_abs_067f4_0 : decode prog_16_method_61_code 0 = .ok (.lload_n 0, 1) := by decide +kernel
theorem d_J9_abs_067f4_1 : decode prog_16_method_61_code 1 = .ok (.lconst 0, 1) := by decide +kernel
theorem d_J9_abs_067f4_2 : decode prog_16_method_61_code 2 = .ok (.lcmp, 1) := by decide +kernel
theorem d_J9_abs_067f4_3 : decode prog_16_method_61_code 3 = .ok (.ifCond .ge 8, 3) := by decide +kernel
theorem d_J9_abs_067f4_6 : decode prog_16_method_61_code 6 = .ok (.lload_n 0, 1) := by decide +kernel
theorem d_J9_abs_067f4_7 : decode prog_16_method_61_code 7 = .ok (.lneg, 1) := by decide +kernel
theorem d_J9_abs_067f4_8 : decode prog_16_method_61_code 8 = .ok (.goto 4, 3) := by decide +kernel
theorem d_J9_abs_067f4_11 : decode prog_16_method_61_code 11 = .ok (.lload_n 0, 1) := by decide +kernel
theorem d_J9_abs_067f4_12 : decode prog_16_method_61_code 12 = .ok (.lreturn, 1) := by decide +kernel
theorem d_J9_max_7cf53_0 : decode prog_16_method_65_code 0 = .ok (.iload_n 0, 1) := by decide +kernel
theorem d_J9_max_7cf53_1 : decode prog_16_method_65_code 1 = .ok (.iload_n 1, 1) := by decide +kernel
theorem d_J9_max_7cf53_2 : decode prog_16_method_65_code 2 = .ok (.if_icmp .lt 7, 3) := by decide +kernel
theorem d_J9_max_7cf53_5 : decode prog_16_method_65_code 5 = .ok (.iload_n 0, 1) := by decide +kernel
theorem d_J9_max_7cf53_6 : decode prog_16_method_65_code 6 = .ok (.goto 4, 3) := by decide +kernel
theorem d_J9_max_7cf53_9 : decode prog_16_method_65_code 9 = .ok (.iload_n 1, 1) := by decide +kernel
theorem d_J9_max_7cf53_10 : decode prog_16_method_65_code 10 = .ok (.ireturn, 1) := by decide +kernel
theorem d_J9_min_7cf53_0 : decode prog_16_method_69_code 0 = .ok (.iload_n 0, 1) := by decide +kernel
theorem d_J9_min_7cf53_1 : decode prog_16_method_69_code 1 = .ok (.iload_n 1, 1) := by decide +kernel
theorem d_J9_min_7cf53_2 : decode prog_16_method_69_code 2 = .ok (.if_icmp .gt 7, 3) := by decide +kernel
theorem d_J9_min_7cf53_5 : decode prog_16_method_69_code 5 = .ok (.iload_n 0, 1) := by decide +kernel
theorem d_J9_min_7cf53_6 : decode prog_16_method_69_code 6 = .ok (.goto 4, 3) := by decide +kernel
theorem d_J9_min_7cf53_9 : decode prog_16_method_69_code 9 = .ok (.iload_n 1, 1) := by decide +kernel
theorem d_J9_min_7cf53_10 : decode prog_16_method_69_code 10 = .ok (.ireturn, 1) := by decide +kernel
theorem d_J0_length_8abf5_0 : decode prog_17_method_54_code 0 = .ok (.aload_n 0, 1) := by decide +kernel
theorem d_J0_length_8abf5_1 : decode prog_17_method_54_code 1 = .ok (.getfield 9, 3) := by decide +kernel
theorem d_J0_length_8abf5_4 : decode prog_17_method_54_code 4 = .ok (.arraylength, 1) := by decide +kernel
theorem d_J0_length_8abf5_5 : decode prog_17_method_54_code 5 = .ok (.aload_n 0, 1) := by decide +kernel
theorem d_J0_length_8abf5_6 : decode prog_17_method_54_code 6 = .ok (.invokevirtual 335, 3) := by decide +kernel
theorem d_J0_length_8abf5_9 : decode prog_17_method_54_code 9 = .ok (.ishr, 1) := by decide +kernel
theorem d_J0_length_8abf5_10 : decode prog_17_method_54_code 10 = .ok (.ireturn, 1) := by decide +kernel
theorem d_J0_charAt_5068e_0 : decode prog_17_method_56_code 0 = .ok (.aload_n 0, 1) := by decide +kernel
theorem d_J0_charAt_5068e_1 : decode prog_17_method_56_code 1 = .ok (.invokevirtual 492, 3) := by decide +kernel
theorem d_J0_charAt_5068e_4 : decode prog_17_method_56_code 4 = .ok (.ifCond .eq 12, 3) := by decide +kernel
theorem d_J0_charAt_5068e_7 : decode prog_17_method_56_code 7 = .ok (.aload_n 0, 1) := by decide +kernel
theorem d_J0_charAt_5068e_8 : decode prog_17_method_56_code 8 = .ok (.getfield 9, 3) := by decide +kernel
theorem d_J0_charAt_5068e_11 : decode prog_17_method_56_code 11 = .ok (.iload_n 1, 1) := by decide +kernel
theorem d_J0_charAt_5068e_12 : decode prog_17_method_56_code 12 = .ok (.invokestatic 495, 3) := by decide +kernel
theorem d_J0_charAt_5068e_15 : decode prog_17_method_56_code 15 = .ok (.ireturn, 1) := by decide +kernel
theorem d_J0_charAt_5068e_16 : decode prog_17_method_56_code 16 = .ok (.aload_n 0, 1) := by decide +kernel
theorem d_J0_charAt_5068e_17 : decode prog_17_method_56_code 17 = .ok (.getfield 9, 3) := by decide +kernel
theorem d_J0_charAt_5068e_20 : decode prog_17_method_56_code 20 = .ok (.iload_n 1, 1) := by decide +kernel
theorem d_J0_charAt_5068e_21 : decode prog_17_method_56_code 21 = .ok (.invokestatic 498, 3) := by decide +kernel
theorem d_J0_charAt_5068e_24 : decode prog_17_method_56_code 24 = .ok (.ireturn, 1) := by decide +kernel
theorem d_J0_indexOf_0f7a4_0 : decode prog_17_method_79_code 0 = .ok (.aload_n 0, 1) := by decide +kernel
theorem d_J0_indexOf_0f7a4_1 : decode prog_17_method_79_code 1 = .ok (.iload_n 1, 1) := by decide +kernel
theorem d_J0_indexOf_0f7a4_2 : decode prog_17_method_79_code 2 = .ok (.iconst 0, 1) := by decide +kernel
theorem d_J0_indexOf_0f7a4_3 : decode prog_17_method_79_code 3 = .ok (.invokevirtual 633, 3) := by decide +kernel
theorem d_J0_indexOf_0f7a4_6 : decode prog_17_method_79_code 6 = .ok (.ireturn, 1) := by decide +kernel
theorem d_J0_indexOf_7cf53_0 : decode prog_17_method_80_code 0 = .ok (.aload_n 0, 1) := by decide +kernel
theorem d_J0_indexOf_7cf53_1 : decode prog_17_method_80_code 1 = .ok (.invokevirtual 492, 3) := by decide +kernel
theorem d_J0_indexOf_7cf53_4 : decode prog_17_method_80_code 4 = .ok (.ifCond .eq 19, 3) := by decide +kernel
theorem d_J0_indexOf_7cf53_7 : decode prog_17_method_80_code 7 = .ok (.aload_n 0, 1) := by decide +kernel
theorem d_J0_indexOf_7cf53_8 : decode prog_17_method_80_code 8 = .ok (.getfield 9, 3) := by decide +kernel
theorem d_J0_indexOf_7cf53_11 : decode prog_17_method_80_code 11 = .ok (.iload_n 1, 1) := by decide +kernel
theorem d_J0_indexOf_7cf53_12 : decode prog_17_method_80_code 12 = .ok (.iload_n 2, 1) := by decide +kernel
theorem d_J0_indexOf_7cf53_13 : decode prog_17_method_80_code 13 = .ok (.aload_n 0, 1) := by decide +kernel
theorem d_J0_indexOf_7cf53_14 : decode prog_17_method_80_code 14 = .ok (.invokevirtual 505, 3) := by decide +kernel
theorem d_J0_indexOf_7cf53_17 : decode prog_17_method_80_code 17 = .ok (.invokestatic 637, 3) := by decide +kernel
theorem d_J0_indexOf_7cf53_20 : decode prog_17_method_80_code 20 = .ok (.goto 16, 3) := by decide +kernel
theorem d_J0_indexOf_7cf53_23 : decode prog_17_method_80_code 23 = .ok (.aload_n 0, 1) := by decide +kernel
theorem d_J0_indexOf_7cf53_24 : decode prog_17_method_80_code 24 = .ok (.getfield 9, 3) := by decide +kernel
theorem d_J0_indexOf_7cf53_27 : decode prog_17_method_80_code 27 = .ok (.iload_n 1, 1) := by decide +kernel
theorem d_J0_indexOf_7cf53_28 : decode prog_17_method_80_code 28 = .ok (.iload_n 2, 1) := by decide +kernel
theorem d_J0_indexOf_7cf53_29 : decode prog_17_method_80_code 29 = .ok (.aload_n 0, 1) := by decide +kernel
theorem d_J0_indexOf_7cf53_30 : decode prog_17_method_80_code 30 = .ok (.invokevirtual 505, 3) := by decide +kernel
theorem d_J0_indexOf_7cf53_33 : decode prog_17_method_80_code 33 = .ok (.invokestatic 640, 3) := by decide +kernel
theorem d_J0_indexOf_7cf53_36 : decode prog_17_method_80_code 36 = .ok (.ireturn, 1) := by decide +kernel
theorem d_J0_coder_7d493_0 : decode prog_17_method_152_code 0 = .ok (.getstatic 38, 3) := by decide +kernel
theorem d_J0_coder_7d493_3 : decode prog_17_method_152_code 3 = .ok (.ifCond .eq 10, 3) := by decide +kernel
theorem d_J0_coder_7d493_6 : decode prog_17_method_152_code 6 = .ok (.aload_n 0, 1) := by decide +kernel
theorem d_J0_coder_7d493_7 : decode prog_17_method_152_code 7 = .ok (.getfield 15, 3) := by decide +kernel
theorem d_J0_coder_7d493_10 : decode prog_17_method_152_code 10 = .ok (.goto 4, 3) := by decide +kernel
theorem d_J0_coder_7d493_13 : decode prog_17_method_152_code 13 = .ok (.iconst 1, 1) := by decide +kernel
theorem d_J0_coder_7d493_14 : decode prog_17_method_152_code 14 = .ok (.ireturn, 1) := by decide +kernel
theorem d_J0_isLatin1_aae02_0 : decode prog_17_method_154_code 0 = .ok (.getstatic 38, 3) := by decide +kernel
theorem d_J0_isLatin1_aae02_3 : decode prog_17_method_154_code 3 = .ok (.ifCond .eq 14, 3) := by decide +kernel
theorem d_J0_isLatin1_aae02_6 : decode prog_17_method_154_code 6 = .ok (.aload_n 0, 1) := by decide +kernel
theorem d_J0_isLatin1_aae02_7 : decode prog_17_method_154_code 7 = .ok (.getfield 15, 3) := by decide +kernel
theorem d_J0_isLatin1_aae02_10 : decode prog_17_method_154_code 10 = .ok (.ifCond .ne 7, 3) := by decide +kernel
theorem d_J0_isLatin1_aae02_13 : decode prog_17_method_154_code 13 = .ok (.iconst 1, 1) := by decide +kernel
theorem d_J0_isLatin1_aae02_14 : decode prog_17_method_154_code 14 = .ok (.goto 4, 3) := by decide +kernel
theorem d_J0_isLatin1_aae02_17 : decode prog_17_method_154_code 17 = .ok (.iconst 0, 1) := by decide +kernel
theorem d_J0_isLatin1_aae02_18 : decode prog_17_method_154_code 18 = .ok (.ireturn, 1) := by decide +kernel
theorem d_J0_checkIndex_df160_0 : decode prog_17_method_155_code 0 = .ok (.iload_n 0, 1) := by decide +kernel
theorem d_J0_checkIndex_df160_1 : decode prog_17_method_155_code 1 = .ok (.iload_n 1, 1) := by decide +kernel
theorem d_J0_checkIndex_df160_2 : decode prog_17_method_155_code 2 = .ok (.getstatic 1053, 3) := by decide +kernel
theorem d_J0_checkIndex_df160_5 : decode prog_17_method_155_code 5 = .ok (.invokestatic 1059, 3) := by decide +kernel
theorem d_J0_checkIndex_df160_8 : decode prog_17_method_155_code 8 = .ok (.pop, 1) := by decide +kernel
theorem d_J0_checkIndex_df160_9 : decode prog_17_method_155_code 9 = .ok (.return_, 1) := by decide +kernel
theorem d_J0_checkBoundsBeginEnd_23922_0 : decode prog_17_method_158_code 0 = .ok (.iload_n 0, 1) := by decide +kernel
theorem d_J0_checkBoundsBeginEnd_23922_1 : decode prog_17_method_158_code 1 = .ok (.iload_n 1, 1) := by decide +kernel
theorem d_J0_checkBoundsBeginEnd_23922_2 : decode prog_17_method_158_code 2 = .ok (.iload_n 2, 1) := by decide +kernel
theorem d_J0_checkBoundsBeginEnd_23922_3 : decode prog_17_method_158_code 3 = .ok (.getstatic 1053, 3) := by decide +kernel
theorem d_J0_checkBoundsBeginEnd_23922_6 : decode prog_17_method_158_code 6 = .ok (.invokestatic 1062, 3) := by decide +kernel
theorem d_J0_checkBoundsBeginEnd_23922_9 : decode prog_17_method_158_code 9 = .ok (.pop, 1) := by decide +kernel
theorem d_J0_checkBoundsBeginEnd_23922_10 : decode prog_17_method_158_code 10 = .ok (.return_, 1) := by decide +kernel
theorem d_J1_charAt_3b067_0 : decode prog_18_method_2_code 0 = .ok (.iload_n 1, 1) := by decide +kernel
theorem d_J1_charAt_3b067_1 : decode prog_18_method_2_code 1 = .ok (.aload_n 0, 1) := by decide +kernel
theorem d_J1_charAt_3b067_2 : decode prog_18_method_2_code 2 = .ok (.arraylength, 1) := by decide +kernel
theorem d_J1_charAt_3b067_3 : decode prog_18_method_2_code 3 = .ok (.invokestatic 9, 3) := by decide +kernel
theorem d_J1_charAt_3b067_6 : decode prog_18_method_2_code 6 = .ok (.aload_n 0, 1) := by decide +kernel
theorem d_J1_charAt_3b067_7 : decode prog_18_method_2_code 7 = .ok (.iload_n 1, 1) := by decide +kernel
theorem d_J1_charAt_3b067_8 : decode prog_18_method_2_code 8 = .ok (.baload, 1) := by decide +kernel
theorem d_J1_charAt_3b067_9 : decode prog_18_method_2_code 9 = .ok (.sipush 255, 3) := by decide +kernel
theorem d_J1_charAt_3b067_12 : decode prog_18_method_2_code 12 = .ok (.iand, 1) := by decide +kernel
theorem d_J1_charAt_3b067_13 : decode prog_18_method_2_code 13 = .ok (.i2c, 1) := by decide +kernel
theorem d_J1_charAt_3b067_14 : decode prog_18_method_2_code 14 = .ok (.ireturn, 1) := by decide +kernel
theorem d_J1_canEncode_9a6ad_0 : decode prog_18_method_4_code 0 = .ok (.iload_n 0, 1) := by decide +kernel
theorem d_J1_canEncode_9a6ad_1 : decode prog_18_method_4_code 1 = .ok (.ifCond .lt 14, 3) := by decide +kernel
theorem d_J1_canEncode_9a6ad_4 : decode prog_18_method_4_code 4 = .ok (.iload_n 0, 1) := by decide +kernel
theorem d_J1_canEncode_9a6ad_5 : decode prog_18_method_4_code 5 = .ok (.sipush 255, 3) := by decide +kernel
theorem d_J1_canEncode_9a6ad_8 : decode prog_18_method_4_code 8 = .ok (.if_icmp .gt 7, 3) := by decide +kernel
theorem d_J1_canEncode_9a6ad_11 : decode prog_18_method_4_code 11 = .ok (.iconst 1, 1) := by decide +kernel
theorem d_J1_canEncode_9a6ad_12 : decode prog_18_method_4_code 12 = .ok (.goto 4, 3) := by decide +kernel
theorem d_J1_canEncode_9a6ad_15 : decode prog_18_method_4_code 15 = .ok (.iconst 0, 1) := by decide +kernel
theorem d_J1_canEncode_9a6ad_16 : decode prog_18_method_4_code 16 = .ok (.ireturn, 1) := by decide +kernel
theorem d_J1_indexOf_4cfef_0 : decode prog_18_method_22_code 0 = .ok (.iload_n 1, 1) := by decide +kernel
theorem d_J1_indexOf_4cfef_1 : decode prog_18_method_22_code 1 = .ok (.invokestatic 88, 3) := by decide +kernel
theorem d_J1_indexOf_4cfef_4 : decode prog_18_method_22_code 4 = .ok (.ifCond .ne 5, 3) := by decide +kernel
theorem d_J1_indexOf_4cfef_7 : decode prog_18_method_22_code 7 = .ok (.iconst (-1), 1) := by decide +kernel
theorem d_J1_indexOf_4cfef_8 : decode prog_18_method_22_code 8 = .ok (.ireturn, 1) := by decide +kernel
theorem d_J1_indexOf_4cfef_9 : decode prog_18_method_22_code 9 = .ok (.iload_n 2, 1) := by decide +kernel
theorem d_J1_indexOf_4cfef_10 : decode prog_18_method_22_code 10 = .ok (.iconst 0, 1) := by decide +kernel
theorem d_J1_indexOf_4cfef_11 : decode prog_18_method_22_code 11 = .ok (.invokestatic 92, 3) := by decide +kernel
theorem d_J1_indexOf_4cfef_14 : decode prog_18_method_22_code 14 = .ok (.istore_n 2, 1) := by decide +kernel
theorem d_J1_indexOf_4cfef_15 : decode prog_18_method_22_code 15 = .ok (.iload_n 3, 1) := by decide +kernel
theorem d_J1_indexOf_4cfef_16 : decode prog_18_method_22_code 16 = .ok (.aload_n 0, 1) := by decide +kernel
theorem d_J1_indexOf_4cfef_17 : decode prog_18_method_22_code 17 = .ok (.arraylength, 1) := by decide +kernel
theorem d_J1_indexOf_4cfef_18 : decode prog_18_method_22_code 18 = .ok (.invokestatic 38, 3) := by decide +kernel
theorem d_J1_indexOf_4cfef_21 : decode prog_18_method_22_code 21 = .ok (.istore_n 3, 1) := by decide +kernel
theorem d_J1_indexOf_4cfef_22 : decode prog_18_method_22_code 22 = .ok (.iload_n 2, 1) := by decide +kernel
theorem d_J1_indexOf_4cfef_23 : decode prog_18_method_22_code 23 = .ok (.iload_n 3, 1) := by decide +kernel
theorem d_J1_indexOf_4cfef_24 : decode prog_18_method_22_code 24 = .ok (.if_icmp .lt 5, 3) := by decide +kernel
theorem d_J1_indexOf_4cfef_27 : decode prog_18_method_22_code 27 = .ok (.iconst (-1), 1) := by decide +kernel
theorem d_J1_indexOf_4cfef_28 : decode prog_18_method_22_code 28 = .ok (.ireturn, 1) := by decide +kernel
theorem d_J1_indexOf_4cfef_29 : decode prog_18_method_22_code 29 = .ok (.aload_n 0, 1) := by decide +kernel
theorem d_J1_indexOf_4cfef_30 : decode prog_18_method_22_code 30 = .ok (.iload_n 1, 1) := by decide +kernel
theorem d_J1_indexOf_4cfef_31 : decode prog_18_method_22_code 31 = .ok (.iload_n 2, 1) := by decide +kernel
theorem d_J1_indexOf_4cfef_32 : decode prog_18_method_22_code 32 = .ok (.iload_n 3, 1) := by decide +kernel
theorem d_J1_indexOf_4cfef_33 : decode prog_18_method_22_code 33 = .ok (.invokestatic 95, 3) := by decide +kernel
theorem d_J1_indexOf_4cfef_36 : decode prog_18_method_22_code 36 = .ok (.ireturn, 1) := by decide +kernel
theorem d_J1_indexOfChar_4cfef_0 : decode prog_18_method_23_code 0 = .ok (.iload_n 1, 1) := by decide +kernel
theorem d_J1_indexOfChar_4cfef_1 : decode prog_18_method_23_code 1 = .ok (.i2b, 1) := by decide +kernel
theorem d_J1_indexOfChar_4cfef_2 : decode prog_18_method_23_code 2 = .ok (.istore 4, 2) := by decide +kernel
theorem d_J1_indexOfChar_4cfef_4 : decode prog_18_method_23_code 4 = .ok (.iload_n 2, 1) := by decide +kernel
theorem d_J1_indexOfChar_4cfef_5 : decode prog_18_method_23_code 5 = .ok (.istore 5, 2) := by decide +kernel
theorem d_J1_indexOfChar_4cfef_7 : decode prog_18_method_23_code 7 = .ok (.iload 5, 2) := by decide +kernel
theorem d_J1_indexOfChar_4cfef_9 : decode prog_18_method_23_code 9 = .ok (.iload_n 3, 1) := by decide +kernel
theorem d_J1_indexOfChar_4cfef_10 : decode prog_18_method_23_code 10 = .ok (.if_icmp .ge 21, 3) := by decide +kernel
theorem d_J1_indexOfChar_4cfef_13 : decode prog_18_method_23_code 13 = .ok (.aload_n 0, 1) := by decide +kernel
theorem d_J1_indexOfChar_4cfef_14 : decode prog_18_method_23_code 14 = .ok (.iload 5, 2) := by decide +kernel
theorem d_J1_indexOfChar_4cfef_16 : decode prog_18_method_23_code 16 = .ok (.baload, 1) := by decide +kernel
theorem d_J1_indexOfChar_4cfef_17 : decode prog_18_method_23_code 17 = .ok (.iload 4, 2) := by decide +kernel
theorem d_J1_indexOfChar_4cfef_19 : decode prog_18_method_23_code 19 = .ok (.if_icmp .ne 6, 3) := by decide +kernel
theorem d_J1_indexOfChar_4cfef_22 : decode prog_18_method_23_code 22 = .ok (.iload 5, 2) := by decide +kernel
theorem d_J1_indexOfChar_4cfef_24 : decode prog_18_method_23_code 24 = .ok (.ireturn, 1) := by decide +kernel
theorem d_J1_indexOfChar_4cfef_25 : decode prog_18_method_23_code 25 = .ok (.iinc 5 1, 3) := by decide +kernel
theorem d_J1_indexOfChar_4cfef_28 : decode prog_18_method_23_code 28 = .ok (.goto (-21), 3) := by decide +kernel
theorem d_J1_indexOfChar_4cfef_31 : decode prog_18_method_23_code 31 = .ok (.iconst (-1), 1) := by decide +kernel
theorem d_J1_indexOfChar_4cfef_32 : decode prog_18_method_23_code 32 = .ok (.ireturn, 1) := by decide +kernel
theorem d_J2_getChar_3b067_0 : decode prog_19_method_5_code 0 = .ok (.getstatic 44, 3) := by decide +kernel
theorem d_J2_getChar_3b067_3 : decode prog_19_method_5_code 3 = .ok (.ifCond .ne 25, 3) := by decide +kernel
theorem d_J2_getChar_3b067_6 : decode prog_19_method_5_code 6 = .ok (.iload_n 1, 1) := by decide +kernel
theorem d_J2_getChar_3b067_7 : decode prog_19_method_5_code 7 = .ok (.ifCond .lt 11, 3) := by decide +kernel
theorem d_J2_getChar_3b067_10 : decode prog_19_method_5_code 10 = .ok (.iload_n 1, 1) := by decide +kernel
theorem d_J2_getChar_3b067_11 : decode prog_19_method_5_code 11 = .ok (.aload_n 0, 1) := by decide +kernel
theorem d_J2_getChar_3b067_12 : decode prog_19_method_5_code 12 = .ok (.invokestatic 48, 3) := by decide +kernel
theorem d_J2_getChar_3b067_15 : decode prog_19_method_5_code 15 = .ok (.if_icmp .lt 13, 3) := by decide +kernel
theorem d_J2_getChar_3b067_18 : decode prog_19_method_5_code 18 = .ok (.new 52, 3) := by decide +kernel
theorem d_J2_getChar_3b067_21 : decode prog_19_method_5_code 21 = .ok (.dup, 1) := by decide +kernel
theorem d_J2_getChar_3b067_22 : decode prog_19_method_5_code 22 = .ok (.ldc 54, 2) := by decide +kernel
theorem d_J2_getChar_3b067_24 : decode prog_19_method_5_code 24 = .ok (.invokespecial 56, 3) := by decide +kernel
theorem d_J2_getChar_3b067_27 : decode prog_19_method_5_code 27 = .ok (.athrow, 1) := by decide +kernel
theorem d_J2_getChar_3b067_28 : decode prog_19_method_5_code 28 = .ok (.iload_n 1, 1) := by decide +kernel
theorem d_J2_getChar_3b067_29 : decode prog_19_method_5_code 29 = .ok (.iconst 1, 1) := by decide +kernel
theorem d_J2_getChar_3b067_30 : decode prog_19_method_5_code 30 = .ok (.ishl, 1) := by decide +kernel
theorem d_J2_getChar_3b067_31 : decode prog_19_method_5_code 31 = .ok (.istore_n 1, 1) := by decide +kernel
theorem d_J2_getChar_3b067_32 : decode prog_19_method_5_code 32 = .ok (.aload_n 0, 1) := by decide +kernel
theorem d_J2_getChar_3b067_33 : decode prog_19_method_5_code 33 = .ok (.iload_n 1, 1) := by decide +kernel
theorem d_J2_getChar_3b067_34 : decode prog_19_method_5_code 34 = .ok (.iinc 1 1, 3) := by decide +kernel
theorem d_J2_getChar_3b067_37 : decode prog_19_method_5_code 37 = .ok (.baload, 1) := by decide +kernel
theorem d_J2_getChar_3b067_38 : decode prog_19_method_5_code 38 = .ok (.sipush 255, 3) := by decide +kernel
theorem d_J2_getChar_3b067_41 : decode prog_19_method_5_code 41 = .ok (.iand, 1) := by decide +kernel
theorem d_J2_getChar_3b067_42 : decode prog_19_method_5_code 42 = .ok (.getstatic 59, 3) := by decide +kernel
theorem d_J2_getChar_3b067_45 : decode prog_19_method_5_code 45 = .ok (.ishl, 1) := by decide +kernel
theorem d_J2_getChar_3b067_46 : decode prog_19_method_5_code 46 = .ok (.aload_n 0, 1) := by decide +kernel
theorem d_J2_getChar_3b067_47 : decode prog_19_method_5_code 47 = .ok (.iload_n 1, 1) := by decide +kernel
theorem d_J2_getChar_3b067_48 : decode prog_19_method_5_code 48 = .ok (.baload, 1) := by decide +kernel
theorem d_J2_getChar_3b067_49 : decode prog_19_method_5_code 49 = .ok (.sipush 255, 3) := by decide +kernel
theorem d_J2_getChar_3b067_52 : decode prog_19_method_5_code 52 = .ok (.iand, 1) := by decide +kernel
theorem d_J2_getChar_3b067_53 : decode prog_19_method_5_code 53 = .ok (.getstatic 63, 3) := by decide +kernel
theorem d_J2_getChar_3b067_56 : decode prog_19_method_5_code 56 = .ok (.ishl, 1) := by decide +kernel
theorem d_J2_getChar_3b067_57 : decode prog_19_method_5_code 57 = .ok (.ior, 1) := by decide +kernel
theorem d_J2_getChar_3b067_58 : decode prog_19_method_5_code 58 = .ok (.i2c, 1) := by decide +kernel
theorem d_J2_getChar_3b067_59 : decode prog_19_method_5_code 59 = .ok (.ireturn, 1) := by decide +kernel
theorem d_J2_length_9d52b_0 : decode prog_19_method_6_code 0 = .ok (.aload_n 0, 1) := by decide +kernel
theorem d_J2_length_9d52b_1 : decode prog_19_method_6_code 1 = .ok (.arraylength, 1) := by decide +kernel
theorem d_J2_length_9d52b_2 : decode prog_19_method_6_code 2 = .ok (.iconst 1, 1) := by decide +kernel
theorem d_J2_length_9d52b_3 : decode prog_19_method_6_code 3 = .ok (.ishr, 1) := by decide +kernel
theorem d_J2_length_9d52b_4 : decode prog_19_method_6_code 4 = .ok (.ireturn, 1) := by decide +kernel
theorem d_J2_indexOf_4cfef_0 : decode prog_19_method_40_code 0 = .ok (.iload_n 2, 1) := by decide +kernel
theorem d_J2_indexOf_4cfef_1 : decode prog_19_method_40_code 1 = .ok (.iconst 0, 1) := by decide +kernel
theorem d_J2_indexOf_4cfef_2 : decode prog_19_method_40_code 2 = .ok (.invokestatic 224, 3) := by decide +kernel
theorem d_J2_indexOf_4cfef_5 : decode prog_19_method_40_code 5 = .ok (.istore_n 2, 1) := by decide +kernel
theorem d_J2_indexOf_4cfef_6 : decode prog_19_method_40_code 6 = .ok (.iload_n 3, 1) := by decide +kernel
theorem d_J2_indexOf_4cfef_7 : decode prog_19_method_40_code 7 = .ok (.aload_n 0, 1) := by decide +kernel
theorem d_J2_indexOf_4cfef_8 : decode prog_19_method_40_code 8 = .ok (.arraylength, 1) := by decide +kernel
theorem d_J2_indexOf_4cfef_9 : decode prog_19_method_40_code 9 = .ok (.iconst 1, 1) := by decide +kernel
theorem d_J2_indexOf_4cfef_10 : decode prog_19_method_40_code 10 = .ok (.ishr, 1) := by decide +kernel
theorem d_J2_indexOf_4cfef_11 : decode prog_19_method_40_code 11 = .ok (.invokestatic 183, 3) := by decide +kernel
theorem d_J2_indexOf_4cfef_14 : decode prog_19_method_40_code 14 = .ok (.istore_n 3, 1) := by decide +kernel
theorem d_J2_indexOf_4cfef_15 : decode prog_19_method_40_code 15 = .ok (.iload_n 2, 1) := by decide +kernel
theorem d_J2_indexOf_4cfef_16 : decode prog_19_method_40_code 16 = .ok (.iload_n 3, 1) := by decide +kernel
theorem d_J2_indexOf_4cfef_17 : decode prog_19_method_40_code 17 = .ok (.if_icmp .lt 5, 3) := by decide +kernel
theorem d_J2_indexOf_4cfef_20 : decode prog_19_method_40_code 20 = .ok (.iconst (-1), 1) := by decide +kernel
theorem d_J2_indexOf_4cfef_21 : decode prog_19_method_40_code 21 = .ok (.ireturn, 1) := by decide +kernel
theorem d_J2_indexOf_4cfef_22 : decode prog_19_method_40_code 22 = .ok (.iload_n 1, 1) := by decide +kernel
theorem d_J2_indexOf_4cfef_23 : decode prog_19_method_40_code 23 = .ok (.ldc 227, 2) := by decide +kernel
theorem d_J2_indexOf_4cfef_25 : decode prog_19_method_40_code 25 = .ok (.if_icmp .ge 11, 3) := by decide +kernel
theorem d_J2_indexOf_4cfef_28 : decode prog_19_method_40_code 28 = .ok (.aload_n 0, 1) := by decide +kernel
theorem d_J2_indexOf_4cfef_29 : decode prog_19_method_40_code 29 = .ok (.iload_n 1, 1) := by decide +kernel
theorem d_J2_indexOf_4cfef_30 : decode prog_19_method_40_code 30 = .ok (.iload_n 2, 1) := by decide +kernel
theorem d_J2_indexOf_4cfef_31 : decode prog_19_method_40_code 31 = .ok (.iload_n 3, 1) := by decide +kernel
theorem d_J2_indexOf_4cfef_32 : decode prog_19_method_40_code 32 = .ok (.invokestatic 228, 3) := by decide +kernel
theorem d_J2_indexOf_4cfef_35 : decode prog_19_method_40_code 35 = .ok (.ireturn, 1) := by decide +kernel
theorem d_J2_indexOf_4cfef_36 : decode prog_19_method_40_code 36 = .ok (.aload_n 0, 1) := by decide +kernel
theorem d_J2_indexOf_4cfef_37 : decode prog_19_method_40_code 37 = .ok (.iload_n 1, 1) := by decide +kernel
theorem d_J2_indexOf_4cfef_38 : decode prog_19_method_40_code 38 = .ok (.iload_n 2, 1) := by decide +kernel
theorem d_J2_indexOf_4cfef_39 : decode prog_19_method_40_code 39 = .ok (.iload_n 3, 1) := by decide +kernel
theorem d_J2_indexOf_4cfef_40 : decode prog_19_method_40_code 40 = .ok (.invokestatic 232, 3) := by decide +kernel
theorem d_J2_indexOf_4cfef_43 : decode prog_19_method_40_code 43 = .ok (.ireturn, 1) := by decide +kernel
theorem d_J2_indexOfChar_4cfef_0 : decode prog_19_method_47_code 0 = .ok (.iload_n 2, 1) := by decide +kernel
theorem d_J2_indexOfChar_4cfef_1 : decode prog_19_method_47_code 1 = .ok (.iload_n 3, 1) := by decide +kernel
theorem d_J2_indexOfChar_4cfef_2 : decode prog_19_method_47_code 2 = .ok (.aload_n 0, 1) := by decide +kernel
theorem d_J2_indexOfChar_4cfef_3 : decode prog_19_method_47_code 3 = .ok (.invokestatic 96, 3) := by decide +kernel
theorem d_J2_indexOfChar_4cfef_6 : decode prog_19_method_47_code 6 = .ok (.aload_n 0, 1) := by decide +kernel
theorem d_J2_indexOfChar_4cfef_7 : decode prog_19_method_47_code 7 = .ok (.iload_n 1, 1) := by decide +kernel
theorem d_J2_indexOfChar_4cfef_8 : decode prog_19_method_47_code 8 = .ok (.iload_n 2, 1) := by decide +kernel
theorem d_J2_indexOfChar_4cfef_9 : decode prog_19_method_47_code 9 = .ok (.iload_n 3, 1) := by decide +kernel
theorem d_J2_indexOfChar_4cfef_10 : decode prog_19_method_47_code 10 = .ok (.invokestatic 244, 3) := by decide +kernel
theorem d_J2_indexOfChar_4cfef_13 : decode prog_19_method_47_code 13 = .ok (.ireturn, 1) := by decide +kernel
theorem d_J2_indexOfCharUnsafe_4cfef_0 : decode prog_19_method_48_code 0 = .ok (.iload_n 2, 1) := by decide +kernel
theorem d_J2_indexOfCharUnsafe_4cfef_1 : decode prog_19_method_48_code 1 = .ok (.istore 4, 2) := by decide +kernel
theorem d_J2_indexOfCharUnsafe_4cfef_3 : decode prog_19_method_48_code 3 = .ok (.iload 4, 2) := by decide +kernel
theorem d_J2_indexOfCharUnsafe_4cfef_5 : decode prog_19_method_48_code 5 = .ok (.iload_n 3, 1) := by decide +kernel
theorem d_J2_indexOfCharUnsafe_4cfef_6 : decode prog_19_method_48_code 6 = .ok (.if_icmp .ge 22, 3) := by decide +kernel
theorem d_J2_indexOfCharUnsafe_4cfef_9 : decode prog_19_method_48_code 9 = .ok (.aload_n 0, 1) := by decide +kernel
theorem d_J2_indexOfCharUnsafe_4cfef_10 : decode prog_19_method_48_code 10 = .ok (.iload 4, 2) := by decide +kernel
theorem d_J2_indexOfCharUnsafe_4cfef_12 : decode prog_19_method_48_code 12 = .ok (.invokestatic 71, 3) := by decide +kernel
theorem d_J2_indexOfCharUnsafe_4cfef_15 : decode prog_19_method_48_code 15 = .ok (.iload_n 1, 1) := by decide +kernel
theorem d_J2_indexOfCharUnsafe_4cfef_16 : decode prog_19_method_48_code 16 = .ok (.if_icmp .ne 6, 3) := by decide +kernel
theorem d_J2_indexOfCharUnsafe_4cfef_19 : decode prog_19_method_48_code 19 = .ok (.iload 4, 2) := by decide +kernel
theorem d_J2_indexOfCharUnsafe_4cfef_21 : decode prog_19_method_48_code 21 = .ok (.ireturn, 1) := by decide +kernel
theorem d_J2_indexOfCharUnsafe_4cfef_22 : decode prog_19_method_48_code 22 = .ok (.iinc 4 1, 3) := by decide +kernel
theorem d_J2_indexOfCharUnsafe_4cfef_25 : decode prog_19_method_48_code 25 = .ok (.goto (-22), 3) := by decide +kernel
theorem d_J2_indexOfCharUnsafe_4cfef_28 : decode prog_19_method_48_code 28 = .ok (.iconst (-1), 1) := by decide +kernel
theorem d_J2_indexOfCharUnsafe_4cfef_29 : decode prog_19_method_48_code 29 = .ok (.ireturn, 1) := by decide +kernel
theorem d_J2_indexOfSupplementary_4cfef_0 : decode prog_19_method_49_code 0 = .ok (.iload_n 1, 1) := by decide +kernel
theorem d_J2_indexOfSupplementary_4cfef_1 : decode prog_19_method_49_code 1 = .ok (.invokestatic 164, 3) := by decide +kernel
theorem d_J2_indexOfSupplementary_4cfef_4 : decode prog_19_method_49_code 4 = .ok (.ifCond .eq 65, 3) := by decide +kernel
theorem d_J2_indexOfSupplementary_4cfef_7 : decode prog_19_method_49_code 7 = .ok (.iload_n 1, 1) := by decide +kernel
theorem d_J2_indexOfSupplementary_4cfef_8 : decode prog_19_method_49_code 8 = .ok (.invokestatic 157, 3) := by decide +kernel
theorem d_J2_indexOfSupplementary_4cfef_11 : decode prog_19_method_49_code 11 = .ok (.istore 4, 2) := by decide +kernel
theorem d_J2_indexOfSupplementary_4cfef_13 : decode prog_19_method_49_code 13 = .ok (.iload_n 1, 1) := by decide +kernel
theorem d_J2_indexOfSupplementary_4cfef_14 : decode prog_19_method_49_code 14 = .ok (.invokestatic 161, 3) := by decide +kernel
theorem d_J2_indexOfSupplementary_4cfef_17 : decode prog_19_method_49_code 17 = .ok (.istore 5, 2) := by decide +kernel
theorem d_J2_indexOfSupplementary_4cfef_19 : decode prog_19_method_49_code 19 = .ok (.iload_n 2, 1) := by decide +kernel
theorem d_J2_indexOfSupplementary_4cfef_20 : decode prog_19_method_49_code 20 = .ok (.iload_n 3, 1) := by decide +kernel
theorem d_J2_indexOfSupplementary_4cfef_21 : decode prog_19_method_49_code 21 = .ok (.aload_n 0, 1) := by decide +kernel
theorem d_J2_indexOfSupplementary_4cfef_22 : decode prog_19_method_49_code 22 = .ok (.invokestatic 96, 3) := by decide +kernel
theorem d_J2_indexOfSupplementary_4cfef_25 : decode prog_19_method_49_code 25 = .ok (.iload_n 2, 1) := by decide +kernel
theorem d_J2_indexOfSupplementary_4cfef_26 : decode prog_19_method_49_code 26 = .ok (.istore 6, 2) := by decide +kernel
theorem d_J2_indexOfSupplementary_4cfef_28 : decode prog_19_method_49_code 28 = .ok (.iload 6, 2) := by decide +kernel
theorem d_J2_indexOfSupplementary_4cfef_30 : decode prog_19_method_49_code 30 = .ok (.iload_n 3, 1) := by decide +kernel
theorem d_J2_indexOfSupplementary_4cfef_31 : decode prog_19_method_49_code 31 = .ok (.iconst 1, 1) := by decide +kernel
theorem d_J2_indexOfSupplementary_4cfef_32 : decode prog_19_method_49_code 32 = .ok (.isub, 1) := by decide +kernel
theorem d_J2_indexOfSupplementary_4cfef_33 : decode prog_19_method_49_code 33 = .ok (.if_icmp .ge 36, 3) := by decide +kernel
theorem d_J2_indexOfSupplementary_4cfef_36 : decode prog_19_method_49_code 36 = .ok (.aload_n 0, 1) := by decide +kernel
theorem d_J2_indexOfSupplementary_4cfef_37 : decode prog_19_method_49_code 37 = .ok (.iload 6, 2) := by decide +kernel
theorem d_J2_indexOfSupplementary_4cfef_39 : decode prog_19_method_49_code 39 = .ok (.invokestatic 71, 3) := by decide +kernel
theorem d_J2_indexOfSupplementary_4cfef_42 : decode prog_19_method_49_code 42 = .ok (.iload 4, 2) := by decide +kernel
theorem d_J2_indexOfSupplementary_4cfef_44 : decode prog_19_method_49_code 44 = .ok (.if_icmp .ne 19, 3) := by decide +kernel
theorem d_J2_indexOfSupplementary_4cfef_47 : decode prog_19_method_49_code 47 = .ok (.aload_n 0, 1) := by decide +kernel
theorem d_J2_indexOfSupplementary_4cfef_48 : decode prog_19_method_49_code 48 = .ok (.iload 6, 2) := by decide +kernel
theorem d_J2_indexOfSupplementary_4cfef_50 : decode prog_19_method_49_code 50 = .ok (.iconst 1, 1) := by decide +kernel
theorem d_J2_indexOfSupplementary_4cfef_51 : decode prog_19_method_49_code 51 = .ok (.iadd, 1) := by decide +kernel
theorem d_J2_indexOfSupplementary_4cfef_52 : decode prog_19_method_49_code 52 = .ok (.invokestatic 71, 3) := by decide +kernel
theorem d_J2_indexOfSupplementary_4cfef_55 : decode prog_19_method_49_code 55 = .ok (.iload 5, 2) := by decide +kernel
theorem d_J2_indexOfSupplementary_4cfef_57 : decode prog_19_method_49_code 57 = .ok (.if_icmp .ne 6, 3) := by decide +kernel
theorem d_J2_indexOfSupplementary_4cfef_60 : decode prog_19_method_49_code 60 = .ok (.iload 6, 2) := by decide +kernel
theorem d_J2_indexOfSupplementary_4cfef_62 : decode prog_19_method_49_code 62 = .ok (.ireturn, 1) := by decide +kernel
theorem d_J2_indexOfSupplementary_4cfef_63 : decode prog_19_method_49_code 63 = .ok (.iinc 6 1, 3) := by decide +kernel
theorem d_J2_indexOfSupplementary_4cfef_66 : decode prog_19_method_49_code 66 = .ok (.goto (-38), 3) := by decide +kernel
theorem d_J2_indexOfSupplementary_4cfef_69 : decode prog_19_method_49_code 69 = .ok (.iconst (-1), 1) := by decide +kernel
theorem d_J2_indexOfSupplementary_4cfef_70 : decode prog_19_method_49_code 70 = .ok (.ireturn, 1) := by decide +kernel
theorem d_J2_charAt_3b067_0 : decode prog_19_method_83_code 0 = .ok (.iload_n 1, 1) := by decide +kernel
theorem d_J2_charAt_3b067_1 : decode prog_19_method_83_code 1 = .ok (.aload_n 0, 1) := by decide +kernel
theorem d_J2_charAt_3b067_2 : decode prog_19_method_83_code 2 = .ok (.invokestatic 67, 3) := by decide +kernel
theorem d_J2_charAt_3b067_5 : decode prog_19_method_83_code 5 = .ok (.aload_n 0, 1) := by decide +kernel
theorem d_J2_charAt_3b067_6 : decode prog_19_method_83_code 6 = .ok (.iload_n 1, 1) := by decide +kernel
theorem d_J2_charAt_3b067_7 : decode prog_19_method_83_code 7 = .ok (.invokestatic 71, 3) := by decide +kernel
theorem d_J2_charAt_3b067_10 : decode prog_19_method_83_code 10 = .ok (.ireturn, 1) := by decide +kernel
theorem d_J2_checkIndex_2214a_0 : decode prog_19_method_91_code 0 = .ok (.iload_n 0, 1) := by decide +kernel
theorem d_J2_checkIndex_2214a_1 : decode prog_19_method_91_code 1 = .ok (.aload_n 1, 1) := by decide +kernel
theorem d_J2_checkIndex_2214a_2 : decode prog_19_method_91_code 2 = .ok (.invokestatic 48, 3) := by decide +kernel
theorem d_J2_checkIndex_2214a_5 : decode prog_19_method_91_code 5 = .ok (.invokestatic 414, 3) := by decide +kernel
theorem d_J2_checkIndex_2214a_8 : decode prog_19_method_91_code 8 = .ok (.return_, 1) := by decide +kernel
theorem d_J2_checkBoundsBeginEnd_d044e_0 : decode prog_19_method_93_code 0 = .ok (.iload_n 0, 1) := by decide +kernel
theorem d_J2_checkBoundsBeginEnd_d044e_1 : decode prog_19_method_93_code 1 = .ok (.iload_n 1, 1) := by decide +kernel
theorem d_J2_checkBoundsBeginEnd_d044e_2 : decode prog_19_method_93_code 2 = .ok (.aload_n 2, 1) := by decide +kernel
theorem d_J2_checkBoundsBeginEnd_d044e_3 : decode prog_19_method_93_code 3 = .ok (.invokestatic 48, 3) := by decide +kernel
theorem d_J2_checkBoundsBeginEnd_d044e_6 : decode prog_19_method_93_code 6 = .ok (.invokestatic 241, 3) := by decide +kernel
theorem d_J2_checkBoundsBeginEnd_d044e_9 : decode prog_19_method_93_code 9 = .ok (.return_, 1) := by decide +kernel
theorem d_J7_fill_d0a16_0 : decode prog_21_method_101_code 0 = .ok (.iconst 0, 1) := by decide +kernel
theorem d_J7_fill_d0a16_1 : decode prog_21_method_101_code 1 = .ok (.istore_n 3, 1) := by decide +kernel
theorem d_J7_fill_d0a16_2 : decode prog_21_method_101_code 2 = .ok (.aload_n 0, 1) := by decide +kernel
theorem d_J7_fill_d0a16_3 : decode prog_21_method_101_code 3 = .ok (.arraylength, 1) := by decide +kernel
theorem d_J7_fill_d0a16_4 : decode prog_21_method_101_code 4 = .ok (.istore 4, 2) := by decide +kernel
theorem d_J7_fill_d0a16_6 : decode prog_21_method_101_code 6 = .ok (.iload_n 3, 1) := by decide +kernel
theorem d_J7_fill_d0a16_7 : decode prog_21_method_101_code 7 = .ok (.iload 4, 2) := by decide +kernel
theorem d_J7_fill_d0a16_9 : decode prog_21_method_101_code 9 = .ok (.if_icmp .ge 13, 3) := by decide +kernel
theorem d_J7_fill_d0a16_12 : decode prog_21_method_101_code 12 = .ok (.aload_n 0, 1) := by decide +kernel
theorem d_J7_fill_d0a16_13 : decode prog_21_method_101_code 13 = .ok (.iload_n 3, 1) := by decide +kernel
theorem d_J7_fill_d0a16_14 : decode prog_21_method_101_code 14 = .ok (.lload_n 1, 1) := by decide +kernel
theorem d_J7_fill_d0a16_15 : decode prog_21_method_101_code 15 = .ok (.lastore, 1) := by decide +kernel
theorem d_J7_fill_d0a16_16 : decode prog_21_method_101_code 16 = .ok (.iinc 3 1, 3) := by decide +kernel
theorem d_J7_fill_d0a16_19 : decode prog_21_method_101_code 19 = .ok (.goto (-13), 3) := by decide +kernel
theorem d_J7_fill_d0a16_22 : decode prog_21_method_101_code 22 = .ok (.return_, 1) := by decide +kernel
theorem d_J7_copyOf_59c91_0 : decode prog_21_method_123_code 0 = .ok (.iload_n 1, 1) := by decide +kernel
theorem d_J7_copyOf_59c91_1 : decode prog_21_method_123_code 1 = .ok (.aload_n 0, 1) := by decide +kernel
theorem d_J7_copyOf_59c91_2 : decode prog_21_method_123_code 2 = .ok (.arraylength, 1) := by decide +kernel
theorem d_J7_copyOf_59c91_3 : decode prog_21_method_123_code 3 = .ok (.if_icmp .ne 11, 3) := by decide +kernel
theorem d_J7_copyOf_59c91_6 : decode prog_21_method_123_code 6 = .ok (.aload_n 0, 1) := by decide +kernel
theorem d_J7_copyOf_59c91_7 : decode prog_21_method_123_code 7 = .ok (.invokevirtual 316, 3) := by decide +kernel
theorem d_J7_copyOf_59c91_10 : decode prog_21_method_123_code 10 = .ok (.checkcast 317, 3) := by decide +kernel
theorem d_J7_copyOf_59c91_13 : decode prog_21_method_123_code 13 = .ok (.areturn, 1) := by decide +kernel
theorem d_J7_copyOf_59c91_14 : decode prog_21_method_123_code 14 = .ok (.iload_n 1, 1) := by decide +kernel
theorem d_J7_copyOf_59c91_15 : decode prog_21_method_123_code 15 = .ok (.newarray .int, 2) := by decide +kernel
theorem d_J7_copyOf_59c91_17 : decode prog_21_method_123_code 17 = .ok (.astore_n 2, 1) := by decide +kernel
theorem d_J7_copyOf_59c91_18 : decode prog_21_method_123_code 18 = .ok (.aload_n 0, 1) := by decide +kernel
theorem d_J7_copyOf_59c91_19 : decode prog_21_method_123_code 19 = .ok (.iconst 0, 1) := by decide +kernel
theorem d_J7_copyOf_59c91_20 : decode prog_21_method_123_code 20 = .ok (.aload_n 2, 1) := by decide +kernel
theorem d_J7_copyOf_59c91_21 : decode prog_21_method_123_code 21 = .ok (.iconst 0, 1) := by decide +kernel
theorem d_J7_copyOf_59c91_22 : decode prog_21_method_123_code 22 = .ok (.aload_n 0, 1) := by decide +kernel
theorem d_J7_copyOf_59c91_23 : decode prog_21_method_123_code 23 = .ok (.arraylength, 1) := by decide +kernel
theorem d_J7_copyOf_59c91_24 : decode prog_21_method_123_code 24 = .ok (.iload_n 1, 1) := by decide +kernel
theorem d_J7_copyOf_59c91_25 : decode prog_21_method_123_code 25 = .ok (.invokestatic 304, 3) := by decide +kernel
theorem d_J7_copyOf_59c91_28 : decode prog_21_method_123_code 28 = .ok (.invokestatic 150, 3) := by decide +kernel
theorem d_J7_copyOf_59c91_31 : decode prog_21_method_123_code 31 = .ok (.aload_n 2, 1) := by decide +kernel
theorem d_J7_copyOf_59c91_32 : decode prog_21_method_123_code 32 = .ok (.areturn, 1) := by decide +kernel
theorem d_J3_checkIndex_8e157_0 : decode prog_22_method_11_code 0 = .ok (.iload_n 0, 1) := by decide +kernel
theorem d_J3_checkIndex_8e157_1 : decode prog_22_method_11_code 1 = .ok (.ifCond .lt 8, 3) := by decide +kernel
theorem d_J3_checkIndex_8e157_4 : decode prog_22_method_11_code 4 = .ok (.iload_n 0, 1) := by decide +kernel
theorem d_J3_checkIndex_8e157_5 : decode prog_22_method_11_code 5 = .ok (.iload_n 1, 1) := by decide +kernel
theorem d_J3_checkIndex_8e157_6 : decode prog_22_method_11_code 6 = .ok (.if_icmp .lt 10, 3) := by decide +kernel
theorem d_J3_checkIndex_8e157_9 : decode prog_22_method_11_code 9 = .ok (.aload_n 2, 1) := by decide +kernel
theorem d_J3_checkIndex_8e157_10 : decode prog_22_method_11_code 10 = .ok (.iload_n 0, 1) := by decide +kernel
theorem d_J3_checkIndex_8e157_11 : decode prog_22_method_11_code 11 = .ok (.iload_n 1, 1) := by decide +kernel
theorem d_J3_checkIndex_8e157_12 : decode prog_22_method_11_code 12 = .ok (.invokestatic 95, 3) := by decide +kernel
theorem d_J3_checkIndex_8e157_15 : decode prog_22_method_11_code 15 = .ok (.athrow, 1) := by decide +kernel
theorem d_J3_checkIndex_8e157_16 : decode prog_22_method_11_code 16 = .ok (.iload_n 0, 1) := by decide +kernel
theorem d_J3_checkIndex_8e157_17 : decode prog_22_method_11_code 17 = .ok (.ireturn, 1) := by decide +kernel
theorem d_J3_checkFromToIndex_8c36e_0 : decode prog_22_method_12_code 0 = .ok (.iload_n 0, 1) := by decide +kernel
theorem d_J3_checkFromToIndex_8c36e_1 : decode prog_22_method_12_code 1 = .ok (.ifCond .lt 13, 3) := by decide +kernel
theorem d_J3_checkFromToIndex_8c36e_4 : decode prog_22_method_12_code 4 = .ok (.iload_n 0, 1) := by decide +kernel
theorem d_J3_checkFromToIndex_8c36e_5 : decode prog_22_method_12_code 5 = .ok (.iload_n 1, 1) := by decide +kernel
theorem d_J3_checkFromToIndex_8c36e_6 : decode prog_22_method_12_code 6 = .ok (.if_icmp .gt 8, 3) := by decide +kernel
theorem d_J3_checkFromToIndex_8c36e_9 : decode prog_22_method_12_code 9 = .ok (.iload_n 1, 1) := by decide +kernel
theorem d_J3_checkFromToIndex_8c36e_10 : decode prog_22_method_12_code 10 = .ok (.iload_n 2, 1) := by decide +kernel
theorem d_J3_checkFromToIndex_8c36e_11 : decode prog_22_method_12_code 11 = .ok (.if_icmp .le 11, 3) := by decide +kernel
theorem d_J3_checkFromToIndex_8c36e_14 : decode prog_22_method_12_code 14 = .ok (.aload_n 3, 1) := by decide +kernel
theorem d_J3_checkFromToIndex_8c36e_15 : decode prog_22_method_12_code 15 = .ok (.iload_n 0, 1) := by decide +kernel
theorem d_J3_checkFromToIndex_8c36e_16 : decode prog_22_method_12_code 16 = .ok (.iload_n 1, 1) := by decide +kernel
theorem d_J3_checkFromToIndex_8c36e_17 : decode prog_22_method_12_code 17 = .ok (.iload_n 2, 1) := by decide +kernel
theorem d_J3_checkFromToIndex_8c36e_18 : decode prog_22_method_12_code 18 = .ok (.invokestatic 99, 3) := by decide +kernel
theorem d_J3_checkFromToIndex_8c36e_21 : decode prog_22_method_12_code 21 = .ok (.athrow, 1) := by decide +kernel
theorem d_J3_checkFromToIndex_8c36e_22 : decode prog_22_method_12_code 22 = .ok (.iload_n 0, 1) := by decide +kernel
theorem d_J3_checkFromToIndex_8c36e_23 : decode prog_22_method_12_code 23 = .ok (.ireturn, 1) := by decide +kernel
