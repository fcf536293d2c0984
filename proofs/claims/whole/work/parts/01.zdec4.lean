theorem d_X11_come_0 : decode prog_13_method_19_code 0 = .ok (.iload_n 1, 1) := by decide +kernel
theorem d_X11_come_1 : decode prog_13_method_19_code 1 = .ok (.i2l, 1) := by decide +kernel
theorem d_X11_come_2 : decode prog_13_method_19_code 2 = .ok (.lconst 1, 1) := by decide +kernel
theorem d_X11_come_3 : decode prog_13_method_19_code 3 = .ok (.ldc2_w 172, 3) := by decide +kernel
theorem d_X11_come_6 : decode prog_13_method_19_code 6 = .ok (.invokestatic 165, 3) := by decide +kernel
theorem d_X11_come_9 : decode prog_13_method_19_code 9 = .ok (.ifCond .eq 53, 3) := by decide +kernel
theorem d_X11_come_12 : decode prog_13_method_19_code 12 = .ok (.iload_n 2, 1) := by decide +kernel
theorem d_X11_come_13 : decode prog_13_method_19_code 13 = .ok (.i2l, 1) := by decide +kernel
theorem d_X11_come_14 : decode prog_13_method_19_code 14 = .ok (.lconst 1, 1) := by decide +kernel
theorem d_X11_come_15 : decode prog_13_method_19_code 15 = .ok (.ldc2_w 172, 3) := by decide +kernel
theorem d_X11_come_18 : decode prog_13_method_19_code 18 = .ok (.invokestatic 165, 3) := by decide +kernel
theorem d_X11_come_21 : decode prog_13_method_19_code 21 = .ok (.ifCond .eq 41, 3) := by decide +kernel
theorem d_X11_come_24 : decode prog_13_method_19_code 24 = .ok (.iload_n 3, 1) := by decide +kernel
theorem d_X11_come_25 : decode prog_13_method_19_code 25 = .ok (.i2l, 1) := by decide +kernel
theorem d_X11_come_26 : decode prog_13_method_19_code 26 = .ok (.lconst 0, 1) := by decide +kernel
theorem d_X11_come_27 : decode prog_13_method_19_code 27 = .ok (.ldc2_w 174, 3) := by decide +kernel
theorem d_X11_come_30 : decode prog_13_method_19_code 30 = .ok (.invokestatic 165, 3) := by decide +kernel
theorem d_X11_come_33 : decode prog_13_method_19_code 33 = .ok (.ifCond .eq 29, 3) := by decide +kernel
theorem d_X11_come_36 : decode prog_13_method_19_code 36 = .ok (.iload 4, 2) := by decide +kernel
theorem d_X11_come_38 : decode prog_13_method_19_code 38 = .ok (.i2l, 1) := by decide +kernel
theorem d_X11_come_39 : decode prog_13_method_19_code 39 = .ok (.lconst 0, 1) := by decide +kernel
theorem d_X11_come_40 : decode prog_13_method_19_code 40 = .ok (.ldc2_w 176, 3) := by decide +kernel
theorem d_X11_come_43 : decode prog_13_method_19_code 43 = .ok (.invokestatic 165, 3) := by decide +kernel
theorem d_X11_come_46 : decode prog_13_method_19_code 46 = .ok (.ifCond .eq 16, 3) := by decide +kernel
theorem d_X11_come_49 : decode prog_13_method_19_code 49 = .ok (.iload 5, 2) := by decide +kernel
theorem d_X11_come_51 : decode prog_13_method_19_code 51 = .ok (.i2l, 1) := by decide +kernel
theorem d_X11_come_52 : decode prog_13_method_19_code 52 = .ok (.lconst 0, 1) := by decide +kernel
theorem d_X11_come_53 : decode prog_13_method_19_code 53 = .ok (.ldc2_w 178, 3) := by decide +kernel
theorem d_X11_come_56 : decode prog_13_method_19_code 56 = .ok (.invokestatic 165, 3) := by decide +kernel
theorem d_X11_come_59 : decode prog_13_method_19_code 59 = .ok (.ifCond .ne 5, 3) := by decide +kernel
theorem d_X11_come_62 : decode prog_13_method_19_code 62 = .ok (.iconst (-1), 1) := by decide +kernel
theorem d_X11_come_63 : decode prog_13_method_19_code 63 = .ok (.ireturn, 1) := by decide +kernel
theorem d_X11_come_64 : decode prog_13_method_19_code 64 = .ok (.aload_n 0, 1) := by decide +kernel
theorem d_X11_come_65 : decode prog_13_method_19_code 65 = .ok (.getfield 13, 3) := by decide +kernel
theorem d_X11_come_68 : decode prog_13_method_19_code 68 = .ok (.iconst 0, 1) := by decide +kernel
theorem d_X11_come_69 : decode prog_13_method_19_code 69 = .ok (.iaload, 1) := by decide +kernel
theorem d_X11_come_70 : decode prog_13_method_19_code 70 = .ok (.istore 6, 2) := by decide +kernel
theorem d_X11_come_72 : decode prog_13_method_19_code 72 = .ok (.iload 6, 2) := by decide +kernel
theorem d_X11_come_74 : decode prog_13_method_19_code 74 = .ok (.bipush 8, 2) := by decide +kernel
theorem d_X11_come_76 : decode prog_13_method_19_code 76 = .ok (.if_icmp .ne 6, 3) := by decide +kernel
theorem d_X11_come_79 : decode prog_13_method_19_code 79 = .ok (.bipush (-5), 2) := by decide +kernel
theorem d_X11_come_81 : decode prog_13_method_19_code 81 = .ok (.ireturn, 1) := by decide +kernel
theorem d_X11_come_82 : decode prog_13_method_19_code 82 = .ok (.aload_n 0, 1) := by decide +kernel
theorem d_X11_come_83 : decode prog_13_method_19_code 83 = .ok (.getfield 13, 3) := by decide +kernel
theorem d_X11_come_86 : decode prog_13_method_19_code 86 = .ok (.bipush 32, 2) := by decide +kernel
theorem d_X11_come_88 : decode prog_13_method_19_code 88 = .ok (.iload 6, 2) := by decide +kernel
theorem d_X11_come_90 : decode prog_13_method_19_code 90 = .ok (.iadd, 1) := by decide +kernel
theorem d_X11_come_91 : decode prog_13_method_19_code 91 = .ok (.iload_n 1, 1) := by decide +kernel
theorem d_X11_come_92 : decode prog_13_method_19_code 92 = .ok (.iastore, 1) := by decide +kernel
theorem d_X11_come_93 : decode prog_13_method_19_code 93 = .ok (.aload_n 0, 1) := by decide +kernel
theorem d_X11_come_94 : decode prog_13_method_19_code 94 = .ok (.getfield 13, 3) := by decide +kernel
theorem d_X11_come_97 : decode prog_13_method_19_code 97 = .ok (.bipush 8, 2) := by decide +kernel
theorem d_X11_come_99 : decode prog_13_method_19_code 99 = .ok (.iload 6, 2) := by decide +kernel
theorem d_X11_come_101 : decode prog_13_method_19_code 101 = .ok (.iadd, 1) := by decide +kernel
theorem d_X11_come_102 : decode prog_13_method_19_code 102 = .ok (.iload_n 2, 1) := by decide +kernel
theorem d_X11_come_103 : decode prog_13_method_19_code 103 = .ok (.iastore, 1) := by decide +kernel
theorem d_X11_come_104 : decode prog_13_method_19_code 104 = .ok (.aload_n 0, 1) := by decide +kernel
theorem d_X11_come_105 : decode prog_13_method_19_code 105 = .ok (.getfield 13, 3) := by decide +kernel
theorem d_X11_come_108 : decode prog_13_method_19_code 108 = .ok (.bipush 24, 2) := by decide +kernel
theorem d_X11_come_110 : decode prog_13_method_19_code 110 = .ok (.iload 6, 2) := by decide +kernel
theorem d_X11_come_112 : decode prog_13_method_19_code 112 = .ok (.iadd, 1) := by decide +kernel
theorem d_X11_come_113 : decode prog_13_method_19_code 113 = .ok (.iload_n 3, 1) := by decide +kernel
theorem d_X11_come_114 : decode prog_13_method_19_code 114 = .ok (.iastore, 1) := by decide +kernel
theorem d_X11_come_115 : decode prog_13_method_19_code 115 = .ok (.aload_n 0, 1) := by decide +kernel
theorem d_X11_come_116 : decode prog_13_method_19_code 116 = .ok (.getfield 13, 3) := by decide +kernel
theorem d_X11_come_119 : decode prog_13_method_19_code 119 = .ok (.bipush 40, 2) := by decide +kernel
theorem d_X11_come_121 : decode prog_13_method_19_code 121 = .ok (.iload 6, 2) := by decide +kernel
theorem d_X11_come_123 : decode prog_13_method_19_code 123 = .ok (.iadd, 1) := by decide +kernel
theorem d_X11_come_124 : decode prog_13_method_19_code 124 = .ok (.iload 4, 2) := by decide +kernel
theorem d_X11_come_126 : decode prog_13_method_19_code 126 = .ok (.iastore, 1) := by decide +kernel
theorem d_X11_come_127 : decode prog_13_method_19_code 127 = .ok (.aload_n 0, 1) := by decide +kernel
theorem d_X11_come_128 : decode prog_13_method_19_code 128 = .ok (.getfield 13, 3) := by decide +kernel
theorem d_X11_come_131 : decode prog_13_method_19_code 131 = .ok (.bipush 48, 2) := by decide +kernel
theorem d_X11_come_133 : decode prog_13_method_19_code 133 = .ok (.iload 6, 2) := by decide +kernel
theorem d_X11_come_135 : decode prog_13_method_19_code 135 = .ok (.iadd, 1) := by decide +kernel
theorem d_X11_come_136 : decode prog_13_method_19_code 136 = .ok (.iload 5, 2) := by decide +kernel
theorem d_X11_come_138 : decode prog_13_method_19_code 138 = .ok (.iastore, 1) := by decide +kernel
theorem d_X11_come_139 : decode prog_13_method_19_code 139 = .ok (.aload_n 0, 1) := by decide +kernel
theorem d_X11_come_140 : decode prog_13_method_19_code 140 = .ok (.getfield 13, 3) := by decide +kernel
theorem d_X11_come_143 : decode prog_13_method_19_code 143 = .ok (.bipush 16, 2) := by decide +kernel
theorem d_X11_come_145 : decode prog_13_method_19_code 145 = .ok (.iload 6, 2) := by decide +kernel
theorem d_X11_come_147 : decode prog_13_method_19_code 147 = .ok (.iadd, 1) := by decide +kernel
theorem d_X11_come_148 : decode prog_13_method_19_code 148 = .ok (.iconst 0, 1) := by decide +kernel
theorem d_X11_come_149 : decode prog_13_method_19_code 149 = .ok (.iastore, 1) := by decide +kernel
theorem d_X11_come_150 : decode prog_13_method_19_code 150 = .ok (.aload_n 0, 1) := by decide +kernel
theorem d_X11_come_151 : decode prog_13_method_19_code 151 = .ok (.getfield 13, 3) := by decide +kernel
theorem d_X11_come_154 : decode prog_13_method_19_code 154 = .ok (.bipush 56, 2) := by decide +kernel
theorem d_X11_come_156 : decode prog_13_method_19_code 156 = .ok (.iload 6, 2) := by decide +kernel
theorem d_X11_come_158 : decode prog_13_method_19_code 158 = .ok (.iadd, 1) := by decide +kernel
theorem d_X11_come_159 : decode prog_13_method_19_code 159 = .ok (.iconst (-1), 1) := by decide +kernel
theorem d_X11_come_160 : decode prog_13_method_19_code 160 = .ok (.iastore, 1) := by decide +kernel
theorem d_X11_come_161 : decode prog_13_method_19_code 161 = .ok (.iconst 0, 1) := by decide +kernel
theorem d_X11_come_162 : decode prog_13_method_19_code 162 = .ok (.istore 7, 2) := by decide +kernel
theorem d_X11_come_164 : decode prog_13_method_19_code 164 = .ok (.iload 7, 2) := by decide +kernel
theorem d_X11_come_166 : decode prog_13_method_19_code 166 = .ok (.iconst 5, 1) := by decide +kernel
theorem d_X11_come_167 : decode prog_13_method_19_code 167 = .ok (.if_icmp .ge 26, 3) := by decide +kernel
theorem d_X11_come_170 : decode prog_13_method_19_code 170 = .ok (.aload_n 0, 1) := by decide +kernel
theorem d_X11_come_171 : decode prog_13_method_19_code 171 = .ok (.getfield 13, 3) := by decide +kernel
theorem d_X11_come_174 : decode prog_13_method_19_code 174 = .ok (.bipush 64, 2) := by decide +kernel
theorem d_X11_come_176 : decode prog_13_method_19_code 176 = .ok (.bipush 8, 2) := by decide +kernel
theorem d_X11_come_178 : decode prog_13_method_19_code 178 = .ok (.iload 7, 2) := by decide +kernel
theorem d_X11_come_180 : decode prog_13_method_19_code 180 = .ok (.imul, 1) := by decide +kernel
theorem d_X11_come_181 : decode prog_13_method_19_code 181 = .ok (.iadd, 1) := by decide +kernel
theorem d_X11_come_182 : decode prog_13_method_19_code 182 = .ok (.iload 6, 2) := by decide +kernel
theorem d_X11_come_184 : decode prog_13_method_19_code 184 = .ok (.iadd, 1) := by decide +kernel
theorem d_X11_come_185 : decode prog_13_method_19_code 185 = .ok (.iconst 0, 1) := by decide +kernel
theorem d_X11_come_186 : decode prog_13_method_19_code 186 = .ok (.iastore, 1) := by decide +kernel
theorem d_X11_come_187 : decode prog_13_method_19_code 187 = .ok (.iinc 7 1, 3) := by decide +kernel
theorem d_X11_come_190 : decode prog_13_method_19_code 190 = .ok (.goto (-26), 3) := by decide +kernel
theorem d_X11_come_193 : decode prog_13_method_19_code 193 = .ok (.aload_n 0, 1) := by decide +kernel
theorem d_X11_come_194 : decode prog_13_method_19_code 194 = .ok (.getfield 13, 3) := by decide +kernel
theorem d_X11_come_197 : decode prog_13_method_19_code 197 = .ok (.iconst 0, 1) := by decide +kernel
theorem d_X11_come_198 : decode prog_13_method_19_code 198 = .ok (.dup2, 1) := by decide +kernel
theorem d_X11_come_199 : decode prog_13_method_19_code 199 = .ok (.iaload, 1) := by decide +kernel
theorem d_X11_come_200 : decode prog_13_method_19_code 200 = .ok (.iconst 1, 1) := by decide +kernel
theorem d_X11_come_201 : decode prog_13_method_19_code 201 = .ok (.iadd, 1) := by decide +kernel
theorem d_X11_come_202 : decode prog_13_method_19_code 202 = .ok (.iastore, 1) := by decide +kernel
theorem d_X11_come_203 : decode prog_13_method_19_code 203 = .ok (.iload 6, 2) := by decide +kernel
theorem d_X11_come_205 : decode prog_13_method_19_code 205 = .ok (.ireturn, 1) := by decide +kernel
theorem d_X11_good_0 : decode prog_13_method_20_code 0 = .ok (.aload_n 0, 1) := by decide +kernel
theorem d_X11_good_1 : decode prog_13_method_20_code 1 = .ok (.iconst 0, 1) := by decide +kernel
theorem d_X11_good_2 : decode prog_13_method_20_code 2 = .ok (.putfield 145, 3) := by decide +kernel
theorem d_X11_good_5 : decode prog_13_method_20_code 5 = .ok (.aload_n 0, 1) := by decide +kernel
theorem d_X11_good_6 : decode prog_13_method_20_code 6 = .ok (.aload_n 0, 1) := by decide +kernel
theorem d_X11_good_7 : decode prog_13_method_20_code 7 = .ok (.iload_n 1, 1) := by decide +kernel
theorem d_X11_good_8 : decode prog_13_method_20_code 8 = .ok (.iload_n 2, 1) := by decide +kernel
theorem d_X11_good_9 : decode prog_13_method_20_code 9 = .ok (.iload_n 3, 1) := by decide +kernel
theorem d_X11_good_10 : decode prog_13_method_20_code 10 = .ok (.iload 4, 2) := by decide +kernel
theorem d_X11_good_12 : decode prog_13_method_20_code 12 = .ok (.iload 5, 2) := by decide +kernel
theorem d_X11_good_14 : decode prog_13_method_20_code 14 = .ok (.invokevirtual 180, 3) := by decide +kernel
theorem d_X11_good_17 : decode prog_13_method_20_code 17 = .ok (.invokevirtual 169, 3) := by decide +kernel
theorem d_X11_good_20 : decode prog_13_method_20_code 20 = .ok (.ireturn, 1) := by decide +kernel
theorem d_X11_of_0 : decode prog_13_method_21_code 0 = .ok (.aload_n 0, 1) := by decide +kernel
theorem d_X11_of_1 : decode prog_13_method_21_code 1 = .ok (.iconst 0, 1) := by decide +kernel
theorem d_X11_of_2 : decode prog_13_method_21_code 2 = .ok (.putfield 145, 3) := by decide +kernel
theorem d_X11_of_5 : decode prog_13_method_21_code 5 = .ok (.aload_n 0, 1) := by decide +kernel
theorem d_X11_of_6 : decode prog_13_method_21_code 6 = .ok (.iload_n 1, 1) := by decide +kernel
theorem d_X11_of_7 : decode prog_13_method_21_code 7 = .ok (.invokevirtual 184, 3) := by decide +kernel
theorem d_X11_of_10 : decode prog_13_method_21_code 10 = .ok (.ifCond .ne 5, 3) := by decide +kernel
theorem d_X11_of_13 : decode prog_13_method_21_code 13 = .ok (.iconst (-1), 1) := by decide +kernel
theorem d_X11_of_14 : decode prog_13_method_21_code 14 = .ok (.ireturn, 1) := by decide +kernel
theorem d_X11_of_15 : decode prog_13_method_21_code 15 = .ok (.iload_n 2, 1) := by decide +kernel
theorem d_X11_of_16 : decode prog_13_method_21_code 16 = .ok (.tableswitch 114 0 6 #[44, 54, 64, 74, 84, 94, 104], 44) := by decide +kernel
theorem d_X11_of_60 : decode prog_13_method_21_code 60 = .ok (.aload_n 0, 1) := by decide +kernel
theorem d_X11_of_61 : decode prog_13_method_21_code 61 = .ok (.getfield 13, 3) := by decide +kernel
theorem d_X11_of_64 : decode prog_13_method_21_code 64 = .ok (.bipush 32, 2) := by decide +kernel
theorem d_X11_of_66 : decode prog_13_method_21_code 66 = .ok (.iload_n 1, 1) := by decide +kernel
theorem d_X11_of_67 : decode prog_13_method_21_code 67 = .ok (.iadd, 1) := by decide +kernel
theorem d_X11_of_68 : decode prog_13_method_21_code 68 = .ok (.iaload, 1) := by decide +kernel
theorem d_X11_of_69 : decode prog_13_method_21_code 69 = .ok (.ireturn, 1) := by decide +kernel
theorem d_X11_of_70 : decode prog_13_method_21_code 70 = .ok (.aload_n 0, 1) := by decide +kernel
theorem d_X11_of_71 : decode prog_13_method_21_code 71 = .ok (.getfield 13, 3) := by decide +kernel
theorem d_X11_of_74 : decode prog_13_method_21_code 74 = .ok (.bipush 8, 2) := by decide +kernel
theorem d_X11_of_76 : decode prog_13_method_21_code 76 = .ok (.iload_n 1, 1) := by decide +kernel
theorem d_X11_of_77 : decode prog_13_method_21_code 77 = .ok (.iadd, 1) := by decide +kernel
theorem d_X11_of_78 : decode prog_13_method_21_code 78 = .ok (.iaload, 1) := by decide +kernel
theorem d_X11_of_79 : decode prog_13_method_21_code 79 = .ok (.ireturn, 1) := by decide +kernel
theorem d_X11_of_80 : decode prog_13_method_21_code 80 = .ok (.aload_n 0, 1) := by decide +kernel
theorem d_X11_of_81 : decode prog_13_method_21_code 81 = .ok (.getfield 13, 3) := by decide +kernel
theorem d_X11_of_84 : decode prog_13_method_21_code 84 = .ok (.bipush 24, 2) := by decide +kernel
theorem d_X11_of_86 : decode prog_13_method_21_code 86 = .ok (.iload_n 1, 1) := by decide +kernel
theorem d_X11_of_87 : decode prog_13_method_21_code 87 = .ok (.iadd, 1) := by decide +kernel
theorem d_X11_of_88 : decode prog_13_method_21_code 88 = .ok (.iaload, 1) := by decide +kernel
theorem d_X11_of_89 : decode prog_13_method_21_code 89 = .ok (.ireturn, 1) := by decide +kernel
theorem d_X11_of_90 : decode prog_13_method_21_code 90 = .ok (.aload_n 0, 1) := by decide +kernel
theorem d_X11_of_91 : decode prog_13_method_21_code 91 = .ok (.getfield 13, 3) := by decide +kernel
theorem d_X11_of_94 : decode prog_13_method_21_code 94 = .ok (.bipush 40, 2) := by decide +kernel
theorem d_X11_of_96 : decode prog_13_method_21_code 96 = .ok (.iload_n 1, 1) := by decide +kernel
theorem d_X11_of_97 : decode prog_13_method_21_code 97 = .ok (.iadd, 1) := by decide +kernel
theorem d_X11_of_98 : decode prog_13_method_21_code 98 = .ok (.iaload, 1) := by decide +kernel
theorem d_X11_of_99 : decode prog_13_method_21_code 99 = .ok (.ireturn, 1) := by decide +kernel
theorem d_X11_of_100 : decode prog_13_method_21_code 100 = .ok (.aload_n 0, 1) := by decide +kernel
theorem d_X11_of_101 : decode prog_13_method_21_code 101 = .ok (.getfield 13, 3) := by decide +kernel
theorem d_X11_of_104 : decode prog_13_method_21_code 104 = .ok (.bipush 48, 2) := by decide +kernel
theorem d_X11_of_106 : decode prog_13_method_21_code 106 = .ok (.iload_n 1, 1) := by decide +kernel
theorem d_X11_of_107 : decode prog_13_method_21_code 107 = .ok (.iadd, 1) := by decide +kernel
theorem d_X11_of_108 : decode prog_13_method_21_code 108 = .ok (.iaload, 1) := by decide +kernel
theorem d_X11_of_109 : decode prog_13_method_21_code 109 = .ok (.ireturn, 1) := by decide +kernel
theorem d_X11_of_110 : decode prog_13_method_21_code 110 = .ok (.aload_n 0, 1) := by decide +kernel
theorem d_X11_of_111 : decode prog_13_method_21_code 111 = .ok (.getfield 13, 3) := by decide +kernel
theorem d_X11_of_114 : decode prog_13_method_21_code 114 = .ok (.bipush 16, 2) := by decide +kernel
theorem d_X11_of_116 : decode prog_13_method_21_code 116 = .ok (.iload_n 1, 1) := by decide +kernel
theorem d_X11_of_117 : decode prog_13_method_21_code 117 = .ok (.iadd, 1) := by decide +kernel
theorem d_X11_of_118 : decode prog_13_method_21_code 118 = .ok (.iaload, 1) := by decide +kernel
theorem d_X11_of_119 : decode prog_13_method_21_code 119 = .ok (.ireturn, 1) := by decide +kernel
theorem d_X11_of_120 : decode prog_13_method_21_code 120 = .ok (.aload_n 0, 1) := by decide +kernel
theorem d_X11_of_121 : decode prog_13_method_21_code 121 = .ok (.getfield 13, 3) := by decide +kernel
theorem d_X11_of_124 : decode prog_13_method_21_code 124 = .ok (.bipush 56, 2) := by decide +kernel
theorem d_X11_of_126 : decode prog_13_method_21_code 126 = .ok (.iload_n 1, 1) := by decide +kernel
theorem d_X11_of_127 : decode prog_13_method_21_code 127 = .ok (.iadd, 1) := by decide +kernel
theorem d_X11_of_128 : decode prog_13_method_21_code 128 = .ok (.iaload, 1) := by decide +kernel
theorem d_X11_of_129 : decode prog_13_method_21_code 129 = .ok (.ireturn, 1) := by decide +kernel
theorem d_X11_of_130 : decode prog_13_method_21_code 130 = .ok (.iconst (-1), 1) := by decide +kernel
theorem d_X11_of_131 : decode prog_13_method_21_code 131 = .ok (.ireturn, 1) := by decide +kernel
theorem d_X11_asks_0 : decode prog_13_method_22_code 0 = .ok (.aload_n 0, 1) := by decide +kernel
theorem d_X11_asks_1 : decode prog_13_method_22_code 1 = .ok (.iconst 0, 1) := by decide +kernel
theorem d_X11_asks_2 : decode prog_13_method_22_code 2 = .ok (.putfield 145, 3) := by decide +kernel
theorem d_X11_asks_5 : decode prog_13_method_22_code 5 = .ok (.aload_n 0, 1) := by decide +kernel
theorem d_X11_asks_6 : decode prog_13_method_22_code 6 = .ok (.iload_n 1, 1) := by decide +kernel
theorem d_X11_asks_7 : decode prog_13_method_22_code 7 = .ok (.invokevirtual 184, 3) := by decide +kernel
theorem d_X11_asks_10 : decode prog_13_method_22_code 10 = .ok (.ifCond .ne 6, 3) := by decide +kernel
theorem d_X11_asks_13 : decode prog_13_method_22_code 13 = .ok (.ldc 188, 2) := by decide +kernel
theorem d_X11_asks_15 : decode prog_13_method_22_code 15 = .ok (.ireturn, 1) := by decide +kernel
theorem d_X11_asks_16 : decode prog_13_method_22_code 16 = .ok (.iload_n 2, 1) := by decide +kernel
theorem d_X11_asks_17 : decode prog_13_method_22_code 17 = .ok (.tableswitch 63 0 3 #[31, 37, 43, 49], 31) := by decide +kernel
theorem d_X11_asks_48 : decode prog_13_method_22_code 48 = .ok (.aload_n 0, 1) := by decide +kernel
theorem d_X11_asks_49 : decode prog_13_method_22_code 49 = .ok (.iload_n 1, 1) := by decide +kernel
theorem d_X11_asks_50 : decode prog_13_method_22_code 50 = .ok (.invokevirtual 189, 3) := by decide +kernel
theorem d_X11_asks_53 : decode prog_13_method_22_code 53 = .ok (.ireturn, 1) := by decide +kernel
theorem d_X11_asks_54 : decode prog_13_method_22_code 54 = .ok (.aload_n 0, 1) := by decide +kernel
theorem d_X11_asks_55 : decode prog_13_method_22_code 55 = .ok (.iload_n 1, 1) := by decide +kernel
theorem d_X11_asks_56 : decode prog_13_method_22_code 56 = .ok (.invokevirtual 192, 3) := by decide +kernel
theorem d_X11_asks_59 : decode prog_13_method_22_code 59 = .ok (.ireturn, 1) := by decide +kernel
theorem d_X11_asks_60 : decode prog_13_method_22_code 60 = .ok (.aload_n 0, 1) := by decide +kernel
theorem d_X11_asks_61 : decode prog_13_method_22_code 61 = .ok (.iload_n 1, 1) := by decide +kernel
theorem d_X11_asks_62 : decode prog_13_method_22_code 62 = .ok (.invokevirtual 195, 3) := by decide +kernel
theorem d_X11_asks_65 : decode prog_13_method_22_code 65 = .ok (.ireturn, 1) := by decide +kernel
theorem d_X11_asks_66 : decode prog_13_method_22_code 66 = .ok (.aload_n 0, 1) := by decide +kernel
theorem d_X11_asks_67 : decode prog_13_method_22_code 67 = .ok (.iload_n 1, 1) := by decide +kernel
theorem d_X11_asks_68 : decode prog_13_method_22_code 68 = .ok (.invokevirtual 198, 3) := by decide +kernel
theorem d_X11_asks_71 : decode prog_13_method_22_code 71 = .ok (.ifCond .eq 7, 3) := by decide +kernel
theorem d_X11_asks_74 : decode prog_13_method_22_code 74 = .ok (.iconst 1, 1) := by decide +kernel
theorem d_X11_asks_75 : decode prog_13_method_22_code 75 = .ok (.goto 4, 3) := by decide +kernel
theorem d_X11_asks_78 : decode prog_13_method_22_code 78 = .ok (.iconst 0, 1) := by decide +kernel
theorem d_X11_asks_79 : decode prog_13_method_22_code 79 = .ok (.ireturn, 1) := by decide +kernel
theorem d_X11_asks_80 : decode prog_13_method_22_code 80 = .ok (.ldc 188, 2) := by decide +kernel
theorem d_X11_asks_82 : decode prog_13_method_22_code 82 = .ok (.ireturn, 1) := by decide +kernel
theorem d_X11_stand_0 : decode prog_13_method_23_code 0 = .ok (.aload_n 0, 1) := by decide +kernel
theorem d_X11_stand_1 : decode prog_13_method_23_code 1 = .ok (.iconst 0, 1) := by decide +kernel
theorem d_X11_stand_2 : decode prog_13_method_23_code 2 = .ok (.putfield 145, 3) := by decide +kernel
theorem d_X11_stand_5 : decode prog_13_method_23_code 5 = .ok (.iload_n 2, 1) := by decide +kernel
theorem d_X11_stand_6 : decode prog_13_method_23_code 6 = .ok (.iconst (-1), 1) := by decide +kernel
theorem d_X11_stand_7 : decode prog_13_method_23_code 7 = .ok (.if_icmp .eq 22, 3) := by decide +kernel
theorem d_X11_stand_10 : decode prog_13_method_23_code 10 = .ok (.aload_n 0, 1) := by decide +kernel
theorem d_X11_stand_11 : decode prog_13_method_23_code 11 = .ok (.iload_n 2, 1) := by decide +kernel
theorem d_X11_stand_12 : decode prog_13_method_23_code 12 = .ok (.invokevirtual 184, 3) := by decide +kernel
theorem d_X11_stand_15 : decode prog_13_method_23_code 15 = .ok (.ifCond .eq 8, 3) := by decide +kernel
theorem d_X11_stand_18 : decode prog_13_method_23_code 18 = .ok (.iload_n 2, 1) := by decide +kernel
theorem d_X11_stand_19 : decode prog_13_method_23_code 19 = .ok (.iload_n 1, 1) := by decide +kernel
theorem d_X11_stand_20 : decode prog_13_method_23_code 20 = .ok (.if_icmp .ne 9, 3) := by decide +kernel
theorem d_X11_stand_23 : decode prog_13_method_23_code 23 = .ok (.aload_n 0, 1) := by decide +kernel
theorem d_X11_stand_24 : decode prog_13_method_23_code 24 = .ok (.iconst (-1), 1) := by decide +kernel
theorem d_X11_stand_25 : decode prog_13_method_23_code 25 = .ok (.invokevirtual 154, 3) := by decide +kernel
theorem d_X11_stand_28 : decode prog_13_method_23_code 28 = .ok (.ireturn, 1) := by decide +kernel
theorem d_X11_stand_29 : decode prog_13_method_23_code 29 = .ok (.aload_n 0, 1) := by decide +kernel
theorem d_X11_stand_30 : decode prog_13_method_23_code 30 = .ok (.iload_n 1, 1) := by decide +kernel
theorem d_X11_stand_31 : decode prog_13_method_23_code 31 = .ok (.invokevirtual 184, 3) := by decide +kernel
theorem d_X11_stand_34 : decode prog_13_method_23_code 34 = .ok (.ifCond .ne 10, 3) := by decide +kernel
theorem d_X11_stand_37 : decode prog_13_method_23_code 37 = .ok (.aload_n 0, 1) := by decide +kernel
theorem d_X11_stand_38 : decode prog_13_method_23_code 38 = .ok (.bipush (-2), 2) := by decide +kernel
theorem d_X11_stand_40 : decode prog_13_method_23_code 40 = .ok (.invokevirtual 154, 3) := by decide +kernel
theorem d_X11_stand_43 : decode prog_13_method_23_code 43 = .ok (.ireturn, 1) := by decide +kernel
theorem d_X11_stand_44 : decode prog_13_method_23_code 44 = .ok (.aload_n 0, 1) := by decide +kernel
theorem d_X11_stand_45 : decode prog_13_method_23_code 45 = .ok (.getfield 13, 3) := by decide +kernel
theorem d_X11_stand_48 : decode prog_13_method_23_code 48 = .ok (.bipush 56, 2) := by decide +kernel
theorem d_X11_stand_50 : decode prog_13_method_23_code 50 = .ok (.iload_n 1, 1) := by decide +kernel
theorem d_X11_stand_51 : decode prog_13_method_23_code 51 = .ok (.iadd, 1) := by decide +kernel
theorem d_X11_stand_52 : decode prog_13_method_23_code 52 = .ok (.iload_n 2, 1) := by decide +kernel
theorem d_X11_stand_53 : decode prog_13_method_23_code 53 = .ok (.iastore, 1) := by decide +kernel
theorem d_X11_stand_54 : decode prog_13_method_23_code 54 = .ok (.aload_n 0, 1) := by decide +kernel
theorem d_X11_stand_55 : decode prog_13_method_23_code 55 = .ok (.iconst 0, 1) := by decide +kernel
theorem d_X11_stand_56 : decode prog_13_method_23_code 56 = .ok (.invokevirtual 169, 3) := by decide +kernel
theorem d_X11_stand_59 : decode prog_13_method_23_code 59 = .ok (.ireturn, 1) := by decide +kernel
theorem d_X11_person_0 : decode prog_13_method_24_code 0 = .ok (.aload_n 0, 1) := by decide +kernel
theorem d_X11_person_1 : decode prog_13_method_24_code 1 = .ok (.iconst 0, 1) := by decide +kernel
theorem d_X11_person_2 : decode prog_13_method_24_code 2 = .ok (.putfield 145, 3) := by decide +kernel
theorem d_X11_person_5 : decode prog_13_method_24_code 5 = .ok (.aload_n 0, 1) := by decide +kernel
theorem d_X11_person_6 : decode prog_13_method_24_code 6 = .ok (.getfield 13, 3) := by decide +kernel
theorem d_X11_person_9 : decode prog_13_method_24_code 9 = .ok (.iconst 1, 1) := by decide +kernel
theorem d_X11_person_10 : decode prog_13_method_24_code 10 = .ok (.iaload, 1) := by decide +kernel
theorem d_X11_person_11 : decode prog_13_method_24_code 11 = .ok (.istore_n 1, 1) := by decide +kernel
theorem d_X11_person_12 : decode prog_13_method_24_code 12 = .ok (.iload_n 1, 1) := by decide +kernel
theorem d_X11_person_13 : decode prog_13_method_24_code 13 = .ok (.iconst 5, 1) := by decide +kernel
theorem d_X11_person_14 : decode prog_13_method_24_code 14 = .ok (.if_icmp .ne 10, 3) := by decide +kernel
theorem d_X11_person_17 : decode prog_13_method_24_code 17 = .ok (.aload_n 0, 1) := by decide +kernel
theorem d_X11_person_18 : decode prog_13_method_24_code 18 = .ok (.bipush (-5), 2) := by decide +kernel
theorem d_X11_person_20 : decode prog_13_method_24_code 20 = .ok (.invokevirtual 154, 3) := by decide +kernel
theorem d_X11_person_23 : decode prog_13_method_24_code 23 = .ok (.ireturn, 1) := by decide +kernel
theorem d_X11_person_24 : decode prog_13_method_24_code 24 = .ok (.iconst 0, 1) := by decide +kernel
theorem d_X11_person_25 : decode prog_13_method_24_code 25 = .ok (.istore_n 2, 1) := by decide +kernel
theorem d_X11_person_26 : decode prog_13_method_24_code 26 = .ok (.iload_n 2, 1) := by decide +kernel
theorem d_X11_person_27 : decode prog_13_method_24_code 27 = .ok (.bipush 8, 2) := by decide +kernel
theorem d_X11_person_29 : decode prog_13_method_24_code 29 = .ok (.if_icmp .ge 24, 3) := by decide +kernel
theorem d_X11_person_32 : decode prog_13_method_24_code 32 = .ok (.aload_n 0, 1) := by decide +kernel
theorem d_X11_person_33 : decode prog_13_method_24_code 33 = .ok (.getfield 13, 3) := by decide +kernel
theorem d_X11_person_36 : decode prog_13_method_24_code 36 = .ok (.bipush 64, 2) := by decide +kernel
theorem d_X11_person_38 : decode prog_13_method_24_code 38 = .ok (.bipush 8, 2) := by decide +kernel
theorem d_X11_person_40 : decode prog_13_method_24_code 40 = .ok (.iload_n 1, 1) := by decide +kernel
theorem d_X11_person_41 : decode prog_13_method_24_code 41 = .ok (.imul, 1) := by decide +kernel
theorem d_X11_person_42 : decode prog_13_method_24_code 42 = .ok (.iadd, 1) := by decide +kernel
theorem d_X11_person_43 : decode prog_13_method_24_code 43 = .ok (.iload_n 2, 1) := by decide +kernel
theorem d_X11_person_44 : decode prog_13_method_24_code 44 = .ok (.iadd, 1) := by decide +kernel
theorem d_X11_person_45 : decode prog_13_method_24_code 45 = .ok (.iconst 0, 1) := by decide +kernel
theorem d_X11_person_46 : decode prog_13_method_24_code 46 = .ok (.iastore, 1) := by decide +kernel
theorem d_X11_person_47 : decode prog_13_method_24_code 47 = .ok (.iinc 2 1, 3) := by decide +kernel
theorem d_X11_person_50 : decode prog_13_method_24_code 50 = .ok (.goto (-24), 3) := by decide +kernel
theorem d_X11_person_53 : decode prog_13_method_24_code 53 = .ok (.aload_n 0, 1) := by decide +kernel
theorem d_X11_person_54 : decode prog_13_method_24_code 54 = .ok (.getfield 13, 3) := by decide +kernel
theorem d_X11_person_57 : decode prog_13_method_24_code 57 = .ok (.iconst 1, 1) := by decide +kernel
theorem d_X11_person_58 : decode prog_13_method_24_code 58 = .ok (.dup2, 1) := by decide +kernel
theorem d_X11_person_59 : decode prog_13_method_24_code 59 = .ok (.iaload, 1) := by decide +kernel
theorem d_X11_person_60 : decode prog_13_method_24_code 60 = .ok (.iconst 1, 1) := by decide +kernel
theorem d_X11_person_61 : decode prog_13_method_24_code 61 = .ok (.iadd, 1) := by decide +kernel
theorem d_X11_person_62 : decode prog_13_method_24_code 62 = .ok (.iastore, 1) := by decide +kernel
theorem d_X11_person_63 : decode prog_13_method_24_code 63 = .ok (.aload_n 0, 1) := by decide +kernel
theorem d_X11_person_64 : decode prog_13_method_24_code 64 = .ok (.iload_n 1, 1) := by decide +kernel
theorem d_X11_person_65 : decode prog_13_method_24_code 65 = .ok (.invokevirtual 154, 3) := by decide +kernel
theorem d_X11_person_68 : decode prog_13_method_24_code 68 = .ok (.ireturn, 1) := by decide +kernel
theorem d_X11_own_0 : decode prog_13_method_25_code 0 = .ok (.aload_n 0, 1) := by decide +kernel
theorem d_X11_own_1 : decode prog_13_method_25_code 1 = .ok (.iconst 0, 1) := by decide +kernel
theorem d_X11_own_2 : decode prog_13_method_25_code 2 = .ok (.putfield 145, 3) := by decide +kernel
theorem d_X11_own_5 : decode prog_13_method_25_code 5 = .ok (.iload_n 3, 1) := by decide +kernel
theorem d_X11_own_6 : decode prog_13_method_25_code 6 = .ok (.i2l, 1) := by decide +kernel
theorem d_X11_own_7 : decode prog_13_method_25_code 7 = .ok (.lconst 0, 1) := by decide +kernel
theorem d_X11_own_8 : decode prog_13_method_25_code 8 = .ok (.ldc2_w 176, 3) := by decide +kernel
theorem d_X11_own_11 : decode prog_13_method_25_code 11 = .ok (.invokestatic 165, 3) := by decide +kernel
theorem d_X11_own_14 : decode prog_13_method_25_code 14 = .ok (.ifCond .ne 9, 3) := by decide +kernel
theorem d_X11_own_17 : decode prog_13_method_25_code 17 = .ok (.aload_n 0, 1) := by decide +kernel
theorem d_X11_own_18 : decode prog_13_method_25_code 18 = .ok (.iconst (-1), 1) := by decide +kernel
theorem d_X11_own_19 : decode prog_13_method_25_code 19 = .ok (.invokevirtual 154, 3) := by decide +kernel
theorem d_X11_own_22 : decode prog_13_method_25_code 22 = .ok (.ireturn, 1) := by decide +kernel
theorem d_X11_own_23 : decode prog_13_method_25_code 23 = .ok (.aload_n 0, 1) := by decide +kernel
theorem d_X11_own_24 : decode prog_13_method_25_code 24 = .ok (.iload_n 1, 1) := by decide +kernel
theorem d_X11_own_25 : decode prog_13_method_25_code 25 = .ok (.invokevirtual 201, 3) := by decide +kernel
theorem d_X11_own_28 : decode prog_13_method_25_code 28 = .ok (.ifCond .eq 28, 3) := by decide +kernel
theorem d_X11_own_31 : decode prog_13_method_25_code 31 = .ok (.aload_n 0, 1) := by decide +kernel
theorem d_X11_own_32 : decode prog_13_method_25_code 32 = .ok (.iload_n 2, 1) := by decide +kernel
theorem d_X11_own_33 : decode prog_13_method_25_code 33 = .ok (.invokevirtual 184, 3) := by decide +kernel
theorem d_X11_own_36 : decode prog_13_method_25_code 36 = .ok (.ifCond .eq 20, 3) := by decide +kernel
theorem d_X11_own_39 : decode prog_13_method_25_code 39 = .ok (.aload_n 0, 1) := by decide +kernel
theorem d_X11_own_40 : decode prog_13_method_25_code 40 = .ok (.bipush 64, 2) := by decide +kernel
theorem d_X11_own_42 : decode prog_13_method_25_code 42 = .ok (.bipush 8, 2) := by decide +kernel
theorem d_X11_own_44 : decode prog_13_method_25_code 44 = .ok (.iload_n 1, 1) := by decide +kernel
theorem d_X11_own_45 : decode prog_13_method_25_code 45 = .ok (.imul, 1) := by decide +kernel
theorem d_X11_own_46 : decode prog_13_method_25_code 46 = .ok (.iadd, 1) := by decide +kernel
theorem d_X11_own_47 : decode prog_13_method_25_code 47 = .ok (.iload_n 2, 1) := by decide +kernel
theorem d_X11_own_48 : decode prog_13_method_25_code 48 = .ok (.iadd, 1) := by decide +kernel
theorem d_X11_own_49 : decode prog_13_method_25_code 49 = .ok (.iload_n 3, 1) := by decide +kernel
theorem d_X11_own_50 : decode prog_13_method_25_code 50 = .ok (.invokevirtual 204, 3) := by decide +kernel
theorem d_X11_own_53 : decode prog_13_method_25_code 53 = .ok (.goto 9, 3) := by decide +kernel
theorem d_X11_own_56 : decode prog_13_method_25_code 56 = .ok (.aload_n 0, 1) := by decide +kernel
theorem d_X11_own_57 : decode prog_13_method_25_code 57 = .ok (.bipush (-2), 2) := by decide +kernel
theorem d_X11_own_59 : decode prog_13_method_25_code 59 = .ok (.invokevirtual 154, 3) := by decide +kernel
theorem d_X11_own_62 : decode prog_13_method_25_code 62 = .ok (.ireturn, 1) := by decide +kernel
theorem d_X11_terms_0 : decode prog_13_method_26_code 0 = .ok (.aload_n 0, 1) := by decide +kernel
theorem d_X11_terms_1 : decode prog_13_method_26_code 1 = .ok (.iconst 0, 1) := by decide +kernel
theorem d_X11_terms_2 : decode prog_13_method_26_code 2 = .ok (.putfield 145, 3) := by decide +kernel
theorem d_X11_terms_5 : decode prog_13_method_26_code 5 = .ok (.iload_n 1, 1) := by decide +kernel
theorem d_X11_terms_6 : decode prog_13_method_26_code 6 = .ok (.ifCond .ne 15, 3) := by decide +kernel
theorem d_X11_terms_9 : decode prog_13_method_26_code 9 = .ok (.iload_n 2, 1) := by decide +kernel
theorem d_X11_terms_10 : decode prog_13_method_26_code 10 = .ok (.i2l, 1) := by decide +kernel
theorem d_X11_terms_11 : decode prog_13_method_26_code 11 = .ok (.lconst 0, 1) := by decide +kernel
theorem d_X11_terms_12 : decode prog_13_method_26_code 12 = .ok (.ldc2_w 208, 3) := by decide +kernel
theorem d_X11_terms_15 : decode prog_13_method_26_code 15 = .ok (.invokestatic 165, 3) := by decide +kernel
theorem d_X11_terms_18 : decode prog_13_method_26_code 18 = .ok (.goto 42, 3) := by decide +kernel
theorem d_X11_terms_21 : decode prog_13_method_26_code 21 = .ok (.iload_n 1, 1) := by decide +kernel
theorem d_X11_terms_22 : decode prog_13_method_26_code 22 = .ok (.iconst 1, 1) := by decide +kernel
theorem d_X11_terms_23 : decode prog_13_method_26_code 23 = .ok (.if_icmp .ne 15, 3) := by decide +kernel
theorem d_X11_terms_26 : decode prog_13_method_26_code 26 = .ok (.iload_n 2, 1) := by decide +kernel
theorem d_X11_terms_27 : decode prog_13_method_26_code 27 = .ok (.i2l, 1) := by decide +kernel
theorem d_X11_terms_28 : decode prog_13_method_26_code 28 = .ok (.lconst 0, 1) := by decide +kernel
theorem d_X11_terms_29 : decode prog_13_method_26_code 29 = .ok (.ldc2_w 210, 3) := by decide +kernel
theorem d_X11_terms_32 : decode prog_13_method_26_code 32 = .ok (.invokestatic 165, 3) := by decide +kernel
theorem d_X11_terms_35 : decode prog_13_method_26_code 35 = .ok (.goto 25, 3) := by decide +kernel
theorem d_X11_terms_38 : decode prog_13_method_26_code 38 = .ok (.iload_n 1, 1) := by decide +kernel
theorem d_X11_terms_39 : decode prog_13_method_26_code 39 = .ok (.iconst 2, 1) := by decide +kernel
theorem d_X11_terms_40 : decode prog_13_method_26_code 40 = .ok (.if_icmp .ne 19, 3) := by decide +kernel
theorem d_X11_terms_43 : decode prog_13_method_26_code 43 = .ok (.iload_n 2, 1) := by decide +kernel
theorem d_X11_terms_44 : decode prog_13_method_26_code 44 = .ok (.i2l, 1) := by decide +kernel
theorem d_X11_terms_45 : decode prog_13_method_26_code 45 = .ok (.lconst 0, 1) := by decide +kernel
theorem d_X11_terms_46 : decode prog_13_method_26_code 46 = .ok (.ldc2_w 176, 3) := by decide +kernel
theorem d_X11_terms_49 : decode prog_13_method_26_code 49 = .ok (.invokestatic 165, 3) := by decide +kernel
theorem d_X11_terms_52 : decode prog_13_method_26_code 52 = .ok (.ifCond .eq 7, 3) := by decide +kernel
theorem d_X11_terms_55 : decode prog_13_method_26_code 55 = .ok (.iconst 1, 1) := by decide +kernel
theorem d_X11_terms_56 : decode prog_13_method_26_code 56 = .ok (.goto 4, 3) := by decide +kernel
theorem d_X11_terms_59 : decode prog_13_method_26_code 59 = .ok (.iconst 0, 1) := by decide +kernel
theorem d_X11_terms_60 : decode prog_13_method_26_code 60 = .ok (.istore_n 3, 1) := by decide +kernel
theorem d_X11_terms_61 : decode prog_13_method_26_code 61 = .ok (.iload_n 3, 1) := by decide +kernel
theorem d_X11_terms_62 : decode prog_13_method_26_code 62 = .ok (.ifCond .ne 9, 3) := by decide +kernel
theorem d_X11_terms_65 : decode prog_13_method_26_code 65 = .ok (.aload_n 0, 1) := by decide +kernel
theorem d_X11_terms_66 : decode prog_13_method_26_code 66 = .ok (.iconst (-1), 1) := by decide +kernel
theorem d_X11_terms_67 : decode prog_13_method_26_code 67 = .ok (.invokevirtual 154, 3) := by decide +kernel
theorem d_X11_terms_70 : decode prog_13_method_26_code 70 = .ok (.ireturn, 1) := by decide +kernel
theorem d_X11_terms_71 : decode prog_13_method_26_code 71 = .ok (.aload_n 0, 1) := by decide +kernel
theorem d_X11_terms_72 : decode prog_13_method_26_code 72 = .ok (.iconst 0, 1) := by decide +kernel
theorem d_X11_terms_73 : decode prog_13_method_26_code 73 = .ok (.putfield 151, 3) := by decide +kernel
theorem d_X11_terms_76 : decode prog_13_method_26_code 76 = .ok (.aload_n 0, 1) := by decide +kernel
theorem d_X11_terms_77 : decode prog_13_method_26_code 77 = .ok (.iconst 5, 1) := by decide +kernel
theorem d_X11_terms_78 : decode prog_13_method_26_code 78 = .ok (.iload_n 1, 1) := by decide +kernel
theorem d_X11_terms_79 : decode prog_13_method_26_code 79 = .ok (.iadd, 1) := by decide +kernel
theorem d_X11_terms_80 : decode prog_13_method_26_code 80 = .ok (.iload_n 2, 1) := by decide +kernel
theorem d_X11_terms_81 : decode prog_13_method_26_code 81 = .ok (.invokevirtual 204, 3) := by decide +kernel
theorem d_X11_terms_84 : decode prog_13_method_26_code 84 = .ok (.ireturn, 1) := by decide +kernel
theorem d_X11_row_0 : decode prog_13_method_27_code 0 = .ok (.aload_n 0, 1) := by decide +kernel
theorem d_X11_row_1 : decode prog_13_method_27_code 1 = .ok (.iconst 0, 1) := by decide +kernel
theorem d_X11_row_2 : decode prog_13_method_27_code 2 = .ok (.putfield 145, 3) := by decide +kernel
theorem d_X11_row_5 : decode prog_13_method_27_code 5 = .ok (.aload_n 0, 1) := by decide +kernel
theorem d_X11_row_6 : decode prog_13_method_27_code 6 = .ok (.getfield 212, 3) := by decide +kernel
theorem d_X11_row_9 : decode prog_13_method_27_code 9 = .ok (.istore_n 1, 1) := by decide +kernel
theorem d_X11_row_10 : decode prog_13_method_27_code 10 = .ok (.aload_n 0, 1) := by decide +kernel
theorem d_X11_row_11 : decode prog_13_method_27_code 11 = .ok (.iconst 0, 1) := by decide +kernel
theorem d_X11_row_12 : decode prog_13_method_27_code 12 = .ok (.putfield 212, 3) := by decide +kernel
theorem d_X11_row_15 : decode prog_13_method_27_code 15 = .ok (.iload_n 1, 1) := by decide +kernel
theorem d_X11_row_16 : decode prog_13_method_27_code 16 = .ok (.ifCond .ne 10, 3) := by decide +kernel
theorem d_X11_row_19 : decode prog_13_method_27_code 19 = .ok (.aload_n 0, 1) := by decide +kernel
theorem d_X11_row_20 : decode prog_13_method_27_code 20 = .ok (.bipush (-6), 2) := by decide +kernel
theorem d_X11_row_22 : decode prog_13_method_27_code 22 = .ok (.invokevirtual 154, 3) := by decide +kernel
theorem d_X11_row_25 : decode prog_13_method_27_code 25 = .ok (.ireturn, 1) := by decide +kernel
theorem d_X11_row_26 : decode prog_13_method_27_code 26 = .ok (.aload_n 0, 1) := by decide +kernel
theorem d_X11_row_27 : decode prog_13_method_27_code 27 = .ok (.iconst 0, 1) := by decide +kernel
theorem d_X11_row_28 : decode prog_13_method_27_code 28 = .ok (.putfield 215, 3) := by decide +kernel
theorem d_X11_row_31 : decode prog_13_method_27_code 31 = .ok (.iconst 0, 1) := by decide +kernel
theorem d_X11_row_32 : decode prog_13_method_27_code 32 = .ok (.istore_n 2, 1) := by decide +kernel
theorem d_X11_row_33 : decode prog_13_method_27_code 33 = .ok (.iconst 0, 1) := by decide +kernel
theorem d_X11_row_34 : decode prog_13_method_27_code 34 = .ok (.istore_n 3, 1) := by decide +kernel
theorem d_X11_row_35 : decode prog_13_method_27_code 35 = .ok (.iload_n 3, 1) := by decide +kernel
theorem d_X11_row_36 : decode prog_13_method_27_code 36 = .ok (.iload_n 1, 1) := by decide +kernel
theorem d_X11_row_37 : decode prog_13_method_27_code 37 = .ok (.if_icmp .ge 70, 3) := by decide +kernel
theorem d_X11_row_40 : decode prog_13_method_27_code 40 = .ok (.iload_n 3, 1) := by decide +kernel
theorem d_X11_row_41 : decode prog_13_method_27_code 41 = .ok (.iconst 3, 1) := by decide +kernel
theorem d_X11_row_42 : decode prog_13_method_27_code 42 = .ok (.iadd, 1) := by decide +kernel
theorem d_X11_row_43 : decode prog_13_method_27_code 43 = .ok (.iload_n 1, 1) := by decide +kernel
theorem d_X11_row_44 : decode prog_13_method_27_code 44 = .ok (.if_icmp .ge 47, 3) := by decide +kernel
theorem d_X11_row_47 : decode prog_13_method_27_code 47 = .ok (.aload_n 0, 1) := by decide +kernel
theorem d_X11_row_48 : decode prog_13_method_27_code 48 = .ok (.aload_n 0, 1) := by decide +kernel
theorem d_X11_row_49 : decode prog_13_method_27_code 49 = .ok (.getfield 35, 3) := by decide +kernel
theorem d_X11_row_52 : decode prog_13_method_27_code 52 = .ok (.iload_n 3, 1) := by decide +kernel
theorem d_X11_row_53 : decode prog_13_method_27_code 53 = .ok (.iaload, 1) := by decide +kernel
theorem d_X11_row_54 : decode prog_13_method_27_code 54 = .ok (.aload_n 0, 1) := by decide +kernel
theorem d_X11_row_55 : decode prog_13_method_27_code 55 = .ok (.getfield 35, 3) := by decide +kernel
theorem d_X11_row_58 : decode prog_13_method_27_code 58 = .ok (.iload_n 3, 1) := by decide +kernel
theorem d_X11_row_59 : decode prog_13_method_27_code 59 = .ok (.iconst 1, 1) := by decide +kernel
theorem d_X11_row_60 : decode prog_13_method_27_code 60 = .ok (.iadd, 1) := by decide +kernel
theorem d_X11_row_61 : decode prog_13_method_27_code 61 = .ok (.iaload, 1) := by decide +kernel
theorem d_X11_row_62 : decode prog_13_method_27_code 62 = .ok (.aload_n 0, 1) := by decide +kernel
theorem d_X11_row_63 : decode prog_13_method_27_code 63 = .ok (.getfield 35, 3) := by decide +kernel
theorem d_X11_row_66 : decode prog_13_method_27_code 66 = .ok (.iload_n 3, 1) := by decide +kernel
theorem d_X11_row_67 : decode prog_13_method_27_code 67 = .ok (.iconst 2, 1) := by decide +kernel
theorem d_X11_row_68 : decode prog_13_method_27_code 68 = .ok (.iadd, 1) := by decide +kernel
theorem d_X11_row_69 : decode prog_13_method_27_code 69 = .ok (.iaload, 1) := by decide +kernel
theorem d_X11_row_70 : decode prog_13_method_27_code 70 = .ok (.aload_n 0, 1) := by decide +kernel
theorem d_X11_row_71 : decode prog_13_method_27_code 71 = .ok (.getfield 35, 3) := by decide +kernel
theorem d_X11_row_74 : decode prog_13_method_27_code 74 = .ok (.iload_n 3, 1) := by decide +kernel
theorem d_X11_row_75 : decode prog_13_method_27_code 75 = .ok (.iconst 3, 1) := by decide +kernel
theorem d_X11_row_76 : decode prog_13_method_27_code 76 = .ok (.iadd, 1) := by decide +kernel
theorem d_X11_row_77 : decode prog_13_method_27_code 77 = .ok (.iaload, 1) := by decide +kernel
theorem d_X11_row_78 : decode prog_13_method_27_code 78 = .ok (.iconst 0, 1) := by decide +kernel
theorem d_X11_row_79 : decode prog_13_method_27_code 79 = .ok (.invokevirtual 180, 3) := by decide +kernel
theorem d_X11_row_82 : decode prog_13_method_27_code 82 = .ok (.ifCond .lt 9, 3) := by decide +kernel
theorem d_X11_row_85 : decode prog_13_method_27_code 85 = .ok (.iinc 2 1, 3) := by decide +kernel
theorem d_X11_row_88 : decode prog_13_method_27_code 88 = .ok (.goto 13, 3) := by decide +kernel
theorem d_X11_row_91 : decode prog_13_method_27_code 91 = .ok (.aload_n 0, 1) := by decide +kernel
theorem d_X11_row_92 : decode prog_13_method_27_code 92 = .ok (.dup, 1) := by decide +kernel
theorem d_X11_row_93 : decode prog_13_method_27_code 93 = .ok (.getfield 215, 3) := by decide +kernel
theorem d_X11_row_96 : decode prog_13_method_27_code 96 = .ok (.iconst 1, 1) := by decide +kernel
theorem d_X11_row_97 : decode prog_13_method_27_code 97 = .ok (.iadd, 1) := by decide +kernel
theorem d_X11_row_98 : decode prog_13_method_27_code 98 = .ok (.putfield 215, 3) := by decide +kernel
theorem d_X11_row_101 : decode prog_13_method_27_code 101 = .ok (.iinc 3 4, 3) := by decide +kernel
theorem d_X11_row_104 : decode prog_13_method_27_code 104 = .ok (.goto (-69), 3) := by decide +kernel
theorem d_X11_row_107 : decode prog_13_method_27_code 107 = .ok (.aload_n 0, 1) := by decide +kernel
theorem d_X11_row_108 : decode prog_13_method_27_code 108 = .ok (.iload_n 2, 1) := by decide +kernel
theorem d_X11_row_109 : decode prog_13_method_27_code 109 = .ok (.invokevirtual 169, 3) := by decide +kernel
theorem d_X11_row_112 : decode prog_13_method_27_code 112 = .ok (.ireturn, 1) := by decide +kernel
theorem d_X11_commas_0 : decode prog_13_method_28_code 0 = .ok (.aload_n 0, 1) := by decide +kernel
theorem d_X11_commas_1 : decode prog_13_method_28_code 1 = .ok (.iconst 0, 1) := by decide +kernel
theorem d_X11_commas_2 : decode prog_13_method_28_code 2 = .ok (.putfield 145, 3) := by decide +kernel
theorem d_X11_commas_5 : decode prog_13_method_28_code 5 = .ok (.aload_n 0, 1) := by decide +kernel
theorem d_X11_commas_6 : decode prog_13_method_28_code 6 = .ok (.getfield 215, 3) := by decide +kernel
theorem d_X11_commas_9 : decode prog_13_method_28_code 9 = .ok (.ireturn, 1) := by decide +kernel
theorem d_X11_four_0 : decode prog_13_method_29_code 0 = .ok (.bipush 24, 2) := by decide +kernel
theorem d_X11_four_2 : decode prog_13_method_29_code 2 = .ok (.istore_n 2, 1) := by decide +kernel
theorem d_X11_four_3 : decode prog_13_method_29_code 3 = .ok (.iload_n 2, 1) := by decide +kernel
theorem d_X11_four_4 : decode prog_13_method_29_code 4 = .ok (.ifCond .lt 35, 3) := by decide +kernel
theorem d_X11_four_7 : decode prog_13_method_29_code 7 = .ok (.aload_n 0, 1) := by decide +kernel
theorem d_X11_four_8 : decode prog_13_method_29_code 8 = .ok (.getfield 35, 3) := by decide +kernel
theorem d_X11_four_11 : decode prog_13_method_29_code 11 = .ok (.aload_n 0, 1) := by decide +kernel
theorem d_X11_four_12 : decode prog_13_method_29_code 12 = .ok (.getfield 212, 3) := by decide +kernel
theorem d_X11_four_15 : decode prog_13_method_29_code 15 = .ok (.iload_n 1, 1) := by decide +kernel
theorem d_X11_four_16 : decode prog_13_method_29_code 16 = .ok (.iload_n 2, 1) := by decide +kernel
theorem d_X11_four_17 : decode prog_13_method_29_code 17 = .ok (.ishr, 1) := by decide +kernel
theorem d_X11_four_18 : decode prog_13_method_29_code 18 = .ok (.sipush 255, 3) := by decide +kernel
theorem d_X11_four_21 : decode prog_13_method_29_code 21 = .ok (.iand, 1) := by decide +kernel
theorem d_X11_four_22 : decode prog_13_method_29_code 22 = .ok (.iastore, 1) := by decide +kernel
theorem d_X11_four_23 : decode prog_13_method_29_code 23 = .ok (.aload_n 0, 1) := by decide +kernel
theorem d_X11_four_24 : decode prog_13_method_29_code 24 = .ok (.dup, 1) := by decide +kernel
theorem d_X11_four_25 : decode prog_13_method_29_code 25 = .ok (.getfield 212, 3) := by decide +kernel
theorem d_X11_four_28 : decode prog_13_method_29_code 28 = .ok (.iconst 1, 1) := by decide +kernel
theorem d_X11_four_29 : decode prog_13_method_29_code 29 = .ok (.iadd, 1) := by decide +kernel
theorem d_X11_four_30 : decode prog_13_method_29_code 30 = .ok (.putfield 212, 3) := by decide +kernel
theorem d_X11_four_33 : decode prog_13_method_29_code 33 = .ok (.iinc 2 (-8), 3) := by decide +kernel
theorem d_X11_four_36 : decode prog_13_method_29_code 36 = .ok (.goto (-33), 3) := by decide +kernel
theorem d_X11_four_39 : decode prog_13_method_29_code 39 = .ok (.return_, 1) := by decide +kernel
theorem d_X11_feed_0 : decode prog_13_method_30_code 0 = .ok (.aload_n 0, 1) := by decide +kernel
theorem d_X11_feed_1 : decode prog_13_method_30_code 1 = .ok (.iconst 0, 1) := by decide +kernel
theorem d_X11_feed_2 : decode prog_13_method_30_code 2 = .ok (.putfield 145, 3) := by decide +kernel
theorem d_X11_feed_5 : decode prog_13_method_30_code 5 = .ok (.aload_n 0, 1) := by decide +kernel
theorem d_X11_feed_6 : decode prog_13_method_30_code 6 = .ok (.getfield 212, 3) := by decide +kernel
theorem d_X11_feed_9 : decode prog_13_method_30_code 9 = .ok (.bipush 20, 2) := by decide +kernel
theorem d_X11_feed_11 : decode prog_13_method_30_code 11 = .ok (.iadd, 1) := by decide +kernel
theorem d_X11_feed_12 : decode prog_13_method_30_code 12 = .ok (.sipush 400, 3) := by decide +kernel
theorem d_X11_feed_15 : decode prog_13_method_30_code 15 = .ok (.if_icmp .le 5, 3) := by decide +kernel
theorem d_X11_feed_18 : decode prog_13_method_30_code 18 = .ok (.iconst (-1), 1) := by decide +kernel
theorem d_X11_feed_19 : decode prog_13_method_30_code 19 = .ok (.ireturn, 1) := by decide +kernel
theorem d_X11_feed_20 : decode prog_13_method_30_code 20 = .ok (.aload_n 0, 1) := by decide +kernel
theorem d_X11_feed_21 : decode prog_13_method_30_code 21 = .ok (.iload_n 1, 1) := by decide +kernel
theorem d_X11_feed_22 : decode prog_13_method_30_code 22 = .ok (.invokevirtual 218, 3) := by decide +kernel
theorem d_X11_feed_25 : decode prog_13_method_30_code 25 = .ok (.aload_n 0, 1) := by decide +kernel
theorem d_X11_feed_26 : decode prog_13_method_30_code 26 = .ok (.iload_n 2, 1) := by decide +kernel
theorem d_X11_feed_27 : decode prog_13_method_30_code 27 = .ok (.invokevirtual 218, 3) := by decide +kernel
theorem d_X11_feed_30 : decode prog_13_method_30_code 30 = .ok (.aload_n 0, 1) := by decide +kernel
theorem d_X11_feed_31 : decode prog_13_method_30_code 31 = .ok (.iload_n 3, 1) := by decide +kernel
theorem d_X11_feed_32 : decode prog_13_method_30_code 32 = .ok (.invokevirtual 218, 3) := by decide +kernel
theorem d_X11_feed_35 : decode prog_13_method_30_code 35 = .ok (.aload_n 0, 1) := by decide +kernel
theorem d_X11_feed_36 : decode prog_13_method_30_code 36 = .ok (.iload 4, 2) := by decide +kernel
theorem d_X11_feed_38 : decode prog_13_method_30_code 38 = .ok (.invokevirtual 218, 3) := by decide +kernel
theorem d_X11_feed_41 : decode prog_13_method_30_code 41 = .ok (.aload_n 0, 1) := by decide +kernel
theorem d_X11_feed_42 : decode prog_13_method_30_code 42 = .ok (.iload 5, 2) := by decide +kernel
theorem d_X11_feed_44 : decode prog_13_method_30_code 44 = .ok (.invokevirtual 218, 3) := by decide +kernel
theorem d_X11_feed_47 : decode prog_13_method_30_code 47 = .ok (.aload_n 0, 1) := by decide +kernel
theorem d_X11_feed_48 : decode prog_13_method_30_code 48 = .ok (.getfield 212, 3) := by decide +kernel
theorem d_X11_feed_51 : decode prog_13_method_30_code 51 = .ok (.ireturn, 1) := by decide +kernel
theorem d_X11_end_0 : decode prog_13_method_31_code 0 = .ok (.aload_n 0, 1) := by decide +kernel
theorem d_X11_end_1 : decode prog_13_method_31_code 1 = .ok (.iconst 0, 1) := by decide +kernel
theorem d_X11_end_2 : decode prog_13_method_31_code 2 = .ok (.putfield 145, 3) := by decide +kernel
theorem d_X11_end_5 : decode prog_13_method_31_code 5 = .ok (.iload_n 1, 1) := by decide +kernel
theorem d_X11_end_6 : decode prog_13_method_31_code 6 = .ok (.ifCond .lt 11, 3) := by decide +kernel
theorem d_X11_end_9 : decode prog_13_method_31_code 9 = .ok (.iload_n 1, 1) := by decide +kernel
theorem d_X11_end_10 : decode prog_13_method_31_code 10 = .ok (.aload_n 0, 1) := by decide +kernel
theorem d_X11_end_11 : decode prog_13_method_31_code 11 = .ok (.getfield 212, 3) := by decide +kernel
theorem d_X11_end_14 : decode prog_13_method_31_code 14 = .ok (.if_icmp .le 5, 3) := by decide +kernel
theorem d_X11_end_17 : decode prog_13_method_31_code 17 = .ok (.iconst (-1), 1) := by decide +kernel
theorem d_X11_end_18 : decode prog_13_method_31_code 18 = .ok (.ireturn, 1) := by decide +kernel
theorem d_X11_end_19 : decode prog_13_method_31_code 19 = .ok (.aload_n 0, 1) := by decide +kernel
theorem d_X11_end_20 : decode prog_13_method_31_code 20 = .ok (.iload_n 1, 1) := by decide +kernel
theorem d_X11_end_21 : decode prog_13_method_31_code 21 = .ok (.putfield 212, 3) := by decide +kernel
theorem d_X11_end_24 : decode prog_13_method_31_code 24 = .ok (.iload_n 1, 1) := by decide +kernel
theorem d_X11_end_25 : decode prog_13_method_31_code 25 = .ok (.ireturn, 1) := by decide +kernel
theorem d_X11_isSmall_0 : decode prog_13_method_32_code 0 = .ok (.iload_n 0, 1) := by decide +kernel
theorem d_X11_isSmall_1 : decode prog_13_method_32_code 1 = .ok (.bipush 97, 2) := by decide +kernel
theorem d_X11_isSmall_3 : decode prog_13_method_32_code 3 = .ok (.if_icmp .lt 13, 3) := by decide +kernel
theorem d_X11_isSmall_6 : decode prog_13_method_32_code 6 = .ok (.iload_n 0, 1) := by decide +kernel
theorem d_X11_isSmall_7 : decode prog_13_method_32_code 7 = .ok (.bipush 122, 2) := by decide +kernel
theorem d_X11_isSmall_9 : decode prog_13_method_32_code 9 = .ok (.if_icmp .gt 7, 3) := by decide +kernel
theorem d_X11_isSmall_12 : decode prog_13_method_32_code 12 = .ok (.iconst 1, 1) := by decide +kernel
theorem d_X11_isSmall_13 : decode prog_13_method_32_code 13 = .ok (.goto 4, 3) := by decide +kernel
theorem d_X11_isSmall_16 : decode prog_13_method_32_code 16 = .ok (.iconst 0, 1) := by decide +kernel
theorem d_X11_isSmall_17 : decode prog_13_method_32_code 17 = .ok (.ireturn, 1) := by decide +kernel
theorem d_X11_isDigit_0 : decode prog_13_method_33_code 0 = .ok (.iload_n 0, 1) := by decide +kernel
theorem d_X11_isDigit_1 : decode prog_13_method_33_code 1 = .ok (.bipush 48, 2) := by decide +kernel
theorem d_X11_isDigit_3 : decode prog_13_method_33_code 3 = .ok (.if_icmp .lt 13, 3) := by decide +kernel
theorem d_X11_isDigit_6 : decode prog_13_method_33_code 6 = .ok (.iload_n 0, 1) := by decide +kernel
theorem d_X11_isDigit_7 : decode prog_13_method_33_code 7 = .ok (.bipush 57, 2) := by decide +kernel
theorem d_X11_isDigit_9 : decode prog_13_method_33_code 9 = .ok (.if_icmp .gt 7, 3) := by decide +kernel
theorem d_X11_isDigit_12 : decode prog_13_method_33_code 12 = .ok (.iconst 1, 1) := by decide +kernel
theorem d_X11_isDigit_13 : decode prog_13_method_33_code 13 = .ok (.goto 4, 3) := by decide +kernel
theorem d_X11_isDigit_16 : decode prog_13_method_33_code 16 = .ok (.iconst 0, 1) := by decide +kernel
theorem d_X11_isDigit_17 : decode prog_13_method_33_code 17 = .ok (.ireturn, 1) := by decide +kernel
theorem d_X11_begin_0 : decode prog_13_method_34_code 0 = .ok (.aload_n 0, 1) := by decide +kernel
theorem d_X11_begin_1 : decode prog_13_method_34_code 1 = .ok (.iconst 0, 1) := by decide +kernel
theorem d_X11_begin_2 : decode prog_13_method_34_code 2 = .ok (.putfield 221, 3) := by decide +kernel
theorem d_X11_begin_5 : decode prog_13_method_34_code 5 = .ok (.aload_n 0, 1) := by decide +kernel
theorem d_X11_begin_6 : decode prog_13_method_34_code 6 = .ok (.iconst 0, 1) := by decide +kernel
theorem d_X11_begin_7 : decode prog_13_method_34_code 7 = .ok (.putfield 224, 3) := by decide +kernel
theorem d_X11_begin_10 : decode prog_13_method_34_code 10 = .ok (.aload_n 0, 1) := by decide +kernel
theorem d_X11_begin_11 : decode prog_13_method_34_code 11 = .ok (.iconst (-1), 1) := by decide +kernel
theorem d_X11_begin_12 : decode prog_13_method_34_code 12 = .ok (.putfield 38, 3) := by decide +kernel
theorem d_X11_begin_15 : decode prog_13_method_34_code 15 = .ok (.aload_n 0, 1) := by decide +kernel
theorem d_X11_begin_16 : decode prog_13_method_34_code 16 = .ok (.invokevirtual 228, 3) := by decide +kernel
theorem d_X11_begin_19 : decode prog_13_method_34_code 19 = .ok (.return_, 1) := by decide +kernel
theorem d_X11_next_0 : decode prog_13_method_35_code 0 = .ok (.aload_n 0, 1) := by decide +kernel
theorem d_X11_next_1 : decode prog_13_method_35_code 1 = .ok (.aload_n 0, 1) := by decide +kernel
theorem d_X11_next_2 : decode prog_13_method_35_code 2 = .ok (.getfield 221, 3) := by decide +kernel
theorem d_X11_next_5 : decode prog_13_method_35_code 5 = .ok (.putfield 231, 3) := by decide +kernel
theorem d_X11_next_8 : decode prog_13_method_35_code 8 = .ok (.aload_n 0, 1) := by decide +kernel
theorem d_X11_next_9 : decode prog_13_method_35_code 9 = .ok (.getfield 231, 3) := by decide +kernel
theorem d_X11_next_12 : decode prog_13_method_35_code 12 = .ok (.aload_n 0, 1) := by decide +kernel
theorem d_X11_next_13 : decode prog_13_method_35_code 13 = .ok (.getfield 212, 3) := by decide +kernel
theorem d_X11_next_16 : decode prog_13_method_35_code 16 = .ok (.if_icmp .ge 30, 3) := by decide +kernel
theorem d_X11_next_19 : decode prog_13_method_35_code 19 = .ok (.aload_n 0, 1) := by decide +kernel
theorem d_X11_next_20 : decode prog_13_method_35_code 20 = .ok (.getfield 35, 3) := by decide +kernel
theorem d_X11_next_23 : decode prog_13_method_35_code 23 = .ok (.aload_n 0, 1) := by decide +kernel
theorem d_X11_next_24 : decode prog_13_method_35_code 24 = .ok (.getfield 231, 3) := by decide +kernel
theorem d_X11_next_27 : decode prog_13_method_35_code 27 = .ok (.iaload, 1) := by decide +kernel
theorem d_X11_next_28 : decode prog_13_method_35_code 28 = .ok (.bipush 32, 2) := by decide +kernel
theorem d_X11_next_30 : decode prog_13_method_35_code 30 = .ok (.if_icmp .ne 16, 3) := by decide +kernel
theorem d_X11_next_33 : decode prog_13_method_35_code 33 = .ok (.aload_n 0, 1) := by decide +kernel
theorem d_X11_next_34 : decode prog_13_method_35_code 34 = .ok (.dup, 1) := by decide +kernel
theorem d_X11_next_35 : decode prog_13_method_35_code 35 = .ok (.getfield 231, 3) := by decide +kernel
theorem d_X11_next_38 : decode prog_13_method_35_code 38 = .ok (.iconst 1, 1) := by decide +kernel
theorem d_X11_next_39 : decode prog_13_method_35_code 39 = .ok (.iadd, 1) := by decide +kernel
theorem d_X11_next_40 : decode prog_13_method_35_code 40 = .ok (.putfield 231, 3) := by decide +kernel
theorem d_X11_next_43 : decode prog_13_method_35_code 43 = .ok (.goto (-35), 3) := by decide +kernel
theorem d_X11_next_46 : decode prog_13_method_35_code 46 = .ok (.aload_n 0, 1) := by decide +kernel
theorem d_X11_next_47 : decode prog_13_method_35_code 47 = .ok (.aload_n 0, 1) := by decide +kernel
theorem d_X11_next_48 : decode prog_13_method_35_code 48 = .ok (.getfield 231, 3) := by decide +kernel
theorem d_X11_next_51 : decode prog_13_method_35_code 51 = .ok (.putfield 221, 3) := by decide +kernel
theorem d_X11_next_54 : decode prog_13_method_35_code 54 = .ok (.aload_n 0, 1) := by decide +kernel
theorem d_X11_next_55 : decode prog_13_method_35_code 55 = .ok (.lconst 0, 1) := by decide +kernel
theorem d_X11_next_56 : decode prog_13_method_35_code 56 = .ok (.putfield 234, 3) := by decide +kernel
theorem d_X11_next_59 : decode prog_13_method_35_code 59 = .ok (.aload_n 0, 1) := by decide +kernel
theorem d_X11_next_60 : decode prog_13_method_35_code 60 = .ok (.aload_n 0, 1) := by decide +kernel
theorem d_X11_next_61 : decode prog_13_method_35_code 61 = .ok (.getfield 231, 3) := by decide +kernel
theorem d_X11_next_64 : decode prog_13_method_35_code 64 = .ok (.aload_n 0, 1) := by decide +kernel
theorem d_X11_next_65 : decode prog_13_method_35_code 65 = .ok (.getfield 212, 3) := by decide +kernel
theorem d_X11_next_68 : decode prog_13_method_35_code 68 = .ok (.if_icmp .ne 7, 3) := by decide +kernel
theorem d_X11_next_71 : decode prog_13_method_35_code 71 = .ok (.iconst 0, 1) := by decide +kernel
theorem d_X11_next_72 : decode prog_13_method_35_code 72 = .ok (.goto 42, 3) := by decide +kernel
theorem d_X11_next_75 : decode prog_13_method_35_code 75 = .ok (.aload_n 0, 1) := by decide +kernel
theorem d_X11_next_76 : decode prog_13_method_35_code 76 = .ok (.getfield 35, 3) := by decide +kernel
theorem d_X11_next_79 : decode prog_13_method_35_code 79 = .ok (.aload_n 0, 1) := by decide +kernel
theorem d_X11_next_80 : decode prog_13_method_35_code 80 = .ok (.getfield 231, 3) := by decide +kernel
theorem d_X11_next_83 : decode prog_13_method_35_code 83 = .ok (.iaload, 1) := by decide +kernel
theorem d_X11_next_84 : decode prog_13_method_35_code 84 = .ok (.invokestatic 238, 3) := by decide +kernel
theorem d_X11_next_87 : decode prog_13_method_35_code 87 = .ok (.ifCond .eq 7, 3) := by decide +kernel
theorem d_X11_next_90 : decode prog_13_method_35_code 90 = .ok (.iconst 1, 1) := by decide +kernel
theorem d_X11_next_91 : decode prog_13_method_35_code 91 = .ok (.goto 23, 3) := by decide +kernel
theorem d_X11_next_94 : decode prog_13_method_35_code 94 = .ok (.aload_n 0, 1) := by decide +kernel
theorem d_X11_next_95 : decode prog_13_method_35_code 95 = .ok (.getfield 35, 3) := by decide +kernel
theorem d_X11_next_98 : decode prog_13_method_35_code 98 = .ok (.aload_n 0, 1) := by decide +kernel
theorem d_X11_next_99 : decode prog_13_method_35_code 99 = .ok (.getfield 231, 3) := by decide +kernel
theorem d_X11_next_102 : decode prog_13_method_35_code 102 = .ok (.iaload, 1) := by decide +kernel
theorem d_X11_next_103 : decode prog_13_method_35_code 103 = .ok (.invokestatic 241, 3) := by decide +kernel
theorem d_X11_next_106 : decode prog_13_method_35_code 106 = .ok (.ifCond .eq 7, 3) := by decide +kernel
theorem d_X11_next_109 : decode prog_13_method_35_code 109 = .ok (.iconst 2, 1) := by decide +kernel
theorem d_X11_next_110 : decode prog_13_method_35_code 110 = .ok (.goto 4, 3) := by decide +kernel
theorem d_X11_next_113 : decode prog_13_method_35_code 113 = .ok (.iconst 3, 1) := by decide +kernel
theorem d_X11_next_114 : decode prog_13_method_35_code 114 = .ok (.putfield 244, 3) := by decide +kernel
theorem d_X11_next_117 : decode prog_13_method_35_code 117 = .ok (.aload_n 0, 1) := by decide +kernel
theorem d_X11_next_118 : decode prog_13_method_35_code 118 = .ok (.getfield 244, 3) := by decide +kernel
theorem d_X11_next_121 : decode prog_13_method_35_code 121 = .ok (.iconst 3, 1) := by decide +kernel
theorem d_X11_next_122 : decode prog_13_method_35_code 122 = .ok (.if_icmp .ne 27, 3) := by decide +kernel
theorem d_X11_next_125 : decode prog_13_method_35_code 125 = .ok (.aload_n 0, 1) := by decide +kernel
theorem d_X11_next_126 : decode prog_13_method_35_code 126 = .ok (.aload_n 0, 1) := by decide +kernel
theorem d_X11_next_127 : decode prog_13_method_35_code 127 = .ok (.getfield 35, 3) := by decide +kernel
theorem d_X11_next_130 : decode prog_13_method_35_code 130 = .ok (.aload_n 0, 1) := by decide +kernel
theorem d_X11_next_131 : decode prog_13_method_35_code 131 = .ok (.getfield 231, 3) := by decide +kernel
theorem d_X11_next_134 : decode prog_13_method_35_code 134 = .ok (.iaload, 1) := by decide +kernel
theorem d_X11_next_135 : decode prog_13_method_35_code 135 = .ok (.i2l, 1) := by decide +kernel
theorem d_X11_next_136 : decode prog_13_method_35_code 136 = .ok (.putfield 234, 3) := by decide +kernel
theorem d_X11_next_139 : decode prog_13_method_35_code 139 = .ok (.aload_n 0, 1) := by decide +kernel
theorem d_X11_next_140 : decode prog_13_method_35_code 140 = .ok (.dup, 1) := by decide +kernel
theorem d_X11_next_141 : decode prog_13_method_35_code 141 = .ok (.getfield 221, 3) := by decide +kernel
theorem d_X11_next_144 : decode prog_13_method_35_code 144 = .ok (.iconst 1, 1) := by decide +kernel
theorem d_X11_next_145 : decode prog_13_method_35_code 145 = .ok (.iadd, 1) := by decide +kernel
theorem d_X11_next_146 : decode prog_13_method_35_code 146 = .ok (.putfield 221, 3) := by decide +kernel
theorem d_X11_next_149 : decode prog_13_method_35_code 149 = .ok (.aload_n 0, 1) := by decide +kernel
theorem d_X11_next_150 : decode prog_13_method_35_code 150 = .ok (.getfield 244, 3) := by decide +kernel
theorem d_X11_next_153 : decode prog_13_method_35_code 153 = .ok (.iconst 1, 1) := by decide +kernel
theorem d_X11_next_154 : decode prog_13_method_35_code 154 = .ok (.if_icmp .ne 89, 3) := by decide +kernel
theorem d_X11_next_157 : decode prog_13_method_35_code 157 = .ok (.aload_n 0, 1) := by decide +kernel
theorem d_X11_next_158 : decode prog_13_method_35_code 158 = .ok (.getfield 221, 3) := by decide +kernel
theorem d_X11_next_161 : decode prog_13_method_35_code 161 = .ok (.aload_n 0, 1) := by decide +kernel
theorem d_X11_next_162 : decode prog_13_method_35_code 162 = .ok (.getfield 212, 3) := by decide +kernel
theorem d_X11_next_165 : decode prog_13_method_35_code 165 = .ok (.if_icmp .ge 78, 3) := by decide +kernel
theorem d_X11_next_168 : decode prog_13_method_35_code 168 = .ok (.aload_n 0, 1) := by decide +kernel
theorem d_X11_next_169 : decode prog_13_method_35_code 169 = .ok (.getfield 35, 3) := by decide +kernel
theorem d_X11_next_172 : decode prog_13_method_35_code 172 = .ok (.aload_n 0, 1) := by decide +kernel
theorem d_X11_next_173 : decode prog_13_method_35_code 173 = .ok (.getfield 221, 3) := by decide +kernel
theorem d_X11_next_176 : decode prog_13_method_35_code 176 = .ok (.iaload, 1) := by decide +kernel
theorem d_X11_next_177 : decode prog_13_method_35_code 177 = .ok (.invokestatic 238, 3) := by decide +kernel
theorem d_X11_next_180 : decode prog_13_method_35_code 180 = .ok (.ifCond .eq 63, 3) := by decide +kernel
theorem d_X11_next_183 : decode prog_13_method_35_code 183 = .ok (.aload_n 0, 1) := by decide +kernel
theorem d_X11_next_184 : decode prog_13_method_35_code 184 = .ok (.aload_n 0, 1) := by decide +kernel
theorem d_X11_next_185 : decode prog_13_method_35_code 185 = .ok (.getfield 221, 3) := by decide +kernel
theorem d_X11_next_188 : decode prog_13_method_35_code 188 = .ok (.aload_n 0, 1) := by decide +kernel
theorem d_X11_next_189 : decode prog_13_method_35_code 189 = .ok (.getfield 231, 3) := by decide +kernel
theorem d_X11_next_192 : decode prog_13_method_35_code 192 = .ok (.isub, 1) := by decide +kernel
theorem d_X11_next_193 : decode prog_13_method_35_code 193 = .ok (.bipush 10, 2) := by decide +kernel
theorem d_X11_next_195 : decode prog_13_method_35_code 195 = .ok (.if_icmp .ge 29, 3) := by decide +kernel
theorem d_X11_next_198 : decode prog_13_method_35_code 198 = .ok (.aload_n 0, 1) := by decide +kernel
theorem d_X11_next_199 : decode prog_13_method_35_code 199 = .ok (.getfield 234, 3) := by decide +kernel
theorem d_X11_next_202 : decode prog_13_method_35_code 202 = .ok (.ldc2_w 247, 3) := by decide +kernel
theorem d_X11_next_205 : decode prog_13_method_35_code 205 = .ok (.lmul, 1) := by decide +kernel
theorem d_X11_next_206 : decode prog_13_method_35_code 206 = .ok (.aload_n 0, 1) := by decide +kernel
theorem d_X11_next_207 : decode prog_13_method_35_code 207 = .ok (.getfield 35, 3) := by decide +kernel
theorem d_X11_next_210 : decode prog_13_method_35_code 210 = .ok (.aload_n 0, 1) := by decide +kernel
theorem d_X11_next_211 : decode prog_13_method_35_code 211 = .ok (.getfield 221, 3) := by decide +kernel
theorem d_X11_next_214 : decode prog_13_method_35_code 214 = .ok (.iaload, 1) := by decide +kernel
theorem d_X11_next_215 : decode prog_13_method_35_code 215 = .ok (.i2l, 1) := by decide +kernel
theorem d_X11_next_216 : decode prog_13_method_35_code 216 = .ok (.ladd, 1) := by decide +kernel
theorem d_X11_next_217 : decode prog_13_method_35_code 217 = .ok (.ldc2_w 249, 3) := by decide +kernel
theorem d_X11_next_220 : decode prog_13_method_35_code 220 = .ok (.lsub, 1) := by decide +kernel
theorem d_X11_next_221 : decode prog_13_method_35_code 221 = .ok (.goto 6, 3) := by decide +kernel
theorem d_X11_next_224 : decode prog_13_method_35_code 224 = .ok (.ldc2_w 251, 3) := by decide +kernel
theorem d_X11_next_227 : decode prog_13_method_35_code 227 = .ok (.putfield 234, 3) := by decide +kernel
theorem d_X11_next_230 : decode prog_13_method_35_code 230 = .ok (.aload_n 0, 1) := by decide +kernel
theorem d_X11_next_231 : decode prog_13_method_35_code 231 = .ok (.dup, 1) := by decide +kernel
theorem d_X11_next_232 : decode prog_13_method_35_code 232 = .ok (.getfield 221, 3) := by decide +kernel
theorem d_X11_next_235 : decode prog_13_method_35_code 235 = .ok (.iconst 1, 1) := by decide +kernel
theorem d_X11_next_236 : decode prog_13_method_35_code 236 = .ok (.iadd, 1) := by decide +kernel
theorem d_X11_next_237 : decode prog_13_method_35_code 237 = .ok (.putfield 221, 3) := by decide +kernel
theorem d_X11_next_240 : decode prog_13_method_35_code 240 = .ok (.goto (-91), 3) := by decide +kernel
theorem d_X11_next_243 : decode prog_13_method_35_code 243 = .ok (.aload_n 0, 1) := by decide +kernel
theorem d_X11_next_244 : decode prog_13_method_35_code 244 = .ok (.getfield 244, 3) := by decide +kernel
theorem d_X11_next_247 : decode prog_13_method_35_code 247 = .ok (.iconst 2, 1) := by decide +kernel
theorem d_X11_next_248 : decode prog_13_method_35_code 248 = .ok (.if_icmp .ne 87, 3) := by decide +kernel
theorem d_X11_next_251 : decode prog_13_method_35_code 251 = .ok (.aload_n 0, 1) := by decide +kernel
theorem d_X11_next_252 : decode prog_13_method_35_code 252 = .ok (.getfield 221, 3) := by decide +kernel
theorem d_X11_next_255 : decode prog_13_method_35_code 255 = .ok (.aload_n 0, 1) := by decide +kernel
theorem d_X11_next_256 : decode prog_13_method_35_code 256 = .ok (.getfield 212, 3) := by decide +kernel
theorem d_X11_next_259 : decode prog_13_method_35_code 259 = .ok (.if_icmp .ge 76, 3) := by decide +kernel
theorem d_X11_next_262 : decode prog_13_method_35_code 262 = .ok (.aload_n 0, 1) := by decide +kernel
theorem d_X11_next_263 : decode prog_13_method_35_code 263 = .ok (.getfield 35, 3) := by decide +kernel
theorem d_X11_next_266 : decode prog_13_method_35_code 266 = .ok (.aload_n 0, 1) := by decide +kernel
theorem d_X11_next_267 : decode prog_13_method_35_code 267 = .ok (.getfield 221, 3) := by decide +kernel
theorem d_X11_next_270 : decode prog_13_method_35_code 270 = .ok (.iaload, 1) := by decide +kernel
theorem d_X11_next_271 : decode prog_13_method_35_code 271 = .ok (.invokestatic 241, 3) := by decide +kernel
theorem d_X11_next_274 : decode prog_13_method_35_code 274 = .ok (.ifCond .eq 61, 3) := by decide +kernel
theorem d_X11_next_277 : decode prog_13_method_35_code 277 = .ok (.aload_n 0, 1) := by decide +kernel
theorem d_X11_next_278 : decode prog_13_method_35_code 278 = .ok (.aload_n 0, 1) := by decide +kernel
theorem d_X11_next_279 : decode prog_13_method_35_code 279 = .ok (.getfield 234, 3) := by decide +kernel
theorem d_X11_next_282 : decode prog_13_method_35_code 282 = .ok (.ldc2_w 253, 3) := by decide +kernel
theorem d_X11_next_285 : decode prog_13_method_35_code 285 = .ok (.lcmp, 1) := by decide +kernel
theorem d_X11_next_286 : decode prog_13_method_35_code 286 = .ok (.ifCond .le 10, 3) := by decide +kernel
theorem d_X11_next_289 : decode prog_13_method_35_code 289 = .ok (.aload_n 0, 1) := by decide +kernel
theorem d_X11_next_290 : decode prog_13_method_35_code 290 = .ok (.getfield 234, 3) := by decide +kernel
theorem d_X11_next_293 : decode prog_13_method_35_code 293 = .ok (.goto 26, 3) := by decide +kernel
theorem d_X11_next_296 : decode prog_13_method_35_code 296 = .ok (.aload_n 0, 1) := by decide +kernel
theorem d_X11_next_297 : decode prog_13_method_35_code 297 = .ok (.getfield 234, 3) := by decide +kernel
theorem d_X11_next_300 : decode prog_13_method_35_code 300 = .ok (.ldc2_w 210, 3) := by decide +kernel
theorem d_X11_next_303 : decode prog_13_method_35_code 303 = .ok (.lmul, 1) := by decide +kernel
theorem d_X11_next_304 : decode prog_13_method_35_code 304 = .ok (.aload_n 0, 1) := by decide +kernel
theorem d_X11_next_305 : decode prog_13_method_35_code 305 = .ok (.getfield 35, 3) := by decide +kernel
theorem d_X11_next_308 : decode prog_13_method_35_code 308 = .ok (.aload_n 0, 1) := by decide +kernel
theorem d_X11_next_309 : decode prog_13_method_35_code 309 = .ok (.getfield 221, 3) := by decide +kernel
theorem d_X11_next_312 : decode prog_13_method_35_code 312 = .ok (.iaload, 1) := by decide +kernel
theorem d_X11_next_313 : decode prog_13_method_35_code 313 = .ok (.i2l, 1) := by decide +kernel
theorem d_X11_next_314 : decode prog_13_method_35_code 314 = .ok (.ladd, 1) := by decide +kernel
theorem d_X11_next_315 : decode prog_13_method_35_code 315 = .ok (.ldc2_w 255, 3) := by decide +kernel
theorem d_X11_next_318 : decode prog_13_method_35_code 318 = .ok (.lsub, 1) := by decide +kernel
theorem d_X11_next_319 : decode prog_13_method_35_code 319 = .ok (.putfield 234, 3) := by decide +kernel
theorem d_X11_next_322 : decode prog_13_method_35_code 322 = .ok (.aload_n 0, 1) := by decide +kernel
theorem d_X11_next_323 : decode prog_13_method_35_code 323 = .ok (.dup, 1) := by decide +kernel
theorem d_X11_next_324 : decode prog_13_method_35_code 324 = .ok (.getfield 221, 3) := by decide +kernel
theorem d_X11_next_327 : decode prog_13_method_35_code 327 = .ok (.iconst 1, 1) := by decide +kernel
theorem d_X11_next_328 : decode prog_13_method_35_code 328 = .ok (.iadd, 1) := by decide +kernel
theorem d_X11_next_329 : decode prog_13_method_35_code 329 = .ok (.putfield 221, 3) := by decide +kernel
theorem d_X11_next_332 : decode prog_13_method_35_code 332 = .ok (.goto (-89), 3) := by decide +kernel
theorem d_X11_next_335 : decode prog_13_method_35_code 335 = .ok (.return_, 1) := by decide +kernel
theorem d_X11_isWord_0 : decode prog_13_method_36_code 0 = .ok (.aload_n 0, 1) := by decide +kernel
theorem d_X11_isWord_1 : decode prog_13_method_36_code 1 = .ok (.getfield 244, 3) := by decide +kernel
theorem d_X11_isWord_4 : decode prog_13_method_36_code 4 = .ok (.iconst 1, 1) := by decide +kernel
theorem d_X11_isWord_5 : decode prog_13_method_36_code 5 = .ok (.if_icmp .ne 16, 3) := by decide +kernel
theorem d_X11_isWord_8 : decode prog_13_method_36_code 8 = .ok (.aload_n 0, 1) := by decide +kernel
theorem d_X11_isWord_9 : decode prog_13_method_36_code 9 = .ok (.getfield 234, 3) := by decide +kernel
theorem d_X11_isWord_12 : decode prog_13_method_36_code 12 = .ok (.lload_n 1, 1) := by decide +kernel
theorem d_X11_isWord_13 : decode prog_13_method_36_code 13 = .ok (.lcmp, 1) := by decide +kernel
theorem d_X11_isWord_14 : decode prog_13_method_36_code 14 = .ok (.ifCond .ne 7, 3) := by decide +kernel
theorem d_X11_isWord_17 : decode prog_13_method_36_code 17 = .ok (.iconst 1, 1) := by decide +kernel
theorem d_X11_isWord_18 : decode prog_13_method_36_code 18 = .ok (.goto 4, 3) := by decide +kernel
theorem d_X11_isWord_21 : decode prog_13_method_36_code 21 = .ok (.iconst 0, 1) := by decide +kernel
theorem d_X11_isWord_22 : decode prog_13_method_36_code 22 = .ok (.ireturn, 1) := by decide +kernel
theorem d_X11_isSign_0 : decode prog_13_method_37_code 0 = .ok (.aload_n 0, 1) := by decide +kernel
theorem d_X11_isSign_1 : decode prog_13_method_37_code 1 = .ok (.getfield 244, 3) := by decide +kernel
theorem d_X11_isSign_4 : decode prog_13_method_37_code 4 = .ok (.iconst 3, 1) := by decide +kernel
theorem d_X11_isSign_5 : decode prog_13_method_37_code 5 = .ok (.if_icmp .ne 17, 3) := by decide +kernel
theorem d_X11_isSign_8 : decode prog_13_method_37_code 8 = .ok (.aload_n 0, 1) := by decide +kernel
theorem d_X11_isSign_9 : decode prog_13_method_37_code 9 = .ok (.getfield 234, 3) := by decide +kernel
theorem d_X11_isSign_12 : decode prog_13_method_37_code 12 = .ok (.iload_n 1, 1) := by decide +kernel
theorem d_X11_isSign_13 : decode prog_13_method_37_code 13 = .ok (.i2l, 1) := by decide +kernel
theorem d_X11_isSign_14 : decode prog_13_method_37_code 14 = .ok (.lcmp, 1) := by decide +kernel
theorem d_X11_isSign_15 : decode prog_13_method_37_code 15 = .ok (.ifCond .ne 7, 3) := by decide +kernel
theorem d_X11_isSign_18 : decode prog_13_method_37_code 18 = .ok (.iconst 1, 1) := by decide +kernel
theorem d_X11_isSign_19 : decode prog_13_method_37_code 19 = .ok (.goto 4, 3) := by decide +kernel
theorem d_X11_isSign_22 : decode prog_13_method_37_code 22 = .ok (.iconst 0, 1) := by decide +kernel
theorem d_X11_isSign_23 : decode prog_13_method_37_code 23 = .ok (.ireturn, 1) := by decide +kernel
theorem d_X11_must_0 : decode prog_13_method_38_code 0 = .ok (.aload_n 0, 1) := by decide +kernel
theorem d_X11_must_1 : decode prog_13_method_38_code 1 = .ok (.getfield 224, 3) := by decide +kernel
theorem d_X11_must_4 : decode prog_13_method_38_code 4 = .ok (.ifCond .ne 20, 3) := by decide +kernel
theorem d_X11_must_7 : decode prog_13_method_38_code 7 = .ok (.iload_n 1, 1) := by decide +kernel
theorem d_X11_must_8 : decode prog_13_method_38_code 8 = .ok (.ifCond .ne 16, 3) := by decide +kernel
theorem d_X11_must_11 : decode prog_13_method_38_code 11 = .ok (.aload_n 0, 1) := by decide +kernel
theorem d_X11_must_12 : decode prog_13_method_38_code 12 = .ok (.iconst 1, 1) := by decide +kernel
theorem d_X11_must_13 : decode prog_13_method_38_code 13 = .ok (.putfield 224, 3) := by decide +kernel
theorem d_X11_must_16 : decode prog_13_method_38_code 16 = .ok (.aload_n 0, 1) := by decide +kernel
theorem d_X11_must_17 : decode prog_13_method_38_code 17 = .ok (.aload_n 0, 1) := by decide +kernel
theorem d_X11_must_18 : decode prog_13_method_38_code 18 = .ok (.getfield 231, 3) := by decide +kernel
theorem d_X11_must_21 : decode prog_13_method_38_code 21 = .ok (.putfield 38, 3) := by decide +kernel
theorem d_X11_must_24 : decode prog_13_method_38_code 24 = .ok (.aload_n 0, 1) := by decide +kernel
theorem d_X11_must_25 : decode prog_13_method_38_code 25 = .ok (.getfield 224, 3) := by decide +kernel
theorem d_X11_must_28 : decode prog_13_method_38_code 28 = .ok (.ifCond .ne 7, 3) := by decide +kernel
theorem d_X11_must_31 : decode prog_13_method_38_code 31 = .ok (.aload_n 0, 1) := by decide +kernel
theorem d_X11_must_32 : decode prog_13_method_38_code 32 = .ok (.invokevirtual 228, 3) := by decide +kernel
theorem d_X11_must_35 : decode prog_13_method_38_code 35 = .ok (.return_, 1) := by decide +kernel
theorem d_X11_number_0 : decode prog_13_method_39_code 0 = .ok (.aload_n 0, 1) := by decide +kernel
theorem d_X11_number_1 : decode prog_13_method_39_code 1 = .ok (.getfield 234, 3) := by decide +kernel
theorem d_X11_number_4 : decode prog_13_method_39_code 4 = .ok (.l2i, 1) := by decide +kernel
theorem d_X11_number_5 : decode prog_13_method_39_code 5 = .ok (.istore 5, 2) := by decide +kernel
theorem d_X11_number_7 : decode prog_13_method_39_code 7 = .ok (.aload_n 0, 1) := by decide +kernel
theorem d_X11_number_8 : decode prog_13_method_39_code 8 = .ok (.aload_n 0, 1) := by decide +kernel
theorem d_X11_number_9 : decode prog_13_method_39_code 9 = .ok (.getfield 244, 3) := by decide +kernel
theorem d_X11_number_12 : decode prog_13_method_39_code 12 = .ok (.iconst 2, 1) := by decide +kernel
theorem d_X11_number_13 : decode prog_13_method_39_code 13 = .ok (.if_icmp .ne 19, 3) := by decide +kernel
theorem d_X11_number_16 : decode prog_13_method_39_code 16 = .ok (.aload_n 0, 1) := by decide +kernel
theorem d_X11_number_17 : decode prog_13_method_39_code 17 = .ok (.getfield 234, 3) := by decide +kernel
theorem d_X11_number_20 : decode prog_13_method_39_code 20 = .ok (.lload_n 1, 1) := by decide +kernel
theorem d_X11_number_21 : decode prog_13_method_39_code 21 = .ok (.lload_n 3, 1) := by decide +kernel
theorem d_X11_number_22 : decode prog_13_method_39_code 22 = .ok (.invokestatic 165, 3) := by decide +kernel
theorem d_X11_number_25 : decode prog_13_method_39_code 25 = .ok (.ifCond .eq 7, 3) := by decide +kernel
theorem d_X11_number_28 : decode prog_13_method_39_code 28 = .ok (.iconst 1, 1) := by decide +kernel
theorem d_X11_number_29 : decode prog_13_method_39_code 29 = .ok (.goto 4, 3) := by decide +kernel
theorem d_X11_number_32 : decode prog_13_method_39_code 32 = .ok (.iconst 0, 1) := by decide +kernel
theorem d_X11_number_33 : decode prog_13_method_39_code 33 = .ok (.invokevirtual 257, 3) := by decide +kernel
theorem d_X11_number_36 : decode prog_13_method_39_code 36 = .ok (.iload 5, 2) := by decide +kernel
theorem d_X11_number_38 : decode prog_13_method_39_code 38 = .ok (.ireturn, 1) := by decide +kernel
theorem d_X11_fault_0 : decode prog_13_method_40_code 0 = .ok (.aload_n 0, 1) := by decide +kernel
theorem d_X11_fault_1 : decode prog_13_method_40_code 1 = .ok (.iconst 0, 1) := by decide +kernel
theorem d_X11_fault_2 : decode prog_13_method_40_code 2 = .ok (.putfield 145, 3) := by decide +kernel
theorem d_X11_fault_5 : decode prog_13_method_40_code 5 = .ok (.aload_n 0, 1) := by decide +kernel
theorem d_X11_fault_6 : decode prog_13_method_40_code 6 = .ok (.getfield 38, 3) := by decide +kernel
theorem d_X11_fault_9 : decode prog_13_method_40_code 9 = .ok (.ireturn, 1) := by decide +kernel
theorem d_X11_emit_0 : decode prog_13_method_41_code 0 = .ok (.aload_n 0, 1) := by decide +kernel
theorem d_X11_emit_1 : decode prog_13_method_41_code 1 = .ok (.getfield 45, 3) := by decide +kernel
theorem d_X11_emit_4 : decode prog_13_method_41_code 4 = .ok (.aload_n 0, 1) := by decide +kernel
theorem d_X11_emit_5 : decode prog_13_method_41_code 5 = .ok (.getfield 261, 3) := by decide +kernel
theorem d_X11_emit_8 : decode prog_13_method_41_code 8 = .ok (.iload_n 1, 1) := by decide +kernel
theorem d_X11_emit_9 : decode prog_13_method_41_code 9 = .ok (.iastore, 1) := by decide +kernel
theorem d_X11_emit_10 : decode prog_13_method_41_code 10 = .ok (.aload_n 0, 1) := by decide +kernel
theorem d_X11_emit_11 : decode prog_13_method_41_code 11 = .ok (.getfield 48, 3) := by decide +kernel
theorem d_X11_emit_14 : decode prog_13_method_41_code 14 = .ok (.aload_n 0, 1) := by decide +kernel
theorem d_X11_emit_15 : decode prog_13_method_41_code 15 = .ok (.getfield 261, 3) := by decide +kernel
theorem d_X11_emit_18 : decode prog_13_method_41_code 18 = .ok (.iload_n 2, 1) := by decide +kernel
theorem d_X11_emit_19 : decode prog_13_method_41_code 19 = .ok (.iastore, 1) := by decide +kernel
theorem d_X11_emit_20 : decode prog_13_method_41_code 20 = .ok (.aload_n 0, 1) := by decide +kernel
theorem d_X11_emit_21 : decode prog_13_method_41_code 21 = .ok (.dup, 1) := by decide +kernel
theorem d_X11_emit_22 : decode prog_13_method_41_code 22 = .ok (.getfield 261, 3) := by decide +kernel
theorem d_X11_emit_25 : decode prog_13_method_41_code 25 = .ok (.iconst 1, 1) := by decide +kernel
theorem d_X11_emit_26 : decode prog_13_method_41_code 26 = .ok (.iadd, 1) := by decide +kernel
theorem d_X11_emit_27 : decode prog_13_method_41_code 27 = .ok (.putfield 261, 3) := by decide +kernel
theorem d_X11_emit_30 : decode prog_13_method_41_code 30 = .ok (.return_, 1) := by decide +kernel
theorem d_X11_push_0 : decode prog_13_method_42_code 0 = .ok (.aload_n 0, 1) := by decide +kernel
theorem d_X11_push_1 : decode prog_13_method_42_code 1 = .ok (.getfield 51, 3) := by decide +kernel
theorem d_X11_push_4 : decode prog_13_method_42_code 4 = .ok (.aload_n 0, 1) := by decide +kernel
theorem d_X11_push_5 : decode prog_13_method_42_code 5 = .ok (.getfield 264, 3) := by decide +kernel
theorem d_X11_push_8 : decode prog_13_method_42_code 8 = .ok (.iload_n 1, 1) := by decide +kernel
theorem d_X11_push_9 : decode prog_13_method_42_code 9 = .ok (.iastore, 1) := by decide +kernel
theorem d_X11_push_10 : decode prog_13_method_42_code 10 = .ok (.aload_n 0, 1) := by decide +kernel
theorem d_X11_push_11 : decode prog_13_method_42_code 11 = .ok (.getfield 54, 3) := by decide +kernel
theorem d_X11_push_14 : decode prog_13_method_42_code 14 = .ok (.aload_n 0, 1) := by decide +kernel
theorem d_X11_push_15 : decode prog_13_method_42_code 15 = .ok (.getfield 264, 3) := by decide +kernel
theorem d_X11_push_18 : decode prog_13_method_42_code 18 = .ok (.iload_n 2, 1) := by decide +kernel
theorem d_X11_push_19 : decode prog_13_method_42_code 19 = .ok (.iastore, 1) := by decide +kernel
theorem d_X11_push_20 : decode prog_13_method_42_code 20 = .ok (.aload_n 0, 1) := by decide +kernel
theorem d_X11_push_21 : decode prog_13_method_42_code 21 = .ok (.dup, 1) := by decide +kernel
theorem d_X11_push_22 : decode prog_13_method_42_code 22 = .ok (.getfield 264, 3) := by decide +kernel
theorem d_X11_push_25 : decode prog_13_method_42_code 25 = .ok (.iconst 1, 1) := by decide +kernel
theorem d_X11_push_26 : decode prog_13_method_42_code 26 = .ok (.iadd, 1) := by decide +kernel
theorem d_X11_push_27 : decode prog_13_method_42_code 27 = .ok (.putfield 264, 3) := by decide +kernel
theorem d_X11_push_30 : decode prog_13_method_42_code 30 = .ok (.return_, 1) := by decide +kernel
theorem d_X11_binds_0 : decode prog_13_method_43_code 0 = .ok (.iload_n 0, 1) := by decide +kernel
theorem d_X11_binds_1 : decode prog_13_method_43_code 1 = .ok (.bipush 31, 2) := by decide +kernel
theorem d_X11_binds_3 : decode prog_13_method_43_code 3 = .ok (.if_icmp .lt 7, 3) := by decide +kernel
theorem d_X11_binds_6 : decode prog_13_method_43_code 6 = .ok (.iconst 0, 1) := by decide +kernel
theorem d_X11_binds_7 : decode prog_13_method_43_code 7 = .ok (.goto 55, 3) := by decide +kernel
theorem d_X11_binds_10 : decode prog_13_method_43_code 10 = .ok (.iload_n 0, 1) := by decide +kernel
theorem d_X11_binds_11 : decode prog_13_method_43_code 11 = .ok (.bipush 30, 2) := by decide +kernel
theorem d_X11_binds_13 : decode prog_13_method_43_code 13 = .ok (.if_icmp .ne 7, 3) := by decide +kernel
theorem d_X11_binds_16 : decode prog_13_method_43_code 16 = .ok (.iconst 1, 1) := by decide +kernel
theorem d_X11_binds_17 : decode prog_13_method_43_code 17 = .ok (.goto 45, 3) := by decide +kernel
theorem d_X11_binds_20 : decode prog_13_method_43_code 20 = .ok (.iload_n 0, 1) := by decide +kernel
theorem d_X11_binds_21 : decode prog_13_method_43_code 21 = .ok (.bipush 29, 2) := by decide +kernel
theorem d_X11_binds_23 : decode prog_13_method_43_code 23 = .ok (.if_icmp .ne 7, 3) := by decide +kernel
theorem d_X11_binds_26 : decode prog_13_method_43_code 26 = .ok (.iconst 2, 1) := by decide +kernel
theorem d_X11_binds_27 : decode prog_13_method_43_code 27 = .ok (.goto 35, 3) := by decide +kernel
theorem d_X11_binds_30 : decode prog_13_method_43_code 30 = .ok (.iload_n 0, 1) := by decide +kernel
theorem d_X11_binds_31 : decode prog_13_method_43_code 31 = .ok (.bipush 28, 2) := by decide +kernel
theorem d_X11_binds_33 : decode prog_13_method_43_code 33 = .ok (.if_icmp .ne 7, 3) := by decide +kernel
theorem d_X11_binds_36 : decode prog_13_method_43_code 36 = .ok (.iconst 3, 1) := by decide +kernel
theorem d_X11_binds_37 : decode prog_13_method_43_code 37 = .ok (.goto 25, 3) := by decide +kernel
theorem d_X11_binds_40 : decode prog_13_method_43_code 40 = .ok (.iload_n 0, 1) := by decide +kernel
theorem d_X11_binds_41 : decode prog_13_method_43_code 41 = .ok (.bipush 25, 2) := by decide +kernel
theorem d_X11_binds_43 : decode prog_13_method_43_code 43 = .ok (.if_icmp .lt 7, 3) := by decide +kernel
theorem d_X11_binds_46 : decode prog_13_method_43_code 46 = .ok (.iconst 4, 1) := by decide +kernel
theorem d_X11_binds_47 : decode prog_13_method_43_code 47 = .ok (.goto 15, 3) := by decide +kernel
theorem d_X11_binds_50 : decode prog_13_method_43_code 50 = .ok (.iload_n 0, 1) := by decide +kernel
theorem d_X11_binds_51 : decode prog_13_method_43_code 51 = .ok (.bipush 22, 2) := by decide +kernel
theorem d_X11_binds_53 : decode prog_13_method_43_code 53 = .ok (.if_icmp .lt 8, 3) := by decide +kernel
theorem d_X11_binds_56 : decode prog_13_method_43_code 56 = .ok (.bipush 6, 2) := by decide +kernel
theorem d_X11_binds_58 : decode prog_13_method_43_code 58 = .ok (.goto 4, 3) := by decide +kernel
theorem d_X11_binds_61 : decode prog_13_method_43_code 61 = .ok (.iconst 5, 1) := by decide +kernel
theorem d_X11_binds_62 : decode prog_13_method_43_code 62 = .ok (.ireturn, 1) := by decide +kernel
theorem d_X11_settle_0 : decode prog_13_method_44_code 0 = .ok (.aload_n 0, 1) := by decide +kernel
theorem d_X11_settle_1 : decode prog_13_method_44_code 1 = .ok (.getfield 264, 3) := by decide +kernel
theorem d_X11_settle_4 : decode prog_13_method_44_code 4 = .ok (.ifCond .le 97, 3) := by decide +kernel
theorem d_X11_settle_7 : decode prog_13_method_44_code 7 = .ok (.aload_n 0, 1) := by decide +kernel
theorem d_X11_settle_8 : decode prog_13_method_44_code 8 = .ok (.getfield 51, 3) := by decide +kernel
theorem d_X11_settle_11 : decode prog_13_method_44_code 11 = .ok (.aload_n 0, 1) := by decide +kernel
theorem d_X11_settle_12 : decode prog_13_method_44_code 12 = .ok (.getfield 264, 3) := by decide +kernel
theorem d_X11_settle_15 : decode prog_13_method_44_code 15 = .ok (.iconst 1, 1) := by decide +kernel
theorem d_X11_settle_16 : decode prog_13_method_44_code 16 = .ok (.isub, 1) := by decide +kernel
theorem d_X11_settle_17 : decode prog_13_method_44_code 17 = .ok (.iaload, 1) := by decide +kernel
theorem d_X11_settle_18 : decode prog_13_method_44_code 18 = .ok (.invokestatic 267, 3) := by decide +kernel
theorem d_X11_settle_21 : decode prog_13_method_44_code 21 = .ok (.iload_n 1, 1) := by decide +kernel
theorem d_X11_settle_22 : decode prog_13_method_44_code 22 = .ok (.if_icmp .lt 79, 3) := by decide +kernel
theorem d_X11_settle_25 : decode prog_13_method_44_code 25 = .ok (.aload_n 0, 1) := by decide +kernel
theorem d_X11_settle_26 : decode prog_13_method_44_code 26 = .ok (.dup, 1) := by decide +kernel
theorem d_X11_settle_27 : decode prog_13_method_44_code 27 = .ok (.getfield 264, 3) := by decide +kernel
theorem d_X11_settle_30 : decode prog_13_method_44_code 30 = .ok (.iconst 1, 1) := by decide +kernel
theorem d_X11_settle_31 : decode prog_13_method_44_code 31 = .ok (.isub, 1) := by decide +kernel
theorem d_X11_settle_32 : decode prog_13_method_44_code 32 = .ok (.putfield 264, 3) := by decide +kernel
theorem d_X11_settle_35 : decode prog_13_method_44_code 35 = .ok (.aload_n 0, 1) := by decide +kernel
theorem d_X11_settle_36 : decode prog_13_method_44_code 36 = .ok (.getfield 51, 3) := by decide +kernel
theorem d_X11_settle_39 : decode prog_13_method_44_code 39 = .ok (.aload_n 0, 1) := by decide +kernel
theorem d_X11_settle_40 : decode prog_13_method_44_code 40 = .ok (.getfield 264, 3) := by decide +kernel
theorem d_X11_settle_43 : decode prog_13_method_44_code 43 = .ok (.iaload, 1) := by decide +kernel
theorem d_X11_settle_44 : decode prog_13_method_44_code 44 = .ok (.bipush 29, 2) := by decide +kernel
theorem d_X11_settle_46 : decode prog_13_method_44_code 46 = .ok (.if_icmp .eq 17, 3) := by decide +kernel
theorem d_X11_settle_49 : decode prog_13_method_44_code 49 = .ok (.aload_n 0, 1) := by decide +kernel
theorem d_X11_settle_50 : decode prog_13_method_44_code 50 = .ok (.getfield 51, 3) := by decide +kernel
theorem d_X11_settle_53 : decode prog_13_method_44_code 53 = .ok (.aload_n 0, 1) := by decide +kernel
theorem d_X11_settle_54 : decode prog_13_method_44_code 54 = .ok (.getfield 264, 3) := by decide +kernel
theorem d_X11_settle_57 : decode prog_13_method_44_code 57 = .ok (.iaload, 1) := by decide +kernel
theorem d_X11_settle_58 : decode prog_13_method_44_code 58 = .ok (.bipush 30, 2) := by decide +kernel
theorem d_X11_settle_60 : decode prog_13_method_44_code 60 = .ok (.if_icmp .ne 24, 3) := by decide +kernel
theorem d_X11_settle_63 : decode prog_13_method_44_code 63 = .ok (.aload_n 0, 1) := by decide +kernel
theorem d_X11_settle_64 : decode prog_13_method_44_code 64 = .ok (.getfield 48, 3) := by decide +kernel
theorem d_X11_settle_67 : decode prog_13_method_44_code 67 = .ok (.aload_n 0, 1) := by decide +kernel
theorem d_X11_settle_68 : decode prog_13_method_44_code 68 = .ok (.getfield 54, 3) := by decide +kernel
theorem d_X11_settle_71 : decode prog_13_method_44_code 71 = .ok (.aload_n 0, 1) := by decide +kernel
theorem d_X11_settle_72 : decode prog_13_method_44_code 72 = .ok (.getfield 264, 3) := by decide +kernel
theorem d_X11_settle_75 : decode prog_13_method_44_code 75 = .ok (.iaload, 1) := by decide +kernel
theorem d_X11_settle_76 : decode prog_13_method_44_code 76 = .ok (.aload_n 0, 1) := by decide +kernel
theorem d_X11_settle_77 : decode prog_13_method_44_code 77 = .ok (.getfield 261, 3) := by decide +kernel
theorem d_X11_settle_80 : decode prog_13_method_44_code 80 = .ok (.iastore, 1) := by decide +kernel
theorem d_X11_settle_81 : decode prog_13_method_44_code 81 = .ok (.goto (-81), 3) := by decide +kernel
theorem d_X11_settle_84 : decode prog_13_method_44_code 84 = .ok (.aload_n 0, 1) := by decide +kernel
theorem d_X11_settle_85 : decode prog_13_method_44_code 85 = .ok (.aload_n 0, 1) := by decide +kernel
theorem d_X11_settle_86 : decode prog_13_method_44_code 86 = .ok (.getfield 51, 3) := by decide +kernel
theorem d_X11_settle_89 : decode prog_13_method_44_code 89 = .ok (.aload_n 0, 1) := by decide +kernel
theorem d_X11_settle_90 : decode prog_13_method_44_code 90 = .ok (.getfield 264, 3) := by decide +kernel
theorem d_X11_settle_93 : decode prog_13_method_44_code 93 = .ok (.iaload, 1) := by decide +kernel
theorem d_X11_settle_94 : decode prog_13_method_44_code 94 = .ok (.iconst 0, 1) := by decide +kernel
theorem d_X11_settle_95 : decode prog_13_method_44_code 95 = .ok (.invokevirtual 270, 3) := by decide +kernel
theorem d_X11_settle_98 : decode prog_13_method_44_code 98 = .ok (.goto (-98), 3) := by decide +kernel
theorem d_X11_settle_101 : decode prog_13_method_44_code 101 = .ok (.return_, 1) := by decide +kernel
theorem d_X11_inner_0 : decode prog_13_method_45_code 0 = .ok (.iconst (-1), 1) := by decide +kernel
theorem d_X11_inner_1 : decode prog_13_method_45_code 1 = .ok (.istore_n 1, 1) := by decide +kernel
theorem d_X11_inner_2 : decode prog_13_method_45_code 2 = .ok (.iconst 0, 1) := by decide +kernel
theorem d_X11_inner_3 : decode prog_13_method_45_code 3 = .ok (.istore_n 2, 1) := by decide +kernel
theorem d_X11_inner_4 : decode prog_13_method_45_code 4 = .ok (.iload_n 2, 1) := by decide +kernel
theorem d_X11_inner_5 : decode prog_13_method_45_code 5 = .ok (.aload_n 0, 1) := by decide +kernel
theorem d_X11_inner_6 : decode prog_13_method_45_code 6 = .ok (.getfield 264, 3) := by decide +kernel
theorem d_X11_inner_9 : decode prog_13_method_45_code 9 = .ok (.if_icmp .ge 31, 3) := by decide +kernel
theorem d_X11_inner_12 : decode prog_13_method_45_code 12 = .ok (.aload_n 0, 1) := by decide +kernel
theorem d_X11_inner_13 : decode prog_13_method_45_code 13 = .ok (.getfield 51, 3) := by decide +kernel
theorem d_X11_inner_16 : decode prog_13_method_45_code 16 = .ok (.iload_n 2, 1) := by decide +kernel
theorem d_X11_inner_17 : decode prog_13_method_45_code 17 = .ok (.iaload, 1) := by decide +kernel
theorem d_X11_inner_18 : decode prog_13_method_45_code 18 = .ok (.bipush 31, 2) := by decide +kernel
theorem d_X11_inner_20 : decode prog_13_method_45_code 20 = .ok (.if_icmp .lt 12, 3) := by decide +kernel
theorem d_X11_inner_23 : decode prog_13_method_45_code 23 = .ok (.aload_n 0, 1) := by decide +kernel
theorem d_X11_inner_24 : decode prog_13_method_45_code 24 = .ok (.getfield 51, 3) := by decide +kernel
theorem d_X11_inner_27 : decode prog_13_method_45_code 27 = .ok (.iload_n 2, 1) := by decide +kernel
theorem d_X11_inner_28 : decode prog_13_method_45_code 28 = .ok (.iaload, 1) := by decide +kernel
theorem d_X11_inner_29 : decode prog_13_method_45_code 29 = .ok (.goto 4, 3) := by decide +kernel
theorem d_X11_inner_32 : decode prog_13_method_45_code 32 = .ok (.iload_n 1, 1) := by decide +kernel
theorem d_X11_inner_33 : decode prog_13_method_45_code 33 = .ok (.istore_n 1, 1) := by decide +kernel
theorem d_X11_inner_34 : decode prog_13_method_45_code 34 = .ok (.iinc 2 1, 3) := by decide +kernel
theorem d_X11_inner_37 : decode prog_13_method_45_code 37 = .ok (.goto (-33), 3) := by decide +kernel
theorem d_X11_inner_40 : decode prog_13_method_45_code 40 = .ok (.iload_n 1, 1) := by decide +kernel
theorem d_X11_inner_41 : decode prog_13_method_45_code 41 = .ok (.ireturn, 1) := by decide +kernel
theorem d_X11_isCompared_0 : decode prog_13_method_46_code 0 = .ok (.aload_n 0, 1) := by decide +kernel
theorem d_X11_isCompared_1 : decode prog_13_method_46_code 1 = .ok (.getfield 264, 3) := by decide +kernel
theorem d_X11_isCompared_4 : decode prog_13_method_46_code 4 = .ok (.iconst 1, 1) := by decide +kernel
theorem d_X11_isCompared_5 : decode prog_13_method_46_code 5 = .ok (.isub, 1) := by decide +kernel
theorem d_X11_isCompared_6 : decode prog_13_method_46_code 6 = .ok (.istore_n 1, 1) := by decide +kernel
theorem d_X11_isCompared_7 : decode prog_13_method_46_code 7 = .ok (.iload_n 1, 1) := by decide +kernel
theorem d_X11_isCompared_8 : decode prog_13_method_46_code 8 = .ok (.ifCond .lt 28, 3) := by decide +kernel
theorem d_X11_isCompared_11 : decode prog_13_method_46_code 11 = .ok (.aload_n 0, 1) := by decide +kernel
theorem d_X11_isCompared_12 : decode prog_13_method_46_code 12 = .ok (.getfield 51, 3) := by decide +kernel
theorem d_X11_isCompared_15 : decode prog_13_method_46_code 15 = .ok (.iload_n 1, 1) := by decide +kernel
theorem d_X11_isCompared_16 : decode prog_13_method_46_code 16 = .ok (.iaload, 1) := by decide +kernel
theorem d_X11_isCompared_17 : decode prog_13_method_46_code 17 = .ok (.i2l, 1) := by decide +kernel
theorem d_X11_isCompared_18 : decode prog_13_method_46_code 18 = .ok (.ldc2_w 274, 3) := by decide +kernel
theorem d_X11_isCompared_21 : decode prog_13_method_46_code 21 = .ok (.ldc2_w 178, 3) := by decide +kernel
theorem d_X11_isCompared_24 : decode prog_13_method_46_code 24 = .ok (.invokestatic 165, 3) := by decide +kernel
theorem d_X11_isCompared_27 : decode prog_13_method_46_code 27 = .ok (.ifCond .eq 9, 3) := by decide +kernel
theorem d_X11_isCompared_30 : decode prog_13_method_46_code 30 = .ok (.iinc 1 (-1), 3) := by decide +kernel
theorem d_X11_isCompared_33 : decode prog_13_method_46_code 33 = .ok (.goto (-26), 3) := by decide +kernel
theorem d_X11_isCompared_36 : decode prog_13_method_46_code 36 = .ok (.iload_n 1, 1) := by decide +kernel
theorem d_X11_isCompared_37 : decode prog_13_method_46_code 37 = .ok (.ifCond .lt 26, 3) := by decide +kernel
theorem d_X11_isCompared_40 : decode prog_13_method_46_code 40 = .ok (.aload_n 0, 1) := by decide +kernel
theorem d_X11_isCompared_41 : decode prog_13_method_46_code 41 = .ok (.getfield 51, 3) := by decide +kernel
theorem d_X11_isCompared_44 : decode prog_13_method_46_code 44 = .ok (.iload_n 1, 1) := by decide +kernel
theorem d_X11_isCompared_45 : decode prog_13_method_46_code 45 = .ok (.iaload, 1) := by decide +kernel
theorem d_X11_isCompared_46 : decode prog_13_method_46_code 46 = .ok (.i2l, 1) := by decide +kernel
theorem d_X11_isCompared_47 : decode prog_13_method_46_code 47 = .ok (.ldc2_w 276, 3) := by decide +kernel
theorem d_X11_isCompared_50 : decode prog_13_method_46_code 50 = .ok (.ldc2_w 278, 3) := by decide +kernel
theorem d_X11_isCompared_53 : decode prog_13_method_46_code 53 = .ok (.invokestatic 165, 3) := by decide +kernel
theorem d_X11_isCompared_56 : decode prog_13_method_46_code 56 = .ok (.ifCond .eq 7, 3) := by decide +kernel
theorem d_X11_isCompared_59 : decode prog_13_method_46_code 59 = .ok (.iconst 1, 1) := by decide +kernel
theorem d_X11_isCompared_60 : decode prog_13_method_46_code 60 = .ok (.goto 4, 3) := by decide +kernel
theorem d_X11_isCompared_63 : decode prog_13_method_46_code 63 = .ok (.iconst 0, 1) := by decide +kernel
theorem d_X11_isCompared_64 : decode prog_13_method_46_code 64 = .ok (.ireturn, 1) := by decide +kernel
theorem d_X11_partAt_0 : decode prog_13_method_47_code 0 = .ok (.iconst (-1), 1) := by decide +kernel
theorem d_X11_partAt_1 : decode prog_13_method_47_code 1 = .ok (.istore_n 1, 1) := by decide +kernel
theorem d_X11_partAt_2 : decode prog_13_method_47_code 2 = .ok (.iconst 0, 1) := by decide +kernel
theorem d_X11_partAt_3 : decode prog_13_method_47_code 3 = .ok (.istore_n 2, 1) := by decide +kernel
theorem d_X11_partAt_4 : decode prog_13_method_47_code 4 = .ok (.iload_n 2, 1) := by decide +kernel
theorem d_X11_partAt_5 : decode prog_13_method_47_code 5 = .ok (.bipush 9, 2) := by decide +kernel
theorem d_X11_partAt_7 : decode prog_13_method_47_code 7 = .ok (.if_icmp .ge 30, 3) := by decide +kernel
theorem d_X11_partAt_10 : decode prog_13_method_47_code 10 = .ok (.aload_n 0, 1) := by decide +kernel
theorem d_X11_partAt_11 : decode prog_13_method_47_code 11 = .ok (.aload_n 0, 1) := by decide +kernel
theorem d_X11_partAt_12 : decode prog_13_method_47_code 12 = .ok (.getfield 75, 3) := by decide +kernel
theorem d_X11_partAt_15 : decode prog_13_method_47_code 15 = .ok (.iload_n 2, 1) := by decide +kernel
theorem d_X11_partAt_16 : decode prog_13_method_47_code 16 = .ok (.laload, 1) := by decide +kernel
theorem d_X11_partAt_17 : decode prog_13_method_47_code 17 = .ok (.invokevirtual 280, 3) := by decide +kernel
theorem d_X11_partAt_20 : decode prog_13_method_47_code 20 = .ok (.ifCond .eq 9, 3) := by decide +kernel
theorem d_X11_partAt_23 : decode prog_13_method_47_code 23 = .ok (.iload_n 2, 1) := by decide +kernel
theorem d_X11_partAt_24 : decode prog_13_method_47_code 24 = .ok (.iconst 1, 1) := by decide +kernel
theorem d_X11_partAt_25 : decode prog_13_method_47_code 25 = .ok (.iadd, 1) := by decide +kernel
theorem d_X11_partAt_26 : decode prog_13_method_47_code 26 = .ok (.goto 4, 3) := by decide +kernel
theorem d_X11_partAt_29 : decode prog_13_method_47_code 29 = .ok (.iload_n 1, 1) := by decide +kernel
theorem d_X11_partAt_30 : decode prog_13_method_47_code 30 = .ok (.istore_n 1, 1) := by decide +kernel
theorem d_X11_partAt_31 : decode prog_13_method_47_code 31 = .ok (.iinc 2 1, 3) := by decide +kernel
theorem d_X11_partAt_34 : decode prog_13_method_47_code 34 = .ok (.goto (-30), 3) := by decide +kernel
theorem d_X11_partAt_37 : decode prog_13_method_47_code 37 = .ok (.iload_n 1, 1) := by decide +kernel
theorem d_X11_partAt_38 : decode prog_13_method_47_code 38 = .ok (.ireturn, 1) := by decide +kernel
theorem d_X11_orderPartAt_0 : decode prog_13_method_48_code 0 = .ok (.iconst (-1), 1) := by decide +kernel
theorem d_X11_orderPartAt_1 : decode prog_13_method_48_code 1 = .ok (.istore_n 1, 1) := by decide +kernel
theorem d_X11_orderPartAt_2 : decode prog_13_method_48_code 2 = .ok (.iconst 0, 1) := by decide +kernel
theorem d_X11_orderPartAt_3 : decode prog_13_method_48_code 3 = .ok (.istore_n 2, 1) := by decide +kernel
theorem d_X11_orderPartAt_4 : decode prog_13_method_48_code 4 = .ok (.iload_n 2, 1) := by decide +kernel
theorem d_X11_orderPartAt_5 : decode prog_13_method_48_code 5 = .ok (.bipush 7, 2) := by decide +kernel
theorem d_X11_orderPartAt_7 : decode prog_13_method_48_code 7 = .ok (.if_icmp .ge 30, 3) := by decide +kernel
theorem d_X11_orderPartAt_10 : decode prog_13_method_48_code 10 = .ok (.aload_n 0, 1) := by decide +kernel
theorem d_X11_orderPartAt_11 : decode prog_13_method_48_code 11 = .ok (.aload_n 0, 1) := by decide +kernel
theorem d_X11_orderPartAt_12 : decode prog_13_method_48_code 12 = .ok (.getfield 87, 3) := by decide +kernel
theorem d_X11_orderPartAt_15 : decode prog_13_method_48_code 15 = .ok (.iload_n 2, 1) := by decide +kernel
theorem d_X11_orderPartAt_16 : decode prog_13_method_48_code 16 = .ok (.laload, 1) := by decide +kernel
theorem d_X11_orderPartAt_17 : decode prog_13_method_48_code 17 = .ok (.invokevirtual 280, 3) := by decide +kernel
theorem d_X11_orderPartAt_20 : decode prog_13_method_48_code 20 = .ok (.ifCond .eq 9, 3) := by decide +kernel
theorem d_X11_orderPartAt_23 : decode prog_13_method_48_code 23 = .ok (.iload_n 2, 1) := by decide +kernel
theorem d_X11_orderPartAt_24 : decode prog_13_method_48_code 24 = .ok (.iconst 1, 1) := by decide +kernel
theorem d_X11_orderPartAt_25 : decode prog_13_method_48_code 25 = .ok (.iadd, 1) := by decide +kernel
theorem d_X11_orderPartAt_26 : decode prog_13_method_48_code 26 = .ok (.goto 4, 3) := by decide +kernel
theorem d_X11_orderPartAt_29 : decode prog_13_method_48_code 29 = .ok (.iload_n 1, 1) := by decide +kernel
theorem d_X11_orderPartAt_30 : decode prog_13_method_48_code 30 = .ok (.istore_n 1, 1) := by decide +kernel
theorem d_X11_orderPartAt_31 : decode prog_13_method_48_code 31 = .ok (.iinc 2 1, 3) := by decide +kernel
theorem d_X11_orderPartAt_34 : decode prog_13_method_48_code 34 = .ok (.goto (-30), 3) := by decide +kernel
theorem d_X11_orderPartAt_37 : decode prog_13_method_48_code 37 = .ok (.iload_n 1, 1) := by decide +kernel
theorem d_X11_orderPartAt_38 : decode prog_13_method_48_code 38 = .ok (.ireturn, 1) := by decide +kernel
theorem d_X11_openBracket_0 : decode prog_13_method_49_code 0 = .ok (.aload_n 0, 1) := by decide +kernel
theorem d_X11_openBracket_1 : decode prog_13_method_49_code 1 = .ok (.aload_n 0, 1) := by decide +kernel
theorem d_X11_openBracket_2 : decode prog_13_method_49_code 2 = .ok (.getfield 284, 3) := by decide +kernel
theorem d_X11_openBracket_5 : decode prog_13_method_49_code 5 = .ok (.bipush 8, 2) := by decide +kernel
theorem d_X11_openBracket_7 : decode prog_13_method_49_code 7 = .ok (.if_icmp .ge 7, 3) := by decide +kernel
theorem d_X11_openBracket_10 : decode prog_13_method_49_code 10 = .ok (.iconst 1, 1) := by decide +kernel
theorem d_X11_openBracket_11 : decode prog_13_method_49_code 11 = .ok (.goto 4, 3) := by decide +kernel
theorem d_X11_openBracket_14 : decode prog_13_method_49_code 14 = .ok (.iconst 0, 1) := by decide +kernel
theorem d_X11_openBracket_15 : decode prog_13_method_49_code 15 = .ok (.invokevirtual 257, 3) := by decide +kernel
theorem d_X11_openBracket_18 : decode prog_13_method_49_code 18 = .ok (.aload_n 0, 1) := by decide +kernel
theorem d_X11_openBracket_19 : decode prog_13_method_49_code 19 = .ok (.getfield 224, 3) := by decide +kernel
theorem d_X11_openBracket_22 : decode prog_13_method_49_code 22 = .ok (.ifCond .ne 19, 3) := by decide +kernel
theorem d_X11_openBracket_25 : decode prog_13_method_49_code 25 = .ok (.aload_n 0, 1) := by decide +kernel
theorem d_X11_openBracket_26 : decode prog_13_method_49_code 26 = .ok (.dup, 1) := by decide +kernel
theorem d_X11_openBracket_27 : decode prog_13_method_49_code 27 = .ok (.getfield 284, 3) := by decide +kernel
theorem d_X11_openBracket_30 : decode prog_13_method_49_code 30 = .ok (.iconst 1, 1) := by decide +kernel
theorem d_X11_openBracket_31 : decode prog_13_method_49_code 31 = .ok (.iadd, 1) := by decide +kernel
theorem d_X11_openBracket_32 : decode prog_13_method_49_code 32 = .ok (.putfield 284, 3) := by decide +kernel
theorem d_X11_openBracket_35 : decode prog_13_method_49_code 35 = .ok (.aload_n 0, 1) := by decide +kernel
theorem d_X11_openBracket_36 : decode prog_13_method_49_code 36 = .ok (.iload_n 1, 1) := by decide +kernel
theorem d_X11_openBracket_37 : decode prog_13_method_49_code 37 = .ok (.iconst 0, 1) := by decide +kernel
theorem d_X11_openBracket_38 : decode prog_13_method_49_code 38 = .ok (.invokevirtual 287, 3) := by decide +kernel
theorem d_X11_openBracket_41 : decode prog_13_method_49_code 41 = .ok (.return_, 1) := by decide +kernel
theorem d_X11_leaf_0 : decode prog_13_method_50_code 0 = .ok (.aload_n 0, 1) := by decide +kernel
theorem d_X11_leaf_1 : decode prog_13_method_50_code 1 = .ok (.iload_n 1, 1) := by decide +kernel
theorem d_X11_leaf_2 : decode prog_13_method_50_code 2 = .ok (.ifCond .eq 16, 3) := by decide +kernel
theorem d_X11_leaf_5 : decode prog_13_method_50_code 5 = .ok (.aload_n 0, 1) := by decide +kernel
theorem d_X11_leaf_6 : decode prog_13_method_50_code 6 = .ok (.getfield 290, 3) := by decide +kernel
theorem d_X11_leaf_9 : decode prog_13_method_50_code 9 = .ok (.bipush 50, 2) := by decide +kernel
theorem d_X11_leaf_11 : decode prog_13_method_50_code 11 = .ok (.if_icmp .ge 7, 3) := by decide +kernel
theorem d_X11_leaf_14 : decode prog_13_method_50_code 14 = .ok (.iconst 1, 1) := by decide +kernel
theorem d_X11_leaf_15 : decode prog_13_method_50_code 15 = .ok (.goto 4, 3) := by decide +kernel
theorem d_X11_leaf_18 : decode prog_13_method_50_code 18 = .ok (.iconst 0, 1) := by decide +kernel
theorem d_X11_leaf_19 : decode prog_13_method_50_code 19 = .ok (.invokevirtual 257, 3) := by decide +kernel
theorem d_X11_leaf_22 : decode prog_13_method_50_code 22 = .ok (.aload_n 0, 1) := by decide +kernel
theorem d_X11_leaf_23 : decode prog_13_method_50_code 23 = .ok (.getfield 224, 3) := by decide +kernel
theorem d_X11_leaf_26 : decode prog_13_method_50_code 26 = .ok (.ifCond .ne 19, 3) := by decide +kernel
theorem d_X11_leaf_29 : decode prog_13_method_50_code 29 = .ok (.aload_n 0, 1) := by decide +kernel
theorem d_X11_leaf_30 : decode prog_13_method_50_code 30 = .ok (.iload_n 2, 1) := by decide +kernel
theorem d_X11_leaf_31 : decode prog_13_method_50_code 31 = .ok (.iload_n 3, 1) := by decide +kernel
theorem d_X11_leaf_32 : decode prog_13_method_50_code 32 = .ok (.invokevirtual 270, 3) := by decide +kernel
theorem d_X11_leaf_35 : decode prog_13_method_50_code 35 = .ok (.aload_n 0, 1) := by decide +kernel
theorem d_X11_leaf_36 : decode prog_13_method_50_code 36 = .ok (.dup, 1) := by decide +kernel
theorem d_X11_leaf_37 : decode prog_13_method_50_code 37 = .ok (.getfield 290, 3) := by decide +kernel
theorem d_X11_leaf_40 : decode prog_13_method_50_code 40 = .ok (.iconst 1, 1) := by decide +kernel
theorem d_X11_leaf_41 : decode prog_13_method_50_code 41 = .ok (.iadd, 1) := by decide +kernel
theorem d_X11_leaf_42 : decode prog_13_method_50_code 42 = .ok (.putfield 290, 3) := by decide +kernel
theorem d_X11_leaf_45 : decode prog_13_method_50_code 45 = .ok (.return_, 1) := by decide +kernel
theorem d_X11_readPart_0 : decode prog_13_method_51_code 0 = .ok (.aload_n 0, 1) := by decide +kernel
theorem d_X11_readPart_1 : decode prog_13_method_51_code 1 = .ok (.bipush 91, 2) := by decide +kernel
theorem d_X11_readPart_3 : decode prog_13_method_51_code 3 = .ok (.invokevirtual 293, 3) := by decide +kernel
theorem d_X11_readPart_6 : decode prog_13_method_51_code 6 = .ok (.ifCond .eq 11, 3) := by decide +kernel
theorem d_X11_readPart_9 : decode prog_13_method_51_code 9 = .ok (.aload_n 0, 1) := by decide +kernel
theorem d_X11_readPart_10 : decode prog_13_method_51_code 10 = .ok (.bipush 32, 2) := by decide +kernel
theorem d_X11_readPart_12 : decode prog_13_method_51_code 12 = .ok (.invokevirtual 296, 3) := by decide +kernel
theorem d_X11_readPart_15 : decode prog_13_method_51_code 15 = .ok (.iconst 1, 1) := by decide +kernel
theorem d_X11_readPart_16 : decode prog_13_method_51_code 16 = .ok (.ireturn, 1) := by decide +kernel
theorem d_X11_readPart_17 : decode prog_13_method_51_code 17 = .ok (.aload_n 0, 1) := by decide +kernel
theorem d_X11_readPart_18 : decode prog_13_method_51_code 18 = .ok (.getfield 299, 3) := by decide +kernel
theorem d_X11_readPart_21 : decode prog_13_method_51_code 21 = .ok (.ifCond .eq 10, 3) := by decide +kernel
theorem d_X11_readPart_24 : decode prog_13_method_51_code 24 = .ok (.aload_n 0, 1) := by decide +kernel
theorem d_X11_readPart_25 : decode prog_13_method_51_code 25 = .ok (.invokevirtual 302, 3) := by decide +kernel
theorem d_X11_readPart_28 : decode prog_13_method_51_code 28 = .ok (.goto 7, 3) := by decide +kernel
theorem d_X11_readPart_31 : decode prog_13_method_51_code 31 = .ok (.aload_n 0, 1) := by decide +kernel
theorem d_X11_readPart_32 : decode prog_13_method_51_code 32 = .ok (.invokevirtual 306, 3) := by decide +kernel
theorem d_X11_readPart_35 : decode prog_13_method_51_code 35 = .ok (.istore_n 1, 1) := by decide +kernel
theorem d_X11_readPart_36 : decode prog_13_method_51_code 36 = .ok (.aload_n 0, 1) := by decide +kernel
theorem d_X11_readPart_37 : decode prog_13_method_51_code 37 = .ok (.getfield 244, 3) := by decide +kernel
theorem d_X11_readPart_40 : decode prog_13_method_51_code 40 = .ok (.iconst 2, 1) := by decide +kernel
theorem d_X11_readPart_41 : decode prog_13_method_51_code 41 = .ok (.if_icmp .ne 18, 3) := by decide +kernel
theorem d_X11_readPart_44 : decode prog_13_method_51_code 44 = .ok (.aload_n 0, 1) := by decide +kernel
theorem d_X11_readPart_45 : decode prog_13_method_51_code 45 = .ok (.getfield 234, 3) := by decide +kernel
theorem d_X11_readPart_48 : decode prog_13_method_51_code 48 = .ok (.ldc2_w 309, 3) := by decide +kernel
theorem d_X11_readPart_51 : decode prog_13_method_51_code 51 = .ok (.lcmp, 1) := by decide +kernel
theorem d_X11_readPart_52 : decode prog_13_method_51_code 52 = .ok (.ifCond .gt 7, 3) := by decide +kernel
theorem d_X11_readPart_55 : decode prog_13_method_51_code 55 = .ok (.iconst 1, 1) := by decide +kernel
theorem d_X11_readPart_56 : decode prog_13_method_51_code 56 = .ok (.goto 4, 3) := by decide +kernel
theorem d_X11_readPart_59 : decode prog_13_method_51_code 59 = .ok (.iconst 0, 1) := by decide +kernel
theorem d_X11_readPart_60 : decode prog_13_method_51_code 60 = .ok (.istore_n 2, 1) := by decide +kernel
theorem d_X11_readPart_61 : decode prog_13_method_51_code 61 = .ok (.aload_n 0, 1) := by decide +kernel
theorem d_X11_readPart_62 : decode prog_13_method_51_code 62 = .ok (.iload_n 1, 1) := by decide +kernel
theorem d_X11_readPart_63 : decode prog_13_method_51_code 63 = .ok (.iconst (-1), 1) := by decide +kernel
theorem d_X11_readPart_64 : decode prog_13_method_51_code 64 = .ok (.if_icmp .ne 7, 3) := by decide +kernel
theorem d_X11_readPart_67 : decode prog_13_method_51_code 67 = .ok (.iload_n 2, 1) := by decide +kernel
theorem d_X11_readPart_68 : decode prog_13_method_51_code 68 = .ok (.ifCond .eq 7, 3) := by decide +kernel
theorem d_X11_readPart_71 : decode prog_13_method_51_code 71 = .ok (.iconst 1, 1) := by decide +kernel
theorem d_X11_readPart_72 : decode prog_13_method_51_code 72 = .ok (.goto 4, 3) := by decide +kernel
theorem d_X11_readPart_75 : decode prog_13_method_51_code 75 = .ok (.iconst 0, 1) := by decide +kernel
theorem d_X11_readPart_76 : decode prog_13_method_51_code 76 = .ok (.iload_n 1, 1) := by decide +kernel
theorem d_X11_readPart_77 : decode prog_13_method_51_code 77 = .ok (.iconst (-1), 1) := by decide +kernel
theorem d_X11_readPart_78 : decode prog_13_method_51_code 78 = .ok (.if_icmp .ne 7, 3) := by decide +kernel
theorem d_X11_readPart_81 : decode prog_13_method_51_code 81 = .ok (.iconst 0, 1) := by decide +kernel
theorem d_X11_readPart_82 : decode prog_13_method_51_code 82 = .ok (.goto 4, 3) := by decide +kernel
theorem d_X11_readPart_85 : decode prog_13_method_51_code 85 = .ok (.iload_n 1, 1) := by decide +kernel
theorem d_X11_readPart_86 : decode prog_13_method_51_code 86 = .ok (.iload_n 2, 1) := by decide +kernel
theorem d_X11_readPart_87 : decode prog_13_method_51_code 87 = .ok (.ifCond .eq 11, 3) := by decide +kernel
theorem d_X11_readPart_90 : decode prog_13_method_51_code 90 = .ok (.aload_n 0, 1) := by decide +kernel
theorem d_X11_readPart_91 : decode prog_13_method_51_code 91 = .ok (.getfield 234, 3) := by decide +kernel
theorem d_X11_readPart_94 : decode prog_13_method_51_code 94 = .ok (.l2i, 1) := by decide +kernel
theorem d_X11_readPart_95 : decode prog_13_method_51_code 95 = .ok (.goto 4, 3) := by decide +kernel
theorem d_X11_readPart_98 : decode prog_13_method_51_code 98 = .ok (.iconst 0, 1) := by decide +kernel
theorem d_X11_readPart_99 : decode prog_13_method_51_code 99 = .ok (.invokevirtual 311, 3) := by decide +kernel
theorem d_X11_readPart_102 : decode prog_13_method_51_code 102 = .ok (.aload_n 0, 1) := by decide +kernel
theorem d_X11_readPart_103 : decode prog_13_method_51_code 103 = .ok (.getfield 299, 3) := by decide +kernel
theorem d_X11_readPart_106 : decode prog_13_method_51_code 106 = .ok (.ifCond .eq 37, 3) := by decide +kernel
theorem d_X11_readPart_109 : decode prog_13_method_51_code 109 = .ok (.iload_n 1, 1) := by decide +kernel
theorem d_X11_readPart_110 : decode prog_13_method_51_code 110 = .ok (.bipush 6, 2) := by decide +kernel
theorem d_X11_readPart_112 : decode prog_13_method_51_code 112 = .ok (.if_icmp .lt 31, 3) := by decide +kernel
theorem d_X11_readPart_115 : decode prog_13_method_51_code 115 = .ok (.aload_n 0, 1) := by decide +kernel
theorem d_X11_readPart_116 : decode prog_13_method_51_code 116 = .ok (.getfield 224, 3) := by decide +kernel
theorem d_X11_readPart_119 : decode prog_13_method_51_code 119 = .ok (.ifCond .ne 24, 3) := by decide +kernel
theorem d_X11_readPart_122 : decode prog_13_method_51_code 122 = .ok (.aload_n 0, 1) := by decide +kernel
theorem d_X11_readPart_123 : decode prog_13_method_51_code 123 = .ok (.getfield 261, 3) := by decide +kernel
theorem d_X11_readPart_126 : decode prog_13_method_51_code 126 = .ok (.iconst 1, 1) := by decide +kernel
theorem d_X11_readPart_127 : decode prog_13_method_51_code 127 = .ok (.isub, 1) := by decide +kernel
theorem d_X11_readPart_128 : decode prog_13_method_51_code 128 = .ok (.istore_n 3, 1) := by decide +kernel
theorem d_X11_readPart_129 : decode prog_13_method_51_code 129 = .ok (.aload_n 0, 1) := by decide +kernel
theorem d_X11_readPart_130 : decode prog_13_method_51_code 130 = .ok (.getfield 48, 3) := by decide +kernel
theorem d_X11_readPart_133 : decode prog_13_method_51_code 133 = .ok (.iload_n 3, 1) := by decide +kernel
theorem d_X11_readPart_134 : decode prog_13_method_51_code 134 = .ok (.aload_n 0, 1) := by decide +kernel
theorem d_X11_readPart_135 : decode prog_13_method_51_code 135 = .ok (.lconst 0, 1) := by decide +kernel
theorem d_X11_readPart_136 : decode prog_13_method_51_code 136 = .ok (.ldc2_w 315, 3) := by decide +kernel
theorem d_X11_readPart_139 : decode prog_13_method_51_code 139 = .ok (.invokevirtual 317, 3) := by decide +kernel
theorem d_X11_readPart_142 : decode prog_13_method_51_code 142 = .ok (.iastore, 1) := by decide +kernel
theorem d_X11_readPart_143 : decode prog_13_method_51_code 143 = .ok (.iconst 3, 1) := by decide +kernel
theorem d_X11_readPart_144 : decode prog_13_method_51_code 144 = .ok (.ireturn, 1) := by decide +kernel
theorem d_X11_readPlain_0 : decode prog_13_method_52_code 0 = .ok (.aload_n 0, 1) := by decide +kernel
theorem d_X11_readPlain_1 : decode prog_13_method_52_code 1 = .ok (.ldc2_w 321, 3) := by decide +kernel
theorem d_X11_readPlain_4 : decode prog_13_method_52_code 4 = .ok (.invokevirtual 280, 3) := by decide +kernel
theorem d_X11_readPlain_7 : decode prog_13_method_52_code 7 = .ok (.ifCond .eq 16, 3) := by decide +kernel
theorem d_X11_readPlain_10 : decode prog_13_method_52_code 10 = .ok (.aload_n 0, 1) := by decide +kernel
theorem d_X11_readPlain_11 : decode prog_13_method_52_code 11 = .ok (.bipush 28, 2) := by decide +kernel
theorem d_X11_readPlain_13 : decode prog_13_method_52_code 13 = .ok (.iconst 0, 1) := by decide +kernel
theorem d_X11_readPlain_14 : decode prog_13_method_52_code 14 = .ok (.invokevirtual 287, 3) := by decide +kernel
theorem d_X11_readPlain_17 : decode prog_13_method_52_code 17 = .ok (.aload_n 0, 1) := by decide +kernel
theorem d_X11_readPlain_18 : decode prog_13_method_52_code 18 = .ok (.invokevirtual 228, 3) := by decide +kernel
theorem d_X11_readPlain_21 : decode prog_13_method_52_code 21 = .ok (.iconst 0, 1) := by decide +kernel
theorem d_X11_readPlain_22 : decode prog_13_method_52_code 22 = .ok (.ireturn, 1) := by decide +kernel
theorem d_X11_readPlain_23 : decode prog_13_method_52_code 23 = .ok (.aload_n 0, 1) := by decide +kernel
theorem d_X11_readPlain_24 : decode prog_13_method_52_code 24 = .ok (.bipush 40, 2) := by decide +kernel
theorem d_X11_readPlain_26 : decode prog_13_method_52_code 26 = .ok (.invokevirtual 293, 3) := by decide +kernel
theorem d_X11_readPlain_29 : decode prog_13_method_52_code 29 = .ok (.ifCond .eq 11, 3) := by decide +kernel
theorem d_X11_readPlain_32 : decode prog_13_method_52_code 32 = .ok (.aload_n 0, 1) := by decide +kernel
theorem d_X11_readPlain_33 : decode prog_13_method_52_code 33 = .ok (.bipush 31, 2) := by decide +kernel
theorem d_X11_readPlain_35 : decode prog_13_method_52_code 35 = .ok (.invokevirtual 296, 3) := by decide +kernel
theorem d_X11_readPlain_38 : decode prog_13_method_52_code 38 = .ok (.iconst 0, 1) := by decide +kernel
theorem d_X11_readPlain_39 : decode prog_13_method_52_code 39 = .ok (.ireturn, 1) := by decide +kernel
theorem d_X11_readPlain_40 : decode prog_13_method_52_code 40 = .ok (.aload_n 0, 1) := by decide +kernel
theorem d_X11_readPlain_41 : decode prog_13_method_52_code 41 = .ok (.invokevirtual 323, 3) := by decide +kernel
theorem d_X11_readPlain_44 : decode prog_13_method_52_code 44 = .ok (.ireturn, 1) := by decide +kernel
theorem d_X11_behindSum_0 : decode prog_13_method_53_code 0 = .ok (.aload_n 0, 1) := by decide +kernel
theorem d_X11_behindSum_1 : decode prog_13_method_53_code 1 = .ok (.bipush 43, 2) := by decide +kernel
theorem d_X11_behindSum_3 : decode prog_13_method_53_code 3 = .ok (.invokevirtual 293, 3) := by decide +kernel
theorem d_X11_behindSum_6 : decode prog_13_method_53_code 6 = .ok (.ifCond .eq 8, 3) := by decide +kernel
theorem d_X11_behindSum_9 : decode prog_13_method_53_code 9 = .ok (.bipush 20, 2) := by decide +kernel
theorem d_X11_behindSum_11 : decode prog_13_method_53_code 11 = .ok (.goto 60, 3) := by decide +kernel
theorem d_X11_behindSum_14 : decode prog_13_method_53_code 14 = .ok (.aload_n 0, 1) := by decide +kernel
theorem d_X11_behindSum_15 : decode prog_13_method_53_code 15 = .ok (.bipush 45, 2) := by decide +kernel
theorem d_X11_behindSum_17 : decode prog_13_method_53_code 17 = .ok (.invokevirtual 293, 3) := by decide +kernel
theorem d_X11_behindSum_20 : decode prog_13_method_53_code 20 = .ok (.ifCond .eq 8, 3) := by decide +kernel
theorem d_X11_behindSum_23 : decode prog_13_method_53_code 23 = .ok (.bipush 21, 2) := by decide +kernel
theorem d_X11_behindSum_25 : decode prog_13_method_53_code 25 = .ok (.goto 46, 3) := by decide +kernel
theorem d_X11_behindSum_28 : decode prog_13_method_53_code 28 = .ok (.aload_n 0, 1) := by decide +kernel
theorem d_X11_behindSum_29 : decode prog_13_method_53_code 29 = .ok (.bipush 42, 2) := by decide +kernel
theorem d_X11_behindSum_31 : decode prog_13_method_53_code 31 = .ok (.invokevirtual 293, 3) := by decide +kernel
theorem d_X11_behindSum_34 : decode prog_13_method_53_code 34 = .ok (.ifCond .eq 8, 3) := by decide +kernel
theorem d_X11_behindSum_37 : decode prog_13_method_53_code 37 = .ok (.bipush 22, 2) := by decide +kernel
theorem d_X11_behindSum_39 : decode prog_13_method_53_code 39 = .ok (.goto 32, 3) := by decide +kernel
theorem d_X11_behindSum_42 : decode prog_13_method_53_code 42 = .ok (.aload_n 0, 1) := by decide +kernel
theorem d_X11_behindSum_43 : decode prog_13_method_53_code 43 = .ok (.bipush 47, 2) := by decide +kernel
theorem d_X11_behindSum_45 : decode prog_13_method_53_code 45 = .ok (.invokevirtual 293, 3) := by decide +kernel
theorem d_X11_behindSum_48 : decode prog_13_method_53_code 48 = .ok (.ifCond .eq 8, 3) := by decide +kernel
theorem d_X11_behindSum_51 : decode prog_13_method_53_code 51 = .ok (.bipush 23, 2) := by decide +kernel
theorem d_X11_behindSum_53 : decode prog_13_method_53_code 53 = .ok (.goto 18, 3) := by decide +kernel
theorem d_X11_behindSum_56 : decode prog_13_method_53_code 56 = .ok (.aload_n 0, 1) := by decide +kernel
theorem d_X11_behindSum_57 : decode prog_13_method_53_code 57 = .ok (.bipush 37, 2) := by decide +kernel
theorem d_X11_behindSum_59 : decode prog_13_method_53_code 59 = .ok (.invokevirtual 293, 3) := by decide +kernel
theorem d_X11_behindSum_62 : decode prog_13_method_53_code 62 = .ok (.ifCond .eq 8, 3) := by decide +kernel
theorem d_X11_behindSum_65 : decode prog_13_method_53_code 65 = .ok (.bipush 24, 2) := by decide +kernel
theorem d_X11_behindSum_67 : decode prog_13_method_53_code 67 = .ok (.goto 4, 3) := by decide +kernel
theorem d_X11_behindSum_70 : decode prog_13_method_53_code 70 = .ok (.iconst (-1), 1) := by decide +kernel
theorem d_X11_behindSum_71 : decode prog_13_method_53_code 71 = .ok (.istore_n 2, 1) := by decide +kernel
theorem d_X11_behindSum_72 : decode prog_13_method_53_code 72 = .ok (.iload_n 2, 1) := by decide +kernel
theorem d_X11_behindSum_73 : decode prog_13_method_53_code 73 = .ok (.iconst (-1), 1) := by decide +kernel
theorem d_X11_behindSum_74 : decode prog_13_method_53_code 74 = .ok (.if_icmp .eq 23, 3) := by decide +kernel
theorem d_X11_behindSum_77 : decode prog_13_method_53_code 77 = .ok (.aload_n 0, 1) := by decide +kernel
theorem d_X11_behindSum_78 : decode prog_13_method_53_code 78 = .ok (.iload_n 2, 1) := by decide +kernel
theorem d_X11_behindSum_79 : decode prog_13_method_53_code 79 = .ok (.invokestatic 267, 3) := by decide +kernel
theorem d_X11_behindSum_82 : decode prog_13_method_53_code 82 = .ok (.invokevirtual 326, 3) := by decide +kernel
theorem d_X11_behindSum_85 : decode prog_13_method_53_code 85 = .ok (.aload_n 0, 1) := by decide +kernel
theorem d_X11_behindSum_86 : decode prog_13_method_53_code 86 = .ok (.iload_n 2, 1) := by decide +kernel
theorem d_X11_behindSum_87 : decode prog_13_method_53_code 87 = .ok (.iconst 0, 1) := by decide +kernel
theorem d_X11_behindSum_88 : decode prog_13_method_53_code 88 = .ok (.invokevirtual 287, 3) := by decide +kernel
theorem d_X11_behindSum_91 : decode prog_13_method_53_code 91 = .ok (.aload_n 0, 1) := by decide +kernel
theorem d_X11_behindSum_92 : decode prog_13_method_53_code 92 = .ok (.invokevirtual 228, 3) := by decide +kernel
theorem d_X11_behindSum_95 : decode prog_13_method_53_code 95 = .ok (.iconst 1, 1) := by decide +kernel
theorem d_X11_behindSum_96 : decode prog_13_method_53_code 96 = .ok (.ireturn, 1) := by decide +kernel
theorem d_X11_behindSum_97 : decode prog_13_method_53_code 97 = .ok (.aload_n 0, 1) := by decide +kernel
theorem d_X11_behindSum_98 : decode prog_13_method_53_code 98 = .ok (.invokevirtual 329, 3) := by decide +kernel
theorem d_X11_behindSum_101 : decode prog_13_method_53_code 101 = .ok (.istore_n 3, 1) := by decide +kernel
theorem d_X11_behindSum_102 : decode prog_13_method_53_code 102 = .ok (.iload_n 3, 1) := by decide +kernel
theorem d_X11_behindSum_103 : decode prog_13_method_53_code 103 = .ok (.bipush 32, 2) := by decide +kernel
theorem d_X11_behindSum_105 : decode prog_13_method_53_code 105 = .ok (.if_icmp .ne 47, 3) := by decide +kernel
theorem d_X11_behindSum_108 : decode prog_13_method_53_code 108 = .ok (.aload_n 0, 1) := by decide +kernel
theorem d_X11_behindSum_109 : decode prog_13_method_53_code 109 = .ok (.aload_n 0, 1) := by decide +kernel
theorem d_X11_behindSum_110 : decode prog_13_method_53_code 110 = .ok (.bipush 93, 2) := by decide +kernel
theorem d_X11_behindSum_112 : decode prog_13_method_53_code 112 = .ok (.invokevirtual 293, 3) := by decide +kernel
theorem d_X11_behindSum_115 : decode prog_13_method_53_code 115 = .ok (.invokevirtual 257, 3) := by decide +kernel
theorem d_X11_behindSum_118 : decode prog_13_method_53_code 118 = .ok (.aload_n 0, 1) := by decide +kernel
theorem d_X11_behindSum_119 : decode prog_13_method_53_code 119 = .ok (.getfield 224, 3) := by decide +kernel
theorem d_X11_behindSum_122 : decode prog_13_method_53_code 122 = .ok (.ifCond .ne 28, 3) := by decide +kernel
theorem d_X11_behindSum_125 : decode prog_13_method_53_code 125 = .ok (.aload_n 0, 1) := by decide +kernel
theorem d_X11_behindSum_126 : decode prog_13_method_53_code 126 = .ok (.iconst 5, 1) := by decide +kernel
theorem d_X11_behindSum_127 : decode prog_13_method_53_code 127 = .ok (.invokevirtual 326, 3) := by decide +kernel
theorem d_X11_behindSum_130 : decode prog_13_method_53_code 130 = .ok (.aload_n 0, 1) := by decide +kernel
theorem d_X11_behindSum_131 : decode prog_13_method_53_code 131 = .ok (.dup, 1) := by decide +kernel
theorem d_X11_behindSum_132 : decode prog_13_method_53_code 132 = .ok (.getfield 264, 3) := by decide +kernel
theorem d_X11_behindSum_135 : decode prog_13_method_53_code 135 = .ok (.iconst 1, 1) := by decide +kernel
theorem d_X11_behindSum_136 : decode prog_13_method_53_code 136 = .ok (.isub, 1) := by decide +kernel
theorem d_X11_behindSum_137 : decode prog_13_method_53_code 137 = .ok (.putfield 264, 3) := by decide +kernel
theorem d_X11_behindSum_140 : decode prog_13_method_53_code 140 = .ok (.aload_n 0, 1) := by decide +kernel
theorem d_X11_behindSum_141 : decode prog_13_method_53_code 141 = .ok (.dup, 1) := by decide +kernel
theorem d_X11_behindSum_142 : decode prog_13_method_53_code 142 = .ok (.getfield 284, 3) := by decide +kernel
theorem d_X11_behindSum_145 : decode prog_13_method_53_code 145 = .ok (.iconst 1, 1) := by decide +kernel
theorem d_X11_behindSum_146 : decode prog_13_method_53_code 146 = .ok (.isub, 1) := by decide +kernel
theorem d_X11_behindSum_147 : decode prog_13_method_53_code 147 = .ok (.putfield 284, 3) := by decide +kernel
theorem d_X11_behindSum_150 : decode prog_13_method_53_code 150 = .ok (.iconst 3, 1) := by decide +kernel
theorem d_X11_behindSum_151 : decode prog_13_method_53_code 151 = .ok (.ireturn, 1) := by decide +kernel
theorem d_X11_behindSum_152 : decode prog_13_method_53_code 152 = .ok (.iload_n 3, 1) := by decide +kernel
theorem d_X11_behindSum_153 : decode prog_13_method_53_code 153 = .ok (.iconst (-1), 1) := by decide +kernel
theorem d_X11_behindSum_154 : decode prog_13_method_53_code 154 = .ok (.if_icmp .ne 9, 3) := by decide +kernel
theorem d_X11_behindSum_157 : decode prog_13_method_53_code 157 = .ok (.iload_n 1, 1) := by decide +kernel
theorem d_X11_behindSum_158 : decode prog_13_method_53_code 158 = .ok (.ifCond .ne 5, 3) := by decide +kernel
theorem d_X11_behindSum_161 : decode prog_13_method_53_code 161 = .ok (.iconst 4, 1) := by decide +kernel
theorem d_X11_behindSum_162 : decode prog_13_method_53_code 162 = .ok (.ireturn, 1) := by decide +kernel
theorem d_X11_behindSum_163 : decode prog_13_method_53_code 163 = .ok (.aload_n 0, 1) := by decide +kernel
theorem d_X11_behindSum_164 : decode prog_13_method_53_code 164 = .ok (.invokevirtual 332, 3) := by decide +kernel
theorem d_X11_behindSum_167 : decode prog_13_method_53_code 167 = .ok (.ifCond .eq 5, 3) := by decide +kernel
theorem d_X11_behindSum_170 : decode prog_13_method_53_code 170 = .ok (.iconst 2, 1) := by decide +kernel
theorem d_X11_behindSum_171 : decode prog_13_method_53_code 171 = .ok (.ireturn, 1) := by decide +kernel
theorem d_X11_behindSum_172 : decode prog_13_method_53_code 172 = .ok (.aload_n 0, 1) := by decide +kernel
theorem d_X11_behindSum_173 : decode prog_13_method_53_code 173 = .ok (.bipush 60, 2) := by decide +kernel
theorem d_X11_behindSum_175 : decode prog_13_method_53_code 175 = .ok (.invokevirtual 293, 3) := by decide +kernel
theorem d_X11_behindSum_178 : decode prog_13_method_53_code 178 = .ok (.ifCond .eq 8, 3) := by decide +kernel
theorem d_X11_behindSum_181 : decode prog_13_method_53_code 181 = .ok (.bipush 25, 2) := by decide +kernel
theorem d_X11_behindSum_183 : decode prog_13_method_53_code 183 = .ok (.goto 19, 3) := by decide +kernel
theorem d_X11_behindSum_186 : decode prog_13_method_53_code 186 = .ok (.aload_n 0, 1) := by decide +kernel
theorem d_X11_behindSum_187 : decode prog_13_method_53_code 187 = .ok (.bipush 62, 2) := by decide +kernel
theorem d_X11_behindSum_189 : decode prog_13_method_53_code 189 = .ok (.invokevirtual 293, 3) := by decide +kernel
theorem d_X11_behindSum_192 : decode prog_13_method_53_code 192 = .ok (.ifCond .eq 8, 3) := by decide +kernel
theorem d_X11_behindSum_195 : decode prog_13_method_53_code 195 = .ok (.bipush 26, 2) := by decide +kernel
theorem d_X11_behindSum_197 : decode prog_13_method_53_code 197 = .ok (.goto 5, 3) := by decide +kernel
theorem d_X11_behindSum_200 : decode prog_13_method_53_code 200 = .ok (.bipush 27, 2) := by decide +kernel
theorem d_X11_behindSum_202 : decode prog_13_method_53_code 202 = .ok (.istore_n 2, 1) := by decide +kernel
theorem d_X11_behindSum_203 : decode prog_13_method_53_code 203 = .ok (.aload_n 0, 1) := by decide +kernel
theorem d_X11_behindSum_204 : decode prog_13_method_53_code 204 = .ok (.iload_n 2, 1) := by decide +kernel
theorem d_X11_behindSum_205 : decode prog_13_method_53_code 205 = .ok (.bipush 27, 2) := by decide +kernel
theorem d_X11_behindSum_207 : decode prog_13_method_53_code 207 = .ok (.if_icmp .ne 12, 3) := by decide +kernel
theorem d_X11_behindSum_210 : decode prog_13_method_53_code 210 = .ok (.aload_n 0, 1) := by decide +kernel
theorem d_X11_behindSum_211 : decode prog_13_method_53_code 211 = .ok (.bipush 61, 2) := by decide +kernel
theorem d_X11_behindSum_213 : decode prog_13_method_53_code 213 = .ok (.invokevirtual 293, 3) := by decide +kernel
theorem d_X11_behindSum_216 : decode prog_13_method_53_code 216 = .ok (.ifCond .eq 7, 3) := by decide +kernel
theorem d_X11_behindSum_219 : decode prog_13_method_53_code 219 = .ok (.iconst 1, 1) := by decide +kernel
theorem d_X11_behindSum_220 : decode prog_13_method_53_code 220 = .ok (.goto 4, 3) := by decide +kernel
theorem d_X11_behindSum_223 : decode prog_13_method_53_code 223 = .ok (.iconst 0, 1) := by decide +kernel
theorem d_X11_behindSum_224 : decode prog_13_method_53_code 224 = .ok (.invokevirtual 257, 3) := by decide +kernel
theorem d_X11_behindSum_227 : decode prog_13_method_53_code 227 = .ok (.aload_n 0, 1) := by decide +kernel
theorem d_X11_behindSum_228 : decode prog_13_method_53_code 228 = .ok (.getfield 224, 3) := by decide +kernel
theorem d_X11_behindSum_231 : decode prog_13_method_53_code 231 = .ok (.ifCond .ne 14, 3) := by decide +kernel
theorem d_X11_behindSum_234 : decode prog_13_method_53_code 234 = .ok (.aload_n 0, 1) := by decide +kernel
theorem d_X11_behindSum_235 : decode prog_13_method_53_code 235 = .ok (.iconst 5, 1) := by decide +kernel
theorem d_X11_behindSum_236 : decode prog_13_method_53_code 236 = .ok (.invokevirtual 326, 3) := by decide +kernel
theorem d_X11_behindSum_239 : decode prog_13_method_53_code 239 = .ok (.aload_n 0, 1) := by decide +kernel
theorem d_X11_behindSum_240 : decode prog_13_method_53_code 240 = .ok (.iload_n 2, 1) := by decide +kernel
theorem d_X11_behindSum_241 : decode prog_13_method_53_code 241 = .ok (.iconst 0, 1) := by decide +kernel
theorem d_X11_behindSum_242 : decode prog_13_method_53_code 242 = .ok (.invokevirtual 287, 3) := by decide +kernel
theorem d_X11_behindSum_245 : decode prog_13_method_53_code 245 = .ok (.iconst 1, 1) := by decide +kernel
theorem d_X11_behindSum_246 : decode prog_13_method_53_code 246 = .ok (.ireturn, 1) := by decide +kernel
theorem d_X11_behindTest_0 : decode prog_13_method_54_code 0 = .ok (.aload_n 0, 1) := by decide +kernel
theorem d_X11_behindTest_1 : decode prog_13_method_54_code 1 = .ok (.ldc2_w 336, 3) := by decide +kernel
theorem d_X11_behindTest_4 : decode prog_13_method_54_code 4 = .ok (.invokevirtual 280, 3) := by decide +kernel
theorem d_X11_behindTest_7 : decode prog_13_method_54_code 7 = .ok (.istore_n 1, 1) := by decide +kernel
theorem d_X11_behindTest_8 : decode prog_13_method_54_code 8 = .ok (.iload_n 1, 1) := by decide +kernel
theorem d_X11_behindTest_9 : decode prog_13_method_54_code 9 = .ok (.ifCond .ne 13, 3) := by decide +kernel
theorem d_X11_behindTest_12 : decode prog_13_method_54_code 12 = .ok (.aload_n 0, 1) := by decide +kernel
theorem d_X11_behindTest_13 : decode prog_13_method_54_code 13 = .ok (.ldc2_w 338, 3) := by decide +kernel
theorem d_X11_behindTest_16 : decode prog_13_method_54_code 16 = .ok (.invokevirtual 280, 3) := by decide +kernel
theorem d_X11_behindTest_19 : decode prog_13_method_54_code 19 = .ok (.ifCond .eq 57, 3) := by decide +kernel
theorem d_X11_behindTest_22 : decode prog_13_method_54_code 22 = .ok (.aload_n 0, 1) := by decide +kernel
theorem d_X11_behindTest_23 : decode prog_13_method_54_code 23 = .ok (.iload_n 1, 1) := by decide +kernel
theorem d_X11_behindTest_24 : decode prog_13_method_54_code 24 = .ok (.ifCond .eq 7, 3) := by decide +kernel
theorem d_X11_behindTest_27 : decode prog_13_method_54_code 27 = .ok (.iconst 2, 1) := by decide +kernel
theorem d_X11_behindTest_28 : decode prog_13_method_54_code 28 = .ok (.goto 4, 3) := by decide +kernel
theorem d_X11_behindTest_31 : decode prog_13_method_54_code 31 = .ok (.iconst 1, 1) := by decide +kernel
theorem d_X11_behindTest_32 : decode prog_13_method_54_code 32 = .ok (.invokevirtual 326, 3) := by decide +kernel
theorem d_X11_behindTest_35 : decode prog_13_method_54_code 35 = .ok (.aload_n 0, 1) := by decide +kernel
theorem d_X11_behindTest_36 : decode prog_13_method_54_code 36 = .ok (.iload_n 1, 1) := by decide +kernel
theorem d_X11_behindTest_37 : decode prog_13_method_54_code 37 = .ok (.ifCond .eq 8, 3) := by decide +kernel
theorem d_X11_behindTest_40 : decode prog_13_method_54_code 40 = .ok (.bipush 29, 2) := by decide +kernel
theorem d_X11_behindTest_42 : decode prog_13_method_54_code 42 = .ok (.goto 5, 3) := by decide +kernel
theorem d_X11_behindTest_45 : decode prog_13_method_54_code 45 = .ok (.bipush 30, 2) := by decide +kernel
theorem d_X11_behindTest_47 : decode prog_13_method_54_code 47 = .ok (.aload_n 0, 1) := by decide +kernel
theorem d_X11_behindTest_48 : decode prog_13_method_54_code 48 = .ok (.getfield 261, 3) := by decide +kernel
theorem d_X11_behindTest_51 : decode prog_13_method_54_code 51 = .ok (.invokevirtual 287, 3) := by decide +kernel
theorem d_X11_behindTest_54 : decode prog_13_method_54_code 54 = .ok (.aload_n 0, 1) := by decide +kernel
theorem d_X11_behindTest_55 : decode prog_13_method_54_code 55 = .ok (.iload_n 1, 1) := by decide +kernel
theorem d_X11_behindTest_56 : decode prog_13_method_54_code 56 = .ok (.ifCond .eq 8, 3) := by decide +kernel
theorem d_X11_behindTest_59 : decode prog_13_method_54_code 59 = .ok (.bipush 29, 2) := by decide +kernel
theorem d_X11_behindTest_61 : decode prog_13_method_54_code 61 = .ok (.goto 5, 3) := by decide +kernel
theorem d_X11_behindTest_64 : decode prog_13_method_54_code 64 = .ok (.bipush 30, 2) := by decide +kernel
theorem d_X11_behindTest_66 : decode prog_13_method_54_code 66 = .ok (.iconst 0, 1) := by decide +kernel
theorem d_X11_behindTest_67 : decode prog_13_method_54_code 67 = .ok (.invokevirtual 270, 3) := by decide +kernel
theorem d_X11_behindTest_70 : decode prog_13_method_54_code 70 = .ok (.aload_n 0, 1) := by decide +kernel
theorem d_X11_behindTest_71 : decode prog_13_method_54_code 71 = .ok (.invokevirtual 228, 3) := by decide +kernel
theorem d_X11_behindTest_74 : decode prog_13_method_54_code 74 = .ok (.iconst 0, 1) := by decide +kernel
theorem d_X11_behindTest_75 : decode prog_13_method_54_code 75 = .ok (.ireturn, 1) := by decide +kernel
theorem d_X11_behindTest_76 : decode prog_13_method_54_code 76 = .ok (.aload_n 0, 1) := by decide +kernel
theorem d_X11_behindTest_77 : decode prog_13_method_54_code 77 = .ok (.invokevirtual 329, 3) := by decide +kernel
theorem d_X11_behindTest_80 : decode prog_13_method_54_code 80 = .ok (.iconst (-1), 1) := by decide +kernel
theorem d_X11_behindTest_81 : decode prog_13_method_54_code 81 = .ok (.if_icmp .ne 5, 3) := by decide +kernel
theorem d_X11_behindTest_84 : decode prog_13_method_54_code 84 = .ok (.iconst 4, 1) := by decide +kernel
theorem d_X11_behindTest_85 : decode prog_13_method_54_code 85 = .ok (.ireturn, 1) := by decide +kernel
theorem d_X11_behindTest_86 : decode prog_13_method_54_code 86 = .ok (.aload_n 0, 1) := by decide +kernel
theorem d_X11_behindTest_87 : decode prog_13_method_54_code 87 = .ok (.aload_n 0, 1) := by decide +kernel
theorem d_X11_behindTest_88 : decode prog_13_method_54_code 88 = .ok (.bipush 41, 2) := by decide +kernel
theorem d_X11_behindTest_90 : decode prog_13_method_54_code 90 = .ok (.invokevirtual 293, 3) := by decide +kernel
theorem d_X11_behindTest_93 : decode prog_13_method_54_code 93 = .ok (.invokevirtual 257, 3) := by decide +kernel
theorem d_X11_behindTest_96 : decode prog_13_method_54_code 96 = .ok (.aload_n 0, 1) := by decide +kernel
theorem d_X11_behindTest_97 : decode prog_13_method_54_code 97 = .ok (.getfield 224, 3) := by decide +kernel
theorem d_X11_behindTest_100 : decode prog_13_method_54_code 100 = .ok (.ifCond .ne 28, 3) := by decide +kernel
theorem d_X11_behindTest_103 : decode prog_13_method_54_code 103 = .ok (.aload_n 0, 1) := by decide +kernel
theorem d_X11_behindTest_104 : decode prog_13_method_54_code 104 = .ok (.iconst 1, 1) := by decide +kernel
theorem d_X11_behindTest_105 : decode prog_13_method_54_code 105 = .ok (.invokevirtual 326, 3) := by decide +kernel
theorem d_X11_behindTest_108 : decode prog_13_method_54_code 108 = .ok (.aload_n 0, 1) := by decide +kernel
theorem d_X11_behindTest_109 : decode prog_13_method_54_code 109 = .ok (.dup, 1) := by decide +kernel
theorem d_X11_behindTest_110 : decode prog_13_method_54_code 110 = .ok (.getfield 264, 3) := by decide +kernel
theorem d_X11_behindTest_113 : decode prog_13_method_54_code 113 = .ok (.iconst 1, 1) := by decide +kernel
theorem d_X11_behindTest_114 : decode prog_13_method_54_code 114 = .ok (.isub, 1) := by decide +kernel
theorem d_X11_behindTest_115 : decode prog_13_method_54_code 115 = .ok (.putfield 264, 3) := by decide +kernel
theorem d_X11_behindTest_118 : decode prog_13_method_54_code 118 = .ok (.aload_n 0, 1) := by decide +kernel
theorem d_X11_behindTest_119 : decode prog_13_method_54_code 119 = .ok (.dup, 1) := by decide +kernel
theorem d_X11_behindTest_120 : decode prog_13_method_54_code 120 = .ok (.getfield 284, 3) := by decide +kernel
theorem d_X11_behindTest_123 : decode prog_13_method_54_code 123 = .ok (.iconst 1, 1) := by decide +kernel
theorem d_X11_behindTest_124 : decode prog_13_method_54_code 124 = .ok (.isub, 1) := by decide +kernel
theorem d_X11_behindTest_125 : decode prog_13_method_54_code 125 = .ok (.putfield 284, 3) := by decide +kernel
theorem d_X11_behindTest_128 : decode prog_13_method_54_code 128 = .ok (.iconst 2, 1) := by decide +kernel
theorem d_X11_behindTest_129 : decode prog_13_method_54_code 129 = .ok (.ireturn, 1) := by decide +kernel
theorem d_X11_readExpression_0 : decode prog_13_method_55_code 0 = .ok (.aload_n 0, 1) := by decide +kernel
theorem d_X11_readExpression_1 : decode prog_13_method_55_code 1 = .ok (.iconst 0, 1) := by decide +kernel
theorem d_X11_readExpression_2 : decode prog_13_method_55_code 2 = .ok (.putfield 264, 3) := by decide +kernel
theorem d_X11_readExpression_5 : decode prog_13_method_55_code 5 = .ok (.aload_n 0, 1) := by decide +kernel
theorem d_X11_readExpression_6 : decode prog_13_method_55_code 6 = .ok (.iconst 0, 1) := by decide +kernel
theorem d_X11_readExpression_7 : decode prog_13_method_55_code 7 = .ok (.putfield 284, 3) := by decide +kernel
theorem d_X11_readExpression_10 : decode prog_13_method_55_code 10 = .ok (.iload_n 1, 1) := by decide +kernel
theorem d_X11_readExpression_11 : decode prog_13_method_55_code 11 = .ok (.ifCond .eq 7, 3) := by decide +kernel
theorem d_X11_readExpression_14 : decode prog_13_method_55_code 14 = .ok (.iconst 0, 1) := by decide +kernel
theorem d_X11_readExpression_15 : decode prog_13_method_55_code 15 = .ok (.goto 4, 3) := by decide +kernel
theorem d_X11_readExpression_18 : decode prog_13_method_55_code 18 = .ok (.iconst 1, 1) := by decide +kernel
theorem d_X11_readExpression_19 : decode prog_13_method_55_code 19 = .ok (.istore_n 2, 1) := by decide +kernel
theorem d_X11_readExpression_20 : decode prog_13_method_55_code 20 = .ok (.aload_n 0, 1) := by decide +kernel
theorem d_X11_readExpression_21 : decode prog_13_method_55_code 21 = .ok (.getfield 224, 3) := by decide +kernel
theorem d_X11_readExpression_24 : decode prog_13_method_55_code 24 = .ok (.ifCond .ne 52, 3) := by decide +kernel
theorem d_X11_readExpression_27 : decode prog_13_method_55_code 27 = .ok (.iload_n 2, 1) := by decide +kernel
theorem d_X11_readExpression_28 : decode prog_13_method_55_code 28 = .ok (.iconst 4, 1) := by decide +kernel
theorem d_X11_readExpression_29 : decode prog_13_method_55_code 29 = .ok (.if_icmp .eq 47, 3) := by decide +kernel
theorem d_X11_readExpression_32 : decode prog_13_method_55_code 32 = .ok (.iload_n 2, 1) := by decide +kernel
theorem d_X11_readExpression_33 : decode prog_13_method_55_code 33 = .ok (.ifCond .ne 10, 3) := by decide +kernel
theorem d_X11_readExpression_36 : decode prog_13_method_55_code 36 = .ok (.aload_n 0, 1) := by decide +kernel
theorem d_X11_readExpression_37 : decode prog_13_method_55_code 37 = .ok (.invokevirtual 340, 3) := by decide +kernel
theorem d_X11_readExpression_40 : decode prog_13_method_55_code 40 = .ok (.goto 32, 3) := by decide +kernel
theorem d_X11_readExpression_43 : decode prog_13_method_55_code 43 = .ok (.iload_n 2, 1) := by decide +kernel
theorem d_X11_readExpression_44 : decode prog_13_method_55_code 44 = .ok (.iconst 1, 1) := by decide +kernel
theorem d_X11_readExpression_45 : decode prog_13_method_55_code 45 = .ok (.if_icmp .ne 10, 3) := by decide +kernel
theorem d_X11_readExpression_48 : decode prog_13_method_55_code 48 = .ok (.aload_n 0, 1) := by decide +kernel
theorem d_X11_readExpression_49 : decode prog_13_method_55_code 49 = .ok (.invokevirtual 323, 3) := by decide +kernel
theorem d_X11_readExpression_52 : decode prog_13_method_55_code 52 = .ok (.goto 20, 3) := by decide +kernel
theorem d_X11_readExpression_55 : decode prog_13_method_55_code 55 = .ok (.iload_n 2, 1) := by decide +kernel
theorem d_X11_readExpression_56 : decode prog_13_method_55_code 56 = .ok (.iconst 3, 1) := by decide +kernel
theorem d_X11_readExpression_57 : decode prog_13_method_55_code 57 = .ok (.if_icmp .ne 11, 3) := by decide +kernel
theorem d_X11_readExpression_60 : decode prog_13_method_55_code 60 = .ok (.aload_n 0, 1) := by decide +kernel
theorem d_X11_readExpression_61 : decode prog_13_method_55_code 61 = .ok (.iload_n 1, 1) := by decide +kernel
theorem d_X11_readExpression_62 : decode prog_13_method_55_code 62 = .ok (.invokevirtual 343, 3) := by decide +kernel
theorem d_X11_readExpression_65 : decode prog_13_method_55_code 65 = .ok (.goto 7, 3) := by decide +kernel
theorem d_X11_readExpression_68 : decode prog_13_method_55_code 68 = .ok (.aload_n 0, 1) := by decide +kernel
theorem d_X11_readExpression_69 : decode prog_13_method_55_code 69 = .ok (.invokevirtual 347, 3) := by decide +kernel
theorem d_X11_readExpression_72 : decode prog_13_method_55_code 72 = .ok (.istore_n 2, 1) := by decide +kernel
theorem d_X11_readExpression_73 : decode prog_13_method_55_code 73 = .ok (.goto (-53), 3) := by decide +kernel
theorem d_X11_readExpression_76 : decode prog_13_method_55_code 76 = .ok (.aload_n 0, 1) := by decide +kernel
theorem d_X11_readExpression_77 : decode prog_13_method_55_code 77 = .ok (.iconst 1, 1) := by decide +kernel
theorem d_X11_readExpression_78 : decode prog_13_method_55_code 78 = .ok (.invokevirtual 326, 3) := by decide +kernel
theorem d_X11_readExpression_81 : decode prog_13_method_55_code 81 = .ok (.return_, 1) := by decide +kernel
theorem d_X11_beginText_0 : decode prog_13_method_56_code 0 = .ok (.aload_n 0, 1) := by decide +kernel
theorem d_X11_beginText_1 : decode prog_13_method_56_code 1 = .ok (.iload_n 1, 1) := by decide +kernel
theorem d_X11_beginText_2 : decode prog_13_method_56_code 2 = .ok (.putfield 299, 3) := by decide +kernel
theorem d_X11_beginText_5 : decode prog_13_method_56_code 5 = .ok (.aload_n 0, 1) := by decide +kernel
theorem d_X11_beginText_6 : decode prog_13_method_56_code 6 = .ok (.invokevirtual 350, 3) := by decide +kernel
theorem d_X11_beginText_9 : decode prog_13_method_56_code 9 = .ok (.aload_n 0, 1) := by decide +kernel
theorem d_X11_beginText_10 : decode prog_13_method_56_code 10 = .ok (.iconst 0, 1) := by decide +kernel
theorem d_X11_beginText_11 : decode prog_13_method_56_code 11 = .ok (.putfield 353, 3) := by decide +kernel
theorem d_X11_beginText_14 : decode prog_13_method_56_code 14 = .ok (.aload_n 0, 1) := by decide +kernel
theorem d_X11_beginText_15 : decode prog_13_method_56_code 15 = .ok (.iconst 0, 1) := by decide +kernel
theorem d_X11_beginText_16 : decode prog_13_method_56_code 16 = .ok (.putfield 261, 3) := by decide +kernel
theorem d_X11_beginText_19 : decode prog_13_method_56_code 19 = .ok (.aload_n 0, 1) := by decide +kernel
theorem d_X11_beginText_20 : decode prog_13_method_56_code 20 = .ok (.iconst 0, 1) := by decide +kernel
theorem d_X11_beginText_21 : decode prog_13_method_56_code 21 = .ok (.putfield 290, 3) := by decide +kernel
theorem d_X11_beginText_24 : decode prog_13_method_56_code 24 = .ok (.return_, 1) := by decide +kernel
theorem d_X11_endText_0 : decode prog_13_method_57_code 0 = .ok (.aload_n 0, 1) := by decide +kernel
theorem d_X11_endText_1 : decode prog_13_method_57_code 1 = .ok (.getfield 224, 3) := by decide +kernel
theorem d_X11_endText_4 : decode prog_13_method_57_code 4 = .ok (.ifCond .ne 15, 3) := by decide +kernel
theorem d_X11_endText_7 : decode prog_13_method_57_code 7 = .ok (.aload_n 0, 1) := by decide +kernel
theorem d_X11_endText_8 : decode prog_13_method_57_code 8 = .ok (.getfield 244, 3) := by decide +kernel
theorem d_X11_endText_11 : decode prog_13_method_57_code 11 = .ok (.ifCond .eq 8, 3) := by decide +kernel
theorem d_X11_endText_14 : decode prog_13_method_57_code 14 = .ok (.aload_n 0, 1) := by decide +kernel
theorem d_X11_endText_15 : decode prog_13_method_57_code 15 = .ok (.iconst 0, 1) := by decide +kernel
theorem d_X11_endText_16 : decode prog_13_method_57_code 16 = .ok (.invokevirtual 257, 3) := by decide +kernel
theorem d_X11_endText_19 : decode prog_13_method_57_code 19 = .ok (.aload_n 0, 1) := by decide +kernel
theorem d_X11_endText_20 : decode prog_13_method_57_code 20 = .ok (.iconst 0, 1) := by decide +kernel
theorem d_X11_endText_21 : decode prog_13_method_57_code 21 = .ok (.putfield 299, 3) := by decide +kernel
theorem d_X11_endText_24 : decode prog_13_method_57_code 24 = .ok (.aload_n 0, 1) := by decide +kernel
theorem d_X11_endText_25 : decode prog_13_method_57_code 25 = .ok (.iconst 0, 1) := by decide +kernel
theorem d_X11_endText_26 : decode prog_13_method_57_code 26 = .ok (.putfield 212, 3) := by decide +kernel
theorem d_X11_endText_29 : decode prog_13_method_57_code 29 = .ok (.return_, 1) := by decide +kernel
