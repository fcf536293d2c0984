theorem d_X11_readLaw_0 : decode prog_13_method_58_code 0 = .ok (.iconst (-1), 1) := by decide +kernel
theorem d_X11_readLaw_1 : decode prog_13_method_58_code 1 = .ok (.istore_n 1, 1) := by decide +kernel
theorem d_X11_readLaw_2 : decode prog_13_method_58_code 2 = .ok (.iconst 0, 1) := by decide +kernel
theorem d_X11_readLaw_3 : decode prog_13_method_58_code 3 = .ok (.istore_n 2, 1) := by decide +kernel
theorem d_X11_readLaw_4 : decode prog_13_method_58_code 4 = .ok (.iload_n 2, 1) := by decide +kernel
theorem d_X11_readLaw_5 : decode prog_13_method_58_code 5 = .ok (.iconst 4, 1) := by decide +kernel
theorem d_X11_readLaw_6 : decode prog_13_method_58_code 6 = .ok (.if_icmp .ge 28, 3) := by decide +kernel
theorem d_X11_readLaw_9 : decode prog_13_method_58_code 9 = .ok (.aload_n 0, 1) := by decide +kernel
theorem d_X11_readLaw_10 : decode prog_13_method_58_code 10 = .ok (.aload_n 0, 1) := by decide +kernel
theorem d_X11_readLaw_11 : decode prog_13_method_58_code 11 = .ok (.getfield 98, 3) := by decide +kernel
theorem d_X11_readLaw_14 : decode prog_13_method_58_code 14 = .ok (.iload_n 2, 1) := by decide +kernel
theorem d_X11_readLaw_15 : decode prog_13_method_58_code 15 = .ok (.laload, 1) := by decide +kernel
theorem d_X11_readLaw_16 : decode prog_13_method_58_code 16 = .ok (.invokevirtual 280, 3) := by decide +kernel
theorem d_X11_readLaw_19 : decode prog_13_method_58_code 19 = .ok (.ifCond .eq 7, 3) := by decide +kernel
theorem d_X11_readLaw_22 : decode prog_13_method_58_code 22 = .ok (.iload_n 2, 1) := by decide +kernel
theorem d_X11_readLaw_23 : decode prog_13_method_58_code 23 = .ok (.goto 4, 3) := by decide +kernel
theorem d_X11_readLaw_26 : decode prog_13_method_58_code 26 = .ok (.iload_n 1, 1) := by decide +kernel
theorem d_X11_readLaw_27 : decode prog_13_method_58_code 27 = .ok (.istore_n 1, 1) := by decide +kernel
theorem d_X11_readLaw_28 : decode prog_13_method_58_code 28 = .ok (.iinc 2 1, 3) := by decide +kernel
theorem d_X11_readLaw_31 : decode prog_13_method_58_code 31 = .ok (.goto (-27), 3) := by decide +kernel
theorem d_X11_readLaw_34 : decode prog_13_method_58_code 34 = .ok (.aload_n 0, 1) := by decide +kernel
theorem d_X11_readLaw_35 : decode prog_13_method_58_code 35 = .ok (.iload_n 1, 1) := by decide +kernel
theorem d_X11_readLaw_36 : decode prog_13_method_58_code 36 = .ok (.iconst (-1), 1) := by decide +kernel
theorem d_X11_readLaw_37 : decode prog_13_method_58_code 37 = .ok (.if_icmp .eq 16, 3) := by decide +kernel
theorem d_X11_readLaw_40 : decode prog_13_method_58_code 40 = .ok (.aload_n 0, 1) := by decide +kernel
theorem d_X11_readLaw_41 : decode prog_13_method_58_code 41 = .ok (.getfield 353, 3) := by decide +kernel
theorem d_X11_readLaw_44 : decode prog_13_method_58_code 44 = .ok (.bipush 12, 2) := by decide +kernel
theorem d_X11_readLaw_46 : decode prog_13_method_58_code 46 = .ok (.if_icmp .ge 7, 3) := by decide +kernel
theorem d_X11_readLaw_49 : decode prog_13_method_58_code 49 = .ok (.iconst 1, 1) := by decide +kernel
theorem d_X11_readLaw_50 : decode prog_13_method_58_code 50 = .ok (.goto 4, 3) := by decide +kernel
theorem d_X11_readLaw_53 : decode prog_13_method_58_code 53 = .ok (.iconst 0, 1) := by decide +kernel
theorem d_X11_readLaw_54 : decode prog_13_method_58_code 54 = .ok (.invokevirtual 257, 3) := by decide +kernel
theorem d_X11_readLaw_57 : decode prog_13_method_58_code 57 = .ok (.aload_n 0, 1) := by decide +kernel
theorem d_X11_readLaw_58 : decode prog_13_method_58_code 58 = .ok (.getfield 224, 3) := by decide +kernel
theorem d_X11_readLaw_61 : decode prog_13_method_58_code 61 = .ok (.ifCond .eq 4, 3) := by decide +kernel
theorem d_X11_readLaw_64 : decode prog_13_method_58_code 64 = .ok (.return_, 1) := by decide +kernel
theorem d_X11_readLaw_65 : decode prog_13_method_58_code 65 = .ok (.bipush 8, 2) := by decide +kernel
theorem d_X11_readLaw_67 : decode prog_13_method_58_code 67 = .ok (.aload_n 0, 1) := by decide +kernel
theorem d_X11_readLaw_68 : decode prog_13_method_58_code 68 = .ok (.getfield 353, 3) := by decide +kernel
theorem d_X11_readLaw_71 : decode prog_13_method_58_code 71 = .ok (.imul, 1) := by decide +kernel
theorem d_X11_readLaw_72 : decode prog_13_method_58_code 72 = .ok (.istore_n 2, 1) := by decide +kernel
theorem d_X11_readLaw_73 : decode prog_13_method_58_code 73 = .ok (.iconst 0, 1) := by decide +kernel
theorem d_X11_readLaw_74 : decode prog_13_method_58_code 74 = .ok (.istore_n 3, 1) := by decide +kernel
theorem d_X11_readLaw_75 : decode prog_13_method_58_code 75 = .ok (.iload_n 3, 1) := by decide +kernel
theorem d_X11_readLaw_76 : decode prog_13_method_58_code 76 = .ok (.bipush 8, 2) := by decide +kernel
theorem d_X11_readLaw_78 : decode prog_13_method_58_code 78 = .ok (.if_icmp .ge 18, 3) := by decide +kernel
theorem d_X11_readLaw_81 : decode prog_13_method_58_code 81 = .ok (.aload_n 0, 1) := by decide +kernel
theorem d_X11_readLaw_82 : decode prog_13_method_58_code 82 = .ok (.getfield 42, 3) := by decide +kernel
theorem d_X11_readLaw_85 : decode prog_13_method_58_code 85 = .ok (.iload_n 2, 1) := by decide +kernel
theorem d_X11_readLaw_86 : decode prog_13_method_58_code 86 = .ok (.iload_n 3, 1) := by decide +kernel
theorem d_X11_readLaw_87 : decode prog_13_method_58_code 87 = .ok (.iadd, 1) := by decide +kernel
theorem d_X11_readLaw_88 : decode prog_13_method_58_code 88 = .ok (.iconst 0, 1) := by decide +kernel
theorem d_X11_readLaw_89 : decode prog_13_method_58_code 89 = .ok (.iastore, 1) := by decide +kernel
theorem d_X11_readLaw_90 : decode prog_13_method_58_code 90 = .ok (.iinc 3 1, 3) := by decide +kernel
theorem d_X11_readLaw_93 : decode prog_13_method_58_code 93 = .ok (.goto (-18), 3) := by decide +kernel
theorem d_X11_readLaw_96 : decode prog_13_method_58_code 96 = .ok (.aload_n 0, 1) := by decide +kernel
theorem d_X11_readLaw_97 : decode prog_13_method_58_code 97 = .ok (.getfield 42, 3) := by decide +kernel
theorem d_X11_readLaw_100 : decode prog_13_method_58_code 100 = .ok (.iload_n 2, 1) := by decide +kernel
theorem d_X11_readLaw_101 : decode prog_13_method_58_code 101 = .ok (.iload_n 1, 1) := by decide +kernel
theorem d_X11_readLaw_102 : decode prog_13_method_58_code 102 = .ok (.iastore, 1) := by decide +kernel
theorem d_X11_readLaw_103 : decode prog_13_method_58_code 103 = .ok (.aload_n 0, 1) := by decide +kernel
theorem d_X11_readLaw_104 : decode prog_13_method_58_code 104 = .ok (.dup, 1) := by decide +kernel
theorem d_X11_readLaw_105 : decode prog_13_method_58_code 105 = .ok (.getfield 353, 3) := by decide +kernel
theorem d_X11_readLaw_108 : decode prog_13_method_58_code 108 = .ok (.iconst 1, 1) := by decide +kernel
theorem d_X11_readLaw_109 : decode prog_13_method_58_code 109 = .ok (.iadd, 1) := by decide +kernel
theorem d_X11_readLaw_110 : decode prog_13_method_58_code 110 = .ok (.putfield 353, 3) := by decide +kernel
theorem d_X11_readLaw_113 : decode prog_13_method_58_code 113 = .ok (.aload_n 0, 1) := by decide +kernel
theorem d_X11_readLaw_114 : decode prog_13_method_58_code 114 = .ok (.getfield 42, 3) := by decide +kernel
theorem d_X11_readLaw_117 : decode prog_13_method_58_code 117 = .ok (.iload_n 2, 1) := by decide +kernel
theorem d_X11_readLaw_118 : decode prog_13_method_58_code 118 = .ok (.iconst 3, 1) := by decide +kernel
theorem d_X11_readLaw_119 : decode prog_13_method_58_code 119 = .ok (.iadd, 1) := by decide +kernel
theorem d_X11_readLaw_120 : decode prog_13_method_58_code 120 = .ok (.aload_n 0, 1) := by decide +kernel
theorem d_X11_readLaw_121 : decode prog_13_method_58_code 121 = .ok (.getfield 261, 3) := by decide +kernel
theorem d_X11_readLaw_124 : decode prog_13_method_58_code 124 = .ok (.iastore, 1) := by decide +kernel
theorem d_X11_readLaw_125 : decode prog_13_method_58_code 125 = .ok (.iload_n 1, 1) := by decide +kernel
theorem d_X11_readLaw_126 : decode prog_13_method_58_code 126 = .ok (.iconst 3, 1) := by decide +kernel
theorem d_X11_readLaw_127 : decode prog_13_method_58_code 127 = .ok (.if_icmp .eq 8, 3) := by decide +kernel
theorem d_X11_readLaw_130 : decode prog_13_method_58_code 130 = .ok (.aload_n 0, 1) := by decide +kernel
theorem d_X11_readLaw_131 : decode prog_13_method_58_code 131 = .ok (.iconst 0, 1) := by decide +kernel
theorem d_X11_readLaw_132 : decode prog_13_method_58_code 132 = .ok (.invokevirtual 356, 3) := by decide +kernel
theorem d_X11_readLaw_135 : decode prog_13_method_58_code 135 = .ok (.aload_n 0, 1) := by decide +kernel
theorem d_X11_readLaw_136 : decode prog_13_method_58_code 136 = .ok (.getfield 42, 3) := by decide +kernel
theorem d_X11_readLaw_139 : decode prog_13_method_58_code 139 = .ok (.iload_n 2, 1) := by decide +kernel
theorem d_X11_readLaw_140 : decode prog_13_method_58_code 140 = .ok (.iconst 4, 1) := by decide +kernel
theorem d_X11_readLaw_141 : decode prog_13_method_58_code 141 = .ok (.iadd, 1) := by decide +kernel
theorem d_X11_readLaw_142 : decode prog_13_method_58_code 142 = .ok (.aload_n 0, 1) := by decide +kernel
theorem d_X11_readLaw_143 : decode prog_13_method_58_code 143 = .ok (.getfield 261, 3) := by decide +kernel
theorem d_X11_readLaw_146 : decode prog_13_method_58_code 146 = .ok (.iastore, 1) := by decide +kernel
theorem d_X11_readLaw_147 : decode prog_13_method_58_code 147 = .ok (.aload_n 0, 1) := by decide +kernel
theorem d_X11_readLaw_148 : decode prog_13_method_58_code 148 = .ok (.getfield 42, 3) := by decide +kernel
theorem d_X11_readLaw_151 : decode prog_13_method_58_code 151 = .ok (.iload_n 2, 1) := by decide +kernel
theorem d_X11_readLaw_152 : decode prog_13_method_58_code 152 = .ok (.iconst 5, 1) := by decide +kernel
theorem d_X11_readLaw_153 : decode prog_13_method_58_code 153 = .ok (.iadd, 1) := by decide +kernel
theorem d_X11_readLaw_154 : decode prog_13_method_58_code 154 = .ok (.aload_n 0, 1) := by decide +kernel
theorem d_X11_readLaw_155 : decode prog_13_method_58_code 155 = .ok (.getfield 261, 3) := by decide +kernel
theorem d_X11_readLaw_158 : decode prog_13_method_58_code 158 = .ok (.iastore, 1) := by decide +kernel
theorem d_X11_readLaw_159 : decode prog_13_method_58_code 159 = .ok (.aload_n 0, 1) := by decide +kernel
theorem d_X11_readLaw_160 : decode prog_13_method_58_code 160 = .ok (.getfield 224, 3) := by decide +kernel
theorem d_X11_readLaw_163 : decode prog_13_method_58_code 163 = .ok (.ifCond .ne 22, 3) := by decide +kernel
theorem d_X11_readLaw_166 : decode prog_13_method_58_code 166 = .ok (.aload_n 0, 1) := by decide +kernel
theorem d_X11_readLaw_167 : decode prog_13_method_58_code 167 = .ok (.ldc2_w 359, 3) := by decide +kernel
theorem d_X11_readLaw_170 : decode prog_13_method_58_code 170 = .ok (.invokevirtual 280, 3) := by decide +kernel
theorem d_X11_readLaw_173 : decode prog_13_method_58_code 173 = .ok (.ifCond .eq 12, 3) := by decide +kernel
theorem d_X11_readLaw_176 : decode prog_13_method_58_code 176 = .ok (.aload_n 0, 1) := by decide +kernel
theorem d_X11_readLaw_177 : decode prog_13_method_58_code 177 = .ok (.invokevirtual 228, 3) := by decide +kernel
theorem d_X11_readLaw_180 : decode prog_13_method_58_code 180 = .ok (.aload_n 0, 1) := by decide +kernel
theorem d_X11_readLaw_181 : decode prog_13_method_58_code 181 = .ok (.iconst 1, 1) := by decide +kernel
theorem d_X11_readLaw_182 : decode prog_13_method_58_code 182 = .ok (.invokevirtual 356, 3) := by decide +kernel
theorem d_X11_readLaw_185 : decode prog_13_method_58_code 185 = .ok (.aload_n 0, 1) := by decide +kernel
theorem d_X11_readLaw_186 : decode prog_13_method_58_code 186 = .ok (.getfield 42, 3) := by decide +kernel
theorem d_X11_readLaw_189 : decode prog_13_method_58_code 189 = .ok (.iload_n 2, 1) := by decide +kernel
theorem d_X11_readLaw_190 : decode prog_13_method_58_code 190 = .ok (.bipush 6, 2) := by decide +kernel
theorem d_X11_readLaw_192 : decode prog_13_method_58_code 192 = .ok (.iadd, 1) := by decide +kernel
theorem d_X11_readLaw_193 : decode prog_13_method_58_code 193 = .ok (.aload_n 0, 1) := by decide +kernel
theorem d_X11_readLaw_194 : decode prog_13_method_58_code 194 = .ok (.getfield 261, 3) := by decide +kernel
theorem d_X11_readLaw_197 : decode prog_13_method_58_code 197 = .ok (.iastore, 1) := by decide +kernel
theorem d_X11_readLaw_198 : decode prog_13_method_58_code 198 = .ok (.return_, 1) := by decide +kernel
theorem d_X11_law_0 : decode prog_13_method_59_code 0 = .ok (.aload_n 0, 1) := by decide +kernel
theorem d_X11_law_1 : decode prog_13_method_59_code 1 = .ok (.iconst 0, 1) := by decide +kernel
theorem d_X11_law_2 : decode prog_13_method_59_code 2 = .ok (.putfield 145, 3) := by decide +kernel
theorem d_X11_law_5 : decode prog_13_method_59_code 5 = .ok (.aload_n 0, 1) := by decide +kernel
theorem d_X11_law_6 : decode prog_13_method_59_code 6 = .ok (.getfield 13, 3) := by decide +kernel
theorem d_X11_law_9 : decode prog_13_method_59_code 9 = .ok (.iconst 3, 1) := by decide +kernel
theorem d_X11_law_10 : decode prog_13_method_59_code 10 = .ok (.iaload, 1) := by decide +kernel
theorem d_X11_law_11 : decode prog_13_method_59_code 11 = .ok (.bipush 6, 2) := by decide +kernel
theorem d_X11_law_13 : decode prog_13_method_59_code 13 = .ok (.if_icmp .ne 15, 3) := by decide +kernel
theorem d_X11_law_16 : decode prog_13_method_59_code 16 = .ok (.aload_n 0, 1) := by decide +kernel
theorem d_X11_law_17 : decode prog_13_method_59_code 17 = .ok (.iconst 0, 1) := by decide +kernel
theorem d_X11_law_18 : decode prog_13_method_59_code 18 = .ok (.putfield 212, 3) := by decide +kernel
theorem d_X11_law_21 : decode prog_13_method_59_code 21 = .ok (.aload_n 0, 1) := by decide +kernel
theorem d_X11_law_22 : decode prog_13_method_59_code 22 = .ok (.bipush (-5), 2) := by decide +kernel
theorem d_X11_law_24 : decode prog_13_method_59_code 24 = .ok (.invokevirtual 154, 3) := by decide +kernel
theorem d_X11_law_27 : decode prog_13_method_59_code 27 = .ok (.ireturn, 1) := by decide +kernel
theorem d_X11_law_28 : decode prog_13_method_59_code 28 = .ok (.aload_n 0, 1) := by decide +kernel
theorem d_X11_law_29 : decode prog_13_method_59_code 29 = .ok (.iconst 0, 1) := by decide +kernel
theorem d_X11_law_30 : decode prog_13_method_59_code 30 = .ok (.invokevirtual 361, 3) := by decide +kernel
theorem d_X11_law_33 : decode prog_13_method_59_code 33 = .ok (.aload_n 0, 1) := by decide +kernel
theorem d_X11_law_34 : decode prog_13_method_59_code 34 = .ok (.invokevirtual 364, 3) := by decide +kernel
theorem d_X11_law_37 : decode prog_13_method_59_code 37 = .ok (.aload_n 0, 1) := by decide +kernel
theorem d_X11_law_38 : decode prog_13_method_59_code 38 = .ok (.getfield 224, 3) := by decide +kernel
theorem d_X11_law_41 : decode prog_13_method_59_code 41 = .ok (.ifCond .ne 23, 3) := by decide +kernel
theorem d_X11_law_44 : decode prog_13_method_59_code 44 = .ok (.aload_n 0, 1) := by decide +kernel
theorem d_X11_law_45 : decode prog_13_method_59_code 45 = .ok (.bipush 59, 2) := by decide +kernel
theorem d_X11_law_47 : decode prog_13_method_59_code 47 = .ok (.invokevirtual 293, 3) := by decide +kernel
theorem d_X11_law_50 : decode prog_13_method_59_code 50 = .ok (.ifCond .eq 14, 3) := by decide +kernel
theorem d_X11_law_53 : decode prog_13_method_59_code 53 = .ok (.aload_n 0, 1) := by decide +kernel
theorem d_X11_law_54 : decode prog_13_method_59_code 54 = .ok (.invokevirtual 228, 3) := by decide +kernel
theorem d_X11_law_57 : decode prog_13_method_59_code 57 = .ok (.aload_n 0, 1) := by decide +kernel
theorem d_X11_law_58 : decode prog_13_method_59_code 58 = .ok (.invokevirtual 364, 3) := by decide +kernel
theorem d_X11_law_61 : decode prog_13_method_59_code 61 = .ok (.goto (-24), 3) := by decide +kernel
theorem d_X11_law_64 : decode prog_13_method_59_code 64 = .ok (.aload_n 0, 1) := by decide +kernel
theorem d_X11_law_65 : decode prog_13_method_59_code 65 = .ok (.invokevirtual 367, 3) := by decide +kernel
theorem d_X11_law_68 : decode prog_13_method_59_code 68 = .ok (.aload_n 0, 1) := by decide +kernel
theorem d_X11_law_69 : decode prog_13_method_59_code 69 = .ok (.getfield 224, 3) := by decide +kernel
theorem d_X11_law_72 : decode prog_13_method_59_code 72 = .ok (.ifCond .eq 10, 3) := by decide +kernel
theorem d_X11_law_75 : decode prog_13_method_59_code 75 = .ok (.aload_n 0, 1) := by decide +kernel
theorem d_X11_law_76 : decode prog_13_method_59_code 76 = .ok (.bipush (-6), 2) := by decide +kernel
theorem d_X11_law_78 : decode prog_13_method_59_code 78 = .ok (.invokevirtual 154, 3) := by decide +kernel
theorem d_X11_law_81 : decode prog_13_method_59_code 81 = .ok (.ireturn, 1) := by decide +kernel
theorem d_X11_law_82 : decode prog_13_method_59_code 82 = .ok (.bipush 120, 2) := by decide +kernel
theorem d_X11_law_84 : decode prog_13_method_59_code 84 = .ok (.sipush 900, 3) := by decide +kernel
theorem d_X11_law_87 : decode prog_13_method_59_code 87 = .ok (.aload_n 0, 1) := by decide +kernel
theorem d_X11_law_88 : decode prog_13_method_59_code 88 = .ok (.getfield 13, 3) := by decide +kernel
theorem d_X11_law_91 : decode prog_13_method_59_code 91 = .ok (.iconst 3, 1) := by decide +kernel
theorem d_X11_law_92 : decode prog_13_method_59_code 92 = .ok (.iaload, 1) := by decide +kernel
theorem d_X11_law_93 : decode prog_13_method_59_code 93 = .ok (.imul, 1) := by decide +kernel
theorem d_X11_law_94 : decode prog_13_method_59_code 94 = .ok (.iadd, 1) := by decide +kernel
theorem d_X11_law_95 : decode prog_13_method_59_code 95 = .ok (.istore_n 1, 1) := by decide +kernel
theorem d_X11_law_96 : decode prog_13_method_59_code 96 = .ok (.aload_n 0, 1) := by decide +kernel
theorem d_X11_law_97 : decode prog_13_method_59_code 97 = .ok (.getfield 13, 3) := by decide +kernel
theorem d_X11_law_100 : decode prog_13_method_59_code 100 = .ok (.iload_n 1, 1) := by decide +kernel
theorem d_X11_law_101 : decode prog_13_method_59_code 101 = .ok (.iconst 1, 1) := by decide +kernel
theorem d_X11_law_102 : decode prog_13_method_59_code 102 = .ok (.iadd, 1) := by decide +kernel
theorem d_X11_law_103 : decode prog_13_method_59_code 103 = .ok (.aload_n 0, 1) := by decide +kernel
theorem d_X11_law_104 : decode prog_13_method_59_code 104 = .ok (.getfield 353, 3) := by decide +kernel
theorem d_X11_law_107 : decode prog_13_method_59_code 107 = .ok (.iastore, 1) := by decide +kernel
theorem d_X11_law_108 : decode prog_13_method_59_code 108 = .ok (.iconst 0, 1) := by decide +kernel
theorem d_X11_law_109 : decode prog_13_method_59_code 109 = .ok (.istore_n 2, 1) := by decide +kernel
theorem d_X11_law_110 : decode prog_13_method_59_code 110 = .ok (.iload_n 2, 1) := by decide +kernel
theorem d_X11_law_111 : decode prog_13_method_59_code 111 = .ok (.bipush 8, 2) := by decide +kernel
theorem d_X11_law_113 : decode prog_13_method_59_code 113 = .ok (.aload_n 0, 1) := by decide +kernel
theorem d_X11_law_114 : decode prog_13_method_59_code 114 = .ok (.getfield 353, 3) := by decide +kernel
theorem d_X11_law_117 : decode prog_13_method_59_code 117 = .ok (.imul, 1) := by decide +kernel
theorem d_X11_law_118 : decode prog_13_method_59_code 118 = .ok (.if_icmp .ge 25, 3) := by decide +kernel
theorem d_X11_law_121 : decode prog_13_method_59_code 121 = .ok (.aload_n 0, 1) := by decide +kernel
theorem d_X11_law_122 : decode prog_13_method_59_code 122 = .ok (.getfield 13, 3) := by decide +kernel
theorem d_X11_law_125 : decode prog_13_method_59_code 125 = .ok (.iload_n 1, 1) := by decide +kernel
theorem d_X11_law_126 : decode prog_13_method_59_code 126 = .ok (.iconst 2, 1) := by decide +kernel
theorem d_X11_law_127 : decode prog_13_method_59_code 127 = .ok (.iadd, 1) := by decide +kernel
theorem d_X11_law_128 : decode prog_13_method_59_code 128 = .ok (.iload_n 2, 1) := by decide +kernel
theorem d_X11_law_129 : decode prog_13_method_59_code 129 = .ok (.iadd, 1) := by decide +kernel
theorem d_X11_law_130 : decode prog_13_method_59_code 130 = .ok (.aload_n 0, 1) := by decide +kernel
theorem d_X11_law_131 : decode prog_13_method_59_code 131 = .ok (.getfield 42, 3) := by decide +kernel
theorem d_X11_law_134 : decode prog_13_method_59_code 134 = .ok (.iload_n 2, 1) := by decide +kernel
theorem d_X11_law_135 : decode prog_13_method_59_code 135 = .ok (.iaload, 1) := by decide +kernel
theorem d_X11_law_136 : decode prog_13_method_59_code 136 = .ok (.iastore, 1) := by decide +kernel
theorem d_X11_law_137 : decode prog_13_method_59_code 137 = .ok (.iinc 2 1, 3) := by decide +kernel
theorem d_X11_law_140 : decode prog_13_method_59_code 140 = .ok (.goto (-30), 3) := by decide +kernel
theorem d_X11_law_143 : decode prog_13_method_59_code 143 = .ok (.iconst 0, 1) := by decide +kernel
theorem d_X11_law_144 : decode prog_13_method_59_code 144 = .ok (.istore_n 2, 1) := by decide +kernel
theorem d_X11_law_145 : decode prog_13_method_59_code 145 = .ok (.iload_n 2, 1) := by decide +kernel
theorem d_X11_law_146 : decode prog_13_method_59_code 146 = .ok (.aload_n 0, 1) := by decide +kernel
theorem d_X11_law_147 : decode prog_13_method_59_code 147 = .ok (.getfield 261, 3) := by decide +kernel
theorem d_X11_law_150 : decode prog_13_method_59_code 150 = .ok (.if_icmp .ge 49, 3) := by decide +kernel
theorem d_X11_law_153 : decode prog_13_method_59_code 153 = .ok (.aload_n 0, 1) := by decide +kernel
theorem d_X11_law_154 : decode prog_13_method_59_code 154 = .ok (.getfield 13, 3) := by decide +kernel
theorem d_X11_law_157 : decode prog_13_method_59_code 157 = .ok (.iload_n 1, 1) := by decide +kernel
theorem d_X11_law_158 : decode prog_13_method_59_code 158 = .ok (.bipush 98, 2) := by decide +kernel
theorem d_X11_law_160 : decode prog_13_method_59_code 160 = .ok (.iadd, 1) := by decide +kernel
theorem d_X11_law_161 : decode prog_13_method_59_code 161 = .ok (.iconst 2, 1) := by decide +kernel
theorem d_X11_law_162 : decode prog_13_method_59_code 162 = .ok (.iload_n 2, 1) := by decide +kernel
theorem d_X11_law_163 : decode prog_13_method_59_code 163 = .ok (.imul, 1) := by decide +kernel
theorem d_X11_law_164 : decode prog_13_method_59_code 164 = .ok (.iadd, 1) := by decide +kernel
theorem d_X11_law_165 : decode prog_13_method_59_code 165 = .ok (.aload_n 0, 1) := by decide +kernel
theorem d_X11_law_166 : decode prog_13_method_59_code 166 = .ok (.getfield 45, 3) := by decide +kernel
theorem d_X11_law_169 : decode prog_13_method_59_code 169 = .ok (.iload_n 2, 1) := by decide +kernel
theorem d_X11_law_170 : decode prog_13_method_59_code 170 = .ok (.iaload, 1) := by decide +kernel
theorem d_X11_law_171 : decode prog_13_method_59_code 171 = .ok (.iastore, 1) := by decide +kernel
theorem d_X11_law_172 : decode prog_13_method_59_code 172 = .ok (.aload_n 0, 1) := by decide +kernel
theorem d_X11_law_173 : decode prog_13_method_59_code 173 = .ok (.getfield 13, 3) := by decide +kernel
theorem d_X11_law_176 : decode prog_13_method_59_code 176 = .ok (.iload_n 1, 1) := by decide +kernel
theorem d_X11_law_177 : decode prog_13_method_59_code 177 = .ok (.bipush 98, 2) := by decide +kernel
theorem d_X11_law_179 : decode prog_13_method_59_code 179 = .ok (.iadd, 1) := by decide +kernel
theorem d_X11_law_180 : decode prog_13_method_59_code 180 = .ok (.iconst 2, 1) := by decide +kernel
theorem d_X11_law_181 : decode prog_13_method_59_code 181 = .ok (.iload_n 2, 1) := by decide +kernel
theorem d_X11_law_182 : decode prog_13_method_59_code 182 = .ok (.imul, 1) := by decide +kernel
theorem d_X11_law_183 : decode prog_13_method_59_code 183 = .ok (.iadd, 1) := by decide +kernel
theorem d_X11_law_184 : decode prog_13_method_59_code 184 = .ok (.iconst 1, 1) := by decide +kernel
theorem d_X11_law_185 : decode prog_13_method_59_code 185 = .ok (.iadd, 1) := by decide +kernel
theorem d_X11_law_186 : decode prog_13_method_59_code 186 = .ok (.aload_n 0, 1) := by decide +kernel
theorem d_X11_law_187 : decode prog_13_method_59_code 187 = .ok (.getfield 48, 3) := by decide +kernel
theorem d_X11_law_190 : decode prog_13_method_59_code 190 = .ok (.iload_n 2, 1) := by decide +kernel
theorem d_X11_law_191 : decode prog_13_method_59_code 191 = .ok (.iaload, 1) := by decide +kernel
theorem d_X11_law_192 : decode prog_13_method_59_code 192 = .ok (.iastore, 1) := by decide +kernel
theorem d_X11_law_193 : decode prog_13_method_59_code 193 = .ok (.iinc 2 1, 3) := by decide +kernel
theorem d_X11_law_196 : decode prog_13_method_59_code 196 = .ok (.goto (-51), 3) := by decide +kernel
theorem d_X11_law_199 : decode prog_13_method_59_code 199 = .ok (.aload_n 0, 1) := by decide +kernel
theorem d_X11_law_200 : decode prog_13_method_59_code 200 = .ok (.getfield 13, 3) := by decide +kernel
theorem d_X11_law_203 : decode prog_13_method_59_code 203 = .ok (.iconst 3, 1) := by decide +kernel
theorem d_X11_law_204 : decode prog_13_method_59_code 204 = .ok (.dup2, 1) := by decide +kernel
theorem d_X11_law_205 : decode prog_13_method_59_code 205 = .ok (.iaload, 1) := by decide +kernel
theorem d_X11_law_206 : decode prog_13_method_59_code 206 = .ok (.iconst 1, 1) := by decide +kernel
theorem d_X11_law_207 : decode prog_13_method_59_code 207 = .ok (.iadd, 1) := by decide +kernel
theorem d_X11_law_208 : decode prog_13_method_59_code 208 = .ok (.iastore, 1) := by decide +kernel
theorem d_X11_law_209 : decode prog_13_method_59_code 209 = .ok (.aload_n 0, 1) := by decide +kernel
theorem d_X11_law_210 : decode prog_13_method_59_code 210 = .ok (.aload_n 0, 1) := by decide +kernel
theorem d_X11_law_211 : decode prog_13_method_59_code 211 = .ok (.getfield 13, 3) := by decide +kernel
theorem d_X11_law_214 : decode prog_13_method_59_code 214 = .ok (.iconst 3, 1) := by decide +kernel
theorem d_X11_law_215 : decode prog_13_method_59_code 215 = .ok (.iaload, 1) := by decide +kernel
theorem d_X11_law_216 : decode prog_13_method_59_code 216 = .ok (.iconst 1, 1) := by decide +kernel
theorem d_X11_law_217 : decode prog_13_method_59_code 217 = .ok (.isub, 1) := by decide +kernel
theorem d_X11_law_218 : decode prog_13_method_59_code 218 = .ok (.invokevirtual 154, 3) := by decide +kernel
theorem d_X11_law_221 : decode prog_13_method_59_code 221 = .ok (.ireturn, 1) := by decide +kernel
theorem d_X11_isLaw_0 : decode prog_13_method_60_code 0 = .ok (.iload_n 1, 1) := by decide +kernel
theorem d_X11_isLaw_1 : decode prog_13_method_60_code 1 = .ok (.iconst (-1), 1) := by decide +kernel
theorem d_X11_isLaw_2 : decode prog_13_method_60_code 2 = .ok (.if_icmp .eq 21, 3) := by decide +kernel
theorem d_X11_isLaw_5 : decode prog_13_method_60_code 5 = .ok (.iload_n 1, 1) := by decide +kernel
theorem d_X11_isLaw_6 : decode prog_13_method_60_code 6 = .ok (.i2l, 1) := by decide +kernel
theorem d_X11_isLaw_7 : decode prog_13_method_60_code 7 = .ok (.lconst 0, 1) := by decide +kernel
theorem d_X11_isLaw_8 : decode prog_13_method_60_code 8 = .ok (.aload_n 0, 1) := by decide +kernel
theorem d_X11_isLaw_9 : decode prog_13_method_60_code 9 = .ok (.getfield 13, 3) := by decide +kernel
theorem d_X11_isLaw_12 : decode prog_13_method_60_code 12 = .ok (.iconst 3, 1) := by decide +kernel
theorem d_X11_isLaw_13 : decode prog_13_method_60_code 13 = .ok (.iaload, 1) := by decide +kernel
theorem d_X11_isLaw_14 : decode prog_13_method_60_code 14 = .ok (.i2l, 1) := by decide +kernel
theorem d_X11_isLaw_15 : decode prog_13_method_60_code 15 = .ok (.lconst 1, 1) := by decide +kernel
theorem d_X11_isLaw_16 : decode prog_13_method_60_code 16 = .ok (.lsub, 1) := by decide +kernel
theorem d_X11_isLaw_17 : decode prog_13_method_60_code 17 = .ok (.invokestatic 165, 3) := by decide +kernel
theorem d_X11_isLaw_20 : decode prog_13_method_60_code 20 = .ok (.ifCond .eq 7, 3) := by decide +kernel
theorem d_X11_isLaw_23 : decode prog_13_method_60_code 23 = .ok (.iconst 1, 1) := by decide +kernel
theorem d_X11_isLaw_24 : decode prog_13_method_60_code 24 = .ok (.goto 4, 3) := by decide +kernel
theorem d_X11_isLaw_27 : decode prog_13_method_60_code 27 = .ok (.iconst 0, 1) := by decide +kernel
theorem d_X11_isLaw_28 : decode prog_13_method_60_code 28 = .ok (.ireturn, 1) := by decide +kernel
theorem d_X11_force_0 : decode prog_13_method_61_code 0 = .ok (.aload_n 0, 1) := by decide +kernel
theorem d_X11_force_1 : decode prog_13_method_61_code 1 = .ok (.iconst 0, 1) := by decide +kernel
theorem d_X11_force_2 : decode prog_13_method_61_code 2 = .ok (.putfield 145, 3) := by decide +kernel
theorem d_X11_force_5 : decode prog_13_method_61_code 5 = .ok (.aload_n 0, 1) := by decide +kernel
theorem d_X11_force_6 : decode prog_13_method_61_code 6 = .ok (.iload_n 1, 1) := by decide +kernel
theorem d_X11_force_7 : decode prog_13_method_61_code 7 = .ok (.invokevirtual 370, 3) := by decide +kernel
theorem d_X11_force_10 : decode prog_13_method_61_code 10 = .ok (.ifCond .eq 12, 3) := by decide +kernel
theorem d_X11_force_13 : decode prog_13_method_61_code 13 = .ok (.aload_n 0, 1) := by decide +kernel
theorem d_X11_force_14 : decode prog_13_method_61_code 14 = .ok (.iconst 4, 1) := by decide +kernel
theorem d_X11_force_15 : decode prog_13_method_61_code 15 = .ok (.iload_n 1, 1) := by decide +kernel
theorem d_X11_force_16 : decode prog_13_method_61_code 16 = .ok (.invokevirtual 204, 3) := by decide +kernel
theorem d_X11_force_19 : decode prog_13_method_61_code 19 = .ok (.goto 9, 3) := by decide +kernel
theorem d_X11_force_22 : decode prog_13_method_61_code 22 = .ok (.aload_n 0, 1) := by decide +kernel
theorem d_X11_force_23 : decode prog_13_method_61_code 23 = .ok (.bipush (-2), 2) := by decide +kernel
theorem d_X11_force_25 : decode prog_13_method_61_code 25 = .ok (.invokevirtual 154, 3) := by decide +kernel
theorem d_X11_force_28 : decode prog_13_method_61_code 28 = .ok (.ireturn, 1) := by decide +kernel
theorem d_X11_reckon_0 : decode prog_13_method_62_code 0 = .ok (.iload_n 1, 1) := by decide +kernel
theorem d_X11_reckon_1 : decode prog_13_method_62_code 1 = .ok (.tableswitch 148 20 26 #[43, 48, 53, 58, 90, 122, 135], 43) := by decide +kernel
theorem d_X11_reckon_44 : decode prog_13_method_62_code 44 = .ok (.lload_n 2, 1) := by decide +kernel
theorem d_X11_reckon_45 : decode prog_13_method_62_code 45 = .ok (.lload 4, 2) := by decide +kernel
theorem d_X11_reckon_47 : decode prog_13_method_62_code 47 = .ok (.ladd, 1) := by decide +kernel
theorem d_X11_reckon_48 : decode prog_13_method_62_code 48 = .ok (.lreturn, 1) := by decide +kernel
theorem d_X11_reckon_49 : decode prog_13_method_62_code 49 = .ok (.lload_n 2, 1) := by decide +kernel
theorem d_X11_reckon_50 : decode prog_13_method_62_code 50 = .ok (.lload 4, 2) := by decide +kernel
theorem d_X11_reckon_52 : decode prog_13_method_62_code 52 = .ok (.lsub, 1) := by decide +kernel
theorem d_X11_reckon_53 : decode prog_13_method_62_code 53 = .ok (.lreturn, 1) := by decide +kernel
theorem d_X11_reckon_54 : decode prog_13_method_62_code 54 = .ok (.lload_n 2, 1) := by decide +kernel
theorem d_X11_reckon_55 : decode prog_13_method_62_code 55 = .ok (.lload 4, 2) := by decide +kernel
theorem d_X11_reckon_57 : decode prog_13_method_62_code 57 = .ok (.lmul, 1) := by decide +kernel
theorem d_X11_reckon_58 : decode prog_13_method_62_code 58 = .ok (.lreturn, 1) := by decide +kernel
theorem d_X11_reckon_59 : decode prog_13_method_62_code 59 = .ok (.aload_n 0, 1) := by decide +kernel
theorem d_X11_reckon_60 : decode prog_13_method_62_code 60 = .ok (.lload 4, 2) := by decide +kernel
theorem d_X11_reckon_62 : decode prog_13_method_62_code 62 = .ok (.lconst 0, 1) := by decide +kernel
theorem d_X11_reckon_63 : decode prog_13_method_62_code 63 = .ok (.lcmp, 1) := by decide +kernel
theorem d_X11_reckon_64 : decode prog_13_method_62_code 64 = .ok (.ifCond .ne 7, 3) := by decide +kernel
theorem d_X11_reckon_67 : decode prog_13_method_62_code 67 = .ok (.iconst 1, 1) := by decide +kernel
theorem d_X11_reckon_68 : decode prog_13_method_62_code 68 = .ok (.goto 4, 3) := by decide +kernel
theorem d_X11_reckon_71 : decode prog_13_method_62_code 71 = .ok (.iconst 0, 1) := by decide +kernel
theorem d_X11_reckon_72 : decode prog_13_method_62_code 72 = .ok (.putfield 373, 3) := by decide +kernel
theorem d_X11_reckon_75 : decode prog_13_method_62_code 75 = .ok (.aload_n 0, 1) := by decide +kernel
theorem d_X11_reckon_76 : decode prog_13_method_62_code 76 = .ok (.getfield 373, 3) := by decide +kernel
theorem d_X11_reckon_79 : decode prog_13_method_62_code 79 = .ok (.ifCond .eq 7, 3) := by decide +kernel
theorem d_X11_reckon_82 : decode prog_13_method_62_code 82 = .ok (.lconst 0, 1) := by decide +kernel
theorem d_X11_reckon_83 : decode prog_13_method_62_code 83 = .ok (.goto 7, 3) := by decide +kernel
theorem d_X11_reckon_86 : decode prog_13_method_62_code 86 = .ok (.lload_n 2, 1) := by decide +kernel
theorem d_X11_reckon_87 : decode prog_13_method_62_code 87 = .ok (.lload 4, 2) := by decide +kernel
theorem d_X11_reckon_89 : decode prog_13_method_62_code 89 = .ok (.ldiv, 1) := by decide +kernel
theorem d_X11_reckon_90 : decode prog_13_method_62_code 90 = .ok (.lreturn, 1) := by decide +kernel
theorem d_X11_reckon_91 : decode prog_13_method_62_code 91 = .ok (.aload_n 0, 1) := by decide +kernel
theorem d_X11_reckon_92 : decode prog_13_method_62_code 92 = .ok (.lload 4, 2) := by decide +kernel
theorem d_X11_reckon_94 : decode prog_13_method_62_code 94 = .ok (.lconst 0, 1) := by decide +kernel
theorem d_X11_reckon_95 : decode prog_13_method_62_code 95 = .ok (.lcmp, 1) := by decide +kernel
theorem d_X11_reckon_96 : decode prog_13_method_62_code 96 = .ok (.ifCond .ne 7, 3) := by decide +kernel
theorem d_X11_reckon_99 : decode prog_13_method_62_code 99 = .ok (.iconst 1, 1) := by decide +kernel
theorem d_X11_reckon_100 : decode prog_13_method_62_code 100 = .ok (.goto 4, 3) := by decide +kernel
theorem d_X11_reckon_103 : decode prog_13_method_62_code 103 = .ok (.iconst 0, 1) := by decide +kernel
theorem d_X11_reckon_104 : decode prog_13_method_62_code 104 = .ok (.putfield 373, 3) := by decide +kernel
theorem d_X11_reckon_107 : decode prog_13_method_62_code 107 = .ok (.aload_n 0, 1) := by decide +kernel
theorem d_X11_reckon_108 : decode prog_13_method_62_code 108 = .ok (.getfield 373, 3) := by decide +kernel
theorem d_X11_reckon_111 : decode prog_13_method_62_code 111 = .ok (.ifCond .eq 7, 3) := by decide +kernel
theorem d_X11_reckon_114 : decode prog_13_method_62_code 114 = .ok (.lconst 0, 1) := by decide +kernel
theorem d_X11_reckon_115 : decode prog_13_method_62_code 115 = .ok (.goto 7, 3) := by decide +kernel
theorem d_X11_reckon_118 : decode prog_13_method_62_code 118 = .ok (.lload_n 2, 1) := by decide +kernel
theorem d_X11_reckon_119 : decode prog_13_method_62_code 119 = .ok (.lload 4, 2) := by decide +kernel
theorem d_X11_reckon_121 : decode prog_13_method_62_code 121 = .ok (.lrem, 1) := by decide +kernel
theorem d_X11_reckon_122 : decode prog_13_method_62_code 122 = .ok (.lreturn, 1) := by decide +kernel
theorem d_X11_reckon_123 : decode prog_13_method_62_code 123 = .ok (.lload_n 2, 1) := by decide +kernel
theorem d_X11_reckon_124 : decode prog_13_method_62_code 124 = .ok (.lload 4, 2) := by decide +kernel
theorem d_X11_reckon_126 : decode prog_13_method_62_code 126 = .ok (.lcmp, 1) := by decide +kernel
theorem d_X11_reckon_127 : decode prog_13_method_62_code 127 = .ok (.ifCond .ge 7, 3) := by decide +kernel
theorem d_X11_reckon_130 : decode prog_13_method_62_code 130 = .ok (.lconst 1, 1) := by decide +kernel
theorem d_X11_reckon_131 : decode prog_13_method_62_code 131 = .ok (.goto 4, 3) := by decide +kernel
theorem d_X11_reckon_134 : decode prog_13_method_62_code 134 = .ok (.lconst 0, 1) := by decide +kernel
theorem d_X11_reckon_135 : decode prog_13_method_62_code 135 = .ok (.lreturn, 1) := by decide +kernel
theorem d_X11_reckon_136 : decode prog_13_method_62_code 136 = .ok (.lload_n 2, 1) := by decide +kernel
theorem d_X11_reckon_137 : decode prog_13_method_62_code 137 = .ok (.lload 4, 2) := by decide +kernel
theorem d_X11_reckon_139 : decode prog_13_method_62_code 139 = .ok (.lcmp, 1) := by decide +kernel
theorem d_X11_reckon_140 : decode prog_13_method_62_code 140 = .ok (.ifCond .le 7, 3) := by decide +kernel
theorem d_X11_reckon_143 : decode prog_13_method_62_code 143 = .ok (.lconst 1, 1) := by decide +kernel
theorem d_X11_reckon_144 : decode prog_13_method_62_code 144 = .ok (.goto 4, 3) := by decide +kernel
theorem d_X11_reckon_147 : decode prog_13_method_62_code 147 = .ok (.lconst 0, 1) := by decide +kernel
theorem d_X11_reckon_148 : decode prog_13_method_62_code 148 = .ok (.lreturn, 1) := by decide +kernel
theorem d_X11_reckon_149 : decode prog_13_method_62_code 149 = .ok (.lload_n 2, 1) := by decide +kernel
theorem d_X11_reckon_150 : decode prog_13_method_62_code 150 = .ok (.lload 4, 2) := by decide +kernel
theorem d_X11_reckon_152 : decode prog_13_method_62_code 152 = .ok (.lcmp, 1) := by decide +kernel
theorem d_X11_reckon_153 : decode prog_13_method_62_code 153 = .ok (.ifCond .ne 7, 3) := by decide +kernel
theorem d_X11_reckon_156 : decode prog_13_method_62_code 156 = .ok (.lconst 1, 1) := by decide +kernel
theorem d_X11_reckon_157 : decode prog_13_method_62_code 157 = .ok (.goto 4, 3) := by decide +kernel
theorem d_X11_reckon_160 : decode prog_13_method_62_code 160 = .ok (.lconst 0, 1) := by decide +kernel
theorem d_X11_reckon_161 : decode prog_13_method_62_code 161 = .ok (.lreturn, 1) := by decide +kernel
theorem d_X11_reckonAll_0 : decode prog_13_method_63_code 0 = .ok (.aload_n 0, 1) := by decide +kernel
theorem d_X11_reckonAll_1 : decode prog_13_method_63_code 1 = .ok (.iconst 0, 1) := by decide +kernel
theorem d_X11_reckonAll_2 : decode prog_13_method_63_code 2 = .ok (.putfield 373, 3) := by decide +kernel
theorem d_X11_reckonAll_5 : decode prog_13_method_63_code 5 = .ok (.iconst 0, 1) := by decide +kernel
theorem d_X11_reckonAll_6 : decode prog_13_method_63_code 6 = .ok (.istore_n 3, 1) := by decide +kernel
theorem d_X11_reckonAll_7 : decode prog_13_method_63_code 7 = .ok (.iload_n 1, 1) := by decide +kernel
theorem d_X11_reckonAll_8 : decode prog_13_method_63_code 8 = .ok (.istore 4, 2) := by decide +kernel
theorem d_X11_reckonAll_10 : decode prog_13_method_63_code 10 = .ok (.iload 4, 2) := by decide +kernel
theorem d_X11_reckonAll_12 : decode prog_13_method_63_code 12 = .ok (.iload_n 2, 1) := by decide +kernel
theorem d_X11_reckonAll_13 : decode prog_13_method_63_code 13 = .ok (.if_icmp .ge 340, 3) := by decide +kernel
theorem d_X11_reckonAll_16 : decode prog_13_method_63_code 16 = .ok (.aload_n 0, 1) := by decide +kernel
theorem d_X11_reckonAll_17 : decode prog_13_method_63_code 17 = .ok (.getfield 373, 3) := by decide +kernel
theorem d_X11_reckonAll_20 : decode prog_13_method_63_code 20 = .ok (.ifCond .ne 333, 3) := by decide +kernel
theorem d_X11_reckonAll_23 : decode prog_13_method_63_code 23 = .ok (.aload_n 0, 1) := by decide +kernel
theorem d_X11_reckonAll_24 : decode prog_13_method_63_code 24 = .ok (.getfield 299, 3) := by decide +kernel
theorem d_X11_reckonAll_27 : decode prog_13_method_63_code 27 = .ok (.ifCond .eq 13, 3) := by decide +kernel
theorem d_X11_reckonAll_30 : decode prog_13_method_63_code 30 = .ok (.aload_n 0, 1) := by decide +kernel
theorem d_X11_reckonAll_31 : decode prog_13_method_63_code 31 = .ok (.getfield 45, 3) := by decide +kernel
theorem d_X11_reckonAll_34 : decode prog_13_method_63_code 34 = .ok (.iload 4, 2) := by decide +kernel
theorem d_X11_reckonAll_36 : decode prog_13_method_63_code 36 = .ok (.iaload, 1) := by decide +kernel
theorem d_X11_reckonAll_37 : decode prog_13_method_63_code 37 = .ok (.goto 20, 3) := by decide +kernel
theorem d_X11_reckonAll_40 : decode prog_13_method_63_code 40 = .ok (.aload_n 0, 1) := by decide +kernel
theorem d_X11_reckonAll_41 : decode prog_13_method_63_code 41 = .ok (.getfield 13, 3) := by decide +kernel
theorem d_X11_reckonAll_44 : decode prog_13_method_63_code 44 = .ok (.aload_n 0, 1) := by decide +kernel
theorem d_X11_reckonAll_45 : decode prog_13_method_63_code 45 = .ok (.getfield 376, 3) := by decide +kernel
theorem d_X11_reckonAll_48 : decode prog_13_method_63_code 48 = .ok (.bipush 98, 2) := by decide +kernel
theorem d_X11_reckonAll_50 : decode prog_13_method_63_code 50 = .ok (.iadd, 1) := by decide +kernel
theorem d_X11_reckonAll_51 : decode prog_13_method_63_code 51 = .ok (.iconst 2, 1) := by decide +kernel
theorem d_X11_reckonAll_52 : decode prog_13_method_63_code 52 = .ok (.iload 4, 2) := by decide +kernel
theorem d_X11_reckonAll_54 : decode prog_13_method_63_code 54 = .ok (.imul, 1) := by decide +kernel
theorem d_X11_reckonAll_55 : decode prog_13_method_63_code 55 = .ok (.iadd, 1) := by decide +kernel
theorem d_X11_reckonAll_56 : decode prog_13_method_63_code 56 = .ok (.iaload, 1) := by decide +kernel
theorem d_X11_reckonAll_57 : decode prog_13_method_63_code 57 = .ok (.istore 5, 2) := by decide +kernel
theorem d_X11_reckonAll_59 : decode prog_13_method_63_code 59 = .ok (.aload_n 0, 1) := by decide +kernel
theorem d_X11_reckonAll_60 : decode prog_13_method_63_code 60 = .ok (.getfield 299, 3) := by decide +kernel
theorem d_X11_reckonAll_63 : decode prog_13_method_63_code 63 = .ok (.ifCond .eq 13, 3) := by decide +kernel
theorem d_X11_reckonAll_66 : decode prog_13_method_63_code 66 = .ok (.aload_n 0, 1) := by decide +kernel
theorem d_X11_reckonAll_67 : decode prog_13_method_63_code 67 = .ok (.getfield 48, 3) := by decide +kernel
theorem d_X11_reckonAll_70 : decode prog_13_method_63_code 70 = .ok (.iload 4, 2) := by decide +kernel
theorem d_X11_reckonAll_72 : decode prog_13_method_63_code 72 = .ok (.iaload, 1) := by decide +kernel
theorem d_X11_reckonAll_73 : decode prog_13_method_63_code 73 = .ok (.goto 22, 3) := by decide +kernel
theorem d_X11_reckonAll_76 : decode prog_13_method_63_code 76 = .ok (.aload_n 0, 1) := by decide +kernel
theorem d_X11_reckonAll_77 : decode prog_13_method_63_code 77 = .ok (.getfield 13, 3) := by decide +kernel
theorem d_X11_reckonAll_80 : decode prog_13_method_63_code 80 = .ok (.aload_n 0, 1) := by decide +kernel
theorem d_X11_reckonAll_81 : decode prog_13_method_63_code 81 = .ok (.getfield 376, 3) := by decide +kernel
theorem d_X11_reckonAll_84 : decode prog_13_method_63_code 84 = .ok (.bipush 98, 2) := by decide +kernel
theorem d_X11_reckonAll_86 : decode prog_13_method_63_code 86 = .ok (.iadd, 1) := by decide +kernel
theorem d_X11_reckonAll_87 : decode prog_13_method_63_code 87 = .ok (.iconst 2, 1) := by decide +kernel
theorem d_X11_reckonAll_88 : decode prog_13_method_63_code 88 = .ok (.iload 4, 2) := by decide +kernel
theorem d_X11_reckonAll_90 : decode prog_13_method_63_code 90 = .ok (.imul, 1) := by decide +kernel
theorem d_X11_reckonAll_91 : decode prog_13_method_63_code 91 = .ok (.iadd, 1) := by decide +kernel
theorem d_X11_reckonAll_92 : decode prog_13_method_63_code 92 = .ok (.iconst 1, 1) := by decide +kernel
theorem d_X11_reckonAll_93 : decode prog_13_method_63_code 93 = .ok (.iadd, 1) := by decide +kernel
theorem d_X11_reckonAll_94 : decode prog_13_method_63_code 94 = .ok (.iaload, 1) := by decide +kernel
theorem d_X11_reckonAll_95 : decode prog_13_method_63_code 95 = .ok (.istore 6, 2) := by decide +kernel
theorem d_X11_reckonAll_97 : decode prog_13_method_63_code 97 = .ok (.iinc 4 1, 3) := by decide +kernel
theorem d_X11_reckonAll_100 : decode prog_13_method_63_code 100 = .ok (.iload 5, 2) := by decide +kernel
theorem d_X11_reckonAll_102 : decode prog_13_method_63_code 102 = .ok (.bipush 20, 2) := by decide +kernel
theorem d_X11_reckonAll_104 : decode prog_13_method_63_code 104 = .ok (.if_icmp .ge 107, 3) := by decide +kernel
theorem d_X11_reckonAll_107 : decode prog_13_method_63_code 107 = .ok (.aload_n 0, 1) := by decide +kernel
theorem d_X11_reckonAll_108 : decode prog_13_method_63_code 108 = .ok (.getfield 107, 3) := by decide +kernel
theorem d_X11_reckonAll_111 : decode prog_13_method_63_code 111 = .ok (.iload_n 3, 1) := by decide +kernel
theorem d_X11_reckonAll_112 : decode prog_13_method_63_code 112 = .ok (.iload 5, 2) := by decide +kernel
theorem d_X11_reckonAll_114 : decode prog_13_method_63_code 114 = .ok (.ifCond .ne 9, 3) := by decide +kernel
theorem d_X11_reckonAll_117 : decode prog_13_method_63_code 117 = .ok (.iload 6, 2) := by decide +kernel
theorem d_X11_reckonAll_119 : decode prog_13_method_63_code 119 = .ok (.i2l, 1) := by decide +kernel
theorem d_X11_reckonAll_120 : decode prog_13_method_63_code 120 = .ok (.goto 84, 3) := by decide +kernel
theorem d_X11_reckonAll_123 : decode prog_13_method_63_code 123 = .ok (.aload_n 0, 1) := by decide +kernel
theorem d_X11_reckonAll_124 : decode prog_13_method_63_code 124 = .ok (.getfield 299, 3) := by decide +kernel
theorem d_X11_reckonAll_127 : decode prog_13_method_63_code 127 = .ok (.ifCond .ne 13, 3) := by decide +kernel
theorem d_X11_reckonAll_130 : decode prog_13_method_63_code 130 = .ok (.aload_n 0, 1) := by decide +kernel
theorem d_X11_reckonAll_131 : decode prog_13_method_63_code 131 = .ok (.getfield 101, 3) := by decide +kernel
theorem d_X11_reckonAll_134 : decode prog_13_method_63_code 134 = .ok (.iload 5, 2) := by decide +kernel
theorem d_X11_reckonAll_136 : decode prog_13_method_63_code 136 = .ok (.laload, 1) := by decide +kernel
theorem d_X11_reckonAll_137 : decode prog_13_method_63_code 137 = .ok (.goto 67, 3) := by decide +kernel
theorem d_X11_reckonAll_140 : decode prog_13_method_63_code 140 = .ok (.iload 5, 2) := by decide +kernel
theorem d_X11_reckonAll_142 : decode prog_13_method_63_code 142 = .ok (.bipush 6, 2) := by decide +kernel
theorem d_X11_reckonAll_144 : decode prog_13_method_63_code 144 = .ok (.if_icmp .ge 13, 3) := by decide +kernel
theorem d_X11_reckonAll_147 : decode prog_13_method_63_code 147 = .ok (.aload_n 0, 1) := by decide +kernel
theorem d_X11_reckonAll_148 : decode prog_13_method_63_code 148 = .ok (.getfield 104, 3) := by decide +kernel
theorem d_X11_reckonAll_151 : decode prog_13_method_63_code 151 = .ok (.iload 5, 2) := by decide +kernel
theorem d_X11_reckonAll_153 : decode prog_13_method_63_code 153 = .ok (.laload, 1) := by decide +kernel
theorem d_X11_reckonAll_154 : decode prog_13_method_63_code 154 = .ok (.goto 50, 3) := by decide +kernel
theorem d_X11_reckonAll_157 : decode prog_13_method_63_code 157 = .ok (.aload_n 0, 1) := by decide +kernel
theorem d_X11_reckonAll_158 : decode prog_13_method_63_code 158 = .ok (.iload 6, 2) := by decide +kernel
theorem d_X11_reckonAll_160 : decode prog_13_method_63_code 160 = .ok (.invokevirtual 184, 3) := by decide +kernel
theorem d_X11_reckonAll_163 : decode prog_13_method_63_code 163 = .ok (.ifCond .ne 9, 3) := by decide +kernel
theorem d_X11_reckonAll_166 : decode prog_13_method_63_code 166 = .ok (.ldc2_w 251, 3) := by decide +kernel
theorem d_X11_reckonAll_169 : decode prog_13_method_63_code 169 = .ok (.goto 35, 3) := by decide +kernel
theorem d_X11_reckonAll_172 : decode prog_13_method_63_code 172 = .ok (.iload 5, 2) := by decide +kernel
theorem d_X11_reckonAll_174 : decode prog_13_method_63_code 174 = .ok (.bipush 6, 2) := by decide +kernel
theorem d_X11_reckonAll_176 : decode prog_13_method_63_code 176 = .ok (.if_icmp .ne 17, 3) := by decide +kernel
theorem d_X11_reckonAll_179 : decode prog_13_method_63_code 179 = .ok (.aload_n 0, 1) := by decide +kernel
theorem d_X11_reckonAll_180 : decode prog_13_method_63_code 180 = .ok (.getfield 13, 3) := by decide +kernel
theorem d_X11_reckonAll_183 : decode prog_13_method_63_code 183 = .ok (.bipush 8, 2) := by decide +kernel
theorem d_X11_reckonAll_185 : decode prog_13_method_63_code 185 = .ok (.iload 6, 2) := by decide +kernel
theorem d_X11_reckonAll_187 : decode prog_13_method_63_code 187 = .ok (.iadd, 1) := by decide +kernel
theorem d_X11_reckonAll_188 : decode prog_13_method_63_code 188 = .ok (.iaload, 1) := by decide +kernel
theorem d_X11_reckonAll_189 : decode prog_13_method_63_code 189 = .ok (.i2l, 1) := by decide +kernel
theorem d_X11_reckonAll_190 : decode prog_13_method_63_code 190 = .ok (.goto 14, 3) := by decide +kernel
theorem d_X11_reckonAll_193 : decode prog_13_method_63_code 193 = .ok (.aload_n 0, 1) := by decide +kernel
theorem d_X11_reckonAll_194 : decode prog_13_method_63_code 194 = .ok (.getfield 13, 3) := by decide +kernel
theorem d_X11_reckonAll_197 : decode prog_13_method_63_code 197 = .ok (.bipush 24, 2) := by decide +kernel
theorem d_X11_reckonAll_199 : decode prog_13_method_63_code 199 = .ok (.iload 6, 2) := by decide +kernel
theorem d_X11_reckonAll_201 : decode prog_13_method_63_code 201 = .ok (.iadd, 1) := by decide +kernel
theorem d_X11_reckonAll_202 : decode prog_13_method_63_code 202 = .ok (.iaload, 1) := by decide +kernel
theorem d_X11_reckonAll_203 : decode prog_13_method_63_code 203 = .ok (.i2l, 1) := by decide +kernel
theorem d_X11_reckonAll_204 : decode prog_13_method_63_code 204 = .ok (.lastore, 1) := by decide +kernel
theorem d_X11_reckonAll_205 : decode prog_13_method_63_code 205 = .ok (.iinc 3 1, 3) := by decide +kernel
theorem d_X11_reckonAll_208 : decode prog_13_method_63_code 208 = .ok (.goto 142, 3) := by decide +kernel
theorem d_X11_reckonAll_211 : decode prog_13_method_63_code 211 = .ok (.iload 5, 2) := by decide +kernel
theorem d_X11_reckonAll_213 : decode prog_13_method_63_code 213 = .ok (.bipush 28, 2) := by decide +kernel
theorem d_X11_reckonAll_215 : decode prog_13_method_63_code 215 = .ok (.if_icmp .ge 73, 3) := by decide +kernel
theorem d_X11_reckonAll_218 : decode prog_13_method_63_code 218 = .ok (.iinc 3 (-1), 3) := by decide +kernel
theorem d_X11_reckonAll_221 : decode prog_13_method_63_code 221 = .ok (.aload_n 0, 1) := by decide +kernel
theorem d_X11_reckonAll_222 : decode prog_13_method_63_code 222 = .ok (.getfield 107, 3) := by decide +kernel
theorem d_X11_reckonAll_225 : decode prog_13_method_63_code 225 = .ok (.iload_n 3, 1) := by decide +kernel
theorem d_X11_reckonAll_226 : decode prog_13_method_63_code 226 = .ok (.iconst 1, 1) := by decide +kernel
theorem d_X11_reckonAll_227 : decode prog_13_method_63_code 227 = .ok (.isub, 1) := by decide +kernel
theorem d_X11_reckonAll_228 : decode prog_13_method_63_code 228 = .ok (.aload_n 0, 1) := by decide +kernel
theorem d_X11_reckonAll_229 : decode prog_13_method_63_code 229 = .ok (.iload 5, 2) := by decide +kernel
theorem d_X11_reckonAll_231 : decode prog_13_method_63_code 231 = .ok (.aload_n 0, 1) := by decide +kernel
theorem d_X11_reckonAll_232 : decode prog_13_method_63_code 232 = .ok (.getfield 107, 3) := by decide +kernel
theorem d_X11_reckonAll_235 : decode prog_13_method_63_code 235 = .ok (.iload_n 3, 1) := by decide +kernel
theorem d_X11_reckonAll_236 : decode prog_13_method_63_code 236 = .ok (.iconst 1, 1) := by decide +kernel
theorem d_X11_reckonAll_237 : decode prog_13_method_63_code 237 = .ok (.isub, 1) := by decide +kernel
theorem d_X11_reckonAll_238 : decode prog_13_method_63_code 238 = .ok (.laload, 1) := by decide +kernel
theorem d_X11_reckonAll_239 : decode prog_13_method_63_code 239 = .ok (.aload_n 0, 1) := by decide +kernel
theorem d_X11_reckonAll_240 : decode prog_13_method_63_code 240 = .ok (.getfield 107, 3) := by decide +kernel
theorem d_X11_reckonAll_243 : decode prog_13_method_63_code 243 = .ok (.iload_n 3, 1) := by decide +kernel
theorem d_X11_reckonAll_244 : decode prog_13_method_63_code 244 = .ok (.laload, 1) := by decide +kernel
theorem d_X11_reckonAll_245 : decode prog_13_method_63_code 245 = .ok (.invokevirtual 379, 3) := by decide +kernel
theorem d_X11_reckonAll_248 : decode prog_13_method_63_code 248 = .ok (.lastore, 1) := by decide +kernel
theorem d_X11_reckonAll_249 : decode prog_13_method_63_code 249 = .ok (.aload_n 0, 1) := by decide +kernel
theorem d_X11_reckonAll_250 : decode prog_13_method_63_code 250 = .ok (.aload_n 0, 1) := by decide +kernel
theorem d_X11_reckonAll_251 : decode prog_13_method_63_code 251 = .ok (.getfield 373, 3) := by decide +kernel
theorem d_X11_reckonAll_254 : decode prog_13_method_63_code 254 = .ok (.ifCond .ne 23, 3) := by decide +kernel
theorem d_X11_reckonAll_257 : decode prog_13_method_63_code 257 = .ok (.aload_n 0, 1) := by decide +kernel
theorem d_X11_reckonAll_258 : decode prog_13_method_63_code 258 = .ok (.getfield 107, 3) := by decide +kernel
theorem d_X11_reckonAll_261 : decode prog_13_method_63_code 261 = .ok (.iload_n 3, 1) := by decide +kernel
theorem d_X11_reckonAll_262 : decode prog_13_method_63_code 262 = .ok (.iconst 1, 1) := by decide +kernel
theorem d_X11_reckonAll_263 : decode prog_13_method_63_code 263 = .ok (.isub, 1) := by decide +kernel
theorem d_X11_reckonAll_264 : decode prog_13_method_63_code 264 = .ok (.laload, 1) := by decide +kernel
theorem d_X11_reckonAll_265 : decode prog_13_method_63_code 265 = .ok (.ldc2_w 383, 3) := by decide +kernel
theorem d_X11_reckonAll_268 : decode prog_13_method_63_code 268 = .ok (.ldc2_w 385, 3) := by decide +kernel
theorem d_X11_reckonAll_271 : decode prog_13_method_63_code 271 = .ok (.invokestatic 165, 3) := by decide +kernel
theorem d_X11_reckonAll_274 : decode prog_13_method_63_code 274 = .ok (.ifCond .ne 7, 3) := by decide +kernel
theorem d_X11_reckonAll_277 : decode prog_13_method_63_code 277 = .ok (.iconst 1, 1) := by decide +kernel
theorem d_X11_reckonAll_278 : decode prog_13_method_63_code 278 = .ok (.goto 4, 3) := by decide +kernel
theorem d_X11_reckonAll_281 : decode prog_13_method_63_code 281 = .ok (.iconst 0, 1) := by decide +kernel
theorem d_X11_reckonAll_282 : decode prog_13_method_63_code 282 = .ok (.putfield 373, 3) := by decide +kernel
theorem d_X11_reckonAll_285 : decode prog_13_method_63_code 285 = .ok (.goto 65, 3) := by decide +kernel
theorem d_X11_reckonAll_288 : decode prog_13_method_63_code 288 = .ok (.iload 5, 2) := by decide +kernel
theorem d_X11_reckonAll_290 : decode prog_13_method_63_code 290 = .ok (.bipush 28, 2) := by decide +kernel
theorem d_X11_reckonAll_292 : decode prog_13_method_63_code 292 = .ok (.if_icmp .ne 24, 3) := by decide +kernel
theorem d_X11_reckonAll_295 : decode prog_13_method_63_code 295 = .ok (.aload_n 0, 1) := by decide +kernel
theorem d_X11_reckonAll_296 : decode prog_13_method_63_code 296 = .ok (.getfield 107, 3) := by decide +kernel
theorem d_X11_reckonAll_299 : decode prog_13_method_63_code 299 = .ok (.iload_n 3, 1) := by decide +kernel
theorem d_X11_reckonAll_300 : decode prog_13_method_63_code 300 = .ok (.iconst 1, 1) := by decide +kernel
theorem d_X11_reckonAll_301 : decode prog_13_method_63_code 301 = .ok (.isub, 1) := by decide +kernel
theorem d_X11_reckonAll_302 : decode prog_13_method_63_code 302 = .ok (.lconst 1, 1) := by decide +kernel
theorem d_X11_reckonAll_303 : decode prog_13_method_63_code 303 = .ok (.aload_n 0, 1) := by decide +kernel
theorem d_X11_reckonAll_304 : decode prog_13_method_63_code 304 = .ok (.getfield 107, 3) := by decide +kernel
theorem d_X11_reckonAll_307 : decode prog_13_method_63_code 307 = .ok (.iload_n 3, 1) := by decide +kernel
theorem d_X11_reckonAll_308 : decode prog_13_method_63_code 308 = .ok (.iconst 1, 1) := by decide +kernel
theorem d_X11_reckonAll_309 : decode prog_13_method_63_code 309 = .ok (.isub, 1) := by decide +kernel
theorem d_X11_reckonAll_310 : decode prog_13_method_63_code 310 = .ok (.laload, 1) := by decide +kernel
theorem d_X11_reckonAll_311 : decode prog_13_method_63_code 311 = .ok (.lsub, 1) := by decide +kernel
theorem d_X11_reckonAll_312 : decode prog_13_method_63_code 312 = .ok (.lastore, 1) := by decide +kernel
theorem d_X11_reckonAll_313 : decode prog_13_method_63_code 313 = .ok (.goto 37, 3) := by decide +kernel
theorem d_X11_reckonAll_316 : decode prog_13_method_63_code 316 = .ok (.aload_n 0, 1) := by decide +kernel
theorem d_X11_reckonAll_317 : decode prog_13_method_63_code 317 = .ok (.getfield 107, 3) := by decide +kernel
theorem d_X11_reckonAll_320 : decode prog_13_method_63_code 320 = .ok (.iload_n 3, 1) := by decide +kernel
theorem d_X11_reckonAll_321 : decode prog_13_method_63_code 321 = .ok (.iconst 1, 1) := by decide +kernel
theorem d_X11_reckonAll_322 : decode prog_13_method_63_code 322 = .ok (.isub, 1) := by decide +kernel
theorem d_X11_reckonAll_323 : decode prog_13_method_63_code 323 = .ok (.laload, 1) := by decide +kernel
theorem d_X11_reckonAll_324 : decode prog_13_method_63_code 324 = .ok (.iload 5, 2) := by decide +kernel
theorem d_X11_reckonAll_326 : decode prog_13_method_63_code 326 = .ok (.bipush 29, 2) := by decide +kernel
theorem d_X11_reckonAll_328 : decode prog_13_method_63_code 328 = .ok (.if_icmp .ne 7, 3) := by decide +kernel
theorem d_X11_reckonAll_331 : decode prog_13_method_63_code 331 = .ok (.lconst 0, 1) := by decide +kernel
theorem d_X11_reckonAll_332 : decode prog_13_method_63_code 332 = .ok (.goto 4, 3) := by decide +kernel
theorem d_X11_reckonAll_335 : decode prog_13_method_63_code 335 = .ok (.lconst 1, 1) := by decide +kernel
theorem d_X11_reckonAll_336 : decode prog_13_method_63_code 336 = .ok (.lcmp, 1) := by decide +kernel
theorem d_X11_reckonAll_337 : decode prog_13_method_63_code 337 = .ok (.ifCond .ne 10, 3) := by decide +kernel
theorem d_X11_reckonAll_340 : decode prog_13_method_63_code 340 = .ok (.iload 6, 2) := by decide +kernel
theorem d_X11_reckonAll_342 : decode prog_13_method_63_code 342 = .ok (.istore 4, 2) := by decide +kernel
theorem d_X11_reckonAll_344 : decode prog_13_method_63_code 344 = .ok (.goto 6, 3) := by decide +kernel
theorem d_X11_reckonAll_347 : decode prog_13_method_63_code 347 = .ok (.iinc 3 (-1), 3) := by decide +kernel
theorem d_X11_reckonAll_350 : decode prog_13_method_63_code 350 = .ok (.goto (-340), 3) := by decide +kernel
theorem d_X11_reckonAll_353 : decode prog_13_method_63_code 353 = .ok (.aload_n 0, 1) := by decide +kernel
theorem d_X11_reckonAll_354 : decode prog_13_method_63_code 354 = .ok (.iload_n 3, 1) := by decide +kernel
theorem d_X11_reckonAll_355 : decode prog_13_method_63_code 355 = .ok (.ifCond .le 12, 3) := by decide +kernel
theorem d_X11_reckonAll_358 : decode prog_13_method_63_code 358 = .ok (.aload_n 0, 1) := by decide +kernel
theorem d_X11_reckonAll_359 : decode prog_13_method_63_code 359 = .ok (.getfield 107, 3) := by decide +kernel
theorem d_X11_reckonAll_362 : decode prog_13_method_63_code 362 = .ok (.iconst 0, 1) := by decide +kernel
theorem d_X11_reckonAll_363 : decode prog_13_method_63_code 363 = .ok (.laload, 1) := by decide +kernel
theorem d_X11_reckonAll_364 : decode prog_13_method_63_code 364 = .ok (.goto 4, 3) := by decide +kernel
theorem d_X11_reckonAll_367 : decode prog_13_method_63_code 367 = .ok (.lconst 0, 1) := by decide +kernel
theorem d_X11_reckonAll_368 : decode prog_13_method_63_code 368 = .ok (.putfield 387, 3) := by decide +kernel
theorem d_X11_reckonAll_371 : decode prog_13_method_63_code 371 = .ok (.return_, 1) := by decide +kernel
theorem d_X11_isSo_0 : decode prog_13_method_64_code 0 = .ok (.aload_n 0, 1) := by decide +kernel
theorem d_X11_isSo_1 : decode prog_13_method_64_code 1 = .ok (.getfield 13, 3) := by decide +kernel
theorem d_X11_isSo_4 : decode prog_13_method_64_code 4 = .ok (.iload_n 1, 1) := by decide +kernel
theorem d_X11_isSo_5 : decode prog_13_method_64_code 5 = .ok (.iconst 5, 1) := by decide +kernel
theorem d_X11_isSo_6 : decode prog_13_method_64_code 6 = .ok (.iadd, 1) := by decide +kernel
theorem d_X11_isSo_7 : decode prog_13_method_64_code 7 = .ok (.iaload, 1) := by decide +kernel
theorem d_X11_isSo_8 : decode prog_13_method_64_code 8 = .ok (.aload_n 0, 1) := by decide +kernel
theorem d_X11_isSo_9 : decode prog_13_method_64_code 9 = .ok (.getfield 13, 3) := by decide +kernel
theorem d_X11_isSo_12 : decode prog_13_method_64_code 12 = .ok (.iload_n 1, 1) := by decide +kernel
theorem d_X11_isSo_13 : decode prog_13_method_64_code 13 = .ok (.bipush 6, 2) := by decide +kernel
theorem d_X11_isSo_15 : decode prog_13_method_64_code 15 = .ok (.iadd, 1) := by decide +kernel
theorem d_X11_isSo_16 : decode prog_13_method_64_code 16 = .ok (.iaload, 1) := by decide +kernel
theorem d_X11_isSo_17 : decode prog_13_method_64_code 17 = .ok (.if_icmp .ge 42, 3) := by decide +kernel
theorem d_X11_isSo_20 : decode prog_13_method_64_code 20 = .ok (.aload_n 0, 1) := by decide +kernel
theorem d_X11_isSo_21 : decode prog_13_method_64_code 21 = .ok (.aload_n 0, 1) := by decide +kernel
theorem d_X11_isSo_22 : decode prog_13_method_64_code 22 = .ok (.getfield 13, 3) := by decide +kernel
theorem d_X11_isSo_25 : decode prog_13_method_64_code 25 = .ok (.iload_n 1, 1) := by decide +kernel
theorem d_X11_isSo_26 : decode prog_13_method_64_code 26 = .ok (.iconst 5, 1) := by decide +kernel
theorem d_X11_isSo_27 : decode prog_13_method_64_code 27 = .ok (.iadd, 1) := by decide +kernel
theorem d_X11_isSo_28 : decode prog_13_method_64_code 28 = .ok (.iaload, 1) := by decide +kernel
theorem d_X11_isSo_29 : decode prog_13_method_64_code 29 = .ok (.aload_n 0, 1) := by decide +kernel
theorem d_X11_isSo_30 : decode prog_13_method_64_code 30 = .ok (.getfield 13, 3) := by decide +kernel
theorem d_X11_isSo_33 : decode prog_13_method_64_code 33 = .ok (.iload_n 1, 1) := by decide +kernel
theorem d_X11_isSo_34 : decode prog_13_method_64_code 34 = .ok (.bipush 6, 2) := by decide +kernel
theorem d_X11_isSo_36 : decode prog_13_method_64_code 36 = .ok (.iadd, 1) := by decide +kernel
theorem d_X11_isSo_37 : decode prog_13_method_64_code 37 = .ok (.iaload, 1) := by decide +kernel
theorem d_X11_isSo_38 : decode prog_13_method_64_code 38 = .ok (.invokevirtual 390, 3) := by decide +kernel
theorem d_X11_isSo_41 : decode prog_13_method_64_code 41 = .ok (.aload_n 0, 1) := by decide +kernel
theorem d_X11_isSo_42 : decode prog_13_method_64_code 42 = .ok (.getfield 373, 3) := by decide +kernel
theorem d_X11_isSo_45 : decode prog_13_method_64_code 45 = .ok (.ifCond .ne 12, 3) := by decide +kernel
theorem d_X11_isSo_48 : decode prog_13_method_64_code 48 = .ok (.aload_n 0, 1) := by decide +kernel
theorem d_X11_isSo_49 : decode prog_13_method_64_code 49 = .ok (.getfield 387, 3) := by decide +kernel
theorem d_X11_isSo_52 : decode prog_13_method_64_code 52 = .ok (.lconst 0, 1) := by decide +kernel
theorem d_X11_isSo_53 : decode prog_13_method_64_code 53 = .ok (.lcmp, 1) := by decide +kernel
theorem d_X11_isSo_54 : decode prog_13_method_64_code 54 = .ok (.ifCond .ne 5, 3) := by decide +kernel
theorem d_X11_isSo_57 : decode prog_13_method_64_code 57 = .ok (.iconst 0, 1) := by decide +kernel
theorem d_X11_isSo_58 : decode prog_13_method_64_code 58 = .ok (.ireturn, 1) := by decide +kernel
theorem d_X11_isSo_59 : decode prog_13_method_64_code 59 = .ok (.aload_n 0, 1) := by decide +kernel
theorem d_X11_isSo_60 : decode prog_13_method_64_code 60 = .ok (.getfield 13, 3) := by decide +kernel
theorem d_X11_isSo_63 : decode prog_13_method_64_code 63 = .ok (.iload_n 1, 1) := by decide +kernel
theorem d_X11_isSo_64 : decode prog_13_method_64_code 64 = .ok (.iaload, 1) := by decide +kernel
theorem d_X11_isSo_65 : decode prog_13_method_64_code 65 = .ok (.iconst 3, 1) := by decide +kernel
theorem d_X11_isSo_66 : decode prog_13_method_64_code 66 = .ok (.if_icmp .eq 44, 3) := by decide +kernel
theorem d_X11_isSo_69 : decode prog_13_method_64_code 69 = .ok (.aload_n 0, 1) := by decide +kernel
theorem d_X11_isSo_70 : decode prog_13_method_64_code 70 = .ok (.aload_n 0, 1) := by decide +kernel
theorem d_X11_isSo_71 : decode prog_13_method_64_code 71 = .ok (.getfield 13, 3) := by decide +kernel
theorem d_X11_isSo_74 : decode prog_13_method_64_code 74 = .ok (.iload_n 1, 1) := by decide +kernel
theorem d_X11_isSo_75 : decode prog_13_method_64_code 75 = .ok (.iconst 3, 1) := by decide +kernel
theorem d_X11_isSo_76 : decode prog_13_method_64_code 76 = .ok (.iadd, 1) := by decide +kernel
theorem d_X11_isSo_77 : decode prog_13_method_64_code 77 = .ok (.iaload, 1) := by decide +kernel
theorem d_X11_isSo_78 : decode prog_13_method_64_code 78 = .ok (.aload_n 0, 1) := by decide +kernel
theorem d_X11_isSo_79 : decode prog_13_method_64_code 79 = .ok (.getfield 13, 3) := by decide +kernel
theorem d_X11_isSo_82 : decode prog_13_method_64_code 82 = .ok (.iload_n 1, 1) := by decide +kernel
theorem d_X11_isSo_83 : decode prog_13_method_64_code 83 = .ok (.iconst 4, 1) := by decide +kernel
theorem d_X11_isSo_84 : decode prog_13_method_64_code 84 = .ok (.iadd, 1) := by decide +kernel
theorem d_X11_isSo_85 : decode prog_13_method_64_code 85 = .ok (.iaload, 1) := by decide +kernel
theorem d_X11_isSo_86 : decode prog_13_method_64_code 86 = .ok (.invokevirtual 390, 3) := by decide +kernel
theorem d_X11_isSo_89 : decode prog_13_method_64_code 89 = .ok (.aload_n 0, 1) := by decide +kernel
theorem d_X11_isSo_90 : decode prog_13_method_64_code 90 = .ok (.aload_n 0, 1) := by decide +kernel
theorem d_X11_isSo_91 : decode prog_13_method_64_code 91 = .ok (.getfield 387, 3) := by decide +kernel
theorem d_X11_isSo_94 : decode prog_13_method_64_code 94 = .ok (.putfield 393, 3) := by decide +kernel
theorem d_X11_isSo_97 : decode prog_13_method_64_code 97 = .ok (.aload_n 0, 1) := by decide +kernel
theorem d_X11_isSo_98 : decode prog_13_method_64_code 98 = .ok (.getfield 373, 3) := by decide +kernel
theorem d_X11_isSo_101 : decode prog_13_method_64_code 101 = .ok (.ifCond .ne 7, 3) := by decide +kernel
theorem d_X11_isSo_104 : decode prog_13_method_64_code 104 = .ok (.iconst 1, 1) := by decide +kernel
theorem d_X11_isSo_105 : decode prog_13_method_64_code 105 = .ok (.goto 4, 3) := by decide +kernel
theorem d_X11_isSo_108 : decode prog_13_method_64_code 108 = .ok (.iconst 0, 1) := by decide +kernel
theorem d_X11_isSo_109 : decode prog_13_method_64_code 109 = .ok (.ireturn, 1) := by decide +kernel
theorem d_X11_isSo_110 : decode prog_13_method_64_code 110 = .ok (.iconst 1, 1) := by decide +kernel
theorem d_X11_isSo_111 : decode prog_13_method_64_code 111 = .ok (.ireturn, 1) := by decide +kernel
theorem d_X11_tells_0 : decode prog_13_method_65_code 0 = .ok (.aload_n 0, 1) := by decide +kernel
theorem d_X11_tells_1 : decode prog_13_method_65_code 1 = .ok (.getfield 13, 3) := by decide +kernel
theorem d_X11_tells_4 : decode prog_13_method_65_code 4 = .ok (.iconst 4, 1) := by decide +kernel
theorem d_X11_tells_5 : decode prog_13_method_65_code 5 = .ok (.iaload, 1) := by decide +kernel
theorem d_X11_tells_6 : decode prog_13_method_65_code 6 = .ok (.iconst (-1), 1) := by decide +kernel
theorem d_X11_tells_7 : decode prog_13_method_65_code 7 = .ok (.if_icmp .ne 5, 3) := by decide +kernel
theorem d_X11_tells_10 : decode prog_13_method_65_code 10 = .ok (.lload_n 3, 1) := by decide +kernel
theorem d_X11_tells_11 : decode prog_13_method_65_code 11 = .ok (.lreturn, 1) := by decide +kernel
theorem d_X11_tells_12 : decode prog_13_method_65_code 12 = .ok (.aload_n 0, 1) := by decide +kernel
theorem d_X11_tells_13 : decode prog_13_method_65_code 13 = .ok (.bipush 120, 2) := by decide +kernel
theorem d_X11_tells_15 : decode prog_13_method_65_code 15 = .ok (.sipush 900, 3) := by decide +kernel
theorem d_X11_tells_18 : decode prog_13_method_65_code 18 = .ok (.aload_n 0, 1) := by decide +kernel
theorem d_X11_tells_19 : decode prog_13_method_65_code 19 = .ok (.getfield 13, 3) := by decide +kernel
theorem d_X11_tells_22 : decode prog_13_method_65_code 22 = .ok (.iconst 4, 1) := by decide +kernel
theorem d_X11_tells_23 : decode prog_13_method_65_code 23 = .ok (.iaload, 1) := by decide +kernel
theorem d_X11_tells_24 : decode prog_13_method_65_code 24 = .ok (.imul, 1) := by decide +kernel
theorem d_X11_tells_25 : decode prog_13_method_65_code 25 = .ok (.iadd, 1) := by decide +kernel
theorem d_X11_tells_26 : decode prog_13_method_65_code 26 = .ok (.putfield 376, 3) := by decide +kernel
theorem d_X11_tells_29 : decode prog_13_method_65_code 29 = .ok (.aload_n 0, 1) := by decide +kernel
theorem d_X11_tells_30 : decode prog_13_method_65_code 30 = .ok (.getfield 101, 3) := by decide +kernel
theorem d_X11_tells_33 : decode prog_13_method_65_code 33 = .ok (.iconst 1, 1) := by decide +kernel
theorem d_X11_tells_34 : decode prog_13_method_65_code 34 = .ok (.iload_n 2, 1) := by decide +kernel
theorem d_X11_tells_35 : decode prog_13_method_65_code 35 = .ok (.i2l, 1) := by decide +kernel
theorem d_X11_tells_36 : decode prog_13_method_65_code 36 = .ok (.lastore, 1) := by decide +kernel
theorem d_X11_tells_37 : decode prog_13_method_65_code 37 = .ok (.aload_n 0, 1) := by decide +kernel
theorem d_X11_tells_38 : decode prog_13_method_65_code 38 = .ok (.getfield 101, 3) := by decide +kernel
theorem d_X11_tells_41 : decode prog_13_method_65_code 41 = .ok (.iconst 2, 1) := by decide +kernel
theorem d_X11_tells_42 : decode prog_13_method_65_code 42 = .ok (.aload_n 0, 1) := by decide +kernel
theorem d_X11_tells_43 : decode prog_13_method_65_code 43 = .ok (.getfield 13, 3) := by decide +kernel
theorem d_X11_tells_46 : decode prog_13_method_65_code 46 = .ok (.bipush 32, 2) := by decide +kernel
theorem d_X11_tells_48 : decode prog_13_method_65_code 48 = .ok (.iload_n 2, 1) := by decide +kernel
theorem d_X11_tells_49 : decode prog_13_method_65_code 49 = .ok (.iadd, 1) := by decide +kernel
theorem d_X11_tells_50 : decode prog_13_method_65_code 50 = .ok (.iaload, 1) := by decide +kernel
theorem d_X11_tells_51 : decode prog_13_method_65_code 51 = .ok (.i2l, 1) := by decide +kernel
theorem d_X11_tells_52 : decode prog_13_method_65_code 52 = .ok (.lastore, 1) := by decide +kernel
theorem d_X11_tells_53 : decode prog_13_method_65_code 53 = .ok (.aload_n 0, 1) := by decide +kernel
theorem d_X11_tells_54 : decode prog_13_method_65_code 54 = .ok (.getfield 101, 3) := by decide +kernel
theorem d_X11_tells_57 : decode prog_13_method_65_code 57 = .ok (.iconst 3, 1) := by decide +kernel
theorem d_X11_tells_58 : decode prog_13_method_65_code 58 = .ok (.aload_n 0, 1) := by decide +kernel
theorem d_X11_tells_59 : decode prog_13_method_65_code 59 = .ok (.getfield 13, 3) := by decide +kernel
theorem d_X11_tells_62 : decode prog_13_method_65_code 62 = .ok (.bipush 8, 2) := by decide +kernel
theorem d_X11_tells_64 : decode prog_13_method_65_code 64 = .ok (.iload_n 2, 1) := by decide +kernel
theorem d_X11_tells_65 : decode prog_13_method_65_code 65 = .ok (.iadd, 1) := by decide +kernel
theorem d_X11_tells_66 : decode prog_13_method_65_code 66 = .ok (.iaload, 1) := by decide +kernel
theorem d_X11_tells_67 : decode prog_13_method_65_code 67 = .ok (.i2l, 1) := by decide +kernel
theorem d_X11_tells_68 : decode prog_13_method_65_code 68 = .ok (.lastore, 1) := by decide +kernel
theorem d_X11_tells_69 : decode prog_13_method_65_code 69 = .ok (.aload_n 0, 1) := by decide +kernel
theorem d_X11_tells_70 : decode prog_13_method_65_code 70 = .ok (.getfield 101, 3) := by decide +kernel
theorem d_X11_tells_73 : decode prog_13_method_65_code 73 = .ok (.iconst 4, 1) := by decide +kernel
theorem d_X11_tells_74 : decode prog_13_method_65_code 74 = .ok (.aload_n 0, 1) := by decide +kernel
theorem d_X11_tells_75 : decode prog_13_method_65_code 75 = .ok (.getfield 13, 3) := by decide +kernel
theorem d_X11_tells_78 : decode prog_13_method_65_code 78 = .ok (.bipush 24, 2) := by decide +kernel
theorem d_X11_tells_80 : decode prog_13_method_65_code 80 = .ok (.iload_n 2, 1) := by decide +kernel
theorem d_X11_tells_81 : decode prog_13_method_65_code 81 = .ok (.iadd, 1) := by decide +kernel
theorem d_X11_tells_82 : decode prog_13_method_65_code 82 = .ok (.iaload, 1) := by decide +kernel
theorem d_X11_tells_83 : decode prog_13_method_65_code 83 = .ok (.i2l, 1) := by decide +kernel
theorem d_X11_tells_84 : decode prog_13_method_65_code 84 = .ok (.lastore, 1) := by decide +kernel
theorem d_X11_tells_85 : decode prog_13_method_65_code 85 = .ok (.aload_n 0, 1) := by decide +kernel
theorem d_X11_tells_86 : decode prog_13_method_65_code 86 = .ok (.getfield 101, 3) := by decide +kernel
theorem d_X11_tells_89 : decode prog_13_method_65_code 89 = .ok (.iconst 5, 1) := by decide +kernel
theorem d_X11_tells_90 : decode prog_13_method_65_code 90 = .ok (.aload_n 0, 1) := by decide +kernel
theorem d_X11_tells_91 : decode prog_13_method_65_code 91 = .ok (.getfield 13, 3) := by decide +kernel
theorem d_X11_tells_94 : decode prog_13_method_65_code 94 = .ok (.bipush 40, 2) := by decide +kernel
theorem d_X11_tells_96 : decode prog_13_method_65_code 96 = .ok (.iload_n 2, 1) := by decide +kernel
theorem d_X11_tells_97 : decode prog_13_method_65_code 97 = .ok (.iadd, 1) := by decide +kernel
theorem d_X11_tells_98 : decode prog_13_method_65_code 98 = .ok (.iaload, 1) := by decide +kernel
theorem d_X11_tells_99 : decode prog_13_method_65_code 99 = .ok (.i2l, 1) := by decide +kernel
theorem d_X11_tells_100 : decode prog_13_method_65_code 100 = .ok (.lastore, 1) := by decide +kernel
theorem d_X11_tells_101 : decode prog_13_method_65_code 101 = .ok (.aload_n 0, 1) := by decide +kernel
theorem d_X11_tells_102 : decode prog_13_method_65_code 102 = .ok (.getfield 101, 3) := by decide +kernel
theorem d_X11_tells_105 : decode prog_13_method_65_code 105 = .ok (.bipush 6, 2) := by decide +kernel
theorem d_X11_tells_107 : decode prog_13_method_65_code 107 = .ok (.aload_n 0, 1) := by decide +kernel
theorem d_X11_tells_108 : decode prog_13_method_65_code 108 = .ok (.getfield 13, 3) := by decide +kernel
theorem d_X11_tells_111 : decode prog_13_method_65_code 111 = .ok (.bipush 16, 2) := by decide +kernel
theorem d_X11_tells_113 : decode prog_13_method_65_code 113 = .ok (.iload_n 2, 1) := by decide +kernel
theorem d_X11_tells_114 : decode prog_13_method_65_code 114 = .ok (.iadd, 1) := by decide +kernel
theorem d_X11_tells_115 : decode prog_13_method_65_code 115 = .ok (.iaload, 1) := by decide +kernel
theorem d_X11_tells_116 : decode prog_13_method_65_code 116 = .ok (.i2l, 1) := by decide +kernel
theorem d_X11_tells_117 : decode prog_13_method_65_code 117 = .ok (.lastore, 1) := by decide +kernel
theorem d_X11_tells_118 : decode prog_13_method_65_code 118 = .ok (.aload_n 0, 1) := by decide +kernel
theorem d_X11_tells_119 : decode prog_13_method_65_code 119 = .ok (.getfield 101, 3) := by decide +kernel
theorem d_X11_tells_122 : decode prog_13_method_65_code 122 = .ok (.bipush 7, 2) := by decide +kernel
theorem d_X11_tells_124 : decode prog_13_method_65_code 124 = .ok (.aload_n 0, 1) := by decide +kernel
theorem d_X11_tells_125 : decode prog_13_method_65_code 125 = .ok (.getfield 13, 3) := by decide +kernel
theorem d_X11_tells_128 : decode prog_13_method_65_code 128 = .ok (.bipush 48, 2) := by decide +kernel
theorem d_X11_tells_130 : decode prog_13_method_65_code 130 = .ok (.iload_n 2, 1) := by decide +kernel
theorem d_X11_tells_131 : decode prog_13_method_65_code 131 = .ok (.iadd, 1) := by decide +kernel
theorem d_X11_tells_132 : decode prog_13_method_65_code 132 = .ok (.iaload, 1) := by decide +kernel
theorem d_X11_tells_133 : decode prog_13_method_65_code 133 = .ok (.i2l, 1) := by decide +kernel
theorem d_X11_tells_134 : decode prog_13_method_65_code 134 = .ok (.lastore, 1) := by decide +kernel
theorem d_X11_tells_135 : decode prog_13_method_65_code 135 = .ok (.aload_n 0, 1) := by decide +kernel
theorem d_X11_tells_136 : decode prog_13_method_65_code 136 = .ok (.getfield 101, 3) := by decide +kernel
theorem d_X11_tells_139 : decode prog_13_method_65_code 139 = .ok (.bipush 8, 2) := by decide +kernel
theorem d_X11_tells_141 : decode prog_13_method_65_code 141 = .ok (.aload_n 0, 1) := by decide +kernel
theorem d_X11_tells_142 : decode prog_13_method_65_code 142 = .ok (.getfield 13, 3) := by decide +kernel
theorem d_X11_tells_145 : decode prog_13_method_65_code 145 = .ok (.iconst 5, 1) := by decide +kernel
theorem d_X11_tells_146 : decode prog_13_method_65_code 146 = .ok (.iaload, 1) := by decide +kernel
theorem d_X11_tells_147 : decode prog_13_method_65_code 147 = .ok (.i2l, 1) := by decide +kernel
theorem d_X11_tells_148 : decode prog_13_method_65_code 148 = .ok (.lastore, 1) := by decide +kernel
theorem d_X11_tells_149 : decode prog_13_method_65_code 149 = .ok (.aload_n 0, 1) := by decide +kernel
theorem d_X11_tells_150 : decode prog_13_method_65_code 150 = .ok (.getfield 101, 3) := by decide +kernel
theorem d_X11_tells_153 : decode prog_13_method_65_code 153 = .ok (.bipush 9, 2) := by decide +kernel
theorem d_X11_tells_155 : decode prog_13_method_65_code 155 = .ok (.aload_n 0, 1) := by decide +kernel
theorem d_X11_tells_156 : decode prog_13_method_65_code 156 = .ok (.getfield 13, 3) := by decide +kernel
theorem d_X11_tells_159 : decode prog_13_method_65_code 159 = .ok (.bipush 7, 2) := by decide +kernel
theorem d_X11_tells_161 : decode prog_13_method_65_code 161 = .ok (.iaload, 1) := by decide +kernel
theorem d_X11_tells_162 : decode prog_13_method_65_code 162 = .ok (.i2l, 1) := by decide +kernel
theorem d_X11_tells_163 : decode prog_13_method_65_code 163 = .ok (.lastore, 1) := by decide +kernel
theorem d_X11_tells_164 : decode prog_13_method_65_code 164 = .ok (.lload_n 3, 1) := by decide +kernel
theorem d_X11_tells_165 : decode prog_13_method_65_code 165 = .ok (.lstore 5, 2) := by decide +kernel
theorem d_X11_tells_167 : decode prog_13_method_65_code 167 = .ok (.iconst 0, 1) := by decide +kernel
theorem d_X11_tells_168 : decode prog_13_method_65_code 168 = .ok (.istore 7, 2) := by decide +kernel
theorem d_X11_tells_170 : decode prog_13_method_65_code 170 = .ok (.iload 7, 2) := by decide +kernel
theorem d_X11_tells_172 : decode prog_13_method_65_code 172 = .ok (.aload_n 0, 1) := by decide +kernel
theorem d_X11_tells_173 : decode prog_13_method_65_code 173 = .ok (.getfield 13, 3) := by decide +kernel
theorem d_X11_tells_176 : decode prog_13_method_65_code 176 = .ok (.aload_n 0, 1) := by decide +kernel
theorem d_X11_tells_177 : decode prog_13_method_65_code 177 = .ok (.getfield 376, 3) := by decide +kernel
theorem d_X11_tells_180 : decode prog_13_method_65_code 180 = .ok (.iconst 1, 1) := by decide +kernel
theorem d_X11_tells_181 : decode prog_13_method_65_code 181 = .ok (.iadd, 1) := by decide +kernel
theorem d_X11_tells_182 : decode prog_13_method_65_code 182 = .ok (.iaload, 1) := by decide +kernel
theorem d_X11_tells_183 : decode prog_13_method_65_code 183 = .ok (.if_icmp .ge 58, 3) := by decide +kernel
theorem d_X11_tells_186 : decode prog_13_method_65_code 186 = .ok (.aload_n 0, 1) := by decide +kernel
theorem d_X11_tells_187 : decode prog_13_method_65_code 187 = .ok (.getfield 376, 3) := by decide +kernel
theorem d_X11_tells_190 : decode prog_13_method_65_code 190 = .ok (.iconst 2, 1) := by decide +kernel
theorem d_X11_tells_191 : decode prog_13_method_65_code 191 = .ok (.iadd, 1) := by decide +kernel
theorem d_X11_tells_192 : decode prog_13_method_65_code 192 = .ok (.bipush 8, 2) := by decide +kernel
theorem d_X11_tells_194 : decode prog_13_method_65_code 194 = .ok (.iload 7, 2) := by decide +kernel
theorem d_X11_tells_196 : decode prog_13_method_65_code 196 = .ok (.imul, 1) := by decide +kernel
theorem d_X11_tells_197 : decode prog_13_method_65_code 197 = .ok (.iadd, 1) := by decide +kernel
theorem d_X11_tells_198 : decode prog_13_method_65_code 198 = .ok (.istore 8, 2) := by decide +kernel
theorem d_X11_tells_200 : decode prog_13_method_65_code 200 = .ok (.aload_n 0, 1) := by decide +kernel
theorem d_X11_tells_201 : decode prog_13_method_65_code 201 = .ok (.getfield 13, 3) := by decide +kernel
theorem d_X11_tells_204 : decode prog_13_method_65_code 204 = .ok (.iload 8, 2) := by decide +kernel
theorem d_X11_tells_206 : decode prog_13_method_65_code 206 = .ok (.iaload, 1) := by decide +kernel
theorem d_X11_tells_207 : decode prog_13_method_65_code 207 = .ok (.iload_n 1, 1) := by decide +kernel
theorem d_X11_tells_208 : decode prog_13_method_65_code 208 = .ok (.if_icmp .ne 27, 3) := by decide +kernel
theorem d_X11_tells_211 : decode prog_13_method_65_code 211 = .ok (.aload_n 0, 1) := by decide +kernel
theorem d_X11_tells_212 : decode prog_13_method_65_code 212 = .ok (.iload 8, 2) := by decide +kernel
theorem d_X11_tells_214 : decode prog_13_method_65_code 214 = .ok (.invokevirtual 396, 3) := by decide +kernel
theorem d_X11_tells_217 : decode prog_13_method_65_code 217 = .ok (.ifCond .eq 18, 3) := by decide +kernel
theorem d_X11_tells_220 : decode prog_13_method_65_code 220 = .ok (.iload_n 1, 1) := by decide +kernel
theorem d_X11_tells_221 : decode prog_13_method_65_code 221 = .ok (.iconst 3, 1) := by decide +kernel
theorem d_X11_tells_222 : decode prog_13_method_65_code 222 = .ok (.if_icmp .ne 7, 3) := by decide +kernel
theorem d_X11_tells_225 : decode prog_13_method_65_code 225 = .ok (.lconst 1, 1) := by decide +kernel
theorem d_X11_tells_226 : decode prog_13_method_65_code 226 = .ok (.goto 7, 3) := by decide +kernel
theorem d_X11_tells_229 : decode prog_13_method_65_code 229 = .ok (.aload_n 0, 1) := by decide +kernel
theorem d_X11_tells_230 : decode prog_13_method_65_code 230 = .ok (.getfield 393, 3) := by decide +kernel
theorem d_X11_tells_233 : decode prog_13_method_65_code 233 = .ok (.lstore 5, 2) := by decide +kernel
theorem d_X11_tells_235 : decode prog_13_method_65_code 235 = .ok (.iinc 7 1, 3) := by decide +kernel
theorem d_X11_tells_238 : decode prog_13_method_65_code 238 = .ok (.goto (-68), 3) := by decide +kernel
theorem d_X11_tells_241 : decode prog_13_method_65_code 241 = .ok (.lload 5, 2) := by decide +kernel
theorem d_X11_tells_243 : decode prog_13_method_65_code 243 = .ok (.lreturn, 1) := by decide +kernel
theorem d_X11_movesOf_0 : decode prog_13_method_66_code 0 = .ok (.aload_n 0, 1) := by decide +kernel
theorem d_X11_movesOf_1 : decode prog_13_method_66_code 1 = .ok (.iconst 0, 1) := by decide +kernel
theorem d_X11_movesOf_2 : decode prog_13_method_66_code 2 = .ok (.iload_n 1, 1) := by decide +kernel
theorem d_X11_movesOf_3 : decode prog_13_method_66_code 3 = .ok (.lconst 0, 1) := by decide +kernel
theorem d_X11_movesOf_4 : decode prog_13_method_66_code 4 = .ok (.invokevirtual 399, 3) := by decide +kernel
theorem d_X11_movesOf_7 : decode prog_13_method_66_code 7 = .ok (.bipush (-9), 2) := by decide +kernel
theorem d_X11_movesOf_9 : decode prog_13_method_66_code 9 = .ok (.bipush 9, 2) := by decide +kernel
theorem d_X11_movesOf_11 : decode prog_13_method_66_code 11 = .ok (.invokestatic 403, 3) := by decide +kernel
theorem d_X11_movesOf_14 : decode prog_13_method_66_code 14 = .ok (.ireturn, 1) := by decide +kernel
theorem d_X11_countsOf_0 : decode prog_13_method_67_code 0 = .ok (.aload_n 0, 1) := by decide +kernel
theorem d_X11_countsOf_1 : decode prog_13_method_67_code 1 = .ok (.getfield 13, 3) := by decide +kernel
theorem d_X11_countsOf_4 : decode prog_13_method_67_code 4 = .ok (.bipush 16, 2) := by decide +kernel
theorem d_X11_countsOf_6 : decode prog_13_method_67_code 6 = .ok (.iload_n 1, 1) := by decide +kernel
theorem d_X11_countsOf_7 : decode prog_13_method_67_code 7 = .ok (.iadd, 1) := by decide +kernel
theorem d_X11_countsOf_8 : decode prog_13_method_67_code 8 = .ok (.iaload, 1) := by decide +kernel
theorem d_X11_countsOf_9 : decode prog_13_method_67_code 9 = .ok (.iconst 1, 1) := by decide +kernel
theorem d_X11_countsOf_10 : decode prog_13_method_67_code 10 = .ok (.if_icmp .ne 20, 3) := by decide +kernel
theorem d_X11_countsOf_13 : decode prog_13_method_67_code 13 = .ok (.aload_n 0, 1) := by decide +kernel
theorem d_X11_countsOf_14 : decode prog_13_method_67_code 14 = .ok (.getfield 13, 3) := by decide +kernel
theorem d_X11_countsOf_17 : decode prog_13_method_67_code 17 = .ok (.bipush 56, 2) := by decide +kernel
theorem d_X11_countsOf_19 : decode prog_13_method_67_code 19 = .ok (.iload_n 1, 1) := by decide +kernel
theorem d_X11_countsOf_20 : decode prog_13_method_67_code 20 = .ok (.iadd, 1) := by decide +kernel
theorem d_X11_countsOf_21 : decode prog_13_method_67_code 21 = .ok (.iaload, 1) := by decide +kernel
theorem d_X11_countsOf_22 : decode prog_13_method_67_code 22 = .ok (.iconst (-1), 1) := by decide +kernel
theorem d_X11_countsOf_23 : decode prog_13_method_67_code 23 = .ok (.if_icmp .ne 7, 3) := by decide +kernel
theorem d_X11_countsOf_26 : decode prog_13_method_67_code 26 = .ok (.iconst 1, 1) := by decide +kernel
theorem d_X11_countsOf_27 : decode prog_13_method_67_code 27 = .ok (.goto 4, 3) := by decide +kernel
theorem d_X11_countsOf_30 : decode prog_13_method_67_code 30 = .ok (.iconst 0, 1) := by decide +kernel
theorem d_X11_countsOf_31 : decode prog_13_method_67_code 31 = .ok (.istore_n 2, 1) := by decide +kernel
theorem d_X11_countsOf_32 : decode prog_13_method_67_code 32 = .ok (.iload_n 2, 1) := by decide +kernel
theorem d_X11_countsOf_33 : decode prog_13_method_67_code 33 = .ok (.ifCond .eq 7, 3) := by decide +kernel
theorem d_X11_countsOf_36 : decode prog_13_method_67_code 36 = .ok (.iconst 0, 1) := by decide +kernel
theorem d_X11_countsOf_37 : decode prog_13_method_67_code 37 = .ok (.goto 25, 3) := by decide +kernel
theorem d_X11_countsOf_40 : decode prog_13_method_67_code 40 = .ok (.aload_n 0, 1) := by decide +kernel
theorem d_X11_countsOf_41 : decode prog_13_method_67_code 41 = .ok (.iconst 1, 1) := by decide +kernel
theorem d_X11_countsOf_42 : decode prog_13_method_67_code 42 = .ok (.iload_n 1, 1) := by decide +kernel
theorem d_X11_countsOf_43 : decode prog_13_method_67_code 43 = .ok (.aload_n 0, 1) := by decide +kernel
theorem d_X11_countsOf_44 : decode prog_13_method_67_code 44 = .ok (.getfield 13, 3) := by decide +kernel
theorem d_X11_countsOf_47 : decode prog_13_method_67_code 47 = .ok (.bipush 24, 2) := by decide +kernel
theorem d_X11_countsOf_49 : decode prog_13_method_67_code 49 = .ok (.iload_n 1, 1) := by decide +kernel
theorem d_X11_countsOf_50 : decode prog_13_method_67_code 50 = .ok (.iadd, 1) := by decide +kernel
theorem d_X11_countsOf_51 : decode prog_13_method_67_code 51 = .ok (.iaload, 1) := by decide +kernel
theorem d_X11_countsOf_52 : decode prog_13_method_67_code 52 = .ok (.i2l, 1) := by decide +kernel
theorem d_X11_countsOf_53 : decode prog_13_method_67_code 53 = .ok (.invokevirtual 399, 3) := by decide +kernel
theorem d_X11_countsOf_56 : decode prog_13_method_67_code 56 = .ok (.iconst 0, 1) := by decide +kernel
theorem d_X11_countsOf_57 : decode prog_13_method_67_code 57 = .ok (.bipush 99, 2) := by decide +kernel
theorem d_X11_countsOf_59 : decode prog_13_method_67_code 59 = .ok (.invokestatic 403, 3) := by decide +kernel
theorem d_X11_countsOf_62 : decode prog_13_method_67_code 62 = .ok (.ireturn, 1) := by decide +kernel
theorem d_X11_gladsOf_0 : decode prog_13_method_68_code 0 = .ok (.aload_n 0, 1) := by decide +kernel
theorem d_X11_gladsOf_1 : decode prog_13_method_68_code 1 = .ok (.iconst 2, 1) := by decide +kernel
theorem d_X11_gladsOf_2 : decode prog_13_method_68_code 2 = .ok (.iload_n 1, 1) := by decide +kernel
theorem d_X11_gladsOf_3 : decode prog_13_method_68_code 3 = .ok (.aload_n 0, 1) := by decide +kernel
theorem d_X11_gladsOf_4 : decode prog_13_method_68_code 4 = .ok (.getfield 13, 3) := by decide +kernel
theorem d_X11_gladsOf_7 : decode prog_13_method_68_code 7 = .ok (.bipush 40, 2) := by decide +kernel
theorem d_X11_gladsOf_9 : decode prog_13_method_68_code 9 = .ok (.iload_n 1, 1) := by decide +kernel
theorem d_X11_gladsOf_10 : decode prog_13_method_68_code 10 = .ok (.iadd, 1) := by decide +kernel
theorem d_X11_gladsOf_11 : decode prog_13_method_68_code 11 = .ok (.iaload, 1) := by decide +kernel
theorem d_X11_gladsOf_12 : decode prog_13_method_68_code 12 = .ok (.i2l, 1) := by decide +kernel
theorem d_X11_gladsOf_13 : decode prog_13_method_68_code 13 = .ok (.invokevirtual 399, 3) := by decide +kernel
theorem d_X11_gladsOf_16 : decode prog_13_method_68_code 16 = .ok (.iconst 0, 1) := by decide +kernel
theorem d_X11_gladsOf_17 : decode prog_13_method_68_code 17 = .ok (.bipush 9, 2) := by decide +kernel
theorem d_X11_gladsOf_19 : decode prog_13_method_68_code 19 = .ok (.invokestatic 403, 3) := by decide +kernel
theorem d_X11_gladsOf_22 : decode prog_13_method_68_code 22 = .ok (.ireturn, 1) := by decide +kernel
theorem d_X11_isBarred_0 : decode prog_13_method_69_code 0 = .ok (.aload_n 0, 1) := by decide +kernel
theorem d_X11_isBarred_1 : decode prog_13_method_69_code 1 = .ok (.iconst 3, 1) := by decide +kernel
theorem d_X11_isBarred_2 : decode prog_13_method_69_code 2 = .ok (.iload_n 1, 1) := by decide +kernel
theorem d_X11_isBarred_3 : decode prog_13_method_69_code 3 = .ok (.lconst 0, 1) := by decide +kernel
theorem d_X11_isBarred_4 : decode prog_13_method_69_code 4 = .ok (.invokevirtual 399, 3) := by decide +kernel
theorem d_X11_isBarred_7 : decode prog_13_method_69_code 7 = .ok (.lconst 1, 1) := by decide +kernel
theorem d_X11_isBarred_8 : decode prog_13_method_69_code 8 = .ok (.lcmp, 1) := by decide +kernel
theorem d_X11_isBarred_9 : decode prog_13_method_69_code 9 = .ok (.ifCond .ne 7, 3) := by decide +kernel
theorem d_X11_isBarred_12 : decode prog_13_method_69_code 12 = .ok (.iconst 1, 1) := by decide +kernel
theorem d_X11_isBarred_13 : decode prog_13_method_69_code 13 = .ok (.goto 4, 3) := by decide +kernel
theorem d_X11_isBarred_16 : decode prog_13_method_69_code 16 = .ok (.iconst 0, 1) := by decide +kernel
theorem d_X11_isBarred_17 : decode prog_13_method_69_code 17 = .ok (.ireturn, 1) := by decide +kernel
theorem d_X11_pricedBy_0 : decode prog_13_method_70_code 0 = .ok (.aload_n 0, 1) := by decide +kernel
theorem d_X11_pricedBy_1 : decode prog_13_method_70_code 1 = .ok (.getfield 13, 3) := by decide +kernel
theorem d_X11_pricedBy_4 : decode prog_13_method_70_code 4 = .ok (.bipush 16, 2) := by decide +kernel
theorem d_X11_pricedBy_6 : decode prog_13_method_70_code 6 = .ok (.iload_n 1, 1) := by decide +kernel
theorem d_X11_pricedBy_7 : decode prog_13_method_70_code 7 = .ok (.iadd, 1) := by decide +kernel
theorem d_X11_pricedBy_8 : decode prog_13_method_70_code 8 = .ok (.iaload, 1) := by decide +kernel
theorem d_X11_pricedBy_9 : decode prog_13_method_70_code 9 = .ok (.iconst 1, 1) := by decide +kernel
theorem d_X11_pricedBy_10 : decode prog_13_method_70_code 10 = .ok (.if_icmp .ne 28, 3) := by decide +kernel
theorem d_X11_pricedBy_13 : decode prog_13_method_70_code 13 = .ok (.aload_n 0, 1) := by decide +kernel
theorem d_X11_pricedBy_14 : decode prog_13_method_70_code 14 = .ok (.getfield 13, 3) := by decide +kernel
theorem d_X11_pricedBy_17 : decode prog_13_method_70_code 17 = .ok (.bipush 56, 2) := by decide +kernel
theorem d_X11_pricedBy_19 : decode prog_13_method_70_code 19 = .ok (.iload_n 1, 1) := by decide +kernel
theorem d_X11_pricedBy_20 : decode prog_13_method_70_code 20 = .ok (.iadd, 1) := by decide +kernel
theorem d_X11_pricedBy_21 : decode prog_13_method_70_code 21 = .ok (.iaload, 1) := by decide +kernel
theorem d_X11_pricedBy_22 : decode prog_13_method_70_code 22 = .ok (.iconst (-1), 1) := by decide +kernel
theorem d_X11_pricedBy_23 : decode prog_13_method_70_code 23 = .ok (.if_icmp .eq 15, 3) := by decide +kernel
theorem d_X11_pricedBy_26 : decode prog_13_method_70_code 26 = .ok (.aload_n 0, 1) := by decide +kernel
theorem d_X11_pricedBy_27 : decode prog_13_method_70_code 27 = .ok (.getfield 13, 3) := by decide +kernel
theorem d_X11_pricedBy_30 : decode prog_13_method_70_code 30 = .ok (.bipush 56, 2) := by decide +kernel
theorem d_X11_pricedBy_32 : decode prog_13_method_70_code 32 = .ok (.iload_n 1, 1) := by decide +kernel
theorem d_X11_pricedBy_33 : decode prog_13_method_70_code 33 = .ok (.iadd, 1) := by decide +kernel
theorem d_X11_pricedBy_34 : decode prog_13_method_70_code 34 = .ok (.iaload, 1) := by decide +kernel
theorem d_X11_pricedBy_35 : decode prog_13_method_70_code 35 = .ok (.goto 4, 3) := by decide +kernel
theorem d_X11_pricedBy_38 : decode prog_13_method_70_code 38 = .ok (.iload_n 1, 1) := by decide +kernel
theorem d_X11_pricedBy_39 : decode prog_13_method_70_code 39 = .ok (.ireturn, 1) := by decide +kernel
theorem d_X11_lackNow_0 : decode prog_13_method_71_code 0 = .ok (.aload_n 0, 1) := by decide +kernel
theorem d_X11_lackNow_1 : decode prog_13_method_71_code 1 = .ok (.iload_n 1, 1) := by decide +kernel
theorem d_X11_lackNow_2 : decode prog_13_method_71_code 2 = .ok (.invokevirtual 184, 3) := by decide +kernel
theorem d_X11_lackNow_5 : decode prog_13_method_71_code 5 = .ok (.ifCond .ne 6, 3) := by decide +kernel
theorem d_X11_lackNow_8 : decode prog_13_method_71_code 8 = .ok (.bipush (-2), 2) := by decide +kernel
theorem d_X11_lackNow_10 : decode prog_13_method_71_code 10 = .ok (.ireturn, 1) := by decide +kernel
theorem d_X11_lackNow_11 : decode prog_13_method_71_code 11 = .ok (.aload_n 0, 1) := by decide +kernel
theorem d_X11_lackNow_12 : decode prog_13_method_71_code 12 = .ok (.getfield 13, 3) := by decide +kernel
theorem d_X11_lackNow_15 : decode prog_13_method_71_code 15 = .ok (.bipush 16, 2) := by decide +kernel
theorem d_X11_lackNow_17 : decode prog_13_method_71_code 17 = .ok (.iload_n 1, 1) := by decide +kernel
theorem d_X11_lackNow_18 : decode prog_13_method_71_code 18 = .ok (.iadd, 1) := by decide +kernel
theorem d_X11_lackNow_19 : decode prog_13_method_71_code 19 = .ok (.iaload, 1) := by decide +kernel
theorem d_X11_lackNow_20 : decode prog_13_method_71_code 20 = .ok (.iconst 1, 1) := by decide +kernel
theorem d_X11_lackNow_21 : decode prog_13_method_71_code 21 = .ok (.if_icmp .ne 6, 3) := by decide +kernel
theorem d_X11_lackNow_24 : decode prog_13_method_71_code 24 = .ok (.bipush (-3), 2) := by decide +kernel
theorem d_X11_lackNow_26 : decode prog_13_method_71_code 26 = .ok (.ireturn, 1) := by decide +kernel
theorem d_X11_lackNow_27 : decode prog_13_method_71_code 27 = .ok (.aload_n 0, 1) := by decide +kernel
theorem d_X11_lackNow_28 : decode prog_13_method_71_code 28 = .ok (.iconst 0, 1) := by decide +kernel
theorem d_X11_lackNow_29 : decode prog_13_method_71_code 29 = .ok (.invokevirtual 407, 3) := by decide +kernel
theorem d_X11_lackNow_32 : decode prog_13_method_71_code 32 = .ok (.aload_n 0, 1) := by decide +kernel
theorem d_X11_lackNow_33 : decode prog_13_method_71_code 33 = .ok (.getfield 13, 3) := by decide +kernel
theorem d_X11_lackNow_36 : decode prog_13_method_71_code 36 = .ok (.bipush 16, 2) := by decide +kernel
theorem d_X11_lackNow_38 : decode prog_13_method_71_code 38 = .ok (.iload_n 1, 1) := by decide +kernel
theorem d_X11_lackNow_39 : decode prog_13_method_71_code 39 = .ok (.iadd, 1) := by decide +kernel
theorem d_X11_lackNow_40 : decode prog_13_method_71_code 40 = .ok (.iconst 1, 1) := by decide +kernel
theorem d_X11_lackNow_41 : decode prog_13_method_71_code 41 = .ok (.iastore, 1) := by decide +kernel
theorem d_X11_lackNow_42 : decode prog_13_method_71_code 42 = .ok (.aload_n 0, 1) := by decide +kernel
theorem d_X11_lackNow_43 : decode prog_13_method_71_code 43 = .ok (.invokevirtual 410, 3) := by decide +kernel
theorem d_X11_lackNow_46 : decode prog_13_method_71_code 46 = .ok (.ireturn, 1) := by decide +kernel
theorem d_X11_lack_0 : decode prog_13_method_72_code 0 = .ok (.aload_n 0, 1) := by decide +kernel
theorem d_X11_lack_1 : decode prog_13_method_72_code 1 = .ok (.iconst 0, 1) := by decide +kernel
theorem d_X11_lack_2 : decode prog_13_method_72_code 2 = .ok (.putfield 145, 3) := by decide +kernel
theorem d_X11_lack_5 : decode prog_13_method_72_code 5 = .ok (.aload_n 0, 1) := by decide +kernel
theorem d_X11_lack_6 : decode prog_13_method_72_code 6 = .ok (.aload_n 0, 1) := by decide +kernel
theorem d_X11_lack_7 : decode prog_13_method_72_code 7 = .ok (.iload_n 1, 1) := by decide +kernel
theorem d_X11_lack_8 : decode prog_13_method_72_code 8 = .ok (.invokevirtual 413, 3) := by decide +kernel
theorem d_X11_lack_11 : decode prog_13_method_72_code 11 = .ok (.invokevirtual 154, 3) := by decide +kernel
theorem d_X11_lack_14 : decode prog_13_method_72_code 14 = .ok (.ireturn, 1) := by decide +kernel
theorem d_X11_findNow_0 : decode prog_13_method_73_code 0 = .ok (.aload_n 0, 1) := by decide +kernel
theorem d_X11_findNow_1 : decode prog_13_method_73_code 1 = .ok (.iload_n 1, 1) := by decide +kernel
theorem d_X11_findNow_2 : decode prog_13_method_73_code 2 = .ok (.invokevirtual 184, 3) := by decide +kernel
theorem d_X11_findNow_5 : decode prog_13_method_73_code 5 = .ok (.ifCond .ne 6, 3) := by decide +kernel
theorem d_X11_findNow_8 : decode prog_13_method_73_code 8 = .ok (.bipush (-2), 2) := by decide +kernel
theorem d_X11_findNow_10 : decode prog_13_method_73_code 10 = .ok (.ireturn, 1) := by decide +kernel
theorem d_X11_findNow_11 : decode prog_13_method_73_code 11 = .ok (.aload_n 0, 1) := by decide +kernel
theorem d_X11_findNow_12 : decode prog_13_method_73_code 12 = .ok (.getfield 13, 3) := by decide +kernel
theorem d_X11_findNow_15 : decode prog_13_method_73_code 15 = .ok (.bipush 16, 2) := by decide +kernel
theorem d_X11_findNow_17 : decode prog_13_method_73_code 17 = .ok (.iload_n 1, 1) := by decide +kernel
theorem d_X11_findNow_18 : decode prog_13_method_73_code 18 = .ok (.iadd, 1) := by decide +kernel
theorem d_X11_findNow_19 : decode prog_13_method_73_code 19 = .ok (.iaload, 1) := by decide +kernel
theorem d_X11_findNow_20 : decode prog_13_method_73_code 20 = .ok (.ifCond .ne 6, 3) := by decide +kernel
theorem d_X11_findNow_23 : decode prog_13_method_73_code 23 = .ok (.bipush (-3), 2) := by decide +kernel
theorem d_X11_findNow_25 : decode prog_13_method_73_code 25 = .ok (.ireturn, 1) := by decide +kernel
theorem d_X11_findNow_26 : decode prog_13_method_73_code 26 = .ok (.aload_n 0, 1) := by decide +kernel
theorem d_X11_findNow_27 : decode prog_13_method_73_code 27 = .ok (.iconst 1, 1) := by decide +kernel
theorem d_X11_findNow_28 : decode prog_13_method_73_code 28 = .ok (.invokevirtual 407, 3) := by decide +kernel
theorem d_X11_findNow_31 : decode prog_13_method_73_code 31 = .ok (.aload_n 0, 1) := by decide +kernel
theorem d_X11_findNow_32 : decode prog_13_method_73_code 32 = .ok (.getfield 13, 3) := by decide +kernel
theorem d_X11_findNow_35 : decode prog_13_method_73_code 35 = .ok (.bipush 16, 2) := by decide +kernel
theorem d_X11_findNow_37 : decode prog_13_method_73_code 37 = .ok (.iload_n 1, 1) := by decide +kernel
theorem d_X11_findNow_38 : decode prog_13_method_73_code 38 = .ok (.iadd, 1) := by decide +kernel
theorem d_X11_findNow_39 : decode prog_13_method_73_code 39 = .ok (.iconst 0, 1) := by decide +kernel
theorem d_X11_findNow_40 : decode prog_13_method_73_code 40 = .ok (.iastore, 1) := by decide +kernel
theorem d_X11_findNow_41 : decode prog_13_method_73_code 41 = .ok (.aload_n 0, 1) := by decide +kernel
theorem d_X11_findNow_42 : decode prog_13_method_73_code 42 = .ok (.invokevirtual 410, 3) := by decide +kernel
theorem d_X11_findNow_45 : decode prog_13_method_73_code 45 = .ok (.ireturn, 1) := by decide +kernel
theorem d_X11_find_0 : decode prog_13_method_74_code 0 = .ok (.aload_n 0, 1) := by decide +kernel
theorem d_X11_find_1 : decode prog_13_method_74_code 1 = .ok (.iconst 0, 1) := by decide +kernel
theorem d_X11_find_2 : decode prog_13_method_74_code 2 = .ok (.putfield 145, 3) := by decide +kernel
theorem d_X11_find_5 : decode prog_13_method_74_code 5 = .ok (.aload_n 0, 1) := by decide +kernel
theorem d_X11_find_6 : decode prog_13_method_74_code 6 = .ok (.aload_n 0, 1) := by decide +kernel
theorem d_X11_find_7 : decode prog_13_method_74_code 7 = .ok (.iload_n 1, 1) := by decide +kernel
theorem d_X11_find_8 : decode prog_13_method_74_code 8 = .ok (.invokevirtual 416, 3) := by decide +kernel
theorem d_X11_find_11 : decode prog_13_method_74_code 11 = .ok (.invokevirtual 154, 3) := by decide +kernel
theorem d_X11_find_14 : decode prog_13_method_74_code 14 = .ok (.ireturn, 1) := by decide +kernel
theorem d_X11_weighNow_0 : decode prog_13_method_75_code 0 = .ok (.iload_n 2, 1) := by decide +kernel
theorem d_X11_weighNow_1 : decode prog_13_method_75_code 1 = .ok (.i2l, 1) := by decide +kernel
theorem d_X11_weighNow_2 : decode prog_13_method_75_code 2 = .ok (.lconst 0, 1) := by decide +kernel
theorem d_X11_weighNow_3 : decode prog_13_method_75_code 3 = .ok (.ldc2_w 174, 3) := by decide +kernel
theorem d_X11_weighNow_6 : decode prog_13_method_75_code 6 = .ok (.invokestatic 165, 3) := by decide +kernel
theorem d_X11_weighNow_9 : decode prog_13_method_75_code 9 = .ok (.ifCond .ne 5, 3) := by decide +kernel
theorem d_X11_weighNow_12 : decode prog_13_method_75_code 12 = .ok (.iconst (-1), 1) := by decide +kernel
theorem d_X11_weighNow_13 : decode prog_13_method_75_code 13 = .ok (.ireturn, 1) := by decide +kernel
theorem d_X11_weighNow_14 : decode prog_13_method_75_code 14 = .ok (.aload_n 0, 1) := by decide +kernel
theorem d_X11_weighNow_15 : decode prog_13_method_75_code 15 = .ok (.iload_n 1, 1) := by decide +kernel
theorem d_X11_weighNow_16 : decode prog_13_method_75_code 16 = .ok (.invokevirtual 184, 3) := by decide +kernel
theorem d_X11_weighNow_19 : decode prog_13_method_75_code 19 = .ok (.ifCond .ne 6, 3) := by decide +kernel
theorem d_X11_weighNow_22 : decode prog_13_method_75_code 22 = .ok (.bipush (-2), 2) := by decide +kernel
theorem d_X11_weighNow_24 : decode prog_13_method_75_code 24 = .ok (.ireturn, 1) := by decide +kernel
theorem d_X11_weighNow_25 : decode prog_13_method_75_code 25 = .ok (.aload_n 0, 1) := by decide +kernel
theorem d_X11_weighNow_26 : decode prog_13_method_75_code 26 = .ok (.iconst 2, 1) := by decide +kernel
theorem d_X11_weighNow_27 : decode prog_13_method_75_code 27 = .ok (.invokevirtual 407, 3) := by decide +kernel
theorem d_X11_weighNow_30 : decode prog_13_method_75_code 30 = .ok (.aload_n 0, 1) := by decide +kernel
theorem d_X11_weighNow_31 : decode prog_13_method_75_code 31 = .ok (.getfield 13, 3) := by decide +kernel
theorem d_X11_weighNow_34 : decode prog_13_method_75_code 34 = .ok (.bipush 24, 2) := by decide +kernel
theorem d_X11_weighNow_36 : decode prog_13_method_75_code 36 = .ok (.iload_n 1, 1) := by decide +kernel
theorem d_X11_weighNow_37 : decode prog_13_method_75_code 37 = .ok (.iadd, 1) := by decide +kernel
theorem d_X11_weighNow_38 : decode prog_13_method_75_code 38 = .ok (.iaload, 1) := by decide +kernel
theorem d_X11_weighNow_39 : decode prog_13_method_75_code 39 = .ok (.istore_n 3, 1) := by decide +kernel
theorem d_X11_weighNow_40 : decode prog_13_method_75_code 40 = .ok (.aload_n 0, 1) := by decide +kernel
theorem d_X11_weighNow_41 : decode prog_13_method_75_code 41 = .ok (.getfield 13, 3) := by decide +kernel
theorem d_X11_weighNow_44 : decode prog_13_method_75_code 44 = .ok (.bipush 24, 2) := by decide +kernel
theorem d_X11_weighNow_46 : decode prog_13_method_75_code 46 = .ok (.iload_n 1, 1) := by decide +kernel
theorem d_X11_weighNow_47 : decode prog_13_method_75_code 47 = .ok (.iadd, 1) := by decide +kernel
theorem d_X11_weighNow_48 : decode prog_13_method_75_code 48 = .ok (.iload_n 2, 1) := by decide +kernel
theorem d_X11_weighNow_49 : decode prog_13_method_75_code 49 = .ok (.iastore, 1) := by decide +kernel
theorem d_X11_weighNow_50 : decode prog_13_method_75_code 50 = .ok (.iload_n 3, 1) := by decide +kernel
theorem d_X11_weighNow_51 : decode prog_13_method_75_code 51 = .ok (.ireturn, 1) := by decide +kernel
theorem d_X11_weigh_0 : decode prog_13_method_76_code 0 = .ok (.aload_n 0, 1) := by decide +kernel
theorem d_X11_weigh_1 : decode prog_13_method_76_code 1 = .ok (.iconst 0, 1) := by decide +kernel
theorem d_X11_weigh_2 : decode prog_13_method_76_code 2 = .ok (.putfield 145, 3) := by decide +kernel
theorem d_X11_weigh_5 : decode prog_13_method_76_code 5 = .ok (.aload_n 0, 1) := by decide +kernel
theorem d_X11_weigh_6 : decode prog_13_method_76_code 6 = .ok (.aload_n 0, 1) := by decide +kernel
theorem d_X11_weigh_7 : decode prog_13_method_76_code 7 = .ok (.iload_n 1, 1) := by decide +kernel
theorem d_X11_weigh_8 : decode prog_13_method_76_code 8 = .ok (.iload_n 2, 1) := by decide +kernel
theorem d_X11_weigh_9 : decode prog_13_method_76_code 9 = .ok (.invokevirtual 419, 3) := by decide +kernel
theorem d_X11_weigh_12 : decode prog_13_method_76_code 12 = .ok (.invokevirtual 154, 3) := by decide +kernel
theorem d_X11_weigh_15 : decode prog_13_method_76_code 15 = .ok (.ireturn, 1) := by decide +kernel
theorem d_X11_passIt_0 : decode prog_13_method_77_code 0 = .ok (.iconst 0, 1) := by decide +kernel
theorem d_X11_passIt_1 : decode prog_13_method_77_code 1 = .ok (.istore_n 1, 1) := by decide +kernel
theorem d_X11_passIt_2 : decode prog_13_method_77_code 2 = .ok (.iload_n 1, 1) := by decide +kernel
theorem d_X11_passIt_3 : decode prog_13_method_77_code 3 = .ok (.aload_n 0, 1) := by decide +kernel
theorem d_X11_passIt_4 : decode prog_13_method_77_code 4 = .ok (.getfield 13, 3) := by decide +kernel
theorem d_X11_passIt_7 : decode prog_13_method_77_code 7 = .ok (.iconst 0, 1) := by decide +kernel
theorem d_X11_passIt_8 : decode prog_13_method_77_code 8 = .ok (.iaload, 1) := by decide +kernel
theorem d_X11_passIt_9 : decode prog_13_method_77_code 9 = .ok (.if_icmp .ge 40, 3) := by decide +kernel
theorem d_X11_passIt_12 : decode prog_13_method_77_code 12 = .ok (.aload_n 0, 1) := by decide +kernel
theorem d_X11_passIt_13 : decode prog_13_method_77_code 13 = .ok (.getfield 13, 3) := by decide +kernel
theorem d_X11_passIt_16 : decode prog_13_method_77_code 16 = .ok (.bipush 8, 2) := by decide +kernel
theorem d_X11_passIt_18 : decode prog_13_method_77_code 18 = .ok (.iload_n 1, 1) := by decide +kernel
theorem d_X11_passIt_19 : decode prog_13_method_77_code 19 = .ok (.iadd, 1) := by decide +kernel
theorem d_X11_passIt_20 : decode prog_13_method_77_code 20 = .ok (.aload_n 0, 1) := by decide +kernel
theorem d_X11_passIt_21 : decode prog_13_method_77_code 21 = .ok (.getfield 13, 3) := by decide +kernel
theorem d_X11_passIt_24 : decode prog_13_method_77_code 24 = .ok (.bipush 8, 2) := by decide +kernel
theorem d_X11_passIt_26 : decode prog_13_method_77_code 26 = .ok (.iload_n 1, 1) := by decide +kernel
theorem d_X11_passIt_27 : decode prog_13_method_77_code 27 = .ok (.iadd, 1) := by decide +kernel
theorem d_X11_passIt_28 : decode prog_13_method_77_code 28 = .ok (.iaload, 1) := by decide +kernel
theorem d_X11_passIt_29 : decode prog_13_method_77_code 29 = .ok (.aload_n 0, 1) := by decide +kernel
theorem d_X11_passIt_30 : decode prog_13_method_77_code 30 = .ok (.iload_n 1, 1) := by decide +kernel
theorem d_X11_passIt_31 : decode prog_13_method_77_code 31 = .ok (.invokevirtual 189, 3) := by decide +kernel
theorem d_X11_passIt_34 : decode prog_13_method_77_code 34 = .ok (.iadd, 1) := by decide +kernel
theorem d_X11_passIt_35 : decode prog_13_method_77_code 35 = .ok (.i2l, 1) := by decide +kernel
theorem d_X11_passIt_36 : decode prog_13_method_77_code 36 = .ok (.iconst 1, 1) := by decide +kernel
theorem d_X11_passIt_37 : decode prog_13_method_77_code 37 = .ok (.bipush 12, 2) := by decide +kernel
theorem d_X11_passIt_39 : decode prog_13_method_77_code 39 = .ok (.invokestatic 403, 3) := by decide +kernel
theorem d_X11_passIt_42 : decode prog_13_method_77_code 42 = .ok (.iastore, 1) := by decide +kernel
theorem d_X11_passIt_43 : decode prog_13_method_77_code 43 = .ok (.iinc 1 1, 3) := by decide +kernel
theorem d_X11_passIt_46 : decode prog_13_method_77_code 46 = .ok (.goto (-44), 3) := by decide +kernel
theorem d_X11_passIt_49 : decode prog_13_method_77_code 49 = .ok (.aload_n 0, 1) := by decide +kernel
theorem d_X11_passIt_50 : decode prog_13_method_77_code 50 = .ok (.getfield 13, 3) := by decide +kernel
theorem d_X11_passIt_53 : decode prog_13_method_77_code 53 = .ok (.iconst 5, 1) := by decide +kernel
theorem d_X11_passIt_54 : decode prog_13_method_77_code 54 = .ok (.dup2, 1) := by decide +kernel
theorem d_X11_passIt_55 : decode prog_13_method_77_code 55 = .ok (.iaload, 1) := by decide +kernel
theorem d_X11_passIt_56 : decode prog_13_method_77_code 56 = .ok (.iconst 1, 1) := by decide +kernel
theorem d_X11_passIt_57 : decode prog_13_method_77_code 57 = .ok (.iadd, 1) := by decide +kernel
theorem d_X11_passIt_58 : decode prog_13_method_77_code 58 = .ok (.iastore, 1) := by decide +kernel
theorem d_X11_passIt_59 : decode prog_13_method_77_code 59 = .ok (.return_, 1) := by decide +kernel
theorem d_X11_passNow_0 : decode prog_13_method_78_code 0 = .ok (.aload_n 0, 1) := by decide +kernel
theorem d_X11_passNow_1 : decode prog_13_method_78_code 1 = .ok (.getfield 13, 3) := by decide +kernel
theorem d_X11_passNow_4 : decode prog_13_method_78_code 4 = .ok (.iconst 5, 1) := by decide +kernel
theorem d_X11_passNow_5 : decode prog_13_method_78_code 5 = .ok (.iaload, 1) := by decide +kernel
theorem d_X11_passNow_6 : decode prog_13_method_78_code 6 = .ok (.sipush 999, 3) := by decide +kernel
theorem d_X11_passNow_9 : decode prog_13_method_78_code 9 = .ok (.if_icmp .ne 6, 3) := by decide +kernel
theorem d_X11_passNow_12 : decode prog_13_method_78_code 12 = .ok (.bipush (-3), 2) := by decide +kernel
theorem d_X11_passNow_14 : decode prog_13_method_78_code 14 = .ok (.ireturn, 1) := by decide +kernel
theorem d_X11_passNow_15 : decode prog_13_method_78_code 15 = .ok (.aload_n 0, 1) := by decide +kernel
theorem d_X11_passNow_16 : decode prog_13_method_78_code 16 = .ok (.iconst 3, 1) := by decide +kernel
theorem d_X11_passNow_17 : decode prog_13_method_78_code 17 = .ok (.invokevirtual 407, 3) := by decide +kernel
theorem d_X11_passNow_20 : decode prog_13_method_78_code 20 = .ok (.aload_n 0, 1) := by decide +kernel
theorem d_X11_passNow_21 : decode prog_13_method_78_code 21 = .ok (.invokevirtual 422, 3) := by decide +kernel
theorem d_X11_passNow_24 : decode prog_13_method_78_code 24 = .ok (.aload_n 0, 1) := by decide +kernel
theorem d_X11_passNow_25 : decode prog_13_method_78_code 25 = .ok (.getfield 13, 3) := by decide +kernel
theorem d_X11_passNow_28 : decode prog_13_method_78_code 28 = .ok (.iconst 5, 1) := by decide +kernel
theorem d_X11_passNow_29 : decode prog_13_method_78_code 29 = .ok (.iaload, 1) := by decide +kernel
theorem d_X11_passNow_30 : decode prog_13_method_78_code 30 = .ok (.ireturn, 1) := by decide +kernel
theorem d_X11_pass_0 : decode prog_13_method_79_code 0 = .ok (.aload_n 0, 1) := by decide +kernel
theorem d_X11_pass_1 : decode prog_13_method_79_code 1 = .ok (.iconst 0, 1) := by decide +kernel
theorem d_X11_pass_2 : decode prog_13_method_79_code 2 = .ok (.putfield 145, 3) := by decide +kernel
theorem d_X11_pass_5 : decode prog_13_method_79_code 5 = .ok (.aload_n 0, 1) := by decide +kernel
theorem d_X11_pass_6 : decode prog_13_method_79_code 6 = .ok (.aload_n 0, 1) := by decide +kernel
theorem d_X11_pass_7 : decode prog_13_method_79_code 7 = .ok (.invokevirtual 425, 3) := by decide +kernel
theorem d_X11_pass_10 : decode prog_13_method_79_code 10 = .ok (.invokevirtual 154, 3) := by decide +kernel
theorem d_X11_pass_13 : decode prog_13_method_79_code 13 = .ok (.ireturn, 1) := by decide +kernel
theorem d_X11_common_0 : decode prog_13_method_80_code 0 = .ok (.lload_n 0, 1) := by decide +kernel
theorem d_X11_common_1 : decode prog_13_method_80_code 1 = .ok (.lconst 0, 1) := by decide +kernel
theorem d_X11_common_2 : decode prog_13_method_80_code 2 = .ok (.lcmp, 1) := by decide +kernel
theorem d_X11_common_3 : decode prog_13_method_80_code 3 = .ok (.ifCond .ge 8, 3) := by decide +kernel
theorem d_X11_common_6 : decode prog_13_method_80_code 6 = .ok (.lload_n 0, 1) := by decide +kernel
theorem d_X11_common_7 : decode prog_13_method_80_code 7 = .ok (.lneg, 1) := by decide +kernel
theorem d_X11_common_8 : decode prog_13_method_80_code 8 = .ok (.goto 4, 3) := by decide +kernel
theorem d_X11_common_11 : decode prog_13_method_80_code 11 = .ok (.lload_n 0, 1) := by decide +kernel
theorem d_X11_common_12 : decode prog_13_method_80_code 12 = .ok (.lstore 4, 2) := by decide +kernel
theorem d_X11_common_14 : decode prog_13_method_80_code 14 = .ok (.lload_n 2, 1) := by decide +kernel
theorem d_X11_common_15 : decode prog_13_method_80_code 15 = .ok (.lconst 0, 1) := by decide +kernel
theorem d_X11_common_16 : decode prog_13_method_80_code 16 = .ok (.lcmp, 1) := by decide +kernel
theorem d_X11_common_17 : decode prog_13_method_80_code 17 = .ok (.ifCond .ge 8, 3) := by decide +kernel
theorem d_X11_common_20 : decode prog_13_method_80_code 20 = .ok (.lload_n 2, 1) := by decide +kernel
theorem d_X11_common_21 : decode prog_13_method_80_code 21 = .ok (.lneg, 1) := by decide +kernel
theorem d_X11_common_22 : decode prog_13_method_80_code 22 = .ok (.goto 4, 3) := by decide +kernel
theorem d_X11_common_25 : decode prog_13_method_80_code 25 = .ok (.lload_n 2, 1) := by decide +kernel
theorem d_X11_common_26 : decode prog_13_method_80_code 26 = .ok (.lstore 6, 2) := by decide +kernel
theorem d_X11_common_28 : decode prog_13_method_80_code 28 = .ok (.lload 6, 2) := by decide +kernel
theorem d_X11_common_30 : decode prog_13_method_80_code 30 = .ok (.lconst 0, 1) := by decide +kernel
theorem d_X11_common_31 : decode prog_13_method_80_code 31 = .ok (.lcmp, 1) := by decide +kernel
theorem d_X11_common_32 : decode prog_13_method_80_code 32 = .ok (.ifCond .eq 21, 3) := by decide +kernel
theorem d_X11_common_35 : decode prog_13_method_80_code 35 = .ok (.lload 4, 2) := by decide +kernel
theorem d_X11_common_37 : decode prog_13_method_80_code 37 = .ok (.lload 6, 2) := by decide +kernel
theorem d_X11_common_39 : decode prog_13_method_80_code 39 = .ok (.lrem, 1) := by decide +kernel
theorem d_X11_common_40 : decode prog_13_method_80_code 40 = .ok (.lstore 8, 2) := by decide +kernel
theorem d_X11_common_42 : decode prog_13_method_80_code 42 = .ok (.lload 6, 2) := by decide +kernel
theorem d_X11_common_44 : decode prog_13_method_80_code 44 = .ok (.lstore 4, 2) := by decide +kernel
theorem d_X11_common_46 : decode prog_13_method_80_code 46 = .ok (.lload 8, 2) := by decide +kernel
theorem d_X11_common_48 : decode prog_13_method_80_code 48 = .ok (.lstore 6, 2) := by decide +kernel
theorem d_X11_common_50 : decode prog_13_method_80_code 50 = .ok (.goto (-22), 3) := by decide +kernel
theorem d_X11_common_53 : decode prog_13_method_80_code 53 = .ok (.lload 4, 2) := by decide +kernel
theorem d_X11_common_55 : decode prog_13_method_80_code 55 = .ok (.lreturn, 1) := by decide +kernel
theorem d_X11_lowest_0 : decode prog_13_method_81_code 0 = .ok (.lload_n 1, 1) := by decide +kernel
theorem d_X11_lowest_1 : decode prog_13_method_81_code 1 = .ok (.lload_n 3, 1) := by decide +kernel
theorem d_X11_lowest_2 : decode prog_13_method_81_code 2 = .ok (.invokestatic 428, 3) := by decide +kernel
theorem d_X11_lowest_5 : decode prog_13_method_81_code 5 = .ok (.lstore 5, 2) := by decide +kernel
theorem d_X11_lowest_7 : decode prog_13_method_81_code 7 = .ok (.lload_n 3, 1) := by decide +kernel
theorem d_X11_lowest_8 : decode prog_13_method_81_code 8 = .ok (.lconst 0, 1) := by decide +kernel
theorem d_X11_lowest_9 : decode prog_13_method_81_code 9 = .ok (.lcmp, 1) := by decide +kernel
theorem d_X11_lowest_10 : decode prog_13_method_81_code 10 = .ok (.ifCond .ge 9, 3) := by decide +kernel
theorem d_X11_lowest_13 : decode prog_13_method_81_code 13 = .ok (.lload 5, 2) := by decide +kernel
theorem d_X11_lowest_15 : decode prog_13_method_81_code 15 = .ok (.lneg, 1) := by decide +kernel
theorem d_X11_lowest_16 : decode prog_13_method_81_code 16 = .ok (.goto 5, 3) := by decide +kernel
theorem d_X11_lowest_19 : decode prog_13_method_81_code 19 = .ok (.lload 5, 2) := by decide +kernel
theorem d_X11_lowest_21 : decode prog_13_method_81_code 21 = .ok (.lstore 5, 2) := by decide +kernel
theorem d_X11_lowest_23 : decode prog_13_method_81_code 23 = .ok (.aload_n 0, 1) := by decide +kernel
theorem d_X11_lowest_24 : decode prog_13_method_81_code 24 = .ok (.lload_n 1, 1) := by decide +kernel
theorem d_X11_lowest_25 : decode prog_13_method_81_code 25 = .ok (.lload 5, 2) := by decide +kernel
theorem d_X11_lowest_27 : decode prog_13_method_81_code 27 = .ok (.ldiv, 1) := by decide +kernel
theorem d_X11_lowest_28 : decode prog_13_method_81_code 28 = .ok (.putfield 432, 3) := by decide +kernel
theorem d_X11_lowest_31 : decode prog_13_method_81_code 31 = .ok (.aload_n 0, 1) := by decide +kernel
theorem d_X11_lowest_32 : decode prog_13_method_81_code 32 = .ok (.lload_n 3, 1) := by decide +kernel
theorem d_X11_lowest_33 : decode prog_13_method_81_code 33 = .ok (.lload 5, 2) := by decide +kernel
theorem d_X11_lowest_35 : decode prog_13_method_81_code 35 = .ok (.ldiv, 1) := by decide +kernel
theorem d_X11_lowest_36 : decode prog_13_method_81_code 36 = .ok (.putfield 435, 3) := by decide +kernel
theorem d_X11_lowest_39 : decode prog_13_method_81_code 39 = .ok (.return_, 1) := by decide +kernel
theorem d_X11_figureBy_0 : decode prog_13_method_82_code 0 = .ok (.lconst 0, 1) := by decide +kernel
theorem d_X11_figureBy_1 : decode prog_13_method_82_code 1 = .ok (.lstore 4, 2) := by decide +kernel
theorem d_X11_figureBy_3 : decode prog_13_method_82_code 3 = .ok (.lconst 0, 1) := by decide +kernel
theorem d_X11_figureBy_4 : decode prog_13_method_82_code 4 = .ok (.lstore 6, 2) := by decide +kernel
theorem d_X11_figureBy_6 : decode prog_13_method_82_code 6 = .ok (.iconst 0, 1) := by decide +kernel
theorem d_X11_figureBy_7 : decode prog_13_method_82_code 7 = .ok (.istore 8, 2) := by decide +kernel
theorem d_X11_figureBy_9 : decode prog_13_method_82_code 9 = .ok (.iload 8, 2) := by decide +kernel
theorem d_X11_figureBy_11 : decode prog_13_method_82_code 11 = .ok (.aload_n 0, 1) := by decide +kernel
theorem d_X11_figureBy_12 : decode prog_13_method_82_code 12 = .ok (.getfield 13, 3) := by decide +kernel
theorem d_X11_figureBy_15 : decode prog_13_method_82_code 15 = .ok (.iconst 0, 1) := by decide +kernel
theorem d_X11_figureBy_16 : decode prog_13_method_82_code 16 = .ok (.iaload, 1) := by decide +kernel
theorem d_X11_figureBy_17 : decode prog_13_method_82_code 17 = .ok (.if_icmp .ge 235, 3) := by decide +kernel
theorem d_X11_figureBy_20 : decode prog_13_method_82_code 20 = .ok (.iload 8, 2) := by decide +kernel
theorem d_X11_figureBy_22 : decode prog_13_method_82_code 22 = .ok (.iload_n 3, 1) := by decide +kernel
theorem d_X11_figureBy_23 : decode prog_13_method_82_code 23 = .ok (.if_icmp .ne 7, 3) := by decide +kernel
theorem d_X11_figureBy_26 : decode prog_13_method_82_code 26 = .ok (.lconst 0, 1) := by decide +kernel
theorem d_X11_figureBy_27 : decode prog_13_method_82_code 27 = .ok (.goto 10, 3) := by decide +kernel
theorem d_X11_figureBy_30 : decode prog_13_method_82_code 30 = .ok (.aload_n 0, 1) := by decide +kernel
theorem d_X11_figureBy_31 : decode prog_13_method_82_code 31 = .ok (.iload 8, 2) := by decide +kernel
theorem d_X11_figureBy_33 : decode prog_13_method_82_code 33 = .ok (.invokevirtual 192, 3) := by decide +kernel
theorem d_X11_figureBy_36 : decode prog_13_method_82_code 36 = .ok (.i2l, 1) := by decide +kernel
theorem d_X11_figureBy_37 : decode prog_13_method_82_code 37 = .ok (.lstore 9, 2) := by decide +kernel
theorem d_X11_figureBy_39 : decode prog_13_method_82_code 39 = .ok (.aload_n 0, 1) := by decide +kernel
theorem d_X11_figureBy_40 : decode prog_13_method_82_code 40 = .ok (.getfield 13, 3) := by decide +kernel
theorem d_X11_figureBy_43 : decode prog_13_method_82_code 43 = .ok (.bipush 32, 2) := by decide +kernel
theorem d_X11_figureBy_45 : decode prog_13_method_82_code 45 = .ok (.aload_n 0, 1) := by decide +kernel
theorem d_X11_figureBy_46 : decode prog_13_method_82_code 46 = .ok (.iload 8, 2) := by decide +kernel
theorem d_X11_figureBy_48 : decode prog_13_method_82_code 48 = .ok (.invokevirtual 438, 3) := by decide +kernel
theorem d_X11_figureBy_51 : decode prog_13_method_82_code 51 = .ok (.iadd, 1) := by decide +kernel
theorem d_X11_figureBy_52 : decode prog_13_method_82_code 52 = .ok (.iaload, 1) := by decide +kernel
theorem d_X11_figureBy_53 : decode prog_13_method_82_code 53 = .ok (.i2l, 1) := by decide +kernel
theorem d_X11_figureBy_54 : decode prog_13_method_82_code 54 = .ok (.lstore 11, 2) := by decide +kernel
theorem d_X11_figureBy_56 : decode prog_13_method_82_code 56 = .ok (.aload_n 0, 1) := by decide +kernel
theorem d_X11_figureBy_57 : decode prog_13_method_82_code 57 = .ok (.getfield 13, 3) := by decide +kernel
theorem d_X11_figureBy_60 : decode prog_13_method_82_code 60 = .ok (.bipush 8, 2) := by decide +kernel
theorem d_X11_figureBy_62 : decode prog_13_method_82_code 62 = .ok (.aload_n 0, 1) := by decide +kernel
theorem d_X11_figureBy_63 : decode prog_13_method_82_code 63 = .ok (.iload 8, 2) := by decide +kernel
theorem d_X11_figureBy_65 : decode prog_13_method_82_code 65 = .ok (.invokevirtual 438, 3) := by decide +kernel
theorem d_X11_figureBy_68 : decode prog_13_method_82_code 68 = .ok (.iadd, 1) := by decide +kernel
theorem d_X11_figureBy_69 : decode prog_13_method_82_code 69 = .ok (.iaload, 1) := by decide +kernel
theorem d_X11_figureBy_70 : decode prog_13_method_82_code 70 = .ok (.i2l, 1) := by decide +kernel
theorem d_X11_figureBy_71 : decode prog_13_method_82_code 71 = .ok (.lstore 13, 2) := by decide +kernel
theorem d_X11_figureBy_73 : decode prog_13_method_82_code 73 = .ok (.iload_n 2, 1) := by decide +kernel
theorem d_X11_figureBy_74 : decode prog_13_method_82_code 74 = .ok (.ifCond .eq 8, 3) := by decide +kernel
theorem d_X11_figureBy_77 : decode prog_13_method_82_code 77 = .ok (.lload 11, 2) := by decide +kernel
theorem d_X11_figureBy_79 : decode prog_13_method_82_code 79 = .ok (.goto 5, 3) := by decide +kernel
theorem d_X11_figureBy_82 : decode prog_13_method_82_code 82 = .ok (.lload 13, 2) := by decide +kernel
theorem d_X11_figureBy_84 : decode prog_13_method_82_code 84 = .ok (.lstore 15, 2) := by decide +kernel
theorem d_X11_figureBy_86 : decode prog_13_method_82_code 86 = .ok (.iload_n 2, 1) := by decide +kernel
theorem d_X11_figureBy_87 : decode prog_13_method_82_code 87 = .ok (.ifCond .eq 8, 3) := by decide +kernel
theorem d_X11_figureBy_90 : decode prog_13_method_82_code 90 = .ok (.lload 13, 2) := by decide +kernel
theorem d_X11_figureBy_92 : decode prog_13_method_82_code 92 = .ok (.goto 5, 3) := by decide +kernel
theorem d_X11_figureBy_95 : decode prog_13_method_82_code 95 = .ok (.lload 11, 2) := by decide +kernel
theorem d_X11_figureBy_97 : decode prog_13_method_82_code 97 = .ok (.lstore 17, 2) := by decide +kernel
theorem d_X11_figureBy_99 : decode prog_13_method_82_code 99 = .ok (.iload_n 1, 1) := by decide +kernel
theorem d_X11_figureBy_100 : decode prog_13_method_82_code 100 = .ok (.ifCond .ne 23, 3) := by decide +kernel
theorem d_X11_figureBy_103 : decode prog_13_method_82_code 103 = .ok (.lload 4, 2) := by decide +kernel
theorem d_X11_figureBy_105 : decode prog_13_method_82_code 105 = .ok (.lload 9, 2) := by decide +kernel
theorem d_X11_figureBy_107 : decode prog_13_method_82_code 107 = .ok (.lload 15, 2) := by decide +kernel
theorem d_X11_figureBy_109 : decode prog_13_method_82_code 109 = .ok (.lmul, 1) := by decide +kernel
theorem d_X11_figureBy_110 : decode prog_13_method_82_code 110 = .ok (.ladd, 1) := by decide +kernel
theorem d_X11_figureBy_111 : decode prog_13_method_82_code 111 = .ok (.lstore 4, 2) := by decide +kernel
theorem d_X11_figureBy_113 : decode prog_13_method_82_code 113 = .ok (.lload 6, 2) := by decide +kernel
theorem d_X11_figureBy_115 : decode prog_13_method_82_code 115 = .ok (.lload 9, 2) := by decide +kernel
theorem d_X11_figureBy_117 : decode prog_13_method_82_code 117 = .ok (.lload 17, 2) := by decide +kernel
theorem d_X11_figureBy_119 : decode prog_13_method_82_code 119 = .ok (.lmul, 1) := by decide +kernel
theorem d_X11_figureBy_120 : decode prog_13_method_82_code 120 = .ok (.ladd, 1) := by decide +kernel
theorem d_X11_figureBy_121 : decode prog_13_method_82_code 121 = .ok (.lstore 6, 2) := by decide +kernel
theorem d_X11_figureBy_123 : decode prog_13_method_82_code 123 = .ok (.iload_n 1, 1) := by decide +kernel
theorem d_X11_figureBy_124 : decode prog_13_method_82_code 124 = .ok (.iconst 1, 1) := by decide +kernel
theorem d_X11_figureBy_125 : decode prog_13_method_82_code 125 = .ok (.if_icmp .ne 31, 3) := by decide +kernel
theorem d_X11_figureBy_128 : decode prog_13_method_82_code 128 = .ok (.lload 4, 2) := by decide +kernel
theorem d_X11_figureBy_130 : decode prog_13_method_82_code 130 = .ok (.lload 9, 2) := by decide +kernel
theorem d_X11_figureBy_132 : decode prog_13_method_82_code 132 = .ok (.lload 15, 2) := by decide +kernel
theorem d_X11_figureBy_134 : decode prog_13_method_82_code 134 = .ok (.lmul, 1) := by decide +kernel
theorem d_X11_figureBy_135 : decode prog_13_method_82_code 135 = .ok (.ldc2_w 441, 3) := by decide +kernel
theorem d_X11_figureBy_138 : decode prog_13_method_82_code 138 = .ok (.lload 17, 2) := by decide +kernel
theorem d_X11_figureBy_140 : decode prog_13_method_82_code 140 = .ok (.ldiv, 1) := by decide +kernel
theorem d_X11_figureBy_141 : decode prog_13_method_82_code 141 = .ok (.lmul, 1) := by decide +kernel
theorem d_X11_figureBy_142 : decode prog_13_method_82_code 142 = .ok (.ladd, 1) := by decide +kernel
theorem d_X11_figureBy_143 : decode prog_13_method_82_code 143 = .ok (.lstore 4, 2) := by decide +kernel
theorem d_X11_figureBy_145 : decode prog_13_method_82_code 145 = .ok (.lload 6, 2) := by decide +kernel
theorem d_X11_figureBy_147 : decode prog_13_method_82_code 147 = .ok (.lload 9, 2) := by decide +kernel
theorem d_X11_figureBy_149 : decode prog_13_method_82_code 149 = .ok (.ldc2_w 441, 3) := by decide +kernel
theorem d_X11_figureBy_152 : decode prog_13_method_82_code 152 = .ok (.lmul, 1) := by decide +kernel
theorem d_X11_figureBy_153 : decode prog_13_method_82_code 153 = .ok (.ladd, 1) := by decide +kernel
theorem d_X11_figureBy_154 : decode prog_13_method_82_code 154 = .ok (.lstore 6, 2) := by decide +kernel
theorem d_X11_figureBy_156 : decode prog_13_method_82_code 156 = .ok (.iload_n 1, 1) := by decide +kernel
theorem d_X11_figureBy_157 : decode prog_13_method_82_code 157 = .ok (.iconst 1, 1) := by decide +kernel
theorem d_X11_figureBy_158 : decode prog_13_method_82_code 158 = .ok (.if_icmp .le 57, 3) := by decide +kernel
theorem d_X11_figureBy_161 : decode prog_13_method_82_code 161 = .ok (.lload 9, 2) := by decide +kernel
theorem d_X11_figureBy_163 : decode prog_13_method_82_code 163 = .ok (.lconst 0, 1) := by decide +kernel
theorem d_X11_figureBy_164 : decode prog_13_method_82_code 164 = .ok (.lcmp, 1) := by decide +kernel
theorem d_X11_figureBy_165 : decode prog_13_method_82_code 165 = .ok (.ifCond .le 50, 3) := by decide +kernel
theorem d_X11_figureBy_168 : decode prog_13_method_82_code 168 = .ok (.lload 6, 2) := by decide +kernel
theorem d_X11_figureBy_170 : decode prog_13_method_82_code 170 = .ok (.lconst 0, 1) := by decide +kernel
theorem d_X11_figureBy_171 : decode prog_13_method_82_code 171 = .ok (.lcmp, 1) := by decide +kernel
theorem d_X11_figureBy_172 : decode prog_13_method_82_code 172 = .ok (.ifCond .eq 39, 3) := by decide +kernel
theorem d_X11_figureBy_175 : decode prog_13_method_82_code 175 = .ok (.iload_n 1, 1) := by decide +kernel
theorem d_X11_figureBy_176 : decode prog_13_method_82_code 176 = .ok (.iconst 2, 1) := by decide +kernel
theorem d_X11_figureBy_177 : decode prog_13_method_82_code 177 = .ok (.if_icmp .ne 20, 3) := by decide +kernel
theorem d_X11_figureBy_180 : decode prog_13_method_82_code 180 = .ok (.lload 15, 2) := by decide +kernel
theorem d_X11_figureBy_182 : decode prog_13_method_82_code 182 = .ok (.lload 6, 2) := by decide +kernel
theorem d_X11_figureBy_184 : decode prog_13_method_82_code 184 = .ok (.lmul, 1) := by decide +kernel
theorem d_X11_figureBy_185 : decode prog_13_method_82_code 185 = .ok (.lload 4, 2) := by decide +kernel
theorem d_X11_figureBy_187 : decode prog_13_method_82_code 187 = .ok (.lload 17, 2) := by decide +kernel
theorem d_X11_figureBy_189 : decode prog_13_method_82_code 189 = .ok (.lmul, 1) := by decide +kernel
theorem d_X11_figureBy_190 : decode prog_13_method_82_code 190 = .ok (.lcmp, 1) := by decide +kernel
theorem d_X11_figureBy_191 : decode prog_13_method_82_code 191 = .ok (.ifCond .le 24, 3) := by decide +kernel
theorem d_X11_figureBy_194 : decode prog_13_method_82_code 194 = .ok (.goto 17, 3) := by decide +kernel
theorem d_X11_figureBy_197 : decode prog_13_method_82_code 197 = .ok (.lload 15, 2) := by decide +kernel
theorem d_X11_figureBy_199 : decode prog_13_method_82_code 199 = .ok (.lload 6, 2) := by decide +kernel
theorem d_X11_figureBy_201 : decode prog_13_method_82_code 201 = .ok (.lmul, 1) := by decide +kernel
theorem d_X11_figureBy_202 : decode prog_13_method_82_code 202 = .ok (.lload 4, 2) := by decide +kernel
theorem d_X11_figureBy_204 : decode prog_13_method_82_code 204 = .ok (.lload 17, 2) := by decide +kernel
theorem d_X11_figureBy_206 : decode prog_13_method_82_code 206 = .ok (.lmul, 1) := by decide +kernel
theorem d_X11_figureBy_207 : decode prog_13_method_82_code 207 = .ok (.lcmp, 1) := by decide +kernel
theorem d_X11_figureBy_208 : decode prog_13_method_82_code 208 = .ok (.ifCond .ge 7, 3) := by decide +kernel
theorem d_X11_figureBy_211 : decode prog_13_method_82_code 211 = .ok (.iconst 1, 1) := by decide +kernel
theorem d_X11_figureBy_212 : decode prog_13_method_82_code 212 = .ok (.goto 4, 3) := by decide +kernel
theorem d_X11_figureBy_215 : decode prog_13_method_82_code 215 = .ok (.iconst 0, 1) := by decide +kernel
theorem d_X11_figureBy_216 : decode prog_13_method_82_code 216 = .ok (.istore 19, 2) := by decide +kernel
theorem d_X11_figureBy_218 : decode prog_13_method_82_code 218 = .ok (.iload 19, 2) := by decide +kernel
theorem d_X11_figureBy_220 : decode prog_13_method_82_code 220 = .ok (.ifCond .eq 8, 3) := by decide +kernel
theorem d_X11_figureBy_223 : decode prog_13_method_82_code 223 = .ok (.lload 15, 2) := by decide +kernel
theorem d_X11_figureBy_225 : decode prog_13_method_82_code 225 = .ok (.goto 5, 3) := by decide +kernel
theorem d_X11_figureBy_228 : decode prog_13_method_82_code 228 = .ok (.lload 4, 2) := by decide +kernel
theorem d_X11_figureBy_230 : decode prog_13_method_82_code 230 = .ok (.lstore 4, 2) := by decide +kernel
theorem d_X11_figureBy_232 : decode prog_13_method_82_code 232 = .ok (.iload 19, 2) := by decide +kernel
theorem d_X11_figureBy_234 : decode prog_13_method_82_code 234 = .ok (.ifCond .eq 8, 3) := by decide +kernel
theorem d_X11_figureBy_237 : decode prog_13_method_82_code 237 = .ok (.lload 17, 2) := by decide +kernel
theorem d_X11_figureBy_239 : decode prog_13_method_82_code 239 = .ok (.goto 5, 3) := by decide +kernel
theorem d_X11_figureBy_242 : decode prog_13_method_82_code 242 = .ok (.lload 6, 2) := by decide +kernel
theorem d_X11_figureBy_244 : decode prog_13_method_82_code 244 = .ok (.lstore 6, 2) := by decide +kernel
theorem d_X11_figureBy_246 : decode prog_13_method_82_code 246 = .ok (.iinc 8 1, 3) := by decide +kernel
theorem d_X11_figureBy_249 : decode prog_13_method_82_code 249 = .ok (.goto (-240), 3) := by decide +kernel
theorem d_X11_figureBy_252 : decode prog_13_method_82_code 252 = .ok (.aload_n 0, 1) := by decide +kernel
theorem d_X11_figureBy_253 : decode prog_13_method_82_code 253 = .ok (.lconst 0, 1) := by decide +kernel
theorem d_X11_figureBy_254 : decode prog_13_method_82_code 254 = .ok (.putfield 432, 3) := by decide +kernel
theorem d_X11_figureBy_257 : decode prog_13_method_82_code 257 = .ok (.aload_n 0, 1) := by decide +kernel
theorem d_X11_figureBy_258 : decode prog_13_method_82_code 258 = .ok (.lconst 1, 1) := by decide +kernel
theorem d_X11_figureBy_259 : decode prog_13_method_82_code 259 = .ok (.putfield 435, 3) := by decide +kernel
theorem d_X11_figureBy_262 : decode prog_13_method_82_code 262 = .ok (.lload 6, 2) := by decide +kernel
theorem d_X11_figureBy_264 : decode prog_13_method_82_code 264 = .ok (.lconst 0, 1) := by decide +kernel
theorem d_X11_figureBy_265 : decode prog_13_method_82_code 265 = .ok (.lcmp, 1) := by decide +kernel
theorem d_X11_figureBy_266 : decode prog_13_method_82_code 266 = .ok (.ifCond .le 11, 3) := by decide +kernel
theorem d_X11_figureBy_269 : decode prog_13_method_82_code 269 = .ok (.aload_n 0, 1) := by decide +kernel
theorem d_X11_figureBy_270 : decode prog_13_method_82_code 270 = .ok (.lload 4, 2) := by decide +kernel
theorem d_X11_figureBy_272 : decode prog_13_method_82_code 272 = .ok (.lload 6, 2) := by decide +kernel
theorem d_X11_figureBy_274 : decode prog_13_method_82_code 274 = .ok (.invokevirtual 443, 3) := by decide +kernel
theorem d_X11_figureBy_277 : decode prog_13_method_82_code 277 = .ok (.return_, 1) := by decide +kernel
theorem d_X11_figure_0 : decode prog_13_method_83_code 0 = .ok (.aload_n 0, 1) := by decide +kernel
theorem d_X11_figure_1 : decode prog_13_method_83_code 1 = .ok (.iconst 0, 1) := by decide +kernel
theorem d_X11_figure_2 : decode prog_13_method_83_code 2 = .ok (.putfield 145, 3) := by decide +kernel
theorem d_X11_figure_5 : decode prog_13_method_83_code 5 = .ok (.iload_n 1, 1) := by decide +kernel
theorem d_X11_figure_6 : decode prog_13_method_83_code 6 = .ok (.i2l, 1) := by decide +kernel
theorem d_X11_figure_7 : decode prog_13_method_83_code 7 = .ok (.lconst 0, 1) := by decide +kernel
theorem d_X11_figure_8 : decode prog_13_method_83_code 8 = .ok (.ldc2_w 447, 3) := by decide +kernel
theorem d_X11_figure_11 : decode prog_13_method_83_code 11 = .ok (.invokestatic 165, 3) := by decide +kernel
theorem d_X11_figure_14 : decode prog_13_method_83_code 14 = .ok (.ifCond .eq 13, 3) := by decide +kernel
theorem d_X11_figure_17 : decode prog_13_method_83_code 17 = .ok (.iload_n 2, 1) := by decide +kernel
theorem d_X11_figure_18 : decode prog_13_method_83_code 18 = .ok (.i2l, 1) := by decide +kernel
theorem d_X11_figure_19 : decode prog_13_method_83_code 19 = .ok (.lconst 0, 1) := by decide +kernel
theorem d_X11_figure_20 : decode prog_13_method_83_code 20 = .ok (.lconst 1, 1) := by decide +kernel
theorem d_X11_figure_21 : decode prog_13_method_83_code 21 = .ok (.invokestatic 165, 3) := by decide +kernel
theorem d_X11_figure_24 : decode prog_13_method_83_code 24 = .ok (.ifCond .ne 7, 3) := by decide +kernel
theorem d_X11_figure_27 : decode prog_13_method_83_code 27 = .ok (.ldc2_w 251, 3) := by decide +kernel
theorem d_X11_figure_30 : decode prog_13_method_83_code 30 = .ok (.lreturn, 1) := by decide +kernel
theorem d_X11_figure_31 : decode prog_13_method_83_code 31 = .ok (.aload_n 0, 1) := by decide +kernel
theorem d_X11_figure_32 : decode prog_13_method_83_code 32 = .ok (.iload_n 1, 1) := by decide +kernel
theorem d_X11_figure_33 : decode prog_13_method_83_code 33 = .ok (.iconst 0, 1) := by decide +kernel
theorem d_X11_figure_34 : decode prog_13_method_83_code 34 = .ok (.iconst (-1), 1) := by decide +kernel
theorem d_X11_figure_35 : decode prog_13_method_83_code 35 = .ok (.invokevirtual 449, 3) := by decide +kernel
theorem d_X11_figure_38 : decode prog_13_method_83_code 38 = .ok (.iload_n 2, 1) := by decide +kernel
theorem d_X11_figure_39 : decode prog_13_method_83_code 39 = .ok (.ifCond .ne 10, 3) := by decide +kernel
theorem d_X11_figure_42 : decode prog_13_method_83_code 42 = .ok (.aload_n 0, 1) := by decide +kernel
theorem d_X11_figure_43 : decode prog_13_method_83_code 43 = .ok (.getfield 432, 3) := by decide +kernel
theorem d_X11_figure_46 : decode prog_13_method_83_code 46 = .ok (.goto 7, 3) := by decide +kernel
theorem d_X11_figure_49 : decode prog_13_method_83_code 49 = .ok (.aload_n 0, 1) := by decide +kernel
theorem d_X11_figure_50 : decode prog_13_method_83_code 50 = .ok (.getfield 435, 3) := by decide +kernel
theorem d_X11_figure_53 : decode prog_13_method_83_code 53 = .ok (.lreturn, 1) := by decide +kernel
theorem d_X11_turned_0 : decode prog_13_method_84_code 0 = .ok (.aload_n 0, 1) := by decide +kernel
theorem d_X11_turned_1 : decode prog_13_method_84_code 1 = .ok (.iconst 0, 1) := by decide +kernel
theorem d_X11_turned_2 : decode prog_13_method_84_code 2 = .ok (.putfield 145, 3) := by decide +kernel
theorem d_X11_turned_5 : decode prog_13_method_84_code 5 = .ok (.iload_n 1, 1) := by decide +kernel
theorem d_X11_turned_6 : decode prog_13_method_84_code 6 = .ok (.i2l, 1) := by decide +kernel
theorem d_X11_turned_7 : decode prog_13_method_84_code 7 = .ok (.lconst 0, 1) := by decide +kernel
theorem d_X11_turned_8 : decode prog_13_method_84_code 8 = .ok (.ldc2_w 447, 3) := by decide +kernel
theorem d_X11_turned_11 : decode prog_13_method_84_code 11 = .ok (.invokestatic 165, 3) := by decide +kernel
theorem d_X11_turned_14 : decode prog_13_method_84_code 14 = .ok (.ifCond .eq 13, 3) := by decide +kernel
theorem d_X11_turned_17 : decode prog_13_method_84_code 17 = .ok (.iload_n 2, 1) := by decide +kernel
theorem d_X11_turned_18 : decode prog_13_method_84_code 18 = .ok (.i2l, 1) := by decide +kernel
theorem d_X11_turned_19 : decode prog_13_method_84_code 19 = .ok (.lconst 0, 1) := by decide +kernel
theorem d_X11_turned_20 : decode prog_13_method_84_code 20 = .ok (.lconst 1, 1) := by decide +kernel
theorem d_X11_turned_21 : decode prog_13_method_84_code 21 = .ok (.invokestatic 165, 3) := by decide +kernel
theorem d_X11_turned_24 : decode prog_13_method_84_code 24 = .ok (.ifCond .ne 7, 3) := by decide +kernel
theorem d_X11_turned_27 : decode prog_13_method_84_code 27 = .ok (.ldc2_w 251, 3) := by decide +kernel
theorem d_X11_turned_30 : decode prog_13_method_84_code 30 = .ok (.lreturn, 1) := by decide +kernel
theorem d_X11_turned_31 : decode prog_13_method_84_code 31 = .ok (.aload_n 0, 1) := by decide +kernel
theorem d_X11_turned_32 : decode prog_13_method_84_code 32 = .ok (.iload_n 1, 1) := by decide +kernel
theorem d_X11_turned_33 : decode prog_13_method_84_code 33 = .ok (.iconst 0, 1) := by decide +kernel
theorem d_X11_turned_34 : decode prog_13_method_84_code 34 = .ok (.iconst (-1), 1) := by decide +kernel
theorem d_X11_turned_35 : decode prog_13_method_84_code 35 = .ok (.invokevirtual 449, 3) := by decide +kernel
theorem d_X11_turned_38 : decode prog_13_method_84_code 38 = .ok (.aload_n 0, 1) := by decide +kernel
theorem d_X11_turned_39 : decode prog_13_method_84_code 39 = .ok (.getfield 432, 3) := by decide +kernel
theorem d_X11_turned_42 : decode prog_13_method_84_code 42 = .ok (.lstore_n 3, 1) := by decide +kernel
theorem d_X11_turned_43 : decode prog_13_method_84_code 43 = .ok (.aload_n 0, 1) := by decide +kernel
theorem d_X11_turned_44 : decode prog_13_method_84_code 44 = .ok (.getfield 435, 3) := by decide +kernel
theorem d_X11_turned_47 : decode prog_13_method_84_code 47 = .ok (.lstore 5, 2) := by decide +kernel
theorem d_X11_turned_49 : decode prog_13_method_84_code 49 = .ok (.aload_n 0, 1) := by decide +kernel
theorem d_X11_turned_50 : decode prog_13_method_84_code 50 = .ok (.iload_n 1, 1) := by decide +kernel
theorem d_X11_turned_51 : decode prog_13_method_84_code 51 = .ok (.iconst 1, 1) := by decide +kernel
theorem d_X11_turned_52 : decode prog_13_method_84_code 52 = .ok (.iconst (-1), 1) := by decide +kernel
theorem d_X11_turned_53 : decode prog_13_method_84_code 53 = .ok (.invokevirtual 449, 3) := by decide +kernel
theorem d_X11_turned_56 : decode prog_13_method_84_code 56 = .ok (.aload_n 0, 1) := by decide +kernel
theorem d_X11_turned_57 : decode prog_13_method_84_code 57 = .ok (.lload_n 3, 1) := by decide +kernel
theorem d_X11_turned_58 : decode prog_13_method_84_code 58 = .ok (.aload_n 0, 1) := by decide +kernel
theorem d_X11_turned_59 : decode prog_13_method_84_code 59 = .ok (.getfield 432, 3) := by decide +kernel
theorem d_X11_turned_62 : decode prog_13_method_84_code 62 = .ok (.lmul, 1) := by decide +kernel
theorem d_X11_turned_63 : decode prog_13_method_84_code 63 = .ok (.lload 5, 2) := by decide +kernel
theorem d_X11_turned_65 : decode prog_13_method_84_code 65 = .ok (.aload_n 0, 1) := by decide +kernel
theorem d_X11_turned_66 : decode prog_13_method_84_code 66 = .ok (.getfield 435, 3) := by decide +kernel
theorem d_X11_turned_69 : decode prog_13_method_84_code 69 = .ok (.lmul, 1) := by decide +kernel
theorem d_X11_turned_70 : decode prog_13_method_84_code 70 = .ok (.invokevirtual 443, 3) := by decide +kernel
theorem d_X11_turned_73 : decode prog_13_method_84_code 73 = .ok (.iload_n 2, 1) := by decide +kernel
theorem d_X11_turned_74 : decode prog_13_method_84_code 74 = .ok (.ifCond .ne 10, 3) := by decide +kernel
theorem d_X11_turned_77 : decode prog_13_method_84_code 77 = .ok (.aload_n 0, 1) := by decide +kernel
theorem d_X11_turned_78 : decode prog_13_method_84_code 78 = .ok (.getfield 432, 3) := by decide +kernel
theorem d_X11_turned_81 : decode prog_13_method_84_code 81 = .ok (.goto 7, 3) := by decide +kernel
theorem d_X11_turned_84 : decode prog_13_method_84_code 84 = .ok (.aload_n 0, 1) := by decide +kernel
theorem d_X11_turned_85 : decode prog_13_method_84_code 85 = .ok (.getfield 435, 3) := by decide +kernel
theorem d_X11_turned_88 : decode prog_13_method_84_code 88 = .ok (.lreturn, 1) := by decide +kernel
theorem d_X11_pensionNow_0 : decode prog_13_method_85_code 0 = .ok (.aload_n 0, 1) := by decide +kernel
theorem d_X11_pensionNow_1 : decode prog_13_method_85_code 1 = .ok (.iconst 0, 1) := by decide +kernel
theorem d_X11_pensionNow_2 : decode prog_13_method_85_code 2 = .ok (.iconst 0, 1) := by decide +kernel
theorem d_X11_pensionNow_3 : decode prog_13_method_85_code 3 = .ok (.iconst (-1), 1) := by decide +kernel
theorem d_X11_pensionNow_4 : decode prog_13_method_85_code 4 = .ok (.invokevirtual 449, 3) := by decide +kernel
theorem d_X11_pensionNow_7 : decode prog_13_method_85_code 7 = .ok (.aload_n 0, 1) := by decide +kernel
theorem d_X11_pensionNow_8 : decode prog_13_method_85_code 8 = .ok (.getfield 432, 3) := by decide +kernel
theorem d_X11_pensionNow_11 : decode prog_13_method_85_code 11 = .ok (.lconst 0, 1) := by decide +kernel
theorem d_X11_pensionNow_12 : decode prog_13_method_85_code 12 = .ok (.lcmp, 1) := by decide +kernel
theorem d_X11_pensionNow_13 : decode prog_13_method_85_code 13 = .ok (.ifCond .ne 8, 3) := by decide +kernel
theorem d_X11_pensionNow_16 : decode prog_13_method_85_code 16 = .ok (.bipush 100, 2) := by decide +kernel
theorem d_X11_pensionNow_18 : decode prog_13_method_85_code 18 = .ok (.goto 17, 3) := by decide +kernel
theorem d_X11_pensionNow_21 : decode prog_13_method_85_code 21 = .ok (.ldc2_w 453, 3) := by decide +kernel
theorem d_X11_pensionNow_24 : decode prog_13_method_85_code 24 = .ok (.aload_n 0, 1) := by decide +kernel
theorem d_X11_pensionNow_25 : decode prog_13_method_85_code 25 = .ok (.getfield 432, 3) := by decide +kernel
theorem d_X11_pensionNow_28 : decode prog_13_method_85_code 28 = .ok (.lmul, 1) := by decide +kernel
theorem d_X11_pensionNow_29 : decode prog_13_method_85_code 29 = .ok (.aload_n 0, 1) := by decide +kernel
theorem d_X11_pensionNow_30 : decode prog_13_method_85_code 30 = .ok (.getfield 435, 3) := by decide +kernel
theorem d_X11_pensionNow_33 : decode prog_13_method_85_code 33 = .ok (.ldiv, 1) := by decide +kernel
theorem d_X11_pensionNow_34 : decode prog_13_method_85_code 34 = .ok (.l2i, 1) := by decide +kernel
theorem d_X11_pensionNow_35 : decode prog_13_method_85_code 35 = .ok (.ireturn, 1) := by decide +kernel
theorem d_X11_pension_0 : decode prog_13_method_86_code 0 = .ok (.aload_n 0, 1) := by decide +kernel
theorem d_X11_pension_1 : decode prog_13_method_86_code 1 = .ok (.iconst 0, 1) := by decide +kernel
theorem d_X11_pension_2 : decode prog_13_method_86_code 2 = .ok (.putfield 145, 3) := by decide +kernel
theorem d_X11_pension_5 : decode prog_13_method_86_code 5 = .ok (.aload_n 0, 1) := by decide +kernel
theorem d_X11_pension_6 : decode prog_13_method_86_code 6 = .ok (.invokevirtual 455, 3) := by decide +kernel
theorem d_X11_pension_9 : decode prog_13_method_86_code 9 = .ok (.ireturn, 1) := by decide +kernel
theorem d_X11_thousandths_0 : decode prog_13_method_87_code 0 = .ok (.aload_n 0, 1) := by decide +kernel
theorem d_X11_thousandths_1 : decode prog_13_method_87_code 1 = .ok (.iconst 0, 1) := by decide +kernel
theorem d_X11_thousandths_2 : decode prog_13_method_87_code 2 = .ok (.iconst 0, 1) := by decide +kernel
theorem d_X11_thousandths_3 : decode prog_13_method_87_code 3 = .ok (.iload_n 1, 1) := by decide +kernel
theorem d_X11_thousandths_4 : decode prog_13_method_87_code 4 = .ok (.invokevirtual 449, 3) := by decide +kernel
theorem d_X11_thousandths_7 : decode prog_13_method_87_code 7 = .ok (.ldc2_w 309, 3) := by decide +kernel
theorem d_X11_thousandths_10 : decode prog_13_method_87_code 10 = .ok (.aload_n 0, 1) := by decide +kernel
theorem d_X11_thousandths_11 : decode prog_13_method_87_code 11 = .ok (.getfield 432, 3) := by decide +kernel
theorem d_X11_thousandths_14 : decode prog_13_method_87_code 14 = .ok (.lmul, 1) := by decide +kernel
theorem d_X11_thousandths_15 : decode prog_13_method_87_code 15 = .ok (.aload_n 0, 1) := by decide +kernel
theorem d_X11_thousandths_16 : decode prog_13_method_87_code 16 = .ok (.getfield 435, 3) := by decide +kernel
theorem d_X11_thousandths_19 : decode prog_13_method_87_code 19 = .ok (.ldiv, 1) := by decide +kernel
theorem d_X11_thousandths_20 : decode prog_13_method_87_code 20 = .ok (.l2i, 1) := by decide +kernel
theorem d_X11_thousandths_21 : decode prog_13_method_87_code 21 = .ok (.ireturn, 1) := by decide +kernel
theorem d_X11_does_0 : decode prog_13_method_88_code 0 = .ok (.aload_n 0, 1) := by decide +kernel
theorem d_X11_does_1 : decode prog_13_method_88_code 1 = .ok (.iconst 0, 1) := by decide +kernel
theorem d_X11_does_2 : decode prog_13_method_88_code 2 = .ok (.putfield 145, 3) := by decide +kernel
theorem d_X11_does_5 : decode prog_13_method_88_code 5 = .ok (.aload_n 0, 1) := by decide +kernel
theorem d_X11_does_6 : decode prog_13_method_88_code 6 = .ok (.iload_n 1, 1) := by decide +kernel
theorem d_X11_does_7 : decode prog_13_method_88_code 7 = .ok (.invokevirtual 184, 3) := by decide +kernel
theorem d_X11_does_10 : decode prog_13_method_88_code 10 = .ok (.ifCond .eq 17, 3) := by decide +kernel
theorem d_X11_does_13 : decode prog_13_method_88_code 13 = .ok (.aload_n 0, 1) := by decide +kernel
theorem d_X11_does_14 : decode prog_13_method_88_code 14 = .ok (.iconst (-1), 1) := by decide +kernel
theorem d_X11_does_15 : decode prog_13_method_88_code 15 = .ok (.invokevirtual 458, 3) := by decide +kernel
theorem d_X11_does_18 : decode prog_13_method_88_code 18 = .ok (.aload_n 0, 1) := by decide +kernel
theorem d_X11_does_19 : decode prog_13_method_88_code 19 = .ok (.iload_n 1, 1) := by decide +kernel
theorem d_X11_does_20 : decode prog_13_method_88_code 20 = .ok (.invokevirtual 458, 3) := by decide +kernel
theorem d_X11_does_23 : decode prog_13_method_88_code 23 = .ok (.isub, 1) := by decide +kernel
theorem d_X11_does_24 : decode prog_13_method_88_code 24 = .ok (.goto 5, 3) := by decide +kernel
theorem d_X11_does_27 : decode prog_13_method_88_code 27 = .ok (.ldc 188, 2) := by decide +kernel
theorem d_X11_does_29 : decode prog_13_method_88_code 29 = .ok (.ireturn, 1) := by decide +kernel
theorem d_X11_compare_0 : decode prog_13_method_89_code 0 = .ok (.aload_n 0, 1) := by decide +kernel
theorem d_X11_compare_1 : decode prog_13_method_89_code 1 = .ok (.iconst 0, 1) := by decide +kernel
theorem d_X11_compare_2 : decode prog_13_method_89_code 2 = .ok (.putfield 145, 3) := by decide +kernel
theorem d_X11_compare_5 : decode prog_13_method_89_code 5 = .ok (.aload_n 0, 1) := by decide +kernel
theorem d_X11_compare_6 : decode prog_13_method_89_code 6 = .ok (.iload_n 1, 1) := by decide +kernel
theorem d_X11_compare_7 : decode prog_13_method_89_code 7 = .ok (.invokevirtual 370, 3) := by decide +kernel
theorem d_X11_compare_10 : decode prog_13_method_89_code 10 = .ok (.ifCond .ne 5, 3) := by decide +kernel
theorem d_X11_compare_13 : decode prog_13_method_89_code 13 = .ok (.iconst (-1), 1) := by decide +kernel
theorem d_X11_compare_14 : decode prog_13_method_89_code 14 = .ok (.ireturn, 1) := by decide +kernel
theorem d_X11_compare_15 : decode prog_13_method_89_code 15 = .ok (.aload_n 0, 1) := by decide +kernel
theorem d_X11_compare_16 : decode prog_13_method_89_code 16 = .ok (.getfield 13, 3) := by decide +kernel
theorem d_X11_compare_19 : decode prog_13_method_89_code 19 = .ok (.iconst 4, 1) := by decide +kernel
theorem d_X11_compare_20 : decode prog_13_method_89_code 20 = .ok (.iaload, 1) := by decide +kernel
theorem d_X11_compare_21 : decode prog_13_method_89_code 21 = .ok (.istore_n 2, 1) := by decide +kernel
theorem d_X11_compare_22 : decode prog_13_method_89_code 22 = .ok (.aload_n 0, 1) := by decide +kernel
theorem d_X11_compare_23 : decode prog_13_method_89_code 23 = .ok (.getfield 13, 3) := by decide +kernel
theorem d_X11_compare_26 : decode prog_13_method_89_code 26 = .ok (.iconst 4, 1) := by decide +kernel
theorem d_X11_compare_27 : decode prog_13_method_89_code 27 = .ok (.iload_n 1, 1) := by decide +kernel
theorem d_X11_compare_28 : decode prog_13_method_89_code 28 = .ok (.iastore, 1) := by decide +kernel
theorem d_X11_compare_29 : decode prog_13_method_89_code 29 = .ok (.aload_n 0, 1) := by decide +kernel
theorem d_X11_compare_30 : decode prog_13_method_89_code 30 = .ok (.iconst (-1), 1) := by decide +kernel
theorem d_X11_compare_31 : decode prog_13_method_89_code 31 = .ok (.invokevirtual 458, 3) := by decide +kernel
theorem d_X11_compare_34 : decode prog_13_method_89_code 34 = .ok (.istore_n 3, 1) := by decide +kernel
theorem d_X11_compare_35 : decode prog_13_method_89_code 35 = .ok (.aload_n 0, 1) := by decide +kernel
theorem d_X11_compare_36 : decode prog_13_method_89_code 36 = .ok (.getfield 13, 3) := by decide +kernel
theorem d_X11_compare_39 : decode prog_13_method_89_code 39 = .ok (.iconst 4, 1) := by decide +kernel
theorem d_X11_compare_40 : decode prog_13_method_89_code 40 = .ok (.iload_n 2, 1) := by decide +kernel
theorem d_X11_compare_41 : decode prog_13_method_89_code 41 = .ok (.iastore, 1) := by decide +kernel
theorem d_X11_compare_42 : decode prog_13_method_89_code 42 = .ok (.iload_n 3, 1) := by decide +kernel
theorem d_X11_compare_43 : decode prog_13_method_89_code 43 = .ok (.ireturn, 1) := by decide +kernel
theorem d_X11_leastBy_0 : decode prog_13_method_90_code 0 = .ok (.iload_n 2, 1) := by decide +kernel
theorem d_X11_leastBy_1 : decode prog_13_method_90_code 1 = .ok (.iload_n 3, 1) := by decide +kernel
theorem d_X11_leastBy_2 : decode prog_13_method_90_code 2 = .ok (.aload_n 0, 1) := by decide +kernel
theorem d_X11_leastBy_3 : decode prog_13_method_90_code 3 = .ok (.iload_n 1, 1) := by decide +kernel
theorem d_X11_leastBy_4 : decode prog_13_method_90_code 4 = .ok (.invokevirtual 195, 3) := by decide +kernel
theorem d_X11_leastBy_7 : decode prog_13_method_90_code 7 = .ok (.imul, 1) := by decide +kernel
theorem d_X11_leastBy_8 : decode prog_13_method_90_code 8 = .ok (.isub, 1) := by decide +kernel
theorem d_X11_leastBy_9 : decode prog_13_method_90_code 9 = .ok (.istore 4, 2) := by decide +kernel
theorem d_X11_leastBy_11 : decode prog_13_method_90_code 11 = .ok (.aload_n 0, 1) := by decide +kernel
theorem d_X11_leastBy_12 : decode prog_13_method_90_code 12 = .ok (.getfield 110, 3) := by decide +kernel
theorem d_X11_leastBy_15 : decode prog_13_method_90_code 15 = .ok (.bipush 100, 2) := by decide +kernel
theorem d_X11_leastBy_17 : decode prog_13_method_90_code 17 = .ok (.iload_n 1, 1) := by decide +kernel
theorem d_X11_leastBy_18 : decode prog_13_method_90_code 18 = .ok (.imul, 1) := by decide +kernel
theorem d_X11_leastBy_19 : decode prog_13_method_90_code 19 = .ok (.bipush 100, 2) := by decide +kernel
theorem d_X11_leastBy_21 : decode prog_13_method_90_code 21 = .ok (.iadd, 1) := by decide +kernel
theorem d_X11_leastBy_22 : decode prog_13_method_90_code 22 = .ok (.iload 4, 2) := by decide +kernel
theorem d_X11_leastBy_24 : decode prog_13_method_90_code 24 = .ok (.ifCond .ge 7, 3) := by decide +kernel
theorem d_X11_leastBy_27 : decode prog_13_method_90_code 27 = .ok (.iconst 0, 1) := by decide +kernel
theorem d_X11_leastBy_28 : decode prog_13_method_90_code 28 = .ok (.goto 5, 3) := by decide +kernel
theorem d_X11_leastBy_31 : decode prog_13_method_90_code 31 = .ok (.iload 4, 2) := by decide +kernel
theorem d_X11_leastBy_33 : decode prog_13_method_90_code 33 = .ok (.iadd, 1) := by decide +kernel
theorem d_X11_leastBy_34 : decode prog_13_method_90_code 34 = .ok (.iaload, 1) := by decide +kernel
theorem d_X11_leastBy_35 : decode prog_13_method_90_code 35 = .ok (.istore 5, 2) := by decide +kernel
theorem d_X11_leastBy_37 : decode prog_13_method_90_code 37 = .ok (.iload 5, 2) := by decide +kernel
theorem d_X11_leastBy_39 : decode prog_13_method_90_code 39 = .ok (.ldc_w 461, 3) := by decide +kernel
theorem d_X11_leastBy_42 : decode prog_13_method_90_code 42 = .ok (.if_icmp .ne 9, 3) := by decide +kernel
theorem d_X11_leastBy_45 : decode prog_13_method_90_code 45 = .ok (.ldc_w 461, 3) := by decide +kernel
theorem d_X11_leastBy_48 : decode prog_13_method_90_code 48 = .ok (.goto 17, 3) := by decide +kernel
theorem d_X11_leastBy_51 : decode prog_13_method_90_code 51 = .ok (.iload_n 3, 1) := by decide +kernel
theorem d_X11_leastBy_52 : decode prog_13_method_90_code 52 = .ok (.aload_n 0, 1) := by decide +kernel
theorem d_X11_leastBy_53 : decode prog_13_method_90_code 53 = .ok (.getfield 13, 3) := by decide +kernel
theorem d_X11_leastBy_56 : decode prog_13_method_90_code 56 = .ok (.bipush 8, 2) := by decide +kernel
theorem d_X11_leastBy_58 : decode prog_13_method_90_code 58 = .ok (.iload_n 1, 1) := by decide +kernel
theorem d_X11_leastBy_59 : decode prog_13_method_90_code 59 = .ok (.iadd, 1) := by decide +kernel
theorem d_X11_leastBy_60 : decode prog_13_method_90_code 60 = .ok (.iaload, 1) := by decide +kernel
theorem d_X11_leastBy_61 : decode prog_13_method_90_code 61 = .ok (.imul, 1) := by decide +kernel
theorem d_X11_leastBy_62 : decode prog_13_method_90_code 62 = .ok (.iload 5, 2) := by decide +kernel
theorem d_X11_leastBy_64 : decode prog_13_method_90_code 64 = .ok (.iadd, 1) := by decide +kernel
theorem d_X11_leastBy_65 : decode prog_13_method_90_code 65 = .ok (.ireturn, 1) := by decide +kernel
theorem d_X11_mostOf_0 : decode prog_13_method_91_code 0 = .ok (.aload_n 0, 1) := by decide +kernel
theorem d_X11_mostOf_1 : decode prog_13_method_91_code 1 = .ok (.getfield 13, 3) := by decide +kernel
theorem d_X11_mostOf_4 : decode prog_13_method_91_code 4 = .ok (.bipush 16, 2) := by decide +kernel
theorem d_X11_mostOf_6 : decode prog_13_method_91_code 6 = .ok (.iload_n 1, 1) := by decide +kernel
theorem d_X11_mostOf_7 : decode prog_13_method_91_code 7 = .ok (.iadd, 1) := by decide +kernel
theorem d_X11_mostOf_8 : decode prog_13_method_91_code 8 = .ok (.iaload, 1) := by decide +kernel
theorem d_X11_mostOf_9 : decode prog_13_method_91_code 9 = .ok (.iconst 1, 1) := by decide +kernel
theorem d_X11_mostOf_10 : decode prog_13_method_91_code 10 = .ok (.if_icmp .eq 11, 3) := by decide +kernel
theorem d_X11_mostOf_13 : decode prog_13_method_91_code 13 = .ok (.aload_n 0, 1) := by decide +kernel
theorem d_X11_mostOf_14 : decode prog_13_method_91_code 14 = .ok (.iload_n 1, 1) := by decide +kernel
theorem d_X11_mostOf_15 : decode prog_13_method_91_code 15 = .ok (.invokevirtual 198, 3) := by decide +kernel
theorem d_X11_mostOf_18 : decode prog_13_method_91_code 18 = .ok (.ifCond .eq 7, 3) := by decide +kernel
theorem d_X11_mostOf_21 : decode prog_13_method_91_code 21 = .ok (.iconst 0, 1) := by decide +kernel
theorem d_X11_mostOf_22 : decode prog_13_method_91_code 22 = .ok (.goto 5, 3) := by decide +kernel
theorem d_X11_mostOf_25 : decode prog_13_method_91_code 25 = .ok (.bipush 9, 2) := by decide +kernel
theorem d_X11_mostOf_27 : decode prog_13_method_91_code 27 = .ok (.ireturn, 1) := by decide +kernel
