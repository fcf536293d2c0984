theorem d_X8_readPlain_0 : decode prog_10_method_9_code 0 = .ok (.iconst 0, 1) := by decide +kernel
theorem d_X8_readPlain_1 : decode prog_10_method_9_code 1 = .ok (.istore_n 2, 1) := by decide +kernel
theorem d_X8_readPlain_2 : decode prog_10_method_9_code 2 = .ok (.iconst 0, 1) := by decide +kernel
theorem d_X8_readPlain_3 : decode prog_10_method_9_code 3 = .ok (.istore_n 3, 1) := by decide +kernel
theorem d_X8_readPlain_4 : decode prog_10_method_9_code 4 = .ok (.iload_n 3, 1) := by decide +kernel
theorem d_X8_readPlain_5 : decode prog_10_method_9_code 5 = .ok (.sipush 400, 3) := by decide +kernel
theorem d_X8_readPlain_8 : decode prog_10_method_9_code 8 = .ok (.if_icmp .ge 28, 3) := by decide +kernel
theorem d_X8_readPlain_11 : decode prog_10_method_9_code 11 = .ok (.aload_n 0, 1) := by decide +kernel
theorem d_X8_readPlain_12 : decode prog_10_method_9_code 12 = .ok (.ldc 126, 2) := by decide +kernel
theorem d_X8_readPlain_14 : decode prog_10_method_9_code 14 = .ok (.invokevirtual 78, 3) := by decide +kernel
theorem d_X8_readPlain_17 : decode prog_10_method_9_code 17 = .ok (.ifCond .eq 19, 3) := by decide +kernel
theorem d_X8_readPlain_20 : decode prog_10_method_9_code 20 = .ok (.iload_n 2, 1) := by decide +kernel
theorem d_X8_readPlain_21 : decode prog_10_method_9_code 21 = .ok (.ifCond .ne 7, 3) := by decide +kernel
theorem d_X8_readPlain_24 : decode prog_10_method_9_code 24 = .ok (.iconst 1, 1) := by decide +kernel
theorem d_X8_readPlain_25 : decode prog_10_method_9_code 25 = .ok (.goto 4, 3) := by decide +kernel
theorem d_X8_readPlain_28 : decode prog_10_method_9_code 28 = .ok (.iconst 0, 1) := by decide +kernel
theorem d_X8_readPlain_29 : decode prog_10_method_9_code 29 = .ok (.istore_n 2, 1) := by decide +kernel
theorem d_X8_readPlain_30 : decode prog_10_method_9_code 30 = .ok (.iinc 3 1, 3) := by decide +kernel
theorem d_X8_readPlain_33 : decode prog_10_method_9_code 33 = .ok (.goto (-29), 3) := by decide +kernel
theorem d_X8_readPlain_36 : decode prog_10_method_9_code 36 = .ok (.aload_n 0, 1) := by decide +kernel
theorem d_X8_readPlain_37 : decode prog_10_method_9_code 37 = .ok (.getfield 26, 3) := by decide +kernel
theorem d_X8_readPlain_40 : decode prog_10_method_9_code 40 = .ok (.bipush 40, 2) := by decide +kernel
theorem d_X8_readPlain_42 : decode prog_10_method_9_code 42 = .ok (.invokevirtual 95, 3) := by decide +kernel
theorem d_X8_readPlain_45 : decode prog_10_method_9_code 45 = .ok (.ifCond .eq 46, 3) := by decide +kernel
theorem d_X8_readPlain_48 : decode prog_10_method_9_code 48 = .ok (.iload_n 1, 1) := by decide +kernel
theorem d_X8_readPlain_49 : decode prog_10_method_9_code 49 = .ok (.bipush 8, 2) := by decide +kernel
theorem d_X8_readPlain_51 : decode prog_10_method_9_code 51 = .ok (.if_icmp .ge 35, 3) := by decide +kernel
theorem d_X8_readPlain_54 : decode prog_10_method_9_code 54 = .ok (.aload_n 0, 1) := by decide +kernel
theorem d_X8_readPlain_55 : decode prog_10_method_9_code 55 = .ok (.bipush 40, 2) := by decide +kernel
theorem d_X8_readPlain_57 : decode prog_10_method_9_code 57 = .ok (.invokevirtual 42, 3) := by decide +kernel
theorem d_X8_readPlain_60 : decode prog_10_method_9_code 60 = .ok (.ifCond .eq 26, 3) := by decide +kernel
theorem d_X8_readPlain_63 : decode prog_10_method_9_code 63 = .ok (.aload_n 0, 1) := by decide +kernel
theorem d_X8_readPlain_64 : decode prog_10_method_9_code 64 = .ok (.iload_n 1, 1) := by decide +kernel
theorem d_X8_readPlain_65 : decode prog_10_method_9_code 65 = .ok (.iconst 1, 1) := by decide +kernel
theorem d_X8_readPlain_66 : decode prog_10_method_9_code 66 = .ok (.iadd, 1) := by decide +kernel
theorem d_X8_readPlain_67 : decode prog_10_method_9_code 67 = .ok (.invokevirtual 89, 3) := by decide +kernel
theorem d_X8_readPlain_70 : decode prog_10_method_9_code 70 = .ok (.ifCond .eq 16, 3) := by decide +kernel
theorem d_X8_readPlain_73 : decode prog_10_method_9_code 73 = .ok (.aload_n 0, 1) := by decide +kernel
theorem d_X8_readPlain_74 : decode prog_10_method_9_code 74 = .ok (.bipush 41, 2) := by decide +kernel
theorem d_X8_readPlain_76 : decode prog_10_method_9_code 76 = .ok (.invokevirtual 42, 3) := by decide +kernel
theorem d_X8_readPlain_79 : decode prog_10_method_9_code 79 = .ok (.ifCond .eq 7, 3) := by decide +kernel
theorem d_X8_readPlain_82 : decode prog_10_method_9_code 82 = .ok (.iconst 1, 1) := by decide +kernel
theorem d_X8_readPlain_83 : decode prog_10_method_9_code 83 = .ok (.goto 4, 3) := by decide +kernel
theorem d_X8_readPlain_86 : decode prog_10_method_9_code 86 = .ok (.iconst 0, 1) := by decide +kernel
theorem d_X8_readPlain_87 : decode prog_10_method_9_code 87 = .ok (.istore_n 3, 1) := by decide +kernel
theorem d_X8_readPlain_88 : decode prog_10_method_9_code 88 = .ok (.goto 67, 3) := by decide +kernel
theorem d_X8_readPlain_91 : decode prog_10_method_9_code 91 = .ok (.aload_n 0, 1) := by decide +kernel
theorem d_X8_readPlain_92 : decode prog_10_method_9_code 92 = .ok (.iload_n 1, 1) := by decide +kernel
theorem d_X8_readPlain_93 : decode prog_10_method_9_code 93 = .ok (.invokevirtual 70, 3) := by decide +kernel
theorem d_X8_readPlain_96 : decode prog_10_method_9_code 96 = .ok (.istore_n 3, 1) := by decide +kernel
theorem d_X8_readPlain_97 : decode prog_10_method_9_code 97 = .ok (.aload_n 0, 1) := by decide +kernel
theorem d_X8_readPlain_98 : decode prog_10_method_9_code 98 = .ok (.getfield 26, 3) := by decide +kernel
theorem d_X8_readPlain_101 : decode prog_10_method_9_code 101 = .ok (.ldc 128, 2) := by decide +kernel
theorem d_X8_readPlain_103 : decode prog_10_method_9_code 103 = .ok (.invokevirtual 130, 3) := by decide +kernel
theorem d_X8_readPlain_106 : decode prog_10_method_9_code 106 = .ok (.istore 4, 2) := by decide +kernel
theorem d_X8_readPlain_108 : decode prog_10_method_9_code 108 = .ok (.iload_n 3, 1) := by decide +kernel
theorem d_X8_readPlain_109 : decode prog_10_method_9_code 109 = .ok (.ifCond .eq 13, 3) := by decide +kernel
theorem d_X8_readPlain_112 : decode prog_10_method_9_code 112 = .ok (.iload 4, 2) := by decide +kernel
theorem d_X8_readPlain_114 : decode prog_10_method_9_code 114 = .ok (.iconst (-1), 1) := by decide +kernel
theorem d_X8_readPlain_115 : decode prog_10_method_9_code 115 = .ok (.if_icmp .eq 7, 3) := by decide +kernel
theorem d_X8_readPlain_118 : decode prog_10_method_9_code 118 = .ok (.iconst 1, 1) := by decide +kernel
theorem d_X8_readPlain_119 : decode prog_10_method_9_code 119 = .ok (.goto 4, 3) := by decide +kernel
theorem d_X8_readPlain_122 : decode prog_10_method_9_code 122 = .ok (.iconst 0, 1) := by decide +kernel
theorem d_X8_readPlain_123 : decode prog_10_method_9_code 123 = .ok (.istore_n 3, 1) := by decide +kernel
theorem d_X8_readPlain_124 : decode prog_10_method_9_code 124 = .ok (.iload_n 3, 1) := by decide +kernel
theorem d_X8_readPlain_125 : decode prog_10_method_9_code 125 = .ok (.ifCond .eq 30, 3) := by decide +kernel
theorem d_X8_readPlain_128 : decode prog_10_method_9_code 128 = .ok (.aload_n 0, 1) := by decide +kernel
theorem d_X8_readPlain_129 : decode prog_10_method_9_code 129 = .ok (.getfield 26, 3) := by decide +kernel
theorem d_X8_readPlain_132 : decode prog_10_method_9_code 132 = .ok (.invokevirtual 63, 3) := by decide +kernel
theorem d_X8_readPlain_135 : decode prog_10_method_9_code 135 = .ok (.aload_n 0, 1) := by decide +kernel
theorem d_X8_readPlain_136 : decode prog_10_method_9_code 136 = .ok (.iload_n 1, 1) := by decide +kernel
theorem d_X8_readPlain_137 : decode prog_10_method_9_code 137 = .ok (.invokevirtual 70, 3) := by decide +kernel
theorem d_X8_readPlain_140 : decode prog_10_method_9_code 140 = .ok (.istore_n 3, 1) := by decide +kernel
theorem d_X8_readPlain_141 : decode prog_10_method_9_code 141 = .ok (.aload_n 0, 1) := by decide +kernel
theorem d_X8_readPlain_142 : decode prog_10_method_9_code 142 = .ok (.getfield 12, 3) := by decide +kernel
theorem d_X8_readPlain_145 : decode prog_10_method_9_code 145 = .ok (.bipush 10, 2) := by decide +kernel
theorem d_X8_readPlain_147 : decode prog_10_method_9_code 147 = .ok (.iload 4, 2) := by decide +kernel
theorem d_X8_readPlain_149 : decode prog_10_method_9_code 149 = .ok (.iadd, 1) := by decide +kernel
theorem d_X8_readPlain_150 : decode prog_10_method_9_code 150 = .ok (.iconst 0, 1) := by decide +kernel
theorem d_X8_readPlain_151 : decode prog_10_method_9_code 151 = .ok (.invokevirtual 114, 3) := by decide +kernel
theorem d_X8_readPlain_154 : decode prog_10_method_9_code 154 = .ok (.pop, 1) := by decide +kernel
theorem d_X8_readPlain_155 : decode prog_10_method_9_code 155 = .ok (.iload_n 2, 1) := by decide +kernel
theorem d_X8_readPlain_156 : decode prog_10_method_9_code 156 = .ok (.ifCond .eq 13, 3) := by decide +kernel
theorem d_X8_readPlain_159 : decode prog_10_method_9_code 159 = .ok (.aload_n 0, 1) := by decide +kernel
theorem d_X8_readPlain_160 : decode prog_10_method_9_code 160 = .ok (.getfield 12, 3) := by decide +kernel
theorem d_X8_readPlain_163 : decode prog_10_method_9_code 163 = .ok (.iconst 2, 1) := by decide +kernel
theorem d_X8_readPlain_164 : decode prog_10_method_9_code 164 = .ok (.iconst 0, 1) := by decide +kernel
theorem d_X8_readPlain_165 : decode prog_10_method_9_code 165 = .ok (.invokevirtual 114, 3) := by decide +kernel
theorem d_X8_readPlain_168 : decode prog_10_method_9_code 168 = .ok (.pop, 1) := by decide +kernel
theorem d_X8_readPlain_169 : decode prog_10_method_9_code 169 = .ok (.iload_n 3, 1) := by decide +kernel
theorem d_X8_readPlain_170 : decode prog_10_method_9_code 170 = .ok (.ireturn, 1) := by decide +kernel
theorem d_X8_readSum_0 : decode prog_10_method_10_code 0 = .ok (.aload_n 0, 1) := by decide +kernel
theorem d_X8_readSum_1 : decode prog_10_method_10_code 1 = .ok (.iload_n 1, 1) := by decide +kernel
theorem d_X8_readSum_2 : decode prog_10_method_10_code 2 = .ok (.invokevirtual 133, 3) := by decide +kernel
theorem d_X8_readSum_5 : decode prog_10_method_10_code 5 = .ok (.istore_n 2, 1) := by decide +kernel
theorem d_X8_readSum_6 : decode prog_10_method_10_code 6 = .ok (.aload_n 0, 1) := by decide +kernel
theorem d_X8_readSum_7 : decode prog_10_method_10_code 7 = .ok (.getfield 26, 3) := by decide +kernel
theorem d_X8_readSum_10 : decode prog_10_method_10_code 10 = .ok (.ldc 136, 2) := by decide +kernel
theorem d_X8_readSum_12 : decode prog_10_method_10_code 12 = .ok (.invokevirtual 130, 3) := by decide +kernel
theorem d_X8_readSum_15 : decode prog_10_method_10_code 15 = .ok (.istore_n 3, 1) := by decide +kernel
theorem d_X8_readSum_16 : decode prog_10_method_10_code 16 = .ok (.iconst 0, 1) := by decide +kernel
theorem d_X8_readSum_17 : decode prog_10_method_10_code 17 = .ok (.istore 4, 2) := by decide +kernel
theorem d_X8_readSum_19 : decode prog_10_method_10_code 19 = .ok (.iload 4, 2) := by decide +kernel
theorem d_X8_readSum_21 : decode prog_10_method_10_code 21 = .ok (.sipush 400, 3) := by decide +kernel
theorem d_X8_readSum_24 : decode prog_10_method_10_code 24 = .ok (.if_icmp .ge 53, 3) := by decide +kernel
theorem d_X8_readSum_27 : decode prog_10_method_10_code 27 = .ok (.iload_n 2, 1) := by decide +kernel
theorem d_X8_readSum_28 : decode prog_10_method_10_code 28 = .ok (.ifCond .eq 49, 3) := by decide +kernel
theorem d_X8_readSum_31 : decode prog_10_method_10_code 31 = .ok (.iload_n 3, 1) := by decide +kernel
theorem d_X8_readSum_32 : decode prog_10_method_10_code 32 = .ok (.iconst (-1), 1) := by decide +kernel
theorem d_X8_readSum_33 : decode prog_10_method_10_code 33 = .ok (.if_icmp .eq 44, 3) := by decide +kernel
theorem d_X8_readSum_36 : decode prog_10_method_10_code 36 = .ok (.aload_n 0, 1) := by decide +kernel
theorem d_X8_readSum_37 : decode prog_10_method_10_code 37 = .ok (.getfield 26, 3) := by decide +kernel
theorem d_X8_readSum_40 : decode prog_10_method_10_code 40 = .ok (.invokevirtual 63, 3) := by decide +kernel
theorem d_X8_readSum_43 : decode prog_10_method_10_code 43 = .ok (.aload_n 0, 1) := by decide +kernel
theorem d_X8_readSum_44 : decode prog_10_method_10_code 44 = .ok (.iload_n 1, 1) := by decide +kernel
theorem d_X8_readSum_45 : decode prog_10_method_10_code 45 = .ok (.invokevirtual 133, 3) := by decide +kernel
theorem d_X8_readSum_48 : decode prog_10_method_10_code 48 = .ok (.istore_n 2, 1) := by decide +kernel
theorem d_X8_readSum_49 : decode prog_10_method_10_code 49 = .ok (.aload_n 0, 1) := by decide +kernel
theorem d_X8_readSum_50 : decode prog_10_method_10_code 50 = .ok (.getfield 12, 3) := by decide +kernel
theorem d_X8_readSum_53 : decode prog_10_method_10_code 53 = .ok (.iconst 5, 1) := by decide +kernel
theorem d_X8_readSum_54 : decode prog_10_method_10_code 54 = .ok (.iload_n 3, 1) := by decide +kernel
theorem d_X8_readSum_55 : decode prog_10_method_10_code 55 = .ok (.iadd, 1) := by decide +kernel
theorem d_X8_readSum_56 : decode prog_10_method_10_code 56 = .ok (.iconst 0, 1) := by decide +kernel
theorem d_X8_readSum_57 : decode prog_10_method_10_code 57 = .ok (.invokevirtual 114, 3) := by decide +kernel
theorem d_X8_readSum_60 : decode prog_10_method_10_code 60 = .ok (.pop, 1) := by decide +kernel
theorem d_X8_readSum_61 : decode prog_10_method_10_code 61 = .ok (.aload_n 0, 1) := by decide +kernel
theorem d_X8_readSum_62 : decode prog_10_method_10_code 62 = .ok (.getfield 26, 3) := by decide +kernel
theorem d_X8_readSum_65 : decode prog_10_method_10_code 65 = .ok (.ldc 136, 2) := by decide +kernel
theorem d_X8_readSum_67 : decode prog_10_method_10_code 67 = .ok (.invokevirtual 130, 3) := by decide +kernel
theorem d_X8_readSum_70 : decode prog_10_method_10_code 70 = .ok (.istore_n 3, 1) := by decide +kernel
theorem d_X8_readSum_71 : decode prog_10_method_10_code 71 = .ok (.iinc 4 1, 3) := by decide +kernel
theorem d_X8_readSum_74 : decode prog_10_method_10_code 74 = .ok (.goto (-55), 3) := by decide +kernel
theorem d_X8_readSum_77 : decode prog_10_method_10_code 77 = .ok (.iload_n 2, 1) := by decide +kernel
theorem d_X8_readSum_78 : decode prog_10_method_10_code 78 = .ok (.ireturn, 1) := by decide +kernel
theorem d_X8_readTerm_0 : decode prog_10_method_11_code 0 = .ok (.aload_n 0, 1) := by decide +kernel
theorem d_X8_readTerm_1 : decode prog_10_method_11_code 1 = .ok (.iload_n 1, 1) := by decide +kernel
theorem d_X8_readTerm_2 : decode prog_10_method_11_code 2 = .ok (.invokevirtual 138, 3) := by decide +kernel
theorem d_X8_readTerm_5 : decode prog_10_method_11_code 5 = .ok (.istore_n 2, 1) := by decide +kernel
theorem d_X8_readTerm_6 : decode prog_10_method_11_code 6 = .ok (.aload_n 0, 1) := by decide +kernel
theorem d_X8_readTerm_7 : decode prog_10_method_11_code 7 = .ok (.getfield 26, 3) := by decide +kernel
theorem d_X8_readTerm_10 : decode prog_10_method_11_code 10 = .ok (.ldc 141, 2) := by decide +kernel
theorem d_X8_readTerm_12 : decode prog_10_method_11_code 12 = .ok (.invokevirtual 130, 3) := by decide +kernel
theorem d_X8_readTerm_15 : decode prog_10_method_11_code 15 = .ok (.istore_n 3, 1) := by decide +kernel
theorem d_X8_readTerm_16 : decode prog_10_method_11_code 16 = .ok (.iconst 0, 1) := by decide +kernel
theorem d_X8_readTerm_17 : decode prog_10_method_11_code 17 = .ok (.istore 4, 2) := by decide +kernel
theorem d_X8_readTerm_19 : decode prog_10_method_11_code 19 = .ok (.iload 4, 2) := by decide +kernel
theorem d_X8_readTerm_21 : decode prog_10_method_11_code 21 = .ok (.sipush 400, 3) := by decide +kernel
theorem d_X8_readTerm_24 : decode prog_10_method_11_code 24 = .ok (.if_icmp .ge 54, 3) := by decide +kernel
theorem d_X8_readTerm_27 : decode prog_10_method_11_code 27 = .ok (.iload_n 2, 1) := by decide +kernel
theorem d_X8_readTerm_28 : decode prog_10_method_11_code 28 = .ok (.ifCond .eq 50, 3) := by decide +kernel
theorem d_X8_readTerm_31 : decode prog_10_method_11_code 31 = .ok (.iload_n 3, 1) := by decide +kernel
theorem d_X8_readTerm_32 : decode prog_10_method_11_code 32 = .ok (.iconst (-1), 1) := by decide +kernel
theorem d_X8_readTerm_33 : decode prog_10_method_11_code 33 = .ok (.if_icmp .eq 45, 3) := by decide +kernel
theorem d_X8_readTerm_36 : decode prog_10_method_11_code 36 = .ok (.aload_n 0, 1) := by decide +kernel
theorem d_X8_readTerm_37 : decode prog_10_method_11_code 37 = .ok (.getfield 26, 3) := by decide +kernel
theorem d_X8_readTerm_40 : decode prog_10_method_11_code 40 = .ok (.invokevirtual 63, 3) := by decide +kernel
theorem d_X8_readTerm_43 : decode prog_10_method_11_code 43 = .ok (.aload_n 0, 1) := by decide +kernel
theorem d_X8_readTerm_44 : decode prog_10_method_11_code 44 = .ok (.iload_n 1, 1) := by decide +kernel
theorem d_X8_readTerm_45 : decode prog_10_method_11_code 45 = .ok (.invokevirtual 138, 3) := by decide +kernel
theorem d_X8_readTerm_48 : decode prog_10_method_11_code 48 = .ok (.istore_n 2, 1) := by decide +kernel
theorem d_X8_readTerm_49 : decode prog_10_method_11_code 49 = .ok (.aload_n 0, 1) := by decide +kernel
theorem d_X8_readTerm_50 : decode prog_10_method_11_code 50 = .ok (.getfield 12, 3) := by decide +kernel
theorem d_X8_readTerm_53 : decode prog_10_method_11_code 53 = .ok (.bipush 7, 2) := by decide +kernel
theorem d_X8_readTerm_55 : decode prog_10_method_11_code 55 = .ok (.iload_n 3, 1) := by decide +kernel
theorem d_X8_readTerm_56 : decode prog_10_method_11_code 56 = .ok (.iadd, 1) := by decide +kernel
theorem d_X8_readTerm_57 : decode prog_10_method_11_code 57 = .ok (.iconst 0, 1) := by decide +kernel
theorem d_X8_readTerm_58 : decode prog_10_method_11_code 58 = .ok (.invokevirtual 114, 3) := by decide +kernel
theorem d_X8_readTerm_61 : decode prog_10_method_11_code 61 = .ok (.pop, 1) := by decide +kernel
theorem d_X8_readTerm_62 : decode prog_10_method_11_code 62 = .ok (.aload_n 0, 1) := by decide +kernel
theorem d_X8_readTerm_63 : decode prog_10_method_11_code 63 = .ok (.getfield 26, 3) := by decide +kernel
theorem d_X8_readTerm_66 : decode prog_10_method_11_code 66 = .ok (.ldc 141, 2) := by decide +kernel
theorem d_X8_readTerm_68 : decode prog_10_method_11_code 68 = .ok (.invokevirtual 130, 3) := by decide +kernel
theorem d_X8_readTerm_71 : decode prog_10_method_11_code 71 = .ok (.istore_n 3, 1) := by decide +kernel
theorem d_X8_readTerm_72 : decode prog_10_method_11_code 72 = .ok (.iinc 4 1, 3) := by decide +kernel
theorem d_X8_readTerm_75 : decode prog_10_method_11_code 75 = .ok (.goto (-56), 3) := by decide +kernel
theorem d_X8_readTerm_78 : decode prog_10_method_11_code 78 = .ok (.iload_n 2, 1) := by decide +kernel
theorem d_X8_readTerm_79 : decode prog_10_method_11_code 79 = .ok (.ireturn, 1) := by decide +kernel
theorem d_X8_readPart_0 : decode prog_10_method_12_code 0 = .ok (.aload_n 0, 1) := by decide +kernel
theorem d_X8_readPart_1 : decode prog_10_method_12_code 1 = .ok (.getfield 26, 3) := by decide +kernel
theorem d_X8_readPart_4 : decode prog_10_method_12_code 4 = .ok (.bipush 91, 2) := by decide +kernel
theorem d_X8_readPart_6 : decode prog_10_method_12_code 6 = .ok (.invokevirtual 95, 3) := by decide +kernel
theorem d_X8_readPart_9 : decode prog_10_method_12_code 9 = .ok (.ifCond .eq 43, 3) := by decide +kernel
theorem d_X8_readPart_12 : decode prog_10_method_12_code 12 = .ok (.iload_n 1, 1) := by decide +kernel
theorem d_X8_readPart_13 : decode prog_10_method_12_code 13 = .ok (.bipush 8, 2) := by decide +kernel
theorem d_X8_readPart_15 : decode prog_10_method_12_code 15 = .ok (.if_icmp .ge 35, 3) := by decide +kernel
theorem d_X8_readPart_18 : decode prog_10_method_12_code 18 = .ok (.aload_n 0, 1) := by decide +kernel
theorem d_X8_readPart_19 : decode prog_10_method_12_code 19 = .ok (.bipush 91, 2) := by decide +kernel
theorem d_X8_readPart_21 : decode prog_10_method_12_code 21 = .ok (.invokevirtual 42, 3) := by decide +kernel
theorem d_X8_readPart_24 : decode prog_10_method_12_code 24 = .ok (.ifCond .eq 26, 3) := by decide +kernel
theorem d_X8_readPart_27 : decode prog_10_method_12_code 27 = .ok (.aload_n 0, 1) := by decide +kernel
theorem d_X8_readPart_28 : decode prog_10_method_12_code 28 = .ok (.iload_n 1, 1) := by decide +kernel
theorem d_X8_readPart_29 : decode prog_10_method_12_code 29 = .ok (.iconst 1, 1) := by decide +kernel
theorem d_X8_readPart_30 : decode prog_10_method_12_code 30 = .ok (.iadd, 1) := by decide +kernel
theorem d_X8_readPart_31 : decode prog_10_method_12_code 31 = .ok (.invokevirtual 70, 3) := by decide +kernel
theorem d_X8_readPart_34 : decode prog_10_method_12_code 34 = .ok (.ifCond .eq 16, 3) := by decide +kernel
theorem d_X8_readPart_37 : decode prog_10_method_12_code 37 = .ok (.aload_n 0, 1) := by decide +kernel
theorem d_X8_readPart_38 : decode prog_10_method_12_code 38 = .ok (.bipush 93, 2) := by decide +kernel
theorem d_X8_readPart_40 : decode prog_10_method_12_code 40 = .ok (.invokevirtual 42, 3) := by decide +kernel
theorem d_X8_readPart_43 : decode prog_10_method_12_code 43 = .ok (.ifCond .eq 7, 3) := by decide +kernel
theorem d_X8_readPart_46 : decode prog_10_method_12_code 46 = .ok (.iconst 1, 1) := by decide +kernel
theorem d_X8_readPart_47 : decode prog_10_method_12_code 47 = .ok (.goto 4, 3) := by decide +kernel
theorem d_X8_readPart_50 : decode prog_10_method_12_code 50 = .ok (.iconst 0, 1) := by decide +kernel
theorem d_X8_readPart_51 : decode prog_10_method_12_code 51 = .ok (.ireturn, 1) := by decide +kernel
theorem d_X8_readPart_52 : decode prog_10_method_12_code 52 = .ok (.aload_n 0, 1) := by decide +kernel
theorem d_X8_readPart_53 : decode prog_10_method_12_code 53 = .ok (.getfield 22, 3) := by decide +kernel
theorem d_X8_readPart_56 : decode prog_10_method_12_code 56 = .ok (.bipush 50, 2) := by decide +kernel
theorem d_X8_readPart_58 : decode prog_10_method_12_code 58 = .ok (.if_icmp .lt 5, 3) := by decide +kernel
theorem d_X8_readPart_61 : decode prog_10_method_12_code 61 = .ok (.iconst 0, 1) := by decide +kernel
theorem d_X8_readPart_62 : decode prog_10_method_12_code 62 = .ok (.ireturn, 1) := by decide +kernel
theorem d_X8_readPart_63 : decode prog_10_method_12_code 63 = .ok (.aload_n 0, 1) := by decide +kernel
theorem d_X8_readPart_64 : decode prog_10_method_12_code 64 = .ok (.dup, 1) := by decide +kernel
theorem d_X8_readPart_65 : decode prog_10_method_12_code 65 = .ok (.getfield 22, 3) := by decide +kernel
theorem d_X8_readPart_68 : decode prog_10_method_12_code 68 = .ok (.iconst 1, 1) := by decide +kernel
theorem d_X8_readPart_69 : decode prog_10_method_12_code 69 = .ok (.iadd, 1) := by decide +kernel
theorem d_X8_readPart_70 : decode prog_10_method_12_code 70 = .ok (.putfield 22, 3) := by decide +kernel
theorem d_X8_readPart_73 : decode prog_10_method_12_code 73 = .ok (.aload_n 0, 1) := by decide +kernel
theorem d_X8_readPart_74 : decode prog_10_method_12_code 74 = .ok (.getfield 26, 3) := by decide +kernel
theorem d_X8_readPart_77 : decode prog_10_method_12_code 77 = .ok (.invokevirtual 143, 3) := by decide +kernel
theorem d_X8_readPart_80 : decode prog_10_method_12_code 80 = .ok (.ifCond .eq 10, 3) := by decide +kernel
theorem d_X8_readPart_83 : decode prog_10_method_12_code 83 = .ok (.aload_n 0, 1) := by decide +kernel
theorem d_X8_readPart_84 : decode prog_10_method_12_code 84 = .ok (.invokevirtual 146, 3) := by decide +kernel
theorem d_X8_readPart_87 : decode prog_10_method_12_code 87 = .ok (.goto 7, 3) := by decide +kernel
theorem d_X8_readPart_90 : decode prog_10_method_12_code 90 = .ok (.aload_n 0, 1) := by decide +kernel
theorem d_X8_readPart_91 : decode prog_10_method_12_code 91 = .ok (.invokevirtual 149, 3) := by decide +kernel
theorem d_X8_readPart_94 : decode prog_10_method_12_code 94 = .ok (.ireturn, 1) := by decide +kernel
theorem d_X8_readNumber_0 : decode prog_10_method_13_code 0 = .ok (.aload_n 0, 1) := by decide +kernel
theorem d_X8_readNumber_1 : decode prog_10_method_13_code 1 = .ok (.getfield 26, 3) := by decide +kernel
theorem d_X8_readNumber_4 : decode prog_10_method_13_code 4 = .ok (.invokevirtual 98, 3) := by decide +kernel
theorem d_X8_readNumber_7 : decode prog_10_method_13_code 7 = .ok (.istore_n 1, 1) := by decide +kernel
theorem d_X8_readNumber_8 : decode prog_10_method_13_code 8 = .ok (.iload_n 1, 1) := by decide +kernel
theorem d_X8_readNumber_9 : decode prog_10_method_13_code 9 = .ok (.sipush 1000, 3) := by decide +kernel
theorem d_X8_readNumber_12 : decode prog_10_method_13_code 12 = .ok (.if_icmp .le 5, 3) := by decide +kernel
theorem d_X8_readNumber_15 : decode prog_10_method_13_code 15 = .ok (.iconst 0, 1) := by decide +kernel
theorem d_X8_readNumber_16 : decode prog_10_method_13_code 16 = .ok (.ireturn, 1) := by decide +kernel
theorem d_X8_readNumber_17 : decode prog_10_method_13_code 17 = .ok (.aload_n 0, 1) := by decide +kernel
theorem d_X8_readNumber_18 : decode prog_10_method_13_code 18 = .ok (.getfield 26, 3) := by decide +kernel
theorem d_X8_readNumber_21 : decode prog_10_method_13_code 21 = .ok (.invokevirtual 63, 3) := by decide +kernel
theorem d_X8_readNumber_24 : decode prog_10_method_13_code 24 = .ok (.aload_n 0, 1) := by decide +kernel
theorem d_X8_readNumber_25 : decode prog_10_method_13_code 25 = .ok (.getfield 12, 3) := by decide +kernel
theorem d_X8_readNumber_28 : decode prog_10_method_13_code 28 = .ok (.iconst 0, 1) := by decide +kernel
theorem d_X8_readNumber_29 : decode prog_10_method_13_code 29 = .ok (.iload_n 1, 1) := by decide +kernel
theorem d_X8_readNumber_30 : decode prog_10_method_13_code 30 = .ok (.invokevirtual 114, 3) := by decide +kernel
theorem d_X8_readNumber_33 : decode prog_10_method_13_code 33 = .ok (.pop, 1) := by decide +kernel
theorem d_X8_readNumber_34 : decode prog_10_method_13_code 34 = .ok (.iconst 1, 1) := by decide +kernel
theorem d_X8_readNumber_35 : decode prog_10_method_13_code 35 = .ok (.ireturn, 1) := by decide +kernel
theorem d_X8_readWord_0 : decode prog_10_method_14_code 0 = .ok (.aload_n 0, 1) := by decide +kernel
theorem d_X8_readWord_1 : decode prog_10_method_14_code 1 = .ok (.getfield 26, 3) := by decide +kernel
theorem d_X8_readWord_4 : decode prog_10_method_14_code 4 = .ok (.aload_n 0, 1) := by decide +kernel
theorem d_X8_readWord_5 : decode prog_10_method_14_code 5 = .ok (.getfield 18, 3) := by decide +kernel
theorem d_X8_readWord_8 : decode prog_10_method_14_code 8 = .ok (.ifCond .eq 8, 3) := by decide +kernel
theorem d_X8_readWord_11 : decode prog_10_method_14_code 11 = .ok (.ldc 152, 2) := by decide +kernel
theorem d_X8_readWord_13 : decode prog_10_method_14_code 13 = .ok (.goto 5, 3) := by decide +kernel
theorem d_X8_readWord_16 : decode prog_10_method_14_code 16 = .ok (.ldc 154, 2) := by decide +kernel
theorem d_X8_readWord_18 : decode prog_10_method_14_code 18 = .ok (.invokevirtual 59, 3) := by decide +kernel
theorem d_X8_readWord_21 : decode prog_10_method_14_code 21 = .ok (.istore_n 1, 1) := by decide +kernel
theorem d_X8_readWord_22 : decode prog_10_method_14_code 22 = .ok (.iload_n 1, 1) := by decide +kernel
theorem d_X8_readWord_23 : decode prog_10_method_14_code 23 = .ok (.iconst (-1), 1) := by decide +kernel
theorem d_X8_readWord_24 : decode prog_10_method_14_code 24 = .ok (.if_icmp .ne 5, 3) := by decide +kernel
theorem d_X8_readWord_27 : decode prog_10_method_14_code 27 = .ok (.iconst 0, 1) := by decide +kernel
theorem d_X8_readWord_28 : decode prog_10_method_14_code 28 = .ok (.ireturn, 1) := by decide +kernel
theorem d_X8_readWord_29 : decode prog_10_method_14_code 29 = .ok (.aload_n 0, 1) := by decide +kernel
theorem d_X8_readWord_30 : decode prog_10_method_14_code 30 = .ok (.getfield 26, 3) := by decide +kernel
theorem d_X8_readWord_33 : decode prog_10_method_14_code 33 = .ok (.invokevirtual 63, 3) := by decide +kernel
theorem d_X8_readWord_36 : decode prog_10_method_14_code 36 = .ok (.aload_n 0, 1) := by decide +kernel
theorem d_X8_readWord_37 : decode prog_10_method_14_code 37 = .ok (.getfield 18, 3) := by decide +kernel
theorem d_X8_readWord_40 : decode prog_10_method_14_code 40 = .ok (.ifCond .eq 49, 3) := by decide +kernel
theorem d_X8_readWord_43 : decode prog_10_method_14_code 43 = .ok (.iload_n 1, 1) := by decide +kernel
theorem d_X8_readWord_44 : decode prog_10_method_14_code 44 = .ok (.iconst 5, 1) := by decide +kernel
theorem d_X8_readWord_45 : decode prog_10_method_14_code 45 = .ok (.if_icmp .lt 44, 3) := by decide +kernel
theorem d_X8_readWord_48 : decode prog_10_method_14_code 48 = .ok (.aload_n 0, 1) := by decide +kernel
theorem d_X8_readWord_49 : decode prog_10_method_14_code 49 = .ok (.getfield 26, 3) := by decide +kernel
theorem d_X8_readWord_52 : decode prog_10_method_14_code 52 = .ok (.invokevirtual 98, 3) := by decide +kernel
theorem d_X8_readWord_55 : decode prog_10_method_14_code 55 = .ok (.istore_n 2, 1) := by decide +kernel
theorem d_X8_readWord_56 : decode prog_10_method_14_code 56 = .ok (.iload_n 2, 1) := by decide +kernel
theorem d_X8_readWord_57 : decode prog_10_method_14_code 57 = .ok (.iconst 0, 1) := by decide +kernel
theorem d_X8_readWord_58 : decode prog_10_method_14_code 58 = .ok (.bipush 7, 2) := by decide +kernel
theorem d_X8_readWord_60 : decode prog_10_method_14_code 60 = .ok (.invokestatic 102, 3) := by decide +kernel
theorem d_X8_readWord_63 : decode prog_10_method_14_code 63 = .ok (.ifCond .ne 5, 3) := by decide +kernel
theorem d_X8_readWord_66 : decode prog_10_method_14_code 66 = .ok (.iconst 0, 1) := by decide +kernel
theorem d_X8_readWord_67 : decode prog_10_method_14_code 67 = .ok (.ireturn, 1) := by decide +kernel
theorem d_X8_readWord_68 : decode prog_10_method_14_code 68 = .ok (.aload_n 0, 1) := by decide +kernel
theorem d_X8_readWord_69 : decode prog_10_method_14_code 69 = .ok (.getfield 26, 3) := by decide +kernel
theorem d_X8_readWord_72 : decode prog_10_method_14_code 72 = .ok (.invokevirtual 63, 3) := by decide +kernel
theorem d_X8_readWord_75 : decode prog_10_method_14_code 75 = .ok (.iload_n 1, 1) := by decide +kernel
theorem d_X8_readWord_76 : decode prog_10_method_14_code 76 = .ok (.iconst 5, 1) := by decide +kernel
theorem d_X8_readWord_77 : decode prog_10_method_14_code 77 = .ok (.if_icmp .ne 7, 3) := by decide +kernel
theorem d_X8_readWord_80 : decode prog_10_method_14_code 80 = .ok (.iconst 5, 1) := by decide +kernel
theorem d_X8_readWord_81 : decode prog_10_method_14_code 81 = .ok (.goto 5, 3) := by decide +kernel
theorem d_X8_readWord_84 : decode prog_10_method_14_code 84 = .ok (.bipush 13, 2) := by decide +kernel
theorem d_X8_readWord_86 : decode prog_10_method_14_code 86 = .ok (.iload_n 2, 1) := by decide +kernel
theorem d_X8_readWord_87 : decode prog_10_method_14_code 87 = .ok (.iadd, 1) := by decide +kernel
theorem d_X8_readWord_88 : decode prog_10_method_14_code 88 = .ok (.istore_n 1, 1) := by decide +kernel
theorem d_X8_readWord_89 : decode prog_10_method_14_code 89 = .ok (.aload_n 0, 1) := by decide +kernel
theorem d_X8_readWord_90 : decode prog_10_method_14_code 90 = .ok (.getfield 12, 3) := by decide +kernel
theorem d_X8_readWord_93 : decode prog_10_method_14_code 93 = .ok (.dup, 1) := by decide +kernel
theorem d_X8_readWord_94 : decode prog_10_method_14_code 94 = .ok (.getfield 156, 3) := by decide +kernel
theorem d_X8_readWord_97 : decode prog_10_method_14_code 97 = .ok (.aload_n 0, 1) := by decide +kernel
theorem d_X8_readWord_98 : decode prog_10_method_14_code 98 = .ok (.getfield 18, 3) := by decide +kernel
theorem d_X8_readWord_101 : decode prog_10_method_14_code 101 = .ok (.ifCond .eq 12, 3) := by decide +kernel
theorem d_X8_readWord_104 : decode prog_10_method_14_code 104 = .ok (.iload_n 1, 1) := by decide +kernel
theorem d_X8_readWord_105 : decode prog_10_method_14_code 105 = .ok (.iconst 3, 1) := by decide +kernel
theorem d_X8_readWord_106 : decode prog_10_method_14_code 106 = .ok (.if_icmp .ne 7, 3) := by decide +kernel
theorem d_X8_readWord_109 : decode prog_10_method_14_code 109 = .ok (.iconst 1, 1) := by decide +kernel
theorem d_X8_readWord_110 : decode prog_10_method_14_code 110 = .ok (.goto 4, 3) := by decide +kernel
theorem d_X8_readWord_113 : decode prog_10_method_14_code 113 = .ok (.iconst 0, 1) := by decide +kernel
theorem d_X8_readWord_114 : decode prog_10_method_14_code 114 = .ok (.ior, 1) := by decide +kernel
theorem d_X8_readWord_115 : decode prog_10_method_14_code 115 = .ok (.putfield 156, 3) := by decide +kernel
theorem d_X8_readWord_118 : decode prog_10_method_14_code 118 = .ok (.aload_n 0, 1) := by decide +kernel
theorem d_X8_readWord_119 : decode prog_10_method_14_code 119 = .ok (.getfield 12, 3) := by decide +kernel
theorem d_X8_readWord_122 : decode prog_10_method_14_code 122 = .ok (.iconst 1, 1) := by decide +kernel
theorem d_X8_readWord_123 : decode prog_10_method_14_code 123 = .ok (.iload_n 1, 1) := by decide +kernel
theorem d_X8_readWord_124 : decode prog_10_method_14_code 124 = .ok (.invokevirtual 114, 3) := by decide +kernel
theorem d_X8_readWord_127 : decode prog_10_method_14_code 127 = .ok (.pop, 1) := by decide +kernel
theorem d_X8_readWord_128 : decode prog_10_method_14_code 128 = .ok (.iconst 1, 1) := by decide +kernel
theorem d_X8_readWord_129 : decode prog_10_method_14_code 129 = .ok (.ireturn, 1) := by decide +kernel
theorem d_X9_init_0 : decode prog_11_method_1_code 0 = .ok (.aload_n 0, 1) := by decide +kernel
theorem d_X9_init_1 : decode prog_11_method_1_code 1 = .ok (.invokespecial 3, 3) := by decide +kernel
theorem d_X9_init_4 : decode prog_11_method_1_code 4 = .ok (.aload_n 0, 1) := by decide +kernel
theorem d_X9_init_5 : decode prog_11_method_1_code 5 = .ok (.sipush 400, 3) := by decide +kernel
theorem d_X9_init_8 : decode prog_11_method_1_code 8 = .ok (.newarray .int, 2) := by decide +kernel
theorem d_X9_init_10 : decode prog_11_method_1_code 10 = .ok (.putfield 9, 3) := by decide +kernel
theorem d_X9_init_13 : decode prog_11_method_1_code 13 = .ok (.aload_n 0, 1) := by decide +kernel
theorem d_X9_init_14 : decode prog_11_method_1_code 14 = .ok (.iconst 0, 1) := by decide +kernel
theorem d_X9_init_15 : decode prog_11_method_1_code 15 = .ok (.putfield 15, 3) := by decide +kernel
theorem d_X9_init_18 : decode prog_11_method_1_code 18 = .ok (.aload_n 0, 1) := by decide +kernel
theorem d_X9_init_19 : decode prog_11_method_1_code 19 = .ok (.iconst 0, 1) := by decide +kernel
theorem d_X9_init_20 : decode prog_11_method_1_code 20 = .ok (.putfield 19, 3) := by decide +kernel
theorem d_X9_init_23 : decode prog_11_method_1_code 23 = .ok (.aload_n 0, 1) := by decide +kernel
theorem d_X9_init_24 : decode prog_11_method_1_code 24 = .ok (.iconst 0, 1) := by decide +kernel
theorem d_X9_init_25 : decode prog_11_method_1_code 25 = .ok (.putfield 22, 3) := by decide +kernel
theorem d_X9_init_28 : decode prog_11_method_1_code 28 = .ok (.aload_n 0, 1) := by decide +kernel
theorem d_X9_init_29 : decode prog_11_method_1_code 29 = .ok (.iconst 0, 1) := by decide +kernel
theorem d_X9_init_30 : decode prog_11_method_1_code 30 = .ok (.putfield 25, 3) := by decide +kernel
theorem d_X9_init_33 : decode prog_11_method_1_code 33 = .ok (.return_, 1) := by decide +kernel
theorem d_X9_append_0 : decode prog_11_method_2_code 0 = .ok (.bipush 24, 2) := by decide +kernel
theorem d_X9_append_2 : decode prog_11_method_2_code 2 = .ok (.istore_n 2, 1) := by decide +kernel
theorem d_X9_append_3 : decode prog_11_method_2_code 3 = .ok (.iload_n 2, 1) := by decide +kernel
theorem d_X9_append_4 : decode prog_11_method_2_code 4 = .ok (.ifCond .lt 45, 3) := by decide +kernel
theorem d_X9_append_7 : decode prog_11_method_2_code 7 = .ok (.aload_n 0, 1) := by decide +kernel
theorem d_X9_append_8 : decode prog_11_method_2_code 8 = .ok (.getfield 15, 3) := by decide +kernel
theorem d_X9_append_11 : decode prog_11_method_2_code 11 = .ok (.sipush 400, 3) := by decide +kernel
theorem d_X9_append_14 : decode prog_11_method_2_code 14 = .ok (.if_icmp .ge 35, 3) := by decide +kernel
theorem d_X9_append_17 : decode prog_11_method_2_code 17 = .ok (.aload_n 0, 1) := by decide +kernel
theorem d_X9_append_18 : decode prog_11_method_2_code 18 = .ok (.getfield 9, 3) := by decide +kernel
theorem d_X9_append_21 : decode prog_11_method_2_code 21 = .ok (.aload_n 0, 1) := by decide +kernel
theorem d_X9_append_22 : decode prog_11_method_2_code 22 = .ok (.getfield 15, 3) := by decide +kernel
theorem d_X9_append_25 : decode prog_11_method_2_code 25 = .ok (.iload_n 1, 1) := by decide +kernel
theorem d_X9_append_26 : decode prog_11_method_2_code 26 = .ok (.iload_n 2, 1) := by decide +kernel
theorem d_X9_append_27 : decode prog_11_method_2_code 27 = .ok (.iushr, 1) := by decide +kernel
theorem d_X9_append_28 : decode prog_11_method_2_code 28 = .ok (.sipush 255, 3) := by decide +kernel
theorem d_X9_append_31 : decode prog_11_method_2_code 31 = .ok (.iand, 1) := by decide +kernel
theorem d_X9_append_32 : decode prog_11_method_2_code 32 = .ok (.iastore, 1) := by decide +kernel
theorem d_X9_append_33 : decode prog_11_method_2_code 33 = .ok (.aload_n 0, 1) := by decide +kernel
theorem d_X9_append_34 : decode prog_11_method_2_code 34 = .ok (.dup, 1) := by decide +kernel
theorem d_X9_append_35 : decode prog_11_method_2_code 35 = .ok (.getfield 15, 3) := by decide +kernel
theorem d_X9_append_38 : decode prog_11_method_2_code 38 = .ok (.iconst 1, 1) := by decide +kernel
theorem d_X9_append_39 : decode prog_11_method_2_code 39 = .ok (.iadd, 1) := by decide +kernel
theorem d_X9_append_40 : decode prog_11_method_2_code 40 = .ok (.putfield 15, 3) := by decide +kernel
theorem d_X9_append_43 : decode prog_11_method_2_code 43 = .ok (.iinc 2 (-8), 3) := by decide +kernel
theorem d_X9_append_46 : decode prog_11_method_2_code 46 = .ok (.goto (-43), 3) := by decide +kernel
theorem d_X9_append_49 : decode prog_11_method_2_code 49 = .ok (.return_, 1) := by decide +kernel
theorem d_X9_byteAt_0 : decode prog_11_method_3_code 0 = .ok (.iload_n 1, 1) := by decide +kernel
theorem d_X9_byteAt_1 : decode prog_11_method_3_code 1 = .ok (.ifCond .lt 27, 3) := by decide +kernel
theorem d_X9_byteAt_4 : decode prog_11_method_3_code 4 = .ok (.iload_n 1, 1) := by decide +kernel
theorem d_X9_byteAt_5 : decode prog_11_method_3_code 5 = .ok (.aload_n 0, 1) := by decide +kernel
theorem d_X9_byteAt_6 : decode prog_11_method_3_code 6 = .ok (.getfield 15, 3) := by decide +kernel
theorem d_X9_byteAt_9 : decode prog_11_method_3_code 9 = .ok (.if_icmp .ge 19, 3) := by decide +kernel
theorem d_X9_byteAt_12 : decode prog_11_method_3_code 12 = .ok (.iload_n 1, 1) := by decide +kernel
theorem d_X9_byteAt_13 : decode prog_11_method_3_code 13 = .ok (.sipush 400, 3) := by decide +kernel
theorem d_X9_byteAt_16 : decode prog_11_method_3_code 16 = .ok (.if_icmp .ge 12, 3) := by decide +kernel
theorem d_X9_byteAt_19 : decode prog_11_method_3_code 19 = .ok (.aload_n 0, 1) := by decide +kernel
theorem d_X9_byteAt_20 : decode prog_11_method_3_code 20 = .ok (.getfield 9, 3) := by decide +kernel
theorem d_X9_byteAt_23 : decode prog_11_method_3_code 23 = .ok (.iload_n 1, 1) := by decide +kernel
theorem d_X9_byteAt_24 : decode prog_11_method_3_code 24 = .ok (.iaload, 1) := by decide +kernel
theorem d_X9_byteAt_25 : decode prog_11_method_3_code 25 = .ok (.goto 4, 3) := by decide +kernel
theorem d_X9_byteAt_28 : decode prog_11_method_3_code 28 = .ok (.iconst (-1), 1) := by decide +kernel
theorem d_X9_byteAt_29 : decode prog_11_method_3_code 29 = .ok (.ireturn, 1) := by decide +kernel
theorem d_X9_rewind_0 : decode prog_11_method_4_code 0 = .ok (.aload_n 0, 1) := by decide +kernel
theorem d_X9_rewind_1 : decode prog_11_method_4_code 1 = .ok (.iconst 0, 1) := by decide +kernel
theorem d_X9_rewind_2 : decode prog_11_method_4_code 2 = .ok (.putfield 22, 3) := by decide +kernel
theorem d_X9_rewind_5 : decode prog_11_method_4_code 5 = .ok (.aload_n 0, 1) := by decide +kernel
theorem d_X9_rewind_6 : decode prog_11_method_4_code 6 = .ok (.invokevirtual 28, 3) := by decide +kernel
theorem d_X9_rewind_9 : decode prog_11_method_4_code 9 = .ok (.return_, 1) := by decide +kernel
theorem d_X9_step_0 : decode prog_11_method_5_code 0 = .ok (.aload_n 0, 1) := by decide +kernel
theorem d_X9_step_1 : decode prog_11_method_5_code 1 = .ok (.aload_n 0, 1) := by decide +kernel
theorem d_X9_step_2 : decode prog_11_method_5_code 2 = .ok (.getfield 22, 3) := by decide +kernel
theorem d_X9_step_5 : decode prog_11_method_5_code 5 = .ok (.putfield 19, 3) := by decide +kernel
theorem d_X9_step_8 : decode prog_11_method_5_code 8 = .ok (.aload_n 0, 1) := by decide +kernel
theorem d_X9_step_9 : decode prog_11_method_5_code 9 = .ok (.getfield 19, 3) := by decide +kernel
theorem d_X9_step_12 : decode prog_11_method_5_code 12 = .ok (.aload_n 0, 1) := by decide +kernel
theorem d_X9_step_13 : decode prog_11_method_5_code 13 = .ok (.getfield 15, 3) := by decide +kernel
theorem d_X9_step_16 : decode prog_11_method_5_code 16 = .ok (.if_icmp .ge 29, 3) := by decide +kernel
theorem d_X9_step_19 : decode prog_11_method_5_code 19 = .ok (.aload_n 0, 1) := by decide +kernel
theorem d_X9_step_20 : decode prog_11_method_5_code 20 = .ok (.aload_n 0, 1) := by decide +kernel
theorem d_X9_step_21 : decode prog_11_method_5_code 21 = .ok (.getfield 19, 3) := by decide +kernel
theorem d_X9_step_24 : decode prog_11_method_5_code 24 = .ok (.invokevirtual 31, 3) := by decide +kernel
theorem d_X9_step_27 : decode prog_11_method_5_code 27 = .ok (.bipush 32, 2) := by decide +kernel
theorem d_X9_step_29 : decode prog_11_method_5_code 29 = .ok (.if_icmp .ne 16, 3) := by decide +kernel
theorem d_X9_step_32 : decode prog_11_method_5_code 32 = .ok (.aload_n 0, 1) := by decide +kernel
theorem d_X9_step_33 : decode prog_11_method_5_code 33 = .ok (.dup, 1) := by decide +kernel
theorem d_X9_step_34 : decode prog_11_method_5_code 34 = .ok (.getfield 19, 3) := by decide +kernel
theorem d_X9_step_37 : decode prog_11_method_5_code 37 = .ok (.iconst 1, 1) := by decide +kernel
theorem d_X9_step_38 : decode prog_11_method_5_code 38 = .ok (.iadd, 1) := by decide +kernel
theorem d_X9_step_39 : decode prog_11_method_5_code 39 = .ok (.putfield 19, 3) := by decide +kernel
theorem d_X9_step_42 : decode prog_11_method_5_code 42 = .ok (.goto (-34), 3) := by decide +kernel
theorem d_X9_step_45 : decode prog_11_method_5_code 45 = .ok (.aload_n 0, 1) := by decide +kernel
theorem d_X9_step_46 : decode prog_11_method_5_code 46 = .ok (.aload_n 0, 1) := by decide +kernel
theorem d_X9_step_47 : decode prog_11_method_5_code 47 = .ok (.aload_n 0, 1) := by decide +kernel
theorem d_X9_step_48 : decode prog_11_method_5_code 48 = .ok (.getfield 19, 3) := by decide +kernel
theorem d_X9_step_51 : decode prog_11_method_5_code 51 = .ok (.invokevirtual 31, 3) := by decide +kernel
theorem d_X9_step_54 : decode prog_11_method_5_code 54 = .ok (.invokestatic 35, 3) := by decide +kernel
theorem d_X9_step_57 : decode prog_11_method_5_code 57 = .ok (.putfield 25, 3) := by decide +kernel
theorem d_X9_step_60 : decode prog_11_method_5_code 60 = .ok (.aload_n 0, 1) := by decide +kernel
theorem d_X9_step_61 : decode prog_11_method_5_code 61 = .ok (.aload_n 0, 1) := by decide +kernel
theorem d_X9_step_62 : decode prog_11_method_5_code 62 = .ok (.getfield 15, 3) := by decide +kernel
theorem d_X9_step_65 : decode prog_11_method_5_code 65 = .ok (.aload_n 0, 1) := by decide +kernel
theorem d_X9_step_66 : decode prog_11_method_5_code 66 = .ok (.getfield 19, 3) := by decide +kernel
theorem d_X9_step_69 : decode prog_11_method_5_code 69 = .ok (.iconst 1, 1) := by decide +kernel
theorem d_X9_step_70 : decode prog_11_method_5_code 70 = .ok (.iadd, 1) := by decide +kernel
theorem d_X9_step_71 : decode prog_11_method_5_code 71 = .ok (.invokestatic 38, 3) := by decide +kernel
theorem d_X9_step_74 : decode prog_11_method_5_code 74 = .ok (.putfield 22, 3) := by decide +kernel
theorem d_X9_step_77 : decode prog_11_method_5_code 77 = .ok (.aload_n 0, 1) := by decide +kernel
theorem d_X9_step_78 : decode prog_11_method_5_code 78 = .ok (.getfield 25, 3) := by decide +kernel
theorem d_X9_step_81 : decode prog_11_method_5_code 81 = .ok (.ifCond .eq 45, 3) := by decide +kernel
theorem d_X9_step_84 : decode prog_11_method_5_code 84 = .ok (.aload_n 0, 1) := by decide +kernel
theorem d_X9_step_85 : decode prog_11_method_5_code 85 = .ok (.getfield 22, 3) := by decide +kernel
theorem d_X9_step_88 : decode prog_11_method_5_code 88 = .ok (.aload_n 0, 1) := by decide +kernel
theorem d_X9_step_89 : decode prog_11_method_5_code 89 = .ok (.getfield 15, 3) := by decide +kernel
theorem d_X9_step_92 : decode prog_11_method_5_code 92 = .ok (.if_icmp .ge 34, 3) := by decide +kernel
theorem d_X9_step_95 : decode prog_11_method_5_code 95 = .ok (.aload_n 0, 1) := by decide +kernel
theorem d_X9_step_96 : decode prog_11_method_5_code 96 = .ok (.aload_n 0, 1) := by decide +kernel
theorem d_X9_step_97 : decode prog_11_method_5_code 97 = .ok (.getfield 22, 3) := by decide +kernel
theorem d_X9_step_100 : decode prog_11_method_5_code 100 = .ok (.invokevirtual 31, 3) := by decide +kernel
theorem d_X9_step_103 : decode prog_11_method_5_code 103 = .ok (.invokestatic 35, 3) := by decide +kernel
theorem d_X9_step_106 : decode prog_11_method_5_code 106 = .ok (.aload_n 0, 1) := by decide +kernel
theorem d_X9_step_107 : decode prog_11_method_5_code 107 = .ok (.getfield 25, 3) := by decide +kernel
theorem d_X9_step_110 : decode prog_11_method_5_code 110 = .ok (.if_icmp .ne 16, 3) := by decide +kernel
theorem d_X9_step_113 : decode prog_11_method_5_code 113 = .ok (.aload_n 0, 1) := by decide +kernel
theorem d_X9_step_114 : decode prog_11_method_5_code 114 = .ok (.dup, 1) := by decide +kernel
theorem d_X9_step_115 : decode prog_11_method_5_code 115 = .ok (.getfield 22, 3) := by decide +kernel
theorem d_X9_step_118 : decode prog_11_method_5_code 118 = .ok (.iconst 1, 1) := by decide +kernel
theorem d_X9_step_119 : decode prog_11_method_5_code 119 = .ok (.iadd, 1) := by decide +kernel
theorem d_X9_step_120 : decode prog_11_method_5_code 120 = .ok (.putfield 22, 3) := by decide +kernel
theorem d_X9_step_123 : decode prog_11_method_5_code 123 = .ok (.goto (-46), 3) := by decide +kernel
theorem d_X9_step_126 : decode prog_11_method_5_code 126 = .ok (.return_, 1) := by decide +kernel
theorem d_X9_kindOf_0 : decode prog_11_method_6_code 0 = .ok (.iload_n 0, 1) := by decide +kernel
theorem d_X9_kindOf_1 : decode prog_11_method_6_code 1 = .ok (.bipush 97, 2) := by decide +kernel
theorem d_X9_kindOf_3 : decode prog_11_method_6_code 3 = .ok (.if_icmp .lt 11, 3) := by decide +kernel
theorem d_X9_kindOf_6 : decode prog_11_method_6_code 6 = .ok (.iload_n 0, 1) := by decide +kernel
theorem d_X9_kindOf_7 : decode prog_11_method_6_code 7 = .ok (.bipush 122, 2) := by decide +kernel
theorem d_X9_kindOf_9 : decode prog_11_method_6_code 9 = .ok (.if_icmp .gt 5, 3) := by decide +kernel
theorem d_X9_kindOf_12 : decode prog_11_method_6_code 12 = .ok (.iconst 1, 1) := by decide +kernel
theorem d_X9_kindOf_13 : decode prog_11_method_6_code 13 = .ok (.ireturn, 1) := by decide +kernel
theorem d_X9_kindOf_14 : decode prog_11_method_6_code 14 = .ok (.iload_n 0, 1) := by decide +kernel
theorem d_X9_kindOf_15 : decode prog_11_method_6_code 15 = .ok (.bipush 48, 2) := by decide +kernel
theorem d_X9_kindOf_17 : decode prog_11_method_6_code 17 = .ok (.if_icmp .lt 13, 3) := by decide +kernel
theorem d_X9_kindOf_20 : decode prog_11_method_6_code 20 = .ok (.iload_n 0, 1) := by decide +kernel
theorem d_X9_kindOf_21 : decode prog_11_method_6_code 21 = .ok (.bipush 57, 2) := by decide +kernel
theorem d_X9_kindOf_23 : decode prog_11_method_6_code 23 = .ok (.if_icmp .gt 7, 3) := by decide +kernel
theorem d_X9_kindOf_26 : decode prog_11_method_6_code 26 = .ok (.iconst 2, 1) := by decide +kernel
theorem d_X9_kindOf_27 : decode prog_11_method_6_code 27 = .ok (.goto 4, 3) := by decide +kernel
theorem d_X9_kindOf_30 : decode prog_11_method_6_code 30 = .ok (.iconst 0, 1) := by decide +kernel
theorem d_X9_kindOf_31 : decode prog_11_method_6_code 31 = .ok (.ireturn, 1) := by decide +kernel
theorem d_X9_ended_0 : decode prog_11_method_7_code 0 = .ok (.aload_n 0, 1) := by decide +kernel
theorem d_X9_ended_1 : decode prog_11_method_7_code 1 = .ok (.getfield 19, 3) := by decide +kernel
theorem d_X9_ended_4 : decode prog_11_method_7_code 4 = .ok (.aload_n 0, 1) := by decide +kernel
theorem d_X9_ended_5 : decode prog_11_method_7_code 5 = .ok (.getfield 15, 3) := by decide +kernel
theorem d_X9_ended_8 : decode prog_11_method_7_code 8 = .ok (.if_icmp .lt 7, 3) := by decide +kernel
theorem d_X9_ended_11 : decode prog_11_method_7_code 11 = .ok (.iconst 1, 1) := by decide +kernel
theorem d_X9_ended_12 : decode prog_11_method_7_code 12 = .ok (.goto 4, 3) := by decide +kernel
theorem d_X9_ended_15 : decode prog_11_method_7_code 15 = .ok (.iconst 0, 1) := by decide +kernel
theorem d_X9_ended_16 : decode prog_11_method_7_code 16 = .ok (.ireturn, 1) := by decide +kernel
theorem d_X9_isSign_0 : decode prog_11_method_8_code 0 = .ok (.aload_n 0, 1) := by decide +kernel
theorem d_X9_isSign_1 : decode prog_11_method_8_code 1 = .ok (.aload_n 0, 1) := by decide +kernel
theorem d_X9_isSign_2 : decode prog_11_method_8_code 2 = .ok (.getfield 19, 3) := by decide +kernel
theorem d_X9_isSign_5 : decode prog_11_method_8_code 5 = .ok (.invokevirtual 31, 3) := by decide +kernel
theorem d_X9_isSign_8 : decode prog_11_method_8_code 8 = .ok (.iload_n 1, 1) := by decide +kernel
theorem d_X9_isSign_9 : decode prog_11_method_8_code 9 = .ok (.if_icmp .ne 7, 3) := by decide +kernel
theorem d_X9_isSign_12 : decode prog_11_method_8_code 12 = .ok (.iconst 1, 1) := by decide +kernel
theorem d_X9_isSign_13 : decode prog_11_method_8_code 13 = .ok (.goto 4, 3) := by decide +kernel
theorem d_X9_isSign_16 : decode prog_11_method_8_code 16 = .ok (.iconst 0, 1) := by decide +kernel
theorem d_X9_isSign_17 : decode prog_11_method_8_code 17 = .ok (.ireturn, 1) := by decide +kernel
theorem d_X9_signIn_0 : decode prog_11_method_9_code 0 = .ok (.aload_n 0, 1) := by decide +kernel
theorem d_X9_signIn_1 : decode prog_11_method_9_code 1 = .ok (.invokevirtual 44, 3) := by decide +kernel
theorem d_X9_signIn_4 : decode prog_11_method_9_code 4 = .ok (.ifCond .eq 7, 3) := by decide +kernel
theorem d_X9_signIn_7 : decode prog_11_method_9_code 7 = .ok (.iconst (-1), 1) := by decide +kernel
theorem d_X9_signIn_8 : decode prog_11_method_9_code 8 = .ok (.goto 16, 3) := by decide +kernel
theorem d_X9_signIn_11 : decode prog_11_method_9_code 11 = .ok (.aload_n 1, 1) := by decide +kernel
theorem d_X9_signIn_12 : decode prog_11_method_9_code 12 = .ok (.aload_n 0, 1) := by decide +kernel
theorem d_X9_signIn_13 : decode prog_11_method_9_code 13 = .ok (.aload_n 0, 1) := by decide +kernel
theorem d_X9_signIn_14 : decode prog_11_method_9_code 14 = .ok (.getfield 19, 3) := by decide +kernel
theorem d_X9_signIn_17 : decode prog_11_method_9_code 17 = .ok (.invokevirtual 31, 3) := by decide +kernel
theorem d_X9_signIn_20 : decode prog_11_method_9_code 20 = .ok (.i2c, 1) := by decide +kernel
theorem d_X9_signIn_21 : decode prog_11_method_9_code 21 = .ok (.invokevirtual 48, 3) := by decide +kernel
theorem d_X9_signIn_24 : decode prog_11_method_9_code 24 = .ok (.ireturn, 1) := by decide +kernel
theorem d_X9_isNumber_0 : decode prog_11_method_10_code 0 = .ok (.aload_n 0, 1) := by decide +kernel
theorem d_X9_isNumber_1 : decode prog_11_method_10_code 1 = .ok (.getfield 25, 3) := by decide +kernel
theorem d_X9_isNumber_4 : decode prog_11_method_10_code 4 = .ok (.iconst 2, 1) := by decide +kernel
theorem d_X9_isNumber_5 : decode prog_11_method_10_code 5 = .ok (.if_icmp .ne 7, 3) := by decide +kernel
theorem d_X9_isNumber_8 : decode prog_11_method_10_code 8 = .ok (.iconst 1, 1) := by decide +kernel
theorem d_X9_isNumber_9 : decode prog_11_method_10_code 9 = .ok (.goto 4, 3) := by decide +kernel
theorem d_X9_isNumber_12 : decode prog_11_method_10_code 12 = .ok (.iconst 0, 1) := by decide +kernel
theorem d_X9_isNumber_13 : decode prog_11_method_10_code 13 = .ok (.ireturn, 1) := by decide +kernel
theorem d_X9_number_0 : decode prog_11_method_11_code 0 = .ok (.aload_n 0, 1) := by decide +kernel
theorem d_X9_number_1 : decode prog_11_method_11_code 1 = .ok (.getfield 25, 3) := by decide +kernel
theorem d_X9_number_4 : decode prog_11_method_11_code 4 = .ok (.iconst 2, 1) := by decide +kernel
theorem d_X9_number_5 : decode prog_11_method_11_code 5 = .ok (.if_icmp .eq 5, 3) := by decide +kernel
theorem d_X9_number_8 : decode prog_11_method_11_code 8 = .ok (.iconst (-1), 1) := by decide +kernel
theorem d_X9_number_9 : decode prog_11_method_11_code 9 = .ok (.ireturn, 1) := by decide +kernel
theorem d_X9_number_10 : decode prog_11_method_11_code 10 = .ok (.iconst 0, 1) := by decide +kernel
theorem d_X9_number_11 : decode prog_11_method_11_code 11 = .ok (.istore_n 1, 1) := by decide +kernel
theorem d_X9_number_12 : decode prog_11_method_11_code 12 = .ok (.aload_n 0, 1) := by decide +kernel
theorem d_X9_number_13 : decode prog_11_method_11_code 13 = .ok (.getfield 19, 3) := by decide +kernel
theorem d_X9_number_16 : decode prog_11_method_11_code 16 = .ok (.istore_n 2, 1) := by decide +kernel
theorem d_X9_number_17 : decode prog_11_method_11_code 17 = .ok (.iload_n 2, 1) := by decide +kernel
theorem d_X9_number_18 : decode prog_11_method_11_code 18 = .ok (.aload_n 0, 1) := by decide +kernel
theorem d_X9_number_19 : decode prog_11_method_11_code 19 = .ok (.getfield 22, 3) := by decide +kernel
theorem d_X9_number_22 : decode prog_11_method_11_code 22 = .ok (.if_icmp .ge 29, 3) := by decide +kernel
theorem d_X9_number_25 : decode prog_11_method_11_code 25 = .ok (.sipush 1001, 3) := by decide +kernel
theorem d_X9_number_28 : decode prog_11_method_11_code 28 = .ok (.iload_n 1, 1) := by decide +kernel
theorem d_X9_number_29 : decode prog_11_method_11_code 29 = .ok (.bipush 10, 2) := by decide +kernel
theorem d_X9_number_31 : decode prog_11_method_11_code 31 = .ok (.imul, 1) := by decide +kernel
theorem d_X9_number_32 : decode prog_11_method_11_code 32 = .ok (.aload_n 0, 1) := by decide +kernel
theorem d_X9_number_33 : decode prog_11_method_11_code 33 = .ok (.iload_n 2, 1) := by decide +kernel
theorem d_X9_number_34 : decode prog_11_method_11_code 34 = .ok (.invokevirtual 31, 3) := by decide +kernel
theorem d_X9_number_37 : decode prog_11_method_11_code 37 = .ok (.iadd, 1) := by decide +kernel
theorem d_X9_number_38 : decode prog_11_method_11_code 38 = .ok (.bipush 48, 2) := by decide +kernel
theorem d_X9_number_40 : decode prog_11_method_11_code 40 = .ok (.isub, 1) := by decide +kernel
theorem d_X9_number_41 : decode prog_11_method_11_code 41 = .ok (.invokestatic 38, 3) := by decide +kernel
theorem d_X9_number_44 : decode prog_11_method_11_code 44 = .ok (.istore_n 1, 1) := by decide +kernel
theorem d_X9_number_45 : decode prog_11_method_11_code 45 = .ok (.iinc 2 1, 3) := by decide +kernel
theorem d_X9_number_48 : decode prog_11_method_11_code 48 = .ok (.goto (-31), 3) := by decide +kernel
theorem d_X9_number_51 : decode prog_11_method_11_code 51 = .ok (.iload_n 1, 1) := by decide +kernel
theorem d_X9_number_52 : decode prog_11_method_11_code 52 = .ok (.ireturn, 1) := by decide +kernel
theorem d_X9_wordIn_0 : decode prog_11_method_12_code 0 = .ok (.iconst 0, 1) := by decide +kernel
theorem d_X9_wordIn_1 : decode prog_11_method_12_code 1 = .ok (.istore_n 2, 1) := by decide +kernel
theorem d_X9_wordIn_2 : decode prog_11_method_12_code 2 = .ok (.aload_n 0, 1) := by decide +kernel
theorem d_X9_wordIn_3 : decode prog_11_method_12_code 3 = .ok (.getfield 19, 3) := by decide +kernel
theorem d_X9_wordIn_6 : decode prog_11_method_12_code 6 = .ok (.istore_n 3, 1) := by decide +kernel
theorem d_X9_wordIn_7 : decode prog_11_method_12_code 7 = .ok (.iconst 1, 1) := by decide +kernel
theorem d_X9_wordIn_8 : decode prog_11_method_12_code 8 = .ok (.istore 4, 2) := by decide +kernel
theorem d_X9_wordIn_10 : decode prog_11_method_12_code 10 = .ok (.iconst 0, 1) := by decide +kernel
theorem d_X9_wordIn_11 : decode prog_11_method_12_code 11 = .ok (.istore 5, 2) := by decide +kernel
theorem d_X9_wordIn_13 : decode prog_11_method_12_code 13 = .ok (.iload 5, 2) := by decide +kernel
theorem d_X9_wordIn_15 : decode prog_11_method_12_code 15 = .ok (.aload_n 1, 1) := by decide +kernel
theorem d_X9_wordIn_16 : decode prog_11_method_12_code 16 = .ok (.invokevirtual 53, 3) := by decide +kernel
theorem d_X9_wordIn_19 : decode prog_11_method_12_code 19 = .ok (.if_icmp .gt 95, 3) := by decide +kernel
theorem d_X9_wordIn_22 : decode prog_11_method_12_code 22 = .ok (.iload 5, 2) := by decide +kernel
theorem d_X9_wordIn_24 : decode prog_11_method_12_code 24 = .ok (.aload_n 1, 1) := by decide +kernel
theorem d_X9_wordIn_25 : decode prog_11_method_12_code 25 = .ok (.invokevirtual 53, 3) := by decide +kernel
theorem d_X9_wordIn_28 : decode prog_11_method_12_code 28 = .ok (.if_icmp .eq 14, 3) := by decide +kernel
theorem d_X9_wordIn_31 : decode prog_11_method_12_code 31 = .ok (.aload_n 1, 1) := by decide +kernel
theorem d_X9_wordIn_32 : decode prog_11_method_12_code 32 = .ok (.iload 5, 2) := by decide +kernel
theorem d_X9_wordIn_34 : decode prog_11_method_12_code 34 = .ok (.invokevirtual 56, 3) := by decide +kernel
theorem d_X9_wordIn_37 : decode prog_11_method_12_code 37 = .ok (.bipush 32, 2) := by decide +kernel
theorem d_X9_wordIn_39 : decode prog_11_method_12_code 39 = .ok (.if_icmp .ne 32, 3) := by decide +kernel
theorem d_X9_wordIn_42 : decode prog_11_method_12_code 42 = .ok (.iload 4, 2) := by decide +kernel
theorem d_X9_wordIn_44 : decode prog_11_method_12_code 44 = .ok (.ifCond .eq 13, 3) := by decide +kernel
theorem d_X9_wordIn_47 : decode prog_11_method_12_code 47 = .ok (.iload_n 3, 1) := by decide +kernel
theorem d_X9_wordIn_48 : decode prog_11_method_12_code 48 = .ok (.aload_n 0, 1) := by decide +kernel
theorem d_X9_wordIn_49 : decode prog_11_method_12_code 49 = .ok (.getfield 22, 3) := by decide +kernel
theorem d_X9_wordIn_52 : decode prog_11_method_12_code 52 = .ok (.if_icmp .ne 5, 3) := by decide +kernel
theorem d_X9_wordIn_55 : decode prog_11_method_12_code 55 = .ok (.iload_n 2, 1) := by decide +kernel
theorem d_X9_wordIn_56 : decode prog_11_method_12_code 56 = .ok (.ireturn, 1) := by decide +kernel
theorem d_X9_wordIn_57 : decode prog_11_method_12_code 57 = .ok (.iinc 2 1, 3) := by decide +kernel
theorem d_X9_wordIn_60 : decode prog_11_method_12_code 60 = .ok (.aload_n 0, 1) := by decide +kernel
theorem d_X9_wordIn_61 : decode prog_11_method_12_code 61 = .ok (.getfield 19, 3) := by decide +kernel
theorem d_X9_wordIn_64 : decode prog_11_method_12_code 64 = .ok (.istore_n 3, 1) := by decide +kernel
theorem d_X9_wordIn_65 : decode prog_11_method_12_code 65 = .ok (.iconst 1, 1) := by decide +kernel
theorem d_X9_wordIn_66 : decode prog_11_method_12_code 66 = .ok (.istore 4, 2) := by decide +kernel
theorem d_X9_wordIn_68 : decode prog_11_method_12_code 68 = .ok (.goto 40, 3) := by decide +kernel
theorem d_X9_wordIn_71 : decode prog_11_method_12_code 71 = .ok (.iload 4, 2) := by decide +kernel
theorem d_X9_wordIn_73 : decode prog_11_method_12_code 73 = .ok (.ifCond .eq 29, 3) := by decide +kernel
theorem d_X9_wordIn_76 : decode prog_11_method_12_code 76 = .ok (.iload_n 3, 1) := by decide +kernel
theorem d_X9_wordIn_77 : decode prog_11_method_12_code 77 = .ok (.aload_n 0, 1) := by decide +kernel
theorem d_X9_wordIn_78 : decode prog_11_method_12_code 78 = .ok (.getfield 22, 3) := by decide +kernel
theorem d_X9_wordIn_81 : decode prog_11_method_12_code 81 = .ok (.if_icmp .ge 21, 3) := by decide +kernel
theorem d_X9_wordIn_84 : decode prog_11_method_12_code 84 = .ok (.aload_n 0, 1) := by decide +kernel
theorem d_X9_wordIn_85 : decode prog_11_method_12_code 85 = .ok (.iload_n 3, 1) := by decide +kernel
theorem d_X9_wordIn_86 : decode prog_11_method_12_code 86 = .ok (.invokevirtual 31, 3) := by decide +kernel
theorem d_X9_wordIn_89 : decode prog_11_method_12_code 89 = .ok (.aload_n 1, 1) := by decide +kernel
theorem d_X9_wordIn_90 : decode prog_11_method_12_code 90 = .ok (.iload 5, 2) := by decide +kernel
theorem d_X9_wordIn_92 : decode prog_11_method_12_code 92 = .ok (.invokevirtual 56, 3) := by decide +kernel
theorem d_X9_wordIn_95 : decode prog_11_method_12_code 95 = .ok (.if_icmp .ne 7, 3) := by decide +kernel
theorem d_X9_wordIn_98 : decode prog_11_method_12_code 98 = .ok (.iconst 1, 1) := by decide +kernel
theorem d_X9_wordIn_99 : decode prog_11_method_12_code 99 = .ok (.goto 4, 3) := by decide +kernel
theorem d_X9_wordIn_102 : decode prog_11_method_12_code 102 = .ok (.iconst 0, 1) := by decide +kernel
theorem d_X9_wordIn_103 : decode prog_11_method_12_code 103 = .ok (.istore 4, 2) := by decide +kernel
theorem d_X9_wordIn_105 : decode prog_11_method_12_code 105 = .ok (.iinc 3 1, 3) := by decide +kernel
theorem d_X9_wordIn_108 : decode prog_11_method_12_code 108 = .ok (.iinc 5 1, 3) := by decide +kernel
theorem d_X9_wordIn_111 : decode prog_11_method_12_code 111 = .ok (.goto (-98), 3) := by decide +kernel
theorem d_X9_wordIn_114 : decode prog_11_method_12_code 114 = .ok (.iconst (-1), 1) := by decide +kernel
theorem d_X9_wordIn_115 : decode prog_11_method_12_code 115 = .ok (.ireturn, 1) := by decide +kernel
theorem d_X10_init_0 : decode prog_1_method_1_code 0 = .ok (.aload_n 0, 1) := by decide +kernel
theorem d_X10_init_1 : decode prog_1_method_1_code 1 = .ok (.invokespecial 5, 3) := by decide +kernel
theorem d_X10_init_4 : decode prog_1_method_1_code 4 = .ok (.aload_n 0, 1) := by decide +kernel
theorem d_X10_init_5 : decode prog_1_method_1_code 5 = .ok (.new 11, 3) := by decide +kernel
theorem d_X10_init_8 : decode prog_1_method_1_code 8 = .ok (.dup, 1) := by decide +kernel
theorem d_X10_init_9 : decode prog_1_method_1_code 9 = .ok (.invokespecial 13, 3) := by decide +kernel
theorem d_X10_init_12 : decode prog_1_method_1_code 12 = .ok (.putfield 14, 3) := by decide +kernel
theorem d_X10_init_15 : decode prog_1_method_1_code 15 = .ok (.aload_n 0, 1) := by decide +kernel
theorem d_X10_init_16 : decode prog_1_method_1_code 16 = .ok (.new 11, 3) := by decide +kernel
theorem d_X10_init_19 : decode prog_1_method_1_code 19 = .ok (.dup, 1) := by decide +kernel
theorem d_X10_init_20 : decode prog_1_method_1_code 20 = .ok (.invokespecial 13, 3) := by decide +kernel
theorem d_X10_init_23 : decode prog_1_method_1_code 23 = .ok (.putfield 18, 3) := by decide +kernel
theorem d_X10_init_26 : decode prog_1_method_1_code 26 = .ok (.aload_n 0, 1) := by decide +kernel
theorem d_X10_init_27 : decode prog_1_method_1_code 27 = .ok (.new 11, 3) := by decide +kernel
theorem d_X10_init_30 : decode prog_1_method_1_code 30 = .ok (.dup, 1) := by decide +kernel
theorem d_X10_init_31 : decode prog_1_method_1_code 31 = .ok (.invokespecial 13, 3) := by decide +kernel
theorem d_X10_init_34 : decode prog_1_method_1_code 34 = .ok (.putfield 21, 3) := by decide +kernel
theorem d_X10_init_37 : decode prog_1_method_1_code 37 = .ok (.aload_n 0, 1) := by decide +kernel
theorem d_X10_init_38 : decode prog_1_method_1_code 38 = .ok (.iconst 2, 1) := by decide +kernel
theorem d_X10_init_39 : decode prog_1_method_1_code 39 = .ok (.anewarray 11, 3) := by decide +kernel
theorem d_X10_init_42 : decode prog_1_method_1_code 42 = .ok (.dup, 1) := by decide +kernel
theorem d_X10_init_43 : decode prog_1_method_1_code 43 = .ok (.iconst 0, 1) := by decide +kernel
theorem d_X10_init_44 : decode prog_1_method_1_code 44 = .ok (.new 11, 3) := by decide +kernel
theorem d_X10_init_47 : decode prog_1_method_1_code 47 = .ok (.dup, 1) := by decide +kernel
theorem d_X10_init_48 : decode prog_1_method_1_code 48 = .ok (.invokespecial 13, 3) := by decide +kernel
theorem d_X10_init_51 : decode prog_1_method_1_code 51 = .ok (.aastore, 1) := by decide +kernel
theorem d_X10_init_52 : decode prog_1_method_1_code 52 = .ok (.dup, 1) := by decide +kernel
theorem d_X10_init_53 : decode prog_1_method_1_code 53 = .ok (.iconst 1, 1) := by decide +kernel
theorem d_X10_init_54 : decode prog_1_method_1_code 54 = .ok (.new 11, 3) := by decide +kernel
theorem d_X10_init_57 : decode prog_1_method_1_code 57 = .ok (.dup, 1) := by decide +kernel
theorem d_X10_init_58 : decode prog_1_method_1_code 58 = .ok (.invokespecial 13, 3) := by decide +kernel
theorem d_X10_init_61 : decode prog_1_method_1_code 61 = .ok (.aastore, 1) := by decide +kernel
theorem d_X10_init_62 : decode prog_1_method_1_code 62 = .ok (.putfield 24, 3) := by decide +kernel
theorem d_X10_init_65 : decode prog_1_method_1_code 65 = .ok (.aload_n 0, 1) := by decide +kernel
theorem d_X10_init_66 : decode prog_1_method_1_code 66 = .ok (.iconst 2, 1) := by decide +kernel
theorem d_X10_init_67 : decode prog_1_method_1_code 67 = .ok (.newarray .int, 2) := by decide +kernel
theorem d_X10_init_69 : decode prog_1_method_1_code 69 = .ok (.putfield 28, 3) := by decide +kernel
theorem d_X10_init_72 : decode prog_1_method_1_code 72 = .ok (.aload_n 0, 1) := by decide +kernel
theorem d_X10_init_73 : decode prog_1_method_1_code 73 = .ok (.new 32, 3) := by decide +kernel
theorem d_X10_init_76 : decode prog_1_method_1_code 76 = .ok (.dup, 1) := by decide +kernel
theorem d_X10_init_77 : decode prog_1_method_1_code 77 = .ok (.invokespecial 34, 3) := by decide +kernel
theorem d_X10_init_80 : decode prog_1_method_1_code 80 = .ok (.putfield 35, 3) := by decide +kernel
theorem d_X10_init_83 : decode prog_1_method_1_code 83 = .ok (.aload_n 0, 1) := by decide +kernel
theorem d_X10_init_84 : decode prog_1_method_1_code 84 = .ok (.new 32, 3) := by decide +kernel
theorem d_X10_init_87 : decode prog_1_method_1_code 87 = .ok (.dup, 1) := by decide +kernel
theorem d_X10_init_88 : decode prog_1_method_1_code 88 = .ok (.invokespecial 34, 3) := by decide +kernel
theorem d_X10_init_91 : decode prog_1_method_1_code 91 = .ok (.putfield 39, 3) := by decide +kernel
theorem d_X10_init_94 : decode prog_1_method_1_code 94 = .ok (.aload_n 0, 1) := by decide +kernel
theorem d_X10_init_95 : decode prog_1_method_1_code 95 = .ok (.new 42, 3) := by decide +kernel
theorem d_X10_init_98 : decode prog_1_method_1_code 98 = .ok (.dup, 1) := by decide +kernel
theorem d_X10_init_99 : decode prog_1_method_1_code 99 = .ok (.invokespecial 44, 3) := by decide +kernel
theorem d_X10_init_102 : decode prog_1_method_1_code 102 = .ok (.putfield 45, 3) := by decide +kernel
theorem d_X10_init_105 : decode prog_1_method_1_code 105 = .ok (.aload_n 0, 1) := by decide +kernel
theorem d_X10_init_106 : decode prog_1_method_1_code 106 = .ok (.new 49, 3) := by decide +kernel
theorem d_X10_init_109 : decode prog_1_method_1_code 109 = .ok (.dup, 1) := by decide +kernel
theorem d_X10_init_110 : decode prog_1_method_1_code 110 = .ok (.aload_n 0, 1) := by decide +kernel
theorem d_X10_init_111 : decode prog_1_method_1_code 111 = .ok (.getfield 45, 3) := by decide +kernel
theorem d_X10_init_114 : decode prog_1_method_1_code 114 = .ok (.invokespecial 51, 3) := by decide +kernel
theorem d_X10_init_117 : decode prog_1_method_1_code 117 = .ok (.putfield 54, 3) := by decide +kernel
theorem d_X10_init_120 : decode prog_1_method_1_code 120 = .ok (.aload_n 0, 1) := by decide +kernel
theorem d_X10_init_121 : decode prog_1_method_1_code 121 = .ok (.new 58, 3) := by decide +kernel
theorem d_X10_init_124 : decode prog_1_method_1_code 124 = .ok (.dup, 1) := by decide +kernel
theorem d_X10_init_125 : decode prog_1_method_1_code 125 = .ok (.invokespecial 60, 3) := by decide +kernel
theorem d_X10_init_128 : decode prog_1_method_1_code 128 = .ok (.putfield 61, 3) := by decide +kernel
theorem d_X10_init_131 : decode prog_1_method_1_code 131 = .ok (.aload_n 0, 1) := by decide +kernel
theorem d_X10_init_132 : decode prog_1_method_1_code 132 = .ok (.new 65, 3) := by decide +kernel
theorem d_X10_init_135 : decode prog_1_method_1_code 135 = .ok (.dup, 1) := by decide +kernel
theorem d_X10_init_136 : decode prog_1_method_1_code 136 = .ok (.aload_n 0, 1) := by decide +kernel
theorem d_X10_init_137 : decode prog_1_method_1_code 137 = .ok (.getfield 61, 3) := by decide +kernel
theorem d_X10_init_140 : decode prog_1_method_1_code 140 = .ok (.invokespecial 67, 3) := by decide +kernel
theorem d_X10_init_143 : decode prog_1_method_1_code 143 = .ok (.putfield 70, 3) := by decide +kernel
theorem d_X10_init_146 : decode prog_1_method_1_code 146 = .ok (.aload_n 0, 1) := by decide +kernel
theorem d_X10_init_147 : decode prog_1_method_1_code 147 = .ok (.new 74, 3) := by decide +kernel
theorem d_X10_init_150 : decode prog_1_method_1_code 150 = .ok (.dup, 1) := by decide +kernel
theorem d_X10_init_151 : decode prog_1_method_1_code 151 = .ok (.aload_n 0, 1) := by decide +kernel
theorem d_X10_init_152 : decode prog_1_method_1_code 152 = .ok (.getfield 70, 3) := by decide +kernel
theorem d_X10_init_155 : decode prog_1_method_1_code 155 = .ok (.invokespecial 76, 3) := by decide +kernel
theorem d_X10_init_158 : decode prog_1_method_1_code 158 = .ok (.putfield 79, 3) := by decide +kernel
theorem d_X10_init_161 : decode prog_1_method_1_code 161 = .ok (.aload_n 0, 1) := by decide +kernel
theorem d_X10_init_162 : decode prog_1_method_1_code 162 = .ok (.new 83, 3) := by decide +kernel
theorem d_X10_init_165 : decode prog_1_method_1_code 165 = .ok (.dup, 1) := by decide +kernel
theorem d_X10_init_166 : decode prog_1_method_1_code 166 = .ok (.aload_n 0, 1) := by decide +kernel
theorem d_X10_init_167 : decode prog_1_method_1_code 167 = .ok (.getfield 70, 3) := by decide +kernel
theorem d_X10_init_170 : decode prog_1_method_1_code 170 = .ok (.aload_n 0, 1) := by decide +kernel
theorem d_X10_init_171 : decode prog_1_method_1_code 171 = .ok (.getfield 79, 3) := by decide +kernel
theorem d_X10_init_174 : decode prog_1_method_1_code 174 = .ok (.invokespecial 85, 3) := by decide +kernel
theorem d_X10_init_177 : decode prog_1_method_1_code 177 = .ok (.putfield 88, 3) := by decide +kernel
theorem d_X10_init_180 : decode prog_1_method_1_code 180 = .ok (.aload_n 0, 1) := by decide +kernel
theorem d_X10_init_181 : decode prog_1_method_1_code 181 = .ok (.bipush 21, 2) := by decide +kernel
theorem d_X10_init_183 : decode prog_1_method_1_code 183 = .ok (.newarray .int, 2) := by decide +kernel
theorem d_X10_init_185 : decode prog_1_method_1_code 185 = .ok (.putfield 92, 3) := by decide +kernel
theorem d_X10_init_188 : decode prog_1_method_1_code 188 = .ok (.aload_n 0, 1) := by decide +kernel
theorem d_X10_init_189 : decode prog_1_method_1_code 189 = .ok (.bipush 7, 2) := by decide +kernel
theorem d_X10_init_191 : decode prog_1_method_1_code 191 = .ok (.newarray .int, 2) := by decide +kernel
theorem d_X10_init_193 : decode prog_1_method_1_code 193 = .ok (.putfield 95, 3) := by decide +kernel
theorem d_X10_init_196 : decode prog_1_method_1_code 196 = .ok (.aload_n 0, 1) := by decide +kernel
theorem d_X10_init_197 : decode prog_1_method_1_code 197 = .ok (.iconst (-1), 1) := by decide +kernel
theorem d_X10_init_198 : decode prog_1_method_1_code 198 = .ok (.putfield 98, 3) := by decide +kernel
theorem d_X10_init_201 : decode prog_1_method_1_code 201 = .ok (.aload_n 0, 1) := by decide +kernel
theorem d_X10_init_202 : decode prog_1_method_1_code 202 = .ok (.iconst 0, 1) := by decide +kernel
theorem d_X10_init_203 : decode prog_1_method_1_code 203 = .ok (.putfield 102, 3) := by decide +kernel
theorem d_X10_init_206 : decode prog_1_method_1_code 206 = .ok (.aload_n 0, 1) := by decide +kernel
theorem d_X10_init_207 : decode prog_1_method_1_code 207 = .ok (.iconst (-1), 1) := by decide +kernel
theorem d_X10_init_208 : decode prog_1_method_1_code 208 = .ok (.putfield 105, 3) := by decide +kernel
theorem d_X10_init_211 : decode prog_1_method_1_code 211 = .ok (.aload_n 0, 1) := by decide +kernel
theorem d_X10_init_212 : decode prog_1_method_1_code 212 = .ok (.iconst 0, 1) := by decide +kernel
theorem d_X10_init_213 : decode prog_1_method_1_code 213 = .ok (.putfield 108, 3) := by decide +kernel
theorem d_X10_init_216 : decode prog_1_method_1_code 216 = .ok (.return_, 1) := by decide +kernel
theorem d_X10_good_0 : decode prog_1_method_2_code 0 = .ok (.iload_n 1, 1) := by decide +kernel
theorem d_X10_good_1 : decode prog_1_method_2_code 1 = .ok (.iload_n 2, 1) := by decide +kernel
theorem d_X10_good_2 : decode prog_1_method_2_code 2 = .ok (.iload_n 3, 1) := by decide +kernel
theorem d_X10_good_3 : decode prog_1_method_2_code 3 = .ok (.iload 4, 2) := by decide +kernel
theorem d_X10_good_5 : decode prog_1_method_2_code 5 = .ok (.invokestatic 111, 3) := by decide +kernel
theorem d_X10_good_8 : decode prog_1_method_2_code 8 = .ok (.ifCond .eq 14, 3) := by decide +kernel
theorem d_X10_good_11 : decode prog_1_method_2_code 11 = .ok (.iload 5, 2) := by decide +kernel
theorem d_X10_good_13 : decode prog_1_method_2_code 13 = .ok (.iconst 0, 1) := by decide +kernel
theorem d_X10_good_14 : decode prog_1_method_2_code 14 = .ok (.bipush 24, 2) := by decide +kernel
theorem d_X10_good_16 : decode prog_1_method_2_code 16 = .ok (.invokestatic 115, 3) := by decide +kernel
theorem d_X10_good_19 : decode prog_1_method_2_code 19 = .ok (.ifCond .ne 9, 3) := by decide +kernel
theorem d_X10_good_22 : decode prog_1_method_2_code 22 = .ok (.aload_n 0, 1) := by decide +kernel
theorem d_X10_good_23 : decode prog_1_method_2_code 23 = .ok (.iconst (-1), 1) := by decide +kernel
theorem d_X10_good_24 : decode prog_1_method_2_code 24 = .ok (.invokevirtual 119, 3) := by decide +kernel
theorem d_X10_good_27 : decode prog_1_method_2_code 27 = .ok (.ireturn, 1) := by decide +kernel
theorem d_X10_good_28 : decode prog_1_method_2_code 28 = .ok (.aload_n 0, 1) := by decide +kernel
theorem d_X10_good_29 : decode prog_1_method_2_code 29 = .ok (.getfield 14, 3) := by decide +kernel
theorem d_X10_good_32 : decode prog_1_method_2_code 32 = .ok (.getfield 123, 3) := by decide +kernel
theorem d_X10_good_35 : decode prog_1_method_2_code 35 = .ok (.bipush 8, 2) := by decide +kernel
theorem d_X10_good_37 : decode prog_1_method_2_code 37 = .ok (.if_icmp .lt 10, 3) := by decide +kernel
theorem d_X10_good_40 : decode prog_1_method_2_code 40 = .ok (.aload_n 0, 1) := by decide +kernel
theorem d_X10_good_41 : decode prog_1_method_2_code 41 = .ok (.bipush (-5), 2) := by decide +kernel
theorem d_X10_good_43 : decode prog_1_method_2_code 43 = .ok (.invokevirtual 119, 3) := by decide +kernel
theorem d_X10_good_46 : decode prog_1_method_2_code 46 = .ok (.ireturn, 1) := by decide +kernel
theorem d_X10_good_47 : decode prog_1_method_2_code 47 = .ok (.aload_n 0, 1) := by decide +kernel
theorem d_X10_good_48 : decode prog_1_method_2_code 48 = .ok (.getfield 35, 3) := by decide +kernel
theorem d_X10_good_51 : decode prog_1_method_2_code 51 = .ok (.invokevirtual 126, 3) := by decide +kernel
theorem d_X10_good_54 : decode prog_1_method_2_code 54 = .ok (.aload_n 0, 1) := by decide +kernel
theorem d_X10_good_55 : decode prog_1_method_2_code 55 = .ok (.aload_n 0, 1) := by decide +kernel
theorem d_X10_good_56 : decode prog_1_method_2_code 56 = .ok (.getfield 14, 3) := by decide +kernel
theorem d_X10_good_59 : decode prog_1_method_2_code 59 = .ok (.iload_n 1, 1) := by decide +kernel
theorem d_X10_good_60 : decode prog_1_method_2_code 60 = .ok (.iload_n 2, 1) := by decide +kernel
theorem d_X10_good_61 : decode prog_1_method_2_code 61 = .ok (.iload_n 3, 1) := by decide +kernel
theorem d_X10_good_62 : decode prog_1_method_2_code 62 = .ok (.iload 4, 2) := by decide +kernel
theorem d_X10_good_64 : decode prog_1_method_2_code 64 = .ok (.iload 5, 2) := by decide +kernel
theorem d_X10_good_66 : decode prog_1_method_2_code 66 = .ok (.invokevirtual 129, 3) := by decide +kernel
theorem d_X10_good_69 : decode prog_1_method_2_code 69 = .ok (.invokevirtual 133, 3) := by decide +kernel
theorem d_X10_good_72 : decode prog_1_method_2_code 72 = .ok (.ireturn, 1) := by decide +kernel
theorem d_X10_of_0 : decode prog_1_method_3_code 0 = .ok (.aload_n 0, 1) := by decide +kernel
theorem d_X10_of_1 : decode prog_1_method_3_code 1 = .ok (.getfield 14, 3) := by decide +kernel
theorem d_X10_of_4 : decode prog_1_method_3_code 4 = .ok (.iload_n 1, 1) := by decide +kernel
theorem d_X10_of_5 : decode prog_1_method_3_code 5 = .ok (.iload_n 2, 1) := by decide +kernel
theorem d_X10_of_6 : decode prog_1_method_3_code 6 = .ok (.invokevirtual 136, 3) := by decide +kernel
theorem d_X10_of_9 : decode prog_1_method_3_code 9 = .ok (.ireturn, 1) := by decide +kernel
theorem d_X10_asks_0 : decode prog_1_method_4_code 0 = .ok (.aload_n 0, 1) := by decide +kernel
theorem d_X10_asks_1 : decode prog_1_method_4_code 1 = .ok (.getfield 14, 3) := by decide +kernel
theorem d_X10_asks_4 : decode prog_1_method_4_code 4 = .ok (.iload_n 1, 1) := by decide +kernel
theorem d_X10_asks_5 : decode prog_1_method_4_code 5 = .ok (.invokevirtual 140, 3) := by decide +kernel
theorem d_X10_asks_8 : decode prog_1_method_4_code 8 = .ok (.ifCond .eq 12, 3) := by decide +kernel
theorem d_X10_asks_11 : decode prog_1_method_4_code 11 = .ok (.iload_n 2, 1) := by decide +kernel
theorem d_X10_asks_12 : decode prog_1_method_4_code 12 = .ok (.iconst 0, 1) := by decide +kernel
theorem d_X10_asks_13 : decode prog_1_method_4_code 13 = .ok (.iconst 3, 1) := by decide +kernel
theorem d_X10_asks_14 : decode prog_1_method_4_code 14 = .ok (.invokestatic 115, 3) := by decide +kernel
theorem d_X10_asks_17 : decode prog_1_method_4_code 17 = .ok (.ifCond .ne 6, 3) := by decide +kernel
theorem d_X10_asks_20 : decode prog_1_method_4_code 20 = .ok (.ldc 144, 2) := by decide +kernel
theorem d_X10_asks_22 : decode prog_1_method_4_code 22 = .ok (.ireturn, 1) := by decide +kernel
theorem d_X10_asks_23 : decode prog_1_method_4_code 23 = .ok (.aload_n 0, 1) := by decide +kernel
theorem d_X10_asks_24 : decode prog_1_method_4_code 24 = .ok (.getfield 70, 3) := by decide +kernel
theorem d_X10_asks_27 : decode prog_1_method_4_code 27 = .ok (.aload_n 0, 1) := by decide +kernel
theorem d_X10_asks_28 : decode prog_1_method_4_code 28 = .ok (.getfield 14, 3) := by decide +kernel
theorem d_X10_asks_31 : decode prog_1_method_4_code 31 = .ok (.aload_n 0, 1) := by decide +kernel
theorem d_X10_asks_32 : decode prog_1_method_4_code 32 = .ok (.getfield 14, 3) := by decide +kernel
theorem d_X10_asks_35 : decode prog_1_method_4_code 35 = .ok (.invokevirtual 145, 3) := by decide +kernel
theorem d_X10_asks_38 : decode prog_1_method_4_code 38 = .ok (.iload_n 1, 1) := by decide +kernel
theorem d_X10_asks_39 : decode prog_1_method_4_code 39 = .ok (.iload_n 2, 1) := by decide +kernel
theorem d_X10_asks_40 : decode prog_1_method_4_code 40 = .ok (.invokevirtual 149, 3) := by decide +kernel
theorem d_X10_asks_43 : decode prog_1_method_4_code 43 = .ok (.ireturn, 1) := by decide +kernel
theorem d_X10_stand_0 : decode prog_1_method_5_code 0 = .ok (.iload_n 2, 1) := by decide +kernel
theorem d_X10_stand_1 : decode prog_1_method_5_code 1 = .ok (.iconst (-1), 1) := by decide +kernel
theorem d_X10_stand_2 : decode prog_1_method_5_code 2 = .ok (.if_icmp .eq 25, 3) := by decide +kernel
theorem d_X10_stand_5 : decode prog_1_method_5_code 5 = .ok (.iload_n 2, 1) := by decide +kernel
theorem d_X10_stand_6 : decode prog_1_method_5_code 6 = .ok (.iload_n 1, 1) := by decide +kernel
theorem d_X10_stand_7 : decode prog_1_method_5_code 7 = .ok (.if_icmp .eq 14, 3) := by decide +kernel
theorem d_X10_stand_10 : decode prog_1_method_5_code 10 = .ok (.aload_n 0, 1) := by decide +kernel
theorem d_X10_stand_11 : decode prog_1_method_5_code 11 = .ok (.getfield 14, 3) := by decide +kernel
theorem d_X10_stand_14 : decode prog_1_method_5_code 14 = .ok (.iload_n 2, 1) := by decide +kernel
theorem d_X10_stand_15 : decode prog_1_method_5_code 15 = .ok (.invokevirtual 140, 3) := by decide +kernel
theorem d_X10_stand_18 : decode prog_1_method_5_code 18 = .ok (.ifCond .ne 9, 3) := by decide +kernel
theorem d_X10_stand_21 : decode prog_1_method_5_code 21 = .ok (.aload_n 0, 1) := by decide +kernel
theorem d_X10_stand_22 : decode prog_1_method_5_code 22 = .ok (.iconst (-1), 1) := by decide +kernel
theorem d_X10_stand_23 : decode prog_1_method_5_code 23 = .ok (.invokevirtual 119, 3) := by decide +kernel
theorem d_X10_stand_26 : decode prog_1_method_5_code 26 = .ok (.ireturn, 1) := by decide +kernel
theorem d_X10_stand_27 : decode prog_1_method_5_code 27 = .ok (.aload_n 0, 1) := by decide +kernel
theorem d_X10_stand_28 : decode prog_1_method_5_code 28 = .ok (.getfield 14, 3) := by decide +kernel
theorem d_X10_stand_31 : decode prog_1_method_5_code 31 = .ok (.iload_n 1, 1) := by decide +kernel
theorem d_X10_stand_32 : decode prog_1_method_5_code 32 = .ok (.invokevirtual 140, 3) := by decide +kernel
theorem d_X10_stand_35 : decode prog_1_method_5_code 35 = .ok (.ifCond .ne 10, 3) := by decide +kernel
theorem d_X10_stand_38 : decode prog_1_method_5_code 38 = .ok (.aload_n 0, 1) := by decide +kernel
theorem d_X10_stand_39 : decode prog_1_method_5_code 39 = .ok (.bipush (-2), 2) := by decide +kernel
theorem d_X10_stand_41 : decode prog_1_method_5_code 41 = .ok (.invokevirtual 119, 3) := by decide +kernel
theorem d_X10_stand_44 : decode prog_1_method_5_code 44 = .ok (.ireturn, 1) := by decide +kernel
theorem d_X10_stand_45 : decode prog_1_method_5_code 45 = .ok (.aload_n 0, 1) := by decide +kernel
theorem d_X10_stand_46 : decode prog_1_method_5_code 46 = .ok (.getfield 14, 3) := by decide +kernel
theorem d_X10_stand_49 : decode prog_1_method_5_code 49 = .ok (.iload_n 1, 1) := by decide +kernel
theorem d_X10_stand_50 : decode prog_1_method_5_code 50 = .ok (.bipush 6, 2) := by decide +kernel
theorem d_X10_stand_52 : decode prog_1_method_5_code 52 = .ok (.iload_n 2, 1) := by decide +kernel
theorem d_X10_stand_53 : decode prog_1_method_5_code 53 = .ok (.invokevirtual 153, 3) := by decide +kernel
theorem d_X10_stand_56 : decode prog_1_method_5_code 56 = .ok (.aload_n 0, 1) := by decide +kernel
theorem d_X10_stand_57 : decode prog_1_method_5_code 57 = .ok (.getfield 35, 3) := by decide +kernel
theorem d_X10_stand_60 : decode prog_1_method_5_code 60 = .ok (.invokevirtual 126, 3) := by decide +kernel
theorem d_X10_stand_63 : decode prog_1_method_5_code 63 = .ok (.aload_n 0, 1) := by decide +kernel
theorem d_X10_stand_64 : decode prog_1_method_5_code 64 = .ok (.iconst 0, 1) := by decide +kernel
theorem d_X10_stand_65 : decode prog_1_method_5_code 65 = .ok (.invokevirtual 133, 3) := by decide +kernel
theorem d_X10_stand_68 : decode prog_1_method_5_code 68 = .ok (.ireturn, 1) := by decide +kernel
theorem d_X10_person_0 : decode prog_1_method_6_code 0 = .ok (.aload_n 0, 1) := by decide +kernel
theorem d_X10_person_1 : decode prog_1_method_6_code 1 = .ok (.getfield 14, 3) := by decide +kernel
theorem d_X10_person_4 : decode prog_1_method_6_code 4 = .ok (.getfield 157, 3) := by decide +kernel
theorem d_X10_person_7 : decode prog_1_method_6_code 7 = .ok (.iconst 5, 1) := by decide +kernel
theorem d_X10_person_8 : decode prog_1_method_6_code 8 = .ok (.if_icmp .lt 10, 3) := by decide +kernel
theorem d_X10_person_11 : decode prog_1_method_6_code 11 = .ok (.aload_n 0, 1) := by decide +kernel
theorem d_X10_person_12 : decode prog_1_method_6_code 12 = .ok (.bipush (-5), 2) := by decide +kernel
theorem d_X10_person_14 : decode prog_1_method_6_code 14 = .ok (.invokevirtual 119, 3) := by decide +kernel
theorem d_X10_person_17 : decode prog_1_method_6_code 17 = .ok (.ireturn, 1) := by decide +kernel
theorem d_X10_person_18 : decode prog_1_method_6_code 18 = .ok (.aload_n 0, 1) := by decide +kernel
theorem d_X10_person_19 : decode prog_1_method_6_code 19 = .ok (.getfield 14, 3) := by decide +kernel
theorem d_X10_person_22 : decode prog_1_method_6_code 22 = .ok (.dup, 1) := by decide +kernel
theorem d_X10_person_23 : decode prog_1_method_6_code 23 = .ok (.getfield 157, 3) := by decide +kernel
theorem d_X10_person_26 : decode prog_1_method_6_code 26 = .ok (.iconst 1, 1) := by decide +kernel
theorem d_X10_person_27 : decode prog_1_method_6_code 27 = .ok (.iadd, 1) := by decide +kernel
theorem d_X10_person_28 : decode prog_1_method_6_code 28 = .ok (.putfield 157, 3) := by decide +kernel
theorem d_X10_person_31 : decode prog_1_method_6_code 31 = .ok (.aload_n 0, 1) := by decide +kernel
theorem d_X10_person_32 : decode prog_1_method_6_code 32 = .ok (.aload_n 0, 1) := by decide +kernel
theorem d_X10_person_33 : decode prog_1_method_6_code 33 = .ok (.getfield 14, 3) := by decide +kernel
theorem d_X10_person_36 : decode prog_1_method_6_code 36 = .ok (.getfield 157, 3) := by decide +kernel
theorem d_X10_person_39 : decode prog_1_method_6_code 39 = .ok (.iconst 1, 1) := by decide +kernel
theorem d_X10_person_40 : decode prog_1_method_6_code 40 = .ok (.isub, 1) := by decide +kernel
theorem d_X10_person_41 : decode prog_1_method_6_code 41 = .ok (.invokevirtual 133, 3) := by decide +kernel
theorem d_X10_person_44 : decode prog_1_method_6_code 44 = .ok (.ireturn, 1) := by decide +kernel
theorem d_X10_own_0 : decode prog_1_method_7_code 0 = .ok (.iload_n 3, 1) := by decide +kernel
theorem d_X10_own_1 : decode prog_1_method_7_code 1 = .ok (.iconst 0, 1) := by decide +kernel
theorem d_X10_own_2 : decode prog_1_method_7_code 2 = .ok (.bipush 9, 2) := by decide +kernel
theorem d_X10_own_4 : decode prog_1_method_7_code 4 = .ok (.invokestatic 115, 3) := by decide +kernel
theorem d_X10_own_7 : decode prog_1_method_7_code 7 = .ok (.ifCond .ne 9, 3) := by decide +kernel
theorem d_X10_own_10 : decode prog_1_method_7_code 10 = .ok (.aload_n 0, 1) := by decide +kernel
theorem d_X10_own_11 : decode prog_1_method_7_code 11 = .ok (.iconst (-1), 1) := by decide +kernel
theorem d_X10_own_12 : decode prog_1_method_7_code 12 = .ok (.invokevirtual 119, 3) := by decide +kernel
theorem d_X10_own_15 : decode prog_1_method_7_code 15 = .ok (.ireturn, 1) := by decide +kernel
theorem d_X10_own_16 : decode prog_1_method_7_code 16 = .ok (.iload_n 1, 1) := by decide +kernel
theorem d_X10_own_17 : decode prog_1_method_7_code 17 = .ok (.iconst 0, 1) := by decide +kernel
theorem d_X10_own_18 : decode prog_1_method_7_code 18 = .ok (.aload_n 0, 1) := by decide +kernel
theorem d_X10_own_19 : decode prog_1_method_7_code 19 = .ok (.getfield 14, 3) := by decide +kernel
theorem d_X10_own_22 : decode prog_1_method_7_code 22 = .ok (.getfield 157, 3) := by decide +kernel
theorem d_X10_own_25 : decode prog_1_method_7_code 25 = .ok (.iconst 1, 1) := by decide +kernel
theorem d_X10_own_26 : decode prog_1_method_7_code 26 = .ok (.isub, 1) := by decide +kernel
theorem d_X10_own_27 : decode prog_1_method_7_code 27 = .ok (.invokestatic 115, 3) := by decide +kernel
theorem d_X10_own_30 : decode prog_1_method_7_code 30 = .ok (.ifCond .eq 14, 3) := by decide +kernel
theorem d_X10_own_33 : decode prog_1_method_7_code 33 = .ok (.aload_n 0, 1) := by decide +kernel
theorem d_X10_own_34 : decode prog_1_method_7_code 34 = .ok (.getfield 14, 3) := by decide +kernel
theorem d_X10_own_37 : decode prog_1_method_7_code 37 = .ok (.iload_n 2, 1) := by decide +kernel
theorem d_X10_own_38 : decode prog_1_method_7_code 38 = .ok (.invokevirtual 140, 3) := by decide +kernel
theorem d_X10_own_41 : decode prog_1_method_7_code 41 = .ok (.ifCond .ne 10, 3) := by decide +kernel
theorem d_X10_own_44 : decode prog_1_method_7_code 44 = .ok (.aload_n 0, 1) := by decide +kernel
theorem d_X10_own_45 : decode prog_1_method_7_code 45 = .ok (.bipush (-2), 2) := by decide +kernel
theorem d_X10_own_47 : decode prog_1_method_7_code 47 = .ok (.invokevirtual 119, 3) := by decide +kernel
theorem d_X10_own_50 : decode prog_1_method_7_code 50 = .ok (.ireturn, 1) := by decide +kernel
theorem d_X10_own_51 : decode prog_1_method_7_code 51 = .ok (.aload_n 0, 1) := by decide +kernel
theorem d_X10_own_52 : decode prog_1_method_7_code 52 = .ok (.getfield 14, 3) := by decide +kernel
theorem d_X10_own_55 : decode prog_1_method_7_code 55 = .ok (.iload_n 1, 1) := by decide +kernel
theorem d_X10_own_56 : decode prog_1_method_7_code 56 = .ok (.iload_n 2, 1) := by decide +kernel
theorem d_X10_own_57 : decode prog_1_method_7_code 57 = .ok (.invokevirtual 160, 3) := by decide +kernel
theorem d_X10_own_60 : decode prog_1_method_7_code 60 = .ok (.istore 4, 2) := by decide +kernel
theorem d_X10_own_62 : decode prog_1_method_7_code 62 = .ok (.aload_n 0, 1) := by decide +kernel
theorem d_X10_own_63 : decode prog_1_method_7_code 63 = .ok (.getfield 14, 3) := by decide +kernel
theorem d_X10_own_66 : decode prog_1_method_7_code 66 = .ok (.getfield 163, 3) := by decide +kernel
theorem d_X10_own_69 : decode prog_1_method_7_code 69 = .ok (.iload_n 1, 1) := by decide +kernel
theorem d_X10_own_70 : decode prog_1_method_7_code 70 = .ok (.bipush 8, 2) := by decide +kernel
theorem d_X10_own_72 : decode prog_1_method_7_code 72 = .ok (.imul, 1) := by decide +kernel
theorem d_X10_own_73 : decode prog_1_method_7_code 73 = .ok (.iload_n 2, 1) := by decide +kernel
theorem d_X10_own_74 : decode prog_1_method_7_code 74 = .ok (.iadd, 1) := by decide +kernel
theorem d_X10_own_75 : decode prog_1_method_7_code 75 = .ok (.iload_n 3, 1) := by decide +kernel
theorem d_X10_own_76 : decode prog_1_method_7_code 76 = .ok (.iastore, 1) := by decide +kernel
theorem d_X10_own_77 : decode prog_1_method_7_code 77 = .ok (.aload_n 0, 1) := by decide +kernel
theorem d_X10_own_78 : decode prog_1_method_7_code 78 = .ok (.iload 4, 2) := by decide +kernel
theorem d_X10_own_80 : decode prog_1_method_7_code 80 = .ok (.invokevirtual 133, 3) := by decide +kernel
theorem d_X10_own_83 : decode prog_1_method_7_code 83 = .ok (.ireturn, 1) := by decide +kernel
theorem d_X10_terms_0 : decode prog_1_method_8_code 0 = .ok (.iload_n 1, 1) := by decide +kernel
theorem d_X10_terms_1 : decode prog_1_method_8_code 1 = .ok (.iconst 0, 1) := by decide +kernel
theorem d_X10_terms_2 : decode prog_1_method_8_code 2 = .ok (.iconst 2, 1) := by decide +kernel
theorem d_X10_terms_3 : decode prog_1_method_8_code 3 = .ok (.invokestatic 115, 3) := by decide +kernel
theorem d_X10_terms_6 : decode prog_1_method_8_code 6 = .ok (.ifCond .eq 16, 3) := by decide +kernel
theorem d_X10_terms_9 : decode prog_1_method_8_code 9 = .ok (.iload_n 2, 1) := by decide +kernel
theorem d_X10_terms_10 : decode prog_1_method_8_code 10 = .ok (.iconst 0, 1) := by decide +kernel
theorem d_X10_terms_11 : decode prog_1_method_8_code 11 = .ok (.getstatic 166, 3) := by decide +kernel
theorem d_X10_terms_14 : decode prog_1_method_8_code 14 = .ok (.iload_n 1, 1) := by decide +kernel
theorem d_X10_terms_15 : decode prog_1_method_8_code 15 = .ok (.iaload, 1) := by decide +kernel
theorem d_X10_terms_16 : decode prog_1_method_8_code 16 = .ok (.invokestatic 115, 3) := by decide +kernel
theorem d_X10_terms_19 : decode prog_1_method_8_code 19 = .ok (.ifCond .ne 9, 3) := by decide +kernel
theorem d_X10_terms_22 : decode prog_1_method_8_code 22 = .ok (.aload_n 0, 1) := by decide +kernel
theorem d_X10_terms_23 : decode prog_1_method_8_code 23 = .ok (.iconst (-1), 1) := by decide +kernel
theorem d_X10_terms_24 : decode prog_1_method_8_code 24 = .ok (.invokevirtual 119, 3) := by decide +kernel
theorem d_X10_terms_27 : decode prog_1_method_8_code 27 = .ok (.ireturn, 1) := by decide +kernel
theorem d_X10_terms_28 : decode prog_1_method_8_code 28 = .ok (.aload_n 0, 1) := by decide +kernel
theorem d_X10_terms_29 : decode prog_1_method_8_code 29 = .ok (.getfield 14, 3) := by decide +kernel
theorem d_X10_terms_32 : decode prog_1_method_8_code 32 = .ok (.getfield 169, 3) := by decide +kernel
theorem d_X10_terms_35 : decode prog_1_method_8_code 35 = .ok (.iload_n 1, 1) := by decide +kernel
theorem d_X10_terms_36 : decode prog_1_method_8_code 36 = .ok (.iaload, 1) := by decide +kernel
theorem d_X10_terms_37 : decode prog_1_method_8_code 37 = .ok (.istore_n 3, 1) := by decide +kernel
theorem d_X10_terms_38 : decode prog_1_method_8_code 38 = .ok (.aload_n 0, 1) := by decide +kernel
theorem d_X10_terms_39 : decode prog_1_method_8_code 39 = .ok (.getfield 14, 3) := by decide +kernel
theorem d_X10_terms_42 : decode prog_1_method_8_code 42 = .ok (.getfield 169, 3) := by decide +kernel
theorem d_X10_terms_45 : decode prog_1_method_8_code 45 = .ok (.iload_n 1, 1) := by decide +kernel
theorem d_X10_terms_46 : decode prog_1_method_8_code 46 = .ok (.iload_n 2, 1) := by decide +kernel
theorem d_X10_terms_47 : decode prog_1_method_8_code 47 = .ok (.iastore, 1) := by decide +kernel
theorem d_X10_terms_48 : decode prog_1_method_8_code 48 = .ok (.aload_n 0, 1) := by decide +kernel
theorem d_X10_terms_49 : decode prog_1_method_8_code 49 = .ok (.getfield 35, 3) := by decide +kernel
theorem d_X10_terms_52 : decode prog_1_method_8_code 52 = .ok (.invokevirtual 126, 3) := by decide +kernel
theorem d_X10_terms_55 : decode prog_1_method_8_code 55 = .ok (.aload_n 0, 1) := by decide +kernel
theorem d_X10_terms_56 : decode prog_1_method_8_code 56 = .ok (.iload_n 3, 1) := by decide +kernel
theorem d_X10_terms_57 : decode prog_1_method_8_code 57 = .ok (.invokevirtual 133, 3) := by decide +kernel
theorem d_X10_terms_60 : decode prog_1_method_8_code 60 = .ok (.ireturn, 1) := by decide +kernel
theorem d_X10_feed_0 : decode prog_1_method_9_code 0 = .ok (.aload_n 0, 1) := by decide +kernel
theorem d_X10_feed_1 : decode prog_1_method_9_code 1 = .ok (.getfield 45, 3) := by decide +kernel
theorem d_X10_feed_4 : decode prog_1_method_9_code 4 = .ok (.getfield 172, 3) := by decide +kernel
theorem d_X10_feed_7 : decode prog_1_method_9_code 7 = .ok (.bipush 20, 2) := by decide +kernel
theorem d_X10_feed_9 : decode prog_1_method_9_code 9 = .ok (.iadd, 1) := by decide +kernel
theorem d_X10_feed_10 : decode prog_1_method_9_code 10 = .ok (.sipush 400, 3) := by decide +kernel
theorem d_X10_feed_13 : decode prog_1_method_9_code 13 = .ok (.if_icmp .le 5, 3) := by decide +kernel
theorem d_X10_feed_16 : decode prog_1_method_9_code 16 = .ok (.iconst (-1), 1) := by decide +kernel
theorem d_X10_feed_17 : decode prog_1_method_9_code 17 = .ok (.ireturn, 1) := by decide +kernel
theorem d_X10_feed_18 : decode prog_1_method_9_code 18 = .ok (.aload_n 0, 1) := by decide +kernel
theorem d_X10_feed_19 : decode prog_1_method_9_code 19 = .ok (.getfield 45, 3) := by decide +kernel
theorem d_X10_feed_22 : decode prog_1_method_9_code 22 = .ok (.iload_n 1, 1) := by decide +kernel
theorem d_X10_feed_23 : decode prog_1_method_9_code 23 = .ok (.invokevirtual 175, 3) := by decide +kernel
theorem d_X10_feed_26 : decode prog_1_method_9_code 26 = .ok (.aload_n 0, 1) := by decide +kernel
theorem d_X10_feed_27 : decode prog_1_method_9_code 27 = .ok (.getfield 45, 3) := by decide +kernel
theorem d_X10_feed_30 : decode prog_1_method_9_code 30 = .ok (.iload_n 2, 1) := by decide +kernel
theorem d_X10_feed_31 : decode prog_1_method_9_code 31 = .ok (.invokevirtual 175, 3) := by decide +kernel
theorem d_X10_feed_34 : decode prog_1_method_9_code 34 = .ok (.aload_n 0, 1) := by decide +kernel
theorem d_X10_feed_35 : decode prog_1_method_9_code 35 = .ok (.getfield 45, 3) := by decide +kernel
theorem d_X10_feed_38 : decode prog_1_method_9_code 38 = .ok (.iload_n 3, 1) := by decide +kernel
theorem d_X10_feed_39 : decode prog_1_method_9_code 39 = .ok (.invokevirtual 175, 3) := by decide +kernel
theorem d_X10_feed_42 : decode prog_1_method_9_code 42 = .ok (.aload_n 0, 1) := by decide +kernel
theorem d_X10_feed_43 : decode prog_1_method_9_code 43 = .ok (.getfield 45, 3) := by decide +kernel
theorem d_X10_feed_46 : decode prog_1_method_9_code 46 = .ok (.iload 4, 2) := by decide +kernel
theorem d_X10_feed_48 : decode prog_1_method_9_code 48 = .ok (.invokevirtual 175, 3) := by decide +kernel
theorem d_X10_feed_51 : decode prog_1_method_9_code 51 = .ok (.aload_n 0, 1) := by decide +kernel
theorem d_X10_feed_52 : decode prog_1_method_9_code 52 = .ok (.getfield 45, 3) := by decide +kernel
theorem d_X10_feed_55 : decode prog_1_method_9_code 55 = .ok (.iload 5, 2) := by decide +kernel
theorem d_X10_feed_57 : decode prog_1_method_9_code 57 = .ok (.invokevirtual 175, 3) := by decide +kernel
theorem d_X10_feed_60 : decode prog_1_method_9_code 60 = .ok (.aload_n 0, 1) := by decide +kernel
theorem d_X10_feed_61 : decode prog_1_method_9_code 61 = .ok (.getfield 45, 3) := by decide +kernel
theorem d_X10_feed_64 : decode prog_1_method_9_code 64 = .ok (.getfield 172, 3) := by decide +kernel
theorem d_X10_feed_67 : decode prog_1_method_9_code 67 = .ok (.ireturn, 1) := by decide +kernel
theorem d_X10_end_0 : decode prog_1_method_10_code 0 = .ok (.iload_n 1, 1) := by decide +kernel
theorem d_X10_end_1 : decode prog_1_method_10_code 1 = .ok (.iconst 0, 1) := by decide +kernel
theorem d_X10_end_2 : decode prog_1_method_10_code 2 = .ok (.aload_n 0, 1) := by decide +kernel
theorem d_X10_end_3 : decode prog_1_method_10_code 3 = .ok (.getfield 45, 3) := by decide +kernel
theorem d_X10_end_6 : decode prog_1_method_10_code 6 = .ok (.getfield 172, 3) := by decide +kernel
theorem d_X10_end_9 : decode prog_1_method_10_code 9 = .ok (.invokestatic 115, 3) := by decide +kernel
theorem d_X10_end_12 : decode prog_1_method_10_code 12 = .ok (.ifCond .ne 5, 3) := by decide +kernel
theorem d_X10_end_15 : decode prog_1_method_10_code 15 = .ok (.iconst (-1), 1) := by decide +kernel
theorem d_X10_end_16 : decode prog_1_method_10_code 16 = .ok (.ireturn, 1) := by decide +kernel
theorem d_X10_end_17 : decode prog_1_method_10_code 17 = .ok (.aload_n 0, 1) := by decide +kernel
theorem d_X10_end_18 : decode prog_1_method_10_code 18 = .ok (.getfield 45, 3) := by decide +kernel
theorem d_X10_end_21 : decode prog_1_method_10_code 21 = .ok (.iload_n 1, 1) := by decide +kernel
theorem d_X10_end_22 : decode prog_1_method_10_code 22 = .ok (.putfield 172, 3) := by decide +kernel
theorem d_X10_end_25 : decode prog_1_method_10_code 25 = .ok (.iload_n 1, 1) := by decide +kernel
theorem d_X10_end_26 : decode prog_1_method_10_code 26 = .ok (.ireturn, 1) := by decide +kernel
theorem d_X10_row_0 : decode prog_1_method_11_code 0 = .ok (.aload_n 0, 1) := by decide +kernel
theorem d_X10_row_1 : decode prog_1_method_11_code 1 = .ok (.getfield 45, 3) := by decide +kernel
theorem d_X10_row_4 : decode prog_1_method_11_code 4 = .ok (.getfield 172, 3) := by decide +kernel
theorem d_X10_row_7 : decode prog_1_method_11_code 7 = .ok (.ifCond .ne 10, 3) := by decide +kernel
theorem d_X10_row_10 : decode prog_1_method_11_code 10 = .ok (.aload_n 0, 1) := by decide +kernel
theorem d_X10_row_11 : decode prog_1_method_11_code 11 = .ok (.bipush (-6), 2) := by decide +kernel
theorem d_X10_row_13 : decode prog_1_method_11_code 13 = .ok (.invokevirtual 119, 3) := by decide +kernel
theorem d_X10_row_16 : decode prog_1_method_11_code 16 = .ok (.ireturn, 1) := by decide +kernel
theorem d_X10_row_17 : decode prog_1_method_11_code 17 = .ok (.iconst 0, 1) := by decide +kernel
theorem d_X10_row_18 : decode prog_1_method_11_code 18 = .ok (.istore_n 1, 1) := by decide +kernel
theorem d_X10_row_19 : decode prog_1_method_11_code 19 = .ok (.aload_n 0, 1) := by decide +kernel
theorem d_X10_row_20 : decode prog_1_method_11_code 20 = .ok (.iconst 0, 1) := by decide +kernel
theorem d_X10_row_21 : decode prog_1_method_11_code 21 = .ok (.putfield 102, 3) := by decide +kernel
theorem d_X10_row_24 : decode prog_1_method_11_code 24 = .ok (.iconst 0, 1) := by decide +kernel
theorem d_X10_row_25 : decode prog_1_method_11_code 25 = .ok (.istore_n 2, 1) := by decide +kernel
theorem d_X10_row_26 : decode prog_1_method_11_code 26 = .ok (.iload_n 2, 1) := by decide +kernel
theorem d_X10_row_27 : decode prog_1_method_11_code 27 = .ok (.aload_n 0, 1) := by decide +kernel
theorem d_X10_row_28 : decode prog_1_method_11_code 28 = .ok (.getfield 45, 3) := by decide +kernel
theorem d_X10_row_31 : decode prog_1_method_11_code 31 = .ok (.getfield 172, 3) := by decide +kernel
theorem d_X10_row_34 : decode prog_1_method_11_code 34 = .ok (.if_icmp .ge 33, 3) := by decide +kernel
theorem d_X10_row_37 : decode prog_1_method_11_code 37 = .ok (.aload_n 0, 1) := by decide +kernel
theorem d_X10_row_38 : decode prog_1_method_11_code 38 = .ok (.iload_n 2, 1) := by decide +kernel
theorem d_X10_row_39 : decode prog_1_method_11_code 39 = .ok (.invokevirtual 179, 3) := by decide +kernel
theorem d_X10_row_42 : decode prog_1_method_11_code 42 = .ok (.ifCond .eq 9, 3) := by decide +kernel
theorem d_X10_row_45 : decode prog_1_method_11_code 45 = .ok (.iinc 1 1, 3) := by decide +kernel
theorem d_X10_row_48 : decode prog_1_method_11_code 48 = .ok (.goto 13, 3) := by decide +kernel
theorem d_X10_row_51 : decode prog_1_method_11_code 51 = .ok (.aload_n 0, 1) := by decide +kernel
theorem d_X10_row_52 : decode prog_1_method_11_code 52 = .ok (.dup, 1) := by decide +kernel
theorem d_X10_row_53 : decode prog_1_method_11_code 53 = .ok (.getfield 102, 3) := by decide +kernel
theorem d_X10_row_56 : decode prog_1_method_11_code 56 = .ok (.iconst 1, 1) := by decide +kernel
theorem d_X10_row_57 : decode prog_1_method_11_code 57 = .ok (.iadd, 1) := by decide +kernel
theorem d_X10_row_58 : decode prog_1_method_11_code 58 = .ok (.putfield 102, 3) := by decide +kernel
theorem d_X10_row_61 : decode prog_1_method_11_code 61 = .ok (.iinc 2 4, 3) := by decide +kernel
theorem d_X10_row_64 : decode prog_1_method_11_code 64 = .ok (.goto (-38), 3) := by decide +kernel
theorem d_X10_row_67 : decode prog_1_method_11_code 67 = .ok (.aload_n 0, 1) := by decide +kernel
theorem d_X10_row_68 : decode prog_1_method_11_code 68 = .ok (.getfield 45, 3) := by decide +kernel
theorem d_X10_row_71 : decode prog_1_method_11_code 71 = .ok (.iconst 0, 1) := by decide +kernel
theorem d_X10_row_72 : decode prog_1_method_11_code 72 = .ok (.putfield 172, 3) := by decide +kernel
theorem d_X10_row_75 : decode prog_1_method_11_code 75 = .ok (.aload_n 0, 1) := by decide +kernel
theorem d_X10_row_76 : decode prog_1_method_11_code 76 = .ok (.getfield 35, 3) := by decide +kernel
theorem d_X10_row_79 : decode prog_1_method_11_code 79 = .ok (.invokevirtual 126, 3) := by decide +kernel
theorem d_X10_row_82 : decode prog_1_method_11_code 82 = .ok (.aload_n 0, 1) := by decide +kernel
theorem d_X10_row_83 : decode prog_1_method_11_code 83 = .ok (.iload_n 1, 1) := by decide +kernel
theorem d_X10_row_84 : decode prog_1_method_11_code 84 = .ok (.invokevirtual 133, 3) := by decide +kernel
theorem d_X10_row_87 : decode prog_1_method_11_code 87 = .ok (.ireturn, 1) := by decide +kernel
theorem d_X10_addFromTape_0 : decode prog_1_method_12_code 0 = .ok (.iload_n 1, 1) := by decide +kernel
theorem d_X10_addFromTape_1 : decode prog_1_method_12_code 1 = .ok (.iconst 4, 1) := by decide +kernel
theorem d_X10_addFromTape_2 : decode prog_1_method_12_code 2 = .ok (.iadd, 1) := by decide +kernel
theorem d_X10_addFromTape_3 : decode prog_1_method_12_code 3 = .ok (.aload_n 0, 1) := by decide +kernel
theorem d_X10_addFromTape_4 : decode prog_1_method_12_code 4 = .ok (.getfield 45, 3) := by decide +kernel
theorem d_X10_addFromTape_7 : decode prog_1_method_12_code 7 = .ok (.getfield 172, 3) := by decide +kernel
theorem d_X10_addFromTape_10 : decode prog_1_method_12_code 10 = .ok (.if_icmp .gt 15, 3) := by decide +kernel
theorem d_X10_addFromTape_13 : decode prog_1_method_12_code 13 = .ok (.aload_n 0, 1) := by decide +kernel
theorem d_X10_addFromTape_14 : decode prog_1_method_12_code 14 = .ok (.getfield 14, 3) := by decide +kernel
theorem d_X10_addFromTape_17 : decode prog_1_method_12_code 17 = .ok (.getfield 123, 3) := by decide +kernel
theorem d_X10_addFromTape_20 : decode prog_1_method_12_code 20 = .ok (.bipush 8, 2) := by decide +kernel
theorem d_X10_addFromTape_22 : decode prog_1_method_12_code 22 = .ok (.if_icmp .lt 5, 3) := by decide +kernel
theorem d_X10_addFromTape_25 : decode prog_1_method_12_code 25 = .ok (.iconst 0, 1) := by decide +kernel
theorem d_X10_addFromTape_26 : decode prog_1_method_12_code 26 = .ok (.ireturn, 1) := by decide +kernel
theorem d_X10_addFromTape_27 : decode prog_1_method_12_code 27 = .ok (.aload_n 0, 1) := by decide +kernel
theorem d_X10_addFromTape_28 : decode prog_1_method_12_code 28 = .ok (.getfield 45, 3) := by decide +kernel
theorem d_X10_addFromTape_31 : decode prog_1_method_12_code 31 = .ok (.iload_n 1, 1) := by decide +kernel
theorem d_X10_addFromTape_32 : decode prog_1_method_12_code 32 = .ok (.invokevirtual 182, 3) := by decide +kernel
theorem d_X10_addFromTape_35 : decode prog_1_method_12_code 35 = .ok (.istore_n 2, 1) := by decide +kernel
theorem d_X10_addFromTape_36 : decode prog_1_method_12_code 36 = .ok (.aload_n 0, 1) := by decide +kernel
theorem d_X10_addFromTape_37 : decode prog_1_method_12_code 37 = .ok (.getfield 45, 3) := by decide +kernel
theorem d_X10_addFromTape_40 : decode prog_1_method_12_code 40 = .ok (.iload_n 1, 1) := by decide +kernel
theorem d_X10_addFromTape_41 : decode prog_1_method_12_code 41 = .ok (.iconst 1, 1) := by decide +kernel
theorem d_X10_addFromTape_42 : decode prog_1_method_12_code 42 = .ok (.iadd, 1) := by decide +kernel
theorem d_X10_addFromTape_43 : decode prog_1_method_12_code 43 = .ok (.invokevirtual 182, 3) := by decide +kernel
theorem d_X10_addFromTape_46 : decode prog_1_method_12_code 46 = .ok (.istore_n 3, 1) := by decide +kernel
theorem d_X10_addFromTape_47 : decode prog_1_method_12_code 47 = .ok (.aload_n 0, 1) := by decide +kernel
theorem d_X10_addFromTape_48 : decode prog_1_method_12_code 48 = .ok (.getfield 45, 3) := by decide +kernel
theorem d_X10_addFromTape_51 : decode prog_1_method_12_code 51 = .ok (.iload_n 1, 1) := by decide +kernel
theorem d_X10_addFromTape_52 : decode prog_1_method_12_code 52 = .ok (.iconst 2, 1) := by decide +kernel
theorem d_X10_addFromTape_53 : decode prog_1_method_12_code 53 = .ok (.iadd, 1) := by decide +kernel
theorem d_X10_addFromTape_54 : decode prog_1_method_12_code 54 = .ok (.invokevirtual 182, 3) := by decide +kernel
theorem d_X10_addFromTape_57 : decode prog_1_method_12_code 57 = .ok (.istore 4, 2) := by decide +kernel
theorem d_X10_addFromTape_59 : decode prog_1_method_12_code 59 = .ok (.aload_n 0, 1) := by decide +kernel
theorem d_X10_addFromTape_60 : decode prog_1_method_12_code 60 = .ok (.getfield 45, 3) := by decide +kernel
theorem d_X10_addFromTape_63 : decode prog_1_method_12_code 63 = .ok (.iload_n 1, 1) := by decide +kernel
theorem d_X10_addFromTape_64 : decode prog_1_method_12_code 64 = .ok (.iconst 3, 1) := by decide +kernel
theorem d_X10_addFromTape_65 : decode prog_1_method_12_code 65 = .ok (.iadd, 1) := by decide +kernel
theorem d_X10_addFromTape_66 : decode prog_1_method_12_code 66 = .ok (.invokevirtual 182, 3) := by decide +kernel
theorem d_X10_addFromTape_69 : decode prog_1_method_12_code 69 = .ok (.istore 5, 2) := by decide +kernel
theorem d_X10_addFromTape_71 : decode prog_1_method_12_code 71 = .ok (.iload_n 2, 1) := by decide +kernel
theorem d_X10_addFromTape_72 : decode prog_1_method_12_code 72 = .ok (.iload_n 3, 1) := by decide +kernel
theorem d_X10_addFromTape_73 : decode prog_1_method_12_code 73 = .ok (.iload 4, 2) := by decide +kernel
theorem d_X10_addFromTape_75 : decode prog_1_method_12_code 75 = .ok (.iload 5, 2) := by decide +kernel
theorem d_X10_addFromTape_77 : decode prog_1_method_12_code 77 = .ok (.invokestatic 111, 3) := by decide +kernel
theorem d_X10_addFromTape_80 : decode prog_1_method_12_code 80 = .ok (.ifCond .ne 5, 3) := by decide +kernel
theorem d_X10_addFromTape_83 : decode prog_1_method_12_code 83 = .ok (.iconst 0, 1) := by decide +kernel
theorem d_X10_addFromTape_84 : decode prog_1_method_12_code 84 = .ok (.ireturn, 1) := by decide +kernel
theorem d_X10_addFromTape_85 : decode prog_1_method_12_code 85 = .ok (.aload_n 0, 1) := by decide +kernel
theorem d_X10_addFromTape_86 : decode prog_1_method_12_code 86 = .ok (.getfield 14, 3) := by decide +kernel
theorem d_X10_addFromTape_89 : decode prog_1_method_12_code 89 = .ok (.iload_n 2, 1) := by decide +kernel
theorem d_X10_addFromTape_90 : decode prog_1_method_12_code 90 = .ok (.iload_n 3, 1) := by decide +kernel
theorem d_X10_addFromTape_91 : decode prog_1_method_12_code 91 = .ok (.iload 4, 2) := by decide +kernel
theorem d_X10_addFromTape_93 : decode prog_1_method_12_code 93 = .ok (.iload 5, 2) := by decide +kernel
theorem d_X10_addFromTape_95 : decode prog_1_method_12_code 95 = .ok (.iconst 0, 1) := by decide +kernel
theorem d_X10_addFromTape_96 : decode prog_1_method_12_code 96 = .ok (.invokevirtual 129, 3) := by decide +kernel
theorem d_X10_addFromTape_99 : decode prog_1_method_12_code 99 = .ok (.pop, 1) := by decide +kernel
theorem d_X10_addFromTape_100 : decode prog_1_method_12_code 100 = .ok (.iconst 1, 1) := by decide +kernel
theorem d_X10_addFromTape_101 : decode prog_1_method_12_code 101 = .ok (.ireturn, 1) := by decide +kernel
theorem d_X10_commas_0 : decode prog_1_method_13_code 0 = .ok (.aload_n 0, 1) := by decide +kernel
theorem d_X10_commas_1 : decode prog_1_method_13_code 1 = .ok (.getfield 102, 3) := by decide +kernel
theorem d_X10_commas_4 : decode prog_1_method_13_code 4 = .ok (.ireturn, 1) := by decide +kernel
theorem d_X10_law_0 : decode prog_1_method_14_code 0 = .ok (.aload_n 0, 1) := by decide +kernel
theorem d_X10_law_1 : decode prog_1_method_14_code 1 = .ok (.getfield 14, 3) := by decide +kernel
theorem d_X10_law_4 : decode prog_1_method_14_code 4 = .ok (.getfield 185, 3) := by decide +kernel
theorem d_X10_law_7 : decode prog_1_method_14_code 7 = .ok (.bipush 6, 2) := by decide +kernel
theorem d_X10_law_9 : decode prog_1_method_14_code 9 = .ok (.if_icmp .lt 18, 3) := by decide +kernel
theorem d_X10_law_12 : decode prog_1_method_14_code 12 = .ok (.aload_n 0, 1) := by decide +kernel
theorem d_X10_law_13 : decode prog_1_method_14_code 13 = .ok (.getfield 45, 3) := by decide +kernel
theorem d_X10_law_16 : decode prog_1_method_14_code 16 = .ok (.iconst 0, 1) := by decide +kernel
theorem d_X10_law_17 : decode prog_1_method_14_code 17 = .ok (.putfield 172, 3) := by decide +kernel
theorem d_X10_law_20 : decode prog_1_method_14_code 20 = .ok (.aload_n 0, 1) := by decide +kernel
theorem d_X10_law_21 : decode prog_1_method_14_code 21 = .ok (.bipush (-5), 2) := by decide +kernel
theorem d_X10_law_23 : decode prog_1_method_14_code 23 = .ok (.invokevirtual 119, 3) := by decide +kernel
theorem d_X10_law_26 : decode prog_1_method_14_code 26 = .ok (.ireturn, 1) := by decide +kernel
theorem d_X10_law_27 : decode prog_1_method_14_code 27 = .ok (.aload_n 0, 1) := by decide +kernel
theorem d_X10_law_28 : decode prog_1_method_14_code 28 = .ok (.aload_n 0, 1) := by decide +kernel
theorem d_X10_law_29 : decode prog_1_method_14_code 29 = .ok (.getfield 54, 3) := by decide +kernel
theorem d_X10_law_32 : decode prog_1_method_14_code 32 = .ok (.iconst 0, 1) := by decide +kernel
theorem d_X10_law_33 : decode prog_1_method_14_code 33 = .ok (.invokevirtual 188, 3) := by decide +kernel
theorem d_X10_law_36 : decode prog_1_method_14_code 36 = .ok (.putfield 98, 3) := by decide +kernel
theorem d_X10_law_39 : decode prog_1_method_14_code 39 = .ok (.aload_n 0, 1) := by decide +kernel
theorem d_X10_law_40 : decode prog_1_method_14_code 40 = .ok (.getfield 98, 3) := by decide +kernel
theorem d_X10_law_43 : decode prog_1_method_14_code 43 = .ok (.iconst (-1), 1) := by decide +kernel
theorem d_X10_law_44 : decode prog_1_method_14_code 44 = .ok (.if_icmp .eq 10, 3) := by decide +kernel
theorem d_X10_law_47 : decode prog_1_method_14_code 47 = .ok (.aload_n 0, 1) := by decide +kernel
theorem d_X10_law_48 : decode prog_1_method_14_code 48 = .ok (.bipush (-6), 2) := by decide +kernel
theorem d_X10_law_50 : decode prog_1_method_14_code 50 = .ok (.invokevirtual 119, 3) := by decide +kernel
theorem d_X10_law_53 : decode prog_1_method_14_code 53 = .ok (.ireturn, 1) := by decide +kernel
theorem d_X10_law_54 : decode prog_1_method_14_code 54 = .ok (.aload_n 0, 1) := by decide +kernel
theorem d_X10_law_55 : decode prog_1_method_14_code 55 = .ok (.aload_n 0, 1) := by decide +kernel
theorem d_X10_law_56 : decode prog_1_method_14_code 56 = .ok (.getfield 14, 3) := by decide +kernel
theorem d_X10_law_59 : decode prog_1_method_14_code 59 = .ok (.new 191, 3) := by decide +kernel
theorem d_X10_law_62 : decode prog_1_method_14_code 62 = .ok (.dup, 1) := by decide +kernel
theorem d_X10_law_63 : decode prog_1_method_14_code 63 = .ok (.aload_n 0, 1) := by decide +kernel
theorem d_X10_law_64 : decode prog_1_method_14_code 64 = .ok (.getfield 54, 3) := by decide +kernel
theorem d_X10_law_67 : decode prog_1_method_14_code 67 = .ok (.getfield 193, 3) := by decide +kernel
theorem d_X10_law_70 : decode prog_1_method_14_code 70 = .ok (.invokespecial 197, 3) := by decide +kernel
theorem d_X10_law_73 : decode prog_1_method_14_code 73 = .ok (.invokevirtual 200, 3) := by decide +kernel
theorem d_X10_law_76 : decode prog_1_method_14_code 76 = .ok (.invokevirtual 133, 3) := by decide +kernel
theorem d_X10_law_79 : decode prog_1_method_14_code 79 = .ok (.ireturn, 1) := by decide +kernel
theorem d_X10_orders_0 : decode prog_1_method_15_code 0 = .ok (.aload_n 0, 1) := by decide +kernel
theorem d_X10_orders_1 : decode prog_1_method_15_code 1 = .ok (.iconst (-1), 1) := by decide +kernel
theorem d_X10_orders_2 : decode prog_1_method_15_code 2 = .ok (.putfield 105, 3) := by decide +kernel
theorem d_X10_orders_5 : decode prog_1_method_15_code 5 = .ok (.aload_n 0, 1) := by decide +kernel
theorem d_X10_orders_6 : decode prog_1_method_15_code 6 = .ok (.aload_n 0, 1) := by decide +kernel
theorem d_X10_orders_7 : decode prog_1_method_15_code 7 = .ok (.getfield 54, 3) := by decide +kernel
theorem d_X10_orders_10 : decode prog_1_method_15_code 10 = .ok (.iconst 1, 1) := by decide +kernel
theorem d_X10_orders_11 : decode prog_1_method_15_code 11 = .ok (.invokevirtual 188, 3) := by decide +kernel
theorem d_X10_orders_14 : decode prog_1_method_15_code 14 = .ok (.putfield 98, 3) := by decide +kernel
theorem d_X10_orders_17 : decode prog_1_method_15_code 17 = .ok (.aload_n 0, 1) := by decide +kernel
theorem d_X10_orders_18 : decode prog_1_method_15_code 18 = .ok (.getfield 98, 3) := by decide +kernel
theorem d_X10_orders_21 : decode prog_1_method_15_code 21 = .ok (.iconst (-1), 1) := by decide +kernel
theorem d_X10_orders_22 : decode prog_1_method_15_code 22 = .ok (.if_icmp .eq 10, 3) := by decide +kernel
theorem d_X10_orders_25 : decode prog_1_method_15_code 25 = .ok (.aload_n 0, 1) := by decide +kernel
theorem d_X10_orders_26 : decode prog_1_method_15_code 26 = .ok (.bipush (-6), 2) := by decide +kernel
theorem d_X10_orders_28 : decode prog_1_method_15_code 28 = .ok (.invokevirtual 119, 3) := by decide +kernel
theorem d_X10_orders_31 : decode prog_1_method_15_code 31 = .ok (.ireturn, 1) := by decide +kernel
theorem d_X10_orders_32 : decode prog_1_method_15_code 32 = .ok (.aload_n 0, 1) := by decide +kernel
theorem d_X10_orders_33 : decode prog_1_method_15_code 33 = .ok (.getfield 18, 3) := by decide +kernel
theorem d_X10_orders_36 : decode prog_1_method_15_code 36 = .ok (.aload_n 0, 1) := by decide +kernel
theorem d_X10_orders_37 : decode prog_1_method_15_code 37 = .ok (.getfield 14, 3) := by decide +kernel
theorem d_X10_orders_40 : decode prog_1_method_15_code 40 = .ok (.invokevirtual 204, 3) := by decide +kernel
theorem d_X10_orders_43 : decode prog_1_method_15_code 43 = .ok (.aload_n 0, 1) := by decide +kernel
theorem d_X10_orders_44 : decode prog_1_method_15_code 44 = .ok (.getfield 39, 3) := by decide +kernel
theorem d_X10_orders_47 : decode prog_1_method_15_code 47 = .ok (.aload_n 0, 1) := by decide +kernel
theorem d_X10_orders_48 : decode prog_1_method_15_code 48 = .ok (.getfield 35, 3) := by decide +kernel
theorem d_X10_orders_51 : decode prog_1_method_15_code 51 = .ok (.invokevirtual 208, 3) := by decide +kernel
theorem d_X10_orders_54 : decode prog_1_method_15_code 54 = .ok (.aload_n 0, 1) := by decide +kernel
theorem d_X10_orders_55 : decode prog_1_method_15_code 55 = .ok (.getfield 54, 3) := by decide +kernel
theorem d_X10_orders_58 : decode prog_1_method_15_code 58 = .ok (.getfield 193, 3) := by decide +kernel
theorem d_X10_orders_61 : decode prog_1_method_15_code 61 = .ok (.astore_n 1, 1) := by decide +kernel
theorem d_X10_orders_62 : decode prog_1_method_15_code 62 = .ok (.aload_n 0, 1) := by decide +kernel
theorem d_X10_orders_63 : decode prog_1_method_15_code 63 = .ok (.getfield 92, 3) := by decide +kernel
theorem d_X10_orders_66 : decode prog_1_method_15_code 66 = .ok (.iconst 1, 1) := by decide +kernel
theorem d_X10_orders_67 : decode prog_1_method_15_code 67 = .ok (.iconst 0, 1) := by decide +kernel
theorem d_X10_orders_68 : decode prog_1_method_15_code 68 = .ok (.iastore, 1) := by decide +kernel
theorem d_X10_orders_69 : decode prog_1_method_15_code 69 = .ok (.aload_n 0, 1) := by decide +kernel
theorem d_X10_orders_70 : decode prog_1_method_15_code 70 = .ok (.getfield 92, 3) := by decide +kernel
theorem d_X10_orders_73 : decode prog_1_method_15_code 73 = .ok (.iconst 2, 1) := by decide +kernel
theorem d_X10_orders_74 : decode prog_1_method_15_code 74 = .ok (.iconst (-1), 1) := by decide +kernel
theorem d_X10_orders_75 : decode prog_1_method_15_code 75 = .ok (.iastore, 1) := by decide +kernel
theorem d_X10_orders_76 : decode prog_1_method_15_code 76 = .ok (.iconst 0, 1) := by decide +kernel
theorem d_X10_orders_77 : decode prog_1_method_15_code 77 = .ok (.istore_n 2, 1) := by decide +kernel
theorem d_X10_orders_78 : decode prog_1_method_15_code 78 = .ok (.iload_n 2, 1) := by decide +kernel
theorem d_X10_orders_79 : decode prog_1_method_15_code 79 = .ok (.aload_n 1, 1) := by decide +kernel
theorem d_X10_orders_80 : decode prog_1_method_15_code 80 = .ok (.getfield 211, 3) := by decide +kernel
theorem d_X10_orders_83 : decode prog_1_method_15_code 83 = .ok (.if_icmp .ge 57, 3) := by decide +kernel
theorem d_X10_orders_86 : decode prog_1_method_15_code 86 = .ok (.aload_n 0, 1) := by decide +kernel
theorem d_X10_orders_87 : decode prog_1_method_15_code 87 = .ok (.getfield 105, 3) := by decide +kernel
theorem d_X10_orders_90 : decode prog_1_method_15_code 90 = .ok (.iconst (-1), 1) := by decide +kernel
theorem d_X10_orders_91 : decode prog_1_method_15_code 91 = .ok (.if_icmp .ne 49, 3) := by decide +kernel
theorem d_X10_orders_94 : decode prog_1_method_15_code 94 = .ok (.iconst 0, 1) := by decide +kernel
theorem d_X10_orders_95 : decode prog_1_method_15_code 95 = .ok (.istore_n 3, 1) := by decide +kernel
theorem d_X10_orders_96 : decode prog_1_method_15_code 96 = .ok (.iload_n 3, 1) := by decide +kernel
theorem d_X10_orders_97 : decode prog_1_method_15_code 97 = .ok (.aload_n 1, 1) := by decide +kernel
theorem d_X10_orders_98 : decode prog_1_method_15_code 98 = .ok (.getfield 214, 3) := by decide +kernel
theorem d_X10_orders_101 : decode prog_1_method_15_code 101 = .ok (.iload_n 2, 1) := by decide +kernel
theorem d_X10_orders_102 : decode prog_1_method_15_code 102 = .ok (.iaload, 1) := by decide +kernel
theorem d_X10_orders_103 : decode prog_1_method_15_code 103 = .ok (.if_icmp .ge 31, 3) := by decide +kernel
theorem d_X10_orders_106 : decode prog_1_method_15_code 106 = .ok (.aload_n 0, 1) := by decide +kernel
theorem d_X10_orders_107 : decode prog_1_method_15_code 107 = .ok (.getfield 105, 3) := by decide +kernel
theorem d_X10_orders_110 : decode prog_1_method_15_code 110 = .ok (.iconst (-1), 1) := by decide +kernel
theorem d_X10_orders_111 : decode prog_1_method_15_code 111 = .ok (.if_icmp .ne 23, 3) := by decide +kernel
theorem d_X10_orders_114 : decode prog_1_method_15_code 114 = .ok (.aload_n 0, 1) := by decide +kernel
theorem d_X10_orders_115 : decode prog_1_method_15_code 115 = .ok (.aload_n 1, 1) := by decide +kernel
theorem d_X10_orders_116 : decode prog_1_method_15_code 116 = .ok (.iload_n 2, 1) := by decide +kernel
theorem d_X10_orders_117 : decode prog_1_method_15_code 117 = .ok (.invokevirtual 217, 3) := by decide +kernel
theorem d_X10_orders_120 : decode prog_1_method_15_code 120 = .ok (.ifCond .ne 8, 3) := by decide +kernel
theorem d_X10_orders_123 : decode prog_1_method_15_code 123 = .ok (.aload_n 0, 1) := by decide +kernel
theorem d_X10_orders_124 : decode prog_1_method_15_code 124 = .ok (.iload_n 2, 1) := by decide +kernel
theorem d_X10_orders_125 : decode prog_1_method_15_code 125 = .ok (.putfield 105, 3) := by decide +kernel
theorem d_X10_orders_128 : decode prog_1_method_15_code 128 = .ok (.iinc 3 1, 3) := by decide +kernel
theorem d_X10_orders_131 : decode prog_1_method_15_code 131 = .ok (.goto (-35), 3) := by decide +kernel
theorem d_X10_orders_134 : decode prog_1_method_15_code 134 = .ok (.iinc 2 1, 3) := by decide +kernel
theorem d_X10_orders_137 : decode prog_1_method_15_code 137 = .ok (.goto (-59), 3) := by decide +kernel
theorem d_X10_orders_140 : decode prog_1_method_15_code 140 = .ok (.aload_n 0, 1) := by decide +kernel
theorem d_X10_orders_141 : decode prog_1_method_15_code 141 = .ok (.getfield 105, 3) := by decide +kernel
theorem d_X10_orders_144 : decode prog_1_method_15_code 144 = .ok (.iconst (-1), 1) := by decide +kernel
theorem d_X10_orders_145 : decode prog_1_method_15_code 145 = .ok (.if_icmp .eq 32, 3) := by decide +kernel
theorem d_X10_orders_148 : decode prog_1_method_15_code 148 = .ok (.aload_n 0, 1) := by decide +kernel
theorem d_X10_orders_149 : decode prog_1_method_15_code 149 = .ok (.getfield 14, 3) := by decide +kernel
theorem d_X10_orders_152 : decode prog_1_method_15_code 152 = .ok (.aload_n 0, 1) := by decide +kernel
theorem d_X10_orders_153 : decode prog_1_method_15_code 153 = .ok (.getfield 18, 3) := by decide +kernel
theorem d_X10_orders_156 : decode prog_1_method_15_code 156 = .ok (.invokevirtual 204, 3) := by decide +kernel
theorem d_X10_orders_159 : decode prog_1_method_15_code 159 = .ok (.aload_n 0, 1) := by decide +kernel
theorem d_X10_orders_160 : decode prog_1_method_15_code 160 = .ok (.getfield 35, 3) := by decide +kernel
theorem d_X10_orders_163 : decode prog_1_method_15_code 163 = .ok (.aload_n 0, 1) := by decide +kernel
theorem d_X10_orders_164 : decode prog_1_method_15_code 164 = .ok (.getfield 39, 3) := by decide +kernel
theorem d_X10_orders_167 : decode prog_1_method_15_code 167 = .ok (.invokevirtual 208, 3) := by decide +kernel
theorem d_X10_orders_170 : decode prog_1_method_15_code 170 = .ok (.aload_n 0, 1) := by decide +kernel
theorem d_X10_orders_171 : decode prog_1_method_15_code 171 = .ok (.bipush (-3), 2) := by decide +kernel
theorem d_X10_orders_173 : decode prog_1_method_15_code 173 = .ok (.invokevirtual 119, 3) := by decide +kernel
theorem d_X10_orders_176 : decode prog_1_method_15_code 176 = .ok (.ireturn, 1) := by decide +kernel
theorem d_X10_orders_177 : decode prog_1_method_15_code 177 = .ok (.aload_n 0, 1) := by decide +kernel
theorem d_X10_orders_178 : decode prog_1_method_15_code 178 = .ok (.aload_n 0, 1) := by decide +kernel
theorem d_X10_orders_179 : decode prog_1_method_15_code 179 = .ok (.getfield 92, 3) := by decide +kernel
theorem d_X10_orders_182 : decode prog_1_method_15_code 182 = .ok (.iconst 1, 1) := by decide +kernel
theorem d_X10_orders_183 : decode prog_1_method_15_code 183 = .ok (.iaload, 1) := by decide +kernel
theorem d_X10_orders_184 : decode prog_1_method_15_code 184 = .ok (.invokevirtual 133, 3) := by decide +kernel
theorem d_X10_orders_187 : decode prog_1_method_15_code 187 = .ok (.ireturn, 1) := by decide +kernel
theorem d_X10_fault_0 : decode prog_1_method_16_code 0 = .ok (.aload_n 0, 1) := by decide +kernel
theorem d_X10_fault_1 : decode prog_1_method_16_code 1 = .ok (.getfield 98, 3) := by decide +kernel
theorem d_X10_fault_4 : decode prog_1_method_16_code 4 = .ok (.ireturn, 1) := by decide +kernel
theorem d_X10_stopped_0 : decode prog_1_method_17_code 0 = .ok (.aload_n 0, 1) := by decide +kernel
theorem d_X10_stopped_1 : decode prog_1_method_17_code 1 = .ok (.getfield 105, 3) := by decide +kernel
theorem d_X10_stopped_4 : decode prog_1_method_17_code 4 = .ok (.ireturn, 1) := by decide +kernel
theorem d_X10_force_0 : decode prog_1_method_18_code 0 = .ok (.iload_n 1, 1) := by decide +kernel
theorem d_X10_force_1 : decode prog_1_method_18_code 1 = .ok (.iconst (-1), 1) := by decide +kernel
theorem d_X10_force_2 : decode prog_1_method_18_code 2 = .ok (.if_icmp .eq 27, 3) := by decide +kernel
theorem d_X10_force_5 : decode prog_1_method_18_code 5 = .ok (.iload_n 1, 1) := by decide +kernel
theorem d_X10_force_6 : decode prog_1_method_18_code 6 = .ok (.iconst 0, 1) := by decide +kernel
theorem d_X10_force_7 : decode prog_1_method_18_code 7 = .ok (.aload_n 0, 1) := by decide +kernel
theorem d_X10_force_8 : decode prog_1_method_18_code 8 = .ok (.getfield 14, 3) := by decide +kernel
theorem d_X10_force_11 : decode prog_1_method_18_code 11 = .ok (.getfield 185, 3) := by decide +kernel
theorem d_X10_force_14 : decode prog_1_method_18_code 14 = .ok (.iconst 1, 1) := by decide +kernel
theorem d_X10_force_15 : decode prog_1_method_18_code 15 = .ok (.isub, 1) := by decide +kernel
theorem d_X10_force_16 : decode prog_1_method_18_code 16 = .ok (.invokestatic 115, 3) := by decide +kernel
theorem d_X10_force_19 : decode prog_1_method_18_code 19 = .ok (.ifCond .ne 10, 3) := by decide +kernel
theorem d_X10_force_22 : decode prog_1_method_18_code 22 = .ok (.aload_n 0, 1) := by decide +kernel
theorem d_X10_force_23 : decode prog_1_method_18_code 23 = .ok (.bipush (-2), 2) := by decide +kernel
theorem d_X10_force_25 : decode prog_1_method_18_code 25 = .ok (.invokevirtual 119, 3) := by decide +kernel
theorem d_X10_force_28 : decode prog_1_method_18_code 28 = .ok (.ireturn, 1) := by decide +kernel
theorem d_X10_force_29 : decode prog_1_method_18_code 29 = .ok (.aload_n 0, 1) := by decide +kernel
theorem d_X10_force_30 : decode prog_1_method_18_code 30 = .ok (.getfield 14, 3) := by decide +kernel
theorem d_X10_force_33 : decode prog_1_method_18_code 33 = .ok (.getfield 221, 3) := by decide +kernel
theorem d_X10_force_36 : decode prog_1_method_18_code 36 = .ok (.istore_n 2, 1) := by decide +kernel
theorem d_X10_force_37 : decode prog_1_method_18_code 37 = .ok (.aload_n 0, 1) := by decide +kernel
theorem d_X10_force_38 : decode prog_1_method_18_code 38 = .ok (.getfield 14, 3) := by decide +kernel
theorem d_X10_force_41 : decode prog_1_method_18_code 41 = .ok (.iload_n 1, 1) := by decide +kernel
theorem d_X10_force_42 : decode prog_1_method_18_code 42 = .ok (.putfield 221, 3) := by decide +kernel
theorem d_X10_force_45 : decode prog_1_method_18_code 45 = .ok (.aload_n 0, 1) := by decide +kernel
theorem d_X10_force_46 : decode prog_1_method_18_code 46 = .ok (.iload_n 2, 1) := by decide +kernel
theorem d_X10_force_47 : decode prog_1_method_18_code 47 = .ok (.invokevirtual 133, 3) := by decide +kernel
theorem d_X10_force_50 : decode prog_1_method_18_code 50 = .ok (.ireturn, 1) := by decide +kernel
theorem d_X10_runOnce_0 : decode prog_1_method_19_code 0 = .ok (.aload_n 0, 1) := by decide +kernel
theorem d_X10_runOnce_1 : decode prog_1_method_19_code 1 = .ok (.aload_n 1, 1) := by decide +kernel
theorem d_X10_runOnce_2 : decode prog_1_method_19_code 2 = .ok (.invokevirtual 224, 3) := by decide +kernel
theorem d_X10_runOnce_5 : decode prog_1_method_19_code 5 = .ok (.aload_n 0, 1) := by decide +kernel
theorem d_X10_runOnce_6 : decode prog_1_method_19_code 6 = .ok (.getfield 61, 3) := by decide +kernel
theorem d_X10_runOnce_9 : decode prog_1_method_19_code 9 = .ok (.aload_n 1, 1) := by decide +kernel
theorem d_X10_runOnce_10 : decode prog_1_method_19_code 10 = .ok (.iload_n 2, 1) := by decide +kernel
theorem d_X10_runOnce_11 : decode prog_1_method_19_code 11 = .ok (.iconst 2, 1) := by decide +kernel
theorem d_X10_runOnce_12 : decode prog_1_method_19_code 12 = .ok (.aload_n 0, 1) := by decide +kernel
theorem d_X10_runOnce_13 : decode prog_1_method_19_code 13 = .ok (.getfield 92, 3) := by decide +kernel
theorem d_X10_runOnce_16 : decode prog_1_method_19_code 16 = .ok (.invokevirtual 227, 3) := by decide +kernel
theorem d_X10_runOnce_19 : decode prog_1_method_19_code 19 = .ok (.iconst 1, 1) := by decide +kernel
theorem d_X10_runOnce_20 : decode prog_1_method_19_code 20 = .ok (.if_icmp .eq 5, 3) := by decide +kernel
theorem d_X10_runOnce_23 : decode prog_1_method_19_code 23 = .ok (.iconst 1, 1) := by decide +kernel
theorem d_X10_runOnce_24 : decode prog_1_method_19_code 24 = .ok (.ireturn, 1) := by decide +kernel
theorem d_X10_runOnce_25 : decode prog_1_method_19_code 25 = .ok (.aload_n 0, 1) := by decide +kernel
theorem d_X10_runOnce_26 : decode prog_1_method_19_code 26 = .ok (.getfield 61, 3) := by decide +kernel
theorem d_X10_runOnce_29 : decode prog_1_method_19_code 29 = .ok (.aload_n 1, 1) := by decide +kernel
theorem d_X10_runOnce_30 : decode prog_1_method_19_code 30 = .ok (.iload_n 2, 1) := by decide +kernel
theorem d_X10_runOnce_31 : decode prog_1_method_19_code 31 = .ok (.iconst 0, 1) := by decide +kernel
theorem d_X10_runOnce_32 : decode prog_1_method_19_code 32 = .ok (.aload_n 0, 1) := by decide +kernel
theorem d_X10_runOnce_33 : decode prog_1_method_19_code 33 = .ok (.getfield 92, 3) := by decide +kernel
theorem d_X10_runOnce_36 : decode prog_1_method_19_code 36 = .ok (.invokevirtual 227, 3) := by decide +kernel
theorem d_X10_runOnce_39 : decode prog_1_method_19_code 39 = .ok (.istore_n 3, 1) := by decide +kernel
theorem d_X10_runOnce_40 : decode prog_1_method_19_code 40 = .ok (.aload_n 0, 1) := by decide +kernel
theorem d_X10_runOnce_41 : decode prog_1_method_19_code 41 = .ok (.getfield 61, 3) := by decide +kernel
theorem d_X10_runOnce_44 : decode prog_1_method_19_code 44 = .ok (.aload_n 1, 1) := by decide +kernel
theorem d_X10_runOnce_45 : decode prog_1_method_19_code 45 = .ok (.iload_n 2, 1) := by decide +kernel
theorem d_X10_runOnce_46 : decode prog_1_method_19_code 46 = .ok (.iconst 1, 1) := by decide +kernel
theorem d_X10_runOnce_47 : decode prog_1_method_19_code 47 = .ok (.aload_n 0, 1) := by decide +kernel
theorem d_X10_runOnce_48 : decode prog_1_method_19_code 48 = .ok (.getfield 92, 3) := by decide +kernel
theorem d_X10_runOnce_51 : decode prog_1_method_19_code 51 = .ok (.invokevirtual 227, 3) := by decide +kernel
theorem d_X10_runOnce_54 : decode prog_1_method_19_code 54 = .ok (.istore 4, 2) := by decide +kernel
theorem d_X10_runOnce_56 : decode prog_1_method_19_code 56 = .ok (.iload_n 3, 1) := by decide +kernel
theorem d_X10_runOnce_57 : decode prog_1_method_19_code 57 = .ok (.ldc 231, 2) := by decide +kernel
theorem d_X10_runOnce_59 : decode prog_1_method_19_code 59 = .ok (.if_icmp .eq 10, 3) := by decide +kernel
theorem d_X10_runOnce_62 : decode prog_1_method_19_code 62 = .ok (.iload 4, 2) := by decide +kernel
theorem d_X10_runOnce_64 : decode prog_1_method_19_code 64 = .ok (.ldc 231, 2) := by decide +kernel
theorem d_X10_runOnce_66 : decode prog_1_method_19_code 66 = .ok (.if_icmp .ne 5, 3) := by decide +kernel
theorem d_X10_runOnce_69 : decode prog_1_method_19_code 69 = .ok (.iconst 0, 1) := by decide +kernel
theorem d_X10_runOnce_70 : decode prog_1_method_19_code 70 = .ok (.ireturn, 1) := by decide +kernel
theorem d_X10_runOnce_71 : decode prog_1_method_19_code 71 = .ok (.aload_n 1, 1) := by decide +kernel
theorem d_X10_runOnce_72 : decode prog_1_method_19_code 72 = .ok (.getfield 232, 3) := by decide +kernel
theorem d_X10_runOnce_75 : decode prog_1_method_19_code 75 = .ok (.iload_n 2, 1) := by decide +kernel
theorem d_X10_runOnce_76 : decode prog_1_method_19_code 76 = .ok (.iaload, 1) := by decide +kernel
theorem d_X10_runOnce_77 : decode prog_1_method_19_code 77 = .ok (.tableswitch 61 0 2 #[27, 38, 49], 27) := by decide +kernel
theorem d_X10_runOnce_104 : decode prog_1_method_19_code 104 = .ok (.aload_n 0, 1) := by decide +kernel
theorem d_X10_runOnce_105 : decode prog_1_method_19_code 105 = .ok (.iload_n 3, 1) := by decide +kernel
theorem d_X10_runOnce_106 : decode prog_1_method_19_code 106 = .ok (.iconst 1, 1) := by decide +kernel
theorem d_X10_runOnce_107 : decode prog_1_method_19_code 107 = .ok (.invokevirtual 235, 3) := by decide +kernel
theorem d_X10_runOnce_110 : decode prog_1_method_19_code 110 = .ok (.istore 5, 2) := by decide +kernel
theorem d_X10_runOnce_112 : decode prog_1_method_19_code 112 = .ok (.goto 32, 3) := by decide +kernel
theorem d_X10_runOnce_115 : decode prog_1_method_19_code 115 = .ok (.aload_n 0, 1) := by decide +kernel
theorem d_X10_runOnce_116 : decode prog_1_method_19_code 116 = .ok (.iload_n 3, 1) := by decide +kernel
theorem d_X10_runOnce_117 : decode prog_1_method_19_code 117 = .ok (.iconst 0, 1) := by decide +kernel
theorem d_X10_runOnce_118 : decode prog_1_method_19_code 118 = .ok (.invokevirtual 235, 3) := by decide +kernel
theorem d_X10_runOnce_121 : decode prog_1_method_19_code 121 = .ok (.istore 5, 2) := by decide +kernel
theorem d_X10_runOnce_123 : decode prog_1_method_19_code 123 = .ok (.goto 21, 3) := by decide +kernel
theorem d_X10_runOnce_126 : decode prog_1_method_19_code 126 = .ok (.aload_n 0, 1) := by decide +kernel
theorem d_X10_runOnce_127 : decode prog_1_method_19_code 127 = .ok (.iload_n 3, 1) := by decide +kernel
theorem d_X10_runOnce_128 : decode prog_1_method_19_code 128 = .ok (.iload 4, 2) := by decide +kernel
theorem d_X10_runOnce_130 : decode prog_1_method_19_code 130 = .ok (.invokevirtual 238, 3) := by decide +kernel
theorem d_X10_runOnce_133 : decode prog_1_method_19_code 133 = .ok (.istore 5, 2) := by decide +kernel
theorem d_X10_runOnce_135 : decode prog_1_method_19_code 135 = .ok (.goto 9, 3) := by decide +kernel
theorem d_X10_runOnce_138 : decode prog_1_method_19_code 138 = .ok (.aload_n 0, 1) := by decide +kernel
theorem d_X10_runOnce_139 : decode prog_1_method_19_code 139 = .ok (.invokevirtual 241, 3) := by decide +kernel
theorem d_X10_runOnce_142 : decode prog_1_method_19_code 142 = .ok (.istore 5, 2) := by decide +kernel
theorem d_X10_runOnce_144 : decode prog_1_method_19_code 144 = .ok (.iload 5, 2) := by decide +kernel
theorem d_X10_runOnce_146 : decode prog_1_method_19_code 146 = .ok (.ifCond .ge 5, 3) := by decide +kernel
theorem d_X10_runOnce_149 : decode prog_1_method_19_code 149 = .ok (.iconst 0, 1) := by decide +kernel
theorem d_X10_runOnce_150 : decode prog_1_method_19_code 150 = .ok (.ireturn, 1) := by decide +kernel
theorem d_X10_runOnce_151 : decode prog_1_method_19_code 151 = .ok (.aload_n 1, 1) := by decide +kernel
theorem d_X10_runOnce_152 : decode prog_1_method_19_code 152 = .ok (.getfield 232, 3) := by decide +kernel
theorem d_X10_runOnce_155 : decode prog_1_method_19_code 155 = .ok (.iload_n 2, 1) := by decide +kernel
theorem d_X10_runOnce_156 : decode prog_1_method_19_code 156 = .ok (.iaload, 1) := by decide +kernel
theorem d_X10_runOnce_157 : decode prog_1_method_19_code 157 = .ok (.iconst 2, 1) := by decide +kernel
theorem d_X10_runOnce_158 : decode prog_1_method_19_code 158 = .ok (.if_icmp .ne 11, 3) := by decide +kernel
theorem d_X10_runOnce_161 : decode prog_1_method_19_code 161 = .ok (.aload_n 0, 1) := by decide +kernel
theorem d_X10_runOnce_162 : decode prog_1_method_19_code 162 = .ok (.getfield 92, 3) := by decide +kernel
theorem d_X10_runOnce_165 : decode prog_1_method_19_code 165 = .ok (.iconst 2, 1) := by decide +kernel
theorem d_X10_runOnce_166 : decode prog_1_method_19_code 166 = .ok (.iload 5, 2) := by decide +kernel
theorem d_X10_runOnce_168 : decode prog_1_method_19_code 168 = .ok (.iastore, 1) := by decide +kernel
theorem d_X10_runOnce_169 : decode prog_1_method_19_code 169 = .ok (.aload_n 0, 1) := by decide +kernel
theorem d_X10_runOnce_170 : decode prog_1_method_19_code 170 = .ok (.getfield 92, 3) := by decide +kernel
theorem d_X10_runOnce_173 : decode prog_1_method_19_code 173 = .ok (.iconst 1, 1) := by decide +kernel
theorem d_X10_runOnce_174 : decode prog_1_method_19_code 174 = .ok (.dup2, 1) := by decide +kernel
theorem d_X10_runOnce_175 : decode prog_1_method_19_code 175 = .ok (.iaload, 1) := by decide +kernel
theorem d_X10_runOnce_176 : decode prog_1_method_19_code 176 = .ok (.iconst 1, 1) := by decide +kernel
theorem d_X10_runOnce_177 : decode prog_1_method_19_code 177 = .ok (.iadd, 1) := by decide +kernel
theorem d_X10_runOnce_178 : decode prog_1_method_19_code 178 = .ok (.iastore, 1) := by decide +kernel
theorem d_X10_runOnce_179 : decode prog_1_method_19_code 179 = .ok (.iconst 1, 1) := by decide +kernel
theorem d_X10_runOnce_180 : decode prog_1_method_19_code 180 = .ok (.ireturn, 1) := by decide +kernel
theorem d_X10_fillOrderWords_0 : decode prog_1_method_20_code 0 = .ok (.aload_n 0, 1) := by decide +kernel
theorem d_X10_fillOrderWords_1 : decode prog_1_method_20_code 1 = .ok (.getfield 92, 3) := by decide +kernel
theorem d_X10_fillOrderWords_4 : decode prog_1_method_20_code 4 = .ok (.iconst 0, 1) := by decide +kernel
theorem d_X10_fillOrderWords_5 : decode prog_1_method_20_code 5 = .ok (.aload_n 0, 1) := by decide +kernel
theorem d_X10_fillOrderWords_6 : decode prog_1_method_20_code 6 = .ok (.getfield 14, 3) := by decide +kernel
theorem d_X10_fillOrderWords_9 : decode prog_1_method_20_code 9 = .ok (.getfield 169, 3) := by decide +kernel
theorem d_X10_fillOrderWords_12 : decode prog_1_method_20_code 12 = .ok (.iconst 0, 1) := by decide +kernel
theorem d_X10_fillOrderWords_13 : decode prog_1_method_20_code 13 = .ok (.iaload, 1) := by decide +kernel
theorem d_X10_fillOrderWords_14 : decode prog_1_method_20_code 14 = .ok (.iastore, 1) := by decide +kernel
theorem d_X10_fillOrderWords_15 : decode prog_1_method_20_code 15 = .ok (.aload_n 0, 1) := by decide +kernel
theorem d_X10_fillOrderWords_16 : decode prog_1_method_20_code 16 = .ok (.getfield 92, 3) := by decide +kernel
theorem d_X10_fillOrderWords_19 : decode prog_1_method_20_code 19 = .ok (.iconst 4, 1) := by decide +kernel
theorem d_X10_fillOrderWords_20 : decode prog_1_method_20_code 20 = .ok (.aload_n 0, 1) := by decide +kernel
theorem d_X10_fillOrderWords_21 : decode prog_1_method_20_code 21 = .ok (.getfield 14, 3) := by decide +kernel
theorem d_X10_fillOrderWords_24 : decode prog_1_method_20_code 24 = .ok (.invokevirtual 245, 3) := by decide +kernel
theorem d_X10_fillOrderWords_27 : decode prog_1_method_20_code 27 = .ok (.iastore, 1) := by decide +kernel
theorem d_X10_fillOrderWords_28 : decode prog_1_method_20_code 28 = .ok (.iconst 0, 1) := by decide +kernel
theorem d_X10_fillOrderWords_29 : decode prog_1_method_20_code 29 = .ok (.istore_n 2, 1) := by decide +kernel
theorem d_X10_fillOrderWords_30 : decode prog_1_method_20_code 30 = .ok (.iload_n 2, 1) := by decide +kernel
theorem d_X10_fillOrderWords_31 : decode prog_1_method_20_code 31 = .ok (.bipush 8, 2) := by decide +kernel
theorem d_X10_fillOrderWords_33 : decode prog_1_method_20_code 33 = .ok (.if_icmp .ge 44, 3) := by decide +kernel
theorem d_X10_fillOrderWords_36 : decode prog_1_method_20_code 36 = .ok (.aload_n 0, 1) := by decide +kernel
theorem d_X10_fillOrderWords_37 : decode prog_1_method_20_code 37 = .ok (.getfield 92, 3) := by decide +kernel
theorem d_X10_fillOrderWords_40 : decode prog_1_method_20_code 40 = .ok (.iconst 5, 1) := by decide +kernel
theorem d_X10_fillOrderWords_41 : decode prog_1_method_20_code 41 = .ok (.iload_n 2, 1) := by decide +kernel
theorem d_X10_fillOrderWords_42 : decode prog_1_method_20_code 42 = .ok (.iadd, 1) := by decide +kernel
theorem d_X10_fillOrderWords_43 : decode prog_1_method_20_code 43 = .ok (.aload_n 0, 1) := by decide +kernel
theorem d_X10_fillOrderWords_44 : decode prog_1_method_20_code 44 = .ok (.getfield 14, 3) := by decide +kernel
theorem d_X10_fillOrderWords_47 : decode prog_1_method_20_code 47 = .ok (.iload_n 2, 1) := by decide +kernel
theorem d_X10_fillOrderWords_48 : decode prog_1_method_20_code 48 = .ok (.iconst 1, 1) := by decide +kernel
theorem d_X10_fillOrderWords_49 : decode prog_1_method_20_code 49 = .ok (.invokevirtual 136, 3) := by decide +kernel
theorem d_X10_fillOrderWords_52 : decode prog_1_method_20_code 52 = .ok (.iastore, 1) := by decide +kernel
theorem d_X10_fillOrderWords_53 : decode prog_1_method_20_code 53 = .ok (.aload_n 0, 1) := by decide +kernel
theorem d_X10_fillOrderWords_54 : decode prog_1_method_20_code 54 = .ok (.getfield 92, 3) := by decide +kernel
theorem d_X10_fillOrderWords_57 : decode prog_1_method_20_code 57 = .ok (.bipush 13, 2) := by decide +kernel
theorem d_X10_fillOrderWords_59 : decode prog_1_method_20_code 59 = .ok (.iload_n 2, 1) := by decide +kernel
theorem d_X10_fillOrderWords_60 : decode prog_1_method_20_code 60 = .ok (.iadd, 1) := by decide +kernel
theorem d_X10_fillOrderWords_61 : decode prog_1_method_20_code 61 = .ok (.aload_n 0, 1) := by decide +kernel
theorem d_X10_fillOrderWords_62 : decode prog_1_method_20_code 62 = .ok (.getfield 14, 3) := by decide +kernel
theorem d_X10_fillOrderWords_65 : decode prog_1_method_20_code 65 = .ok (.iload_n 2, 1) := by decide +kernel
theorem d_X10_fillOrderWords_66 : decode prog_1_method_20_code 66 = .ok (.iconst 2, 1) := by decide +kernel
theorem d_X10_fillOrderWords_67 : decode prog_1_method_20_code 67 = .ok (.invokevirtual 136, 3) := by decide +kernel
theorem d_X10_fillOrderWords_70 : decode prog_1_method_20_code 70 = .ok (.iastore, 1) := by decide +kernel
theorem d_X10_fillOrderWords_71 : decode prog_1_method_20_code 71 = .ok (.iinc 2 1, 3) := by decide +kernel
theorem d_X10_fillOrderWords_74 : decode prog_1_method_20_code 74 = .ok (.goto (-44), 3) := by decide +kernel
theorem d_X10_fillOrderWords_77 : decode prog_1_method_20_code 77 = .ok (.aload_n 1, 1) := by decide +kernel
theorem d_X10_fillOrderWords_78 : decode prog_1_method_20_code 78 = .ok (.getfield 248, 3) := by decide +kernel
theorem d_X10_fillOrderWords_81 : decode prog_1_method_20_code 81 = .ok (.ifCond .eq 34, 3) := by decide +kernel
theorem d_X10_fillOrderWords_84 : decode prog_1_method_20_code 84 = .ok (.aload_n 0, 1) := by decide +kernel
theorem d_X10_fillOrderWords_85 : decode prog_1_method_20_code 85 = .ok (.getfield 79, 3) := by decide +kernel
theorem d_X10_fillOrderWords_88 : decode prog_1_method_20_code 88 = .ok (.aload_n 0, 1) := by decide +kernel
theorem d_X10_fillOrderWords_89 : decode prog_1_method_20_code 89 = .ok (.getfield 14, 3) := by decide +kernel
theorem d_X10_fillOrderWords_92 : decode prog_1_method_20_code 92 = .ok (.aload_n 0, 1) := by decide +kernel
theorem d_X10_fillOrderWords_93 : decode prog_1_method_20_code 93 = .ok (.getfield 14, 3) := by decide +kernel
theorem d_X10_fillOrderWords_96 : decode prog_1_method_20_code 96 = .ok (.invokevirtual 145, 3) := by decide +kernel
theorem d_X10_fillOrderWords_99 : decode prog_1_method_20_code 99 = .ok (.invokevirtual 252, 3) := by decide +kernel
theorem d_X10_fillOrderWords_102 : decode prog_1_method_20_code 102 = .ok (.aload_n 0, 1) := by decide +kernel
theorem d_X10_fillOrderWords_103 : decode prog_1_method_20_code 103 = .ok (.getfield 92, 3) := by decide +kernel
theorem d_X10_fillOrderWords_106 : decode prog_1_method_20_code 106 = .ok (.iconst 3, 1) := by decide +kernel
theorem d_X10_fillOrderWords_107 : decode prog_1_method_20_code 107 = .ok (.aload_n 0, 1) := by decide +kernel
theorem d_X10_fillOrderWords_108 : decode prog_1_method_20_code 108 = .ok (.getfield 79, 3) := by decide +kernel
theorem d_X10_fillOrderWords_111 : decode prog_1_method_20_code 111 = .ok (.invokevirtual 256, 3) := by decide +kernel
theorem d_X10_fillOrderWords_114 : decode prog_1_method_20_code 114 = .ok (.iastore, 1) := by decide +kernel
theorem d_X10_fillOrderWords_115 : decode prog_1_method_20_code 115 = .ok (.return_, 1) := by decide +kernel
theorem d_X10_changeLacking_0 : decode prog_1_method_21_code 0 = .ok (.aload_n 0, 1) := by decide +kernel
theorem d_X10_changeLacking_1 : decode prog_1_method_21_code 1 = .ok (.getfield 14, 3) := by decide +kernel
theorem d_X10_changeLacking_4 : decode prog_1_method_21_code 4 = .ok (.iload_n 1, 1) := by decide +kernel
theorem d_X10_changeLacking_5 : decode prog_1_method_21_code 5 = .ok (.invokevirtual 140, 3) := by decide +kernel
theorem d_X10_changeLacking_8 : decode prog_1_method_21_code 8 = .ok (.ifCond .ne 6, 3) := by decide +kernel
theorem d_X10_changeLacking_11 : decode prog_1_method_21_code 11 = .ok (.bipush (-2), 2) := by decide +kernel
theorem d_X10_changeLacking_13 : decode prog_1_method_21_code 13 = .ok (.ireturn, 1) := by decide +kernel
theorem d_X10_changeLacking_14 : decode prog_1_method_21_code 14 = .ok (.aload_n 0, 1) := by decide +kernel
theorem d_X10_changeLacking_15 : decode prog_1_method_21_code 15 = .ok (.getfield 14, 3) := by decide +kernel
theorem d_X10_changeLacking_18 : decode prog_1_method_21_code 18 = .ok (.iload_n 1, 1) := by decide +kernel
theorem d_X10_changeLacking_19 : decode prog_1_method_21_code 19 = .ok (.iconst 5, 1) := by decide +kernel
theorem d_X10_changeLacking_20 : decode prog_1_method_21_code 20 = .ok (.invokevirtual 136, 3) := by decide +kernel
theorem d_X10_changeLacking_23 : decode prog_1_method_21_code 23 = .ok (.iload_n 2, 1) := by decide +kernel
theorem d_X10_changeLacking_24 : decode prog_1_method_21_code 24 = .ok (.if_icmp .ne 6, 3) := by decide +kernel
theorem d_X10_changeLacking_27 : decode prog_1_method_21_code 27 = .ok (.bipush (-3), 2) := by decide +kernel
theorem d_X10_changeLacking_29 : decode prog_1_method_21_code 29 = .ok (.ireturn, 1) := by decide +kernel
theorem d_X10_changeLacking_30 : decode prog_1_method_21_code 30 = .ok (.aload_n 0, 1) := by decide +kernel
theorem d_X10_changeLacking_31 : decode prog_1_method_21_code 31 = .ok (.getfield 35, 3) := by decide +kernel
theorem d_X10_changeLacking_34 : decode prog_1_method_21_code 34 = .ok (.iload_n 2, 1) := by decide +kernel
theorem d_X10_changeLacking_35 : decode prog_1_method_21_code 35 = .ok (.iconst 1, 1) := by decide +kernel
theorem d_X10_changeLacking_36 : decode prog_1_method_21_code 36 = .ok (.if_icmp .ne 7, 3) := by decide +kernel
theorem d_X10_changeLacking_39 : decode prog_1_method_21_code 39 = .ok (.iconst 0, 1) := by decide +kernel
theorem d_X10_changeLacking_40 : decode prog_1_method_21_code 40 = .ok (.goto 4, 3) := by decide +kernel
theorem d_X10_changeLacking_43 : decode prog_1_method_21_code 43 = .ok (.iconst 1, 1) := by decide +kernel
theorem d_X10_changeLacking_44 : decode prog_1_method_21_code 44 = .ok (.iload_n 1, 1) := by decide +kernel
theorem d_X10_changeLacking_45 : decode prog_1_method_21_code 45 = .ok (.aload_n 0, 1) := by decide +kernel
theorem d_X10_changeLacking_46 : decode prog_1_method_21_code 46 = .ok (.getfield 14, 3) := by decide +kernel
theorem d_X10_changeLacking_49 : decode prog_1_method_21_code 49 = .ok (.invokevirtual 259, 3) := by decide +kernel
theorem d_X10_changeLacking_52 : decode prog_1_method_21_code 52 = .ok (.aload_n 0, 1) := by decide +kernel
theorem d_X10_changeLacking_53 : decode prog_1_method_21_code 53 = .ok (.getfield 14, 3) := by decide +kernel
theorem d_X10_changeLacking_56 : decode prog_1_method_21_code 56 = .ok (.iload_n 1, 1) := by decide +kernel
theorem d_X10_changeLacking_57 : decode prog_1_method_21_code 57 = .ok (.iconst 5, 1) := by decide +kernel
theorem d_X10_changeLacking_58 : decode prog_1_method_21_code 58 = .ok (.iload_n 2, 1) := by decide +kernel
theorem d_X10_changeLacking_59 : decode prog_1_method_21_code 59 = .ok (.invokevirtual 153, 3) := by decide +kernel
theorem d_X10_changeLacking_62 : decode prog_1_method_21_code 62 = .ok (.aload_n 0, 1) := by decide +kernel
theorem d_X10_changeLacking_63 : decode prog_1_method_21_code 63 = .ok (.getfield 14, 3) := by decide +kernel
theorem d_X10_changeLacking_66 : decode prog_1_method_21_code 66 = .ok (.invokevirtual 245, 3) := by decide +kernel
theorem d_X10_changeLacking_69 : decode prog_1_method_21_code 69 = .ok (.ireturn, 1) := by decide +kernel
theorem d_X10_changeWeight_0 : decode prog_1_method_22_code 0 = .ok (.iload_n 2, 1) := by decide +kernel
theorem d_X10_changeWeight_1 : decode prog_1_method_22_code 1 = .ok (.iconst 0, 1) := by decide +kernel
theorem d_X10_changeWeight_2 : decode prog_1_method_22_code 2 = .ok (.bipush 99, 2) := by decide +kernel
theorem d_X10_changeWeight_4 : decode prog_1_method_22_code 4 = .ok (.invokestatic 115, 3) := by decide +kernel
theorem d_X10_changeWeight_7 : decode prog_1_method_22_code 7 = .ok (.ifCond .ne 5, 3) := by decide +kernel
theorem d_X10_changeWeight_10 : decode prog_1_method_22_code 10 = .ok (.iconst (-1), 1) := by decide +kernel
theorem d_X10_changeWeight_11 : decode prog_1_method_22_code 11 = .ok (.ireturn, 1) := by decide +kernel
theorem d_X10_changeWeight_12 : decode prog_1_method_22_code 12 = .ok (.aload_n 0, 1) := by decide +kernel
theorem d_X10_changeWeight_13 : decode prog_1_method_22_code 13 = .ok (.getfield 14, 3) := by decide +kernel
theorem d_X10_changeWeight_16 : decode prog_1_method_22_code 16 = .ok (.iload_n 1, 1) := by decide +kernel
theorem d_X10_changeWeight_17 : decode prog_1_method_22_code 17 = .ok (.invokevirtual 140, 3) := by decide +kernel
theorem d_X10_changeWeight_20 : decode prog_1_method_22_code 20 = .ok (.ifCond .ne 6, 3) := by decide +kernel
theorem d_X10_changeWeight_23 : decode prog_1_method_22_code 23 = .ok (.bipush (-2), 2) := by decide +kernel
theorem d_X10_changeWeight_25 : decode prog_1_method_22_code 25 = .ok (.ireturn, 1) := by decide +kernel
theorem d_X10_changeWeight_26 : decode prog_1_method_22_code 26 = .ok (.aload_n 0, 1) := by decide +kernel
theorem d_X10_changeWeight_27 : decode prog_1_method_22_code 27 = .ok (.getfield 35, 3) := by decide +kernel
theorem d_X10_changeWeight_30 : decode prog_1_method_22_code 30 = .ok (.iconst 2, 1) := by decide +kernel
theorem d_X10_changeWeight_31 : decode prog_1_method_22_code 31 = .ok (.iload_n 1, 1) := by decide +kernel
theorem d_X10_changeWeight_32 : decode prog_1_method_22_code 32 = .ok (.aload_n 0, 1) := by decide +kernel
theorem d_X10_changeWeight_33 : decode prog_1_method_22_code 33 = .ok (.getfield 14, 3) := by decide +kernel
theorem d_X10_changeWeight_36 : decode prog_1_method_22_code 36 = .ok (.invokevirtual 259, 3) := by decide +kernel
theorem d_X10_changeWeight_39 : decode prog_1_method_22_code 39 = .ok (.aload_n 0, 1) := by decide +kernel
theorem d_X10_changeWeight_40 : decode prog_1_method_22_code 40 = .ok (.getfield 14, 3) := by decide +kernel
theorem d_X10_changeWeight_43 : decode prog_1_method_22_code 43 = .ok (.iload_n 1, 1) := by decide +kernel
theorem d_X10_changeWeight_44 : decode prog_1_method_22_code 44 = .ok (.iconst 2, 1) := by decide +kernel
theorem d_X10_changeWeight_45 : decode prog_1_method_22_code 45 = .ok (.invokevirtual 136, 3) := by decide +kernel
theorem d_X10_changeWeight_48 : decode prog_1_method_22_code 48 = .ok (.istore_n 3, 1) := by decide +kernel
theorem d_X10_changeWeight_49 : decode prog_1_method_22_code 49 = .ok (.aload_n 0, 1) := by decide +kernel
theorem d_X10_changeWeight_50 : decode prog_1_method_22_code 50 = .ok (.getfield 14, 3) := by decide +kernel
theorem d_X10_changeWeight_53 : decode prog_1_method_22_code 53 = .ok (.iload_n 1, 1) := by decide +kernel
theorem d_X10_changeWeight_54 : decode prog_1_method_22_code 54 = .ok (.iconst 2, 1) := by decide +kernel
theorem d_X10_changeWeight_55 : decode prog_1_method_22_code 55 = .ok (.iload_n 2, 1) := by decide +kernel
theorem d_X10_changeWeight_56 : decode prog_1_method_22_code 56 = .ok (.invokevirtual 153, 3) := by decide +kernel
theorem d_X10_changeWeight_59 : decode prog_1_method_22_code 59 = .ok (.iload_n 3, 1) := by decide +kernel
theorem d_X10_changeWeight_60 : decode prog_1_method_22_code 60 = .ok (.ireturn, 1) := by decide +kernel
theorem d_X10_passMonth_0 : decode prog_1_method_23_code 0 = .ok (.aload_n 0, 1) := by decide +kernel
theorem d_X10_passMonth_1 : decode prog_1_method_23_code 1 = .ok (.getfield 14, 3) := by decide +kernel
theorem d_X10_passMonth_4 : decode prog_1_method_23_code 4 = .ok (.getfield 169, 3) := by decide +kernel
theorem d_X10_passMonth_7 : decode prog_1_method_23_code 7 = .ok (.iconst 0, 1) := by decide +kernel
theorem d_X10_passMonth_8 : decode prog_1_method_23_code 8 = .ok (.iaload, 1) := by decide +kernel
theorem d_X10_passMonth_9 : decode prog_1_method_23_code 9 = .ok (.sipush 999, 3) := by decide +kernel
theorem d_X10_passMonth_12 : decode prog_1_method_23_code 12 = .ok (.if_icmp .lt 6, 3) := by decide +kernel
theorem d_X10_passMonth_15 : decode prog_1_method_23_code 15 = .ok (.bipush (-3), 2) := by decide +kernel
theorem d_X10_passMonth_17 : decode prog_1_method_23_code 17 = .ok (.ireturn, 1) := by decide +kernel
theorem d_X10_passMonth_18 : decode prog_1_method_23_code 18 = .ok (.aload_n 0, 1) := by decide +kernel
theorem d_X10_passMonth_19 : decode prog_1_method_23_code 19 = .ok (.getfield 35, 3) := by decide +kernel
theorem d_X10_passMonth_22 : decode prog_1_method_23_code 22 = .ok (.iconst 3, 1) := by decide +kernel
theorem d_X10_passMonth_23 : decode prog_1_method_23_code 23 = .ok (.iconst (-1), 1) := by decide +kernel
theorem d_X10_passMonth_24 : decode prog_1_method_23_code 24 = .ok (.aload_n 0, 1) := by decide +kernel
theorem d_X10_passMonth_25 : decode prog_1_method_23_code 25 = .ok (.getfield 14, 3) := by decide +kernel
theorem d_X10_passMonth_28 : decode prog_1_method_23_code 28 = .ok (.invokevirtual 259, 3) := by decide +kernel
theorem d_X10_passMonth_31 : decode prog_1_method_23_code 31 = .ok (.aload_n 0, 1) := by decide +kernel
theorem d_X10_passMonth_32 : decode prog_1_method_23_code 32 = .ok (.getfield 70, 3) := by decide +kernel
theorem d_X10_passMonth_35 : decode prog_1_method_23_code 35 = .ok (.aload_n 0, 1) := by decide +kernel
theorem d_X10_passMonth_36 : decode prog_1_method_23_code 36 = .ok (.getfield 14, 3) := by decide +kernel
theorem d_X10_passMonth_39 : decode prog_1_method_23_code 39 = .ok (.invokevirtual 263, 3) := by decide +kernel
theorem d_X10_passMonth_42 : decode prog_1_method_23_code 42 = .ok (.aload_n 0, 1) := by decide +kernel
theorem d_X10_passMonth_43 : decode prog_1_method_23_code 43 = .ok (.getfield 14, 3) := by decide +kernel
theorem d_X10_passMonth_46 : decode prog_1_method_23_code 46 = .ok (.getfield 169, 3) := by decide +kernel
theorem d_X10_passMonth_49 : decode prog_1_method_23_code 49 = .ok (.iconst 0, 1) := by decide +kernel
theorem d_X10_passMonth_50 : decode prog_1_method_23_code 50 = .ok (.iaload, 1) := by decide +kernel
theorem d_X10_passMonth_51 : decode prog_1_method_23_code 51 = .ok (.ireturn, 1) := by decide +kernel
