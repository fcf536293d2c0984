theorem d_X5_join_0 : decode prog_7_method_3_code 0 = .ok (.iload_n 2, 1) := by decide +kernel
theorem d_X5_join_1 : decode prog_7_method_3_code 1 = .ok (.ifCond .ne 18, 3) := by decide +kernel
theorem d_X5_join_4 : decode prog_7_method_3_code 4 = .ok (.iload_n 0, 1) := by decide +kernel
theorem d_X5_join_5 : decode prog_7_method_3_code 5 = .ok (.bipush 8, 2) := by decide +kernel
theorem d_X5_join_7 : decode prog_7_method_3_code 7 = .ok (.if_icmp .eq 9, 3) := by decide +kernel
theorem d_X5_join_10 : decode prog_7_method_3_code 10 = .ok (.iload_n 0, 1) := by decide +kernel
theorem d_X5_join_11 : decode prog_7_method_3_code 11 = .ok (.bipush 9, 2) := by decide +kernel
theorem d_X5_join_13 : decode prog_7_method_3_code 13 = .ok (.if_icmp .ne 6, 3) := by decide +kernel
theorem d_X5_join_16 : decode prog_7_method_3_code 16 = .ok (.ldc 20, 2) := by decide +kernel
theorem d_X5_join_18 : decode prog_7_method_3_code 18 = .ok (.ireturn, 1) := by decide +kernel
theorem d_X5_join_19 : decode prog_7_method_3_code 19 = .ok (.iload_n 0, 1) := by decide +kernel
theorem d_X5_join_20 : decode prog_7_method_3_code 20 = .ok (.tableswitch 115 5 11 #[44, 53, 62, 71, 79, 87, 101], 44) := by decide +kernel
theorem d_X5_join_64 : decode prog_7_method_3_code 64 = .ok (.iload_n 1, 1) := by decide +kernel
theorem d_X5_join_65 : decode prog_7_method_3_code 65 = .ok (.i2l, 1) := by decide +kernel
theorem d_X5_join_66 : decode prog_7_method_3_code 66 = .ok (.iload_n 2, 1) := by decide +kernel
theorem d_X5_join_67 : decode prog_7_method_3_code 67 = .ok (.i2l, 1) := by decide +kernel
theorem d_X5_join_68 : decode prog_7_method_3_code 68 = .ok (.ladd, 1) := by decide +kernel
theorem d_X5_join_69 : decode prog_7_method_3_code 69 = .ok (.lstore_n 3, 1) := by decide +kernel
theorem d_X5_join_70 : decode prog_7_method_3_code 70 = .ok (.goto 76, 3) := by decide +kernel
theorem d_X5_join_73 : decode prog_7_method_3_code 73 = .ok (.iload_n 1, 1) := by decide +kernel
theorem d_X5_join_74 : decode prog_7_method_3_code 74 = .ok (.i2l, 1) := by decide +kernel
theorem d_X5_join_75 : decode prog_7_method_3_code 75 = .ok (.iload_n 2, 1) := by decide +kernel
theorem d_X5_join_76 : decode prog_7_method_3_code 76 = .ok (.i2l, 1) := by decide +kernel
theorem d_X5_join_77 : decode prog_7_method_3_code 77 = .ok (.lsub, 1) := by decide +kernel
theorem d_X5_join_78 : decode prog_7_method_3_code 78 = .ok (.lstore_n 3, 1) := by decide +kernel
theorem d_X5_join_79 : decode prog_7_method_3_code 79 = .ok (.goto 67, 3) := by decide +kernel
theorem d_X5_join_82 : decode prog_7_method_3_code 82 = .ok (.iload_n 1, 1) := by decide +kernel
theorem d_X5_join_83 : decode prog_7_method_3_code 83 = .ok (.i2l, 1) := by decide +kernel
theorem d_X5_join_84 : decode prog_7_method_3_code 84 = .ok (.iload_n 2, 1) := by decide +kernel
theorem d_X5_join_85 : decode prog_7_method_3_code 85 = .ok (.i2l, 1) := by decide +kernel
theorem d_X5_join_86 : decode prog_7_method_3_code 86 = .ok (.lmul, 1) := by decide +kernel
theorem d_X5_join_87 : decode prog_7_method_3_code 87 = .ok (.lstore_n 3, 1) := by decide +kernel
theorem d_X5_join_88 : decode prog_7_method_3_code 88 = .ok (.goto 58, 3) := by decide +kernel
theorem d_X5_join_91 : decode prog_7_method_3_code 91 = .ok (.iload_n 1, 1) := by decide +kernel
theorem d_X5_join_92 : decode prog_7_method_3_code 92 = .ok (.iload_n 2, 1) := by decide +kernel
theorem d_X5_join_93 : decode prog_7_method_3_code 93 = .ok (.idiv, 1) := by decide +kernel
theorem d_X5_join_94 : decode prog_7_method_3_code 94 = .ok (.i2l, 1) := by decide +kernel
theorem d_X5_join_95 : decode prog_7_method_3_code 95 = .ok (.lstore_n 3, 1) := by decide +kernel
theorem d_X5_join_96 : decode prog_7_method_3_code 96 = .ok (.goto 50, 3) := by decide +kernel
theorem d_X5_join_99 : decode prog_7_method_3_code 99 = .ok (.iload_n 1, 1) := by decide +kernel
theorem d_X5_join_100 : decode prog_7_method_3_code 100 = .ok (.iload_n 2, 1) := by decide +kernel
theorem d_X5_join_101 : decode prog_7_method_3_code 101 = .ok (.irem, 1) := by decide +kernel
theorem d_X5_join_102 : decode prog_7_method_3_code 102 = .ok (.i2l, 1) := by decide +kernel
theorem d_X5_join_103 : decode prog_7_method_3_code 103 = .ok (.lstore_n 3, 1) := by decide +kernel
theorem d_X5_join_104 : decode prog_7_method_3_code 104 = .ok (.goto 42, 3) := by decide +kernel
theorem d_X5_join_107 : decode prog_7_method_3_code 107 = .ok (.iload_n 1, 1) := by decide +kernel
theorem d_X5_join_108 : decode prog_7_method_3_code 108 = .ok (.iload_n 2, 1) := by decide +kernel
theorem d_X5_join_109 : decode prog_7_method_3_code 109 = .ok (.if_icmp .ge 7, 3) := by decide +kernel
theorem d_X5_join_112 : decode prog_7_method_3_code 112 = .ok (.lconst 1, 1) := by decide +kernel
theorem d_X5_join_113 : decode prog_7_method_3_code 113 = .ok (.goto 4, 3) := by decide +kernel
theorem d_X5_join_116 : decode prog_7_method_3_code 116 = .ok (.lconst 0, 1) := by decide +kernel
theorem d_X5_join_117 : decode prog_7_method_3_code 117 = .ok (.lstore_n 3, 1) := by decide +kernel
theorem d_X5_join_118 : decode prog_7_method_3_code 118 = .ok (.goto 28, 3) := by decide +kernel
theorem d_X5_join_121 : decode prog_7_method_3_code 121 = .ok (.iload_n 1, 1) := by decide +kernel
theorem d_X5_join_122 : decode prog_7_method_3_code 122 = .ok (.iload_n 2, 1) := by decide +kernel
theorem d_X5_join_123 : decode prog_7_method_3_code 123 = .ok (.if_icmp .le 7, 3) := by decide +kernel
theorem d_X5_join_126 : decode prog_7_method_3_code 126 = .ok (.lconst 1, 1) := by decide +kernel
theorem d_X5_join_127 : decode prog_7_method_3_code 127 = .ok (.goto 4, 3) := by decide +kernel
theorem d_X5_join_130 : decode prog_7_method_3_code 130 = .ok (.lconst 0, 1) := by decide +kernel
theorem d_X5_join_131 : decode prog_7_method_3_code 131 = .ok (.lstore_n 3, 1) := by decide +kernel
theorem d_X5_join_132 : decode prog_7_method_3_code 132 = .ok (.goto 14, 3) := by decide +kernel
theorem d_X5_join_135 : decode prog_7_method_3_code 135 = .ok (.iload_n 1, 1) := by decide +kernel
theorem d_X5_join_136 : decode prog_7_method_3_code 136 = .ok (.iload_n 2, 1) := by decide +kernel
theorem d_X5_join_137 : decode prog_7_method_3_code 137 = .ok (.if_icmp .ne 7, 3) := by decide +kernel
theorem d_X5_join_140 : decode prog_7_method_3_code 140 = .ok (.lconst 1, 1) := by decide +kernel
theorem d_X5_join_141 : decode prog_7_method_3_code 141 = .ok (.goto 4, 3) := by decide +kernel
theorem d_X5_join_144 : decode prog_7_method_3_code 144 = .ok (.lconst 0, 1) := by decide +kernel
theorem d_X5_join_145 : decode prog_7_method_3_code 145 = .ok (.lstore_n 3, 1) := by decide +kernel
theorem d_X5_join_146 : decode prog_7_method_3_code 146 = .ok (.lload_n 3, 1) := by decide +kernel
theorem d_X5_join_147 : decode prog_7_method_3_code 147 = .ok (.ldc2_w 44, 3) := by decide +kernel
theorem d_X5_join_150 : decode prog_7_method_3_code 150 = .ok (.lcmp, 1) := by decide +kernel
theorem d_X5_join_151 : decode prog_7_method_3_code 151 = .ok (.ifCond .gt 11, 3) := by decide +kernel
theorem d_X5_join_154 : decode prog_7_method_3_code 154 = .ok (.lload_n 3, 1) := by decide +kernel
theorem d_X5_join_155 : decode prog_7_method_3_code 155 = .ok (.ldc2_w 46, 3) := by decide +kernel
theorem d_X5_join_158 : decode prog_7_method_3_code 158 = .ok (.lcmp, 1) := by decide +kernel
theorem d_X5_join_159 : decode prog_7_method_3_code 159 = .ok (.ifCond .ge 8, 3) := by decide +kernel
theorem d_X5_join_162 : decode prog_7_method_3_code 162 = .ok (.ldc 20, 2) := by decide +kernel
theorem d_X5_join_164 : decode prog_7_method_3_code 164 = .ok (.goto 5, 3) := by decide +kernel
theorem d_X5_join_167 : decode prog_7_method_3_code 167 = .ok (.lload_n 3, 1) := by decide +kernel
theorem d_X5_join_168 : decode prog_7_method_3_code 168 = .ok (.l2i, 1) := by decide +kernel
theorem d_X5_join_169 : decode prog_7_method_3_code 169 = .ok (.ireturn, 1) := by decide +kernel
theorem d_X6_init_0 : decode prog_8_method_1_code 0 = .ok (.aload_n 0, 1) := by decide +kernel
theorem d_X6_init_1 : decode prog_8_method_1_code 1 = .ok (.invokespecial 3, 3) := by decide +kernel
theorem d_X6_init_4 : decode prog_8_method_1_code 4 = .ok (.aload_n 0, 1) := by decide +kernel
theorem d_X6_init_5 : decode prog_8_method_1_code 5 = .ok (.sipush 900, 3) := by decide +kernel
theorem d_X6_init_8 : decode prog_8_method_1_code 8 = .ok (.newarray .int, 2) := by decide +kernel
theorem d_X6_init_10 : decode prog_8_method_1_code 10 = .ok (.putfield 11, 3) := by decide +kernel
theorem d_X6_init_13 : decode prog_8_method_1_code 13 = .ok (.aload_n 0, 1) := by decide +kernel
theorem d_X6_init_14 : decode prog_8_method_1_code 14 = .ok (.bipush 8, 2) := by decide +kernel
theorem d_X6_init_16 : decode prog_8_method_1_code 16 = .ok (.newarray .int, 2) := by decide +kernel
theorem d_X6_init_18 : decode prog_8_method_1_code 18 = .ok (.putfield 15, 3) := by decide +kernel
theorem d_X6_init_21 : decode prog_8_method_1_code 21 = .ok (.aload_n 0, 1) := by decide +kernel
theorem d_X6_init_22 : decode prog_8_method_1_code 22 = .ok (.bipush 8, 2) := by decide +kernel
theorem d_X6_init_24 : decode prog_8_method_1_code 24 = .ok (.newarray .int, 2) := by decide +kernel
theorem d_X6_init_26 : decode prog_8_method_1_code 26 = .ok (.putfield 18, 3) := by decide +kernel
theorem d_X6_init_29 : decode prog_8_method_1_code 29 = .ok (.aload_n 0, 1) := by decide +kernel
theorem d_X6_init_30 : decode prog_8_method_1_code 30 = .ok (.bipush 8, 2) := by decide +kernel
theorem d_X6_init_32 : decode prog_8_method_1_code 32 = .ok (.newarray .int, 2) := by decide +kernel
theorem d_X6_init_34 : decode prog_8_method_1_code 34 = .ok (.putfield 21, 3) := by decide +kernel
theorem d_X6_init_37 : decode prog_8_method_1_code 37 = .ok (.aload_n 0, 1) := by decide +kernel
theorem d_X6_init_38 : decode prog_8_method_1_code 38 = .ok (.bipush 8, 2) := by decide +kernel
theorem d_X6_init_40 : decode prog_8_method_1_code 40 = .ok (.newarray .int, 2) := by decide +kernel
theorem d_X6_init_42 : decode prog_8_method_1_code 42 = .ok (.putfield 24, 3) := by decide +kernel
theorem d_X6_init_45 : decode prog_8_method_1_code 45 = .ok (.aload_n 0, 1) := by decide +kernel
theorem d_X6_init_46 : decode prog_8_method_1_code 46 = .ok (.sipush 2048, 3) := by decide +kernel
theorem d_X6_init_49 : decode prog_8_method_1_code 49 = .ok (.newarray .int, 2) := by decide +kernel
theorem d_X6_init_51 : decode prog_8_method_1_code 51 = .ok (.putfield 27, 3) := by decide +kernel
theorem d_X6_init_54 : decode prog_8_method_1_code 54 = .ok (.aload_n 0, 1) := by decide +kernel
theorem d_X6_init_55 : decode prog_8_method_1_code 55 = .ok (.bipush 8, 2) := by decide +kernel
theorem d_X6_init_57 : decode prog_8_method_1_code 57 = .ok (.newarray .int, 2) := by decide +kernel
theorem d_X6_init_59 : decode prog_8_method_1_code 59 = .ok (.putfield 30, 3) := by decide +kernel
theorem d_X6_init_62 : decode prog_8_method_1_code 62 = .ok (.aload_n 0, 1) := by decide +kernel
theorem d_X6_init_63 : decode prog_8_method_1_code 63 = .ok (.bipush 8, 2) := by decide +kernel
theorem d_X6_init_65 : decode prog_8_method_1_code 65 = .ok (.newarray .int, 2) := by decide +kernel
theorem d_X6_init_67 : decode prog_8_method_1_code 67 = .ok (.putfield 33, 3) := by decide +kernel
theorem d_X6_init_70 : decode prog_8_method_1_code 70 = .ok (.aload_n 0, 1) := by decide +kernel
theorem d_X6_init_71 : decode prog_8_method_1_code 71 = .ok (.iconst 0, 1) := by decide +kernel
theorem d_X6_init_72 : decode prog_8_method_1_code 72 = .ok (.putfield 36, 3) := by decide +kernel
theorem d_X6_init_75 : decode prog_8_method_1_code 75 = .ok (.aload_n 0, 1) := by decide +kernel
theorem d_X6_init_76 : decode prog_8_method_1_code 76 = .ok (.sipush 256, 3) := by decide +kernel
theorem d_X6_init_79 : decode prog_8_method_1_code 79 = .ok (.newarray .int, 2) := by decide +kernel
theorem d_X6_init_81 : decode prog_8_method_1_code 81 = .ok (.putfield 40, 3) := by decide +kernel
theorem d_X6_init_84 : decode prog_8_method_1_code 84 = .ok (.aload_n 0, 1) := by decide +kernel
theorem d_X6_init_85 : decode prog_8_method_1_code 85 = .ok (.iconst 0, 1) := by decide +kernel
theorem d_X6_init_86 : decode prog_8_method_1_code 86 = .ok (.putfield 43, 3) := by decide +kernel
theorem d_X6_init_89 : decode prog_8_method_1_code 89 = .ok (.aload_n 0, 1) := by decide +kernel
theorem d_X6_init_90 : decode prog_8_method_1_code 90 = .ok (.bipush 13, 2) := by decide +kernel
theorem d_X6_init_92 : decode prog_8_method_1_code 92 = .ok (.newarray .long, 2) := by decide +kernel
theorem d_X6_init_94 : decode prog_8_method_1_code 94 = .ok (.putfield 46, 3) := by decide +kernel
theorem d_X6_init_97 : decode prog_8_method_1_code 97 = .ok (.aload_n 0, 1) := by decide +kernel
theorem d_X6_init_98 : decode prog_8_method_1_code 98 = .ok (.new 50, 3) := by decide +kernel
theorem d_X6_init_101 : decode prog_8_method_1_code 101 = .ok (.dup, 1) := by decide +kernel
theorem d_X6_init_102 : decode prog_8_method_1_code 102 = .ok (.invokespecial 52, 3) := by decide +kernel
theorem d_X6_init_105 : decode prog_8_method_1_code 105 = .ok (.putfield 53, 3) := by decide +kernel
theorem d_X6_init_108 : decode prog_8_method_1_code 108 = .ok (.aload_n 0, 1) := by decide +kernel
theorem d_X6_init_109 : decode prog_8_method_1_code 109 = .ok (.aload_n 1, 1) := by decide +kernel
theorem d_X6_init_110 : decode prog_8_method_1_code 110 = .ok (.putfield 57, 3) := by decide +kernel
theorem d_X6_init_113 : decode prog_8_method_1_code 113 = .ok (.aload_n 0, 1) := by decide +kernel
theorem d_X6_init_114 : decode prog_8_method_1_code 114 = .ok (.aload_n 2, 1) := by decide +kernel
theorem d_X6_init_115 : decode prog_8_method_1_code 115 = .ok (.putfield 61, 3) := by decide +kernel
theorem d_X6_init_118 : decode prog_8_method_1_code 118 = .ok (.return_, 1) := by decide +kernel
theorem d_X6_loadWares_0 : decode prog_8_method_2_code 0 = .ok (.aload_n 1, 1) := by decide +kernel
theorem d_X6_loadWares_1 : decode prog_8_method_2_code 1 = .ok (.invokevirtual 65, 3) := by decide +kernel
theorem d_X6_loadWares_4 : decode prog_8_method_2_code 4 = .ok (.astore_n 2, 1) := by decide +kernel
theorem d_X6_loadWares_5 : decode prog_8_method_2_code 5 = .ok (.iconst 0, 1) := by decide +kernel
theorem d_X6_loadWares_6 : decode prog_8_method_2_code 6 = .ok (.istore_n 3, 1) := by decide +kernel
theorem d_X6_loadWares_7 : decode prog_8_method_2_code 7 = .ok (.iload_n 3, 1) := by decide +kernel
theorem d_X6_loadWares_8 : decode prog_8_method_2_code 8 = .ok (.aload_n 1, 1) := by decide +kernel
theorem d_X6_loadWares_9 : decode prog_8_method_2_code 9 = .ok (.getfield 71, 3) := by decide +kernel
theorem d_X6_loadWares_12 : decode prog_8_method_2_code 12 = .ok (.if_icmp .ge 90, 3) := by decide +kernel
theorem d_X6_loadWares_15 : decode prog_8_method_2_code 15 = .ok (.iload_n 3, 1) := by decide +kernel
theorem d_X6_loadWares_16 : decode prog_8_method_2_code 16 = .ok (.bipush 8, 2) := by decide +kernel
theorem d_X6_loadWares_18 : decode prog_8_method_2_code 18 = .ok (.if_icmp .ge 84, 3) := by decide +kernel
theorem d_X6_loadWares_21 : decode prog_8_method_2_code 21 = .ok (.aload_n 0, 1) := by decide +kernel
theorem d_X6_loadWares_22 : decode prog_8_method_2_code 22 = .ok (.getfield 18, 3) := by decide +kernel
theorem d_X6_loadWares_25 : decode prog_8_method_2_code 25 = .ok (.iload_n 3, 1) := by decide +kernel
theorem d_X6_loadWares_26 : decode prog_8_method_2_code 26 = .ok (.aload_n 1, 1) := by decide +kernel
theorem d_X6_loadWares_27 : decode prog_8_method_2_code 27 = .ok (.iload_n 3, 1) := by decide +kernel
theorem d_X6_loadWares_28 : decode prog_8_method_2_code 28 = .ok (.iconst 1, 1) := by decide +kernel
theorem d_X6_loadWares_29 : decode prog_8_method_2_code 29 = .ok (.invokevirtual 74, 3) := by decide +kernel
theorem d_X6_loadWares_32 : decode prog_8_method_2_code 32 = .ok (.iastore, 1) := by decide +kernel
theorem d_X6_loadWares_33 : decode prog_8_method_2_code 33 = .ok (.aload_n 0, 1) := by decide +kernel
theorem d_X6_loadWares_34 : decode prog_8_method_2_code 34 = .ok (.getfield 21, 3) := by decide +kernel
theorem d_X6_loadWares_37 : decode prog_8_method_2_code 37 = .ok (.iload_n 3, 1) := by decide +kernel
theorem d_X6_loadWares_38 : decode prog_8_method_2_code 38 = .ok (.aload_n 0, 1) := by decide +kernel
theorem d_X6_loadWares_39 : decode prog_8_method_2_code 39 = .ok (.getfield 57, 3) := by decide +kernel
theorem d_X6_loadWares_42 : decode prog_8_method_2_code 42 = .ok (.aload_n 1, 1) := by decide +kernel
theorem d_X6_loadWares_43 : decode prog_8_method_2_code 43 = .ok (.aload_n 2, 1) := by decide +kernel
theorem d_X6_loadWares_44 : decode prog_8_method_2_code 44 = .ok (.iload_n 3, 1) := by decide +kernel
theorem d_X6_loadWares_45 : decode prog_8_method_2_code 45 = .ok (.iconst 2, 1) := by decide +kernel
theorem d_X6_loadWares_46 : decode prog_8_method_2_code 46 = .ok (.invokevirtual 78, 3) := by decide +kernel
theorem d_X6_loadWares_49 : decode prog_8_method_2_code 49 = .ok (.iastore, 1) := by decide +kernel
theorem d_X6_loadWares_50 : decode prog_8_method_2_code 50 = .ok (.aload_n 1, 1) := by decide +kernel
theorem d_X6_loadWares_51 : decode prog_8_method_2_code 51 = .ok (.iload_n 3, 1) := by decide +kernel
theorem d_X6_loadWares_52 : decode prog_8_method_2_code 52 = .ok (.invokevirtual 84, 3) := by decide +kernel
theorem d_X6_loadWares_55 : decode prog_8_method_2_code 55 = .ok (.ifCond .ne 21, 3) := by decide +kernel
theorem d_X6_loadWares_58 : decode prog_8_method_2_code 58 = .ok (.aload_n 0, 1) := by decide +kernel
theorem d_X6_loadWares_59 : decode prog_8_method_2_code 59 = .ok (.getfield 57, 3) := by decide +kernel
theorem d_X6_loadWares_62 : decode prog_8_method_2_code 62 = .ok (.aload_n 1, 1) := by decide +kernel
theorem d_X6_loadWares_63 : decode prog_8_method_2_code 63 = .ok (.aload_n 2, 1) := by decide +kernel
theorem d_X6_loadWares_64 : decode prog_8_method_2_code 64 = .ok (.iload_n 3, 1) := by decide +kernel
theorem d_X6_loadWares_65 : decode prog_8_method_2_code 65 = .ok (.iconst 3, 1) := by decide +kernel
theorem d_X6_loadWares_66 : decode prog_8_method_2_code 66 = .ok (.invokevirtual 78, 3) := by decide +kernel
theorem d_X6_loadWares_69 : decode prog_8_method_2_code 69 = .ok (.ifCond .ne 7, 3) := by decide +kernel
theorem d_X6_loadWares_72 : decode prog_8_method_2_code 72 = .ok (.iconst 1, 1) := by decide +kernel
theorem d_X6_loadWares_73 : decode prog_8_method_2_code 73 = .ok (.goto 4, 3) := by decide +kernel
theorem d_X6_loadWares_76 : decode prog_8_method_2_code 76 = .ok (.iconst 0, 1) := by decide +kernel
theorem d_X6_loadWares_77 : decode prog_8_method_2_code 77 = .ok (.istore 4, 2) := by decide +kernel
theorem d_X6_loadWares_79 : decode prog_8_method_2_code 79 = .ok (.aload_n 0, 1) := by decide +kernel
theorem d_X6_loadWares_80 : decode prog_8_method_2_code 80 = .ok (.getfield 24, 3) := by decide +kernel
theorem d_X6_loadWares_83 : decode prog_8_method_2_code 83 = .ok (.iload_n 3, 1) := by decide +kernel
theorem d_X6_loadWares_84 : decode prog_8_method_2_code 84 = .ok (.iload 4, 2) := by decide +kernel
theorem d_X6_loadWares_86 : decode prog_8_method_2_code 86 = .ok (.ifCond .eq 8, 3) := by decide +kernel
theorem d_X6_loadWares_89 : decode prog_8_method_2_code 89 = .ok (.bipush 9, 2) := by decide +kernel
theorem d_X6_loadWares_91 : decode prog_8_method_2_code 91 = .ok (.goto 4, 3) := by decide +kernel
theorem d_X6_loadWares_94 : decode prog_8_method_2_code 94 = .ok (.iconst 0, 1) := by decide +kernel
theorem d_X6_loadWares_95 : decode prog_8_method_2_code 95 = .ok (.iastore, 1) := by decide +kernel
theorem d_X6_loadWares_96 : decode prog_8_method_2_code 96 = .ok (.iinc 3 1, 3) := by decide +kernel
theorem d_X6_loadWares_99 : decode prog_8_method_2_code 99 = .ok (.goto (-92), 3) := by decide +kernel
theorem d_X6_loadWares_102 : decode prog_8_method_2_code 102 = .ok (.return_, 1) := by decide +kernel
theorem d_X6_cheapest_0 : decode prog_8_method_3_code 0 = .ok (.aload_n 0, 1) := by decide +kernel
theorem d_X6_cheapest_1 : decode prog_8_method_3_code 1 = .ok (.aload_n 1, 1) := by decide +kernel
theorem d_X6_cheapest_2 : decode prog_8_method_3_code 2 = .ok (.invokevirtual 88, 3) := by decide +kernel
theorem d_X6_cheapest_5 : decode prog_8_method_3_code 5 = .ok (.bipush 8, 2) := by decide +kernel
theorem d_X6_cheapest_7 : decode prog_8_method_3_code 7 = .ok (.aload_n 1, 1) := by decide +kernel
theorem d_X6_cheapest_8 : decode prog_8_method_3_code 8 = .ok (.getfield 71, 3) := by decide +kernel
theorem d_X6_cheapest_11 : decode prog_8_method_3_code 11 = .ok (.invokestatic 92, 3) := by decide +kernel
theorem d_X6_cheapest_14 : decode prog_8_method_3_code 14 = .ok (.istore_n 3, 1) := by decide +kernel
theorem d_X6_cheapest_15 : decode prog_8_method_3_code 15 = .ok (.iload_n 2, 1) := by decide +kernel
theorem d_X6_cheapest_16 : decode prog_8_method_3_code 16 = .ok (.iconst 0, 1) := by decide +kernel
theorem d_X6_cheapest_17 : decode prog_8_method_3_code 17 = .ok (.bipush 99, 2) := by decide +kernel
theorem d_X6_cheapest_19 : decode prog_8_method_3_code 19 = .ok (.invokestatic 97, 3) := by decide +kernel
theorem d_X6_cheapest_22 : decode prog_8_method_3_code 22 = .ok (.istore 4, 2) := by decide +kernel
theorem d_X6_cheapest_24 : decode prog_8_method_3_code 24 = .ok (.iconst 0, 1) := by decide +kernel
theorem d_X6_cheapest_25 : decode prog_8_method_3_code 25 = .ok (.istore 5, 2) := by decide +kernel
theorem d_X6_cheapest_27 : decode prog_8_method_3_code 27 = .ok (.iload 5, 2) := by decide +kernel
theorem d_X6_cheapest_29 : decode prog_8_method_3_code 29 = .ok (.iload 4, 2) := by decide +kernel
theorem d_X6_cheapest_31 : decode prog_8_method_3_code 31 = .ok (.if_icmp .gt 32, 3) := by decide +kernel
theorem d_X6_cheapest_34 : decode prog_8_method_3_code 34 = .ok (.aload_n 0, 1) := by decide +kernel
theorem d_X6_cheapest_35 : decode prog_8_method_3_code 35 = .ok (.getfield 11, 3) := by decide +kernel
theorem d_X6_cheapest_38 : decode prog_8_method_3_code 38 = .ok (.iload_n 3, 1) := by decide +kernel
theorem d_X6_cheapest_39 : decode prog_8_method_3_code 39 = .ok (.bipush 100, 2) := by decide +kernel
theorem d_X6_cheapest_41 : decode prog_8_method_3_code 41 = .ok (.imul, 1) := by decide +kernel
theorem d_X6_cheapest_42 : decode prog_8_method_3_code 42 = .ok (.iload 5, 2) := by decide +kernel
theorem d_X6_cheapest_44 : decode prog_8_method_3_code 44 = .ok (.iadd, 1) := by decide +kernel
theorem d_X6_cheapest_45 : decode prog_8_method_3_code 45 = .ok (.iload 5, 2) := by decide +kernel
theorem d_X6_cheapest_47 : decode prog_8_method_3_code 47 = .ok (.ifCond .ne 7, 3) := by decide +kernel
theorem d_X6_cheapest_50 : decode prog_8_method_3_code 50 = .ok (.iconst 0, 1) := by decide +kernel
theorem d_X6_cheapest_51 : decode prog_8_method_3_code 51 = .ok (.goto 5, 3) := by decide +kernel
theorem d_X6_cheapest_54 : decode prog_8_method_3_code 54 = .ok (.ldc 101, 2) := by decide +kernel
theorem d_X6_cheapest_56 : decode prog_8_method_3_code 56 = .ok (.iastore, 1) := by decide +kernel
theorem d_X6_cheapest_57 : decode prog_8_method_3_code 57 = .ok (.iinc 5 1, 3) := by decide +kernel
theorem d_X6_cheapest_60 : decode prog_8_method_3_code 60 = .ok (.goto (-33), 3) := by decide +kernel
theorem d_X6_cheapest_63 : decode prog_8_method_3_code 63 = .ok (.iload_n 3, 1) := by decide +kernel
theorem d_X6_cheapest_64 : decode prog_8_method_3_code 64 = .ok (.iconst 1, 1) := by decide +kernel
theorem d_X6_cheapest_65 : decode prog_8_method_3_code 65 = .ok (.isub, 1) := by decide +kernel
theorem d_X6_cheapest_66 : decode prog_8_method_3_code 66 = .ok (.istore 5, 2) := by decide +kernel
theorem d_X6_cheapest_68 : decode prog_8_method_3_code 68 = .ok (.iload 5, 2) := by decide +kernel
theorem d_X6_cheapest_70 : decode prog_8_method_3_code 70 = .ok (.ifCond .lt 54, 3) := by decide +kernel
theorem d_X6_cheapest_73 : decode prog_8_method_3_code 73 = .ok (.iconst 0, 1) := by decide +kernel
theorem d_X6_cheapest_74 : decode prog_8_method_3_code 74 = .ok (.istore 6, 2) := by decide +kernel
theorem d_X6_cheapest_76 : decode prog_8_method_3_code 76 = .ok (.iload 6, 2) := by decide +kernel
theorem d_X6_cheapest_78 : decode prog_8_method_3_code 78 = .ok (.iload 4, 2) := by decide +kernel
theorem d_X6_cheapest_80 : decode prog_8_method_3_code 80 = .ok (.if_icmp .gt 38, 3) := by decide +kernel
theorem d_X6_cheapest_83 : decode prog_8_method_3_code 83 = .ok (.aload_n 0, 1) := by decide +kernel
theorem d_X6_cheapest_84 : decode prog_8_method_3_code 84 = .ok (.getfield 11, 3) := by decide +kernel
theorem d_X6_cheapest_87 : decode prog_8_method_3_code 87 = .ok (.iload 5, 2) := by decide +kernel
theorem d_X6_cheapest_89 : decode prog_8_method_3_code 89 = .ok (.bipush 100, 2) := by decide +kernel
theorem d_X6_cheapest_91 : decode prog_8_method_3_code 91 = .ok (.imul, 1) := by decide +kernel
theorem d_X6_cheapest_92 : decode prog_8_method_3_code 92 = .ok (.iload 6, 2) := by decide +kernel
theorem d_X6_cheapest_94 : decode prog_8_method_3_code 94 = .ok (.iadd, 1) := by decide +kernel
theorem d_X6_cheapest_95 : decode prog_8_method_3_code 95 = .ok (.aload_n 0, 1) := by decide +kernel
theorem d_X6_cheapest_96 : decode prog_8_method_3_code 96 = .ok (.iload 5, 2) := by decide +kernel
theorem d_X6_cheapest_98 : decode prog_8_method_3_code 98 = .ok (.iload 6, 2) := by decide +kernel
theorem d_X6_cheapest_100 : decode prog_8_method_3_code 100 = .ok (.aload_n 0, 1) := by decide +kernel
theorem d_X6_cheapest_101 : decode prog_8_method_3_code 101 = .ok (.iload 5, 2) := by decide +kernel
theorem d_X6_cheapest_103 : decode prog_8_method_3_code 103 = .ok (.iload 6, 2) := by decide +kernel
theorem d_X6_cheapest_105 : decode prog_8_method_3_code 105 = .ok (.invokevirtual 102, 3) := by decide +kernel
theorem d_X6_cheapest_108 : decode prog_8_method_3_code 108 = .ok (.invokevirtual 105, 3) := by decide +kernel
theorem d_X6_cheapest_111 : decode prog_8_method_3_code 111 = .ok (.iastore, 1) := by decide +kernel
theorem d_X6_cheapest_112 : decode prog_8_method_3_code 112 = .ok (.iinc 6 1, 3) := by decide +kernel
theorem d_X6_cheapest_115 : decode prog_8_method_3_code 115 = .ok (.goto (-39), 3) := by decide +kernel
theorem d_X6_cheapest_118 : decode prog_8_method_3_code 118 = .ok (.iinc 5 (-1), 3) := by decide +kernel
theorem d_X6_cheapest_121 : decode prog_8_method_3_code 121 = .ok (.goto (-53), 3) := by decide +kernel
theorem d_X6_cheapest_124 : decode prog_8_method_3_code 124 = .ok (.iload 4, 2) := by decide +kernel
theorem d_X6_cheapest_126 : decode prog_8_method_3_code 126 = .ok (.istore 5, 2) := by decide +kernel
theorem d_X6_cheapest_128 : decode prog_8_method_3_code 128 = .ok (.iconst 0, 1) := by decide +kernel
theorem d_X6_cheapest_129 : decode prog_8_method_3_code 129 = .ok (.istore 6, 2) := by decide +kernel
theorem d_X6_cheapest_131 : decode prog_8_method_3_code 131 = .ok (.iload 6, 2) := by decide +kernel
theorem d_X6_cheapest_133 : decode prog_8_method_3_code 133 = .ok (.iload_n 3, 1) := by decide +kernel
theorem d_X6_cheapest_134 : decode prog_8_method_3_code 134 = .ok (.if_icmp .ge 48, 3) := by decide +kernel
theorem d_X6_cheapest_137 : decode prog_8_method_3_code 137 = .ok (.aload_n 0, 1) := by decide +kernel
theorem d_X6_cheapest_138 : decode prog_8_method_3_code 138 = .ok (.getfield 15, 3) := by decide +kernel
theorem d_X6_cheapest_141 : decode prog_8_method_3_code 141 = .ok (.iload 6, 2) := by decide +kernel
theorem d_X6_cheapest_143 : decode prog_8_method_3_code 143 = .ok (.aload_n 0, 1) := by decide +kernel
theorem d_X6_cheapest_144 : decode prog_8_method_3_code 144 = .ok (.iload 6, 2) := by decide +kernel
theorem d_X6_cheapest_146 : decode prog_8_method_3_code 146 = .ok (.iload 5, 2) := by decide +kernel
theorem d_X6_cheapest_148 : decode prog_8_method_3_code 148 = .ok (.invokevirtual 102, 3) := by decide +kernel
theorem d_X6_cheapest_151 : decode prog_8_method_3_code 151 = .ok (.iastore, 1) := by decide +kernel
theorem d_X6_cheapest_152 : decode prog_8_method_3_code 152 = .ok (.iconst 0, 1) := by decide +kernel
theorem d_X6_cheapest_153 : decode prog_8_method_3_code 153 = .ok (.iload 5, 2) := by decide +kernel
theorem d_X6_cheapest_155 : decode prog_8_method_3_code 155 = .ok (.aload_n 0, 1) := by decide +kernel
theorem d_X6_cheapest_156 : decode prog_8_method_3_code 156 = .ok (.getfield 15, 3) := by decide +kernel
theorem d_X6_cheapest_159 : decode prog_8_method_3_code 159 = .ok (.iload 6, 2) := by decide +kernel
theorem d_X6_cheapest_161 : decode prog_8_method_3_code 161 = .ok (.iaload, 1) := by decide +kernel
theorem d_X6_cheapest_162 : decode prog_8_method_3_code 162 = .ok (.aload_n 0, 1) := by decide +kernel
theorem d_X6_cheapest_163 : decode prog_8_method_3_code 163 = .ok (.getfield 21, 3) := by decide +kernel
theorem d_X6_cheapest_166 : decode prog_8_method_3_code 166 = .ok (.iload 6, 2) := by decide +kernel
theorem d_X6_cheapest_168 : decode prog_8_method_3_code 168 = .ok (.iaload, 1) := by decide +kernel
theorem d_X6_cheapest_169 : decode prog_8_method_3_code 169 = .ok (.imul, 1) := by decide +kernel
theorem d_X6_cheapest_170 : decode prog_8_method_3_code 170 = .ok (.isub, 1) := by decide +kernel
theorem d_X6_cheapest_171 : decode prog_8_method_3_code 171 = .ok (.invokestatic 108, 3) := by decide +kernel
theorem d_X6_cheapest_174 : decode prog_8_method_3_code 174 = .ok (.istore 5, 2) := by decide +kernel
theorem d_X6_cheapest_176 : decode prog_8_method_3_code 176 = .ok (.iinc 6 1, 3) := by decide +kernel
theorem d_X6_cheapest_179 : decode prog_8_method_3_code 179 = .ok (.goto (-48), 3) := by decide +kernel
theorem d_X6_cheapest_182 : decode prog_8_method_3_code 182 = .ok (.aload_n 0, 1) := by decide +kernel
theorem d_X6_cheapest_183 : decode prog_8_method_3_code 183 = .ok (.getfield 11, 3) := by decide +kernel
theorem d_X6_cheapest_186 : decode prog_8_method_3_code 186 = .ok (.iload 4, 2) := by decide +kernel
theorem d_X6_cheapest_188 : decode prog_8_method_3_code 188 = .ok (.iaload, 1) := by decide +kernel
theorem d_X6_cheapest_189 : decode prog_8_method_3_code 189 = .ok (.ldc 101, 2) := by decide +kernel
theorem d_X6_cheapest_191 : decode prog_8_method_3_code 191 = .ok (.if_icmp .lt 7, 3) := by decide +kernel
theorem d_X6_cheapest_194 : decode prog_8_method_3_code 194 = .ok (.iconst (-1), 1) := by decide +kernel
theorem d_X6_cheapest_195 : decode prog_8_method_3_code 195 = .ok (.goto 10, 3) := by decide +kernel
theorem d_X6_cheapest_198 : decode prog_8_method_3_code 198 = .ok (.aload_n 0, 1) := by decide +kernel
theorem d_X6_cheapest_199 : decode prog_8_method_3_code 199 = .ok (.getfield 11, 3) := by decide +kernel
theorem d_X6_cheapest_202 : decode prog_8_method_3_code 202 = .ok (.iload 4, 2) := by decide +kernel
theorem d_X6_cheapest_204 : decode prog_8_method_3_code 204 = .ok (.iaload, 1) := by decide +kernel
theorem d_X6_cheapest_205 : decode prog_8_method_3_code 205 = .ok (.ireturn, 1) := by decide +kernel
theorem d_X6_bestAmount_0 : decode prog_8_method_4_code 0 = .ok (.iconst 0, 1) := by decide +kernel
theorem d_X6_bestAmount_1 : decode prog_8_method_4_code 1 = .ok (.istore_n 3, 1) := by decide +kernel
theorem d_X6_bestAmount_2 : decode prog_8_method_4_code 2 = .ok (.aload_n 0, 1) := by decide +kernel
theorem d_X6_bestAmount_3 : decode prog_8_method_4_code 3 = .ok (.iload_n 1, 1) := by decide +kernel
theorem d_X6_bestAmount_4 : decode prog_8_method_4_code 4 = .ok (.iload_n 2, 1) := by decide +kernel
theorem d_X6_bestAmount_5 : decode prog_8_method_4_code 5 = .ok (.iconst 0, 1) := by decide +kernel
theorem d_X6_bestAmount_6 : decode prog_8_method_4_code 6 = .ok (.invokevirtual 105, 3) := by decide +kernel
theorem d_X6_bestAmount_9 : decode prog_8_method_4_code 9 = .ok (.istore 4, 2) := by decide +kernel
theorem d_X6_bestAmount_11 : decode prog_8_method_4_code 11 = .ok (.iconst 1, 1) := by decide +kernel
theorem d_X6_bestAmount_12 : decode prog_8_method_4_code 12 = .ok (.istore 5, 2) := by decide +kernel
theorem d_X6_bestAmount_14 : decode prog_8_method_4_code 14 = .ok (.iload 5, 2) := by decide +kernel
theorem d_X6_bestAmount_16 : decode prog_8_method_4_code 16 = .ok (.aload_n 0, 1) := by decide +kernel
theorem d_X6_bestAmount_17 : decode prog_8_method_4_code 17 = .ok (.getfield 24, 3) := by decide +kernel
theorem d_X6_bestAmount_20 : decode prog_8_method_4_code 20 = .ok (.iload_n 1, 1) := by decide +kernel
theorem d_X6_bestAmount_21 : decode prog_8_method_4_code 21 = .ok (.iaload, 1) := by decide +kernel
theorem d_X6_bestAmount_22 : decode prog_8_method_4_code 22 = .ok (.if_icmp .gt 48, 3) := by decide +kernel
theorem d_X6_bestAmount_25 : decode prog_8_method_4_code 25 = .ok (.iload 5, 2) := by decide +kernel
theorem d_X6_bestAmount_27 : decode prog_8_method_4_code 27 = .ok (.iconst 1, 1) := by decide +kernel
theorem d_X6_bestAmount_28 : decode prog_8_method_4_code 28 = .ok (.isub, 1) := by decide +kernel
theorem d_X6_bestAmount_29 : decode prog_8_method_4_code 29 = .ok (.aload_n 0, 1) := by decide +kernel
theorem d_X6_bestAmount_30 : decode prog_8_method_4_code 30 = .ok (.getfield 21, 3) := by decide +kernel
theorem d_X6_bestAmount_33 : decode prog_8_method_4_code 33 = .ok (.iload_n 1, 1) := by decide +kernel
theorem d_X6_bestAmount_34 : decode prog_8_method_4_code 34 = .ok (.iaload, 1) := by decide +kernel
theorem d_X6_bestAmount_35 : decode prog_8_method_4_code 35 = .ok (.imul, 1) := by decide +kernel
theorem d_X6_bestAmount_36 : decode prog_8_method_4_code 36 = .ok (.iload_n 2, 1) := by decide +kernel
theorem d_X6_bestAmount_37 : decode prog_8_method_4_code 37 = .ok (.if_icmp .ge 33, 3) := by decide +kernel
theorem d_X6_bestAmount_40 : decode prog_8_method_4_code 40 = .ok (.aload_n 0, 1) := by decide +kernel
theorem d_X6_bestAmount_41 : decode prog_8_method_4_code 41 = .ok (.iload_n 1, 1) := by decide +kernel
theorem d_X6_bestAmount_42 : decode prog_8_method_4_code 42 = .ok (.iload_n 2, 1) := by decide +kernel
theorem d_X6_bestAmount_43 : decode prog_8_method_4_code 43 = .ok (.iload 5, 2) := by decide +kernel
theorem d_X6_bestAmount_45 : decode prog_8_method_4_code 45 = .ok (.invokevirtual 105, 3) := by decide +kernel
theorem d_X6_bestAmount_48 : decode prog_8_method_4_code 48 = .ok (.istore 6, 2) := by decide +kernel
theorem d_X6_bestAmount_50 : decode prog_8_method_4_code 50 = .ok (.iload 6, 2) := by decide +kernel
theorem d_X6_bestAmount_52 : decode prog_8_method_4_code 52 = .ok (.iload 4, 2) := by decide +kernel
theorem d_X6_bestAmount_54 : decode prog_8_method_4_code 54 = .ok (.if_icmp .ge 10, 3) := by decide +kernel
theorem d_X6_bestAmount_57 : decode prog_8_method_4_code 57 = .ok (.iload 5, 2) := by decide +kernel
theorem d_X6_bestAmount_59 : decode prog_8_method_4_code 59 = .ok (.istore_n 3, 1) := by decide +kernel
theorem d_X6_bestAmount_60 : decode prog_8_method_4_code 60 = .ok (.iload 6, 2) := by decide +kernel
theorem d_X6_bestAmount_62 : decode prog_8_method_4_code 62 = .ok (.istore 4, 2) := by decide +kernel
theorem d_X6_bestAmount_64 : decode prog_8_method_4_code 64 = .ok (.iinc 5 1, 3) := by decide +kernel
theorem d_X6_bestAmount_67 : decode prog_8_method_4_code 67 = .ok (.goto (-53), 3) := by decide +kernel
theorem d_X6_bestAmount_70 : decode prog_8_method_4_code 70 = .ok (.iload_n 3, 1) := by decide +kernel
theorem d_X6_bestAmount_71 : decode prog_8_method_4_code 71 = .ok (.ireturn, 1) := by decide +kernel
theorem d_X6_costWith_0 : decode prog_8_method_5_code 0 = .ok (.iload_n 2, 1) := by decide +kernel
theorem d_X6_costWith_1 : decode prog_8_method_5_code 1 = .ok (.iload_n 3, 1) := by decide +kernel
theorem d_X6_costWith_2 : decode prog_8_method_5_code 2 = .ok (.aload_n 0, 1) := by decide +kernel
theorem d_X6_costWith_3 : decode prog_8_method_5_code 3 = .ok (.getfield 21, 3) := by decide +kernel
theorem d_X6_costWith_6 : decode prog_8_method_5_code 6 = .ok (.iload_n 1, 1) := by decide +kernel
theorem d_X6_costWith_7 : decode prog_8_method_5_code 7 = .ok (.iaload, 1) := by decide +kernel
theorem d_X6_costWith_8 : decode prog_8_method_5_code 8 = .ok (.imul, 1) := by decide +kernel
theorem d_X6_costWith_9 : decode prog_8_method_5_code 9 = .ok (.isub, 1) := by decide +kernel
theorem d_X6_costWith_10 : decode prog_8_method_5_code 10 = .ok (.iconst 0, 1) := by decide +kernel
theorem d_X6_costWith_11 : decode prog_8_method_5_code 11 = .ok (.bipush 99, 2) := by decide +kernel
theorem d_X6_costWith_13 : decode prog_8_method_5_code 13 = .ok (.invokestatic 97, 3) := by decide +kernel
theorem d_X6_costWith_16 : decode prog_8_method_5_code 16 = .ok (.istore 4, 2) := by decide +kernel
theorem d_X6_costWith_18 : decode prog_8_method_5_code 18 = .ok (.ldc 101, 2) := by decide +kernel
theorem d_X6_costWith_20 : decode prog_8_method_5_code 20 = .ok (.iload_n 3, 1) := by decide +kernel
theorem d_X6_costWith_21 : decode prog_8_method_5_code 21 = .ok (.aload_n 0, 1) := by decide +kernel
theorem d_X6_costWith_22 : decode prog_8_method_5_code 22 = .ok (.getfield 18, 3) := by decide +kernel
theorem d_X6_costWith_25 : decode prog_8_method_5_code 25 = .ok (.iload_n 1, 1) := by decide +kernel
theorem d_X6_costWith_26 : decode prog_8_method_5_code 26 = .ok (.iaload, 1) := by decide +kernel
theorem d_X6_costWith_27 : decode prog_8_method_5_code 27 = .ok (.imul, 1) := by decide +kernel
theorem d_X6_costWith_28 : decode prog_8_method_5_code 28 = .ok (.aload_n 0, 1) := by decide +kernel
theorem d_X6_costWith_29 : decode prog_8_method_5_code 29 = .ok (.getfield 11, 3) := by decide +kernel
theorem d_X6_costWith_32 : decode prog_8_method_5_code 32 = .ok (.iload_n 1, 1) := by decide +kernel
theorem d_X6_costWith_33 : decode prog_8_method_5_code 33 = .ok (.iconst 1, 1) := by decide +kernel
theorem d_X6_costWith_34 : decode prog_8_method_5_code 34 = .ok (.iadd, 1) := by decide +kernel
theorem d_X6_costWith_35 : decode prog_8_method_5_code 35 = .ok (.bipush 100, 2) := by decide +kernel
theorem d_X6_costWith_37 : decode prog_8_method_5_code 37 = .ok (.imul, 1) := by decide +kernel
theorem d_X6_costWith_38 : decode prog_8_method_5_code 38 = .ok (.iload 4, 2) := by decide +kernel
theorem d_X6_costWith_40 : decode prog_8_method_5_code 40 = .ok (.iadd, 1) := by decide +kernel
theorem d_X6_costWith_41 : decode prog_8_method_5_code 41 = .ok (.iaload, 1) := by decide +kernel
theorem d_X6_costWith_42 : decode prog_8_method_5_code 42 = .ok (.iadd, 1) := by decide +kernel
theorem d_X6_costWith_43 : decode prog_8_method_5_code 43 = .ok (.invokestatic 92, 3) := by decide +kernel
theorem d_X6_costWith_46 : decode prog_8_method_5_code 46 = .ok (.ireturn, 1) := by decide +kernel
theorem d_X6_amountOf_0 : decode prog_8_method_6_code 0 = .ok (.iload_n 1, 1) := by decide +kernel
theorem d_X6_amountOf_1 : decode prog_8_method_6_code 1 = .ok (.iconst 0, 1) := by decide +kernel
theorem d_X6_amountOf_2 : decode prog_8_method_6_code 2 = .ok (.bipush 7, 2) := by decide +kernel
theorem d_X6_amountOf_4 : decode prog_8_method_6_code 4 = .ok (.invokestatic 111, 3) := by decide +kernel
theorem d_X6_amountOf_7 : decode prog_8_method_6_code 7 = .ok (.ifCond .eq 12, 3) := by decide +kernel
theorem d_X6_amountOf_10 : decode prog_8_method_6_code 10 = .ok (.aload_n 0, 1) := by decide +kernel
theorem d_X6_amountOf_11 : decode prog_8_method_6_code 11 = .ok (.getfield 15, 3) := by decide +kernel
theorem d_X6_amountOf_14 : decode prog_8_method_6_code 14 = .ok (.iload_n 1, 1) := by decide +kernel
theorem d_X6_amountOf_15 : decode prog_8_method_6_code 15 = .ok (.iaload, 1) := by decide +kernel
theorem d_X6_amountOf_16 : decode prog_8_method_6_code 16 = .ok (.goto 4, 3) := by decide +kernel
theorem d_X6_amountOf_19 : decode prog_8_method_6_code 19 = .ok (.iconst (-1), 1) := by decide +kernel
theorem d_X6_amountOf_20 : decode prog_8_method_6_code 20 = .ok (.ireturn, 1) := by decide +kernel
theorem d_X6_walk_0 : decode prog_8_method_7_code 0 = .ok (.aload_n 0, 1) := by decide +kernel
theorem d_X6_walk_1 : decode prog_8_method_7_code 1 = .ok (.aload_n 1, 1) := by decide +kernel
theorem d_X6_walk_2 : decode prog_8_method_7_code 2 = .ok (.invokevirtual 115, 3) := by decide +kernel
theorem d_X6_walk_5 : decode prog_8_method_7_code 5 = .ok (.istore_n 3, 1) := by decide +kernel
theorem d_X6_walk_6 : decode prog_8_method_7_code 6 = .ok (.iconst 1, 1) := by decide +kernel
theorem d_X6_walk_7 : decode prog_8_method_7_code 7 = .ok (.istore 4, 2) := by decide +kernel
theorem d_X6_walk_9 : decode prog_8_method_7_code 9 = .ok (.iload 4, 2) := by decide +kernel
theorem d_X6_walk_11 : decode prog_8_method_7_code 11 = .ok (.iload_n 3, 1) := by decide +kernel
theorem d_X6_walk_12 : decode prog_8_method_7_code 12 = .ok (.if_icmp .ge 86, 3) := by decide +kernel
theorem d_X6_walk_15 : decode prog_8_method_7_code 15 = .ok (.iload 4, 2) := by decide +kernel
theorem d_X6_walk_17 : decode prog_8_method_7_code 17 = .ok (.sipush 256, 3) := by decide +kernel
theorem d_X6_walk_20 : decode prog_8_method_7_code 20 = .ok (.if_icmp .ge 78, 3) := by decide +kernel
theorem d_X6_walk_23 : decode prog_8_method_7_code 23 = .ok (.iconst 0, 1) := by decide +kernel
theorem d_X6_walk_24 : decode prog_8_method_7_code 24 = .ok (.istore 5, 2) := by decide +kernel
theorem d_X6_walk_26 : decode prog_8_method_7_code 26 = .ok (.iload 5, 2) := by decide +kernel
theorem d_X6_walk_28 : decode prog_8_method_7_code 28 = .ok (.bipush 8, 2) := by decide +kernel
theorem d_X6_walk_30 : decode prog_8_method_7_code 30 = .ok (.if_icmp .ge 62, 3) := by decide +kernel
theorem d_X6_walk_33 : decode prog_8_method_7_code 33 = .ok (.iload 4, 2) := by decide +kernel
theorem d_X6_walk_35 : decode prog_8_method_7_code 35 = .ok (.iload_n 3, 1) := by decide +kernel
theorem d_X6_walk_36 : decode prog_8_method_7_code 36 = .ok (.iand, 1) := by decide +kernel
theorem d_X6_walk_37 : decode prog_8_method_7_code 37 = .ok (.iload 4, 2) := by decide +kernel
theorem d_X6_walk_39 : decode prog_8_method_7_code 39 = .ok (.if_icmp .ne 53, 3) := by decide +kernel
theorem d_X6_walk_42 : decode prog_8_method_7_code 42 = .ok (.iload_n 3, 1) := by decide +kernel
theorem d_X6_walk_43 : decode prog_8_method_7_code 43 = .ok (.iload 4, 2) := by decide +kernel
theorem d_X6_walk_45 : decode prog_8_method_7_code 45 = .ok (.iconst (-1), 1) := by decide +kernel
theorem d_X6_walk_46 : decode prog_8_method_7_code 46 = .ok (.ixor, 1) := by decide +kernel
theorem d_X6_walk_47 : decode prog_8_method_7_code 47 = .ok (.iand, 1) := by decide +kernel
theorem d_X6_walk_48 : decode prog_8_method_7_code 48 = .ok (.iload 5, 2) := by decide +kernel
theorem d_X6_walk_50 : decode prog_8_method_7_code 50 = .ok (.ishr, 1) := by decide +kernel
theorem d_X6_walk_51 : decode prog_8_method_7_code 51 = .ok (.iconst 1, 1) := by decide +kernel
theorem d_X6_walk_52 : decode prog_8_method_7_code 52 = .ok (.iand, 1) := by decide +kernel
theorem d_X6_walk_53 : decode prog_8_method_7_code 53 = .ok (.iconst 1, 1) := by decide +kernel
theorem d_X6_walk_54 : decode prog_8_method_7_code 54 = .ok (.if_icmp .ne 32, 3) := by decide +kernel
theorem d_X6_walk_57 : decode prog_8_method_7_code 57 = .ok (.aload_n 0, 1) := by decide +kernel
theorem d_X6_walk_58 : decode prog_8_method_7_code 58 = .ok (.getfield 27, 3) := by decide +kernel
theorem d_X6_walk_61 : decode prog_8_method_7_code 61 = .ok (.iload 4, 2) := by decide +kernel
theorem d_X6_walk_63 : decode prog_8_method_7_code 63 = .ok (.bipush 8, 2) := by decide +kernel
theorem d_X6_walk_65 : decode prog_8_method_7_code 65 = .ok (.imul, 1) := by decide +kernel
theorem d_X6_walk_66 : decode prog_8_method_7_code 66 = .ok (.iload 5, 2) := by decide +kernel
theorem d_X6_walk_68 : decode prog_8_method_7_code 68 = .ok (.iadd, 1) := by decide +kernel
theorem d_X6_walk_69 : decode prog_8_method_7_code 69 = .ok (.aload_n 0, 1) := by decide +kernel
theorem d_X6_walk_70 : decode prog_8_method_7_code 70 = .ok (.aload_n 0, 1) := by decide +kernel
theorem d_X6_walk_71 : decode prog_8_method_7_code 71 = .ok (.getfield 30, 3) := by decide +kernel
theorem d_X6_walk_74 : decode prog_8_method_7_code 74 = .ok (.iload 5, 2) := by decide +kernel
theorem d_X6_walk_76 : decode prog_8_method_7_code 76 = .ok (.iaload, 1) := by decide +kernel
theorem d_X6_walk_77 : decode prog_8_method_7_code 77 = .ok (.iload 4, 2) := by decide +kernel
theorem d_X6_walk_79 : decode prog_8_method_7_code 79 = .ok (.invokevirtual 119, 3) := by decide +kernel
theorem d_X6_walk_82 : decode prog_8_method_7_code 82 = .ok (.bipush 8, 2) := by decide +kernel
theorem d_X6_walk_84 : decode prog_8_method_7_code 84 = .ok (.idiv, 1) := by decide +kernel
theorem d_X6_walk_85 : decode prog_8_method_7_code 85 = .ok (.iastore, 1) := by decide +kernel
theorem d_X6_walk_86 : decode prog_8_method_7_code 86 = .ok (.iinc 5 1, 3) := by decide +kernel
theorem d_X6_walk_89 : decode prog_8_method_7_code 89 = .ok (.goto (-63), 3) := by decide +kernel
theorem d_X6_walk_92 : decode prog_8_method_7_code 92 = .ok (.iinc 4 1, 3) := by decide +kernel
theorem d_X6_walk_95 : decode prog_8_method_7_code 95 = .ok (.goto (-86), 3) := by decide +kernel
theorem d_X6_walk_98 : decode prog_8_method_7_code 98 = .ok (.aload_n 0, 1) := by decide +kernel
theorem d_X6_walk_99 : decode prog_8_method_7_code 99 = .ok (.iconst 0, 1) := by decide +kernel
theorem d_X6_walk_100 : decode prog_8_method_7_code 100 = .ok (.putfield 36, 3) := by decide +kernel
theorem d_X6_walk_103 : decode prog_8_method_7_code 103 = .ok (.aload_n 0, 1) := by decide +kernel
theorem d_X6_walk_104 : decode prog_8_method_7_code 104 = .ok (.iload_n 2, 1) := by decide +kernel
theorem d_X6_walk_105 : decode prog_8_method_7_code 105 = .ok (.iload_n 3, 1) := by decide +kernel
theorem d_X6_walk_106 : decode prog_8_method_7_code 106 = .ok (.invokevirtual 119, 3) := by decide +kernel
theorem d_X6_walk_109 : decode prog_8_method_7_code 109 = .ok (.bipush 8, 2) := by decide +kernel
theorem d_X6_walk_111 : decode prog_8_method_7_code 111 = .ok (.idiv, 1) := by decide +kernel
theorem d_X6_walk_112 : decode prog_8_method_7_code 112 = .ok (.istore 4, 2) := by decide +kernel
theorem d_X6_walk_114 : decode prog_8_method_7_code 114 = .ok (.iload_n 2, 1) := by decide +kernel
theorem d_X6_walk_115 : decode prog_8_method_7_code 115 = .ok (.istore 5, 2) := by decide +kernel
theorem d_X6_walk_117 : decode prog_8_method_7_code 117 = .ok (.iload_n 3, 1) := by decide +kernel
theorem d_X6_walk_118 : decode prog_8_method_7_code 118 = .ok (.istore 6, 2) := by decide +kernel
theorem d_X6_walk_120 : decode prog_8_method_7_code 120 = .ok (.iconst 0, 1) := by decide +kernel
theorem d_X6_walk_121 : decode prog_8_method_7_code 121 = .ok (.istore 7, 2) := by decide +kernel
theorem d_X6_walk_123 : decode prog_8_method_7_code 123 = .ok (.iload 7, 2) := by decide +kernel
theorem d_X6_walk_125 : decode prog_8_method_7_code 125 = .ok (.bipush 8, 2) := by decide +kernel
theorem d_X6_walk_127 : decode prog_8_method_7_code 127 = .ok (.if_icmp .ge 64, 3) := by decide +kernel
theorem d_X6_walk_130 : decode prog_8_method_7_code 130 = .ok (.iload 6, 2) := by decide +kernel
theorem d_X6_walk_132 : decode prog_8_method_7_code 132 = .ok (.ifCond .eq 59, 3) := by decide +kernel
theorem d_X6_walk_135 : decode prog_8_method_7_code 135 = .ok (.aload_n 0, 1) := by decide +kernel
theorem d_X6_walk_136 : decode prog_8_method_7_code 136 = .ok (.iload 5, 2) := by decide +kernel
theorem d_X6_walk_138 : decode prog_8_method_7_code 138 = .ok (.iload 6, 2) := by decide +kernel
theorem d_X6_walk_140 : decode prog_8_method_7_code 140 = .ok (.invokevirtual 119, 3) := by decide +kernel
theorem d_X6_walk_143 : decode prog_8_method_7_code 143 = .ok (.bipush 8, 2) := by decide +kernel
theorem d_X6_walk_145 : decode prog_8_method_7_code 145 = .ok (.irem, 1) := by decide +kernel
theorem d_X6_walk_146 : decode prog_8_method_7_code 146 = .ok (.istore 8, 2) := by decide +kernel
theorem d_X6_walk_148 : decode prog_8_method_7_code 148 = .ok (.aload_n 0, 1) := by decide +kernel
theorem d_X6_walk_149 : decode prog_8_method_7_code 149 = .ok (.getfield 33, 3) := by decide +kernel
theorem d_X6_walk_152 : decode prog_8_method_7_code 152 = .ok (.iload 7, 2) := by decide +kernel
theorem d_X6_walk_154 : decode prog_8_method_7_code 154 = .ok (.iload 8, 2) := by decide +kernel
theorem d_X6_walk_156 : decode prog_8_method_7_code 156 = .ok (.iastore, 1) := by decide +kernel
theorem d_X6_walk_157 : decode prog_8_method_7_code 157 = .ok (.aload_n 0, 1) := by decide +kernel
theorem d_X6_walk_158 : decode prog_8_method_7_code 158 = .ok (.iload 7, 2) := by decide +kernel
theorem d_X6_walk_160 : decode prog_8_method_7_code 160 = .ok (.iconst 1, 1) := by decide +kernel
theorem d_X6_walk_161 : decode prog_8_method_7_code 161 = .ok (.iadd, 1) := by decide +kernel
theorem d_X6_walk_162 : decode prog_8_method_7_code 162 = .ok (.putfield 36, 3) := by decide +kernel
theorem d_X6_walk_165 : decode prog_8_method_7_code 165 = .ok (.aload_n 0, 1) := by decide +kernel
theorem d_X6_walk_166 : decode prog_8_method_7_code 166 = .ok (.getfield 30, 3) := by decide +kernel
theorem d_X6_walk_169 : decode prog_8_method_7_code 169 = .ok (.iload 8, 2) := by decide +kernel
theorem d_X6_walk_171 : decode prog_8_method_7_code 171 = .ok (.iaload, 1) := by decide +kernel
theorem d_X6_walk_172 : decode prog_8_method_7_code 172 = .ok (.istore 5, 2) := by decide +kernel
theorem d_X6_walk_174 : decode prog_8_method_7_code 174 = .ok (.iload 6, 2) := by decide +kernel
theorem d_X6_walk_176 : decode prog_8_method_7_code 176 = .ok (.iconst 1, 1) := by decide +kernel
theorem d_X6_walk_177 : decode prog_8_method_7_code 177 = .ok (.iload 8, 2) := by decide +kernel
theorem d_X6_walk_179 : decode prog_8_method_7_code 179 = .ok (.ishl, 1) := by decide +kernel
theorem d_X6_walk_180 : decode prog_8_method_7_code 180 = .ok (.iconst (-1), 1) := by decide +kernel
theorem d_X6_walk_181 : decode prog_8_method_7_code 181 = .ok (.ixor, 1) := by decide +kernel
theorem d_X6_walk_182 : decode prog_8_method_7_code 182 = .ok (.iand, 1) := by decide +kernel
theorem d_X6_walk_183 : decode prog_8_method_7_code 183 = .ok (.istore 6, 2) := by decide +kernel
theorem d_X6_walk_185 : decode prog_8_method_7_code 185 = .ok (.iinc 7 1, 3) := by decide +kernel
theorem d_X6_walk_188 : decode prog_8_method_7_code 188 = .ok (.goto (-65), 3) := by decide +kernel
theorem d_X6_walk_191 : decode prog_8_method_7_code 191 = .ok (.iload 4, 2) := by decide +kernel
theorem d_X6_walk_193 : decode prog_8_method_7_code 193 = .ok (.ireturn, 1) := by decide +kernel
theorem d_X6_loadPlaces_0 : decode prog_8_method_8_code 0 = .ok (.aload_n 0, 1) := by decide +kernel
theorem d_X6_loadPlaces_1 : decode prog_8_method_8_code 1 = .ok (.getfield 61, 3) := by decide +kernel
theorem d_X6_loadPlaces_4 : decode prog_8_method_8_code 4 = .ok (.aload_n 1, 1) := by decide +kernel
theorem d_X6_loadPlaces_5 : decode prog_8_method_8_code 5 = .ok (.aload_n 1, 1) := by decide +kernel
theorem d_X6_loadPlaces_6 : decode prog_8_method_8_code 6 = .ok (.invokevirtual 65, 3) := by decide +kernel
theorem d_X6_loadPlaces_9 : decode prog_8_method_8_code 9 = .ok (.invokevirtual 122, 3) := by decide +kernel
theorem d_X6_loadPlaces_12 : decode prog_8_method_8_code 12 = .ok (.iconst 0, 1) := by decide +kernel
theorem d_X6_loadPlaces_13 : decode prog_8_method_8_code 13 = .ok (.istore_n 2, 1) := by decide +kernel
theorem d_X6_loadPlaces_14 : decode prog_8_method_8_code 14 = .ok (.iconst 0, 1) := by decide +kernel
theorem d_X6_loadPlaces_15 : decode prog_8_method_8_code 15 = .ok (.istore_n 3, 1) := by decide +kernel
theorem d_X6_loadPlaces_16 : decode prog_8_method_8_code 16 = .ok (.iload_n 3, 1) := by decide +kernel
theorem d_X6_loadPlaces_17 : decode prog_8_method_8_code 17 = .ok (.bipush 8, 2) := by decide +kernel
theorem d_X6_loadPlaces_19 : decode prog_8_method_8_code 19 = .ok (.if_icmp .ge 76, 3) := by decide +kernel
theorem d_X6_loadPlaces_22 : decode prog_8_method_8_code 22 = .ok (.aload_n 1, 1) := by decide +kernel
theorem d_X6_loadPlaces_23 : decode prog_8_method_8_code 23 = .ok (.iload_n 3, 1) := by decide +kernel
theorem d_X6_loadPlaces_24 : decode prog_8_method_8_code 24 = .ok (.invokevirtual 128, 3) := by decide +kernel
theorem d_X6_loadPlaces_27 : decode prog_8_method_8_code 27 = .ok (.ifCond .eq 19, 3) := by decide +kernel
theorem d_X6_loadPlaces_30 : decode prog_8_method_8_code 30 = .ok (.aload_n 0, 1) := by decide +kernel
theorem d_X6_loadPlaces_31 : decode prog_8_method_8_code 31 = .ok (.getfield 61, 3) := by decide +kernel
theorem d_X6_loadPlaces_34 : decode prog_8_method_8_code 34 = .ok (.getfield 131, 3) := by decide +kernel
theorem d_X6_loadPlaces_37 : decode prog_8_method_8_code 37 = .ok (.iload_n 3, 1) := by decide +kernel
theorem d_X6_loadPlaces_38 : decode prog_8_method_8_code 38 = .ok (.iaload, 1) := by decide +kernel
theorem d_X6_loadPlaces_39 : decode prog_8_method_8_code 39 = .ok (.ifCond .le 7, 3) := by decide +kernel
theorem d_X6_loadPlaces_42 : decode prog_8_method_8_code 42 = .ok (.iconst 1, 1) := by decide +kernel
theorem d_X6_loadPlaces_43 : decode prog_8_method_8_code 43 = .ok (.goto 4, 3) := by decide +kernel
theorem d_X6_loadPlaces_46 : decode prog_8_method_8_code 46 = .ok (.iconst 0, 1) := by decide +kernel
theorem d_X6_loadPlaces_47 : decode prog_8_method_8_code 47 = .ok (.istore 4, 2) := by decide +kernel
theorem d_X6_loadPlaces_49 : decode prog_8_method_8_code 49 = .ok (.aload_n 0, 1) := by decide +kernel
theorem d_X6_loadPlaces_50 : decode prog_8_method_8_code 50 = .ok (.getfield 30, 3) := by decide +kernel
theorem d_X6_loadPlaces_53 : decode prog_8_method_8_code 53 = .ok (.iload_n 3, 1) := by decide +kernel
theorem d_X6_loadPlaces_54 : decode prog_8_method_8_code 54 = .ok (.iload 4, 2) := by decide +kernel
theorem d_X6_loadPlaces_56 : decode prog_8_method_8_code 56 = .ok (.ifCond .eq 16, 3) := by decide +kernel
theorem d_X6_loadPlaces_59 : decode prog_8_method_8_code 59 = .ok (.aload_n 1, 1) := by decide +kernel
theorem d_X6_loadPlaces_60 : decode prog_8_method_8_code 60 = .ok (.aload_n 1, 1) := by decide +kernel
theorem d_X6_loadPlaces_61 : decode prog_8_method_8_code 61 = .ok (.iload_n 3, 1) := by decide +kernel
theorem d_X6_loadPlaces_62 : decode prog_8_method_8_code 62 = .ok (.invokevirtual 134, 3) := by decide +kernel
theorem d_X6_loadPlaces_65 : decode prog_8_method_8_code 65 = .ok (.iconst 4, 1) := by decide +kernel
theorem d_X6_loadPlaces_66 : decode prog_8_method_8_code 66 = .ok (.invokevirtual 74, 3) := by decide +kernel
theorem d_X6_loadPlaces_69 : decode prog_8_method_8_code 69 = .ok (.goto 4, 3) := by decide +kernel
theorem d_X6_loadPlaces_72 : decode prog_8_method_8_code 72 = .ok (.iconst 0, 1) := by decide +kernel
theorem d_X6_loadPlaces_73 : decode prog_8_method_8_code 73 = .ok (.iastore, 1) := by decide +kernel
theorem d_X6_loadPlaces_74 : decode prog_8_method_8_code 74 = .ok (.iload_n 2, 1) := by decide +kernel
theorem d_X6_loadPlaces_75 : decode prog_8_method_8_code 75 = .ok (.iload 4, 2) := by decide +kernel
theorem d_X6_loadPlaces_77 : decode prog_8_method_8_code 77 = .ok (.ifCond .eq 9, 3) := by decide +kernel
theorem d_X6_loadPlaces_80 : decode prog_8_method_8_code 80 = .ok (.iconst 1, 1) := by decide +kernel
theorem d_X6_loadPlaces_81 : decode prog_8_method_8_code 81 = .ok (.iload_n 3, 1) := by decide +kernel
theorem d_X6_loadPlaces_82 : decode prog_8_method_8_code 82 = .ok (.ishl, 1) := by decide +kernel
theorem d_X6_loadPlaces_83 : decode prog_8_method_8_code 83 = .ok (.goto 4, 3) := by decide +kernel
theorem d_X6_loadPlaces_86 : decode prog_8_method_8_code 86 = .ok (.iconst 0, 1) := by decide +kernel
theorem d_X6_loadPlaces_87 : decode prog_8_method_8_code 87 = .ok (.ior, 1) := by decide +kernel
theorem d_X6_loadPlaces_88 : decode prog_8_method_8_code 88 = .ok (.istore_n 2, 1) := by decide +kernel
theorem d_X6_loadPlaces_89 : decode prog_8_method_8_code 89 = .ok (.iinc 3 1, 3) := by decide +kernel
theorem d_X6_loadPlaces_92 : decode prog_8_method_8_code 92 = .ok (.goto (-76), 3) := by decide +kernel
theorem d_X6_loadPlaces_95 : decode prog_8_method_8_code 95 = .ok (.iload_n 2, 1) := by decide +kernel
theorem d_X6_loadPlaces_96 : decode prog_8_method_8_code 96 = .ok (.ireturn, 1) := by decide +kernel
theorem d_X6_shortest_0 : decode prog_8_method_9_code 0 = .ok (.iconst (-1), 1) := by decide +kernel
theorem d_X6_shortest_1 : decode prog_8_method_9_code 1 = .ok (.istore_n 3, 1) := by decide +kernel
theorem d_X6_shortest_2 : decode prog_8_method_9_code 2 = .ok (.iconst 0, 1) := by decide +kernel
theorem d_X6_shortest_3 : decode prog_8_method_9_code 3 = .ok (.istore 4, 2) := by decide +kernel
theorem d_X6_shortest_5 : decode prog_8_method_9_code 5 = .ok (.iload 4, 2) := by decide +kernel
theorem d_X6_shortest_7 : decode prog_8_method_9_code 7 = .ok (.bipush 8, 2) := by decide +kernel
theorem d_X6_shortest_9 : decode prog_8_method_9_code 9 = .ok (.if_icmp .ge 99, 3) := by decide +kernel
theorem d_X6_shortest_12 : decode prog_8_method_9_code 12 = .ok (.iload_n 2, 1) := by decide +kernel
theorem d_X6_shortest_13 : decode prog_8_method_9_code 13 = .ok (.sipush 256, 3) := by decide +kernel
theorem d_X6_shortest_16 : decode prog_8_method_9_code 16 = .ok (.if_icmp .ge 92, 3) := by decide +kernel
theorem d_X6_shortest_19 : decode prog_8_method_9_code 19 = .ok (.iload_n 2, 1) := by decide +kernel
theorem d_X6_shortest_20 : decode prog_8_method_9_code 20 = .ok (.iload 4, 2) := by decide +kernel
theorem d_X6_shortest_22 : decode prog_8_method_9_code 22 = .ok (.ishr, 1) := by decide +kernel
theorem d_X6_shortest_23 : decode prog_8_method_9_code 23 = .ok (.iconst 1, 1) := by decide +kernel
theorem d_X6_shortest_24 : decode prog_8_method_9_code 24 = .ok (.iand, 1) := by decide +kernel
theorem d_X6_shortest_25 : decode prog_8_method_9_code 25 = .ok (.iconst 1, 1) := by decide +kernel
theorem d_X6_shortest_26 : decode prog_8_method_9_code 26 = .ok (.if_icmp .ne 76, 3) := by decide +kernel
theorem d_X6_shortest_29 : decode prog_8_method_9_code 29 = .ok (.iload_n 2, 1) := by decide +kernel
theorem d_X6_shortest_30 : decode prog_8_method_9_code 30 = .ok (.iconst 1, 1) := by decide +kernel
theorem d_X6_shortest_31 : decode prog_8_method_9_code 31 = .ok (.iload 4, 2) := by decide +kernel
theorem d_X6_shortest_33 : decode prog_8_method_9_code 33 = .ok (.ishl, 1) := by decide +kernel
theorem d_X6_shortest_34 : decode prog_8_method_9_code 34 = .ok (.iconst (-1), 1) := by decide +kernel
theorem d_X6_shortest_35 : decode prog_8_method_9_code 35 = .ok (.ixor, 1) := by decide +kernel
theorem d_X6_shortest_36 : decode prog_8_method_9_code 36 = .ok (.iand, 1) := by decide +kernel
theorem d_X6_shortest_37 : decode prog_8_method_9_code 37 = .ok (.istore 5, 2) := by decide +kernel
theorem d_X6_shortest_39 : decode prog_8_method_9_code 39 = .ok (.iload_n 1, 1) := by decide +kernel
theorem d_X6_shortest_40 : decode prog_8_method_9_code 40 = .ok (.aload_n 0, 1) := by decide +kernel
theorem d_X6_shortest_41 : decode prog_8_method_9_code 41 = .ok (.getfield 30, 3) := by decide +kernel
theorem d_X6_shortest_44 : decode prog_8_method_9_code 44 = .ok (.iload 4, 2) := by decide +kernel
theorem d_X6_shortest_46 : decode prog_8_method_9_code 46 = .ok (.iaload, 1) := by decide +kernel
theorem d_X6_shortest_47 : decode prog_8_method_9_code 47 = .ok (.invokestatic 138, 3) := by decide +kernel
theorem d_X6_shortest_50 : decode prog_8_method_9_code 50 = .ok (.istore 6, 2) := by decide +kernel
theorem d_X6_shortest_52 : decode prog_8_method_9_code 52 = .ok (.iload 5, 2) := by decide +kernel
theorem d_X6_shortest_54 : decode prog_8_method_9_code 54 = .ok (.ifCond .le 21, 3) := by decide +kernel
theorem d_X6_shortest_57 : decode prog_8_method_9_code 57 = .ok (.iload 6, 2) := by decide +kernel
theorem d_X6_shortest_59 : decode prog_8_method_9_code 59 = .ok (.aload_n 0, 1) := by decide +kernel
theorem d_X6_shortest_60 : decode prog_8_method_9_code 60 = .ok (.getfield 27, 3) := by decide +kernel
theorem d_X6_shortest_63 : decode prog_8_method_9_code 63 = .ok (.iload 5, 2) := by decide +kernel
theorem d_X6_shortest_65 : decode prog_8_method_9_code 65 = .ok (.bipush 8, 2) := by decide +kernel
theorem d_X6_shortest_67 : decode prog_8_method_9_code 67 = .ok (.imul, 1) := by decide +kernel
theorem d_X6_shortest_68 : decode prog_8_method_9_code 68 = .ok (.iload 4, 2) := by decide +kernel
theorem d_X6_shortest_70 : decode prog_8_method_9_code 70 = .ok (.iadd, 1) := by decide +kernel
theorem d_X6_shortest_71 : decode prog_8_method_9_code 71 = .ok (.iaload, 1) := by decide +kernel
theorem d_X6_shortest_72 : decode prog_8_method_9_code 72 = .ok (.iadd, 1) := by decide +kernel
theorem d_X6_shortest_73 : decode prog_8_method_9_code 73 = .ok (.istore 6, 2) := by decide +kernel
theorem d_X6_shortest_75 : decode prog_8_method_9_code 75 = .ok (.iload 6, 2) := by decide +kernel
theorem d_X6_shortest_77 : decode prog_8_method_9_code 77 = .ok (.bipush 8, 2) := by decide +kernel
theorem d_X6_shortest_79 : decode prog_8_method_9_code 79 = .ok (.imul, 1) := by decide +kernel
theorem d_X6_shortest_80 : decode prog_8_method_9_code 80 = .ok (.iload 4, 2) := by decide +kernel
theorem d_X6_shortest_82 : decode prog_8_method_9_code 82 = .ok (.iadd, 1) := by decide +kernel
theorem d_X6_shortest_83 : decode prog_8_method_9_code 83 = .ok (.istore 7, 2) := by decide +kernel
theorem d_X6_shortest_85 : decode prog_8_method_9_code 85 = .ok (.iload_n 3, 1) := by decide +kernel
theorem d_X6_shortest_86 : decode prog_8_method_9_code 86 = .ok (.iconst (-1), 1) := by decide +kernel
theorem d_X6_shortest_87 : decode prog_8_method_9_code 87 = .ok (.if_icmp .ne 8, 3) := by decide +kernel
theorem d_X6_shortest_90 : decode prog_8_method_9_code 90 = .ok (.iload 7, 2) := by decide +kernel
theorem d_X6_shortest_92 : decode prog_8_method_9_code 92 = .ok (.goto 9, 3) := by decide +kernel
theorem d_X6_shortest_95 : decode prog_8_method_9_code 95 = .ok (.iload_n 3, 1) := by decide +kernel
theorem d_X6_shortest_96 : decode prog_8_method_9_code 96 = .ok (.iload 7, 2) := by decide +kernel
theorem d_X6_shortest_98 : decode prog_8_method_9_code 98 = .ok (.invokestatic 92, 3) := by decide +kernel
theorem d_X6_shortest_101 : decode prog_8_method_9_code 101 = .ok (.istore_n 3, 1) := by decide +kernel
theorem d_X6_shortest_102 : decode prog_8_method_9_code 102 = .ok (.iinc 4 1, 3) := by decide +kernel
theorem d_X6_shortest_105 : decode prog_8_method_9_code 105 = .ok (.goto (-100), 3) := by decide +kernel
theorem d_X6_shortest_108 : decode prog_8_method_9_code 108 = .ok (.iconst 0, 1) := by decide +kernel
theorem d_X6_shortest_109 : decode prog_8_method_9_code 109 = .ok (.iload_n 3, 1) := by decide +kernel
theorem d_X6_shortest_110 : decode prog_8_method_9_code 110 = .ok (.invokestatic 108, 3) := by decide +kernel
theorem d_X6_shortest_113 : decode prog_8_method_9_code 113 = .ok (.ireturn, 1) := by decide +kernel
theorem d_X6_stepsBetween_0 : decode prog_8_method_10_code 0 = .ok (.iload_n 0, 1) := by decide +kernel
theorem d_X6_stepsBetween_1 : decode prog_8_method_10_code 1 = .ok (.iconst 5, 1) := by decide +kernel
theorem d_X6_stepsBetween_2 : decode prog_8_method_10_code 2 = .ok (.irem, 1) := by decide +kernel
theorem d_X6_stepsBetween_3 : decode prog_8_method_10_code 3 = .ok (.iload_n 1, 1) := by decide +kernel
theorem d_X6_stepsBetween_4 : decode prog_8_method_10_code 4 = .ok (.iconst 5, 1) := by decide +kernel
theorem d_X6_stepsBetween_5 : decode prog_8_method_10_code 5 = .ok (.irem, 1) := by decide +kernel
theorem d_X6_stepsBetween_6 : decode prog_8_method_10_code 6 = .ok (.isub, 1) := by decide +kernel
theorem d_X6_stepsBetween_7 : decode prog_8_method_10_code 7 = .ok (.invokestatic 141, 3) := by decide +kernel
theorem d_X6_stepsBetween_10 : decode prog_8_method_10_code 10 = .ok (.iload_n 0, 1) := by decide +kernel
theorem d_X6_stepsBetween_11 : decode prog_8_method_10_code 11 = .ok (.iconst 5, 1) := by decide +kernel
theorem d_X6_stepsBetween_12 : decode prog_8_method_10_code 12 = .ok (.idiv, 1) := by decide +kernel
theorem d_X6_stepsBetween_13 : decode prog_8_method_10_code 13 = .ok (.iload_n 1, 1) := by decide +kernel
theorem d_X6_stepsBetween_14 : decode prog_8_method_10_code 14 = .ok (.iconst 5, 1) := by decide +kernel
theorem d_X6_stepsBetween_15 : decode prog_8_method_10_code 15 = .ok (.idiv, 1) := by decide +kernel
theorem d_X6_stepsBetween_16 : decode prog_8_method_10_code 16 = .ok (.isub, 1) := by decide +kernel
theorem d_X6_stepsBetween_17 : decode prog_8_method_10_code 17 = .ok (.invokestatic 141, 3) := by decide +kernel
theorem d_X6_stepsBetween_20 : decode prog_8_method_10_code 20 = .ok (.iadd, 1) := by decide +kernel
theorem d_X6_stepsBetween_21 : decode prog_8_method_10_code 21 = .ok (.ireturn, 1) := by decide +kernel
theorem d_X6_walkedTo_0 : decode prog_8_method_11_code 0 = .ok (.iload_n 1, 1) := by decide +kernel
theorem d_X6_walkedTo_1 : decode prog_8_method_11_code 1 = .ok (.iconst 0, 1) := by decide +kernel
theorem d_X6_walkedTo_2 : decode prog_8_method_11_code 2 = .ok (.bipush 8, 2) := by decide +kernel
theorem d_X6_walkedTo_4 : decode prog_8_method_11_code 4 = .ok (.aload_n 0, 1) := by decide +kernel
theorem d_X6_walkedTo_5 : decode prog_8_method_11_code 5 = .ok (.getfield 36, 3) := by decide +kernel
theorem d_X6_walkedTo_8 : decode prog_8_method_11_code 8 = .ok (.invokestatic 92, 3) := by decide +kernel
theorem d_X6_walkedTo_11 : decode prog_8_method_11_code 11 = .ok (.iconst 1, 1) := by decide +kernel
theorem d_X6_walkedTo_12 : decode prog_8_method_11_code 12 = .ok (.isub, 1) := by decide +kernel
theorem d_X6_walkedTo_13 : decode prog_8_method_11_code 13 = .ok (.invokestatic 111, 3) := by decide +kernel
theorem d_X6_walkedTo_16 : decode prog_8_method_11_code 16 = .ok (.ifCond .eq 12, 3) := by decide +kernel
theorem d_X6_walkedTo_19 : decode prog_8_method_11_code 19 = .ok (.aload_n 0, 1) := by decide +kernel
theorem d_X6_walkedTo_20 : decode prog_8_method_11_code 20 = .ok (.getfield 33, 3) := by decide +kernel
theorem d_X6_walkedTo_23 : decode prog_8_method_11_code 23 = .ok (.iload_n 1, 1) := by decide +kernel
theorem d_X6_walkedTo_24 : decode prog_8_method_11_code 24 = .ok (.iaload, 1) := by decide +kernel
theorem d_X6_walkedTo_25 : decode prog_8_method_11_code 25 = .ok (.goto 4, 3) := by decide +kernel
theorem d_X6_walkedTo_28 : decode prog_8_method_11_code 28 = .ok (.iconst (-1), 1) := by decide +kernel
theorem d_X6_walkedTo_29 : decode prog_8_method_11_code 29 = .ok (.ireturn, 1) := by decide +kernel
theorem d_X6_seekSets_0 : decode prog_8_method_12_code 0 = .ok (.aload_n 0, 1) := by decide +kernel
theorem d_X6_seekSets_1 : decode prog_8_method_12_code 1 = .ok (.aload_n 1, 1) := by decide +kernel
theorem d_X6_seekSets_2 : decode prog_8_method_12_code 2 = .ok (.invokevirtual 88, 3) := by decide +kernel
theorem d_X6_seekSets_5 : decode prog_8_method_12_code 5 = .ok (.bipush 8, 2) := by decide +kernel
theorem d_X6_seekSets_7 : decode prog_8_method_12_code 7 = .ok (.aload_n 1, 1) := by decide +kernel
theorem d_X6_seekSets_8 : decode prog_8_method_12_code 8 = .ok (.getfield 71, 3) := by decide +kernel
theorem d_X6_seekSets_11 : decode prog_8_method_12_code 11 = .ok (.invokestatic 92, 3) := by decide +kernel
theorem d_X6_seekSets_14 : decode prog_8_method_12_code 14 = .ok (.istore 4, 2) := by decide +kernel
theorem d_X6_seekSets_16 : decode prog_8_method_12_code 16 = .ok (.aload_n 0, 1) := by decide +kernel
theorem d_X6_seekSets_17 : decode prog_8_method_12_code 17 = .ok (.iconst 0, 1) := by decide +kernel
theorem d_X6_seekSets_18 : decode prog_8_method_12_code 18 = .ok (.putfield 43, 3) := by decide +kernel
theorem d_X6_seekSets_21 : decode prog_8_method_12_code 21 = .ok (.iconst 0, 1) := by decide +kernel
theorem d_X6_seekSets_22 : decode prog_8_method_12_code 22 = .ok (.istore 5, 2) := by decide +kernel
theorem d_X6_seekSets_24 : decode prog_8_method_12_code 24 = .ok (.iload 5, 2) := by decide +kernel
theorem d_X6_seekSets_26 : decode prog_8_method_12_code 26 = .ok (.iconst 1, 1) := by decide +kernel
theorem d_X6_seekSets_27 : decode prog_8_method_12_code 27 = .ok (.iload 4, 2) := by decide +kernel
theorem d_X6_seekSets_29 : decode prog_8_method_12_code 29 = .ok (.ishl, 1) := by decide +kernel
theorem d_X6_seekSets_30 : decode prog_8_method_12_code 30 = .ok (.if_icmp .ge 134, 3) := by decide +kernel
theorem d_X6_seekSets_33 : decode prog_8_method_12_code 33 = .ok (.aload_n 0, 1) := by decide +kernel
theorem d_X6_seekSets_34 : decode prog_8_method_12_code 34 = .ok (.getfield 43, 3) := by decide +kernel
theorem d_X6_seekSets_37 : decode prog_8_method_12_code 37 = .ok (.sipush 256, 3) := by decide +kernel
theorem d_X6_seekSets_40 : decode prog_8_method_12_code 40 = .ok (.if_icmp .ge 124, 3) := by decide +kernel
theorem d_X6_seekSets_43 : decode prog_8_method_12_code 43 = .ok (.iload_n 2, 1) := by decide +kernel
theorem d_X6_seekSets_44 : decode prog_8_method_12_code 44 = .ok (.istore 6, 2) := by decide +kernel
theorem d_X6_seekSets_46 : decode prog_8_method_12_code 46 = .ok (.iload_n 3, 1) := by decide +kernel
theorem d_X6_seekSets_47 : decode prog_8_method_12_code 47 = .ok (.istore 7, 2) := by decide +kernel
theorem d_X6_seekSets_49 : decode prog_8_method_12_code 49 = .ok (.iconst 1, 1) := by decide +kernel
theorem d_X6_seekSets_50 : decode prog_8_method_12_code 50 = .ok (.istore 8, 2) := by decide +kernel
theorem d_X6_seekSets_52 : decode prog_8_method_12_code 52 = .ok (.iconst 0, 1) := by decide +kernel
theorem d_X6_seekSets_53 : decode prog_8_method_12_code 53 = .ok (.istore 9, 2) := by decide +kernel
theorem d_X6_seekSets_55 : decode prog_8_method_12_code 55 = .ok (.iload 9, 2) := by decide +kernel
theorem d_X6_seekSets_57 : decode prog_8_method_12_code 57 = .ok (.iload 4, 2) := by decide +kernel
theorem d_X6_seekSets_59 : decode prog_8_method_12_code 59 = .ok (.if_icmp .ge 63, 3) := by decide +kernel
theorem d_X6_seekSets_62 : decode prog_8_method_12_code 62 = .ok (.iload 5, 2) := by decide +kernel
theorem d_X6_seekSets_64 : decode prog_8_method_12_code 64 = .ok (.iload 9, 2) := by decide +kernel
theorem d_X6_seekSets_66 : decode prog_8_method_12_code 66 = .ok (.ishr, 1) := by decide +kernel
theorem d_X6_seekSets_67 : decode prog_8_method_12_code 67 = .ok (.iconst 1, 1) := by decide +kernel
theorem d_X6_seekSets_68 : decode prog_8_method_12_code 68 = .ok (.iand, 1) := by decide +kernel
theorem d_X6_seekSets_69 : decode prog_8_method_12_code 69 = .ok (.iconst 1, 1) := by decide +kernel
theorem d_X6_seekSets_70 : decode prog_8_method_12_code 70 = .ok (.if_icmp .ne 46, 3) := by decide +kernel
theorem d_X6_seekSets_73 : decode prog_8_method_12_code 73 = .ok (.iload 6, 2) := by decide +kernel
theorem d_X6_seekSets_75 : decode prog_8_method_12_code 75 = .ok (.aload_n 0, 1) := by decide +kernel
theorem d_X6_seekSets_76 : decode prog_8_method_12_code 76 = .ok (.getfield 18, 3) := by decide +kernel
theorem d_X6_seekSets_79 : decode prog_8_method_12_code 79 = .ok (.iload 9, 2) := by decide +kernel
theorem d_X6_seekSets_81 : decode prog_8_method_12_code 81 = .ok (.iaload, 1) := by decide +kernel
theorem d_X6_seekSets_82 : decode prog_8_method_12_code 82 = .ok (.isub, 1) := by decide +kernel
theorem d_X6_seekSets_83 : decode prog_8_method_12_code 83 = .ok (.istore 6, 2) := by decide +kernel
theorem d_X6_seekSets_85 : decode prog_8_method_12_code 85 = .ok (.iload 7, 2) := by decide +kernel
theorem d_X6_seekSets_87 : decode prog_8_method_12_code 87 = .ok (.aload_n 0, 1) := by decide +kernel
theorem d_X6_seekSets_88 : decode prog_8_method_12_code 88 = .ok (.getfield 21, 3) := by decide +kernel
theorem d_X6_seekSets_91 : decode prog_8_method_12_code 91 = .ok (.iload 9, 2) := by decide +kernel
theorem d_X6_seekSets_93 : decode prog_8_method_12_code 93 = .ok (.iaload, 1) := by decide +kernel
theorem d_X6_seekSets_94 : decode prog_8_method_12_code 94 = .ok (.isub, 1) := by decide +kernel
theorem d_X6_seekSets_95 : decode prog_8_method_12_code 95 = .ok (.istore 7, 2) := by decide +kernel
theorem d_X6_seekSets_97 : decode prog_8_method_12_code 97 = .ok (.iload 8, 2) := by decide +kernel
theorem d_X6_seekSets_99 : decode prog_8_method_12_code 99 = .ok (.aload_n 1, 1) := by decide +kernel
theorem d_X6_seekSets_100 : decode prog_8_method_12_code 100 = .ok (.iload 9, 2) := by decide +kernel
theorem d_X6_seekSets_102 : decode prog_8_method_12_code 102 = .ok (.invokevirtual 84, 3) := by decide +kernel
theorem d_X6_seekSets_105 : decode prog_8_method_12_code 105 = .ok (.ifCond .ne 7, 3) := by decide +kernel
theorem d_X6_seekSets_108 : decode prog_8_method_12_code 108 = .ok (.iconst 1, 1) := by decide +kernel
theorem d_X6_seekSets_109 : decode prog_8_method_12_code 109 = .ok (.goto 4, 3) := by decide +kernel
theorem d_X6_seekSets_112 : decode prog_8_method_12_code 112 = .ok (.iconst 0, 1) := by decide +kernel
theorem d_X6_seekSets_113 : decode prog_8_method_12_code 113 = .ok (.iand, 1) := by decide +kernel
theorem d_X6_seekSets_114 : decode prog_8_method_12_code 114 = .ok (.istore 8, 2) := by decide +kernel
theorem d_X6_seekSets_116 : decode prog_8_method_12_code 116 = .ok (.iinc 9 1, 3) := by decide +kernel
theorem d_X6_seekSets_119 : decode prog_8_method_12_code 119 = .ok (.goto (-64), 3) := by decide +kernel
theorem d_X6_seekSets_122 : decode prog_8_method_12_code 122 = .ok (.iload 8, 2) := by decide +kernel
theorem d_X6_seekSets_124 : decode prog_8_method_12_code 124 = .ok (.ifCond .eq 34, 3) := by decide +kernel
theorem d_X6_seekSets_127 : decode prog_8_method_12_code 127 = .ok (.iload 6, 2) := by decide +kernel
theorem d_X6_seekSets_129 : decode prog_8_method_12_code 129 = .ok (.ifCond .ne 29, 3) := by decide +kernel
theorem d_X6_seekSets_132 : decode prog_8_method_12_code 132 = .ok (.iload 7, 2) := by decide +kernel
theorem d_X6_seekSets_134 : decode prog_8_method_12_code 134 = .ok (.ifCond .ne 24, 3) := by decide +kernel
theorem d_X6_seekSets_137 : decode prog_8_method_12_code 137 = .ok (.aload_n 0, 1) := by decide +kernel
theorem d_X6_seekSets_138 : decode prog_8_method_12_code 138 = .ok (.getfield 40, 3) := by decide +kernel
theorem d_X6_seekSets_141 : decode prog_8_method_12_code 141 = .ok (.aload_n 0, 1) := by decide +kernel
theorem d_X6_seekSets_142 : decode prog_8_method_12_code 142 = .ok (.getfield 43, 3) := by decide +kernel
theorem d_X6_seekSets_145 : decode prog_8_method_12_code 145 = .ok (.iload 5, 2) := by decide +kernel
theorem d_X6_seekSets_147 : decode prog_8_method_12_code 147 = .ok (.iastore, 1) := by decide +kernel
theorem d_X6_seekSets_148 : decode prog_8_method_12_code 148 = .ok (.aload_n 0, 1) := by decide +kernel
theorem d_X6_seekSets_149 : decode prog_8_method_12_code 149 = .ok (.dup, 1) := by decide +kernel
theorem d_X6_seekSets_150 : decode prog_8_method_12_code 150 = .ok (.getfield 43, 3) := by decide +kernel
theorem d_X6_seekSets_153 : decode prog_8_method_12_code 153 = .ok (.iconst 1, 1) := by decide +kernel
theorem d_X6_seekSets_154 : decode prog_8_method_12_code 154 = .ok (.iadd, 1) := by decide +kernel
theorem d_X6_seekSets_155 : decode prog_8_method_12_code 155 = .ok (.putfield 43, 3) := by decide +kernel
theorem d_X6_seekSets_158 : decode prog_8_method_12_code 158 = .ok (.iinc 5 1, 3) := by decide +kernel
theorem d_X6_seekSets_161 : decode prog_8_method_12_code 161 = .ok (.goto (-137), 3) := by decide +kernel
theorem d_X6_seekSets_164 : decode prog_8_method_12_code 164 = .ok (.aload_n 0, 1) := by decide +kernel
theorem d_X6_seekSets_165 : decode prog_8_method_12_code 165 = .ok (.getfield 43, 3) := by decide +kernel
theorem d_X6_seekSets_168 : decode prog_8_method_12_code 168 = .ok (.ireturn, 1) := by decide +kernel
theorem d_X6_setAt_0 : decode prog_8_method_13_code 0 = .ok (.iload_n 1, 1) := by decide +kernel
theorem d_X6_setAt_1 : decode prog_8_method_13_code 1 = .ok (.iconst 0, 1) := by decide +kernel
theorem d_X6_setAt_2 : decode prog_8_method_13_code 2 = .ok (.sipush 256, 3) := by decide +kernel
theorem d_X6_setAt_5 : decode prog_8_method_13_code 5 = .ok (.aload_n 0, 1) := by decide +kernel
theorem d_X6_setAt_6 : decode prog_8_method_13_code 6 = .ok (.getfield 43, 3) := by decide +kernel
theorem d_X6_setAt_9 : decode prog_8_method_13_code 9 = .ok (.invokestatic 92, 3) := by decide +kernel
theorem d_X6_setAt_12 : decode prog_8_method_13_code 12 = .ok (.iconst 1, 1) := by decide +kernel
theorem d_X6_setAt_13 : decode prog_8_method_13_code 13 = .ok (.isub, 1) := by decide +kernel
theorem d_X6_setAt_14 : decode prog_8_method_13_code 14 = .ok (.invokestatic 111, 3) := by decide +kernel
theorem d_X6_setAt_17 : decode prog_8_method_13_code 17 = .ok (.ifCond .eq 12, 3) := by decide +kernel
theorem d_X6_setAt_20 : decode prog_8_method_13_code 20 = .ok (.aload_n 0, 1) := by decide +kernel
theorem d_X6_setAt_21 : decode prog_8_method_13_code 21 = .ok (.getfield 40, 3) := by decide +kernel
theorem d_X6_setAt_24 : decode prog_8_method_13_code 24 = .ok (.iload_n 1, 1) := by decide +kernel
theorem d_X6_setAt_25 : decode prog_8_method_13_code 25 = .ok (.iaload, 1) := by decide +kernel
theorem d_X6_setAt_26 : decode prog_8_method_13_code 26 = .ok (.goto 4, 3) := by decide +kernel
theorem d_X6_setAt_29 : decode prog_8_method_13_code 29 = .ok (.iconst (-1), 1) := by decide +kernel
theorem d_X6_setAt_30 : decode prog_8_method_13_code 30 = .ok (.ireturn, 1) := by decide +kernel
theorem d_X6_setsWith_0 : decode prog_8_method_14_code 0 = .ok (.iconst 0, 1) := by decide +kernel
theorem d_X6_setsWith_1 : decode prog_8_method_14_code 1 = .ok (.istore_n 2, 1) := by decide +kernel
theorem d_X6_setsWith_2 : decode prog_8_method_14_code 2 = .ok (.iconst 0, 1) := by decide +kernel
theorem d_X6_setsWith_3 : decode prog_8_method_14_code 3 = .ok (.istore_n 3, 1) := by decide +kernel
theorem d_X6_setsWith_4 : decode prog_8_method_14_code 4 = .ok (.iload_n 3, 1) := by decide +kernel
theorem d_X6_setsWith_5 : decode prog_8_method_14_code 5 = .ok (.aload_n 0, 1) := by decide +kernel
theorem d_X6_setsWith_6 : decode prog_8_method_14_code 6 = .ok (.getfield 43, 3) := by decide +kernel
theorem d_X6_setsWith_9 : decode prog_8_method_14_code 9 = .ok (.if_icmp .ge 29, 3) := by decide +kernel
theorem d_X6_setsWith_12 : decode prog_8_method_14_code 12 = .ok (.iload_n 3, 1) := by decide +kernel
theorem d_X6_setsWith_13 : decode prog_8_method_14_code 13 = .ok (.sipush 256, 3) := by decide +kernel
theorem d_X6_setsWith_16 : decode prog_8_method_14_code 16 = .ok (.if_icmp .ge 22, 3) := by decide +kernel
theorem d_X6_setsWith_19 : decode prog_8_method_14_code 19 = .ok (.iload_n 2, 1) := by decide +kernel
theorem d_X6_setsWith_20 : decode prog_8_method_14_code 20 = .ok (.aload_n 0, 1) := by decide +kernel
theorem d_X6_setsWith_21 : decode prog_8_method_14_code 21 = .ok (.getfield 40, 3) := by decide +kernel
theorem d_X6_setsWith_24 : decode prog_8_method_14_code 24 = .ok (.iload_n 3, 1) := by decide +kernel
theorem d_X6_setsWith_25 : decode prog_8_method_14_code 25 = .ok (.iaload, 1) := by decide +kernel
theorem d_X6_setsWith_26 : decode prog_8_method_14_code 26 = .ok (.iload_n 1, 1) := by decide +kernel
theorem d_X6_setsWith_27 : decode prog_8_method_14_code 27 = .ok (.ishr, 1) := by decide +kernel
theorem d_X6_setsWith_28 : decode prog_8_method_14_code 28 = .ok (.iconst 1, 1) := by decide +kernel
theorem d_X6_setsWith_29 : decode prog_8_method_14_code 29 = .ok (.iand, 1) := by decide +kernel
theorem d_X6_setsWith_30 : decode prog_8_method_14_code 30 = .ok (.iadd, 1) := by decide +kernel
theorem d_X6_setsWith_31 : decode prog_8_method_14_code 31 = .ok (.istore_n 2, 1) := by decide +kernel
theorem d_X6_setsWith_32 : decode prog_8_method_14_code 32 = .ok (.iinc 3 1, 3) := by decide +kernel
theorem d_X6_setsWith_35 : decode prog_8_method_14_code 35 = .ok (.goto (-31), 3) := by decide +kernel
theorem d_X6_setsWith_38 : decode prog_8_method_14_code 38 = .ok (.iload_n 2, 1) := by decide +kernel
theorem d_X6_setsWith_39 : decode prog_8_method_14_code 39 = .ok (.ireturn, 1) := by decide +kernel
theorem d_X6_rise_0 : decode prog_8_method_15_code 0 = .ok (.aload_n 1, 1) := by decide +kernel
theorem d_X6_rise_1 : decode prog_8_method_15_code 1 = .ok (.getfield 144, 3) := by decide +kernel
theorem d_X6_rise_4 : decode prog_8_method_15_code 4 = .ok (.i2l, 1) := by decide +kernel
theorem d_X6_rise_5 : decode prog_8_method_15_code 5 = .ok (.lstore_n 2, 1) := by decide +kernel
theorem d_X6_rise_6 : decode prog_8_method_15_code 6 = .ok (.aload_n 1, 1) := by decide +kernel
theorem d_X6_rise_7 : decode prog_8_method_15_code 7 = .ok (.iconst 1, 1) := by decide +kernel
theorem d_X6_rise_8 : decode prog_8_method_15_code 8 = .ok (.iconst 0, 1) := by decide +kernel
theorem d_X6_rise_9 : decode prog_8_method_15_code 9 = .ok (.invokestatic 147, 3) := by decide +kernel
theorem d_X6_rise_12 : decode prog_8_method_15_code 12 = .ok (.lstore 4, 2) := by decide +kernel
theorem d_X6_rise_14 : decode prog_8_method_15_code 14 = .ok (.aload_n 1, 1) := by decide +kernel
theorem d_X6_rise_15 : decode prog_8_method_15_code 15 = .ok (.iconst 0, 1) := by decide +kernel
theorem d_X6_rise_16 : decode prog_8_method_15_code 16 = .ok (.iconst 1, 1) := by decide +kernel
theorem d_X6_rise_17 : decode prog_8_method_15_code 17 = .ok (.invokestatic 147, 3) := by decide +kernel
theorem d_X6_rise_20 : decode prog_8_method_15_code 20 = .ok (.lstore 6, 2) := by decide +kernel
theorem d_X6_rise_22 : decode prog_8_method_15_code 22 = .ok (.aload_n 0, 1) := by decide +kernel
theorem d_X6_rise_23 : decode prog_8_method_15_code 23 = .ok (.getfield 53, 3) := by decide +kernel
theorem d_X6_rise_26 : decode prog_8_method_15_code 26 = .ok (.lload_n 2, 1) := by decide +kernel
theorem d_X6_rise_27 : decode prog_8_method_15_code 27 = .ok (.aload_n 1, 1) := by decide +kernel
theorem d_X6_rise_28 : decode prog_8_method_15_code 28 = .ok (.iconst 1, 1) := by decide +kernel
theorem d_X6_rise_29 : decode prog_8_method_15_code 29 = .ok (.iconst 1, 1) := by decide +kernel
theorem d_X6_rise_30 : decode prog_8_method_15_code 30 = .ok (.invokestatic 147, 3) := by decide +kernel
theorem d_X6_rise_33 : decode prog_8_method_15_code 33 = .ok (.lmul, 1) := by decide +kernel
theorem d_X6_rise_34 : decode prog_8_method_15_code 34 = .ok (.lload 4, 2) := by decide +kernel
theorem d_X6_rise_36 : decode prog_8_method_15_code 36 = .ok (.lload 6, 2) := by decide +kernel
theorem d_X6_rise_38 : decode prog_8_method_15_code 38 = .ok (.lmul, 1) := by decide +kernel
theorem d_X6_rise_39 : decode prog_8_method_15_code 39 = .ok (.lsub, 1) := by decide +kernel
theorem d_X6_rise_40 : decode prog_8_method_15_code 40 = .ok (.lload_n 2, 1) := by decide +kernel
theorem d_X6_rise_41 : decode prog_8_method_15_code 41 = .ok (.aload_n 1, 1) := by decide +kernel
theorem d_X6_rise_42 : decode prog_8_method_15_code 42 = .ok (.iconst 2, 1) := by decide +kernel
theorem d_X6_rise_43 : decode prog_8_method_15_code 43 = .ok (.iconst 0, 1) := by decide +kernel
theorem d_X6_rise_44 : decode prog_8_method_15_code 44 = .ok (.invokestatic 147, 3) := by decide +kernel
theorem d_X6_rise_47 : decode prog_8_method_15_code 47 = .ok (.lmul, 1) := by decide +kernel
theorem d_X6_rise_48 : decode prog_8_method_15_code 48 = .ok (.lload 4, 2) := by decide +kernel
theorem d_X6_rise_50 : decode prog_8_method_15_code 50 = .ok (.lload 4, 2) := by decide +kernel
theorem d_X6_rise_52 : decode prog_8_method_15_code 52 = .ok (.lmul, 1) := by decide +kernel
theorem d_X6_rise_53 : decode prog_8_method_15_code 53 = .ok (.lsub, 1) := by decide +kernel
theorem d_X6_rise_54 : decode prog_8_method_15_code 54 = .ok (.invokevirtual 151, 3) := by decide +kernel
theorem d_X6_rise_57 : decode prog_8_method_15_code 57 = .ok (.aload_n 0, 1) := by decide +kernel
theorem d_X6_rise_58 : decode prog_8_method_15_code 58 = .ok (.getfield 53, 3) := by decide +kernel
theorem d_X6_rise_61 : decode prog_8_method_15_code 61 = .ok (.areturn, 1) := by decide +kernel
theorem d_X6_atStart_0 : decode prog_8_method_16_code 0 = .ok (.aload_n 1, 1) := by decide +kernel
theorem d_X6_atStart_1 : decode prog_8_method_16_code 1 = .ok (.getfield 144, 3) := by decide +kernel
theorem d_X6_atStart_4 : decode prog_8_method_16_code 4 = .ok (.i2l, 1) := by decide +kernel
theorem d_X6_atStart_5 : decode prog_8_method_16_code 5 = .ok (.lstore_n 2, 1) := by decide +kernel
theorem d_X6_atStart_6 : decode prog_8_method_16_code 6 = .ok (.aload_n 1, 1) := by decide +kernel
theorem d_X6_atStart_7 : decode prog_8_method_16_code 7 = .ok (.iconst 1, 1) := by decide +kernel
theorem d_X6_atStart_8 : decode prog_8_method_16_code 8 = .ok (.iconst 0, 1) := by decide +kernel
theorem d_X6_atStart_9 : decode prog_8_method_16_code 9 = .ok (.invokestatic 147, 3) := by decide +kernel
theorem d_X6_atStart_12 : decode prog_8_method_16_code 12 = .ok (.lstore 4, 2) := by decide +kernel
theorem d_X6_atStart_14 : decode prog_8_method_16_code 14 = .ok (.aload_n 1, 1) := by decide +kernel
theorem d_X6_atStart_15 : decode prog_8_method_16_code 15 = .ok (.iconst 2, 1) := by decide +kernel
theorem d_X6_atStart_16 : decode prog_8_method_16_code 16 = .ok (.iconst 0, 1) := by decide +kernel
theorem d_X6_atStart_17 : decode prog_8_method_16_code 17 = .ok (.invokestatic 147, 3) := by decide +kernel
theorem d_X6_atStart_20 : decode prog_8_method_16_code 20 = .ok (.lstore 6, 2) := by decide +kernel
theorem d_X6_atStart_22 : decode prog_8_method_16_code 22 = .ok (.aload_n 0, 1) := by decide +kernel
theorem d_X6_atStart_23 : decode prog_8_method_16_code 23 = .ok (.getfield 53, 3) := by decide +kernel
theorem d_X6_atStart_26 : decode prog_8_method_16_code 26 = .ok (.aload_n 1, 1) := by decide +kernel
theorem d_X6_atStart_27 : decode prog_8_method_16_code 27 = .ok (.iconst 0, 1) := by decide +kernel
theorem d_X6_atStart_28 : decode prog_8_method_16_code 28 = .ok (.iconst 1, 1) := by decide +kernel
theorem d_X6_atStart_29 : decode prog_8_method_16_code 29 = .ok (.invokestatic 147, 3) := by decide +kernel
theorem d_X6_atStart_32 : decode prog_8_method_16_code 32 = .ok (.lload 6, 2) := by decide +kernel
theorem d_X6_atStart_34 : decode prog_8_method_16_code 34 = .ok (.lmul, 1) := by decide +kernel
theorem d_X6_atStart_35 : decode prog_8_method_16_code 35 = .ok (.lload 4, 2) := by decide +kernel
theorem d_X6_atStart_37 : decode prog_8_method_16_code 37 = .ok (.aload_n 1, 1) := by decide +kernel
theorem d_X6_atStart_38 : decode prog_8_method_16_code 38 = .ok (.iconst 1, 1) := by decide +kernel
theorem d_X6_atStart_39 : decode prog_8_method_16_code 39 = .ok (.iconst 1, 1) := by decide +kernel
theorem d_X6_atStart_40 : decode prog_8_method_16_code 40 = .ok (.invokestatic 147, 3) := by decide +kernel
theorem d_X6_atStart_43 : decode prog_8_method_16_code 43 = .ok (.lmul, 1) := by decide +kernel
theorem d_X6_atStart_44 : decode prog_8_method_16_code 44 = .ok (.lsub, 1) := by decide +kernel
theorem d_X6_atStart_45 : decode prog_8_method_16_code 45 = .ok (.lload_n 2, 1) := by decide +kernel
theorem d_X6_atStart_46 : decode prog_8_method_16_code 46 = .ok (.lload 6, 2) := by decide +kernel
theorem d_X6_atStart_48 : decode prog_8_method_16_code 48 = .ok (.lmul, 1) := by decide +kernel
theorem d_X6_atStart_49 : decode prog_8_method_16_code 49 = .ok (.lload 4, 2) := by decide +kernel
theorem d_X6_atStart_51 : decode prog_8_method_16_code 51 = .ok (.lload 4, 2) := by decide +kernel
theorem d_X6_atStart_53 : decode prog_8_method_16_code 53 = .ok (.lmul, 1) := by decide +kernel
theorem d_X6_atStart_54 : decode prog_8_method_16_code 54 = .ok (.lsub, 1) := by decide +kernel
theorem d_X6_atStart_55 : decode prog_8_method_16_code 55 = .ok (.invokevirtual 151, 3) := by decide +kernel
theorem d_X6_atStart_58 : decode prog_8_method_16_code 58 = .ok (.aload_n 0, 1) := by decide +kernel
theorem d_X6_atStart_59 : decode prog_8_method_16_code 59 = .ok (.getfield 53, 3) := by decide +kernel
theorem d_X6_atStart_62 : decode prog_8_method_16_code 62 = .ok (.areturn, 1) := by decide +kernel
theorem d_X6_sumOfMonths_0 : decode prog_8_method_17_code 0 = .ok (.lconst 0, 1) := by decide +kernel
theorem d_X6_sumOfMonths_1 : decode prog_8_method_17_code 1 = .ok (.lstore_n 3, 1) := by decide +kernel
theorem d_X6_sumOfMonths_2 : decode prog_8_method_17_code 2 = .ok (.iconst 0, 1) := by decide +kernel
theorem d_X6_sumOfMonths_3 : decode prog_8_method_17_code 3 = .ok (.istore 5, 2) := by decide +kernel
theorem d_X6_sumOfMonths_5 : decode prog_8_method_17_code 5 = .ok (.iload 5, 2) := by decide +kernel
theorem d_X6_sumOfMonths_7 : decode prog_8_method_17_code 7 = .ok (.aload_n 0, 1) := by decide +kernel
theorem d_X6_sumOfMonths_8 : decode prog_8_method_17_code 8 = .ok (.getfield 144, 3) := by decide +kernel
theorem d_X6_sumOfMonths_11 : decode prog_8_method_17_code 11 = .ok (.if_icmp .ge 75, 3) := by decide +kernel
theorem d_X6_sumOfMonths_14 : decode prog_8_method_17_code 14 = .ok (.iload 5, 2) := by decide +kernel
theorem d_X6_sumOfMonths_16 : decode prog_8_method_17_code 16 = .ok (.bipush 12, 2) := by decide +kernel
theorem d_X6_sumOfMonths_18 : decode prog_8_method_17_code 18 = .ok (.if_icmp .ge 68, 3) := by decide +kernel
theorem d_X6_sumOfMonths_21 : decode prog_8_method_17_code 21 = .ok (.lconst 1, 1) := by decide +kernel
theorem d_X6_sumOfMonths_22 : decode prog_8_method_17_code 22 = .ok (.lstore 6, 2) := by decide +kernel
theorem d_X6_sumOfMonths_24 : decode prog_8_method_17_code 24 = .ok (.iconst 0, 1) := by decide +kernel
theorem d_X6_sumOfMonths_25 : decode prog_8_method_17_code 25 = .ok (.istore 8, 2) := by decide +kernel
theorem d_X6_sumOfMonths_27 : decode prog_8_method_17_code 27 = .ok (.iload 8, 2) := by decide +kernel
theorem d_X6_sumOfMonths_29 : decode prog_8_method_17_code 29 = .ok (.iload_n 1, 1) := by decide +kernel
theorem d_X6_sumOfMonths_30 : decode prog_8_method_17_code 30 = .ok (.if_icmp .ge 17, 3) := by decide +kernel
theorem d_X6_sumOfMonths_33 : decode prog_8_method_17_code 33 = .ok (.lload 6, 2) := by decide +kernel
theorem d_X6_sumOfMonths_35 : decode prog_8_method_17_code 35 = .ok (.iload 5, 2) := by decide +kernel
theorem d_X6_sumOfMonths_37 : decode prog_8_method_17_code 37 = .ok (.i2l, 1) := by decide +kernel
theorem d_X6_sumOfMonths_38 : decode prog_8_method_17_code 38 = .ok (.lmul, 1) := by decide +kernel
theorem d_X6_sumOfMonths_39 : decode prog_8_method_17_code 39 = .ok (.lstore 6, 2) := by decide +kernel
theorem d_X6_sumOfMonths_41 : decode prog_8_method_17_code 41 = .ok (.iinc 8 1, 3) := by decide +kernel
theorem d_X6_sumOfMonths_44 : decode prog_8_method_17_code 44 = .ok (.goto (-17), 3) := by decide +kernel
theorem d_X6_sumOfMonths_47 : decode prog_8_method_17_code 47 = .ok (.iconst 0, 1) := by decide +kernel
theorem d_X6_sumOfMonths_48 : decode prog_8_method_17_code 48 = .ok (.istore 8, 2) := by decide +kernel
theorem d_X6_sumOfMonths_50 : decode prog_8_method_17_code 50 = .ok (.iload 8, 2) := by decide +kernel
theorem d_X6_sumOfMonths_52 : decode prog_8_method_17_code 52 = .ok (.iload_n 2, 1) := by decide +kernel
theorem d_X6_sumOfMonths_53 : decode prog_8_method_17_code 53 = .ok (.if_icmp .ge 22, 3) := by decide +kernel
theorem d_X6_sumOfMonths_56 : decode prog_8_method_17_code 56 = .ok (.lload 6, 2) := by decide +kernel
theorem d_X6_sumOfMonths_58 : decode prog_8_method_17_code 58 = .ok (.aload_n 0, 1) := by decide +kernel
theorem d_X6_sumOfMonths_59 : decode prog_8_method_17_code 59 = .ok (.getfield 155, 3) := by decide +kernel
theorem d_X6_sumOfMonths_62 : decode prog_8_method_17_code 62 = .ok (.iload 5, 2) := by decide +kernel
theorem d_X6_sumOfMonths_64 : decode prog_8_method_17_code 64 = .ok (.iaload, 1) := by decide +kernel
theorem d_X6_sumOfMonths_65 : decode prog_8_method_17_code 65 = .ok (.i2l, 1) := by decide +kernel
theorem d_X6_sumOfMonths_66 : decode prog_8_method_17_code 66 = .ok (.lmul, 1) := by decide +kernel
theorem d_X6_sumOfMonths_67 : decode prog_8_method_17_code 67 = .ok (.lstore 6, 2) := by decide +kernel
theorem d_X6_sumOfMonths_69 : decode prog_8_method_17_code 69 = .ok (.iinc 8 1, 3) := by decide +kernel
theorem d_X6_sumOfMonths_72 : decode prog_8_method_17_code 72 = .ok (.goto (-22), 3) := by decide +kernel
theorem d_X6_sumOfMonths_75 : decode prog_8_method_17_code 75 = .ok (.lload_n 3, 1) := by decide +kernel
theorem d_X6_sumOfMonths_76 : decode prog_8_method_17_code 76 = .ok (.lload 6, 2) := by decide +kernel
theorem d_X6_sumOfMonths_78 : decode prog_8_method_17_code 78 = .ok (.ladd, 1) := by decide +kernel
theorem d_X6_sumOfMonths_79 : decode prog_8_method_17_code 79 = .ok (.lstore_n 3, 1) := by decide +kernel
theorem d_X6_sumOfMonths_80 : decode prog_8_method_17_code 80 = .ok (.iinc 5 1, 3) := by decide +kernel
theorem d_X6_sumOfMonths_83 : decode prog_8_method_17_code 83 = .ok (.goto (-78), 3) := by decide +kernel
theorem d_X6_sumOfMonths_86 : decode prog_8_method_17_code 86 = .ok (.lload_n 3, 1) := by decide +kernel
theorem d_X6_sumOfMonths_87 : decode prog_8_method_17_code 87 = .ok (.lreturn, 1) := by decide +kernel
theorem d_X6_partsAtTop_0 : decode prog_8_method_18_code 0 = .ok (.aload_n 0, 1) := by decide +kernel
theorem d_X6_partsAtTop_1 : decode prog_8_method_18_code 1 = .ok (.getfield 46, 3) := by decide +kernel
theorem d_X6_partsAtTop_4 : decode prog_8_method_18_code 4 = .ok (.lconst 0, 1) := by decide +kernel
theorem d_X6_partsAtTop_5 : decode prog_8_method_18_code 5 = .ok (.invokestatic 158, 3) := by decide +kernel
theorem d_X6_partsAtTop_8 : decode prog_8_method_18_code 8 = .ok (.aload_n 0, 1) := by decide +kernel
theorem d_X6_partsAtTop_9 : decode prog_8_method_18_code 9 = .ok (.getfield 46, 3) := by decide +kernel
theorem d_X6_partsAtTop_12 : decode prog_8_method_18_code 12 = .ok (.iload_n 1, 1) := by decide +kernel
theorem d_X6_partsAtTop_13 : decode prog_8_method_18_code 13 = .ok (.iconst 0, 1) := by decide +kernel
theorem d_X6_partsAtTop_14 : decode prog_8_method_18_code 14 = .ok (.bipush 12, 2) := by decide +kernel
theorem d_X6_partsAtTop_16 : decode prog_8_method_18_code 16 = .ok (.invokestatic 97, 3) := by decide +kernel
theorem d_X6_partsAtTop_19 : decode prog_8_method_18_code 19 = .ok (.ldc2_w 164, 3) := by decide +kernel
theorem d_X6_partsAtTop_22 : decode prog_8_method_18_code 22 = .ok (.lastore, 1) := by decide +kernel
theorem d_X6_partsAtTop_23 : decode prog_8_method_18_code 23 = .ok (.iconst 0, 1) := by decide +kernel
theorem d_X6_partsAtTop_24 : decode prog_8_method_18_code 24 = .ok (.istore 4, 2) := by decide +kernel
theorem d_X6_partsAtTop_26 : decode prog_8_method_18_code 26 = .ok (.iload 4, 2) := by decide +kernel
theorem d_X6_partsAtTop_28 : decode prog_8_method_18_code 28 = .ok (.iload_n 3, 1) := by decide +kernel
theorem d_X6_partsAtTop_29 : decode prog_8_method_18_code 29 = .ok (.if_icmp .ge 90, 3) := by decide +kernel
theorem d_X6_partsAtTop_32 : decode prog_8_method_18_code 32 = .ok (.aload_n 0, 1) := by decide +kernel
theorem d_X6_partsAtTop_33 : decode prog_8_method_18_code 33 = .ok (.getfield 46, 3) := by decide +kernel
theorem d_X6_partsAtTop_36 : decode prog_8_method_18_code 36 = .ok (.bipush 12, 2) := by decide +kernel
theorem d_X6_partsAtTop_38 : decode prog_8_method_18_code 38 = .ok (.dup2, 1) := by decide +kernel
theorem d_X6_partsAtTop_39 : decode prog_8_method_18_code 39 = .ok (.laload, 1) := by decide +kernel
theorem d_X6_partsAtTop_40 : decode prog_8_method_18_code 40 = .ok (.aload_n 0, 1) := by decide +kernel
theorem d_X6_partsAtTop_41 : decode prog_8_method_18_code 41 = .ok (.getfield 46, 3) := by decide +kernel
theorem d_X6_partsAtTop_44 : decode prog_8_method_18_code 44 = .ok (.bipush 11, 2) := by decide +kernel
theorem d_X6_partsAtTop_46 : decode prog_8_method_18_code 46 = .ok (.laload, 1) := by decide +kernel
theorem d_X6_partsAtTop_47 : decode prog_8_method_18_code 47 = .ok (.iload_n 2, 1) := by decide +kernel
theorem d_X6_partsAtTop_48 : decode prog_8_method_18_code 48 = .ok (.i2l, 1) := by decide +kernel
theorem d_X6_partsAtTop_49 : decode prog_8_method_18_code 49 = .ok (.lmul, 1) := by decide +kernel
theorem d_X6_partsAtTop_50 : decode prog_8_method_18_code 50 = .ok (.ldc2_w 166, 3) := by decide +kernel
theorem d_X6_partsAtTop_53 : decode prog_8_method_18_code 53 = .ok (.ldiv, 1) := by decide +kernel
theorem d_X6_partsAtTop_54 : decode prog_8_method_18_code 54 = .ok (.ladd, 1) := by decide +kernel
theorem d_X6_partsAtTop_55 : decode prog_8_method_18_code 55 = .ok (.lastore, 1) := by decide +kernel
theorem d_X6_partsAtTop_56 : decode prog_8_method_18_code 56 = .ok (.bipush 11, 2) := by decide +kernel
theorem d_X6_partsAtTop_58 : decode prog_8_method_18_code 58 = .ok (.istore 5, 2) := by decide +kernel
theorem d_X6_partsAtTop_60 : decode prog_8_method_18_code 60 = .ok (.iload 5, 2) := by decide +kernel
theorem d_X6_partsAtTop_62 : decode prog_8_method_18_code 62 = .ok (.iconst 1, 1) := by decide +kernel
theorem d_X6_partsAtTop_63 : decode prog_8_method_18_code 63 = .ok (.if_icmp .lt 50, 3) := by decide +kernel
theorem d_X6_partsAtTop_66 : decode prog_8_method_18_code 66 = .ok (.aload_n 0, 1) := by decide +kernel
theorem d_X6_partsAtTop_67 : decode prog_8_method_18_code 67 = .ok (.getfield 46, 3) := by decide +kernel
theorem d_X6_partsAtTop_70 : decode prog_8_method_18_code 70 = .ok (.iload 5, 2) := by decide +kernel
theorem d_X6_partsAtTop_72 : decode prog_8_method_18_code 72 = .ok (.aload_n 0, 1) := by decide +kernel
theorem d_X6_partsAtTop_73 : decode prog_8_method_18_code 73 = .ok (.getfield 46, 3) := by decide +kernel
theorem d_X6_partsAtTop_76 : decode prog_8_method_18_code 76 = .ok (.iload 5, 2) := by decide +kernel
theorem d_X6_partsAtTop_78 : decode prog_8_method_18_code 78 = .ok (.laload, 1) := by decide +kernel
theorem d_X6_partsAtTop_79 : decode prog_8_method_18_code 79 = .ok (.bipush 10, 2) := by decide +kernel
theorem d_X6_partsAtTop_81 : decode prog_8_method_18_code 81 = .ok (.iload_n 2, 1) := by decide +kernel
theorem d_X6_partsAtTop_82 : decode prog_8_method_18_code 82 = .ok (.isub, 1) := by decide +kernel
theorem d_X6_partsAtTop_83 : decode prog_8_method_18_code 83 = .ok (.i2l, 1) := by decide +kernel
theorem d_X6_partsAtTop_84 : decode prog_8_method_18_code 84 = .ok (.lmul, 1) := by decide +kernel
theorem d_X6_partsAtTop_85 : decode prog_8_method_18_code 85 = .ok (.ldc2_w 166, 3) := by decide +kernel
theorem d_X6_partsAtTop_88 : decode prog_8_method_18_code 88 = .ok (.ldiv, 1) := by decide +kernel
theorem d_X6_partsAtTop_89 : decode prog_8_method_18_code 89 = .ok (.aload_n 0, 1) := by decide +kernel
theorem d_X6_partsAtTop_90 : decode prog_8_method_18_code 90 = .ok (.getfield 46, 3) := by decide +kernel
theorem d_X6_partsAtTop_93 : decode prog_8_method_18_code 93 = .ok (.iload 5, 2) := by decide +kernel
theorem d_X6_partsAtTop_95 : decode prog_8_method_18_code 95 = .ok (.iconst 1, 1) := by decide +kernel
theorem d_X6_partsAtTop_96 : decode prog_8_method_18_code 96 = .ok (.isub, 1) := by decide +kernel
theorem d_X6_partsAtTop_97 : decode prog_8_method_18_code 97 = .ok (.laload, 1) := by decide +kernel
theorem d_X6_partsAtTop_98 : decode prog_8_method_18_code 98 = .ok (.iload_n 2, 1) := by decide +kernel
theorem d_X6_partsAtTop_99 : decode prog_8_method_18_code 99 = .ok (.i2l, 1) := by decide +kernel
theorem d_X6_partsAtTop_100 : decode prog_8_method_18_code 100 = .ok (.lmul, 1) := by decide +kernel
theorem d_X6_partsAtTop_101 : decode prog_8_method_18_code 101 = .ok (.ldc2_w 166, 3) := by decide +kernel
theorem d_X6_partsAtTop_104 : decode prog_8_method_18_code 104 = .ok (.ldiv, 1) := by decide +kernel
theorem d_X6_partsAtTop_105 : decode prog_8_method_18_code 105 = .ok (.ladd, 1) := by decide +kernel
theorem d_X6_partsAtTop_106 : decode prog_8_method_18_code 106 = .ok (.lastore, 1) := by decide +kernel
theorem d_X6_partsAtTop_107 : decode prog_8_method_18_code 107 = .ok (.iinc 5 (-1), 3) := by decide +kernel
theorem d_X6_partsAtTop_110 : decode prog_8_method_18_code 110 = .ok (.goto (-50), 3) := by decide +kernel
theorem d_X6_partsAtTop_113 : decode prog_8_method_18_code 113 = .ok (.iinc 4 1, 3) := by decide +kernel
theorem d_X6_partsAtTop_116 : decode prog_8_method_18_code 116 = .ok (.goto (-90), 3) := by decide +kernel
theorem d_X6_partsAtTop_119 : decode prog_8_method_18_code 119 = .ok (.aload_n 0, 1) := by decide +kernel
theorem d_X6_partsAtTop_120 : decode prog_8_method_18_code 120 = .ok (.getfield 46, 3) := by decide +kernel
theorem d_X6_partsAtTop_123 : decode prog_8_method_18_code 123 = .ok (.bipush 12, 2) := by decide +kernel
theorem d_X6_partsAtTop_125 : decode prog_8_method_18_code 125 = .ok (.laload, 1) := by decide +kernel
theorem d_X6_partsAtTop_126 : decode prog_8_method_18_code 126 = .ok (.lreturn, 1) := by decide +kernel
theorem d_X7_init_0 : decode prog_9_method_1_code 0 = .ok (.aload_n 0, 1) := by decide +kernel
theorem d_X7_init_1 : decode prog_9_method_1_code 1 = .ok (.invokespecial 3, 3) := by decide +kernel
theorem d_X7_init_4 : decode prog_9_method_1_code 4 = .ok (.aload_n 0, 1) := by decide +kernel
theorem d_X7_init_5 : decode prog_9_method_1_code 5 = .ok (.iconst 0, 1) := by decide +kernel
theorem d_X7_init_6 : decode prog_9_method_1_code 6 = .ok (.putfield 9, 3) := by decide +kernel
theorem d_X7_init_9 : decode prog_9_method_1_code 9 = .ok (.aload_n 0, 1) := by decide +kernel
theorem d_X7_init_10 : decode prog_9_method_1_code 10 = .ok (.iconst 0, 1) := by decide +kernel
theorem d_X7_init_11 : decode prog_9_method_1_code 11 = .ok (.putfield 15, 3) := by decide +kernel
theorem d_X7_init_14 : decode prog_9_method_1_code 14 = .ok (.aload_n 0, 1) := by decide +kernel
theorem d_X7_init_15 : decode prog_9_method_1_code 15 = .ok (.iconst 0, 1) := by decide +kernel
theorem d_X7_init_16 : decode prog_9_method_1_code 16 = .ok (.putfield 18, 3) := by decide +kernel
theorem d_X7_init_19 : decode prog_9_method_1_code 19 = .ok (.aload_n 0, 1) := by decide +kernel
theorem d_X7_init_20 : decode prog_9_method_1_code 20 = .ok (.sipush 400, 3) := by decide +kernel
theorem d_X7_init_23 : decode prog_9_method_1_code 23 = .ok (.newarray .int, 2) := by decide +kernel
theorem d_X7_init_25 : decode prog_9_method_1_code 25 = .ok (.putfield 22, 3) := by decide +kernel
theorem d_X7_init_28 : decode prog_9_method_1_code 28 = .ok (.aload_n 0, 1) := by decide +kernel
theorem d_X7_init_29 : decode prog_9_method_1_code 29 = .ok (.sipush 400, 3) := by decide +kernel
theorem d_X7_init_32 : decode prog_9_method_1_code 32 = .ok (.newarray .int, 2) := by decide +kernel
theorem d_X7_init_34 : decode prog_9_method_1_code 34 = .ok (.putfield 26, 3) := by decide +kernel
theorem d_X7_init_37 : decode prog_9_method_1_code 37 = .ok (.aload_n 0, 1) := by decide +kernel
theorem d_X7_init_38 : decode prog_9_method_1_code 38 = .ok (.bipush 12, 2) := by decide +kernel
theorem d_X7_init_40 : decode prog_9_method_1_code 40 = .ok (.newarray .int, 2) := by decide +kernel
theorem d_X7_init_42 : decode prog_9_method_1_code 42 = .ok (.putfield 29, 3) := by decide +kernel
theorem d_X7_init_45 : decode prog_9_method_1_code 45 = .ok (.aload_n 0, 1) := by decide +kernel
theorem d_X7_init_46 : decode prog_9_method_1_code 46 = .ok (.bipush 12, 2) := by decide +kernel
theorem d_X7_init_48 : decode prog_9_method_1_code 48 = .ok (.newarray .int, 2) := by decide +kernel
theorem d_X7_init_50 : decode prog_9_method_1_code 50 = .ok (.putfield 32, 3) := by decide +kernel
theorem d_X7_init_53 : decode prog_9_method_1_code 53 = .ok (.aload_n 0, 1) := by decide +kernel
theorem d_X7_init_54 : decode prog_9_method_1_code 54 = .ok (.bipush 37, 2) := by decide +kernel
theorem d_X7_init_56 : decode prog_9_method_1_code 56 = .ok (.newarray .int, 2) := by decide +kernel
theorem d_X7_init_58 : decode prog_9_method_1_code 58 = .ok (.putfield 35, 3) := by decide +kernel
theorem d_X7_init_61 : decode prog_9_method_1_code 61 = .ok (.return_, 1) := by decide +kernel
theorem d_X7_init__0 : decode prog_9_method_2_code 0 = .ok (.aload_n 0, 1) := by decide +kernel
theorem d_X7_init__1 : decode prog_9_method_2_code 1 = .ok (.invokespecial 3, 3) := by decide +kernel
theorem d_X7_init__4 : decode prog_9_method_2_code 4 = .ok (.aload_n 0, 1) := by decide +kernel
theorem d_X7_init__5 : decode prog_9_method_2_code 5 = .ok (.iconst 0, 1) := by decide +kernel
theorem d_X7_init__6 : decode prog_9_method_2_code 6 = .ok (.putfield 9, 3) := by decide +kernel
theorem d_X7_init__9 : decode prog_9_method_2_code 9 = .ok (.aload_n 0, 1) := by decide +kernel
theorem d_X7_init__10 : decode prog_9_method_2_code 10 = .ok (.iconst 0, 1) := by decide +kernel
theorem d_X7_init__11 : decode prog_9_method_2_code 11 = .ok (.putfield 15, 3) := by decide +kernel
theorem d_X7_init__14 : decode prog_9_method_2_code 14 = .ok (.aload_n 0, 1) := by decide +kernel
theorem d_X7_init__15 : decode prog_9_method_2_code 15 = .ok (.iconst 0, 1) := by decide +kernel
theorem d_X7_init__16 : decode prog_9_method_2_code 16 = .ok (.putfield 18, 3) := by decide +kernel
theorem d_X7_init__19 : decode prog_9_method_2_code 19 = .ok (.aload_n 0, 1) := by decide +kernel
theorem d_X7_init__20 : decode prog_9_method_2_code 20 = .ok (.aload_n 1, 1) := by decide +kernel
theorem d_X7_init__21 : decode prog_9_method_2_code 21 = .ok (.getfield 9, 3) := by decide +kernel
theorem d_X7_init__24 : decode prog_9_method_2_code 24 = .ok (.iconst 0, 1) := by decide +kernel
theorem d_X7_init__25 : decode prog_9_method_2_code 25 = .ok (.sipush 400, 3) := by decide +kernel
theorem d_X7_init__28 : decode prog_9_method_2_code 28 = .ok (.invokestatic 38, 3) := by decide +kernel
theorem d_X7_init__31 : decode prog_9_method_2_code 31 = .ok (.putfield 9, 3) := by decide +kernel
theorem d_X7_init__34 : decode prog_9_method_2_code 34 = .ok (.aload_n 0, 1) := by decide +kernel
theorem d_X7_init__35 : decode prog_9_method_2_code 35 = .ok (.aload_n 1, 1) := by decide +kernel
theorem d_X7_init__36 : decode prog_9_method_2_code 36 = .ok (.getfield 15, 3) := by decide +kernel
theorem d_X7_init__39 : decode prog_9_method_2_code 39 = .ok (.iconst 0, 1) := by decide +kernel
theorem d_X7_init__40 : decode prog_9_method_2_code 40 = .ok (.bipush 12, 2) := by decide +kernel
theorem d_X7_init__42 : decode prog_9_method_2_code 42 = .ok (.invokestatic 38, 3) := by decide +kernel
theorem d_X7_init__45 : decode prog_9_method_2_code 45 = .ok (.putfield 15, 3) := by decide +kernel
theorem d_X7_init__48 : decode prog_9_method_2_code 48 = .ok (.aload_n 0, 1) := by decide +kernel
theorem d_X7_init__49 : decode prog_9_method_2_code 49 = .ok (.aload_n 1, 1) := by decide +kernel
theorem d_X7_init__50 : decode prog_9_method_2_code 50 = .ok (.getfield 22, 3) := by decide +kernel
theorem d_X7_init__53 : decode prog_9_method_2_code 53 = .ok (.aload_n 0, 1) := by decide +kernel
theorem d_X7_init__54 : decode prog_9_method_2_code 54 = .ok (.getfield 9, 3) := by decide +kernel
theorem d_X7_init__57 : decode prog_9_method_2_code 57 = .ok (.invokestatic 42, 3) := by decide +kernel
theorem d_X7_init__60 : decode prog_9_method_2_code 60 = .ok (.putfield 22, 3) := by decide +kernel
theorem d_X7_init__63 : decode prog_9_method_2_code 63 = .ok (.aload_n 0, 1) := by decide +kernel
theorem d_X7_init__64 : decode prog_9_method_2_code 64 = .ok (.aload_n 1, 1) := by decide +kernel
theorem d_X7_init__65 : decode prog_9_method_2_code 65 = .ok (.getfield 26, 3) := by decide +kernel
theorem d_X7_init__68 : decode prog_9_method_2_code 68 = .ok (.aload_n 0, 1) := by decide +kernel
theorem d_X7_init__69 : decode prog_9_method_2_code 69 = .ok (.getfield 9, 3) := by decide +kernel
theorem d_X7_init__72 : decode prog_9_method_2_code 72 = .ok (.invokestatic 42, 3) := by decide +kernel
theorem d_X7_init__75 : decode prog_9_method_2_code 75 = .ok (.putfield 26, 3) := by decide +kernel
theorem d_X7_init__78 : decode prog_9_method_2_code 78 = .ok (.aload_n 0, 1) := by decide +kernel
theorem d_X7_init__79 : decode prog_9_method_2_code 79 = .ok (.aload_n 1, 1) := by decide +kernel
theorem d_X7_init__80 : decode prog_9_method_2_code 80 = .ok (.getfield 29, 3) := by decide +kernel
theorem d_X7_init__83 : decode prog_9_method_2_code 83 = .ok (.aload_n 0, 1) := by decide +kernel
theorem d_X7_init__84 : decode prog_9_method_2_code 84 = .ok (.getfield 15, 3) := by decide +kernel
theorem d_X7_init__87 : decode prog_9_method_2_code 87 = .ok (.invokestatic 42, 3) := by decide +kernel
theorem d_X7_init__90 : decode prog_9_method_2_code 90 = .ok (.putfield 29, 3) := by decide +kernel
theorem d_X7_init__93 : decode prog_9_method_2_code 93 = .ok (.aload_n 0, 1) := by decide +kernel
theorem d_X7_init__94 : decode prog_9_method_2_code 94 = .ok (.aload_n 1, 1) := by decide +kernel
theorem d_X7_init__95 : decode prog_9_method_2_code 95 = .ok (.getfield 32, 3) := by decide +kernel
theorem d_X7_init__98 : decode prog_9_method_2_code 98 = .ok (.aload_n 0, 1) := by decide +kernel
theorem d_X7_init__99 : decode prog_9_method_2_code 99 = .ok (.getfield 15, 3) := by decide +kernel
theorem d_X7_init__102 : decode prog_9_method_2_code 102 = .ok (.invokestatic 42, 3) := by decide +kernel
theorem d_X7_init__105 : decode prog_9_method_2_code 105 = .ok (.putfield 32, 3) := by decide +kernel
theorem d_X7_init__108 : decode prog_9_method_2_code 108 = .ok (.aload_n 0, 1) := by decide +kernel
theorem d_X7_init__109 : decode prog_9_method_2_code 109 = .ok (.aload_n 1, 1) := by decide +kernel
theorem d_X7_init__110 : decode prog_9_method_2_code 110 = .ok (.getfield 35, 3) := by decide +kernel
theorem d_X7_init__113 : decode prog_9_method_2_code 113 = .ok (.aload_n 0, 1) := by decide +kernel
theorem d_X7_init__114 : decode prog_9_method_2_code 114 = .ok (.getfield 15, 3) := by decide +kernel
theorem d_X7_init__117 : decode prog_9_method_2_code 117 = .ok (.iconst 3, 1) := by decide +kernel
theorem d_X7_init__118 : decode prog_9_method_2_code 118 = .ok (.imul, 1) := by decide +kernel
theorem d_X7_init__119 : decode prog_9_method_2_code 119 = .ok (.iconst 1, 1) := by decide +kernel
theorem d_X7_init__120 : decode prog_9_method_2_code 120 = .ok (.iadd, 1) := by decide +kernel
theorem d_X7_init__121 : decode prog_9_method_2_code 121 = .ok (.invokestatic 42, 3) := by decide +kernel
theorem d_X7_init__124 : decode prog_9_method_2_code 124 = .ok (.putfield 35, 3) := by decide +kernel
theorem d_X7_init__127 : decode prog_9_method_2_code 127 = .ok (.aload_n 0, 1) := by decide +kernel
theorem d_X7_init__128 : decode prog_9_method_2_code 128 = .ok (.aload_n 1, 1) := by decide +kernel
theorem d_X7_init__129 : decode prog_9_method_2_code 129 = .ok (.getfield 18, 3) := by decide +kernel
theorem d_X7_init__132 : decode prog_9_method_2_code 132 = .ok (.putfield 18, 3) := by decide +kernel
theorem d_X7_init__135 : decode prog_9_method_2_code 135 = .ok (.return_, 1) := by decide +kernel
theorem d_X7_clear_0 : decode prog_9_method_3_code 0 = .ok (.aload_n 0, 1) := by decide +kernel
theorem d_X7_clear_1 : decode prog_9_method_3_code 1 = .ok (.iconst 0, 1) := by decide +kernel
theorem d_X7_clear_2 : decode prog_9_method_3_code 2 = .ok (.putfield 9, 3) := by decide +kernel
theorem d_X7_clear_5 : decode prog_9_method_3_code 5 = .ok (.aload_n 0, 1) := by decide +kernel
theorem d_X7_clear_6 : decode prog_9_method_3_code 6 = .ok (.iconst 0, 1) := by decide +kernel
theorem d_X7_clear_7 : decode prog_9_method_3_code 7 = .ok (.putfield 15, 3) := by decide +kernel
theorem d_X7_clear_10 : decode prog_9_method_3_code 10 = .ok (.aload_n 0, 1) := by decide +kernel
theorem d_X7_clear_11 : decode prog_9_method_3_code 11 = .ok (.iconst 0, 1) := by decide +kernel
theorem d_X7_clear_12 : decode prog_9_method_3_code 12 = .ok (.putfield 18, 3) := by decide +kernel
theorem d_X7_clear_15 : decode prog_9_method_3_code 15 = .ok (.return_, 1) := by decide +kernel
theorem d_X7_beginClause_0 : decode prog_9_method_4_code 0 = .ok (.aload_n 0, 1) := by decide +kernel
theorem d_X7_beginClause_1 : decode prog_9_method_4_code 1 = .ok (.getfield 15, 3) := by decide +kernel
theorem d_X7_beginClause_4 : decode prog_9_method_4_code 4 = .ok (.bipush 12, 2) := by decide +kernel
theorem d_X7_beginClause_6 : decode prog_9_method_4_code 6 = .ok (.if_icmp .ge 23, 3) := by decide +kernel
theorem d_X7_beginClause_9 : decode prog_9_method_4_code 9 = .ok (.aload_n 0, 1) := by decide +kernel
theorem d_X7_beginClause_10 : decode prog_9_method_4_code 10 = .ok (.getfield 29, 3) := by decide +kernel
theorem d_X7_beginClause_13 : decode prog_9_method_4_code 13 = .ok (.aload_n 0, 1) := by decide +kernel
theorem d_X7_beginClause_14 : decode prog_9_method_4_code 14 = .ok (.getfield 15, 3) := by decide +kernel
theorem d_X7_beginClause_17 : decode prog_9_method_4_code 17 = .ok (.iload_n 1, 1) := by decide +kernel
theorem d_X7_beginClause_18 : decode prog_9_method_4_code 18 = .ok (.iastore, 1) := by decide +kernel
theorem d_X7_beginClause_19 : decode prog_9_method_4_code 19 = .ok (.aload_n 0, 1) := by decide +kernel
theorem d_X7_beginClause_20 : decode prog_9_method_4_code 20 = .ok (.getfield 32, 3) := by decide +kernel
theorem d_X7_beginClause_23 : decode prog_9_method_4_code 23 = .ok (.aload_n 0, 1) := by decide +kernel
theorem d_X7_beginClause_24 : decode prog_9_method_4_code 24 = .ok (.getfield 15, 3) := by decide +kernel
theorem d_X7_beginClause_27 : decode prog_9_method_4_code 27 = .ok (.iconst 1, 1) := by decide +kernel
theorem d_X7_beginClause_28 : decode prog_9_method_4_code 28 = .ok (.iastore, 1) := by decide +kernel
theorem d_X7_beginClause_29 : decode prog_9_method_4_code 29 = .ok (.return_, 1) := by decide +kernel
theorem d_X7_endPiece_0 : decode prog_9_method_5_code 0 = .ok (.aload_n 0, 1) := by decide +kernel
theorem d_X7_endPiece_1 : decode prog_9_method_5_code 1 = .ok (.getfield 15, 3) := by decide +kernel
theorem d_X7_endPiece_4 : decode prog_9_method_5_code 4 = .ok (.iconst 3, 1) := by decide +kernel
theorem d_X7_endPiece_5 : decode prog_9_method_5_code 5 = .ok (.imul, 1) := by decide +kernel
theorem d_X7_endPiece_6 : decode prog_9_method_5_code 6 = .ok (.iload_n 1, 1) := by decide +kernel
theorem d_X7_endPiece_7 : decode prog_9_method_5_code 7 = .ok (.iadd, 1) := by decide +kernel
theorem d_X7_endPiece_8 : decode prog_9_method_5_code 8 = .ok (.iconst 1, 1) := by decide +kernel
theorem d_X7_endPiece_9 : decode prog_9_method_5_code 9 = .ok (.iadd, 1) := by decide +kernel
theorem d_X7_endPiece_10 : decode prog_9_method_5_code 10 = .ok (.istore_n 2, 1) := by decide +kernel
theorem d_X7_endPiece_11 : decode prog_9_method_5_code 11 = .ok (.iload_n 2, 1) := by decide +kernel
theorem d_X7_endPiece_12 : decode prog_9_method_5_code 12 = .ok (.iconst 0, 1) := by decide +kernel
theorem d_X7_endPiece_13 : decode prog_9_method_5_code 13 = .ok (.aload_n 0, 1) := by decide +kernel
theorem d_X7_endPiece_14 : decode prog_9_method_5_code 14 = .ok (.getfield 35, 3) := by decide +kernel
theorem d_X7_endPiece_17 : decode prog_9_method_5_code 17 = .ok (.arraylength, 1) := by decide +kernel
theorem d_X7_endPiece_18 : decode prog_9_method_5_code 18 = .ok (.iconst 1, 1) := by decide +kernel
theorem d_X7_endPiece_19 : decode prog_9_method_5_code 19 = .ok (.isub, 1) := by decide +kernel
theorem d_X7_endPiece_20 : decode prog_9_method_5_code 20 = .ok (.invokestatic 48, 3) := by decide +kernel
theorem d_X7_endPiece_23 : decode prog_9_method_5_code 23 = .ok (.ifCond .eq 13, 3) := by decide +kernel
theorem d_X7_endPiece_26 : decode prog_9_method_5_code 26 = .ok (.aload_n 0, 1) := by decide +kernel
theorem d_X7_endPiece_27 : decode prog_9_method_5_code 27 = .ok (.getfield 35, 3) := by decide +kernel
theorem d_X7_endPiece_30 : decode prog_9_method_5_code 30 = .ok (.iload_n 2, 1) := by decide +kernel
theorem d_X7_endPiece_31 : decode prog_9_method_5_code 31 = .ok (.aload_n 0, 1) := by decide +kernel
theorem d_X7_endPiece_32 : decode prog_9_method_5_code 32 = .ok (.getfield 9, 3) := by decide +kernel
theorem d_X7_endPiece_35 : decode prog_9_method_5_code 35 = .ok (.iastore, 1) := by decide +kernel
theorem d_X7_endPiece_36 : decode prog_9_method_5_code 36 = .ok (.return_, 1) := by decide +kernel
theorem d_X7_emit_0 : decode prog_9_method_6_code 0 = .ok (.aload_n 0, 1) := by decide +kernel
theorem d_X7_emit_1 : decode prog_9_method_6_code 1 = .ok (.getfield 9, 3) := by decide +kernel
theorem d_X7_emit_4 : decode prog_9_method_6_code 4 = .ok (.istore_n 3, 1) := by decide +kernel
theorem d_X7_emit_5 : decode prog_9_method_6_code 5 = .ok (.iload_n 3, 1) := by decide +kernel
theorem d_X7_emit_6 : decode prog_9_method_6_code 6 = .ok (.aload_n 0, 1) := by decide +kernel
theorem d_X7_emit_7 : decode prog_9_method_6_code 7 = .ok (.getfield 22, 3) := by decide +kernel
theorem d_X7_emit_10 : decode prog_9_method_6_code 10 = .ok (.arraylength, 1) := by decide +kernel
theorem d_X7_emit_11 : decode prog_9_method_6_code 11 = .ok (.if_icmp .ge 36, 3) := by decide +kernel
theorem d_X7_emit_14 : decode prog_9_method_6_code 14 = .ok (.iload_n 3, 1) := by decide +kernel
theorem d_X7_emit_15 : decode prog_9_method_6_code 15 = .ok (.aload_n 0, 1) := by decide +kernel
theorem d_X7_emit_16 : decode prog_9_method_6_code 16 = .ok (.getfield 26, 3) := by decide +kernel
theorem d_X7_emit_19 : decode prog_9_method_6_code 19 = .ok (.arraylength, 1) := by decide +kernel
theorem d_X7_emit_20 : decode prog_9_method_6_code 20 = .ok (.if_icmp .ge 27, 3) := by decide +kernel
theorem d_X7_emit_23 : decode prog_9_method_6_code 23 = .ok (.aload_n 0, 1) := by decide +kernel
theorem d_X7_emit_24 : decode prog_9_method_6_code 24 = .ok (.getfield 22, 3) := by decide +kernel
theorem d_X7_emit_27 : decode prog_9_method_6_code 27 = .ok (.iload_n 3, 1) := by decide +kernel
theorem d_X7_emit_28 : decode prog_9_method_6_code 28 = .ok (.iload_n 1, 1) := by decide +kernel
theorem d_X7_emit_29 : decode prog_9_method_6_code 29 = .ok (.iastore, 1) := by decide +kernel
theorem d_X7_emit_30 : decode prog_9_method_6_code 30 = .ok (.aload_n 0, 1) := by decide +kernel
theorem d_X7_emit_31 : decode prog_9_method_6_code 31 = .ok (.getfield 26, 3) := by decide +kernel
theorem d_X7_emit_34 : decode prog_9_method_6_code 34 = .ok (.iload_n 3, 1) := by decide +kernel
theorem d_X7_emit_35 : decode prog_9_method_6_code 35 = .ok (.iload_n 2, 1) := by decide +kernel
theorem d_X7_emit_36 : decode prog_9_method_6_code 36 = .ok (.iastore, 1) := by decide +kernel
theorem d_X7_emit_37 : decode prog_9_method_6_code 37 = .ok (.aload_n 0, 1) := by decide +kernel
theorem d_X7_emit_38 : decode prog_9_method_6_code 38 = .ok (.dup, 1) := by decide +kernel
theorem d_X7_emit_39 : decode prog_9_method_6_code 39 = .ok (.getfield 9, 3) := by decide +kernel
theorem d_X7_emit_42 : decode prog_9_method_6_code 42 = .ok (.iconst 1, 1) := by decide +kernel
theorem d_X7_emit_43 : decode prog_9_method_6_code 43 = .ok (.iadd, 1) := by decide +kernel
theorem d_X7_emit_44 : decode prog_9_method_6_code 44 = .ok (.putfield 9, 3) := by decide +kernel
theorem d_X7_emit_47 : decode prog_9_method_6_code 47 = .ok (.iload_n 3, 1) := by decide +kernel
theorem d_X7_emit_48 : decode prog_9_method_6_code 48 = .ok (.ireturn, 1) := by decide +kernel
theorem d_X7_aimHere_0 : decode prog_9_method_7_code 0 = .ok (.iload_n 1, 1) := by decide +kernel
theorem d_X7_aimHere_1 : decode prog_9_method_7_code 1 = .ok (.iconst 0, 1) := by decide +kernel
theorem d_X7_aimHere_2 : decode prog_9_method_7_code 2 = .ok (.aload_n 0, 1) := by decide +kernel
theorem d_X7_aimHere_3 : decode prog_9_method_7_code 3 = .ok (.getfield 26, 3) := by decide +kernel
theorem d_X7_aimHere_6 : decode prog_9_method_7_code 6 = .ok (.arraylength, 1) := by decide +kernel
theorem d_X7_aimHere_7 : decode prog_9_method_7_code 7 = .ok (.iconst 1, 1) := by decide +kernel
theorem d_X7_aimHere_8 : decode prog_9_method_7_code 8 = .ok (.isub, 1) := by decide +kernel
theorem d_X7_aimHere_9 : decode prog_9_method_7_code 9 = .ok (.invokestatic 48, 3) := by decide +kernel
theorem d_X7_aimHere_12 : decode prog_9_method_7_code 12 = .ok (.ifCond .eq 13, 3) := by decide +kernel
theorem d_X7_aimHere_15 : decode prog_9_method_7_code 15 = .ok (.aload_n 0, 1) := by decide +kernel
theorem d_X7_aimHere_16 : decode prog_9_method_7_code 16 = .ok (.getfield 26, 3) := by decide +kernel
theorem d_X7_aimHere_19 : decode prog_9_method_7_code 19 = .ok (.iload_n 1, 1) := by decide +kernel
theorem d_X7_aimHere_20 : decode prog_9_method_7_code 20 = .ok (.aload_n 0, 1) := by decide +kernel
theorem d_X7_aimHere_21 : decode prog_9_method_7_code 21 = .ok (.getfield 9, 3) := by decide +kernel
theorem d_X7_aimHere_24 : decode prog_9_method_7_code 24 = .ok (.iastore, 1) := by decide +kernel
theorem d_X7_aimHere_25 : decode prog_9_method_7_code 25 = .ok (.return_, 1) := by decide +kernel
theorem d_X8_init_0 : decode prog_10_method_1_code 0 = .ok (.aload_n 0, 1) := by decide +kernel
theorem d_X8_init_1 : decode prog_10_method_1_code 1 = .ok (.invokespecial 3, 3) := by decide +kernel
theorem d_X8_init_4 : decode prog_10_method_1_code 4 = .ok (.aload_n 0, 1) := by decide +kernel
theorem d_X8_init_5 : decode prog_10_method_1_code 5 = .ok (.new 9, 3) := by decide +kernel
theorem d_X8_init_8 : decode prog_10_method_1_code 8 = .ok (.dup, 1) := by decide +kernel
theorem d_X8_init_9 : decode prog_10_method_1_code 9 = .ok (.invokespecial 11, 3) := by decide +kernel
theorem d_X8_init_12 : decode prog_10_method_1_code 12 = .ok (.putfield 12, 3) := by decide +kernel
theorem d_X8_init_15 : decode prog_10_method_1_code 15 = .ok (.aload_n 0, 1) := by decide +kernel
theorem d_X8_init_16 : decode prog_10_method_1_code 16 = .ok (.iconst 0, 1) := by decide +kernel
theorem d_X8_init_17 : decode prog_10_method_1_code 17 = .ok (.putfield 18, 3) := by decide +kernel
theorem d_X8_init_20 : decode prog_10_method_1_code 20 = .ok (.aload_n 0, 1) := by decide +kernel
theorem d_X8_init_21 : decode prog_10_method_1_code 21 = .ok (.iconst 0, 1) := by decide +kernel
theorem d_X8_init_22 : decode prog_10_method_1_code 22 = .ok (.putfield 22, 3) := by decide +kernel
theorem d_X8_init_25 : decode prog_10_method_1_code 25 = .ok (.aload_n 0, 1) := by decide +kernel
theorem d_X8_init_26 : decode prog_10_method_1_code 26 = .ok (.aload_n 1, 1) := by decide +kernel
theorem d_X8_init_27 : decode prog_10_method_1_code 27 = .ok (.putfield 26, 3) := by decide +kernel
theorem d_X8_init_30 : decode prog_10_method_1_code 30 = .ok (.return_, 1) := by decide +kernel
theorem d_X8_read_0 : decode prog_10_method_2_code 0 = .ok (.aload_n 0, 1) := by decide +kernel
theorem d_X8_read_1 : decode prog_10_method_2_code 1 = .ok (.iload_n 1, 1) := by decide +kernel
theorem d_X8_read_2 : decode prog_10_method_2_code 2 = .ok (.putfield 18, 3) := by decide +kernel
theorem d_X8_read_5 : decode prog_10_method_2_code 5 = .ok (.aload_n 0, 1) := by decide +kernel
theorem d_X8_read_6 : decode prog_10_method_2_code 6 = .ok (.iconst 0, 1) := by decide +kernel
theorem d_X8_read_7 : decode prog_10_method_2_code 7 = .ok (.putfield 22, 3) := by decide +kernel
theorem d_X8_read_10 : decode prog_10_method_2_code 10 = .ok (.aload_n 0, 1) := by decide +kernel
theorem d_X8_read_11 : decode prog_10_method_2_code 11 = .ok (.getfield 12, 3) := by decide +kernel
theorem d_X8_read_14 : decode prog_10_method_2_code 14 = .ok (.invokevirtual 30, 3) := by decide +kernel
theorem d_X8_read_17 : decode prog_10_method_2_code 17 = .ok (.aload_n 0, 1) := by decide +kernel
theorem d_X8_read_18 : decode prog_10_method_2_code 18 = .ok (.getfield 26, 3) := by decide +kernel
theorem d_X8_read_21 : decode prog_10_method_2_code 21 = .ok (.invokevirtual 33, 3) := by decide +kernel
theorem d_X8_read_24 : decode prog_10_method_2_code 24 = .ok (.iconst 1, 1) := by decide +kernel
theorem d_X8_read_25 : decode prog_10_method_2_code 25 = .ok (.istore_n 2, 1) := by decide +kernel
theorem d_X8_read_26 : decode prog_10_method_2_code 26 = .ok (.iconst 1, 1) := by decide +kernel
theorem d_X8_read_27 : decode prog_10_method_2_code 27 = .ok (.istore_n 3, 1) := by decide +kernel
theorem d_X8_read_28 : decode prog_10_method_2_code 28 = .ok (.iconst 0, 1) := by decide +kernel
theorem d_X8_read_29 : decode prog_10_method_2_code 29 = .ok (.istore 4, 2) := by decide +kernel
theorem d_X8_read_31 : decode prog_10_method_2_code 31 = .ok (.iload 4, 2) := by decide +kernel
theorem d_X8_read_33 : decode prog_10_method_2_code 33 = .ok (.bipush 12, 2) := by decide +kernel
theorem d_X8_read_35 : decode prog_10_method_2_code 35 = .ok (.if_icmp .ge 41, 3) := by decide +kernel
theorem d_X8_read_38 : decode prog_10_method_2_code 38 = .ok (.iload_n 2, 1) := by decide +kernel
theorem d_X8_read_39 : decode prog_10_method_2_code 39 = .ok (.ifCond .eq 37, 3) := by decide +kernel
theorem d_X8_read_42 : decode prog_10_method_2_code 42 = .ok (.iload_n 3, 1) := by decide +kernel
theorem d_X8_read_43 : decode prog_10_method_2_code 43 = .ok (.ifCond .eq 33, 3) := by decide +kernel
theorem d_X8_read_46 : decode prog_10_method_2_code 46 = .ok (.aload_n 0, 1) := by decide +kernel
theorem d_X8_read_47 : decode prog_10_method_2_code 47 = .ok (.invokevirtual 38, 3) := by decide +kernel
theorem d_X8_read_50 : decode prog_10_method_2_code 50 = .ok (.istore_n 2, 1) := by decide +kernel
theorem d_X8_read_51 : decode prog_10_method_2_code 51 = .ok (.iload_n 2, 1) := by decide +kernel
theorem d_X8_read_52 : decode prog_10_method_2_code 52 = .ok (.ifCond .eq 16, 3) := by decide +kernel
theorem d_X8_read_55 : decode prog_10_method_2_code 55 = .ok (.aload_n 0, 1) := by decide +kernel
theorem d_X8_read_56 : decode prog_10_method_2_code 56 = .ok (.bipush 59, 2) := by decide +kernel
theorem d_X8_read_58 : decode prog_10_method_2_code 58 = .ok (.invokevirtual 42, 3) := by decide +kernel
theorem d_X8_read_61 : decode prog_10_method_2_code 61 = .ok (.ifCond .eq 7, 3) := by decide +kernel
theorem d_X8_read_64 : decode prog_10_method_2_code 64 = .ok (.iconst 1, 1) := by decide +kernel
theorem d_X8_read_65 : decode prog_10_method_2_code 65 = .ok (.goto 4, 3) := by decide +kernel
theorem d_X8_read_68 : decode prog_10_method_2_code 68 = .ok (.iconst 0, 1) := by decide +kernel
theorem d_X8_read_69 : decode prog_10_method_2_code 69 = .ok (.istore_n 3, 1) := by decide +kernel
theorem d_X8_read_70 : decode prog_10_method_2_code 70 = .ok (.iinc 4 1, 3) := by decide +kernel
theorem d_X8_read_73 : decode prog_10_method_2_code 73 = .ok (.goto (-42), 3) := by decide +kernel
theorem d_X8_read_76 : decode prog_10_method_2_code 76 = .ok (.iload_n 2, 1) := by decide +kernel
theorem d_X8_read_77 : decode prog_10_method_2_code 77 = .ok (.ifCond .eq 21, 3) := by decide +kernel
theorem d_X8_read_80 : decode prog_10_method_2_code 80 = .ok (.iload_n 3, 1) := by decide +kernel
theorem d_X8_read_81 : decode prog_10_method_2_code 81 = .ok (.ifCond .ne 17, 3) := by decide +kernel
theorem d_X8_read_84 : decode prog_10_method_2_code 84 = .ok (.aload_n 0, 1) := by decide +kernel
theorem d_X8_read_85 : decode prog_10_method_2_code 85 = .ok (.getfield 26, 3) := by decide +kernel
theorem d_X8_read_88 : decode prog_10_method_2_code 88 = .ok (.invokevirtual 46, 3) := by decide +kernel
theorem d_X8_read_91 : decode prog_10_method_2_code 91 = .ok (.ifCond .eq 7, 3) := by decide +kernel
theorem d_X8_read_94 : decode prog_10_method_2_code 94 = .ok (.iconst (-1), 1) := by decide +kernel
theorem d_X8_read_95 : decode prog_10_method_2_code 95 = .ok (.goto 10, 3) := by decide +kernel
theorem d_X8_read_98 : decode prog_10_method_2_code 98 = .ok (.aload_n 0, 1) := by decide +kernel
theorem d_X8_read_99 : decode prog_10_method_2_code 99 = .ok (.getfield 26, 3) := by decide +kernel
theorem d_X8_read_102 : decode prog_10_method_2_code 102 = .ok (.getfield 49, 3) := by decide +kernel
theorem d_X8_read_105 : decode prog_10_method_2_code 105 = .ok (.istore 4, 2) := by decide +kernel
theorem d_X8_read_107 : decode prog_10_method_2_code 107 = .ok (.aload_n 0, 1) := by decide +kernel
theorem d_X8_read_108 : decode prog_10_method_2_code 108 = .ok (.getfield 26, 3) := by decide +kernel
theorem d_X8_read_111 : decode prog_10_method_2_code 111 = .ok (.iconst 0, 1) := by decide +kernel
theorem d_X8_read_112 : decode prog_10_method_2_code 112 = .ok (.putfield 52, 3) := by decide +kernel
theorem d_X8_read_115 : decode prog_10_method_2_code 115 = .ok (.iload 4, 2) := by decide +kernel
theorem d_X8_read_117 : decode prog_10_method_2_code 117 = .ok (.ireturn, 1) := by decide +kernel
theorem d_X8_readClause_0 : decode prog_10_method_3_code 0 = .ok (.aload_n 0, 1) := by decide +kernel
theorem d_X8_readClause_1 : decode prog_10_method_3_code 1 = .ok (.getfield 26, 3) := by decide +kernel
theorem d_X8_readClause_4 : decode prog_10_method_3_code 4 = .ok (.aload_n 0, 1) := by decide +kernel
theorem d_X8_readClause_5 : decode prog_10_method_3_code 5 = .ok (.getfield 18, 3) := by decide +kernel
theorem d_X8_readClause_8 : decode prog_10_method_3_code 8 = .ok (.ifCond .eq 8, 3) := by decide +kernel
theorem d_X8_readClause_11 : decode prog_10_method_3_code 11 = .ok (.ldc 55, 2) := by decide +kernel
theorem d_X8_readClause_13 : decode prog_10_method_3_code 13 = .ok (.goto 5, 3) := by decide +kernel
theorem d_X8_readClause_16 : decode prog_10_method_3_code 16 = .ok (.ldc 57, 2) := by decide +kernel
theorem d_X8_readClause_18 : decode prog_10_method_3_code 18 = .ok (.invokevirtual 59, 3) := by decide +kernel
theorem d_X8_readClause_21 : decode prog_10_method_3_code 21 = .ok (.istore_n 1, 1) := by decide +kernel
theorem d_X8_readClause_22 : decode prog_10_method_3_code 22 = .ok (.iload_n 1, 1) := by decide +kernel
theorem d_X8_readClause_23 : decode prog_10_method_3_code 23 = .ok (.iconst (-1), 1) := by decide +kernel
theorem d_X8_readClause_24 : decode prog_10_method_3_code 24 = .ok (.if_icmp .ne 5, 3) := by decide +kernel
theorem d_X8_readClause_27 : decode prog_10_method_3_code 27 = .ok (.iconst 0, 1) := by decide +kernel
theorem d_X8_readClause_28 : decode prog_10_method_3_code 28 = .ok (.ireturn, 1) := by decide +kernel
theorem d_X8_readClause_29 : decode prog_10_method_3_code 29 = .ok (.aload_n 0, 1) := by decide +kernel
theorem d_X8_readClause_30 : decode prog_10_method_3_code 30 = .ok (.getfield 26, 3) := by decide +kernel
theorem d_X8_readClause_33 : decode prog_10_method_3_code 33 = .ok (.invokevirtual 63, 3) := by decide +kernel
theorem d_X8_readClause_36 : decode prog_10_method_3_code 36 = .ok (.aload_n 0, 1) := by decide +kernel
theorem d_X8_readClause_37 : decode prog_10_method_3_code 37 = .ok (.getfield 12, 3) := by decide +kernel
theorem d_X8_readClause_40 : decode prog_10_method_3_code 40 = .ok (.iload_n 1, 1) := by decide +kernel
theorem d_X8_readClause_41 : decode prog_10_method_3_code 41 = .ok (.invokevirtual 66, 3) := by decide +kernel
theorem d_X8_readClause_44 : decode prog_10_method_3_code 44 = .ok (.iload_n 1, 1) := by decide +kernel
theorem d_X8_readClause_45 : decode prog_10_method_3_code 45 = .ok (.iconst 3, 1) := by decide +kernel
theorem d_X8_readClause_46 : decode prog_10_method_3_code 46 = .ok (.if_icmp .eq 13, 3) := by decide +kernel
theorem d_X8_readClause_49 : decode prog_10_method_3_code 49 = .ok (.aload_n 0, 1) := by decide +kernel
theorem d_X8_readClause_50 : decode prog_10_method_3_code 50 = .ok (.iconst 0, 1) := by decide +kernel
theorem d_X8_readClause_51 : decode prog_10_method_3_code 51 = .ok (.invokevirtual 70, 3) := by decide +kernel
theorem d_X8_readClause_54 : decode prog_10_method_3_code 54 = .ok (.ifCond .ne 5, 3) := by decide +kernel
theorem d_X8_readClause_57 : decode prog_10_method_3_code 57 = .ok (.iconst 0, 1) := by decide +kernel
theorem d_X8_readClause_58 : decode prog_10_method_3_code 58 = .ok (.ireturn, 1) := by decide +kernel
theorem d_X8_readClause_59 : decode prog_10_method_3_code 59 = .ok (.aload_n 0, 1) := by decide +kernel
theorem d_X8_readClause_60 : decode prog_10_method_3_code 60 = .ok (.getfield 12, 3) := by decide +kernel
theorem d_X8_readClause_63 : decode prog_10_method_3_code 63 = .ok (.iconst 0, 1) := by decide +kernel
theorem d_X8_readClause_64 : decode prog_10_method_3_code 64 = .ok (.invokevirtual 73, 3) := by decide +kernel
theorem d_X8_readClause_67 : decode prog_10_method_3_code 67 = .ok (.aload_n 0, 1) := by decide +kernel
theorem d_X8_readClause_68 : decode prog_10_method_3_code 68 = .ok (.getfield 18, 3) := by decide +kernel
theorem d_X8_readClause_71 : decode prog_10_method_3_code 71 = .ok (.ifCond .eq 27, 3) := by decide +kernel
theorem d_X8_readClause_74 : decode prog_10_method_3_code 74 = .ok (.iload_n 1, 1) := by decide +kernel
theorem d_X8_readClause_75 : decode prog_10_method_3_code 75 = .ok (.iconst 2, 1) := by decide +kernel
theorem d_X8_readClause_76 : decode prog_10_method_3_code 76 = .ok (.if_icmp .ne 22, 3) := by decide +kernel
theorem d_X8_readClause_79 : decode prog_10_method_3_code 79 = .ok (.aload_n 0, 1) := by decide +kernel
theorem d_X8_readClause_80 : decode prog_10_method_3_code 80 = .ok (.ldc 76, 2) := by decide +kernel
theorem d_X8_readClause_82 : decode prog_10_method_3_code 82 = .ok (.invokevirtual 78, 3) := by decide +kernel
theorem d_X8_readClause_85 : decode prog_10_method_3_code 85 = .ok (.ifCond .eq 11, 3) := by decide +kernel
theorem d_X8_readClause_88 : decode prog_10_method_3_code 88 = .ok (.aload_n 0, 1) := by decide +kernel
theorem d_X8_readClause_89 : decode prog_10_method_3_code 89 = .ok (.iconst 0, 1) := by decide +kernel
theorem d_X8_readClause_90 : decode prog_10_method_3_code 90 = .ok (.invokevirtual 70, 3) := by decide +kernel
theorem d_X8_readClause_93 : decode prog_10_method_3_code 93 = .ok (.ifCond .ne 5, 3) := by decide +kernel
theorem d_X8_readClause_96 : decode prog_10_method_3_code 96 = .ok (.iconst 0, 1) := by decide +kernel
theorem d_X8_readClause_97 : decode prog_10_method_3_code 97 = .ok (.ireturn, 1) := by decide +kernel
theorem d_X8_readClause_98 : decode prog_10_method_3_code 98 = .ok (.aload_n 0, 1) := by decide +kernel
theorem d_X8_readClause_99 : decode prog_10_method_3_code 99 = .ok (.getfield 12, 3) := by decide +kernel
theorem d_X8_readClause_102 : decode prog_10_method_3_code 102 = .ok (.iconst 1, 1) := by decide +kernel
theorem d_X8_readClause_103 : decode prog_10_method_3_code 103 = .ok (.invokevirtual 73, 3) := by decide +kernel
theorem d_X8_readClause_106 : decode prog_10_method_3_code 106 = .ok (.aload_n 0, 1) := by decide +kernel
theorem d_X8_readClause_107 : decode prog_10_method_3_code 107 = .ok (.getfield 18, 3) := by decide +kernel
theorem d_X8_readClause_110 : decode prog_10_method_3_code 110 = .ok (.ifCond .eq 21, 3) := by decide +kernel
theorem d_X8_readClause_113 : decode prog_10_method_3_code 113 = .ok (.aload_n 0, 1) := by decide +kernel
theorem d_X8_readClause_114 : decode prog_10_method_3_code 114 = .ok (.ldc 82, 2) := by decide +kernel
theorem d_X8_readClause_116 : decode prog_10_method_3_code 116 = .ok (.invokevirtual 78, 3) := by decide +kernel
theorem d_X8_readClause_119 : decode prog_10_method_3_code 119 = .ok (.ifCond .eq 12, 3) := by decide +kernel
theorem d_X8_readClause_122 : decode prog_10_method_3_code 122 = .ok (.aload_n 0, 1) := by decide +kernel
theorem d_X8_readClause_123 : decode prog_10_method_3_code 123 = .ok (.invokevirtual 84, 3) := by decide +kernel
theorem d_X8_readClause_126 : decode prog_10_method_3_code 126 = .ok (.ifCond .ne 5, 3) := by decide +kernel
theorem d_X8_readClause_129 : decode prog_10_method_3_code 129 = .ok (.iconst 0, 1) := by decide +kernel
theorem d_X8_readClause_130 : decode prog_10_method_3_code 130 = .ok (.ireturn, 1) := by decide +kernel
theorem d_X8_readClause_131 : decode prog_10_method_3_code 131 = .ok (.aload_n 0, 1) := by decide +kernel
theorem d_X8_readClause_132 : decode prog_10_method_3_code 132 = .ok (.ldc 87, 2) := by decide +kernel
theorem d_X8_readClause_134 : decode prog_10_method_3_code 134 = .ok (.invokevirtual 78, 3) := by decide +kernel
theorem d_X8_readClause_137 : decode prog_10_method_3_code 137 = .ok (.ifCond .eq 13, 3) := by decide +kernel
theorem d_X8_readClause_140 : decode prog_10_method_3_code 140 = .ok (.aload_n 0, 1) := by decide +kernel
theorem d_X8_readClause_141 : decode prog_10_method_3_code 141 = .ok (.iconst 0, 1) := by decide +kernel
theorem d_X8_readClause_142 : decode prog_10_method_3_code 142 = .ok (.invokevirtual 89, 3) := by decide +kernel
theorem d_X8_readClause_145 : decode prog_10_method_3_code 145 = .ok (.ifCond .ne 5, 3) := by decide +kernel
theorem d_X8_readClause_148 : decode prog_10_method_3_code 148 = .ok (.iconst 0, 1) := by decide +kernel
theorem d_X8_readClause_149 : decode prog_10_method_3_code 149 = .ok (.ireturn, 1) := by decide +kernel
theorem d_X8_readClause_150 : decode prog_10_method_3_code 150 = .ok (.aload_n 0, 1) := by decide +kernel
theorem d_X8_readClause_151 : decode prog_10_method_3_code 151 = .ok (.getfield 12, 3) := by decide +kernel
theorem d_X8_readClause_154 : decode prog_10_method_3_code 154 = .ok (.iconst 2, 1) := by decide +kernel
theorem d_X8_readClause_155 : decode prog_10_method_3_code 155 = .ok (.invokevirtual 73, 3) := by decide +kernel
theorem d_X8_readClause_158 : decode prog_10_method_3_code 158 = .ok (.aload_n 0, 1) := by decide +kernel
theorem d_X8_readClause_159 : decode prog_10_method_3_code 159 = .ok (.getfield 12, 3) := by decide +kernel
theorem d_X8_readClause_162 : decode prog_10_method_3_code 162 = .ok (.dup, 1) := by decide +kernel
theorem d_X8_readClause_163 : decode prog_10_method_3_code 163 = .ok (.getfield 92, 3) := by decide +kernel
theorem d_X8_readClause_166 : decode prog_10_method_3_code 166 = .ok (.iconst 1, 1) := by decide +kernel
theorem d_X8_readClause_167 : decode prog_10_method_3_code 167 = .ok (.iadd, 1) := by decide +kernel
theorem d_X8_readClause_168 : decode prog_10_method_3_code 168 = .ok (.putfield 92, 3) := by decide +kernel
theorem d_X8_readClause_171 : decode prog_10_method_3_code 171 = .ok (.iconst 1, 1) := by decide +kernel
theorem d_X8_readClause_172 : decode prog_10_method_3_code 172 = .ok (.ireturn, 1) := by decide +kernel
theorem d_X8_readKeyword_0 : decode prog_10_method_4_code 0 = .ok (.aload_n 0, 1) := by decide +kernel
theorem d_X8_readKeyword_1 : decode prog_10_method_4_code 1 = .ok (.getfield 26, 3) := by decide +kernel
theorem d_X8_readKeyword_4 : decode prog_10_method_4_code 4 = .ok (.aload_n 1, 1) := by decide +kernel
theorem d_X8_readKeyword_5 : decode prog_10_method_4_code 5 = .ok (.invokevirtual 59, 3) := by decide +kernel
theorem d_X8_readKeyword_8 : decode prog_10_method_4_code 8 = .ok (.iconst (-1), 1) := by decide +kernel
theorem d_X8_readKeyword_9 : decode prog_10_method_4_code 9 = .ok (.if_icmp .ne 5, 3) := by decide +kernel
theorem d_X8_readKeyword_12 : decode prog_10_method_4_code 12 = .ok (.iconst 0, 1) := by decide +kernel
theorem d_X8_readKeyword_13 : decode prog_10_method_4_code 13 = .ok (.ireturn, 1) := by decide +kernel
theorem d_X8_readKeyword_14 : decode prog_10_method_4_code 14 = .ok (.aload_n 0, 1) := by decide +kernel
theorem d_X8_readKeyword_15 : decode prog_10_method_4_code 15 = .ok (.getfield 26, 3) := by decide +kernel
theorem d_X8_readKeyword_18 : decode prog_10_method_4_code 18 = .ok (.invokevirtual 63, 3) := by decide +kernel
theorem d_X8_readKeyword_21 : decode prog_10_method_4_code 21 = .ok (.iconst 1, 1) := by decide +kernel
theorem d_X8_readKeyword_22 : decode prog_10_method_4_code 22 = .ok (.ireturn, 1) := by decide +kernel
theorem d_X8_readSign_0 : decode prog_10_method_5_code 0 = .ok (.aload_n 0, 1) := by decide +kernel
theorem d_X8_readSign_1 : decode prog_10_method_5_code 1 = .ok (.getfield 26, 3) := by decide +kernel
theorem d_X8_readSign_4 : decode prog_10_method_5_code 4 = .ok (.iload_n 1, 1) := by decide +kernel
theorem d_X8_readSign_5 : decode prog_10_method_5_code 5 = .ok (.invokevirtual 95, 3) := by decide +kernel
theorem d_X8_readSign_8 : decode prog_10_method_5_code 8 = .ok (.ifCond .ne 5, 3) := by decide +kernel
theorem d_X8_readSign_11 : decode prog_10_method_5_code 11 = .ok (.iconst 0, 1) := by decide +kernel
theorem d_X8_readSign_12 : decode prog_10_method_5_code 12 = .ok (.ireturn, 1) := by decide +kernel
theorem d_X8_readSign_13 : decode prog_10_method_5_code 13 = .ok (.aload_n 0, 1) := by decide +kernel
theorem d_X8_readSign_14 : decode prog_10_method_5_code 14 = .ok (.getfield 26, 3) := by decide +kernel
theorem d_X8_readSign_17 : decode prog_10_method_5_code 17 = .ok (.invokevirtual 63, 3) := by decide +kernel
theorem d_X8_readSign_20 : decode prog_10_method_5_code 20 = .ok (.iconst 1, 1) := by decide +kernel
theorem d_X8_readSign_21 : decode prog_10_method_5_code 21 = .ok (.ireturn, 1) := by decide +kernel
theorem d_X8_readTimes_0 : decode prog_10_method_6_code 0 = .ok (.aload_n 0, 1) := by decide +kernel
theorem d_X8_readTimes_1 : decode prog_10_method_6_code 1 = .ok (.getfield 26, 3) := by decide +kernel
theorem d_X8_readTimes_4 : decode prog_10_method_6_code 4 = .ok (.invokevirtual 98, 3) := by decide +kernel
theorem d_X8_readTimes_7 : decode prog_10_method_6_code 7 = .ok (.istore_n 1, 1) := by decide +kernel
theorem d_X8_readTimes_8 : decode prog_10_method_6_code 8 = .ok (.iload_n 1, 1) := by decide +kernel
theorem d_X8_readTimes_9 : decode prog_10_method_6_code 9 = .ok (.iconst 1, 1) := by decide +kernel
theorem d_X8_readTimes_10 : decode prog_10_method_6_code 10 = .ok (.bipush 20, 2) := by decide +kernel
theorem d_X8_readTimes_12 : decode prog_10_method_6_code 12 = .ok (.invokestatic 102, 3) := by decide +kernel
theorem d_X8_readTimes_15 : decode prog_10_method_6_code 15 = .ok (.ifCond .eq 19, 3) := by decide +kernel
theorem d_X8_readTimes_18 : decode prog_10_method_6_code 18 = .ok (.aload_n 0, 1) := by decide +kernel
theorem d_X8_readTimes_19 : decode prog_10_method_6_code 19 = .ok (.getfield 12, 3) := by decide +kernel
theorem d_X8_readTimes_22 : decode prog_10_method_6_code 22 = .ok (.getfield 92, 3) := by decide +kernel
theorem d_X8_readTimes_25 : decode prog_10_method_6_code 25 = .ok (.iconst 0, 1) := by decide +kernel
theorem d_X8_readTimes_26 : decode prog_10_method_6_code 26 = .ok (.bipush 11, 2) := by decide +kernel
theorem d_X8_readTimes_28 : decode prog_10_method_6_code 28 = .ok (.invokestatic 102, 3) := by decide +kernel
theorem d_X8_readTimes_31 : decode prog_10_method_6_code 31 = .ok (.ifCond .ne 5, 3) := by decide +kernel
theorem d_X8_readTimes_34 : decode prog_10_method_6_code 34 = .ok (.iconst 0, 1) := by decide +kernel
theorem d_X8_readTimes_35 : decode prog_10_method_6_code 35 = .ok (.ireturn, 1) := by decide +kernel
theorem d_X8_readTimes_36 : decode prog_10_method_6_code 36 = .ok (.aload_n 0, 1) := by decide +kernel
theorem d_X8_readTimes_37 : decode prog_10_method_6_code 37 = .ok (.getfield 12, 3) := by decide +kernel
theorem d_X8_readTimes_40 : decode prog_10_method_6_code 40 = .ok (.getfield 106, 3) := by decide +kernel
theorem d_X8_readTimes_43 : decode prog_10_method_6_code 43 = .ok (.aload_n 0, 1) := by decide +kernel
theorem d_X8_readTimes_44 : decode prog_10_method_6_code 44 = .ok (.getfield 12, 3) := by decide +kernel
theorem d_X8_readTimes_47 : decode prog_10_method_6_code 47 = .ok (.getfield 92, 3) := by decide +kernel
theorem d_X8_readTimes_50 : decode prog_10_method_6_code 50 = .ok (.iload_n 1, 1) := by decide +kernel
theorem d_X8_readTimes_51 : decode prog_10_method_6_code 51 = .ok (.iastore, 1) := by decide +kernel
theorem d_X8_readTimes_52 : decode prog_10_method_6_code 52 = .ok (.aload_n 0, 1) := by decide +kernel
theorem d_X8_readTimes_53 : decode prog_10_method_6_code 53 = .ok (.getfield 26, 3) := by decide +kernel
theorem d_X8_readTimes_56 : decode prog_10_method_6_code 56 = .ok (.invokevirtual 63, 3) := by decide +kernel
theorem d_X8_readTimes_59 : decode prog_10_method_6_code 59 = .ok (.iconst 1, 1) := by decide +kernel
theorem d_X8_readTimes_60 : decode prog_10_method_6_code 60 = .ok (.ireturn, 1) := by decide +kernel
theorem d_X8_readTest_0 : decode prog_10_method_7_code 0 = .ok (.aload_n 0, 1) := by decide +kernel
theorem d_X8_readTest_1 : decode prog_10_method_7_code 1 = .ok (.iload_n 1, 1) := by decide +kernel
theorem d_X8_readTest_2 : decode prog_10_method_7_code 2 = .ok (.invokevirtual 109, 3) := by decide +kernel
theorem d_X8_readTest_5 : decode prog_10_method_7_code 5 = .ok (.istore_n 2, 1) := by decide +kernel
theorem d_X8_readTest_6 : decode prog_10_method_7_code 6 = .ok (.iconst 0, 1) := by decide +kernel
theorem d_X8_readTest_7 : decode prog_10_method_7_code 7 = .ok (.istore_n 3, 1) := by decide +kernel
theorem d_X8_readTest_8 : decode prog_10_method_7_code 8 = .ok (.iload_n 3, 1) := by decide +kernel
theorem d_X8_readTest_9 : decode prog_10_method_7_code 9 = .ok (.sipush 400, 3) := by decide +kernel
theorem d_X8_readTest_12 : decode prog_10_method_7_code 12 = .ok (.if_icmp .ge 48, 3) := by decide +kernel
theorem d_X8_readTest_15 : decode prog_10_method_7_code 15 = .ok (.iload_n 2, 1) := by decide +kernel
theorem d_X8_readTest_16 : decode prog_10_method_7_code 16 = .ok (.ifCond .eq 44, 3) := by decide +kernel
theorem d_X8_readTest_19 : decode prog_10_method_7_code 19 = .ok (.aload_n 0, 1) := by decide +kernel
theorem d_X8_readTest_20 : decode prog_10_method_7_code 20 = .ok (.ldc 112, 2) := by decide +kernel
theorem d_X8_readTest_22 : decode prog_10_method_7_code 22 = .ok (.invokevirtual 78, 3) := by decide +kernel
theorem d_X8_readTest_25 : decode prog_10_method_7_code 25 = .ok (.ifCond .eq 35, 3) := by decide +kernel
theorem d_X8_readTest_28 : decode prog_10_method_7_code 28 = .ok (.aload_n 0, 1) := by decide +kernel
theorem d_X8_readTest_29 : decode prog_10_method_7_code 29 = .ok (.getfield 12, 3) := by decide +kernel
theorem d_X8_readTest_32 : decode prog_10_method_7_code 32 = .ok (.iconst 3, 1) := by decide +kernel
theorem d_X8_readTest_33 : decode prog_10_method_7_code 33 = .ok (.iconst 0, 1) := by decide +kernel
theorem d_X8_readTest_34 : decode prog_10_method_7_code 34 = .ok (.invokevirtual 114, 3) := by decide +kernel
theorem d_X8_readTest_37 : decode prog_10_method_7_code 37 = .ok (.istore 4, 2) := by decide +kernel
theorem d_X8_readTest_39 : decode prog_10_method_7_code 39 = .ok (.aload_n 0, 1) := by decide +kernel
theorem d_X8_readTest_40 : decode prog_10_method_7_code 40 = .ok (.iload_n 1, 1) := by decide +kernel
theorem d_X8_readTest_41 : decode prog_10_method_7_code 41 = .ok (.invokevirtual 109, 3) := by decide +kernel
theorem d_X8_readTest_44 : decode prog_10_method_7_code 44 = .ok (.istore_n 2, 1) := by decide +kernel
theorem d_X8_readTest_45 : decode prog_10_method_7_code 45 = .ok (.aload_n 0, 1) := by decide +kernel
theorem d_X8_readTest_46 : decode prog_10_method_7_code 46 = .ok (.getfield 12, 3) := by decide +kernel
theorem d_X8_readTest_49 : decode prog_10_method_7_code 49 = .ok (.iload 4, 2) := by decide +kernel
theorem d_X8_readTest_51 : decode prog_10_method_7_code 51 = .ok (.invokevirtual 118, 3) := by decide +kernel
theorem d_X8_readTest_54 : decode prog_10_method_7_code 54 = .ok (.iinc 3 1, 3) := by decide +kernel
theorem d_X8_readTest_57 : decode prog_10_method_7_code 57 = .ok (.goto (-49), 3) := by decide +kernel
theorem d_X8_readTest_60 : decode prog_10_method_7_code 60 = .ok (.iload_n 2, 1) := by decide +kernel
theorem d_X8_readTest_61 : decode prog_10_method_7_code 61 = .ok (.ireturn, 1) := by decide +kernel
theorem d_X8_readBoth_0 : decode prog_10_method_8_code 0 = .ok (.aload_n 0, 1) := by decide +kernel
theorem d_X8_readBoth_1 : decode prog_10_method_8_code 1 = .ok (.iload_n 1, 1) := by decide +kernel
theorem d_X8_readBoth_2 : decode prog_10_method_8_code 2 = .ok (.invokevirtual 121, 3) := by decide +kernel
theorem d_X8_readBoth_5 : decode prog_10_method_8_code 5 = .ok (.istore_n 2, 1) := by decide +kernel
theorem d_X8_readBoth_6 : decode prog_10_method_8_code 6 = .ok (.iconst 0, 1) := by decide +kernel
theorem d_X8_readBoth_7 : decode prog_10_method_8_code 7 = .ok (.istore_n 3, 1) := by decide +kernel
theorem d_X8_readBoth_8 : decode prog_10_method_8_code 8 = .ok (.iload_n 3, 1) := by decide +kernel
theorem d_X8_readBoth_9 : decode prog_10_method_8_code 9 = .ok (.sipush 400, 3) := by decide +kernel
theorem d_X8_readBoth_12 : decode prog_10_method_8_code 12 = .ok (.if_icmp .ge 48, 3) := by decide +kernel
theorem d_X8_readBoth_15 : decode prog_10_method_8_code 15 = .ok (.iload_n 2, 1) := by decide +kernel
theorem d_X8_readBoth_16 : decode prog_10_method_8_code 16 = .ok (.ifCond .eq 44, 3) := by decide +kernel
theorem d_X8_readBoth_19 : decode prog_10_method_8_code 19 = .ok (.aload_n 0, 1) := by decide +kernel
theorem d_X8_readBoth_20 : decode prog_10_method_8_code 20 = .ok (.ldc 124, 2) := by decide +kernel
theorem d_X8_readBoth_22 : decode prog_10_method_8_code 22 = .ok (.invokevirtual 78, 3) := by decide +kernel
theorem d_X8_readBoth_25 : decode prog_10_method_8_code 25 = .ok (.ifCond .eq 35, 3) := by decide +kernel
theorem d_X8_readBoth_28 : decode prog_10_method_8_code 28 = .ok (.aload_n 0, 1) := by decide +kernel
theorem d_X8_readBoth_29 : decode prog_10_method_8_code 29 = .ok (.getfield 12, 3) := by decide +kernel
theorem d_X8_readBoth_32 : decode prog_10_method_8_code 32 = .ok (.iconst 4, 1) := by decide +kernel
theorem d_X8_readBoth_33 : decode prog_10_method_8_code 33 = .ok (.iconst 0, 1) := by decide +kernel
theorem d_X8_readBoth_34 : decode prog_10_method_8_code 34 = .ok (.invokevirtual 114, 3) := by decide +kernel
theorem d_X8_readBoth_37 : decode prog_10_method_8_code 37 = .ok (.istore 4, 2) := by decide +kernel
theorem d_X8_readBoth_39 : decode prog_10_method_8_code 39 = .ok (.aload_n 0, 1) := by decide +kernel
theorem d_X8_readBoth_40 : decode prog_10_method_8_code 40 = .ok (.iload_n 1, 1) := by decide +kernel
theorem d_X8_readBoth_41 : decode prog_10_method_8_code 41 = .ok (.invokevirtual 121, 3) := by decide +kernel
theorem d_X8_readBoth_44 : decode prog_10_method_8_code 44 = .ok (.istore_n 2, 1) := by decide +kernel
theorem d_X8_readBoth_45 : decode prog_10_method_8_code 45 = .ok (.aload_n 0, 1) := by decide +kernel
theorem d_X8_readBoth_46 : decode prog_10_method_8_code 46 = .ok (.getfield 12, 3) := by decide +kernel
theorem d_X8_readBoth_49 : decode prog_10_method_8_code 49 = .ok (.iload 4, 2) := by decide +kernel
theorem d_X8_readBoth_51 : decode prog_10_method_8_code 51 = .ok (.invokevirtual 118, 3) := by decide +kernel
theorem d_X8_readBoth_54 : decode prog_10_method_8_code 54 = .ok (.iinc 3 1, 3) := by decide +kernel
theorem d_X8_readBoth_57 : decode prog_10_method_8_code 57 = .ok (.goto (-49), 3) := by decide +kernel
theorem d_X8_readBoth_60 : decode prog_10_method_8_code 60 = .ok (.iload_n 2, 1) := by decide +kernel
theorem d_X8_readBoth_61 : decode prog_10_method_8_code 61 = .ok (.ireturn, 1) := by decide +kernel
