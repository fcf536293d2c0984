theorem d_X0_init_0 : decode prog_2_method_1_code 0 = .ok (.aload_n 0, 1) := by decide +kernel
theorem d_X0_init_1 : decode prog_2_method_1_code 1 = .ok (.invokespecial 3, 3) := by decide +kernel
theorem d_X0_init_4 : decode prog_2_method_1_code 4 = .ok (.aload_n 0, 1) := by decide +kernel
theorem d_X0_init_5 : decode prog_2_method_1_code 5 = .ok (.iconst 0, 1) := by decide +kernel
theorem d_X0_init_6 : decode prog_2_method_1_code 6 = .ok (.putfield 9, 3) := by decide +kernel
theorem d_X0_init_9 : decode prog_2_method_1_code 9 = .ok (.aload_n 0, 1) := by decide +kernel
theorem d_X0_init_10 : decode prog_2_method_1_code 10 = .ok (.bipush 56, 2) := by decide +kernel
theorem d_X0_init_12 : decode prog_2_method_1_code 12 = .ok (.newarray .int, 2) := by decide +kernel
theorem d_X0_init_14 : decode prog_2_method_1_code 14 = .ok (.putfield 15, 3) := by decide +kernel
theorem d_X0_init_17 : decode prog_2_method_1_code 17 = .ok (.aload_n 0, 1) := by decide +kernel
theorem d_X0_init_18 : decode prog_2_method_1_code 18 = .ok (.iconst 0, 1) := by decide +kernel
theorem d_X0_init_19 : decode prog_2_method_1_code 19 = .ok (.putfield 19, 3) := by decide +kernel
theorem d_X0_init_22 : decode prog_2_method_1_code 22 = .ok (.aload_n 0, 1) := by decide +kernel
theorem d_X0_init_23 : decode prog_2_method_1_code 23 = .ok (.bipush 40, 2) := by decide +kernel
theorem d_X0_init_25 : decode prog_2_method_1_code 25 = .ok (.newarray .int, 2) := by decide +kernel
theorem d_X0_init_27 : decode prog_2_method_1_code 27 = .ok (.putfield 22, 3) := by decide +kernel
theorem d_X0_init_30 : decode prog_2_method_1_code 30 = .ok (.aload_n 0, 1) := by decide +kernel
theorem d_X0_init_31 : decode prog_2_method_1_code 31 = .ok (.iconst 0, 1) := by decide +kernel
theorem d_X0_init_32 : decode prog_2_method_1_code 32 = .ok (.putfield 25, 3) := by decide +kernel
theorem d_X0_init_35 : decode prog_2_method_1_code 35 = .ok (.aload_n 0, 1) := by decide +kernel
theorem d_X0_init_36 : decode prog_2_method_1_code 36 = .ok (.bipush 12, 2) := by decide +kernel
theorem d_X0_init_38 : decode prog_2_method_1_code 38 = .ok (.newarray .int, 2) := by decide +kernel
theorem d_X0_init_40 : decode prog_2_method_1_code 40 = .ok (.putfield 28, 3) := by decide +kernel
theorem d_X0_init_43 : decode prog_2_method_1_code 43 = .ok (.aload_n 0, 1) := by decide +kernel
theorem d_X0_init_44 : decode prog_2_method_1_code 44 = .ok (.iconst 3, 1) := by decide +kernel
theorem d_X0_init_45 : decode prog_2_method_1_code 45 = .ok (.newarray .int, 2) := by decide +kernel
theorem d_X0_init_47 : decode prog_2_method_1_code 47 = .ok (.dup, 1) := by decide +kernel
theorem d_X0_init_48 : decode prog_2_method_1_code 48 = .ok (.iconst 0, 1) := by decide +kernel
theorem d_X0_init_49 : decode prog_2_method_1_code 49 = .ok (.iconst 0, 1) := by decide +kernel
theorem d_X0_init_50 : decode prog_2_method_1_code 50 = .ok (.iastore, 1) := by decide +kernel
theorem d_X0_init_51 : decode prog_2_method_1_code 51 = .ok (.dup, 1) := by decide +kernel
theorem d_X0_init_52 : decode prog_2_method_1_code 52 = .ok (.iconst 1, 1) := by decide +kernel
theorem d_X0_init_53 : decode prog_2_method_1_code 53 = .ok (.iconst 3, 1) := by decide +kernel
theorem d_X0_init_54 : decode prog_2_method_1_code 54 = .ok (.iastore, 1) := by decide +kernel
theorem d_X0_init_55 : decode prog_2_method_1_code 55 = .ok (.dup, 1) := by decide +kernel
theorem d_X0_init_56 : decode prog_2_method_1_code 56 = .ok (.iconst 2, 1) := by decide +kernel
theorem d_X0_init_57 : decode prog_2_method_1_code 57 = .ok (.iconst 0, 1) := by decide +kernel
theorem d_X0_init_58 : decode prog_2_method_1_code 58 = .ok (.iastore, 1) := by decide +kernel
theorem d_X0_init_59 : decode prog_2_method_1_code 59 = .ok (.putfield 31, 3) := by decide +kernel
theorem d_X0_init_62 : decode prog_2_method_1_code 62 = .ok (.aload_n 0, 1) := by decide +kernel
theorem d_X0_init_63 : decode prog_2_method_1_code 63 = .ok (.iconst 0, 1) := by decide +kernel
theorem d_X0_init_64 : decode prog_2_method_1_code 64 = .ok (.putfield 34, 3) := by decide +kernel
theorem d_X0_init_67 : decode prog_2_method_1_code 67 = .ok (.aload_n 0, 1) := by decide +kernel
theorem d_X0_init_68 : decode prog_2_method_1_code 68 = .ok (.bipush 6, 2) := by decide +kernel
theorem d_X0_init_70 : decode prog_2_method_1_code 70 = .ok (.anewarray 37, 3) := by decide +kernel
theorem d_X0_init_73 : decode prog_2_method_1_code 73 = .ok (.putfield 39, 3) := by decide +kernel
theorem d_X0_init_76 : decode prog_2_method_1_code 76 = .ok (.aload_n 0, 1) := by decide +kernel
theorem d_X0_init_77 : decode prog_2_method_1_code 77 = .ok (.iconst (-1), 1) := by decide +kernel
theorem d_X0_init_78 : decode prog_2_method_1_code 78 = .ok (.putfield 43, 3) := by decide +kernel
theorem d_X0_init_81 : decode prog_2_method_1_code 81 = .ok (.return_, 1) := by decide +kernel
theorem d_X0_copyFrom_0 : decode prog_2_method_2_code 0 = .ok (.aload_n 0, 1) := by decide +kernel
theorem d_X0_copyFrom_1 : decode prog_2_method_2_code 1 = .ok (.aload_n 1, 1) := by decide +kernel
theorem d_X0_copyFrom_2 : decode prog_2_method_2_code 2 = .ok (.getfield 9, 3) := by decide +kernel
theorem d_X0_copyFrom_5 : decode prog_2_method_2_code 5 = .ok (.putfield 9, 3) := by decide +kernel
theorem d_X0_copyFrom_8 : decode prog_2_method_2_code 8 = .ok (.aload_n 1, 1) := by decide +kernel
theorem d_X0_copyFrom_9 : decode prog_2_method_2_code 9 = .ok (.getfield 15, 3) := by decide +kernel
theorem d_X0_copyFrom_12 : decode prog_2_method_2_code 12 = .ok (.iconst 0, 1) := by decide +kernel
theorem d_X0_copyFrom_13 : decode prog_2_method_2_code 13 = .ok (.aload_n 0, 1) := by decide +kernel
theorem d_X0_copyFrom_14 : decode prog_2_method_2_code 14 = .ok (.getfield 15, 3) := by decide +kernel
theorem d_X0_copyFrom_17 : decode prog_2_method_2_code 17 = .ok (.iconst 0, 1) := by decide +kernel
theorem d_X0_copyFrom_18 : decode prog_2_method_2_code 18 = .ok (.bipush 56, 2) := by decide +kernel
theorem d_X0_copyFrom_20 : decode prog_2_method_2_code 20 = .ok (.invokestatic 46, 3) := by decide +kernel
theorem d_X0_copyFrom_23 : decode prog_2_method_2_code 23 = .ok (.aload_n 0, 1) := by decide +kernel
theorem d_X0_copyFrom_24 : decode prog_2_method_2_code 24 = .ok (.aload_n 1, 1) := by decide +kernel
theorem d_X0_copyFrom_25 : decode prog_2_method_2_code 25 = .ok (.getfield 19, 3) := by decide +kernel
theorem d_X0_copyFrom_28 : decode prog_2_method_2_code 28 = .ok (.putfield 19, 3) := by decide +kernel
theorem d_X0_copyFrom_31 : decode prog_2_method_2_code 31 = .ok (.aload_n 1, 1) := by decide +kernel
theorem d_X0_copyFrom_32 : decode prog_2_method_2_code 32 = .ok (.getfield 22, 3) := by decide +kernel
theorem d_X0_copyFrom_35 : decode prog_2_method_2_code 35 = .ok (.iconst 0, 1) := by decide +kernel
theorem d_X0_copyFrom_36 : decode prog_2_method_2_code 36 = .ok (.aload_n 0, 1) := by decide +kernel
theorem d_X0_copyFrom_37 : decode prog_2_method_2_code 37 = .ok (.getfield 22, 3) := by decide +kernel
theorem d_X0_copyFrom_40 : decode prog_2_method_2_code 40 = .ok (.iconst 0, 1) := by decide +kernel
theorem d_X0_copyFrom_41 : decode prog_2_method_2_code 41 = .ok (.bipush 40, 2) := by decide +kernel
theorem d_X0_copyFrom_43 : decode prog_2_method_2_code 43 = .ok (.invokestatic 46, 3) := by decide +kernel
theorem d_X0_copyFrom_46 : decode prog_2_method_2_code 46 = .ok (.aload_n 0, 1) := by decide +kernel
theorem d_X0_copyFrom_47 : decode prog_2_method_2_code 47 = .ok (.aload_n 1, 1) := by decide +kernel
theorem d_X0_copyFrom_48 : decode prog_2_method_2_code 48 = .ok (.getfield 25, 3) := by decide +kernel
theorem d_X0_copyFrom_51 : decode prog_2_method_2_code 51 = .ok (.putfield 25, 3) := by decide +kernel
theorem d_X0_copyFrom_54 : decode prog_2_method_2_code 54 = .ok (.aload_n 1, 1) := by decide +kernel
theorem d_X0_copyFrom_55 : decode prog_2_method_2_code 55 = .ok (.getfield 28, 3) := by decide +kernel
theorem d_X0_copyFrom_58 : decode prog_2_method_2_code 58 = .ok (.iconst 0, 1) := by decide +kernel
theorem d_X0_copyFrom_59 : decode prog_2_method_2_code 59 = .ok (.aload_n 0, 1) := by decide +kernel
theorem d_X0_copyFrom_60 : decode prog_2_method_2_code 60 = .ok (.getfield 28, 3) := by decide +kernel
theorem d_X0_copyFrom_63 : decode prog_2_method_2_code 63 = .ok (.iconst 0, 1) := by decide +kernel
theorem d_X0_copyFrom_64 : decode prog_2_method_2_code 64 = .ok (.bipush 12, 2) := by decide +kernel
theorem d_X0_copyFrom_66 : decode prog_2_method_2_code 66 = .ok (.invokestatic 46, 3) := by decide +kernel
theorem d_X0_copyFrom_69 : decode prog_2_method_2_code 69 = .ok (.aload_n 1, 1) := by decide +kernel
theorem d_X0_copyFrom_70 : decode prog_2_method_2_code 70 = .ok (.getfield 31, 3) := by decide +kernel
theorem d_X0_copyFrom_73 : decode prog_2_method_2_code 73 = .ok (.iconst 0, 1) := by decide +kernel
theorem d_X0_copyFrom_74 : decode prog_2_method_2_code 74 = .ok (.aload_n 0, 1) := by decide +kernel
theorem d_X0_copyFrom_75 : decode prog_2_method_2_code 75 = .ok (.getfield 31, 3) := by decide +kernel
theorem d_X0_copyFrom_78 : decode prog_2_method_2_code 78 = .ok (.iconst 0, 1) := by decide +kernel
theorem d_X0_copyFrom_79 : decode prog_2_method_2_code 79 = .ok (.iconst 3, 1) := by decide +kernel
theorem d_X0_copyFrom_80 : decode prog_2_method_2_code 80 = .ok (.invokestatic 46, 3) := by decide +kernel
theorem d_X0_copyFrom_83 : decode prog_2_method_2_code 83 = .ok (.aload_n 0, 1) := by decide +kernel
theorem d_X0_copyFrom_84 : decode prog_2_method_2_code 84 = .ok (.aload_n 1, 1) := by decide +kernel
theorem d_X0_copyFrom_85 : decode prog_2_method_2_code 85 = .ok (.getfield 34, 3) := by decide +kernel
theorem d_X0_copyFrom_88 : decode prog_2_method_2_code 88 = .ok (.putfield 34, 3) := by decide +kernel
theorem d_X0_copyFrom_91 : decode prog_2_method_2_code 91 = .ok (.iconst 0, 1) := by decide +kernel
theorem d_X0_copyFrom_92 : decode prog_2_method_2_code 92 = .ok (.istore_n 2, 1) := by decide +kernel
theorem d_X0_copyFrom_93 : decode prog_2_method_2_code 93 = .ok (.iload_n 2, 1) := by decide +kernel
theorem d_X0_copyFrom_94 : decode prog_2_method_2_code 94 = .ok (.bipush 6, 2) := by decide +kernel
theorem d_X0_copyFrom_96 : decode prog_2_method_2_code 96 = .ok (.if_icmp .ge 21, 3) := by decide +kernel
theorem d_X0_copyFrom_99 : decode prog_2_method_2_code 99 = .ok (.aload_n 0, 1) := by decide +kernel
theorem d_X0_copyFrom_100 : decode prog_2_method_2_code 100 = .ok (.getfield 39, 3) := by decide +kernel
theorem d_X0_copyFrom_103 : decode prog_2_method_2_code 103 = .ok (.iload_n 2, 1) := by decide +kernel
theorem d_X0_copyFrom_104 : decode prog_2_method_2_code 104 = .ok (.aload_n 1, 1) := by decide +kernel
theorem d_X0_copyFrom_105 : decode prog_2_method_2_code 105 = .ok (.getfield 39, 3) := by decide +kernel
theorem d_X0_copyFrom_108 : decode prog_2_method_2_code 108 = .ok (.iload_n 2, 1) := by decide +kernel
theorem d_X0_copyFrom_109 : decode prog_2_method_2_code 109 = .ok (.aaload, 1) := by decide +kernel
theorem d_X0_copyFrom_110 : decode prog_2_method_2_code 110 = .ok (.aastore, 1) := by decide +kernel
theorem d_X0_copyFrom_111 : decode prog_2_method_2_code 111 = .ok (.iinc 2 1, 3) := by decide +kernel
theorem d_X0_copyFrom_114 : decode prog_2_method_2_code 114 = .ok (.goto (-21), 3) := by decide +kernel
theorem d_X0_copyFrom_117 : decode prog_2_method_2_code 117 = .ok (.aload_n 0, 1) := by decide +kernel
theorem d_X0_copyFrom_118 : decode prog_2_method_2_code 118 = .ok (.aload_n 1, 1) := by decide +kernel
theorem d_X0_copyFrom_119 : decode prog_2_method_2_code 119 = .ok (.getfield 43, 3) := by decide +kernel
theorem d_X0_copyFrom_122 : decode prog_2_method_2_code 122 = .ok (.putfield 43, 3) := by decide +kernel
theorem d_X0_copyFrom_125 : decode prog_2_method_2_code 125 = .ok (.return_, 1) := by decide +kernel
theorem d_X0_has_0 : decode prog_2_method_3_code 0 = .ok (.iload_n 1, 1) := by decide +kernel
theorem d_X0_has_1 : decode prog_2_method_3_code 1 = .ok (.iconst 0, 1) := by decide +kernel
theorem d_X0_has_2 : decode prog_2_method_3_code 2 = .ok (.aload_n 0, 1) := by decide +kernel
theorem d_X0_has_3 : decode prog_2_method_3_code 3 = .ok (.getfield 9, 3) := by decide +kernel
theorem d_X0_has_6 : decode prog_2_method_3_code 6 = .ok (.iconst 1, 1) := by decide +kernel
theorem d_X0_has_7 : decode prog_2_method_3_code 7 = .ok (.isub, 1) := by decide +kernel
theorem d_X0_has_8 : decode prog_2_method_3_code 8 = .ok (.invokestatic 52, 3) := by decide +kernel
theorem d_X0_has_11 : decode prog_2_method_3_code 11 = .ok (.ireturn, 1) := by decide +kernel
theorem d_X0_add_0 : decode prog_2_method_4_code 0 = .ok (.aload_n 0, 1) := by decide +kernel
theorem d_X0_add_1 : decode prog_2_method_4_code 1 = .ok (.bipush 8, 2) := by decide +kernel
theorem d_X0_add_3 : decode prog_2_method_4_code 3 = .ok (.aload_n 0, 1) := by decide +kernel
theorem d_X0_add_4 : decode prog_2_method_4_code 4 = .ok (.getfield 9, 3) := by decide +kernel
theorem d_X0_add_7 : decode prog_2_method_4_code 7 = .ok (.iconst 1, 1) := by decide +kernel
theorem d_X0_add_8 : decode prog_2_method_4_code 8 = .ok (.iadd, 1) := by decide +kernel
theorem d_X0_add_9 : decode prog_2_method_4_code 9 = .ok (.invokestatic 56, 3) := by decide +kernel
theorem d_X0_add_12 : decode prog_2_method_4_code 12 = .ok (.putfield 9, 3) := by decide +kernel
theorem d_X0_add_15 : decode prog_2_method_4_code 15 = .ok (.aload_n 0, 1) := by decide +kernel
theorem d_X0_add_16 : decode prog_2_method_4_code 16 = .ok (.getfield 9, 3) := by decide +kernel
theorem d_X0_add_19 : decode prog_2_method_4_code 19 = .ok (.iconst 1, 1) := by decide +kernel
theorem d_X0_add_20 : decode prog_2_method_4_code 20 = .ok (.isub, 1) := by decide +kernel
theorem d_X0_add_21 : decode prog_2_method_4_code 21 = .ok (.istore 6, 2) := by decide +kernel
theorem d_X0_add_23 : decode prog_2_method_4_code 23 = .ok (.aload_n 0, 1) := by decide +kernel
theorem d_X0_add_24 : decode prog_2_method_4_code 24 = .ok (.iload 6, 2) := by decide +kernel
theorem d_X0_add_26 : decode prog_2_method_4_code 26 = .ok (.iconst 0, 1) := by decide +kernel
theorem d_X0_add_27 : decode prog_2_method_4_code 27 = .ok (.iload_n 1, 1) := by decide +kernel
theorem d_X0_add_28 : decode prog_2_method_4_code 28 = .ok (.invokevirtual 62, 3) := by decide +kernel
theorem d_X0_add_31 : decode prog_2_method_4_code 31 = .ok (.aload_n 0, 1) := by decide +kernel
theorem d_X0_add_32 : decode prog_2_method_4_code 32 = .ok (.iload 6, 2) := by decide +kernel
theorem d_X0_add_34 : decode prog_2_method_4_code 34 = .ok (.iconst 1, 1) := by decide +kernel
theorem d_X0_add_35 : decode prog_2_method_4_code 35 = .ok (.iload_n 2, 1) := by decide +kernel
theorem d_X0_add_36 : decode prog_2_method_4_code 36 = .ok (.invokevirtual 62, 3) := by decide +kernel
theorem d_X0_add_39 : decode prog_2_method_4_code 39 = .ok (.aload_n 0, 1) := by decide +kernel
theorem d_X0_add_40 : decode prog_2_method_4_code 40 = .ok (.iload 6, 2) := by decide +kernel
theorem d_X0_add_42 : decode prog_2_method_4_code 42 = .ok (.iconst 2, 1) := by decide +kernel
theorem d_X0_add_43 : decode prog_2_method_4_code 43 = .ok (.iload_n 3, 1) := by decide +kernel
theorem d_X0_add_44 : decode prog_2_method_4_code 44 = .ok (.invokevirtual 62, 3) := by decide +kernel
theorem d_X0_add_47 : decode prog_2_method_4_code 47 = .ok (.aload_n 0, 1) := by decide +kernel
theorem d_X0_add_48 : decode prog_2_method_4_code 48 = .ok (.iload 6, 2) := by decide +kernel
theorem d_X0_add_50 : decode prog_2_method_4_code 50 = .ok (.iconst 3, 1) := by decide +kernel
theorem d_X0_add_51 : decode prog_2_method_4_code 51 = .ok (.iload 4, 2) := by decide +kernel
theorem d_X0_add_53 : decode prog_2_method_4_code 53 = .ok (.invokevirtual 62, 3) := by decide +kernel
theorem d_X0_add_56 : decode prog_2_method_4_code 56 = .ok (.aload_n 0, 1) := by decide +kernel
theorem d_X0_add_57 : decode prog_2_method_4_code 57 = .ok (.iload 6, 2) := by decide +kernel
theorem d_X0_add_59 : decode prog_2_method_4_code 59 = .ok (.iconst 4, 1) := by decide +kernel
theorem d_X0_add_60 : decode prog_2_method_4_code 60 = .ok (.iload 5, 2) := by decide +kernel
theorem d_X0_add_62 : decode prog_2_method_4_code 62 = .ok (.invokevirtual 62, 3) := by decide +kernel
theorem d_X0_add_65 : decode prog_2_method_4_code 65 = .ok (.aload_n 0, 1) := by decide +kernel
theorem d_X0_add_66 : decode prog_2_method_4_code 66 = .ok (.iload 6, 2) := by decide +kernel
theorem d_X0_add_68 : decode prog_2_method_4_code 68 = .ok (.iconst 5, 1) := by decide +kernel
theorem d_X0_add_69 : decode prog_2_method_4_code 69 = .ok (.iconst 0, 1) := by decide +kernel
theorem d_X0_add_70 : decode prog_2_method_4_code 70 = .ok (.invokevirtual 62, 3) := by decide +kernel
theorem d_X0_add_73 : decode prog_2_method_4_code 73 = .ok (.aload_n 0, 1) := by decide +kernel
theorem d_X0_add_74 : decode prog_2_method_4_code 74 = .ok (.iload 6, 2) := by decide +kernel
theorem d_X0_add_76 : decode prog_2_method_4_code 76 = .ok (.bipush 6, 2) := by decide +kernel
theorem d_X0_add_78 : decode prog_2_method_4_code 78 = .ok (.iconst (-1), 1) := by decide +kernel
theorem d_X0_add_79 : decode prog_2_method_4_code 79 = .ok (.invokevirtual 62, 3) := by decide +kernel
theorem d_X0_add_82 : decode prog_2_method_4_code 82 = .ok (.iload 6, 2) := by decide +kernel
theorem d_X0_add_84 : decode prog_2_method_4_code 84 = .ok (.ireturn, 1) := by decide +kernel
theorem d_X0_read_0 : decode prog_2_method_5_code 0 = .ok (.iload_n 1, 1) := by decide +kernel
theorem d_X0_read_1 : decode prog_2_method_5_code 1 = .ok (.ifCond .lt 25, 3) := by decide +kernel
theorem d_X0_read_4 : decode prog_2_method_5_code 4 = .ok (.iload_n 1, 1) := by decide +kernel
theorem d_X0_read_5 : decode prog_2_method_5_code 5 = .ok (.aload_n 0, 1) := by decide +kernel
theorem d_X0_read_6 : decode prog_2_method_5_code 6 = .ok (.getfield 9, 3) := by decide +kernel
theorem d_X0_read_9 : decode prog_2_method_5_code 9 = .ok (.if_icmp .ge 17, 3) := by decide +kernel
theorem d_X0_read_12 : decode prog_2_method_5_code 12 = .ok (.iload_n 2, 1) := by decide +kernel
theorem d_X0_read_13 : decode prog_2_method_5_code 13 = .ok (.ifCond .lt 13, 3) := by decide +kernel
theorem d_X0_read_16 : decode prog_2_method_5_code 16 = .ok (.iload_n 2, 1) := by decide +kernel
theorem d_X0_read_17 : decode prog_2_method_5_code 17 = .ok (.bipush 7, 2) := by decide +kernel
theorem d_X0_read_19 : decode prog_2_method_5_code 19 = .ok (.if_icmp .ge 7, 3) := by decide +kernel
theorem d_X0_read_22 : decode prog_2_method_5_code 22 = .ok (.iconst 1, 1) := by decide +kernel
theorem d_X0_read_23 : decode prog_2_method_5_code 23 = .ok (.goto 4, 3) := by decide +kernel
theorem d_X0_read_26 : decode prog_2_method_5_code 26 = .ok (.iconst 0, 1) := by decide +kernel
theorem d_X0_read_27 : decode prog_2_method_5_code 27 = .ok (.istore_n 3, 1) := by decide +kernel
theorem d_X0_read_28 : decode prog_2_method_5_code 28 = .ok (.iload_n 3, 1) := by decide +kernel
theorem d_X0_read_29 : decode prog_2_method_5_code 29 = .ok (.ifCond .eq 17, 3) := by decide +kernel
theorem d_X0_read_32 : decode prog_2_method_5_code 32 = .ok (.aload_n 0, 1) := by decide +kernel
theorem d_X0_read_33 : decode prog_2_method_5_code 33 = .ok (.getfield 15, 3) := by decide +kernel
theorem d_X0_read_36 : decode prog_2_method_5_code 36 = .ok (.iload_n 1, 1) := by decide +kernel
theorem d_X0_read_37 : decode prog_2_method_5_code 37 = .ok (.bipush 7, 2) := by decide +kernel
theorem d_X0_read_39 : decode prog_2_method_5_code 39 = .ok (.imul, 1) := by decide +kernel
theorem d_X0_read_40 : decode prog_2_method_5_code 40 = .ok (.iload_n 2, 1) := by decide +kernel
theorem d_X0_read_41 : decode prog_2_method_5_code 41 = .ok (.iadd, 1) := by decide +kernel
theorem d_X0_read_42 : decode prog_2_method_5_code 42 = .ok (.iaload, 1) := by decide +kernel
theorem d_X0_read_43 : decode prog_2_method_5_code 43 = .ok (.goto 4, 3) := by decide +kernel
theorem d_X0_read_46 : decode prog_2_method_5_code 46 = .ok (.iconst (-1), 1) := by decide +kernel
theorem d_X0_read_47 : decode prog_2_method_5_code 47 = .ok (.ireturn, 1) := by decide +kernel
theorem d_X0_write_0 : decode prog_2_method_6_code 0 = .ok (.aload_n 0, 1) := by decide +kernel
theorem d_X0_write_1 : decode prog_2_method_6_code 1 = .ok (.iload_n 1, 1) := by decide +kernel
theorem d_X0_write_2 : decode prog_2_method_6_code 2 = .ok (.invokevirtual 66, 3) := by decide +kernel
theorem d_X0_write_5 : decode prog_2_method_6_code 5 = .ok (.ifCond .eq 25, 3) := by decide +kernel
theorem d_X0_write_8 : decode prog_2_method_6_code 8 = .ok (.iload_n 2, 1) := by decide +kernel
theorem d_X0_write_9 : decode prog_2_method_6_code 9 = .ok (.iconst 0, 1) := by decide +kernel
theorem d_X0_write_10 : decode prog_2_method_6_code 10 = .ok (.bipush 6, 2) := by decide +kernel
theorem d_X0_write_12 : decode prog_2_method_6_code 12 = .ok (.invokestatic 52, 3) := by decide +kernel
theorem d_X0_write_15 : decode prog_2_method_6_code 15 = .ok (.ifCond .eq 15, 3) := by decide +kernel
theorem d_X0_write_18 : decode prog_2_method_6_code 18 = .ok (.aload_n 0, 1) := by decide +kernel
theorem d_X0_write_19 : decode prog_2_method_6_code 19 = .ok (.getfield 15, 3) := by decide +kernel
theorem d_X0_write_22 : decode prog_2_method_6_code 22 = .ok (.iload_n 1, 1) := by decide +kernel
theorem d_X0_write_23 : decode prog_2_method_6_code 23 = .ok (.bipush 7, 2) := by decide +kernel
theorem d_X0_write_25 : decode prog_2_method_6_code 25 = .ok (.imul, 1) := by decide +kernel
theorem d_X0_write_26 : decode prog_2_method_6_code 26 = .ok (.iload_n 2, 1) := by decide +kernel
theorem d_X0_write_27 : decode prog_2_method_6_code 27 = .ok (.iadd, 1) := by decide +kernel
theorem d_X0_write_28 : decode prog_2_method_6_code 28 = .ok (.iload_n 3, 1) := by decide +kernel
theorem d_X0_write_29 : decode prog_2_method_6_code 29 = .ok (.iastore, 1) := by decide +kernel
theorem d_X0_write_30 : decode prog_2_method_6_code 30 = .ok (.return_, 1) := by decide +kernel
theorem d_X0_lacks_0 : decode prog_2_method_7_code 0 = .ok (.aload_n 0, 1) := by decide +kernel
theorem d_X0_lacks_1 : decode prog_2_method_7_code 1 = .ok (.iload_n 1, 1) := by decide +kernel
theorem d_X0_lacks_2 : decode prog_2_method_7_code 2 = .ok (.iconst 5, 1) := by decide +kernel
theorem d_X0_lacks_3 : decode prog_2_method_7_code 3 = .ok (.invokevirtual 70, 3) := by decide +kernel
theorem d_X0_lacks_6 : decode prog_2_method_7_code 6 = .ok (.iconst 1, 1) := by decide +kernel
theorem d_X0_lacks_7 : decode prog_2_method_7_code 7 = .ok (.if_icmp .ne 7, 3) := by decide +kernel
theorem d_X0_lacks_10 : decode prog_2_method_7_code 10 = .ok (.iconst 1, 1) := by decide +kernel
theorem d_X0_lacks_11 : decode prog_2_method_7_code 11 = .ok (.goto 4, 3) := by decide +kernel
theorem d_X0_lacks_14 : decode prog_2_method_7_code 14 = .ok (.iconst 0, 1) := by decide +kernel
theorem d_X0_lacks_15 : decode prog_2_method_7_code 15 = .ok (.ireturn, 1) := by decide +kernel
theorem d_X0_lackingCount_0 : decode prog_2_method_8_code 0 = .ok (.iconst 0, 1) := by decide +kernel
theorem d_X0_lackingCount_1 : decode prog_2_method_8_code 1 = .ok (.istore_n 1, 1) := by decide +kernel
theorem d_X0_lackingCount_2 : decode prog_2_method_8_code 2 = .ok (.iconst 0, 1) := by decide +kernel
theorem d_X0_lackingCount_3 : decode prog_2_method_8_code 3 = .ok (.istore_n 2, 1) := by decide +kernel
theorem d_X0_lackingCount_4 : decode prog_2_method_8_code 4 = .ok (.iload_n 2, 1) := by decide +kernel
theorem d_X0_lackingCount_5 : decode prog_2_method_8_code 5 = .ok (.aload_n 0, 1) := by decide +kernel
theorem d_X0_lackingCount_6 : decode prog_2_method_8_code 6 = .ok (.getfield 9, 3) := by decide +kernel
theorem d_X0_lackingCount_9 : decode prog_2_method_8_code 9 = .ok (.if_icmp .ge 18, 3) := by decide +kernel
theorem d_X0_lackingCount_12 : decode prog_2_method_8_code 12 = .ok (.iload_n 1, 1) := by decide +kernel
theorem d_X0_lackingCount_13 : decode prog_2_method_8_code 13 = .ok (.aload_n 0, 1) := by decide +kernel
theorem d_X0_lackingCount_14 : decode prog_2_method_8_code 14 = .ok (.iload_n 2, 1) := by decide +kernel
theorem d_X0_lackingCount_15 : decode prog_2_method_8_code 15 = .ok (.iconst 5, 1) := by decide +kernel
theorem d_X0_lackingCount_16 : decode prog_2_method_8_code 16 = .ok (.invokevirtual 70, 3) := by decide +kernel
theorem d_X0_lackingCount_19 : decode prog_2_method_8_code 19 = .ok (.iadd, 1) := by decide +kernel
theorem d_X0_lackingCount_20 : decode prog_2_method_8_code 20 = .ok (.istore_n 1, 1) := by decide +kernel
theorem d_X0_lackingCount_21 : decode prog_2_method_8_code 21 = .ok (.iinc 2 1, 3) := by decide +kernel
theorem d_X0_lackingCount_24 : decode prog_2_method_8_code 24 = .ok (.goto (-20), 3) := by decide +kernel
theorem d_X0_lackingCount_27 : decode prog_2_method_8_code 27 = .ok (.iload_n 1, 1) := by decide +kernel
theorem d_X0_lackingCount_28 : decode prog_2_method_8_code 28 = .ok (.ireturn, 1) := by decide +kernel
theorem d_X0_sourceOf_0 : decode prog_2_method_9_code 0 = .ok (.aload_n 0, 1) := by decide +kernel
theorem d_X0_sourceOf_1 : decode prog_2_method_9_code 1 = .ok (.iload_n 1, 1) := by decide +kernel
theorem d_X0_sourceOf_2 : decode prog_2_method_9_code 2 = .ok (.iconst 5, 1) := by decide +kernel
theorem d_X0_sourceOf_3 : decode prog_2_method_9_code 3 = .ok (.invokevirtual 70, 3) := by decide +kernel
theorem d_X0_sourceOf_6 : decode prog_2_method_9_code 6 = .ok (.iconst 1, 1) := by decide +kernel
theorem d_X0_sourceOf_7 : decode prog_2_method_9_code 7 = .ok (.if_icmp .ne 13, 3) := by decide +kernel
theorem d_X0_sourceOf_10 : decode prog_2_method_9_code 10 = .ok (.aload_n 0, 1) := by decide +kernel
theorem d_X0_sourceOf_11 : decode prog_2_method_9_code 11 = .ok (.iload_n 1, 1) := by decide +kernel
theorem d_X0_sourceOf_12 : decode prog_2_method_9_code 12 = .ok (.bipush 6, 2) := by decide +kernel
theorem d_X0_sourceOf_14 : decode prog_2_method_9_code 14 = .ok (.invokevirtual 70, 3) := by decide +kernel
theorem d_X0_sourceOf_17 : decode prog_2_method_9_code 17 = .ok (.goto 4, 3) := by decide +kernel
theorem d_X0_sourceOf_20 : decode prog_2_method_9_code 20 = .ok (.iload_n 1, 1) := by decide +kernel
theorem d_X0_sourceOf_21 : decode prog_2_method_9_code 21 = .ok (.ireturn, 1) := by decide +kernel
theorem d_X0_ownWeight_0 : decode prog_2_method_10_code 0 = .ok (.iload_n 1, 1) := by decide +kernel
theorem d_X0_ownWeight_1 : decode prog_2_method_10_code 1 = .ok (.iconst 0, 1) := by decide +kernel
theorem d_X0_ownWeight_2 : decode prog_2_method_10_code 2 = .ok (.iconst 4, 1) := by decide +kernel
theorem d_X0_ownWeight_3 : decode prog_2_method_10_code 3 = .ok (.invokestatic 52, 3) := by decide +kernel
theorem d_X0_ownWeight_6 : decode prog_2_method_10_code 6 = .ok (.ifCond .eq 27, 3) := by decide +kernel
theorem d_X0_ownWeight_9 : decode prog_2_method_10_code 9 = .ok (.iload_n 2, 1) := by decide +kernel
theorem d_X0_ownWeight_10 : decode prog_2_method_10_code 10 = .ok (.iconst 0, 1) := by decide +kernel
theorem d_X0_ownWeight_11 : decode prog_2_method_10_code 11 = .ok (.bipush 7, 2) := by decide +kernel
theorem d_X0_ownWeight_13 : decode prog_2_method_10_code 13 = .ok (.invokestatic 52, 3) := by decide +kernel
theorem d_X0_ownWeight_16 : decode prog_2_method_10_code 16 = .ok (.ifCond .eq 17, 3) := by decide +kernel
theorem d_X0_ownWeight_19 : decode prog_2_method_10_code 19 = .ok (.aload_n 0, 1) := by decide +kernel
theorem d_X0_ownWeight_20 : decode prog_2_method_10_code 20 = .ok (.getfield 22, 3) := by decide +kernel
theorem d_X0_ownWeight_23 : decode prog_2_method_10_code 23 = .ok (.iload_n 1, 1) := by decide +kernel
theorem d_X0_ownWeight_24 : decode prog_2_method_10_code 24 = .ok (.bipush 8, 2) := by decide +kernel
theorem d_X0_ownWeight_26 : decode prog_2_method_10_code 26 = .ok (.imul, 1) := by decide +kernel
theorem d_X0_ownWeight_27 : decode prog_2_method_10_code 27 = .ok (.iload_n 2, 1) := by decide +kernel
theorem d_X0_ownWeight_28 : decode prog_2_method_10_code 28 = .ok (.iadd, 1) := by decide +kernel
theorem d_X0_ownWeight_29 : decode prog_2_method_10_code 29 = .ok (.iaload, 1) := by decide +kernel
theorem d_X0_ownWeight_30 : decode prog_2_method_10_code 30 = .ok (.goto 4, 3) := by decide +kernel
theorem d_X0_ownWeight_33 : decode prog_2_method_10_code 33 = .ok (.iconst 0, 1) := by decide +kernel
theorem d_X0_ownWeight_34 : decode prog_2_method_10_code 34 = .ok (.ireturn, 1) := by decide +kernel
theorem d_X0_enact_0 : decode prog_2_method_11_code 0 = .ok (.aload_n 0, 1) := by decide +kernel
theorem d_X0_enact_1 : decode prog_2_method_11_code 1 = .ok (.bipush 6, 2) := by decide +kernel
theorem d_X0_enact_3 : decode prog_2_method_11_code 3 = .ok (.aload_n 0, 1) := by decide +kernel
theorem d_X0_enact_4 : decode prog_2_method_11_code 4 = .ok (.getfield 34, 3) := by decide +kernel
theorem d_X0_enact_7 : decode prog_2_method_11_code 7 = .ok (.iconst 1, 1) := by decide +kernel
theorem d_X0_enact_8 : decode prog_2_method_11_code 8 = .ok (.iadd, 1) := by decide +kernel
theorem d_X0_enact_9 : decode prog_2_method_11_code 9 = .ok (.invokestatic 56, 3) := by decide +kernel
theorem d_X0_enact_12 : decode prog_2_method_11_code 12 = .ok (.putfield 34, 3) := by decide +kernel
theorem d_X0_enact_15 : decode prog_2_method_11_code 15 = .ok (.aload_n 0, 1) := by decide +kernel
theorem d_X0_enact_16 : decode prog_2_method_11_code 16 = .ok (.getfield 39, 3) := by decide +kernel
theorem d_X0_enact_19 : decode prog_2_method_11_code 19 = .ok (.aload_n 0, 1) := by decide +kernel
theorem d_X0_enact_20 : decode prog_2_method_11_code 20 = .ok (.getfield 34, 3) := by decide +kernel
theorem d_X0_enact_23 : decode prog_2_method_11_code 23 = .ok (.iconst 1, 1) := by decide +kernel
theorem d_X0_enact_24 : decode prog_2_method_11_code 24 = .ok (.isub, 1) := by decide +kernel
theorem d_X0_enact_25 : decode prog_2_method_11_code 25 = .ok (.aload_n 1, 1) := by decide +kernel
theorem d_X0_enact_26 : decode prog_2_method_11_code 26 = .ok (.aastore, 1) := by decide +kernel
theorem d_X0_enact_27 : decode prog_2_method_11_code 27 = .ok (.aload_n 0, 1) := by decide +kernel
theorem d_X0_enact_28 : decode prog_2_method_11_code 28 = .ok (.getfield 34, 3) := by decide +kernel
theorem d_X0_enact_31 : decode prog_2_method_11_code 31 = .ok (.iconst 1, 1) := by decide +kernel
theorem d_X0_enact_32 : decode prog_2_method_11_code 32 = .ok (.isub, 1) := by decide +kernel
theorem d_X0_enact_33 : decode prog_2_method_11_code 33 = .ok (.ireturn, 1) := by decide +kernel
theorem d_X0_lawAt_0 : decode prog_2_method_12_code 0 = .ok (.iload_n 1, 1) := by decide +kernel
theorem d_X0_lawAt_1 : decode prog_2_method_12_code 1 = .ok (.iconst 0, 1) := by decide +kernel
theorem d_X0_lawAt_2 : decode prog_2_method_12_code 2 = .ok (.aload_n 0, 1) := by decide +kernel
theorem d_X0_lawAt_3 : decode prog_2_method_12_code 3 = .ok (.getfield 34, 3) := by decide +kernel
theorem d_X0_lawAt_6 : decode prog_2_method_12_code 6 = .ok (.iconst 1, 1) := by decide +kernel
theorem d_X0_lawAt_7 : decode prog_2_method_12_code 7 = .ok (.isub, 1) := by decide +kernel
theorem d_X0_lawAt_8 : decode prog_2_method_12_code 8 = .ok (.invokestatic 52, 3) := by decide +kernel
theorem d_X0_lawAt_11 : decode prog_2_method_12_code 11 = .ok (.ifCond .eq 12, 3) := by decide +kernel
theorem d_X0_lawAt_14 : decode prog_2_method_12_code 14 = .ok (.aload_n 0, 1) := by decide +kernel
theorem d_X0_lawAt_15 : decode prog_2_method_12_code 15 = .ok (.getfield 39, 3) := by decide +kernel
theorem d_X0_lawAt_18 : decode prog_2_method_12_code 18 = .ok (.iload_n 1, 1) := by decide +kernel
theorem d_X0_lawAt_19 : decode prog_2_method_12_code 19 = .ok (.aaload, 1) := by decide +kernel
theorem d_X0_lawAt_20 : decode prog_2_method_12_code 20 = .ok (.goto 4, 3) := by decide +kernel
theorem d_X0_lawAt_23 : decode prog_2_method_12_code 23 = .ok (.aconst_null, 1) := by decide +kernel
theorem d_X0_lawAt_24 : decode prog_2_method_12_code 24 = .ok (.areturn, 1) := by decide +kernel
theorem d_X0_lawInForce_0 : decode prog_2_method_13_code 0 = .ok (.aload_n 0, 1) := by decide +kernel
theorem d_X0_lawInForce_1 : decode prog_2_method_13_code 1 = .ok (.aload_n 0, 1) := by decide +kernel
theorem d_X0_lawInForce_2 : decode prog_2_method_13_code 2 = .ok (.getfield 43, 3) := by decide +kernel
theorem d_X0_lawInForce_5 : decode prog_2_method_13_code 5 = .ok (.invokevirtual 73, 3) := by decide +kernel
theorem d_X0_lawInForce_8 : decode prog_2_method_13_code 8 = .ok (.areturn, 1) := by decide +kernel
theorem d_X0_befall_0 : decode prog_2_method_14_code 0 = .ok (.aload_n 0, 1) := by decide +kernel
theorem d_X0_befall_1 : decode prog_2_method_14_code 1 = .ok (.iload_n 1, 1) := by decide +kernel
theorem d_X0_befall_2 : decode prog_2_method_14_code 2 = .ok (.iconst 1, 1) := by decide +kernel
theorem d_X0_befall_3 : decode prog_2_method_14_code 3 = .ok (.invokevirtual 70, 3) := by decide +kernel
theorem d_X0_befall_6 : decode prog_2_method_14_code 6 = .ok (.istore_n 3, 1) := by decide +kernel
theorem d_X0_befall_7 : decode prog_2_method_14_code 7 = .ok (.iload_n 2, 1) := by decide +kernel
theorem d_X0_befall_8 : decode prog_2_method_14_code 8 = .ok (.tableswitch 65 0 2 #[28, 38, 48], 28) := by decide +kernel
theorem d_X0_befall_36 : decode prog_2_method_14_code 36 = .ok (.aload_n 0, 1) := by decide +kernel
theorem d_X0_befall_37 : decode prog_2_method_14_code 37 = .ok (.iload_n 1, 1) := by decide +kernel
theorem d_X0_befall_38 : decode prog_2_method_14_code 38 = .ok (.iconst 5, 1) := by decide +kernel
theorem d_X0_befall_39 : decode prog_2_method_14_code 39 = .ok (.iconst 1, 1) := by decide +kernel
theorem d_X0_befall_40 : decode prog_2_method_14_code 40 = .ok (.invokevirtual 62, 3) := by decide +kernel
theorem d_X0_befall_43 : decode prog_2_method_14_code 43 = .ok (.goto 43, 3) := by decide +kernel
theorem d_X0_befall_46 : decode prog_2_method_14_code 46 = .ok (.aload_n 0, 1) := by decide +kernel
theorem d_X0_befall_47 : decode prog_2_method_14_code 47 = .ok (.iload_n 1, 1) := by decide +kernel
theorem d_X0_befall_48 : decode prog_2_method_14_code 48 = .ok (.iconst 5, 1) := by decide +kernel
theorem d_X0_befall_49 : decode prog_2_method_14_code 49 = .ok (.iconst 0, 1) := by decide +kernel
theorem d_X0_befall_50 : decode prog_2_method_14_code 50 = .ok (.invokevirtual 62, 3) := by decide +kernel
theorem d_X0_befall_53 : decode prog_2_method_14_code 53 = .ok (.goto 33, 3) := by decide +kernel
theorem d_X0_befall_56 : decode prog_2_method_14_code 56 = .ok (.aload_n 0, 1) := by decide +kernel
theorem d_X0_befall_57 : decode prog_2_method_14_code 57 = .ok (.iload_n 1, 1) := by decide +kernel
theorem d_X0_befall_58 : decode prog_2_method_14_code 58 = .ok (.iconst 1, 1) := by decide +kernel
theorem d_X0_befall_59 : decode prog_2_method_14_code 59 = .ok (.bipush 12, 2) := by decide +kernel
theorem d_X0_befall_61 : decode prog_2_method_14_code 61 = .ok (.iload_n 3, 1) := by decide +kernel
theorem d_X0_befall_62 : decode prog_2_method_14_code 62 = .ok (.iconst 1, 1) := by decide +kernel
theorem d_X0_befall_63 : decode prog_2_method_14_code 63 = .ok (.iadd, 1) := by decide +kernel
theorem d_X0_befall_64 : decode prog_2_method_14_code 64 = .ok (.invokestatic 56, 3) := by decide +kernel
theorem d_X0_befall_67 : decode prog_2_method_14_code 67 = .ok (.invokevirtual 62, 3) := by decide +kernel
theorem d_X0_befall_70 : decode prog_2_method_14_code 70 = .ok (.goto 16, 3) := by decide +kernel
theorem d_X0_befall_73 : decode prog_2_method_14_code 73 = .ok (.aload_n 0, 1) := by decide +kernel
theorem d_X0_befall_74 : decode prog_2_method_14_code 74 = .ok (.iload_n 1, 1) := by decide +kernel
theorem d_X0_befall_75 : decode prog_2_method_14_code 75 = .ok (.iconst 1, 1) := by decide +kernel
theorem d_X0_befall_76 : decode prog_2_method_14_code 76 = .ok (.iconst 1, 1) := by decide +kernel
theorem d_X0_befall_77 : decode prog_2_method_14_code 77 = .ok (.iload_n 3, 1) := by decide +kernel
theorem d_X0_befall_78 : decode prog_2_method_14_code 78 = .ok (.iconst 1, 1) := by decide +kernel
theorem d_X0_befall_79 : decode prog_2_method_14_code 79 = .ok (.isub, 1) := by decide +kernel
theorem d_X0_befall_80 : decode prog_2_method_14_code 80 = .ok (.invokestatic 77, 3) := by decide +kernel
theorem d_X0_befall_83 : decode prog_2_method_14_code 83 = .ok (.invokevirtual 62, 3) := by decide +kernel
theorem d_X0_befall_86 : decode prog_2_method_14_code 86 = .ok (.return_, 1) := by decide +kernel
theorem d_X1_init_0 : decode prog_3_method_1_code 0 = .ok (.aload_n 0, 1) := by decide +kernel
theorem d_X1_init_1 : decode prog_3_method_1_code 1 = .ok (.invokespecial 3, 3) := by decide +kernel
theorem d_X1_init_4 : decode prog_3_method_1_code 4 = .ok (.aload_n 0, 1) := by decide +kernel
theorem d_X1_init_5 : decode prog_3_method_1_code 5 = .ok (.iconst 0, 1) := by decide +kernel
theorem d_X1_init_6 : decode prog_3_method_1_code 6 = .ok (.putfield 9, 3) := by decide +kernel
theorem d_X1_init_9 : decode prog_3_method_1_code 9 = .ok (.aload_n 0, 1) := by decide +kernel
theorem d_X1_init_10 : decode prog_3_method_1_code 10 = .ok (.bipush 8, 2) := by decide +kernel
theorem d_X1_init_12 : decode prog_3_method_1_code 12 = .ok (.newarray .int, 2) := by decide +kernel
theorem d_X1_init_14 : decode prog_3_method_1_code 14 = .ok (.putfield 15, 3) := by decide +kernel
theorem d_X1_init_17 : decode prog_3_method_1_code 17 = .ok (.aload_n 0, 1) := by decide +kernel
theorem d_X1_init_18 : decode prog_3_method_1_code 18 = .ok (.bipush 8, 2) := by decide +kernel
theorem d_X1_init_20 : decode prog_3_method_1_code 20 = .ok (.newarray .int, 2) := by decide +kernel
theorem d_X1_init_22 : decode prog_3_method_1_code 22 = .ok (.putfield 19, 3) := by decide +kernel
theorem d_X1_init_25 : decode prog_3_method_1_code 25 = .ok (.aload_n 0, 1) := by decide +kernel
theorem d_X1_init_26 : decode prog_3_method_1_code 26 = .ok (.bipush 8, 2) := by decide +kernel
theorem d_X1_init_28 : decode prog_3_method_1_code 28 = .ok (.newarray .int, 2) := by decide +kernel
theorem d_X1_init_30 : decode prog_3_method_1_code 30 = .ok (.putfield 22, 3) := by decide +kernel
theorem d_X1_init_33 : decode prog_3_method_1_code 33 = .ok (.aload_n 0, 1) := by decide +kernel
theorem d_X1_init_34 : decode prog_3_method_1_code 34 = .ok (.new 25, 3) := by decide +kernel
theorem d_X1_init_37 : decode prog_3_method_1_code 37 = .ok (.dup, 1) := by decide +kernel
theorem d_X1_init_38 : decode prog_3_method_1_code 38 = .ok (.invokespecial 27, 3) := by decide +kernel
theorem d_X1_init_41 : decode prog_3_method_1_code 41 = .ok (.putfield 28, 3) := by decide +kernel
theorem d_X1_init_44 : decode prog_3_method_1_code 44 = .ok (.aload_n 0, 1) := by decide +kernel
theorem d_X1_init_45 : decode prog_3_method_1_code 45 = .ok (.new 25, 3) := by decide +kernel
theorem d_X1_init_48 : decode prog_3_method_1_code 48 = .ok (.dup, 1) := by decide +kernel
theorem d_X1_init_49 : decode prog_3_method_1_code 49 = .ok (.invokespecial 27, 3) := by decide +kernel
theorem d_X1_init_52 : decode prog_3_method_1_code 52 = .ok (.putfield 32, 3) := by decide +kernel
theorem d_X1_init_55 : decode prog_3_method_1_code 55 = .ok (.aload_n 0, 1) := by decide +kernel
theorem d_X1_init_56 : decode prog_3_method_1_code 56 = .ok (.aload_n 1, 1) := by decide +kernel
theorem d_X1_init_57 : decode prog_3_method_1_code 57 = .ok (.putfield 35, 3) := by decide +kernel
theorem d_X1_init_60 : decode prog_3_method_1_code 60 = .ok (.return_, 1) := by decide +kernel
theorem d_X1_load_0 : decode prog_3_method_2_code 0 = .ok (.aload_n 0, 1) := by decide +kernel
theorem d_X1_load_1 : decode prog_3_method_2_code 1 = .ok (.bipush 8, 2) := by decide +kernel
theorem d_X1_load_3 : decode prog_3_method_2_code 3 = .ok (.aload_n 1, 1) := by decide +kernel
theorem d_X1_load_4 : decode prog_3_method_2_code 4 = .ok (.getfield 39, 3) := by decide +kernel
theorem d_X1_load_7 : decode prog_3_method_2_code 7 = .ok (.invokestatic 42, 3) := by decide +kernel
theorem d_X1_load_10 : decode prog_3_method_2_code 10 = .ok (.putfield 9, 3) := by decide +kernel
theorem d_X1_load_13 : decode prog_3_method_2_code 13 = .ok (.iconst 0, 1) := by decide +kernel
theorem d_X1_load_14 : decode prog_3_method_2_code 14 = .ok (.istore_n 3, 1) := by decide +kernel
theorem d_X1_load_15 : decode prog_3_method_2_code 15 = .ok (.iload_n 3, 1) := by decide +kernel
theorem d_X1_load_16 : decode prog_3_method_2_code 16 = .ok (.aload_n 0, 1) := by decide +kernel
theorem d_X1_load_17 : decode prog_3_method_2_code 17 = .ok (.getfield 9, 3) := by decide +kernel
theorem d_X1_load_20 : decode prog_3_method_2_code 20 = .ok (.if_icmp .ge 59, 3) := by decide +kernel
theorem d_X1_load_23 : decode prog_3_method_2_code 23 = .ok (.aload_n 1, 1) := by decide +kernel
theorem d_X1_load_24 : decode prog_3_method_2_code 24 = .ok (.iload_n 3, 1) := by decide +kernel
theorem d_X1_load_25 : decode prog_3_method_2_code 25 = .ok (.invokevirtual 48, 3) := by decide +kernel
theorem d_X1_load_28 : decode prog_3_method_2_code 28 = .ok (.istore 4, 2) := by decide +kernel
theorem d_X1_load_30 : decode prog_3_method_2_code 30 = .ok (.aload_n 0, 1) := by decide +kernel
theorem d_X1_load_31 : decode prog_3_method_2_code 31 = .ok (.getfield 15, 3) := by decide +kernel
theorem d_X1_load_34 : decode prog_3_method_2_code 34 = .ok (.iload_n 3, 1) := by decide +kernel
theorem d_X1_load_35 : decode prog_3_method_2_code 35 = .ok (.aload_n 1, 1) := by decide +kernel
theorem d_X1_load_36 : decode prog_3_method_2_code 36 = .ok (.iload 4, 2) := by decide +kernel
theorem d_X1_load_38 : decode prog_3_method_2_code 38 = .ok (.iconst 0, 1) := by decide +kernel
theorem d_X1_load_39 : decode prog_3_method_2_code 39 = .ok (.invokevirtual 52, 3) := by decide +kernel
theorem d_X1_load_42 : decode prog_3_method_2_code 42 = .ok (.iastore, 1) := by decide +kernel
theorem d_X1_load_43 : decode prog_3_method_2_code 43 = .ok (.aload_n 0, 1) := by decide +kernel
theorem d_X1_load_44 : decode prog_3_method_2_code 44 = .ok (.getfield 19, 3) := by decide +kernel
theorem d_X1_load_47 : decode prog_3_method_2_code 47 = .ok (.iload_n 3, 1) := by decide +kernel
theorem d_X1_load_48 : decode prog_3_method_2_code 48 = .ok (.aload_n 1, 1) := by decide +kernel
theorem d_X1_load_49 : decode prog_3_method_2_code 49 = .ok (.iload 4, 2) := by decide +kernel
theorem d_X1_load_51 : decode prog_3_method_2_code 51 = .ok (.iconst 1, 1) := by decide +kernel
theorem d_X1_load_52 : decode prog_3_method_2_code 52 = .ok (.invokevirtual 52, 3) := by decide +kernel
theorem d_X1_load_55 : decode prog_3_method_2_code 55 = .ok (.iastore, 1) := by decide +kernel
theorem d_X1_load_56 : decode prog_3_method_2_code 56 = .ok (.aload_n 0, 1) := by decide +kernel
theorem d_X1_load_57 : decode prog_3_method_2_code 57 = .ok (.getfield 22, 3) := by decide +kernel
theorem d_X1_load_60 : decode prog_3_method_2_code 60 = .ok (.iload_n 3, 1) := by decide +kernel
theorem d_X1_load_61 : decode prog_3_method_2_code 61 = .ok (.aload_n 0, 1) := by decide +kernel
theorem d_X1_load_62 : decode prog_3_method_2_code 62 = .ok (.getfield 35, 3) := by decide +kernel
theorem d_X1_load_65 : decode prog_3_method_2_code 65 = .ok (.aload_n 1, 1) := by decide +kernel
theorem d_X1_load_66 : decode prog_3_method_2_code 66 = .ok (.aload_n 2, 1) := by decide +kernel
theorem d_X1_load_67 : decode prog_3_method_2_code 67 = .ok (.iload_n 3, 1) := by decide +kernel
theorem d_X1_load_68 : decode prog_3_method_2_code 68 = .ok (.iconst 1, 1) := by decide +kernel
theorem d_X1_load_69 : decode prog_3_method_2_code 69 = .ok (.invokevirtual 55, 3) := by decide +kernel
theorem d_X1_load_72 : decode prog_3_method_2_code 72 = .ok (.iastore, 1) := by decide +kernel
theorem d_X1_load_73 : decode prog_3_method_2_code 73 = .ok (.iinc 3 1, 3) := by decide +kernel
theorem d_X1_load_76 : decode prog_3_method_2_code 76 = .ok (.goto (-61), 3) := by decide +kernel
theorem d_X1_load_79 : decode prog_3_method_2_code 79 = .ok (.return_, 1) := by decide +kernel
theorem d_X1_countOfAll_0 : decode prog_3_method_3_code 0 = .ok (.iconst 0, 1) := by decide +kernel
theorem d_X1_countOfAll_1 : decode prog_3_method_3_code 1 = .ok (.istore_n 1, 1) := by decide +kernel
theorem d_X1_countOfAll_2 : decode prog_3_method_3_code 2 = .ok (.iconst 0, 1) := by decide +kernel
theorem d_X1_countOfAll_3 : decode prog_3_method_3_code 3 = .ok (.istore_n 2, 1) := by decide +kernel
theorem d_X1_countOfAll_4 : decode prog_3_method_3_code 4 = .ok (.iload_n 2, 1) := by decide +kernel
theorem d_X1_countOfAll_5 : decode prog_3_method_3_code 5 = .ok (.aload_n 0, 1) := by decide +kernel
theorem d_X1_countOfAll_6 : decode prog_3_method_3_code 6 = .ok (.getfield 9, 3) := by decide +kernel
theorem d_X1_countOfAll_9 : decode prog_3_method_3_code 9 = .ok (.if_icmp .ge 18, 3) := by decide +kernel
theorem d_X1_countOfAll_12 : decode prog_3_method_3_code 12 = .ok (.iload_n 1, 1) := by decide +kernel
theorem d_X1_countOfAll_13 : decode prog_3_method_3_code 13 = .ok (.aload_n 0, 1) := by decide +kernel
theorem d_X1_countOfAll_14 : decode prog_3_method_3_code 14 = .ok (.getfield 22, 3) := by decide +kernel
theorem d_X1_countOfAll_17 : decode prog_3_method_3_code 17 = .ok (.iload_n 2, 1) := by decide +kernel
theorem d_X1_countOfAll_18 : decode prog_3_method_3_code 18 = .ok (.iaload, 1) := by decide +kernel
theorem d_X1_countOfAll_19 : decode prog_3_method_3_code 19 = .ok (.iadd, 1) := by decide +kernel
theorem d_X1_countOfAll_20 : decode prog_3_method_3_code 20 = .ok (.istore_n 1, 1) := by decide +kernel
theorem d_X1_countOfAll_21 : decode prog_3_method_3_code 21 = .ok (.iinc 2 1, 3) := by decide +kernel
theorem d_X1_countOfAll_24 : decode prog_3_method_3_code 24 = .ok (.goto (-20), 3) := by decide +kernel
theorem d_X1_countOfAll_27 : decode prog_3_method_3_code 27 = .ok (.iload_n 1, 1) := by decide +kernel
theorem d_X1_countOfAll_28 : decode prog_3_method_3_code 28 = .ok (.ireturn, 1) := by decide +kernel
theorem d_X1_byRule_0 : decode prog_3_method_4_code 0 = .ok (.aload_n 0, 1) := by decide +kernel
theorem d_X1_byRule_1 : decode prog_3_method_4_code 1 = .ok (.iload_n 1, 1) := by decide +kernel
theorem d_X1_byRule_2 : decode prog_3_method_4_code 2 = .ok (.aload_n 0, 1) := by decide +kernel
theorem d_X1_byRule_3 : decode prog_3_method_4_code 3 = .ok (.getfield 19, 3) := by decide +kernel
theorem d_X1_byRule_6 : decode prog_3_method_4_code 6 = .ok (.aload_n 0, 1) := by decide +kernel
theorem d_X1_byRule_7 : decode prog_3_method_4_code 7 = .ok (.getfield 15, 3) := by decide +kernel
theorem d_X1_byRule_10 : decode prog_3_method_4_code 10 = .ok (.aload_n 0, 1) := by decide +kernel
theorem d_X1_byRule_11 : decode prog_3_method_4_code 11 = .ok (.getfield 28, 3) := by decide +kernel
theorem d_X1_byRule_14 : decode prog_3_method_4_code 14 = .ok (.invokevirtual 61, 3) := by decide +kernel
theorem d_X1_byRule_17 : decode prog_3_method_4_code 17 = .ok (.aload_n 0, 1) := by decide +kernel
theorem d_X1_byRule_18 : decode prog_3_method_4_code 18 = .ok (.getfield 28, 3) := by decide +kernel
theorem d_X1_byRule_21 : decode prog_3_method_4_code 21 = .ok (.areturn, 1) := by decide +kernel
theorem d_X1_turnedByRule_0 : decode prog_3_method_5_code 0 = .ok (.aload_n 0, 1) := by decide +kernel
theorem d_X1_turnedByRule_1 : decode prog_3_method_5_code 1 = .ok (.iload_n 1, 1) := by decide +kernel
theorem d_X1_turnedByRule_2 : decode prog_3_method_5_code 2 = .ok (.aload_n 0, 1) := by decide +kernel
theorem d_X1_turnedByRule_3 : decode prog_3_method_5_code 3 = .ok (.getfield 19, 3) := by decide +kernel
theorem d_X1_turnedByRule_6 : decode prog_3_method_5_code 6 = .ok (.aload_n 0, 1) := by decide +kernel
theorem d_X1_turnedByRule_7 : decode prog_3_method_5_code 7 = .ok (.getfield 15, 3) := by decide +kernel
theorem d_X1_turnedByRule_10 : decode prog_3_method_5_code 10 = .ok (.aload_n 0, 1) := by decide +kernel
theorem d_X1_turnedByRule_11 : decode prog_3_method_5_code 11 = .ok (.getfield 28, 3) := by decide +kernel
theorem d_X1_turnedByRule_14 : decode prog_3_method_5_code 14 = .ok (.invokevirtual 61, 3) := by decide +kernel
theorem d_X1_turnedByRule_17 : decode prog_3_method_5_code 17 = .ok (.aload_n 0, 1) := by decide +kernel
theorem d_X1_turnedByRule_18 : decode prog_3_method_5_code 18 = .ok (.iload_n 1, 1) := by decide +kernel
theorem d_X1_turnedByRule_19 : decode prog_3_method_5_code 19 = .ok (.aload_n 0, 1) := by decide +kernel
theorem d_X1_turnedByRule_20 : decode prog_3_method_5_code 20 = .ok (.getfield 15, 3) := by decide +kernel
theorem d_X1_turnedByRule_23 : decode prog_3_method_5_code 23 = .ok (.aload_n 0, 1) := by decide +kernel
theorem d_X1_turnedByRule_24 : decode prog_3_method_5_code 24 = .ok (.getfield 19, 3) := by decide +kernel
theorem d_X1_turnedByRule_27 : decode prog_3_method_5_code 27 = .ok (.aload_n 0, 1) := by decide +kernel
theorem d_X1_turnedByRule_28 : decode prog_3_method_5_code 28 = .ok (.getfield 32, 3) := by decide +kernel
theorem d_X1_turnedByRule_31 : decode prog_3_method_5_code 31 = .ok (.invokevirtual 61, 3) := by decide +kernel
theorem d_X1_turnedByRule_34 : decode prog_3_method_5_code 34 = .ok (.aload_n 0, 1) := by decide +kernel
theorem d_X1_turnedByRule_35 : decode prog_3_method_5_code 35 = .ok (.getfield 28, 3) := by decide +kernel
theorem d_X1_turnedByRule_38 : decode prog_3_method_5_code 38 = .ok (.aload_n 0, 1) := by decide +kernel
theorem d_X1_turnedByRule_39 : decode prog_3_method_5_code 39 = .ok (.getfield 32, 3) := by decide +kernel
theorem d_X1_turnedByRule_42 : decode prog_3_method_5_code 42 = .ok (.invokevirtual 65, 3) := by decide +kernel
theorem d_X1_turnedByRule_45 : decode prog_3_method_5_code 45 = .ok (.aload_n 0, 1) := by decide +kernel
theorem d_X1_turnedByRule_46 : decode prog_3_method_5_code 46 = .ok (.getfield 28, 3) := by decide +kernel
theorem d_X1_turnedByRule_49 : decode prog_3_method_5_code 49 = .ok (.areturn, 1) := by decide +kernel
theorem d_X1_reckon_0 : decode prog_3_method_6_code 0 = .ok (.aload 4, 2) := by decide +kernel
theorem d_X1_reckon_2 : decode prog_3_method_6_code 2 = .ok (.lconst 0, 1) := by decide +kernel
theorem d_X1_reckon_3 : decode prog_3_method_6_code 3 = .ok (.lconst 1, 1) := by decide +kernel
theorem d_X1_reckon_4 : decode prog_3_method_6_code 4 = .ok (.invokevirtual 69, 3) := by decide +kernel
theorem d_X1_reckon_7 : decode prog_3_method_6_code 7 = .ok (.aload_n 0, 1) := by decide +kernel
theorem d_X1_reckon_8 : decode prog_3_method_6_code 8 = .ok (.invokevirtual 73, 3) := by decide +kernel
theorem d_X1_reckon_11 : decode prog_3_method_6_code 11 = .ok (.ifCond .ne 4, 3) := by decide +kernel
theorem d_X1_reckon_14 : decode prog_3_method_6_code 14 = .ok (.return_, 1) := by decide +kernel
theorem d_X1_reckon_15 : decode prog_3_method_6_code 15 = .ok (.iload_n 1, 1) := by decide +kernel
theorem d_X1_reckon_16 : decode prog_3_method_6_code 16 = .ok (.lookupswitch 111 #[(0, 28), (1, 46)], 28) := by decide +kernel
theorem d_X1_reckon_44 : decode prog_3_method_6_code 44 = .ok (.aload 4, 2) := by decide +kernel
theorem d_X1_reckon_46 : decode prog_3_method_6_code 46 = .ok (.aload_n 0, 1) := by decide +kernel
theorem d_X1_reckon_47 : decode prog_3_method_6_code 47 = .ok (.aload_n 2, 1) := by decide +kernel
theorem d_X1_reckon_48 : decode prog_3_method_6_code 48 = .ok (.invokevirtual 77, 3) := by decide +kernel
theorem d_X1_reckon_51 : decode prog_3_method_6_code 51 = .ok (.aload_n 0, 1) := by decide +kernel
theorem d_X1_reckon_52 : decode prog_3_method_6_code 52 = .ok (.aload_n 3, 1) := by decide +kernel
theorem d_X1_reckon_53 : decode prog_3_method_6_code 53 = .ok (.invokevirtual 77, 3) := by decide +kernel
theorem d_X1_reckon_56 : decode prog_3_method_6_code 56 = .ok (.invokevirtual 69, 3) := by decide +kernel
theorem d_X1_reckon_59 : decode prog_3_method_6_code 59 = .ok (.goto 116, 3) := by decide +kernel
theorem d_X1_reckon_62 : decode prog_3_method_6_code 62 = .ok (.iconst 0, 1) := by decide +kernel
theorem d_X1_reckon_63 : decode prog_3_method_6_code 63 = .ok (.istore 5, 2) := by decide +kernel
theorem d_X1_reckon_65 : decode prog_3_method_6_code 65 = .ok (.iload 5, 2) := by decide +kernel
theorem d_X1_reckon_67 : decode prog_3_method_6_code 67 = .ok (.aload_n 0, 1) := by decide +kernel
theorem d_X1_reckon_68 : decode prog_3_method_6_code 68 = .ok (.getfield 9, 3) := by decide +kernel
theorem d_X1_reckon_71 : decode prog_3_method_6_code 71 = .ok (.if_icmp .ge 43, 3) := by decide +kernel
theorem d_X1_reckon_74 : decode prog_3_method_6_code 74 = .ok (.aload_n 0, 1) := by decide +kernel
theorem d_X1_reckon_75 : decode prog_3_method_6_code 75 = .ok (.getfield 22, 3) := by decide +kernel
theorem d_X1_reckon_78 : decode prog_3_method_6_code 78 = .ok (.iload 5, 2) := by decide +kernel
theorem d_X1_reckon_80 : decode prog_3_method_6_code 80 = .ok (.iaload, 1) := by decide +kernel
theorem d_X1_reckon_81 : decode prog_3_method_6_code 81 = .ok (.ifCond .le 27, 3) := by decide +kernel
theorem d_X1_reckon_84 : decode prog_3_method_6_code 84 = .ok (.aload 4, 2) := by decide +kernel
theorem d_X1_reckon_86 : decode prog_3_method_6_code 86 = .ok (.aload_n 2, 1) := by decide +kernel
theorem d_X1_reckon_87 : decode prog_3_method_6_code 87 = .ok (.iload 5, 2) := by decide +kernel
theorem d_X1_reckon_89 : decode prog_3_method_6_code 89 = .ok (.iaload, 1) := by decide +kernel
theorem d_X1_reckon_90 : decode prog_3_method_6_code 90 = .ok (.i2l, 1) := by decide +kernel
theorem d_X1_reckon_91 : decode prog_3_method_6_code 91 = .ok (.aload_n 0, 1) := by decide +kernel
theorem d_X1_reckon_92 : decode prog_3_method_6_code 92 = .ok (.getfield 22, 3) := by decide +kernel
theorem d_X1_reckon_95 : decode prog_3_method_6_code 95 = .ok (.iload 5, 2) := by decide +kernel
theorem d_X1_reckon_97 : decode prog_3_method_6_code 97 = .ok (.iaload, 1) := by decide +kernel
theorem d_X1_reckon_98 : decode prog_3_method_6_code 98 = .ok (.i2l, 1) := by decide +kernel
theorem d_X1_reckon_99 : decode prog_3_method_6_code 99 = .ok (.lmul, 1) := by decide +kernel
theorem d_X1_reckon_100 : decode prog_3_method_6_code 100 = .ok (.aload_n 3, 1) := by decide +kernel
theorem d_X1_reckon_101 : decode prog_3_method_6_code 101 = .ok (.iload 5, 2) := by decide +kernel
theorem d_X1_reckon_103 : decode prog_3_method_6_code 103 = .ok (.iaload, 1) := by decide +kernel
theorem d_X1_reckon_104 : decode prog_3_method_6_code 104 = .ok (.i2l, 1) := by decide +kernel
theorem d_X1_reckon_105 : decode prog_3_method_6_code 105 = .ok (.invokevirtual 81, 3) := by decide +kernel
theorem d_X1_reckon_108 : decode prog_3_method_6_code 108 = .ok (.iinc 5 1, 3) := by decide +kernel
theorem d_X1_reckon_111 : decode prog_3_method_6_code 111 = .ok (.goto (-46), 3) := by decide +kernel
theorem d_X1_reckon_114 : decode prog_3_method_6_code 114 = .ok (.aload 4, 2) := by decide +kernel
theorem d_X1_reckon_116 : decode prog_3_method_6_code 116 = .ok (.aload_n 0, 1) := by decide +kernel
theorem d_X1_reckon_117 : decode prog_3_method_6_code 117 = .ok (.invokevirtual 73, 3) := by decide +kernel
theorem d_X1_reckon_120 : decode prog_3_method_6_code 120 = .ok (.i2l, 1) := by decide +kernel
theorem d_X1_reckon_121 : decode prog_3_method_6_code 121 = .ok (.invokevirtual 84, 3) := by decide +kernel
theorem d_X1_reckon_124 : decode prog_3_method_6_code 124 = .ok (.goto 51, 3) := by decide +kernel
theorem d_X1_reckon_127 : decode prog_3_method_6_code 127 = .ok (.aload_n 0, 1) := by decide +kernel
theorem d_X1_reckon_128 : decode prog_3_method_6_code 128 = .ok (.aload_n 2, 1) := by decide +kernel
theorem d_X1_reckon_129 : decode prog_3_method_6_code 129 = .ok (.aload_n 3, 1) := by decide +kernel
theorem d_X1_reckon_130 : decode prog_3_method_6_code 130 = .ok (.iload_n 1, 1) := by decide +kernel
theorem d_X1_reckon_131 : decode prog_3_method_6_code 131 = .ok (.iconst 2, 1) := by decide +kernel
theorem d_X1_reckon_132 : decode prog_3_method_6_code 132 = .ok (.if_icmp .ne 7, 3) := by decide +kernel
theorem d_X1_reckon_135 : decode prog_3_method_6_code 135 = .ok (.iconst 1, 1) := by decide +kernel
theorem d_X1_reckon_136 : decode prog_3_method_6_code 136 = .ok (.goto 4, 3) := by decide +kernel
theorem d_X1_reckon_139 : decode prog_3_method_6_code 139 = .ok (.iconst (-1), 1) := by decide +kernel
theorem d_X1_reckon_140 : decode prog_3_method_6_code 140 = .ok (.invokevirtual 88, 3) := by decide +kernel
theorem d_X1_reckon_143 : decode prog_3_method_6_code 143 = .ok (.istore 5, 2) := by decide +kernel
theorem d_X1_reckon_145 : decode prog_3_method_6_code 145 = .ok (.iload 5, 2) := by decide +kernel
theorem d_X1_reckon_147 : decode prog_3_method_6_code 147 = .ok (.iconst 0, 1) := by decide +kernel
theorem d_X1_reckon_148 : decode prog_3_method_6_code 148 = .ok (.aload_n 0, 1) := by decide +kernel
theorem d_X1_reckon_149 : decode prog_3_method_6_code 149 = .ok (.getfield 9, 3) := by decide +kernel
theorem d_X1_reckon_152 : decode prog_3_method_6_code 152 = .ok (.iconst 1, 1) := by decide +kernel
theorem d_X1_reckon_153 : decode prog_3_method_6_code 153 = .ok (.isub, 1) := by decide +kernel
theorem d_X1_reckon_154 : decode prog_3_method_6_code 154 = .ok (.invokestatic 92, 3) := by decide +kernel
theorem d_X1_reckon_157 : decode prog_3_method_6_code 157 = .ok (.ifCond .eq 18, 3) := by decide +kernel
theorem d_X1_reckon_160 : decode prog_3_method_6_code 160 = .ok (.aload 4, 2) := by decide +kernel
theorem d_X1_reckon_162 : decode prog_3_method_6_code 162 = .ok (.aload_n 2, 1) := by decide +kernel
theorem d_X1_reckon_163 : decode prog_3_method_6_code 163 = .ok (.iload 5, 2) := by decide +kernel
theorem d_X1_reckon_165 : decode prog_3_method_6_code 165 = .ok (.iaload, 1) := by decide +kernel
theorem d_X1_reckon_166 : decode prog_3_method_6_code 166 = .ok (.i2l, 1) := by decide +kernel
theorem d_X1_reckon_167 : decode prog_3_method_6_code 167 = .ok (.aload_n 3, 1) := by decide +kernel
theorem d_X1_reckon_168 : decode prog_3_method_6_code 168 = .ok (.iload 5, 2) := by decide +kernel
theorem d_X1_reckon_170 : decode prog_3_method_6_code 170 = .ok (.iaload, 1) := by decide +kernel
theorem d_X1_reckon_171 : decode prog_3_method_6_code 171 = .ok (.i2l, 1) := by decide +kernel
theorem d_X1_reckon_172 : decode prog_3_method_6_code 172 = .ok (.invokevirtual 69, 3) := by decide +kernel
theorem d_X1_reckon_175 : decode prog_3_method_6_code 175 = .ok (.return_, 1) := by decide +kernel
theorem d_X1_weighed_0 : decode prog_3_method_7_code 0 = .ok (.lconst 0, 1) := by decide +kernel
theorem d_X1_weighed_1 : decode prog_3_method_7_code 1 = .ok (.lstore_n 2, 1) := by decide +kernel
theorem d_X1_weighed_2 : decode prog_3_method_7_code 2 = .ok (.iconst 0, 1) := by decide +kernel
theorem d_X1_weighed_3 : decode prog_3_method_7_code 3 = .ok (.istore 4, 2) := by decide +kernel
theorem d_X1_weighed_5 : decode prog_3_method_7_code 5 = .ok (.iload 4, 2) := by decide +kernel
theorem d_X1_weighed_7 : decode prog_3_method_7_code 7 = .ok (.aload_n 0, 1) := by decide +kernel
theorem d_X1_weighed_8 : decode prog_3_method_7_code 8 = .ok (.getfield 9, 3) := by decide +kernel
theorem d_X1_weighed_11 : decode prog_3_method_7_code 11 = .ok (.if_icmp .ge 26, 3) := by decide +kernel
theorem d_X1_weighed_14 : decode prog_3_method_7_code 14 = .ok (.lload_n 2, 1) := by decide +kernel
theorem d_X1_weighed_15 : decode prog_3_method_7_code 15 = .ok (.aload_n 1, 1) := by decide +kernel
theorem d_X1_weighed_16 : decode prog_3_method_7_code 16 = .ok (.iload 4, 2) := by decide +kernel
theorem d_X1_weighed_18 : decode prog_3_method_7_code 18 = .ok (.iaload, 1) := by decide +kernel
theorem d_X1_weighed_19 : decode prog_3_method_7_code 19 = .ok (.i2l, 1) := by decide +kernel
theorem d_X1_weighed_20 : decode prog_3_method_7_code 20 = .ok (.aload_n 0, 1) := by decide +kernel
theorem d_X1_weighed_21 : decode prog_3_method_7_code 21 = .ok (.getfield 22, 3) := by decide +kernel
theorem d_X1_weighed_24 : decode prog_3_method_7_code 24 = .ok (.iload 4, 2) := by decide +kernel
theorem d_X1_weighed_26 : decode prog_3_method_7_code 26 = .ok (.iaload, 1) := by decide +kernel
theorem d_X1_weighed_27 : decode prog_3_method_7_code 27 = .ok (.i2l, 1) := by decide +kernel
theorem d_X1_weighed_28 : decode prog_3_method_7_code 28 = .ok (.lmul, 1) := by decide +kernel
theorem d_X1_weighed_29 : decode prog_3_method_7_code 29 = .ok (.ladd, 1) := by decide +kernel
theorem d_X1_weighed_30 : decode prog_3_method_7_code 30 = .ok (.lstore_n 2, 1) := by decide +kernel
theorem d_X1_weighed_31 : decode prog_3_method_7_code 31 = .ok (.iinc 4 1, 3) := by decide +kernel
theorem d_X1_weighed_34 : decode prog_3_method_7_code 34 = .ok (.goto (-29), 3) := by decide +kernel
theorem d_X1_weighed_37 : decode prog_3_method_7_code 37 = .ok (.lload_n 2, 1) := by decide +kernel
theorem d_X1_weighed_38 : decode prog_3_method_7_code 38 = .ok (.lreturn, 1) := by decide +kernel
theorem d_X1_outermost_0 : decode prog_3_method_8_code 0 = .ok (.iconst (-1), 1) := by decide +kernel
theorem d_X1_outermost_1 : decode prog_3_method_8_code 1 = .ok (.istore 4, 2) := by decide +kernel
theorem d_X1_outermost_3 : decode prog_3_method_8_code 3 = .ok (.iconst 0, 1) := by decide +kernel
theorem d_X1_outermost_4 : decode prog_3_method_8_code 4 = .ok (.istore 5, 2) := by decide +kernel
theorem d_X1_outermost_6 : decode prog_3_method_8_code 6 = .ok (.iload 5, 2) := by decide +kernel
theorem d_X1_outermost_8 : decode prog_3_method_8_code 8 = .ok (.aload_n 0, 1) := by decide +kernel
theorem d_X1_outermost_9 : decode prog_3_method_8_code 9 = .ok (.getfield 9, 3) := by decide +kernel
theorem d_X1_outermost_12 : decode prog_3_method_8_code 12 = .ok (.if_icmp .ge 53, 3) := by decide +kernel
theorem d_X1_outermost_15 : decode prog_3_method_8_code 15 = .ok (.aload_n 0, 1) := by decide +kernel
theorem d_X1_outermost_16 : decode prog_3_method_8_code 16 = .ok (.getfield 22, 3) := by decide +kernel
theorem d_X1_outermost_19 : decode prog_3_method_8_code 19 = .ok (.iload 5, 2) := by decide +kernel
theorem d_X1_outermost_21 : decode prog_3_method_8_code 21 = .ok (.iaload, 1) := by decide +kernel
theorem d_X1_outermost_22 : decode prog_3_method_8_code 22 = .ok (.ifCond .le 37, 3) := by decide +kernel
theorem d_X1_outermost_25 : decode prog_3_method_8_code 25 = .ok (.iload 4, 2) := by decide +kernel
theorem d_X1_outermost_27 : decode prog_3_method_8_code 27 = .ok (.iconst (-1), 1) := by decide +kernel
theorem d_X1_outermost_28 : decode prog_3_method_8_code 28 = .ok (.if_icmp .eq 27, 3) := by decide +kernel
theorem d_X1_outermost_31 : decode prog_3_method_8_code 31 = .ok (.iload_n 3, 1) := by decide +kernel
theorem d_X1_outermost_32 : decode prog_3_method_8_code 32 = .ok (.aload_n 1, 1) := by decide +kernel
theorem d_X1_outermost_33 : decode prog_3_method_8_code 33 = .ok (.iload 5, 2) := by decide +kernel
theorem d_X1_outermost_35 : decode prog_3_method_8_code 35 = .ok (.iaload, 1) := by decide +kernel
theorem d_X1_outermost_36 : decode prog_3_method_8_code 36 = .ok (.aload_n 2, 1) := by decide +kernel
theorem d_X1_outermost_37 : decode prog_3_method_8_code 37 = .ok (.iload 4, 2) := by decide +kernel
theorem d_X1_outermost_39 : decode prog_3_method_8_code 39 = .ok (.iaload, 1) := by decide +kernel
theorem d_X1_outermost_40 : decode prog_3_method_8_code 40 = .ok (.imul, 1) := by decide +kernel
theorem d_X1_outermost_41 : decode prog_3_method_8_code 41 = .ok (.aload_n 1, 1) := by decide +kernel
theorem d_X1_outermost_42 : decode prog_3_method_8_code 42 = .ok (.iload 4, 2) := by decide +kernel
theorem d_X1_outermost_44 : decode prog_3_method_8_code 44 = .ok (.iaload, 1) := by decide +kernel
theorem d_X1_outermost_45 : decode prog_3_method_8_code 45 = .ok (.aload_n 2, 1) := by decide +kernel
theorem d_X1_outermost_46 : decode prog_3_method_8_code 46 = .ok (.iload 5, 2) := by decide +kernel
theorem d_X1_outermost_48 : decode prog_3_method_8_code 48 = .ok (.iaload, 1) := by decide +kernel
theorem d_X1_outermost_49 : decode prog_3_method_8_code 49 = .ok (.imul, 1) := by decide +kernel
theorem d_X1_outermost_50 : decode prog_3_method_8_code 50 = .ok (.isub, 1) := by decide +kernel
theorem d_X1_outermost_51 : decode prog_3_method_8_code 51 = .ok (.imul, 1) := by decide +kernel
theorem d_X1_outermost_52 : decode prog_3_method_8_code 52 = .ok (.ifCond .le 7, 3) := by decide +kernel
theorem d_X1_outermost_55 : decode prog_3_method_8_code 55 = .ok (.iload 5, 2) := by decide +kernel
theorem d_X1_outermost_57 : decode prog_3_method_8_code 57 = .ok (.istore 4, 2) := by decide +kernel
theorem d_X1_outermost_59 : decode prog_3_method_8_code 59 = .ok (.iinc 5 1, 3) := by decide +kernel
theorem d_X1_outermost_62 : decode prog_3_method_8_code 62 = .ok (.goto (-56), 3) := by decide +kernel
theorem d_X1_outermost_65 : decode prog_3_method_8_code 65 = .ok (.iload 4, 2) := by decide +kernel
theorem d_X1_outermost_67 : decode prog_3_method_8_code 67 = .ok (.ireturn, 1) := by decide +kernel
theorem d_X1_hundredths_0 : decode prog_3_method_9_code 0 = .ok (.aload_n 0, 1) := by decide +kernel
theorem d_X1_hundredths_1 : decode prog_3_method_9_code 1 = .ok (.invokevirtual 73, 3) := by decide +kernel
theorem d_X1_hundredths_4 : decode prog_3_method_9_code 4 = .ok (.ifCond .ne 8, 3) := by decide +kernel
theorem d_X1_hundredths_7 : decode prog_3_method_9_code 7 = .ok (.bipush 100, 2) := by decide +kernel
theorem d_X1_hundredths_9 : decode prog_3_method_9_code 9 = .ok (.goto 9, 3) := by decide +kernel
theorem d_X1_hundredths_12 : decode prog_3_method_9_code 12 = .ok (.aload_n 0, 1) := by decide +kernel
theorem d_X1_hundredths_13 : decode prog_3_method_9_code 13 = .ok (.bipush 100, 2) := by decide +kernel
theorem d_X1_hundredths_15 : decode prog_3_method_9_code 15 = .ok (.invokevirtual 96, 3) := by decide +kernel
theorem d_X1_hundredths_18 : decode prog_3_method_9_code 18 = .ok (.ireturn, 1) := by decide +kernel
theorem d_X1_thousandths_0 : decode prog_3_method_10_code 0 = .ok (.aload_n 0, 1) := by decide +kernel
theorem d_X1_thousandths_1 : decode prog_3_method_10_code 1 = .ok (.sipush 1000, 3) := by decide +kernel
theorem d_X1_thousandths_4 : decode prog_3_method_10_code 4 = .ok (.invokevirtual 96, 3) := by decide +kernel
theorem d_X1_thousandths_7 : decode prog_3_method_10_code 7 = .ok (.ireturn, 1) := by decide +kernel
theorem d_X1_cutTimes_0 : decode prog_3_method_11_code 0 = .ok (.aload_n 0, 1) := by decide +kernel
theorem d_X1_cutTimes_1 : decode prog_3_method_11_code 1 = .ok (.aload_n 0, 1) := by decide +kernel
theorem d_X1_cutTimes_2 : decode prog_3_method_11_code 2 = .ok (.getfield 15, 3) := by decide +kernel
theorem d_X1_cutTimes_5 : decode prog_3_method_11_code 5 = .ok (.invokevirtual 77, 3) := by decide +kernel
theorem d_X1_cutTimes_8 : decode prog_3_method_11_code 8 = .ok (.lstore_n 2, 1) := by decide +kernel
theorem d_X1_cutTimes_9 : decode prog_3_method_11_code 9 = .ok (.lload_n 2, 1) := by decide +kernel
theorem d_X1_cutTimes_10 : decode prog_3_method_11_code 10 = .ok (.lconst 0, 1) := by decide +kernel
theorem d_X1_cutTimes_11 : decode prog_3_method_11_code 11 = .ok (.lcmp, 1) := by decide +kernel
theorem d_X1_cutTimes_12 : decode prog_3_method_11_code 12 = .ok (.ifCond .ne 7, 3) := by decide +kernel
theorem d_X1_cutTimes_15 : decode prog_3_method_11_code 15 = .ok (.iconst 0, 1) := by decide +kernel
theorem d_X1_cutTimes_16 : decode prog_3_method_11_code 16 = .ok (.goto 17, 3) := by decide +kernel
theorem d_X1_cutTimes_19 : decode prog_3_method_11_code 19 = .ok (.iload_n 1, 1) := by decide +kernel
theorem d_X1_cutTimes_20 : decode prog_3_method_11_code 20 = .ok (.i2l, 1) := by decide +kernel
theorem d_X1_cutTimes_21 : decode prog_3_method_11_code 21 = .ok (.aload_n 0, 1) := by decide +kernel
theorem d_X1_cutTimes_22 : decode prog_3_method_11_code 22 = .ok (.aload_n 0, 1) := by decide +kernel
theorem d_X1_cutTimes_23 : decode prog_3_method_11_code 23 = .ok (.getfield 19, 3) := by decide +kernel
theorem d_X1_cutTimes_26 : decode prog_3_method_11_code 26 = .ok (.invokevirtual 77, 3) := by decide +kernel
theorem d_X1_cutTimes_29 : decode prog_3_method_11_code 29 = .ok (.lmul, 1) := by decide +kernel
theorem d_X1_cutTimes_30 : decode prog_3_method_11_code 30 = .ok (.lload_n 2, 1) := by decide +kernel
theorem d_X1_cutTimes_31 : decode prog_3_method_11_code 31 = .ok (.ldiv, 1) := by decide +kernel
theorem d_X1_cutTimes_32 : decode prog_3_method_11_code 32 = .ok (.l2i, 1) := by decide +kernel
theorem d_X1_cutTimes_33 : decode prog_3_method_11_code 33 = .ok (.ireturn, 1) := by decide +kernel
theorem d_X2_init_0 : decode prog_4_method_1_code 0 = .ok (.aload_n 0, 1) := by decide +kernel
theorem d_X2_init_1 : decode prog_4_method_1_code 1 = .ok (.invokespecial 1, 3) := by decide +kernel
theorem d_X2_init_4 : decode prog_4_method_1_code 4 = .ok (.aload_n 0, 1) := by decide +kernel
theorem d_X2_init_5 : decode prog_4_method_1_code 5 = .ok (.lconst 0, 1) := by decide +kernel
theorem d_X2_init_6 : decode prog_4_method_1_code 6 = .ok (.putfield 7, 3) := by decide +kernel
theorem d_X2_init_9 : decode prog_4_method_1_code 9 = .ok (.aload_n 0, 1) := by decide +kernel
theorem d_X2_init_10 : decode prog_4_method_1_code 10 = .ok (.lconst 1, 1) := by decide +kernel
theorem d_X2_init_11 : decode prog_4_method_1_code 11 = .ok (.putfield 13, 3) := by decide +kernel
theorem d_X2_init_14 : decode prog_4_method_1_code 14 = .ok (.return_, 1) := by decide +kernel
theorem d_X2_put_0 : decode prog_4_method_2_code 0 = .ok (.lload_n 1, 1) := by decide +kernel
theorem d_X2_put_1 : decode prog_4_method_2_code 1 = .ok (.invokestatic 16, 3) := by decide +kernel
theorem d_X2_put_4 : decode prog_4_method_2_code 4 = .ok (.lload_n 3, 1) := by decide +kernel
theorem d_X2_put_5 : decode prog_4_method_2_code 5 = .ok (.invokestatic 16, 3) := by decide +kernel
theorem d_X2_put_8 : decode prog_4_method_2_code 8 = .ok (.invokestatic 22, 3) := by decide +kernel
theorem d_X2_put_11 : decode prog_4_method_2_code 11 = .ok (.lstore 5, 2) := by decide +kernel
theorem d_X2_put_13 : decode prog_4_method_2_code 13 = .ok (.lload_n 3, 1) := by decide +kernel
theorem d_X2_put_14 : decode prog_4_method_2_code 14 = .ok (.lconst 0, 1) := by decide +kernel
theorem d_X2_put_15 : decode prog_4_method_2_code 15 = .ok (.lcmp, 1) := by decide +kernel
theorem d_X2_put_16 : decode prog_4_method_2_code 16 = .ok (.ifCond .eq 10, 3) := by decide +kernel
theorem d_X2_put_19 : decode prog_4_method_2_code 19 = .ok (.lload 5, 2) := by decide +kernel
theorem d_X2_put_21 : decode prog_4_method_2_code 21 = .ok (.lconst 0, 1) := by decide +kernel
theorem d_X2_put_22 : decode prog_4_method_2_code 22 = .ok (.lcmp, 1) := by decide +kernel
theorem d_X2_put_23 : decode prog_4_method_2_code 23 = .ok (.ifCond .ne 14, 3) := by decide +kernel
theorem d_X2_put_26 : decode prog_4_method_2_code 26 = .ok (.aload_n 0, 1) := by decide +kernel
theorem d_X2_put_27 : decode prog_4_method_2_code 27 = .ok (.lconst 0, 1) := by decide +kernel
theorem d_X2_put_28 : decode prog_4_method_2_code 28 = .ok (.putfield 7, 3) := by decide +kernel
theorem d_X2_put_31 : decode prog_4_method_2_code 31 = .ok (.aload_n 0, 1) := by decide +kernel
theorem d_X2_put_32 : decode prog_4_method_2_code 32 = .ok (.lconst 1, 1) := by decide +kernel
theorem d_X2_put_33 : decode prog_4_method_2_code 33 = .ok (.putfield 13, 3) := by decide +kernel
theorem d_X2_put_36 : decode prog_4_method_2_code 36 = .ok (.return_, 1) := by decide +kernel
theorem d_X2_put_37 : decode prog_4_method_2_code 37 = .ok (.lload_n 3, 1) := by decide +kernel
theorem d_X2_put_38 : decode prog_4_method_2_code 38 = .ok (.lconst 0, 1) := by decide +kernel
theorem d_X2_put_39 : decode prog_4_method_2_code 39 = .ok (.lcmp, 1) := by decide +kernel
theorem d_X2_put_40 : decode prog_4_method_2_code 40 = .ok (.ifCond .ge 9, 3) := by decide +kernel
theorem d_X2_put_43 : decode prog_4_method_2_code 43 = .ok (.ldc2_w 26, 3) := by decide +kernel
theorem d_X2_put_46 : decode prog_4_method_2_code 46 = .ok (.goto 4, 3) := by decide +kernel
theorem d_X2_put_49 : decode prog_4_method_2_code 49 = .ok (.lconst 1, 1) := by decide +kernel
theorem d_X2_put_50 : decode prog_4_method_2_code 50 = .ok (.lstore 7, 2) := by decide +kernel
theorem d_X2_put_52 : decode prog_4_method_2_code 52 = .ok (.aload_n 0, 1) := by decide +kernel
theorem d_X2_put_53 : decode prog_4_method_2_code 53 = .ok (.lload 7, 2) := by decide +kernel
theorem d_X2_put_55 : decode prog_4_method_2_code 55 = .ok (.lload_n 1, 1) := by decide +kernel
theorem d_X2_put_56 : decode prog_4_method_2_code 56 = .ok (.lmul, 1) := by decide +kernel
theorem d_X2_put_57 : decode prog_4_method_2_code 57 = .ok (.lload 5, 2) := by decide +kernel
theorem d_X2_put_59 : decode prog_4_method_2_code 59 = .ok (.ldiv, 1) := by decide +kernel
theorem d_X2_put_60 : decode prog_4_method_2_code 60 = .ok (.putfield 7, 3) := by decide +kernel
theorem d_X2_put_63 : decode prog_4_method_2_code 63 = .ok (.aload_n 0, 1) := by decide +kernel
theorem d_X2_put_64 : decode prog_4_method_2_code 64 = .ok (.lload 7, 2) := by decide +kernel
theorem d_X2_put_66 : decode prog_4_method_2_code 66 = .ok (.lload_n 3, 1) := by decide +kernel
theorem d_X2_put_67 : decode prog_4_method_2_code 67 = .ok (.lmul, 1) := by decide +kernel
theorem d_X2_put_68 : decode prog_4_method_2_code 68 = .ok (.lload 5, 2) := by decide +kernel
theorem d_X2_put_70 : decode prog_4_method_2_code 70 = .ok (.ldiv, 1) := by decide +kernel
theorem d_X2_put_71 : decode prog_4_method_2_code 71 = .ok (.putfield 13, 3) := by decide +kernel
theorem d_X2_put_74 : decode prog_4_method_2_code 74 = .ok (.return_, 1) := by decide +kernel
theorem d_X2_add_0 : decode prog_4_method_3_code 0 = .ok (.aload_n 0, 1) := by decide +kernel
theorem d_X2_add_1 : decode prog_4_method_3_code 1 = .ok (.aload_n 0, 1) := by decide +kernel
theorem d_X2_add_2 : decode prog_4_method_3_code 2 = .ok (.getfield 7, 3) := by decide +kernel
theorem d_X2_add_5 : decode prog_4_method_3_code 5 = .ok (.lload_n 3, 1) := by decide +kernel
theorem d_X2_add_6 : decode prog_4_method_3_code 6 = .ok (.lmul, 1) := by decide +kernel
theorem d_X2_add_7 : decode prog_4_method_3_code 7 = .ok (.lload_n 1, 1) := by decide +kernel
theorem d_X2_add_8 : decode prog_4_method_3_code 8 = .ok (.aload_n 0, 1) := by decide +kernel
theorem d_X2_add_9 : decode prog_4_method_3_code 9 = .ok (.getfield 13, 3) := by decide +kernel
theorem d_X2_add_12 : decode prog_4_method_3_code 12 = .ok (.lmul, 1) := by decide +kernel
theorem d_X2_add_13 : decode prog_4_method_3_code 13 = .ok (.ladd, 1) := by decide +kernel
theorem d_X2_add_14 : decode prog_4_method_3_code 14 = .ok (.aload_n 0, 1) := by decide +kernel
theorem d_X2_add_15 : decode prog_4_method_3_code 15 = .ok (.getfield 13, 3) := by decide +kernel
theorem d_X2_add_18 : decode prog_4_method_3_code 18 = .ok (.lload_n 3, 1) := by decide +kernel
theorem d_X2_add_19 : decode prog_4_method_3_code 19 = .ok (.lmul, 1) := by decide +kernel
theorem d_X2_add_20 : decode prog_4_method_3_code 20 = .ok (.invokevirtual 28, 3) := by decide +kernel
theorem d_X2_add_23 : decode prog_4_method_3_code 23 = .ok (.return_, 1) := by decide +kernel
theorem d_X2_multiply_0 : decode prog_4_method_4_code 0 = .ok (.aload_n 0, 1) := by decide +kernel
theorem d_X2_multiply_1 : decode prog_4_method_4_code 1 = .ok (.aload_n 0, 1) := by decide +kernel
theorem d_X2_multiply_2 : decode prog_4_method_4_code 2 = .ok (.getfield 7, 3) := by decide +kernel
theorem d_X2_multiply_5 : decode prog_4_method_4_code 5 = .ok (.aload_n 1, 1) := by decide +kernel
theorem d_X2_multiply_6 : decode prog_4_method_4_code 6 = .ok (.getfield 7, 3) := by decide +kernel
theorem d_X2_multiply_9 : decode prog_4_method_4_code 9 = .ok (.lmul, 1) := by decide +kernel
theorem d_X2_multiply_10 : decode prog_4_method_4_code 10 = .ok (.aload_n 0, 1) := by decide +kernel
theorem d_X2_multiply_11 : decode prog_4_method_4_code 11 = .ok (.getfield 13, 3) := by decide +kernel
theorem d_X2_multiply_14 : decode prog_4_method_4_code 14 = .ok (.aload_n 1, 1) := by decide +kernel
theorem d_X2_multiply_15 : decode prog_4_method_4_code 15 = .ok (.getfield 13, 3) := by decide +kernel
theorem d_X2_multiply_18 : decode prog_4_method_4_code 18 = .ok (.lmul, 1) := by decide +kernel
theorem d_X2_multiply_19 : decode prog_4_method_4_code 19 = .ok (.invokevirtual 28, 3) := by decide +kernel
theorem d_X2_multiply_22 : decode prog_4_method_4_code 22 = .ok (.return_, 1) := by decide +kernel
theorem d_X2_divide_0 : decode prog_4_method_5_code 0 = .ok (.aload_n 0, 1) := by decide +kernel
theorem d_X2_divide_1 : decode prog_4_method_5_code 1 = .ok (.aload_n 0, 1) := by decide +kernel
theorem d_X2_divide_2 : decode prog_4_method_5_code 2 = .ok (.getfield 7, 3) := by decide +kernel
theorem d_X2_divide_5 : decode prog_4_method_5_code 5 = .ok (.aload_n 0, 1) := by decide +kernel
theorem d_X2_divide_6 : decode prog_4_method_5_code 6 = .ok (.getfield 13, 3) := by decide +kernel
theorem d_X2_divide_9 : decode prog_4_method_5_code 9 = .ok (.lload_n 1, 1) := by decide +kernel
theorem d_X2_divide_10 : decode prog_4_method_5_code 10 = .ok (.lmul, 1) := by decide +kernel
theorem d_X2_divide_11 : decode prog_4_method_5_code 11 = .ok (.invokevirtual 28, 3) := by decide +kernel
theorem d_X2_divide_14 : decode prog_4_method_5_code 14 = .ok (.return_, 1) := by decide +kernel
theorem d_X2_side_0 : decode prog_4_method_6_code 0 = .ok (.iload_n 1, 1) := by decide +kernel
theorem d_X2_side_1 : decode prog_4_method_6_code 1 = .ok (.ifCond .ne 10, 3) := by decide +kernel
theorem d_X2_side_4 : decode prog_4_method_6_code 4 = .ok (.aload_n 0, 1) := by decide +kernel
theorem d_X2_side_5 : decode prog_4_method_6_code 5 = .ok (.getfield 7, 3) := by decide +kernel
theorem d_X2_side_8 : decode prog_4_method_6_code 8 = .ok (.goto 7, 3) := by decide +kernel
theorem d_X2_side_11 : decode prog_4_method_6_code 11 = .ok (.aload_n 0, 1) := by decide +kernel
theorem d_X2_side_12 : decode prog_4_method_6_code 12 = .ok (.getfield 13, 3) := by decide +kernel
theorem d_X2_side_15 : decode prog_4_method_6_code 15 = .ok (.lreturn, 1) := by decide +kernel
theorem d_X2_commonDivisor_0 : decode prog_4_method_7_code 0 = .ok (.lload_n 0, 1) := by decide +kernel
theorem d_X2_commonDivisor_1 : decode prog_4_method_7_code 1 = .ok (.lstore 4, 2) := by decide +kernel
theorem d_X2_commonDivisor_3 : decode prog_4_method_7_code 3 = .ok (.lload_n 2, 1) := by decide +kernel
theorem d_X2_commonDivisor_4 : decode prog_4_method_7_code 4 = .ok (.lstore 6, 2) := by decide +kernel
theorem d_X2_commonDivisor_6 : decode prog_4_method_7_code 6 = .ok (.iconst 0, 1) := by decide +kernel
theorem d_X2_commonDivisor_7 : decode prog_4_method_7_code 7 = .ok (.istore 8, 2) := by decide +kernel
theorem d_X2_commonDivisor_9 : decode prog_4_method_7_code 9 = .ok (.iload 8, 2) := by decide +kernel
theorem d_X2_commonDivisor_11 : decode prog_4_method_7_code 11 = .ok (.sipush 200, 3) := by decide +kernel
theorem d_X2_commonDivisor_14 : decode prog_4_method_7_code 14 = .ok (.if_icmp .ge 31, 3) := by decide +kernel
theorem d_X2_commonDivisor_17 : decode prog_4_method_7_code 17 = .ok (.lload 6, 2) := by decide +kernel
theorem d_X2_commonDivisor_19 : decode prog_4_method_7_code 19 = .ok (.lconst 0, 1) := by decide +kernel
theorem d_X2_commonDivisor_20 : decode prog_4_method_7_code 20 = .ok (.lcmp, 1) := by decide +kernel
theorem d_X2_commonDivisor_21 : decode prog_4_method_7_code 21 = .ok (.ifCond .eq 24, 3) := by decide +kernel
theorem d_X2_commonDivisor_24 : decode prog_4_method_7_code 24 = .ok (.lload 4, 2) := by decide +kernel
theorem d_X2_commonDivisor_26 : decode prog_4_method_7_code 26 = .ok (.lload 6, 2) := by decide +kernel
theorem d_X2_commonDivisor_28 : decode prog_4_method_7_code 28 = .ok (.lrem, 1) := by decide +kernel
theorem d_X2_commonDivisor_29 : decode prog_4_method_7_code 29 = .ok (.lstore 9, 2) := by decide +kernel
theorem d_X2_commonDivisor_31 : decode prog_4_method_7_code 31 = .ok (.lload 6, 2) := by decide +kernel
theorem d_X2_commonDivisor_33 : decode prog_4_method_7_code 33 = .ok (.lstore 4, 2) := by decide +kernel
theorem d_X2_commonDivisor_35 : decode prog_4_method_7_code 35 = .ok (.lload 9, 2) := by decide +kernel
theorem d_X2_commonDivisor_37 : decode prog_4_method_7_code 37 = .ok (.lstore 6, 2) := by decide +kernel
theorem d_X2_commonDivisor_39 : decode prog_4_method_7_code 39 = .ok (.iinc 8 1, 3) := by decide +kernel
theorem d_X2_commonDivisor_42 : decode prog_4_method_7_code 42 = .ok (.goto (-33), 3) := by decide +kernel
theorem d_X2_commonDivisor_45 : decode prog_4_method_7_code 45 = .ok (.lload 4, 2) := by decide +kernel
theorem d_X2_commonDivisor_47 : decode prog_4_method_7_code 47 = .ok (.lreturn, 1) := by decide +kernel
theorem d_X3_init_0 : decode prog_5_method_1_code 0 = .ok (.aload_n 0, 1) := by decide +kernel
theorem d_X3_init_1 : decode prog_5_method_1_code 1 = .ok (.invokespecial 3, 3) := by decide +kernel
theorem d_X3_init_4 : decode prog_5_method_1_code 4 = .ok (.aload_n 0, 1) := by decide +kernel
theorem d_X3_init_5 : decode prog_5_method_1_code 5 = .ok (.iconst 0, 1) := by decide +kernel
theorem d_X3_init_6 : decode prog_5_method_1_code 6 = .ok (.putfield 9, 3) := by decide +kernel
theorem d_X3_init_9 : decode prog_5_method_1_code 9 = .ok (.aload_n 0, 1) := by decide +kernel
theorem d_X3_init_10 : decode prog_5_method_1_code 10 = .ok (.bipush 16, 2) := by decide +kernel
theorem d_X3_init_12 : decode prog_5_method_1_code 12 = .ok (.newarray .int, 2) := by decide +kernel
theorem d_X3_init_14 : decode prog_5_method_1_code 14 = .ok (.putfield 15, 3) := by decide +kernel
theorem d_X3_init_17 : decode prog_5_method_1_code 17 = .ok (.aload_n 0, 1) := by decide +kernel
theorem d_X3_init_18 : decode prog_5_method_1_code 18 = .ok (.bipush 16, 2) := by decide +kernel
theorem d_X3_init_20 : decode prog_5_method_1_code 20 = .ok (.newarray .int, 2) := by decide +kernel
theorem d_X3_init_22 : decode prog_5_method_1_code 22 = .ok (.putfield 19, 3) := by decide +kernel
theorem d_X3_init_25 : decode prog_5_method_1_code 25 = .ok (.aload_n 0, 1) := by decide +kernel
theorem d_X3_init_26 : decode prog_5_method_1_code 26 = .ok (.bipush 16, 2) := by decide +kernel
theorem d_X3_init_28 : decode prog_5_method_1_code 28 = .ok (.newarray .int, 2) := by decide +kernel
theorem d_X3_init_30 : decode prog_5_method_1_code 30 = .ok (.putfield 22, 3) := by decide +kernel
theorem d_X3_init_33 : decode prog_5_method_1_code 33 = .ok (.aload_n 0, 1) := by decide +kernel
theorem d_X3_init_34 : decode prog_5_method_1_code 34 = .ok (.sipush 128, 3) := by decide +kernel
theorem d_X3_init_37 : decode prog_5_method_1_code 37 = .ok (.newarray .int, 2) := by decide +kernel
theorem d_X3_init_39 : decode prog_5_method_1_code 39 = .ok (.putfield 25, 3) := by decide +kernel
theorem d_X3_init_42 : decode prog_5_method_1_code 42 = .ok (.return_, 1) := by decide +kernel
theorem d_X3_clear_0 : decode prog_5_method_2_code 0 = .ok (.aload_n 0, 1) := by decide +kernel
theorem d_X3_clear_1 : decode prog_5_method_2_code 1 = .ok (.iconst 0, 1) := by decide +kernel
theorem d_X3_clear_2 : decode prog_5_method_2_code 2 = .ok (.putfield 9, 3) := by decide +kernel
theorem d_X3_clear_5 : decode prog_5_method_2_code 5 = .ok (.return_, 1) := by decide +kernel
theorem d_X3_copyFrom_0 : decode prog_5_method_3_code 0 = .ok (.aload_n 0, 1) := by decide +kernel
theorem d_X3_copyFrom_1 : decode prog_5_method_3_code 1 = .ok (.aload_n 1, 1) := by decide +kernel
theorem d_X3_copyFrom_2 : decode prog_5_method_3_code 2 = .ok (.getfield 9, 3) := by decide +kernel
theorem d_X3_copyFrom_5 : decode prog_5_method_3_code 5 = .ok (.putfield 9, 3) := by decide +kernel
theorem d_X3_copyFrom_8 : decode prog_5_method_3_code 8 = .ok (.aload_n 1, 1) := by decide +kernel
theorem d_X3_copyFrom_9 : decode prog_5_method_3_code 9 = .ok (.getfield 15, 3) := by decide +kernel
theorem d_X3_copyFrom_12 : decode prog_5_method_3_code 12 = .ok (.iconst 0, 1) := by decide +kernel
theorem d_X3_copyFrom_13 : decode prog_5_method_3_code 13 = .ok (.aload_n 0, 1) := by decide +kernel
theorem d_X3_copyFrom_14 : decode prog_5_method_3_code 14 = .ok (.getfield 15, 3) := by decide +kernel
theorem d_X3_copyFrom_17 : decode prog_5_method_3_code 17 = .ok (.iconst 0, 1) := by decide +kernel
theorem d_X3_copyFrom_18 : decode prog_5_method_3_code 18 = .ok (.bipush 16, 2) := by decide +kernel
theorem d_X3_copyFrom_20 : decode prog_5_method_3_code 20 = .ok (.invokestatic 28, 3) := by decide +kernel
theorem d_X3_copyFrom_23 : decode prog_5_method_3_code 23 = .ok (.aload_n 1, 1) := by decide +kernel
theorem d_X3_copyFrom_24 : decode prog_5_method_3_code 24 = .ok (.getfield 19, 3) := by decide +kernel
theorem d_X3_copyFrom_27 : decode prog_5_method_3_code 27 = .ok (.iconst 0, 1) := by decide +kernel
theorem d_X3_copyFrom_28 : decode prog_5_method_3_code 28 = .ok (.aload_n 0, 1) := by decide +kernel
theorem d_X3_copyFrom_29 : decode prog_5_method_3_code 29 = .ok (.getfield 19, 3) := by decide +kernel
theorem d_X3_copyFrom_32 : decode prog_5_method_3_code 32 = .ok (.iconst 0, 1) := by decide +kernel
theorem d_X3_copyFrom_33 : decode prog_5_method_3_code 33 = .ok (.bipush 16, 2) := by decide +kernel
theorem d_X3_copyFrom_35 : decode prog_5_method_3_code 35 = .ok (.invokestatic 28, 3) := by decide +kernel
theorem d_X3_copyFrom_38 : decode prog_5_method_3_code 38 = .ok (.aload_n 1, 1) := by decide +kernel
theorem d_X3_copyFrom_39 : decode prog_5_method_3_code 39 = .ok (.getfield 22, 3) := by decide +kernel
theorem d_X3_copyFrom_42 : decode prog_5_method_3_code 42 = .ok (.iconst 0, 1) := by decide +kernel
theorem d_X3_copyFrom_43 : decode prog_5_method_3_code 43 = .ok (.aload_n 0, 1) := by decide +kernel
theorem d_X3_copyFrom_44 : decode prog_5_method_3_code 44 = .ok (.getfield 22, 3) := by decide +kernel
theorem d_X3_copyFrom_47 : decode prog_5_method_3_code 47 = .ok (.iconst 0, 1) := by decide +kernel
theorem d_X3_copyFrom_48 : decode prog_5_method_3_code 48 = .ok (.bipush 16, 2) := by decide +kernel
theorem d_X3_copyFrom_50 : decode prog_5_method_3_code 50 = .ok (.invokestatic 28, 3) := by decide +kernel
theorem d_X3_copyFrom_53 : decode prog_5_method_3_code 53 = .ok (.aload_n 1, 1) := by decide +kernel
theorem d_X3_copyFrom_54 : decode prog_5_method_3_code 54 = .ok (.getfield 25, 3) := by decide +kernel
theorem d_X3_copyFrom_57 : decode prog_5_method_3_code 57 = .ok (.iconst 0, 1) := by decide +kernel
theorem d_X3_copyFrom_58 : decode prog_5_method_3_code 58 = .ok (.aload_n 0, 1) := by decide +kernel
theorem d_X3_copyFrom_59 : decode prog_5_method_3_code 59 = .ok (.getfield 25, 3) := by decide +kernel
theorem d_X3_copyFrom_62 : decode prog_5_method_3_code 62 = .ok (.iconst 0, 1) := by decide +kernel
theorem d_X3_copyFrom_63 : decode prog_5_method_3_code 63 = .ok (.sipush 128, 3) := by decide +kernel
theorem d_X3_copyFrom_66 : decode prog_5_method_3_code 66 = .ok (.invokestatic 28, 3) := by decide +kernel
theorem d_X3_copyFrom_69 : decode prog_5_method_3_code 69 = .ok (.return_, 1) := by decide +kernel
theorem d_X3_remember_0 : decode prog_5_method_4_code 0 = .ok (.aload_n 0, 1) := by decide +kernel
theorem d_X3_remember_1 : decode prog_5_method_4_code 1 = .ok (.getfield 9, 3) := by decide +kernel
theorem d_X3_remember_4 : decode prog_5_method_4_code 4 = .ok (.bipush 16, 2) := by decide +kernel
theorem d_X3_remember_6 : decode prog_5_method_4_code 6 = .ok (.if_icmp .lt 7, 3) := by decide +kernel
theorem d_X3_remember_9 : decode prog_5_method_4_code 9 = .ok (.aload_n 0, 1) := by decide +kernel
theorem d_X3_remember_10 : decode prog_5_method_4_code 10 = .ok (.invokevirtual 34, 3) := by decide +kernel
theorem d_X3_remember_13 : decode prog_5_method_4_code 13 = .ok (.aload_n 0, 1) := by decide +kernel
theorem d_X3_remember_14 : decode prog_5_method_4_code 14 = .ok (.getfield 15, 3) := by decide +kernel
theorem d_X3_remember_17 : decode prog_5_method_4_code 17 = .ok (.aload_n 0, 1) := by decide +kernel
theorem d_X3_remember_18 : decode prog_5_method_4_code 18 = .ok (.getfield 9, 3) := by decide +kernel
theorem d_X3_remember_21 : decode prog_5_method_4_code 21 = .ok (.iload_n 1, 1) := by decide +kernel
theorem d_X3_remember_22 : decode prog_5_method_4_code 22 = .ok (.iastore, 1) := by decide +kernel
theorem d_X3_remember_23 : decode prog_5_method_4_code 23 = .ok (.aload_n 0, 1) := by decide +kernel
theorem d_X3_remember_24 : decode prog_5_method_4_code 24 = .ok (.getfield 19, 3) := by decide +kernel
theorem d_X3_remember_27 : decode prog_5_method_4_code 27 = .ok (.aload_n 0, 1) := by decide +kernel
theorem d_X3_remember_28 : decode prog_5_method_4_code 28 = .ok (.getfield 9, 3) := by decide +kernel
theorem d_X3_remember_31 : decode prog_5_method_4_code 31 = .ok (.iload_n 2, 1) := by decide +kernel
theorem d_X3_remember_32 : decode prog_5_method_4_code 32 = .ok (.iastore, 1) := by decide +kernel
theorem d_X3_remember_33 : decode prog_5_method_4_code 33 = .ok (.aload_n 0, 1) := by decide +kernel
theorem d_X3_remember_34 : decode prog_5_method_4_code 34 = .ok (.getfield 22, 3) := by decide +kernel
theorem d_X3_remember_37 : decode prog_5_method_4_code 37 = .ok (.aload_n 0, 1) := by decide +kernel
theorem d_X3_remember_38 : decode prog_5_method_4_code 38 = .ok (.getfield 9, 3) := by decide +kernel
theorem d_X3_remember_41 : decode prog_5_method_4_code 41 = .ok (.aload_n 3, 1) := by decide +kernel
theorem d_X3_remember_42 : decode prog_5_method_4_code 42 = .ok (.iload_n 2, 1) := by decide +kernel
theorem d_X3_remember_43 : decode prog_5_method_4_code 43 = .ok (.iconst 2, 1) := by decide +kernel
theorem d_X3_remember_44 : decode prog_5_method_4_code 44 = .ok (.invokevirtual 37, 3) := by decide +kernel
theorem d_X3_remember_47 : decode prog_5_method_4_code 47 = .ok (.iastore, 1) := by decide +kernel
theorem d_X3_remember_48 : decode prog_5_method_4_code 48 = .ok (.iconst 0, 1) := by decide +kernel
theorem d_X3_remember_49 : decode prog_5_method_4_code 49 = .ok (.istore 4, 2) := by decide +kernel
theorem d_X3_remember_51 : decode prog_5_method_4_code 51 = .ok (.iload 4, 2) := by decide +kernel
theorem d_X3_remember_53 : decode prog_5_method_4_code 53 = .ok (.bipush 8, 2) := by decide +kernel
theorem d_X3_remember_55 : decode prog_5_method_4_code 55 = .ok (.if_icmp .ge 31, 3) := by decide +kernel
theorem d_X3_remember_58 : decode prog_5_method_4_code 58 = .ok (.aload_n 0, 1) := by decide +kernel
theorem d_X3_remember_59 : decode prog_5_method_4_code 59 = .ok (.getfield 25, 3) := by decide +kernel
theorem d_X3_remember_62 : decode prog_5_method_4_code 62 = .ok (.aload_n 0, 1) := by decide +kernel
theorem d_X3_remember_63 : decode prog_5_method_4_code 63 = .ok (.getfield 9, 3) := by decide +kernel
theorem d_X3_remember_66 : decode prog_5_method_4_code 66 = .ok (.bipush 8, 2) := by decide +kernel
theorem d_X3_remember_68 : decode prog_5_method_4_code 68 = .ok (.imul, 1) := by decide +kernel
theorem d_X3_remember_69 : decode prog_5_method_4_code 69 = .ok (.iload 4, 2) := by decide +kernel
theorem d_X3_remember_71 : decode prog_5_method_4_code 71 = .ok (.iadd, 1) := by decide +kernel
theorem d_X3_remember_72 : decode prog_5_method_4_code 72 = .ok (.aload_n 3, 1) := by decide +kernel
theorem d_X3_remember_73 : decode prog_5_method_4_code 73 = .ok (.iload 4, 2) := by decide +kernel
theorem d_X3_remember_75 : decode prog_5_method_4_code 75 = .ok (.iconst 1, 1) := by decide +kernel
theorem d_X3_remember_76 : decode prog_5_method_4_code 76 = .ok (.invokevirtual 37, 3) := by decide +kernel
theorem d_X3_remember_79 : decode prog_5_method_4_code 79 = .ok (.iastore, 1) := by decide +kernel
theorem d_X3_remember_80 : decode prog_5_method_4_code 80 = .ok (.iinc 4 1, 3) := by decide +kernel
theorem d_X3_remember_83 : decode prog_5_method_4_code 83 = .ok (.goto (-32), 3) := by decide +kernel
theorem d_X3_remember_86 : decode prog_5_method_4_code 86 = .ok (.aload_n 0, 1) := by decide +kernel
theorem d_X3_remember_87 : decode prog_5_method_4_code 87 = .ok (.dup, 1) := by decide +kernel
theorem d_X3_remember_88 : decode prog_5_method_4_code 88 = .ok (.getfield 9, 3) := by decide +kernel
theorem d_X3_remember_91 : decode prog_5_method_4_code 91 = .ok (.iconst 1, 1) := by decide +kernel
theorem d_X3_remember_92 : decode prog_5_method_4_code 92 = .ok (.iadd, 1) := by decide +kernel
theorem d_X3_remember_93 : decode prog_5_method_4_code 93 = .ok (.putfield 9, 3) := by decide +kernel
theorem d_X3_remember_96 : decode prog_5_method_4_code 96 = .ok (.return_, 1) := by decide +kernel
theorem d_X3_dropOldest_0 : decode prog_5_method_5_code 0 = .ok (.aload_n 0, 1) := by decide +kernel
theorem d_X3_dropOldest_1 : decode prog_5_method_5_code 1 = .ok (.getfield 15, 3) := by decide +kernel
theorem d_X3_dropOldest_4 : decode prog_5_method_5_code 4 = .ok (.iconst 1, 1) := by decide +kernel
theorem d_X3_dropOldest_5 : decode prog_5_method_5_code 5 = .ok (.aload_n 0, 1) := by decide +kernel
theorem d_X3_dropOldest_6 : decode prog_5_method_5_code 6 = .ok (.getfield 15, 3) := by decide +kernel
theorem d_X3_dropOldest_9 : decode prog_5_method_5_code 9 = .ok (.iconst 0, 1) := by decide +kernel
theorem d_X3_dropOldest_10 : decode prog_5_method_5_code 10 = .ok (.bipush 15, 2) := by decide +kernel
theorem d_X3_dropOldest_12 : decode prog_5_method_5_code 12 = .ok (.invokestatic 28, 3) := by decide +kernel
theorem d_X3_dropOldest_15 : decode prog_5_method_5_code 15 = .ok (.aload_n 0, 1) := by decide +kernel
theorem d_X3_dropOldest_16 : decode prog_5_method_5_code 16 = .ok (.getfield 19, 3) := by decide +kernel
theorem d_X3_dropOldest_19 : decode prog_5_method_5_code 19 = .ok (.iconst 1, 1) := by decide +kernel
theorem d_X3_dropOldest_20 : decode prog_5_method_5_code 20 = .ok (.aload_n 0, 1) := by decide +kernel
theorem d_X3_dropOldest_21 : decode prog_5_method_5_code 21 = .ok (.getfield 19, 3) := by decide +kernel
theorem d_X3_dropOldest_24 : decode prog_5_method_5_code 24 = .ok (.iconst 0, 1) := by decide +kernel
theorem d_X3_dropOldest_25 : decode prog_5_method_5_code 25 = .ok (.bipush 15, 2) := by decide +kernel
theorem d_X3_dropOldest_27 : decode prog_5_method_5_code 27 = .ok (.invokestatic 28, 3) := by decide +kernel
theorem d_X3_dropOldest_30 : decode prog_5_method_5_code 30 = .ok (.aload_n 0, 1) := by decide +kernel
theorem d_X3_dropOldest_31 : decode prog_5_method_5_code 31 = .ok (.getfield 22, 3) := by decide +kernel
theorem d_X3_dropOldest_34 : decode prog_5_method_5_code 34 = .ok (.iconst 1, 1) := by decide +kernel
theorem d_X3_dropOldest_35 : decode prog_5_method_5_code 35 = .ok (.aload_n 0, 1) := by decide +kernel
theorem d_X3_dropOldest_36 : decode prog_5_method_5_code 36 = .ok (.getfield 22, 3) := by decide +kernel
theorem d_X3_dropOldest_39 : decode prog_5_method_5_code 39 = .ok (.iconst 0, 1) := by decide +kernel
theorem d_X3_dropOldest_40 : decode prog_5_method_5_code 40 = .ok (.bipush 15, 2) := by decide +kernel
theorem d_X3_dropOldest_42 : decode prog_5_method_5_code 42 = .ok (.invokestatic 28, 3) := by decide +kernel
theorem d_X3_dropOldest_45 : decode prog_5_method_5_code 45 = .ok (.aload_n 0, 1) := by decide +kernel
theorem d_X3_dropOldest_46 : decode prog_5_method_5_code 46 = .ok (.getfield 25, 3) := by decide +kernel
theorem d_X3_dropOldest_49 : decode prog_5_method_5_code 49 = .ok (.bipush 8, 2) := by decide +kernel
theorem d_X3_dropOldest_51 : decode prog_5_method_5_code 51 = .ok (.aload_n 0, 1) := by decide +kernel
theorem d_X3_dropOldest_52 : decode prog_5_method_5_code 52 = .ok (.getfield 25, 3) := by decide +kernel
theorem d_X3_dropOldest_55 : decode prog_5_method_5_code 55 = .ok (.iconst 0, 1) := by decide +kernel
theorem d_X3_dropOldest_56 : decode prog_5_method_5_code 56 = .ok (.bipush 120, 2) := by decide +kernel
theorem d_X3_dropOldest_58 : decode prog_5_method_5_code 58 = .ok (.invokestatic 28, 3) := by decide +kernel
theorem d_X3_dropOldest_61 : decode prog_5_method_5_code 61 = .ok (.aload_n 0, 1) := by decide +kernel
theorem d_X3_dropOldest_62 : decode prog_5_method_5_code 62 = .ok (.bipush 15, 2) := by decide +kernel
theorem d_X3_dropOldest_64 : decode prog_5_method_5_code 64 = .ok (.putfield 9, 3) := by decide +kernel
theorem d_X3_dropOldest_67 : decode prog_5_method_5_code 67 = .ok (.return_, 1) := by decide +kernel
theorem d_X3_takeBack_0 : decode prog_5_method_6_code 0 = .ok (.aload_n 0, 1) := by decide +kernel
theorem d_X3_takeBack_1 : decode prog_5_method_6_code 1 = .ok (.iconst 0, 1) := by decide +kernel
theorem d_X3_takeBack_2 : decode prog_5_method_6_code 2 = .ok (.aload_n 0, 1) := by decide +kernel
theorem d_X3_takeBack_3 : decode prog_5_method_6_code 3 = .ok (.getfield 9, 3) := by decide +kernel
theorem d_X3_takeBack_6 : decode prog_5_method_6_code 6 = .ok (.iconst 1, 1) := by decide +kernel
theorem d_X3_takeBack_7 : decode prog_5_method_6_code 7 = .ok (.isub, 1) := by decide +kernel
theorem d_X3_takeBack_8 : decode prog_5_method_6_code 8 = .ok (.invokestatic 43, 3) := by decide +kernel
theorem d_X3_takeBack_11 : decode prog_5_method_6_code 11 = .ok (.putfield 9, 3) := by decide +kernel
theorem d_X3_takeBack_14 : decode prog_5_method_6_code 14 = .ok (.aload_n 0, 1) := by decide +kernel
theorem d_X3_takeBack_15 : decode prog_5_method_6_code 15 = .ok (.getfield 19, 3) := by decide +kernel
theorem d_X3_takeBack_18 : decode prog_5_method_6_code 18 = .ok (.aload_n 0, 1) := by decide +kernel
theorem d_X3_takeBack_19 : decode prog_5_method_6_code 19 = .ok (.getfield 9, 3) := by decide +kernel
theorem d_X3_takeBack_22 : decode prog_5_method_6_code 22 = .ok (.iaload, 1) := by decide +kernel
theorem d_X3_takeBack_23 : decode prog_5_method_6_code 23 = .ok (.istore_n 2, 1) := by decide +kernel
theorem d_X3_takeBack_24 : decode prog_5_method_6_code 24 = .ok (.aload_n 0, 1) := by decide +kernel
theorem d_X3_takeBack_25 : decode prog_5_method_6_code 25 = .ok (.getfield 15, 3) := by decide +kernel
theorem d_X3_takeBack_28 : decode prog_5_method_6_code 28 = .ok (.aload_n 0, 1) := by decide +kernel
theorem d_X3_takeBack_29 : decode prog_5_method_6_code 29 = .ok (.getfield 9, 3) := by decide +kernel
theorem d_X3_takeBack_32 : decode prog_5_method_6_code 32 = .ok (.iaload, 1) := by decide +kernel
theorem d_X3_takeBack_33 : decode prog_5_method_6_code 33 = .ok (.tableswitch 65 0 2 #[27, 37, 47], 27) := by decide +kernel
theorem d_X3_takeBack_60 : decode prog_5_method_6_code 60 = .ok (.aload_n 1, 1) := by decide +kernel
theorem d_X3_takeBack_61 : decode prog_5_method_6_code 61 = .ok (.iload_n 2, 1) := by decide +kernel
theorem d_X3_takeBack_62 : decode prog_5_method_6_code 62 = .ok (.iconst 5, 1) := by decide +kernel
theorem d_X3_takeBack_63 : decode prog_5_method_6_code 63 = .ok (.iconst 0, 1) := by decide +kernel
theorem d_X3_takeBack_64 : decode prog_5_method_6_code 64 = .ok (.invokevirtual 48, 3) := by decide +kernel
theorem d_X3_takeBack_67 : decode prog_5_method_6_code 67 = .ok (.goto 83, 3) := by decide +kernel
theorem d_X3_takeBack_70 : decode prog_5_method_6_code 70 = .ok (.aload_n 1, 1) := by decide +kernel
theorem d_X3_takeBack_71 : decode prog_5_method_6_code 71 = .ok (.iload_n 2, 1) := by decide +kernel
theorem d_X3_takeBack_72 : decode prog_5_method_6_code 72 = .ok (.iconst 5, 1) := by decide +kernel
theorem d_X3_takeBack_73 : decode prog_5_method_6_code 73 = .ok (.iconst 1, 1) := by decide +kernel
theorem d_X3_takeBack_74 : decode prog_5_method_6_code 74 = .ok (.invokevirtual 48, 3) := by decide +kernel
theorem d_X3_takeBack_77 : decode prog_5_method_6_code 77 = .ok (.goto 73, 3) := by decide +kernel
theorem d_X3_takeBack_80 : decode prog_5_method_6_code 80 = .ok (.aload_n 1, 1) := by decide +kernel
theorem d_X3_takeBack_81 : decode prog_5_method_6_code 81 = .ok (.iload_n 2, 1) := by decide +kernel
theorem d_X3_takeBack_82 : decode prog_5_method_6_code 82 = .ok (.iconst 2, 1) := by decide +kernel
theorem d_X3_takeBack_83 : decode prog_5_method_6_code 83 = .ok (.aload_n 0, 1) := by decide +kernel
theorem d_X3_takeBack_84 : decode prog_5_method_6_code 84 = .ok (.getfield 22, 3) := by decide +kernel
theorem d_X3_takeBack_87 : decode prog_5_method_6_code 87 = .ok (.aload_n 0, 1) := by decide +kernel
theorem d_X3_takeBack_88 : decode prog_5_method_6_code 88 = .ok (.getfield 9, 3) := by decide +kernel
theorem d_X3_takeBack_91 : decode prog_5_method_6_code 91 = .ok (.iaload, 1) := by decide +kernel
theorem d_X3_takeBack_92 : decode prog_5_method_6_code 92 = .ok (.invokevirtual 48, 3) := by decide +kernel
theorem d_X3_takeBack_95 : decode prog_5_method_6_code 95 = .ok (.goto 55, 3) := by decide +kernel
theorem d_X3_takeBack_98 : decode prog_5_method_6_code 98 = .ok (.iconst 0, 1) := by decide +kernel
theorem d_X3_takeBack_99 : decode prog_5_method_6_code 99 = .ok (.istore_n 3, 1) := by decide +kernel
theorem d_X3_takeBack_100 : decode prog_5_method_6_code 100 = .ok (.iload_n 3, 1) := by decide +kernel
theorem d_X3_takeBack_101 : decode prog_5_method_6_code 101 = .ok (.aload_n 1, 1) := by decide +kernel
theorem d_X3_takeBack_102 : decode prog_5_method_6_code 102 = .ok (.getfield 52, 3) := by decide +kernel
theorem d_X3_takeBack_105 : decode prog_5_method_6_code 105 = .ok (.if_icmp .ge 35, 3) := by decide +kernel
theorem d_X3_takeBack_108 : decode prog_5_method_6_code 108 = .ok (.iload_n 3, 1) := by decide +kernel
theorem d_X3_takeBack_109 : decode prog_5_method_6_code 109 = .ok (.bipush 8, 2) := by decide +kernel
theorem d_X3_takeBack_111 : decode prog_5_method_6_code 111 = .ok (.if_icmp .ge 29, 3) := by decide +kernel
theorem d_X3_takeBack_114 : decode prog_5_method_6_code 114 = .ok (.aload_n 1, 1) := by decide +kernel
theorem d_X3_takeBack_115 : decode prog_5_method_6_code 115 = .ok (.iload_n 3, 1) := by decide +kernel
theorem d_X3_takeBack_116 : decode prog_5_method_6_code 116 = .ok (.iconst 1, 1) := by decide +kernel
theorem d_X3_takeBack_117 : decode prog_5_method_6_code 117 = .ok (.aload_n 0, 1) := by decide +kernel
theorem d_X3_takeBack_118 : decode prog_5_method_6_code 118 = .ok (.getfield 25, 3) := by decide +kernel
theorem d_X3_takeBack_121 : decode prog_5_method_6_code 121 = .ok (.aload_n 0, 1) := by decide +kernel
theorem d_X3_takeBack_122 : decode prog_5_method_6_code 122 = .ok (.getfield 9, 3) := by decide +kernel
theorem d_X3_takeBack_125 : decode prog_5_method_6_code 125 = .ok (.bipush 8, 2) := by decide +kernel
theorem d_X3_takeBack_127 : decode prog_5_method_6_code 127 = .ok (.imul, 1) := by decide +kernel
theorem d_X3_takeBack_128 : decode prog_5_method_6_code 128 = .ok (.iload_n 3, 1) := by decide +kernel
theorem d_X3_takeBack_129 : decode prog_5_method_6_code 129 = .ok (.iadd, 1) := by decide +kernel
theorem d_X3_takeBack_130 : decode prog_5_method_6_code 130 = .ok (.iaload, 1) := by decide +kernel
theorem d_X3_takeBack_131 : decode prog_5_method_6_code 131 = .ok (.invokevirtual 48, 3) := by decide +kernel
theorem d_X3_takeBack_134 : decode prog_5_method_6_code 134 = .ok (.iinc 3 1, 3) := by decide +kernel
theorem d_X3_takeBack_137 : decode prog_5_method_6_code 137 = .ok (.goto (-37), 3) := by decide +kernel
theorem d_X3_takeBack_140 : decode prog_5_method_6_code 140 = .ok (.aload_n 1, 1) := by decide +kernel
theorem d_X3_takeBack_141 : decode prog_5_method_6_code 141 = .ok (.getfield 54, 3) := by decide +kernel
theorem d_X3_takeBack_144 : decode prog_5_method_6_code 144 = .ok (.iconst 0, 1) := by decide +kernel
theorem d_X3_takeBack_145 : decode prog_5_method_6_code 145 = .ok (.dup2, 1) := by decide +kernel
theorem d_X3_takeBack_146 : decode prog_5_method_6_code 146 = .ok (.iaload, 1) := by decide +kernel
theorem d_X3_takeBack_147 : decode prog_5_method_6_code 147 = .ok (.iconst 1, 1) := by decide +kernel
theorem d_X3_takeBack_148 : decode prog_5_method_6_code 148 = .ok (.isub, 1) := by decide +kernel
theorem d_X3_takeBack_149 : decode prog_5_method_6_code 149 = .ok (.iastore, 1) := by decide +kernel
theorem d_X3_takeBack_150 : decode prog_5_method_6_code 150 = .ok (.aload_n 0, 1) := by decide +kernel
theorem d_X3_takeBack_151 : decode prog_5_method_6_code 151 = .ok (.getfield 15, 3) := by decide +kernel
theorem d_X3_takeBack_154 : decode prog_5_method_6_code 154 = .ok (.aload_n 0, 1) := by decide +kernel
theorem d_X3_takeBack_155 : decode prog_5_method_6_code 155 = .ok (.getfield 9, 3) := by decide +kernel
theorem d_X3_takeBack_158 : decode prog_5_method_6_code 158 = .ok (.iaload, 1) := by decide +kernel
theorem d_X3_takeBack_159 : decode prog_5_method_6_code 159 = .ok (.ireturn, 1) := by decide +kernel
theorem d_X4_init_0 : decode prog_6_method_1_code 0 = .ok (.aload_n 0, 1) := by decide +kernel
theorem d_X4_init_1 : decode prog_6_method_1_code 1 = .ok (.invokespecial 3, 3) := by decide +kernel
theorem d_X4_init_4 : decode prog_6_method_1_code 4 = .ok (.aload_n 0, 1) := by decide +kernel
theorem d_X4_init_5 : decode prog_6_method_1_code 5 = .ok (.bipush 9, 2) := by decide +kernel
theorem d_X4_init_7 : decode prog_6_method_1_code 7 = .ok (.newarray .int, 2) := by decide +kernel
theorem d_X4_init_9 : decode prog_6_method_1_code 9 = .ok (.putfield 9, 3) := by decide +kernel
theorem d_X4_init_12 : decode prog_6_method_1_code 12 = .ok (.aload_n 0, 1) := by decide +kernel
theorem d_X4_init_13 : decode prog_6_method_1_code 13 = .ok (.bipush 8, 2) := by decide +kernel
theorem d_X4_init_15 : decode prog_6_method_1_code 15 = .ok (.newarray .int, 2) := by decide +kernel
theorem d_X4_init_17 : decode prog_6_method_1_code 17 = .ok (.putfield 15, 3) := by decide +kernel
theorem d_X4_init_20 : decode prog_6_method_1_code 20 = .ok (.aload_n 0, 1) := by decide +kernel
theorem d_X4_init_21 : decode prog_6_method_1_code 21 = .ok (.aload_n 1, 1) := by decide +kernel
theorem d_X4_init_22 : decode prog_6_method_1_code 22 = .ok (.putfield 18, 3) := by decide +kernel
theorem d_X4_init_25 : decode prog_6_method_1_code 25 = .ok (.return_, 1) := by decide +kernel
theorem d_X4_tell_0 : decode prog_6_method_2_code 0 = .ok (.ldc 22, 2) := by decide +kernel
theorem d_X4_tell_2 : decode prog_6_method_2_code 2 = .ok (.istore 5, 2) := by decide +kernel
theorem d_X4_tell_4 : decode prog_6_method_2_code 4 = .ok (.aload_n 2, 1) := by decide +kernel
theorem d_X4_tell_5 : decode prog_6_method_2_code 5 = .ok (.ifnull 83, 3) := by decide +kernel
theorem d_X4_tell_8 : decode prog_6_method_2_code 8 = .ok (.aload_n 0, 1) := by decide +kernel
theorem d_X4_tell_9 : decode prog_6_method_2_code 9 = .ok (.aload_n 1, 1) := by decide +kernel
theorem d_X4_tell_10 : decode prog_6_method_2_code 10 = .ok (.iload_n 3, 1) := by decide +kernel
theorem d_X4_tell_11 : decode prog_6_method_2_code 11 = .ok (.invokevirtual 23, 3) := by decide +kernel
theorem d_X4_tell_14 : decode prog_6_method_2_code 14 = .ok (.aload_n 2, 1) := by decide +kernel
theorem d_X4_tell_15 : decode prog_6_method_2_code 15 = .ok (.getfield 27, 3) := by decide +kernel
theorem d_X4_tell_18 : decode prog_6_method_2_code 18 = .ok (.iconst 1, 1) := by decide +kernel
theorem d_X4_tell_19 : decode prog_6_method_2_code 19 = .ok (.isub, 1) := by decide +kernel
theorem d_X4_tell_20 : decode prog_6_method_2_code 20 = .ok (.istore 6, 2) := by decide +kernel
theorem d_X4_tell_22 : decode prog_6_method_2_code 22 = .ok (.iload 6, 2) := by decide +kernel
theorem d_X4_tell_24 : decode prog_6_method_2_code 24 = .ok (.ifCond .lt 64, 3) := by decide +kernel
theorem d_X4_tell_27 : decode prog_6_method_2_code 27 = .ok (.iload 5, 2) := by decide +kernel
theorem d_X4_tell_29 : decode prog_6_method_2_code 29 = .ok (.ldc 22, 2) := by decide +kernel
theorem d_X4_tell_31 : decode prog_6_method_2_code 31 = .ok (.if_icmp .ne 57, 3) := by decide +kernel
theorem d_X4_tell_34 : decode prog_6_method_2_code 34 = .ok (.aload_n 2, 1) := by decide +kernel
theorem d_X4_tell_35 : decode prog_6_method_2_code 35 = .ok (.getfield 33, 3) := by decide +kernel
theorem d_X4_tell_38 : decode prog_6_method_2_code 38 = .ok (.iload 6, 2) := by decide +kernel
theorem d_X4_tell_40 : decode prog_6_method_2_code 40 = .ok (.iaload, 1) := by decide +kernel
theorem d_X4_tell_41 : decode prog_6_method_2_code 41 = .ok (.iload 4, 2) := by decide +kernel
theorem d_X4_tell_43 : decode prog_6_method_2_code 43 = .ok (.if_icmp .ne 39, 3) := by decide +kernel
theorem d_X4_tell_46 : decode prog_6_method_2_code 46 = .ok (.aload_n 0, 1) := by decide +kernel
theorem d_X4_tell_47 : decode prog_6_method_2_code 47 = .ok (.getfield 18, 3) := by decide +kernel
theorem d_X4_tell_50 : decode prog_6_method_2_code 50 = .ok (.aload_n 2, 1) := by decide +kernel
theorem d_X4_tell_51 : decode prog_6_method_2_code 51 = .ok (.iload 6, 2) := by decide +kernel
theorem d_X4_tell_53 : decode prog_6_method_2_code 53 = .ok (.iconst 2, 1) := by decide +kernel
theorem d_X4_tell_54 : decode prog_6_method_2_code 54 = .ok (.aload_n 0, 1) := by decide +kernel
theorem d_X4_tell_55 : decode prog_6_method_2_code 55 = .ok (.getfield 9, 3) := by decide +kernel
theorem d_X4_tell_58 : decode prog_6_method_2_code 58 = .ok (.invokevirtual 36, 3) := by decide +kernel
theorem d_X4_tell_61 : decode prog_6_method_2_code 61 = .ok (.iconst 1, 1) := by decide +kernel
theorem d_X4_tell_62 : decode prog_6_method_2_code 62 = .ok (.if_icmp .ne 20, 3) := by decide +kernel
theorem d_X4_tell_65 : decode prog_6_method_2_code 65 = .ok (.aload_n 0, 1) := by decide +kernel
theorem d_X4_tell_66 : decode prog_6_method_2_code 66 = .ok (.getfield 18, 3) := by decide +kernel
theorem d_X4_tell_69 : decode prog_6_method_2_code 69 = .ok (.aload_n 2, 1) := by decide +kernel
theorem d_X4_tell_70 : decode prog_6_method_2_code 70 = .ok (.iload 6, 2) := by decide +kernel
theorem d_X4_tell_72 : decode prog_6_method_2_code 72 = .ok (.iconst 0, 1) := by decide +kernel
theorem d_X4_tell_73 : decode prog_6_method_2_code 73 = .ok (.aload_n 0, 1) := by decide +kernel
theorem d_X4_tell_74 : decode prog_6_method_2_code 74 = .ok (.getfield 9, 3) := by decide +kernel
theorem d_X4_tell_77 : decode prog_6_method_2_code 77 = .ok (.invokevirtual 36, 3) := by decide +kernel
theorem d_X4_tell_80 : decode prog_6_method_2_code 80 = .ok (.istore 5, 2) := by decide +kernel
theorem d_X4_tell_82 : decode prog_6_method_2_code 82 = .ok (.iinc 6 (-1), 3) := by decide +kernel
theorem d_X4_tell_85 : decode prog_6_method_2_code 85 = .ok (.goto (-63), 3) := by decide +kernel
theorem d_X4_tell_88 : decode prog_6_method_2_code 88 = .ok (.iload 5, 2) := by decide +kernel
theorem d_X4_tell_90 : decode prog_6_method_2_code 90 = .ok (.ldc 22, 2) := by decide +kernel
theorem d_X4_tell_92 : decode prog_6_method_2_code 92 = .ok (.if_icmp .ne 7, 3) := by decide +kernel
theorem d_X4_tell_95 : decode prog_6_method_2_code 95 = .ok (.iconst 1, 1) := by decide +kernel
theorem d_X4_tell_96 : decode prog_6_method_2_code 96 = .ok (.goto 4, 3) := by decide +kernel
theorem d_X4_tell_99 : decode prog_6_method_2_code 99 = .ok (.iconst 0, 1) := by decide +kernel
theorem d_X4_tell_100 : decode prog_6_method_2_code 100 = .ok (.istore 6, 2) := by decide +kernel
theorem d_X4_tell_102 : decode prog_6_method_2_code 102 = .ok (.iload 4, 2) := by decide +kernel
theorem d_X4_tell_104 : decode prog_6_method_2_code 104 = .ok (.tableswitch 104 0 2 #[28, 47, 81], 28) := by decide +kernel
theorem d_X4_tell_132 : decode prog_6_method_2_code 132 = .ok (.iload 6, 2) := by decide +kernel
theorem d_X4_tell_134 : decode prog_6_method_2_code 134 = .ok (.ifCond .eq 7, 3) := by decide +kernel
theorem d_X4_tell_137 : decode prog_6_method_2_code 137 = .ok (.iconst 0, 1) := by decide +kernel
theorem d_X4_tell_138 : decode prog_6_method_2_code 138 = .ok (.goto 12, 3) := by decide +kernel
theorem d_X4_tell_141 : decode prog_6_method_2_code 141 = .ok (.iload 5, 2) := by decide +kernel
theorem d_X4_tell_143 : decode prog_6_method_2_code 143 = .ok (.bipush (-9), 2) := by decide +kernel
theorem d_X4_tell_145 : decode prog_6_method_2_code 145 = .ok (.bipush 9, 2) := by decide +kernel
theorem d_X4_tell_147 : decode prog_6_method_2_code 147 = .ok (.invokestatic 42, 3) := by decide +kernel
theorem d_X4_tell_150 : decode prog_6_method_2_code 150 = .ok (.ireturn, 1) := by decide +kernel
theorem d_X4_tell_151 : decode prog_6_method_2_code 151 = .ok (.aload_n 1, 1) := by decide +kernel
theorem d_X4_tell_152 : decode prog_6_method_2_code 152 = .ok (.iload_n 3, 1) := by decide +kernel
theorem d_X4_tell_153 : decode prog_6_method_2_code 153 = .ok (.invokevirtual 46, 3) := by decide +kernel
theorem d_X4_tell_156 : decode prog_6_method_2_code 156 = .ok (.iconst (-1), 1) := by decide +kernel
theorem d_X4_tell_157 : decode prog_6_method_2_code 157 = .ok (.if_icmp .ne 5, 3) := by decide +kernel
theorem d_X4_tell_160 : decode prog_6_method_2_code 160 = .ok (.iconst 0, 1) := by decide +kernel
theorem d_X4_tell_161 : decode prog_6_method_2_code 161 = .ok (.ireturn, 1) := by decide +kernel
theorem d_X4_tell_162 : decode prog_6_method_2_code 162 = .ok (.iload 6, 2) := by decide +kernel
theorem d_X4_tell_164 : decode prog_6_method_2_code 164 = .ok (.ifCond .eq 12, 3) := by decide +kernel
theorem d_X4_tell_167 : decode prog_6_method_2_code 167 = .ok (.aload_n 1, 1) := by decide +kernel
theorem d_X4_tell_168 : decode prog_6_method_2_code 168 = .ok (.iload_n 3, 1) := by decide +kernel
theorem d_X4_tell_169 : decode prog_6_method_2_code 169 = .ok (.iconst 2, 1) := by decide +kernel
theorem d_X4_tell_170 : decode prog_6_method_2_code 170 = .ok (.invokevirtual 52, 3) := by decide +kernel
theorem d_X4_tell_173 : decode prog_6_method_2_code 173 = .ok (.goto 11, 3) := by decide +kernel
theorem d_X4_tell_176 : decode prog_6_method_2_code 176 = .ok (.iload 5, 2) := by decide +kernel
theorem d_X4_tell_178 : decode prog_6_method_2_code 178 = .ok (.iconst 0, 1) := by decide +kernel
theorem d_X4_tell_179 : decode prog_6_method_2_code 179 = .ok (.bipush 99, 2) := by decide +kernel
theorem d_X4_tell_181 : decode prog_6_method_2_code 181 = .ok (.invokestatic 42, 3) := by decide +kernel
theorem d_X4_tell_184 : decode prog_6_method_2_code 184 = .ok (.ireturn, 1) := by decide +kernel
theorem d_X4_tell_185 : decode prog_6_method_2_code 185 = .ok (.iload 6, 2) := by decide +kernel
theorem d_X4_tell_187 : decode prog_6_method_2_code 187 = .ok (.ifCond .eq 12, 3) := by decide +kernel
theorem d_X4_tell_190 : decode prog_6_method_2_code 190 = .ok (.aload_n 1, 1) := by decide +kernel
theorem d_X4_tell_191 : decode prog_6_method_2_code 191 = .ok (.iload_n 3, 1) := by decide +kernel
theorem d_X4_tell_192 : decode prog_6_method_2_code 192 = .ok (.iconst 3, 1) := by decide +kernel
theorem d_X4_tell_193 : decode prog_6_method_2_code 193 = .ok (.invokevirtual 52, 3) := by decide +kernel
theorem d_X4_tell_196 : decode prog_6_method_2_code 196 = .ok (.goto 11, 3) := by decide +kernel
theorem d_X4_tell_199 : decode prog_6_method_2_code 199 = .ok (.iload 5, 2) := by decide +kernel
theorem d_X4_tell_201 : decode prog_6_method_2_code 201 = .ok (.iconst 0, 1) := by decide +kernel
theorem d_X4_tell_202 : decode prog_6_method_2_code 202 = .ok (.bipush 9, 2) := by decide +kernel
theorem d_X4_tell_204 : decode prog_6_method_2_code 204 = .ok (.invokestatic 42, 3) := by decide +kernel
theorem d_X4_tell_207 : decode prog_6_method_2_code 207 = .ok (.ireturn, 1) := by decide +kernel
theorem d_X4_tell_208 : decode prog_6_method_2_code 208 = .ok (.iload 6, 2) := by decide +kernel
theorem d_X4_tell_210 : decode prog_6_method_2_code 210 = .ok (.ifCond .eq 7, 3) := by decide +kernel
theorem d_X4_tell_213 : decode prog_6_method_2_code 213 = .ok (.iconst 0, 1) := by decide +kernel
theorem d_X4_tell_214 : decode prog_6_method_2_code 214 = .ok (.goto 4, 3) := by decide +kernel
theorem d_X4_tell_217 : decode prog_6_method_2_code 217 = .ok (.iconst 1, 1) := by decide +kernel
theorem d_X4_tell_218 : decode prog_6_method_2_code 218 = .ok (.ireturn, 1) := by decide +kernel
theorem d_X4_fillWords_0 : decode prog_6_method_3_code 0 = .ok (.aload_n 0, 1) := by decide +kernel
theorem d_X4_fillWords_1 : decode prog_6_method_3_code 1 = .ok (.getfield 9, 3) := by decide +kernel
theorem d_X4_fillWords_4 : decode prog_6_method_3_code 4 = .ok (.iconst 0, 1) := by decide +kernel
theorem d_X4_fillWords_5 : decode prog_6_method_3_code 5 = .ok (.iload_n 2, 1) := by decide +kernel
theorem d_X4_fillWords_6 : decode prog_6_method_3_code 6 = .ok (.iastore, 1) := by decide +kernel
theorem d_X4_fillWords_7 : decode prog_6_method_3_code 7 = .ok (.aload_n 0, 1) := by decide +kernel
theorem d_X4_fillWords_8 : decode prog_6_method_3_code 8 = .ok (.getfield 9, 3) := by decide +kernel
theorem d_X4_fillWords_11 : decode prog_6_method_3_code 11 = .ok (.iconst 1, 1) := by decide +kernel
theorem d_X4_fillWords_12 : decode prog_6_method_3_code 12 = .ok (.aload_n 1, 1) := by decide +kernel
theorem d_X4_fillWords_13 : decode prog_6_method_3_code 13 = .ok (.iload_n 2, 1) := by decide +kernel
theorem d_X4_fillWords_14 : decode prog_6_method_3_code 14 = .ok (.iconst 0, 1) := by decide +kernel
theorem d_X4_fillWords_15 : decode prog_6_method_3_code 15 = .ok (.invokevirtual 52, 3) := by decide +kernel
theorem d_X4_fillWords_18 : decode prog_6_method_3_code 18 = .ok (.iastore, 1) := by decide +kernel
theorem d_X4_fillWords_19 : decode prog_6_method_3_code 19 = .ok (.aload_n 0, 1) := by decide +kernel
theorem d_X4_fillWords_20 : decode prog_6_method_3_code 20 = .ok (.getfield 9, 3) := by decide +kernel
theorem d_X4_fillWords_23 : decode prog_6_method_3_code 23 = .ok (.iconst 2, 1) := by decide +kernel
theorem d_X4_fillWords_24 : decode prog_6_method_3_code 24 = .ok (.aload_n 1, 1) := by decide +kernel
theorem d_X4_fillWords_25 : decode prog_6_method_3_code 25 = .ok (.iload_n 2, 1) := by decide +kernel
theorem d_X4_fillWords_26 : decode prog_6_method_3_code 26 = .ok (.iconst 1, 1) := by decide +kernel
theorem d_X4_fillWords_27 : decode prog_6_method_3_code 27 = .ok (.invokevirtual 52, 3) := by decide +kernel
theorem d_X4_fillWords_30 : decode prog_6_method_3_code 30 = .ok (.iastore, 1) := by decide +kernel
theorem d_X4_fillWords_31 : decode prog_6_method_3_code 31 = .ok (.aload_n 0, 1) := by decide +kernel
theorem d_X4_fillWords_32 : decode prog_6_method_3_code 32 = .ok (.getfield 9, 3) := by decide +kernel
theorem d_X4_fillWords_35 : decode prog_6_method_3_code 35 = .ok (.iconst 3, 1) := by decide +kernel
theorem d_X4_fillWords_36 : decode prog_6_method_3_code 36 = .ok (.aload_n 1, 1) := by decide +kernel
theorem d_X4_fillWords_37 : decode prog_6_method_3_code 37 = .ok (.iload_n 2, 1) := by decide +kernel
theorem d_X4_fillWords_38 : decode prog_6_method_3_code 38 = .ok (.iconst 2, 1) := by decide +kernel
theorem d_X4_fillWords_39 : decode prog_6_method_3_code 39 = .ok (.invokevirtual 52, 3) := by decide +kernel
theorem d_X4_fillWords_42 : decode prog_6_method_3_code 42 = .ok (.iastore, 1) := by decide +kernel
theorem d_X4_fillWords_43 : decode prog_6_method_3_code 43 = .ok (.aload_n 0, 1) := by decide +kernel
theorem d_X4_fillWords_44 : decode prog_6_method_3_code 44 = .ok (.getfield 9, 3) := by decide +kernel
theorem d_X4_fillWords_47 : decode prog_6_method_3_code 47 = .ok (.iconst 4, 1) := by decide +kernel
theorem d_X4_fillWords_48 : decode prog_6_method_3_code 48 = .ok (.aload_n 1, 1) := by decide +kernel
theorem d_X4_fillWords_49 : decode prog_6_method_3_code 49 = .ok (.iload_n 2, 1) := by decide +kernel
theorem d_X4_fillWords_50 : decode prog_6_method_3_code 50 = .ok (.iconst 3, 1) := by decide +kernel
theorem d_X4_fillWords_51 : decode prog_6_method_3_code 51 = .ok (.invokevirtual 52, 3) := by decide +kernel
theorem d_X4_fillWords_54 : decode prog_6_method_3_code 54 = .ok (.iastore, 1) := by decide +kernel
theorem d_X4_fillWords_55 : decode prog_6_method_3_code 55 = .ok (.aload_n 0, 1) := by decide +kernel
theorem d_X4_fillWords_56 : decode prog_6_method_3_code 56 = .ok (.getfield 9, 3) := by decide +kernel
theorem d_X4_fillWords_59 : decode prog_6_method_3_code 59 = .ok (.iconst 5, 1) := by decide +kernel
theorem d_X4_fillWords_60 : decode prog_6_method_3_code 60 = .ok (.aload_n 1, 1) := by decide +kernel
theorem d_X4_fillWords_61 : decode prog_6_method_3_code 61 = .ok (.iload_n 2, 1) := by decide +kernel
theorem d_X4_fillWords_62 : decode prog_6_method_3_code 62 = .ok (.iconst 5, 1) := by decide +kernel
theorem d_X4_fillWords_63 : decode prog_6_method_3_code 63 = .ok (.invokevirtual 52, 3) := by decide +kernel
theorem d_X4_fillWords_66 : decode prog_6_method_3_code 66 = .ok (.iastore, 1) := by decide +kernel
theorem d_X4_fillWords_67 : decode prog_6_method_3_code 67 = .ok (.aload_n 0, 1) := by decide +kernel
theorem d_X4_fillWords_68 : decode prog_6_method_3_code 68 = .ok (.getfield 9, 3) := by decide +kernel
theorem d_X4_fillWords_71 : decode prog_6_method_3_code 71 = .ok (.bipush 6, 2) := by decide +kernel
theorem d_X4_fillWords_73 : decode prog_6_method_3_code 73 = .ok (.aload_n 1, 1) := by decide +kernel
theorem d_X4_fillWords_74 : decode prog_6_method_3_code 74 = .ok (.iload_n 2, 1) := by decide +kernel
theorem d_X4_fillWords_75 : decode prog_6_method_3_code 75 = .ok (.iconst 4, 1) := by decide +kernel
theorem d_X4_fillWords_76 : decode prog_6_method_3_code 76 = .ok (.invokevirtual 52, 3) := by decide +kernel
theorem d_X4_fillWords_79 : decode prog_6_method_3_code 79 = .ok (.iastore, 1) := by decide +kernel
theorem d_X4_fillWords_80 : decode prog_6_method_3_code 80 = .ok (.aload_n 0, 1) := by decide +kernel
theorem d_X4_fillWords_81 : decode prog_6_method_3_code 81 = .ok (.getfield 9, 3) := by decide +kernel
theorem d_X4_fillWords_84 : decode prog_6_method_3_code 84 = .ok (.bipush 7, 2) := by decide +kernel
theorem d_X4_fillWords_86 : decode prog_6_method_3_code 86 = .ok (.aload_n 1, 1) := by decide +kernel
theorem d_X4_fillWords_87 : decode prog_6_method_3_code 87 = .ok (.getfield 56, 3) := by decide +kernel
theorem d_X4_fillWords_90 : decode prog_6_method_3_code 90 = .ok (.iconst 0, 1) := by decide +kernel
theorem d_X4_fillWords_91 : decode prog_6_method_3_code 91 = .ok (.iaload, 1) := by decide +kernel
theorem d_X4_fillWords_92 : decode prog_6_method_3_code 92 = .ok (.iastore, 1) := by decide +kernel
theorem d_X4_fillWords_93 : decode prog_6_method_3_code 93 = .ok (.aload_n 0, 1) := by decide +kernel
theorem d_X4_fillWords_94 : decode prog_6_method_3_code 94 = .ok (.getfield 9, 3) := by decide +kernel
theorem d_X4_fillWords_97 : decode prog_6_method_3_code 97 = .ok (.bipush 8, 2) := by decide +kernel
theorem d_X4_fillWords_99 : decode prog_6_method_3_code 99 = .ok (.aload_n 1, 1) := by decide +kernel
theorem d_X4_fillWords_100 : decode prog_6_method_3_code 100 = .ok (.getfield 56, 3) := by decide +kernel
theorem d_X4_fillWords_103 : decode prog_6_method_3_code 103 = .ok (.iconst 2, 1) := by decide +kernel
theorem d_X4_fillWords_104 : decode prog_6_method_3_code 104 = .ok (.iaload, 1) := by decide +kernel
theorem d_X4_fillWords_105 : decode prog_6_method_3_code 105 = .ok (.iastore, 1) := by decide +kernel
theorem d_X4_fillWords_106 : decode prog_6_method_3_code 106 = .ok (.return_, 1) := by decide +kernel
theorem d_X4_moveAll_0 : decode prog_6_method_4_code 0 = .ok (.aload_n 1, 1) := by decide +kernel
theorem d_X4_moveAll_1 : decode prog_6_method_4_code 1 = .ok (.invokevirtual 59, 3) := by decide +kernel
theorem d_X4_moveAll_4 : decode prog_6_method_4_code 4 = .ok (.astore_n 2, 1) := by decide +kernel
theorem d_X4_moveAll_5 : decode prog_6_method_4_code 5 = .ok (.iconst 0, 1) := by decide +kernel
theorem d_X4_moveAll_6 : decode prog_6_method_4_code 6 = .ok (.istore_n 3, 1) := by decide +kernel
theorem d_X4_moveAll_7 : decode prog_6_method_4_code 7 = .ok (.iload_n 3, 1) := by decide +kernel
theorem d_X4_moveAll_8 : decode prog_6_method_4_code 8 = .ok (.bipush 8, 2) := by decide +kernel
theorem d_X4_moveAll_10 : decode prog_6_method_4_code 10 = .ok (.if_icmp .ge 35, 3) := by decide +kernel
theorem d_X4_moveAll_13 : decode prog_6_method_4_code 13 = .ok (.aload_n 0, 1) := by decide +kernel
theorem d_X4_moveAll_14 : decode prog_6_method_4_code 14 = .ok (.getfield 15, 3) := by decide +kernel
theorem d_X4_moveAll_17 : decode prog_6_method_4_code 17 = .ok (.iload_n 3, 1) := by decide +kernel
theorem d_X4_moveAll_18 : decode prog_6_method_4_code 18 = .ok (.aload_n 1, 1) := by decide +kernel
theorem d_X4_moveAll_19 : decode prog_6_method_4_code 19 = .ok (.iload_n 3, 1) := by decide +kernel
theorem d_X4_moveAll_20 : decode prog_6_method_4_code 20 = .ok (.invokevirtual 63, 3) := by decide +kernel
theorem d_X4_moveAll_23 : decode prog_6_method_4_code 23 = .ok (.ifCond .eq 14, 3) := by decide +kernel
theorem d_X4_moveAll_26 : decode prog_6_method_4_code 26 = .ok (.aload_n 0, 1) := by decide +kernel
theorem d_X4_moveAll_27 : decode prog_6_method_4_code 27 = .ok (.aload_n 1, 1) := by decide +kernel
theorem d_X4_moveAll_28 : decode prog_6_method_4_code 28 = .ok (.aload_n 2, 1) := by decide +kernel
theorem d_X4_moveAll_29 : decode prog_6_method_4_code 29 = .ok (.iload_n 3, 1) := by decide +kernel
theorem d_X4_moveAll_30 : decode prog_6_method_4_code 30 = .ok (.iconst 0, 1) := by decide +kernel
theorem d_X4_moveAll_31 : decode prog_6_method_4_code 31 = .ok (.invokevirtual 67, 3) := by decide +kernel
theorem d_X4_moveAll_34 : decode prog_6_method_4_code 34 = .ok (.goto 4, 3) := by decide +kernel
theorem d_X4_moveAll_37 : decode prog_6_method_4_code 37 = .ok (.iconst 0, 1) := by decide +kernel
theorem d_X4_moveAll_38 : decode prog_6_method_4_code 38 = .ok (.iastore, 1) := by decide +kernel
theorem d_X4_moveAll_39 : decode prog_6_method_4_code 39 = .ok (.iinc 3 1, 3) := by decide +kernel
theorem d_X4_moveAll_42 : decode prog_6_method_4_code 42 = .ok (.goto (-35), 3) := by decide +kernel
theorem d_X4_moveAll_45 : decode prog_6_method_4_code 45 = .ok (.iconst 0, 1) := by decide +kernel
theorem d_X4_moveAll_46 : decode prog_6_method_4_code 46 = .ok (.istore_n 3, 1) := by decide +kernel
theorem d_X4_moveAll_47 : decode prog_6_method_4_code 47 = .ok (.iload_n 3, 1) := by decide +kernel
theorem d_X4_moveAll_48 : decode prog_6_method_4_code 48 = .ok (.bipush 8, 2) := by decide +kernel
theorem d_X4_moveAll_50 : decode prog_6_method_4_code 50 = .ok (.if_icmp .ge 34, 3) := by decide +kernel
theorem d_X4_moveAll_53 : decode prog_6_method_4_code 53 = .ok (.aload_n 1, 1) := by decide +kernel
theorem d_X4_moveAll_54 : decode prog_6_method_4_code 54 = .ok (.iload_n 3, 1) := by decide +kernel
theorem d_X4_moveAll_55 : decode prog_6_method_4_code 55 = .ok (.iconst 1, 1) := by decide +kernel
theorem d_X4_moveAll_56 : decode prog_6_method_4_code 56 = .ok (.aload_n 1, 1) := by decide +kernel
theorem d_X4_moveAll_57 : decode prog_6_method_4_code 57 = .ok (.iload_n 3, 1) := by decide +kernel
theorem d_X4_moveAll_58 : decode prog_6_method_4_code 58 = .ok (.iconst 1, 1) := by decide +kernel
theorem d_X4_moveAll_59 : decode prog_6_method_4_code 59 = .ok (.invokevirtual 52, 3) := by decide +kernel
theorem d_X4_moveAll_62 : decode prog_6_method_4_code 62 = .ok (.aload_n 0, 1) := by decide +kernel
theorem d_X4_moveAll_63 : decode prog_6_method_4_code 63 = .ok (.getfield 15, 3) := by decide +kernel
theorem d_X4_moveAll_66 : decode prog_6_method_4_code 66 = .ok (.iload_n 3, 1) := by decide +kernel
theorem d_X4_moveAll_67 : decode prog_6_method_4_code 67 = .ok (.iaload, 1) := by decide +kernel
theorem d_X4_moveAll_68 : decode prog_6_method_4_code 68 = .ok (.iadd, 1) := by decide +kernel
theorem d_X4_moveAll_69 : decode prog_6_method_4_code 69 = .ok (.iconst 1, 1) := by decide +kernel
theorem d_X4_moveAll_70 : decode prog_6_method_4_code 70 = .ok (.bipush 12, 2) := by decide +kernel
theorem d_X4_moveAll_72 : decode prog_6_method_4_code 72 = .ok (.invokestatic 42, 3) := by decide +kernel
theorem d_X4_moveAll_75 : decode prog_6_method_4_code 75 = .ok (.invokevirtual 71, 3) := by decide +kernel
theorem d_X4_moveAll_78 : decode prog_6_method_4_code 78 = .ok (.iinc 3 1, 3) := by decide +kernel
theorem d_X4_moveAll_81 : decode prog_6_method_4_code 81 = .ok (.goto (-34), 3) := by decide +kernel
theorem d_X4_moveAll_84 : decode prog_6_method_4_code 84 = .ok (.aload_n 1, 1) := by decide +kernel
theorem d_X4_moveAll_85 : decode prog_6_method_4_code 85 = .ok (.getfield 56, 3) := by decide +kernel
theorem d_X4_moveAll_88 : decode prog_6_method_4_code 88 = .ok (.iconst 0, 1) := by decide +kernel
theorem d_X4_moveAll_89 : decode prog_6_method_4_code 89 = .ok (.dup2, 1) := by decide +kernel
theorem d_X4_moveAll_90 : decode prog_6_method_4_code 90 = .ok (.iaload, 1) := by decide +kernel
theorem d_X4_moveAll_91 : decode prog_6_method_4_code 91 = .ok (.iconst 1, 1) := by decide +kernel
theorem d_X4_moveAll_92 : decode prog_6_method_4_code 92 = .ok (.iadd, 1) := by decide +kernel
theorem d_X4_moveAll_93 : decode prog_6_method_4_code 93 = .ok (.iastore, 1) := by decide +kernel
theorem d_X4_moveAll_94 : decode prog_6_method_4_code 94 = .ok (.return_, 1) := by decide +kernel
theorem d_X5_init_0 : decode prog_7_method_1_code 0 = .ok (.aload_n 0, 1) := by decide +kernel
theorem d_X5_init_1 : decode prog_7_method_1_code 1 = .ok (.invokespecial 3, 3) := by decide +kernel
theorem d_X5_init_4 : decode prog_7_method_1_code 4 = .ok (.aload_n 0, 1) := by decide +kernel
theorem d_X5_init_5 : decode prog_7_method_1_code 5 = .ok (.bipush 51, 2) := by decide +kernel
theorem d_X5_init_7 : decode prog_7_method_1_code 7 = .ok (.newarray .int, 2) := by decide +kernel
theorem d_X5_init_9 : decode prog_7_method_1_code 9 = .ok (.putfield 9, 3) := by decide +kernel
theorem d_X5_init_12 : decode prog_7_method_1_code 12 = .ok (.return_, 1) := by decide +kernel
theorem d_X5_run_0 : decode prog_7_method_2_code 0 = .ok (.iload_n 2, 1) := by decide +kernel
theorem d_X5_run_1 : decode prog_7_method_2_code 1 = .ok (.iconst 3, 1) := by decide +kernel
theorem d_X5_run_2 : decode prog_7_method_2_code 2 = .ok (.imul, 1) := by decide +kernel
theorem d_X5_run_3 : decode prog_7_method_2_code 3 = .ok (.iload_n 3, 1) := by decide +kernel
theorem d_X5_run_4 : decode prog_7_method_2_code 4 = .ok (.iadd, 1) := by decide +kernel
theorem d_X5_run_5 : decode prog_7_method_2_code 5 = .ok (.istore 5, 2) := by decide +kernel
theorem d_X5_run_7 : decode prog_7_method_2_code 7 = .ok (.iload 5, 2) := by decide +kernel
theorem d_X5_run_9 : decode prog_7_method_2_code 9 = .ok (.ifCond .lt 15, 3) := by decide +kernel
theorem d_X5_run_12 : decode prog_7_method_2_code 12 = .ok (.iload 5, 2) := by decide +kernel
theorem d_X5_run_14 : decode prog_7_method_2_code 14 = .ok (.iconst 1, 1) := by decide +kernel
theorem d_X5_run_15 : decode prog_7_method_2_code 15 = .ok (.iadd, 1) := by decide +kernel
theorem d_X5_run_16 : decode prog_7_method_2_code 16 = .ok (.aload_n 1, 1) := by decide +kernel
theorem d_X5_run_17 : decode prog_7_method_2_code 17 = .ok (.getfield 15, 3) := by decide +kernel
theorem d_X5_run_20 : decode prog_7_method_2_code 20 = .ok (.arraylength, 1) := by decide +kernel
theorem d_X5_run_21 : decode prog_7_method_2_code 21 = .ok (.if_icmp .lt 6, 3) := by decide +kernel
theorem d_X5_run_24 : decode prog_7_method_2_code 24 = .ok (.ldc 20, 2) := by decide +kernel
theorem d_X5_run_26 : decode prog_7_method_2_code 26 = .ok (.ireturn, 1) := by decide +kernel
theorem d_X5_run_27 : decode prog_7_method_2_code 27 = .ok (.aload_n 1, 1) := by decide +kernel
theorem d_X5_run_28 : decode prog_7_method_2_code 28 = .ok (.getfield 15, 3) := by decide +kernel
theorem d_X5_run_31 : decode prog_7_method_2_code 31 = .ok (.iload 5, 2) := by decide +kernel
theorem d_X5_run_33 : decode prog_7_method_2_code 33 = .ok (.iaload, 1) := by decide +kernel
theorem d_X5_run_34 : decode prog_7_method_2_code 34 = .ok (.istore 6, 2) := by decide +kernel
theorem d_X5_run_36 : decode prog_7_method_2_code 36 = .ok (.aload_n 1, 1) := by decide +kernel
theorem d_X5_run_37 : decode prog_7_method_2_code 37 = .ok (.getfield 21, 3) := by decide +kernel
theorem d_X5_run_40 : decode prog_7_method_2_code 40 = .ok (.aload_n 1, 1) := by decide +kernel
theorem d_X5_run_41 : decode prog_7_method_2_code 41 = .ok (.getfield 15, 3) := by decide +kernel
theorem d_X5_run_44 : decode prog_7_method_2_code 44 = .ok (.iload 5, 2) := by decide +kernel
theorem d_X5_run_46 : decode prog_7_method_2_code 46 = .ok (.iconst 1, 1) := by decide +kernel
theorem d_X5_run_47 : decode prog_7_method_2_code 47 = .ok (.iadd, 1) := by decide +kernel
theorem d_X5_run_48 : decode prog_7_method_2_code 48 = .ok (.iaload, 1) := by decide +kernel
theorem d_X5_run_49 : decode prog_7_method_2_code 49 = .ok (.invokestatic 25, 3) := by decide +kernel
theorem d_X5_run_52 : decode prog_7_method_2_code 52 = .ok (.istore 7, 2) := by decide +kernel
theorem d_X5_run_54 : decode prog_7_method_2_code 54 = .ok (.iload 6, 2) := by decide +kernel
theorem d_X5_run_56 : decode prog_7_method_2_code 56 = .ok (.ifCond .lt 10, 3) := by decide +kernel
theorem d_X5_run_59 : decode prog_7_method_2_code 59 = .ok (.iload 6, 2) := by decide +kernel
theorem d_X5_run_61 : decode prog_7_method_2_code 61 = .ok (.iload 7, 2) := by decide +kernel
theorem d_X5_run_63 : decode prog_7_method_2_code 63 = .ok (.if_icmp .lt 5, 3) := by decide +kernel
theorem d_X5_run_66 : decode prog_7_method_2_code 66 = .ok (.iconst 1, 1) := by decide +kernel
theorem d_X5_run_67 : decode prog_7_method_2_code 67 = .ok (.ireturn, 1) := by decide +kernel
theorem d_X5_run_68 : decode prog_7_method_2_code 68 = .ok (.iconst 0, 1) := by decide +kernel
theorem d_X5_run_69 : decode prog_7_method_2_code 69 = .ok (.istore 8, 2) := by decide +kernel
theorem d_X5_run_71 : decode prog_7_method_2_code 71 = .ok (.iload 6, 2) := by decide +kernel
theorem d_X5_run_73 : decode prog_7_method_2_code 73 = .ok (.istore 9, 2) := by decide +kernel
theorem d_X5_run_75 : decode prog_7_method_2_code 75 = .ok (.iload 9, 2) := by decide +kernel
theorem d_X5_run_77 : decode prog_7_method_2_code 77 = .ok (.iload 7, 2) := by decide +kernel
theorem d_X5_run_79 : decode prog_7_method_2_code 79 = .ok (.if_icmp .ge 245, 3) := by decide +kernel
theorem d_X5_run_82 : decode prog_7_method_2_code 82 = .ok (.iload 6, 2) := by decide +kernel
theorem d_X5_run_84 : decode prog_7_method_2_code 84 = .ok (.iload 7, 2) := by decide +kernel
theorem d_X5_run_86 : decode prog_7_method_2_code 86 = .ok (.if_icmp .ge 238, 3) := by decide +kernel
theorem d_X5_run_89 : decode prog_7_method_2_code 89 = .ok (.aload_n 1, 1) := by decide +kernel
theorem d_X5_run_90 : decode prog_7_method_2_code 90 = .ok (.getfield 31, 3) := by decide +kernel
theorem d_X5_run_93 : decode prog_7_method_2_code 93 = .ok (.iload 6, 2) := by decide +kernel
theorem d_X5_run_95 : decode prog_7_method_2_code 95 = .ok (.iaload, 1) := by decide +kernel
theorem d_X5_run_96 : decode prog_7_method_2_code 96 = .ok (.istore 10, 2) := by decide +kernel
theorem d_X5_run_98 : decode prog_7_method_2_code 98 = .ok (.aload_n 1, 1) := by decide +kernel
theorem d_X5_run_99 : decode prog_7_method_2_code 99 = .ok (.getfield 34, 3) := by decide +kernel
theorem d_X5_run_102 : decode prog_7_method_2_code 102 = .ok (.iload 6, 2) := by decide +kernel
theorem d_X5_run_104 : decode prog_7_method_2_code 104 = .ok (.iaload, 1) := by decide +kernel
theorem d_X5_run_105 : decode prog_7_method_2_code 105 = .ok (.istore 11, 2) := by decide +kernel
theorem d_X5_run_107 : decode prog_7_method_2_code 107 = .ok (.iinc 6 1, 3) := by decide +kernel
theorem d_X5_run_110 : decode prog_7_method_2_code 110 = .ok (.iload 10, 2) := by decide +kernel
theorem d_X5_run_112 : decode prog_7_method_2_code 112 = .ok (.iconst 1, 1) := by decide +kernel
theorem d_X5_run_113 : decode prog_7_method_2_code 113 = .ok (.if_icmp .gt 63, 3) := by decide +kernel
theorem d_X5_run_116 : decode prog_7_method_2_code 116 = .ok (.iload 8, 2) := by decide +kernel
theorem d_X5_run_118 : decode prog_7_method_2_code 118 = .ok (.aload_n 0, 1) := by decide +kernel
theorem d_X5_run_119 : decode prog_7_method_2_code 119 = .ok (.getfield 9, 3) := by decide +kernel
theorem d_X5_run_122 : decode prog_7_method_2_code 122 = .ok (.arraylength, 1) := by decide +kernel
theorem d_X5_run_123 : decode prog_7_method_2_code 123 = .ok (.if_icmp .ge 22, 3) := by decide +kernel
theorem d_X5_run_126 : decode prog_7_method_2_code 126 = .ok (.iload 10, 2) := by decide +kernel
theorem d_X5_run_128 : decode prog_7_method_2_code 128 = .ok (.iconst 1, 1) := by decide +kernel
theorem d_X5_run_129 : decode prog_7_method_2_code 129 = .ok (.if_icmp .ne 19, 3) := by decide +kernel
theorem d_X5_run_132 : decode prog_7_method_2_code 132 = .ok (.iload 11, 2) := by decide +kernel
theorem d_X5_run_134 : decode prog_7_method_2_code 134 = .ok (.ifCond .lt 11, 3) := by decide +kernel
theorem d_X5_run_137 : decode prog_7_method_2_code 137 = .ok (.iload 11, 2) := by decide +kernel
theorem d_X5_run_139 : decode prog_7_method_2_code 139 = .ok (.aload 4, 2) := by decide +kernel
theorem d_X5_run_141 : decode prog_7_method_2_code 141 = .ok (.arraylength, 1) := by decide +kernel
theorem d_X5_run_142 : decode prog_7_method_2_code 142 = .ok (.if_icmp .lt 6, 3) := by decide +kernel
theorem d_X5_run_145 : decode prog_7_method_2_code 145 = .ok (.ldc 20, 2) := by decide +kernel
theorem d_X5_run_147 : decode prog_7_method_2_code 147 = .ok (.ireturn, 1) := by decide +kernel
theorem d_X5_run_148 : decode prog_7_method_2_code 148 = .ok (.aload_n 0, 1) := by decide +kernel
theorem d_X5_run_149 : decode prog_7_method_2_code 149 = .ok (.getfield 9, 3) := by decide +kernel
theorem d_X5_run_152 : decode prog_7_method_2_code 152 = .ok (.iload 8, 2) := by decide +kernel
theorem d_X5_run_154 : decode prog_7_method_2_code 154 = .ok (.iload 10, 2) := by decide +kernel
theorem d_X5_run_156 : decode prog_7_method_2_code 156 = .ok (.ifCond .ne 8, 3) := by decide +kernel
theorem d_X5_run_159 : decode prog_7_method_2_code 159 = .ok (.iload 11, 2) := by decide +kernel
theorem d_X5_run_161 : decode prog_7_method_2_code 161 = .ok (.goto 8, 3) := by decide +kernel
theorem d_X5_run_164 : decode prog_7_method_2_code 164 = .ok (.aload 4, 2) := by decide +kernel
theorem d_X5_run_166 : decode prog_7_method_2_code 166 = .ok (.iload 11, 2) := by decide +kernel
theorem d_X5_run_168 : decode prog_7_method_2_code 168 = .ok (.iaload, 1) := by decide +kernel
theorem d_X5_run_169 : decode prog_7_method_2_code 169 = .ok (.iastore, 1) := by decide +kernel
theorem d_X5_run_170 : decode prog_7_method_2_code 170 = .ok (.iinc 8 1, 3) := by decide +kernel
theorem d_X5_run_173 : decode prog_7_method_2_code 173 = .ok (.goto 145, 3) := by decide +kernel
theorem d_X5_run_176 : decode prog_7_method_2_code 176 = .ok (.iload 10, 2) := by decide +kernel
theorem d_X5_run_178 : decode prog_7_method_2_code 178 = .ok (.iconst 4, 1) := by decide +kernel
theorem d_X5_run_179 : decode prog_7_method_2_code 179 = .ok (.if_icmp .gt 79, 3) := by decide +kernel
theorem d_X5_run_182 : decode prog_7_method_2_code 182 = .ok (.iload 8, 2) := by decide +kernel
theorem d_X5_run_184 : decode prog_7_method_2_code 184 = .ok (.iconst 1, 1) := by decide +kernel
theorem d_X5_run_185 : decode prog_7_method_2_code 185 = .ok (.if_icmp .ge 6, 3) := by decide +kernel
theorem d_X5_run_188 : decode prog_7_method_2_code 188 = .ok (.ldc 20, 2) := by decide +kernel
theorem d_X5_run_190 : decode prog_7_method_2_code 190 = .ok (.ireturn, 1) := by decide +kernel
theorem d_X5_run_191 : decode prog_7_method_2_code 191 = .ok (.aload_n 0, 1) := by decide +kernel
theorem d_X5_run_192 : decode prog_7_method_2_code 192 = .ok (.getfield 9, 3) := by decide +kernel
theorem d_X5_run_195 : decode prog_7_method_2_code 195 = .ok (.iload 8, 2) := by decide +kernel
theorem d_X5_run_197 : decode prog_7_method_2_code 197 = .ok (.iconst 1, 1) := by decide +kernel
theorem d_X5_run_198 : decode prog_7_method_2_code 198 = .ok (.isub, 1) := by decide +kernel
theorem d_X5_run_199 : decode prog_7_method_2_code 199 = .ok (.iaload, 1) := by decide +kernel
theorem d_X5_run_200 : decode prog_7_method_2_code 200 = .ok (.istore 12, 2) := by decide +kernel
theorem d_X5_run_202 : decode prog_7_method_2_code 202 = .ok (.iload 10, 2) := by decide +kernel
theorem d_X5_run_204 : decode prog_7_method_2_code 204 = .ok (.iconst 2, 1) := by decide +kernel
theorem d_X5_run_205 : decode prog_7_method_2_code 205 = .ok (.if_icmp .ne 19, 3) := by decide +kernel
theorem d_X5_run_208 : decode prog_7_method_2_code 208 = .ok (.aload_n 0, 1) := by decide +kernel
theorem d_X5_run_209 : decode prog_7_method_2_code 209 = .ok (.getfield 9, 3) := by decide +kernel
theorem d_X5_run_212 : decode prog_7_method_2_code 212 = .ok (.iload 8, 2) := by decide +kernel
theorem d_X5_run_214 : decode prog_7_method_2_code 214 = .ok (.iconst 1, 1) := by decide +kernel
theorem d_X5_run_215 : decode prog_7_method_2_code 215 = .ok (.isub, 1) := by decide +kernel
theorem d_X5_run_216 : decode prog_7_method_2_code 216 = .ok (.iconst 1, 1) := by decide +kernel
theorem d_X5_run_217 : decode prog_7_method_2_code 217 = .ok (.iload 12, 2) := by decide +kernel
theorem d_X5_run_219 : decode prog_7_method_2_code 219 = .ok (.isub, 1) := by decide +kernel
theorem d_X5_run_220 : decode prog_7_method_2_code 220 = .ok (.iastore, 1) := by decide +kernel
theorem d_X5_run_221 : decode prog_7_method_2_code 221 = .ok (.goto 34, 3) := by decide +kernel
theorem d_X5_run_224 : decode prog_7_method_2_code 224 = .ok (.iload 12, 2) := by decide +kernel
theorem d_X5_run_226 : decode prog_7_method_2_code 226 = .ok (.iload 10, 2) := by decide +kernel
theorem d_X5_run_228 : decode prog_7_method_2_code 228 = .ok (.iconst 3, 1) := by decide +kernel
theorem d_X5_run_229 : decode prog_7_method_2_code 229 = .ok (.if_icmp .ne 7, 3) := by decide +kernel
theorem d_X5_run_232 : decode prog_7_method_2_code 232 = .ok (.iconst 1, 1) := by decide +kernel
theorem d_X5_run_233 : decode prog_7_method_2_code 233 = .ok (.goto 4, 3) := by decide +kernel
theorem d_X5_run_236 : decode prog_7_method_2_code 236 = .ok (.iconst 0, 1) := by decide +kernel
theorem d_X5_run_237 : decode prog_7_method_2_code 237 = .ok (.if_icmp .ne 15, 3) := by decide +kernel
theorem d_X5_run_240 : decode prog_7_method_2_code 240 = .ok (.iload 6, 2) := by decide +kernel
theorem d_X5_run_242 : decode prog_7_method_2_code 242 = .ok (.iload 11, 2) := by decide +kernel
theorem d_X5_run_244 : decode prog_7_method_2_code 244 = .ok (.invokestatic 37, 3) := by decide +kernel
theorem d_X5_run_247 : decode prog_7_method_2_code 247 = .ok (.istore 6, 2) := by decide +kernel
theorem d_X5_run_249 : decode prog_7_method_2_code 249 = .ok (.goto 6, 3) := by decide +kernel
theorem d_X5_run_252 : decode prog_7_method_2_code 252 = .ok (.iinc 8 (-1), 3) := by decide +kernel
theorem d_X5_run_255 : decode prog_7_method_2_code 255 = .ok (.goto 63, 3) := by decide +kernel
theorem d_X5_run_258 : decode prog_7_method_2_code 258 = .ok (.iload 8, 2) := by decide +kernel
theorem d_X5_run_260 : decode prog_7_method_2_code 260 = .ok (.iconst 2, 1) := by decide +kernel
theorem d_X5_run_261 : decode prog_7_method_2_code 261 = .ok (.if_icmp .ge 8, 3) := by decide +kernel
theorem d_X5_run_264 : decode prog_7_method_2_code 264 = .ok (.ldc 20, 2) := by decide +kernel
theorem d_X5_run_266 : decode prog_7_method_2_code 266 = .ok (.goto 26, 3) := by decide +kernel
theorem d_X5_run_269 : decode prog_7_method_2_code 269 = .ok (.iload 10, 2) := by decide +kernel
theorem d_X5_run_271 : decode prog_7_method_2_code 271 = .ok (.aload_n 0, 1) := by decide +kernel
theorem d_X5_run_272 : decode prog_7_method_2_code 272 = .ok (.getfield 9, 3) := by decide +kernel
theorem d_X5_run_275 : decode prog_7_method_2_code 275 = .ok (.iload 8, 2) := by decide +kernel
theorem d_X5_run_277 : decode prog_7_method_2_code 277 = .ok (.iconst 2, 1) := by decide +kernel
theorem d_X5_run_278 : decode prog_7_method_2_code 278 = .ok (.isub, 1) := by decide +kernel
theorem d_X5_run_279 : decode prog_7_method_2_code 279 = .ok (.iaload, 1) := by decide +kernel
theorem d_X5_run_280 : decode prog_7_method_2_code 280 = .ok (.aload_n 0, 1) := by decide +kernel
theorem d_X5_run_281 : decode prog_7_method_2_code 281 = .ok (.getfield 9, 3) := by decide +kernel
theorem d_X5_run_284 : decode prog_7_method_2_code 284 = .ok (.iload 8, 2) := by decide +kernel
theorem d_X5_run_286 : decode prog_7_method_2_code 286 = .ok (.iconst 1, 1) := by decide +kernel
theorem d_X5_run_287 : decode prog_7_method_2_code 287 = .ok (.isub, 1) := by decide +kernel
theorem d_X5_run_288 : decode prog_7_method_2_code 288 = .ok (.iaload, 1) := by decide +kernel
theorem d_X5_run_289 : decode prog_7_method_2_code 289 = .ok (.invokestatic 40, 3) := by decide +kernel
theorem d_X5_run_292 : decode prog_7_method_2_code 292 = .ok (.istore 12, 2) := by decide +kernel
theorem d_X5_run_294 : decode prog_7_method_2_code 294 = .ok (.iload 12, 2) := by decide +kernel
theorem d_X5_run_296 : decode prog_7_method_2_code 296 = .ok (.ldc 20, 2) := by decide +kernel
theorem d_X5_run_298 : decode prog_7_method_2_code 298 = .ok (.if_icmp .ne 6, 3) := by decide +kernel
theorem d_X5_run_301 : decode prog_7_method_2_code 301 = .ok (.ldc 20, 2) := by decide +kernel
theorem d_X5_run_303 : decode prog_7_method_2_code 303 = .ok (.ireturn, 1) := by decide +kernel
theorem d_X5_run_304 : decode prog_7_method_2_code 304 = .ok (.iinc 8 (-1), 3) := by decide +kernel
theorem d_X5_run_307 : decode prog_7_method_2_code 307 = .ok (.aload_n 0, 1) := by decide +kernel
theorem d_X5_run_308 : decode prog_7_method_2_code 308 = .ok (.getfield 9, 3) := by decide +kernel
theorem d_X5_run_311 : decode prog_7_method_2_code 311 = .ok (.iload 8, 2) := by decide +kernel
theorem d_X5_run_313 : decode prog_7_method_2_code 313 = .ok (.iconst 1, 1) := by decide +kernel
theorem d_X5_run_314 : decode prog_7_method_2_code 314 = .ok (.isub, 1) := by decide +kernel
theorem d_X5_run_315 : decode prog_7_method_2_code 315 = .ok (.iload 12, 2) := by decide +kernel
theorem d_X5_run_317 : decode prog_7_method_2_code 317 = .ok (.iastore, 1) := by decide +kernel
theorem d_X5_run_318 : decode prog_7_method_2_code 318 = .ok (.iinc 9 1, 3) := by decide +kernel
theorem d_X5_run_321 : decode prog_7_method_2_code 321 = .ok (.goto (-246), 3) := by decide +kernel
theorem d_X5_run_324 : decode prog_7_method_2_code 324 = .ok (.iload 8, 2) := by decide +kernel
theorem d_X5_run_326 : decode prog_7_method_2_code 326 = .ok (.iconst 1, 1) := by decide +kernel
theorem d_X5_run_327 : decode prog_7_method_2_code 327 = .ok (.if_icmp .ge 8, 3) := by decide +kernel
theorem d_X5_run_330 : decode prog_7_method_2_code 330 = .ok (.ldc 20, 2) := by decide +kernel
theorem d_X5_run_332 : decode prog_7_method_2_code 332 = .ok (.goto 9, 3) := by decide +kernel
theorem d_X5_run_335 : decode prog_7_method_2_code 335 = .ok (.aload_n 0, 1) := by decide +kernel
theorem d_X5_run_336 : decode prog_7_method_2_code 336 = .ok (.getfield 9, 3) := by decide +kernel
theorem d_X5_run_339 : decode prog_7_method_2_code 339 = .ok (.iconst 0, 1) := by decide +kernel
theorem d_X5_run_340 : decode prog_7_method_2_code 340 = .ok (.iaload, 1) := by decide +kernel
theorem d_X5_run_341 : decode prog_7_method_2_code 341 = .ok (.ireturn, 1) := by decide +kernel
